/-! WHAT HOLDS BETWEEN TWO CALLS -/
def prgR (z v : Nat) (H : mj_H) (S : mS) (j : Nat) (fs : Option Nat) : Prop := ∃ (A B : Nat) (sts : List St) (nds : List Nd) (fcs : List Int32) (l : List (Nat × Nat)), z + 107 ≤ A ∧ A ≤ B ∧ B ≤ H.2.1 ∧ (v < A ∨ B ≤ v) ∧ chn H l fs ∧ bk (sT H sts nds fcs 5 A B) sts l 0 sts.length ∧ pgR S j sts nds fcs ∧ fold_ l 1 ≤ 2147483648 ∧ (prT sts nds fcs).length ≤ 160 ∧ pgL sts nds
def lOv (Ov : Nat → Int32) : List Value := (List.range 64).map (fun i => .int (Ov i))
def lWv (Wv : Nat → Int64) : List Value := (List.range 64).map (fun i => .long (Wv i))
def sltI (z v : Nat) (H : mj_H) (S : mS) (j : Nat) : Prop := ∃ hp fs oc to Ov Wv, slF z j H hp fs oc to Ov Wv ∧ rsR j oc to (lOv Ov) (lWv Wv) S ∧ ((hp = 0 ∧ S.2.1 4 j = 0) ∨ (hp = 1 ∧ S.2.1 4 j = 1 ∧ prgR z v H S j fs))
/-- all of it: c1 cells and c2 slots at most are in use -/
def invP (z : Nat) (D : List Nat) (c1 c2 : Nat) (H : mj_H) (S : mS) (v : Nat) (bs : List Value) (tx : List Int32) (mo : Nat) (π : Nat → Nat) (Ls LsR : Nat → Ss) : Prop := cx z H ∧ cslots z H ∧ cout z H ∧ wst z H v bs tx ∧ txR tx S ∧ pidle z H (S.1 3) ∧ fz z H ∧ (∀ q ∈ D, z + 107 ≤ q ∧ q < H.2.1) ∧ rnI z D H mo π Ls ∧ S.1 52 = Int32.ofNat mo ∧ rsA S LsR ∧ (∀ j, j < 3 → sltI z v H S j) ∧ H.2.1 + pot H D ≤ c1 + bs.length ∧ H.2.2 + 121 * pot H D ≤ c2 + 2 * bs.length
def invC (z c1 c2 : Nat) (H : mj_H) (S : mS) : Prop := ∃ D v bs tx mo π Ls LsR, invP z D c1 c2 H S v bs tx mo π Ls LsR
/-- slot j's part of the reference is the same -/
def sfS (j : Nat) (S S' : mS) : Prop := S'.2.1 4 j = S.2.1 4 j ∧ S'.2.1 5 j = S.2.1 5 j ∧ (∀ k i, 6 ≤ k → k ≤ 11 → i < 24 → S'.2.1 k (24 * j + i) = S.2.1 k (24 * j + i)) ∧ (∀ i, i < 24 → S'.2.2 12 (24 * j + i) = S.2.2 12 (24 * j + i)) ∧ (∀ k i, 13 ≤ k → k ≤ 20 → i < 160 → S'.2.1 k (160 * j + i) = S.2.1 k (160 * j + i)) ∧ S'.2.1 57 j = S.2.1 57 j ∧ S'.2.1 58 j = S.2.1 58 j ∧ S'.2.2 61 j = S.2.2 61 j ∧ ∀ i, i < 64 → S'.2.1 59 (64 * j + i) = S.2.1 59 (64 * j + i) ∧ S'.2.2 60 (64 * j + i) = S.2.2 60 (64 * j + i)
section INV
variable {z v v' j c1 c2 : Nat} {D : List Nat} {H H' : mj_H} {S S' : mS}
theorem sfS_ag {F A B : List Nat} (a : m_agr F A B S S') (hA : ∀ k ∈ A, k < 4 ∨ 20 < k ∧ k < 57 ∨ 59 < k) (hB : ∀ k ∈ B, k < 12 ∨ 12 < k ∧ k < 60) : sfS j S S' := by
  have eA : ∀ k, (4 ≤ k ∧ k ≤ 20) ∨ (57 ≤ k ∧ k ≤ 59) → S'.2.1 k = S.2.1 k := fun k hk => a.2.1 k (fun w => absurd (hA k w) (by omega))
  have eB : ∀ k, k = 12 ∨ 60 ≤ k → S'.2.2 k = S.2.2 k := fun k hk => a.2.2 k (fun w => absurd (hB k w) (by omega))
  refine ⟨by rw [eA 4 (by omega)], by rw [eA 5 (by omega)], fun k i h1 h2 _ => by rw [eA k (by omega)], fun i _ => by rw [eB 12 (by omega)], fun k i h1 h2 _ => by rw [eA k (by omega)], by rw [eA 57 (by omega)], by rw [eA 58 (by omega)], by rw [eB 61 (by omega)], fun i _ => ⟨by rw [eA 59 (by omega)], by rw [eB 60 (by omega)]⟩⟩
theorem pgR_s {sts : List St} {nds : List Nd} {fcs : List Int32} (h : pgR S j sts nds fcs) (f : sfS j S S') : pgR S' j sts nds fcs := by
  obtain ⟨q1, q2, q3, q4, q5, q6, q7⟩ := h
  obtain ⟨f4, f5, f6, f12, f13, -⟩ := f
  refine ⟨by rw [f5]; exact q1, q2, q3, q4, fun i t hi => ?_, fun i nd hi => ?_, fun i x hi => ?_⟩
  · have hl := (List.getElem?_eq_some_iff.mp hi).1
    have no : ∀ k, 6 ≤ k → k ≤ 11 → S'.2.1 k (24 * j + i) = S.2.1 k (24 * j + i) := fun k a b => f6 k i a b (by omega)
    rw [no 6 (by omega) (by omega), no 7 (by omega) (by omega), no 8 (by omega) (by omega), no 9 (by omega) (by omega), no 10 (by omega) (by omega), no 11 (by omega) (by omega), f12 i (by omega)]
    exact q5 i t hi
  · have hl := (List.getElem?_eq_some_iff.mp hi).1
    have no : ∀ k, 13 ≤ k → k ≤ 20 → S'.2.1 k (160 * j + i) = S.2.1 k (160 * j + i) := fun k a b => f13 k i a b (by omega)
    have nd' : ndAt S' (160 * j + i) = ndAt S (160 * j + i) := by
      unfold ndAt
      rw [no 13 (by omega) (by omega), no 14 (by omega) (by omega), no 15 (by omega) (by omega), no 16 (by omega) (by omega), no 17 (by omega) (by omega), no 18 (by omega) (by omega), no 19 (by omega) (by omega)]
    rw [nd']
    exact q6 i nd hi
  · have hl := (List.getElem?_eq_some_iff.mp hi).1
    rw [f13 20 i (by omega) (by omega) (by omega)]
    exact q7 i x hi
theorem wsum_fr : ∀ n, n ≤ 64 → (∀ i, i < 64 → S'.2.2 60 (64 * j + i) = S.2.2 60 (64 * j + i)) → wsum S' j n = wsum S j n := by
  intro n
  induction n with
  | zero => intro _ _; rfl
  | succ n ih =>
    intro hn h
    rw [wsum, wsum, ih (by omega) h, h n (by omega)]
theorem rsR_s {oc : Nat} {to : Int64} {os ws : List Value} (h : rsR j oc to os ws S) (ho : oc ≤ 64) (f : sfS j S S') : rsR j oc to os ws S' := by
  obtain ⟨-, -, -, -, -, f57, f58, f61, f59⟩ := f
  rcases h with ⟨h1, h2⟩ | ⟨⟨r1, r2, r3, r4, r5⟩, n1, n2, n3, n4⟩
  · exact Or.inl ⟨h1, by rw [f57]; exact h2⟩
  · refine Or.inr ⟨⟨r1, by rw [f57]; exact r2, by rw [f58]; exact r3, by rw [f61]; exact r4, fun i hi => ?_⟩, fun i hi => ?_, ?_, n3, fun i hi => ?_⟩
    · rw [(f59 i (by omega)).1, (f59 i (by omega)).2]
      exact r5 i hi
    · rw [(f59 i (by omega)).2]
      exact n1 i hi
    · rw [wsum_fr oc ho (fun i hi => (f59 i hi).2)]
      exact n2
    · rw [(f59 i (by omega)).1]
      exact n4 i hi
/-- a slot stays, where its cells stay and trees but for the ways that dice keep -/
theorem sltI_st (h : sltI z v H S j) (e : ∀ q, z + 54 + 3 * j ≤ q → q ≤ z + 56 + 3 * j → H'.1 q = H.1 q) (t : ∀ q, z + 107 ≤ q → q < H.2.1 → q ≠ v → H'.1 q = H.1 q ∨ dcch (H.1 q) (H'.1 q)) (n : H.2.1 ≤ H'.2.1) (hv : v' = v ∨ H.2.1 ≤ v') (f : sfS j S S') : sltI z v' H' S' j := by
  obtain ⟨hp, fs, oc, to, Ov, Wv, h1, h2, h3⟩ := h
  refine ⟨hp, fs, oc, to, Ov, Wv, slF_fr h1 e, rsR_s h2 h1.2.2.2 f, ?_⟩
  rcases h3 with ⟨a1, a2⟩ | ⟨a1, a2, A, B, sts, nds, fcs, l, p1, p2, p3, p4, p5, p6, p7, p8, p9, p10⟩
  · exact Or.inl ⟨a1, by rw [f.1]; exact a2⟩
  · have dm : dsm A B H H' := fun q q1 q2 => t q (by omega) (by omega) (by omega)
    obtain ⟨c1, c2⟩ := bk_dc dm p5 p6
    exact Or.inr ⟨a1, by rw [f.1]; exact a2, A, B, sts, nds, fcs, l, p1, p2, by omega, by omega, c1, c2, pgR_s p7 f, p8, p9, p10⟩
/-- a cell that is no dice -/
def nd8 (e : Option mj_E) : Prop := ∀ l, e = some (.inr (8, l)) → l = []
theorem nd8_nul {e : Option mj_E} (h : nd8 e) : nulB e = false := by
  cases hb : nulB e with
  | false => rfl
  | true =>
    match e, h, hb with
    | some (.inr (8, l)), h, hb =>
      rw [h l rfl] at hb
      exact absurd hb (by decide)
theorem nd8_byte {ty : FieldType} {l : List Value} : nd8 (some (.inl (ty, l))) := fun l h => by cases h
theorem nd8_exc {ci : Nat} : nd8 (some (.inr (ci, []))) := fun l h => by cases h; rfl
/-- what lies still: all but the text, the row of answers, the reference -/
def stl (z v : Nat) (H H' : mj_H) : Prop := (∀ q, z + 4 ≤ q → q < z + 63 → H'.1 q = H.1 q) ∧ (∀ q, z + 107 ≤ q → q < H.2.1 → q ≠ v → H'.1 q = H.1 q) ∧ (z + 107 ≤ v → nd8 (H'.1 v)) ∧ (∀ q, H.2.1 ≤ q → q < H'.2.1 → nd8 (H'.1 q)) ∧ H.2.1 ≤ H'.2.1
theorem rnI_stl {mo : Nat} {π : Nat → Nat} {Ls : Nat → Ss} {bs : List Value} (h : rnI z D H mo π Ls) (hv : v < H.2.1) (hb : H.1 v = some (.inl (.byte, bs))) (f : stl z v H H') : rnI z D H' mo π Ls := by
  obtain ⟨⟨l1, l2, l3, l4⟩, ⟨sp, h2⟩, h3, h4, h5⟩ := h
  obtain ⟨f1, f2, f3, f4, f5⟩ := f
  have old : ∀ a, z + 107 ≤ a → a < H'.2.1 → ¬ nd8 (H'.1 a) → a < H.2.1 ∧ H'.1 a = H.1 a := by
    intro a a1 a2 a3
    have b1 : a < H.2.1 := by
      rcases Nat.lt_or_ge a H.2.1 with c | c
      · exact c
      · exact absurd (f4 a c a2) a3
    have b2 : a ≠ v := fun e => a3 (by rw [e] at a1 ⊢; exact f3 a1)
    exact ⟨b1, f2 a a1 b1 b2⟩
  refine ⟨⟨?_, ?_, ?_, by omega⟩, ⟨sp, bst_fr h2 (fun q q1 q2 => f1 q (by omega) (by omega))⟩, stsH_fr h3 (fun q hq => f1 q (by omega) (by omega)), (f1 _ (by omega) (by omega)).trans h4, (f1 _ (by omega) (by omega)).trans h5⟩
  · intro a n m how keep pick k w fv a1 a2 a3 a4
    obtain ⟨b1, b2⟩ := old a a1 a2 (fun n8 => by
      have := n8 _ a4
      cases this)
    have a4' : dcO H a n m pick k w fv := by
      unfold dcO
      rw [← b2]
      exact a4
    rcases l1 a n m how keep pick k w fv a1 b1 a3 a4' with c | ⟨r, c1, c2, c3, c4⟩
    · exact Or.inl c
    · refine Or.inr ⟨r, c1, c2, by omega, LR_fr c4 (f2 r c2 c3 (fun e => ?_))⟩
      rw [e] at c4
      have : H.1 v = some (.inl (.long, _)) := c4
      rw [hb] at this
      cases this
  · intro a a1 a2 a3
    obtain ⟨b1, b2⟩ := old a a1 a2 (fun n8 => by rw [nd8_nul n8] at a3; cases a3)
    rw [b2] at a3
    exact l2 a a1 b1 a3
  · exact ⟨(f1 _ (by omega) (by omega)).trans l3.1, fun p hp => (l3.2 p hp).imp (fun X hX => LR_fr hX (f1 _ (by omega) (by omega)))⟩
theorem pot_stl {bs : List Value} (hD : ∀ q ∈ D, z + 107 ≤ q ∧ q < H.2.1) (hb : H.1 v = some (.inl (.byte, bs))) (f : stl z v H H') : pot H' D = pot H D := by
  refine pot_fr (z := z) (fun q hq => ?_)
  obtain ⟨d1, d2⟩ := hD q hq
  by_cases e : q = v
  · rw [e] at d1 ⊢
    rw [nd8_nul (f.2.2.1 d1), hb]
    rfl
  · rw [f.2.1 q d1 d2 e]
theorem pidle_fr {wp : Int32} (h : pidle z H wp) (e : ∀ q, z + 5 ≤ q → q ≤ z + 7 → H'.1 q = H.1 q) : pidle z H' wp := by
  unfold pidle
  rw [e (z + 5) (by omega) (by omega), e (z + 6) (by omega) (by omega), e (z + 7) (by omega) (by omega)]
  exact h
theorem inv_gen {bs bs' : List Value} {tx tx' : List Int32} {mo : Nat} {π : Nat → Nat} {Ls LsR : Nat → Ss} {d1 d2 : Nat} (h : invP z D c1 c2 H S v bs tx mo π Ls LsR) (f : stl z v H H') (fx : H'.1 (z + 1) = H.1 (z + 1)) (ho : cout z H') (hw : wst z H' v' bs' tx') (hr : txR tx' S') (hv : v' = v ∨ H.2.1 ≤ v') (a : m_agr [0, 2, 40, 56] [1, 39, 53, 55] [] S S') (r1 : H'.2.1 + bs.length ≤ H.2.1 + bs'.length + d1) (r2 : H'.2.2 + 2 * bs.length ≤ H.2.2 + 2 * bs'.length + d2) : invC z (c1 + d1) (c2 + d2) H' S' := by
  obtain ⟨i1, i2, i3, i4, i5, i6, i7, i8, i9, i10, i11, i12, i13, i14⟩ := h
  have hb := i4.1.2.1
  have hvl := i4.2.1.2.1
  have ep := pot_stl i8 hb f
  refine ⟨D, v', bs', tx', mo, π, Ls, LsR, fx.trans i1, (f.1 _ (by omega) (by omega)).trans i2, ho, hw, hr, ?_, fz_fr i7 (f.1 _ (by omega) (by omega)), fun q hq => ⟨(i8 q hq).1, Nat.lt_of_lt_of_le (i8 q hq).2 f.2.2.2.2⟩, rnI_stl i9 hvl hb f, (a.1 52 (by decide)).trans i10, rsA_ag i11 a (by decide), fun j hj => ?_, ?_, ?_⟩
  · rw [a.1 3 (by decide)]
    exact pidle_fr i6 (fun q q1 q2 => f.1 q (by omega) (by omega))
  · exact sltI_st (i12 j hj) (fun q q1 q2 => f.1 q (by omega) (by omega)) (fun q q1 q2 q3 => Or.inl (f.2.1 q q1 q2 q3)) f.2.2.2.2 hv (sfS_ag a (by decide) (by decide))
  · rw [ep]
    omega
  · rw [ep]
    omega
/-- the class has left the reference alone -/
def clF (z : Nat) (H H' : mj_H) : Prop := ∀ q, (q ≤ z ∨ z + 63 ≤ q ∧ q < z + 106) → H'.1 q = H.1 q
theorem clF_refl : clF z H H := fun _ _ => rfl
/-- the reference has left the class alone -/
def rF (z : Nat) (H H' : mj_H) : Prop := (∀ q, ¬ (z + 63 ≤ q ∧ q < z + 106) → H'.1 q = H.1 q) ∧ H'.2 = H.2
theorem wst_fr {bs : List Value} {tx : List Int32} (h : wst z H v bs tx) (e : ∀ q, q ≤ z + 2 ∨ q = v → H'.1 q = H.1 q) (n : H.2.1 ≤ H'.2.1) : wst z H' v bs tx := by
  obtain ⟨⟨⟨m, h1⟩, h2, h3⟩, ⟨c1, c2, c3⟩, h5, h6, h7⟩ := h
  exact ⟨⟨⟨m, (e _ (by omega)).trans h1⟩, (e _ (Or.inr rfl)).trans h2, h3⟩, ⟨c1, by omega, by omega⟩, h5, h6, fun q hq => (e q (by omega)).trans (h7 q hq)⟩
theorem cv_rng {bs : List Value} {tx : List Int32} (h : wst z H v bs tx) : v = z + 3 ∨ z + 107 ≤ v := h.2.1.1
theorem byte_nd8 {bs : List Value} {tx : List Int32} (h : wst z H v bs tx) (e : H'.1 v = H.1 v) : nd8 (H'.1 v) := by
  rw [e, h.1.2.1]
  exact nd8_byte
theorem inv_ref (h : invC z c1 c2 H S) (f : rF z H H') : invC z c1 c2 H' S := by
  obtain ⟨D, v, bs, tx, mo, π, Ls, LsR, h⟩ := h
  obtain ⟨i1, i2, i3, i4, i5, -⟩ := id h
  have hv := cv_rng i4
  have ev : H'.1 v = H.1 v := f.1 v (by omega)
  have e2 : H'.2.1 = H.2.1 := by rw [f.2]
  have e3 : H'.2.2 = H.2.2 := by rw [f.2]
  exact inv_gen (d1 := 0) (d2 := 0) h ⟨fun q q1 q2 => f.1 q (by omega), fun q q1 _ _ => f.1 q (by omega), fun _ => byte_nd8 i4 ev, fun q q1 q2 => absurd q2 (by omega), by omega⟩ (f.1 _ (by omega)) (by
    obtain ⟨u, i3⟩ := i3
    exact ⟨u, (f.1 _ (by omega)).trans i3⟩) (wst_fr i4 (fun q hq => f.1 q (by omega)) (by omega)) i5 (Or.inl rfl) m_agr_refl (by omega) (by omega)
/-- nothing has changed but what the reference says of the call -/
theorem inv_same (h : invC z c1 c2 H S) (a : m_agr [0] [] [] S S') : invC z c1 c2 H S' := by
  obtain ⟨D, v, bs, tx, mo, π, Ls, LsR, h⟩ := h
  obtain ⟨i1, i2, i3, i4, i5, -⟩ := id h
  have hr : txR tx S' := by
    obtain ⟨t1, t2, t3, t4⟩ := i5
    exact ⟨by rw [a.1 2 (by decide)]; exact t1, t2, fun j c hj => by rw [a.2.1 1 (by decide)]; exact t3 j c hj, t4⟩
  exact inv_gen (d1 := 0) (d2 := 0) h ⟨fun _ _ _ => rfl, fun _ _ _ _ => rfl, fun _ => byte_nd8 i4 rfl, fun q q1 q2 => absurd q2 (by omega), Nat.le_refl _⟩ rfl i3 i4 hr (Or.inl rfl) (m_agr_mono a (by decide) (by decide) (by decide)) (by omega) (by omega)
theorem inv_up {d1 d2 : Nat} (h : invC z c1 c2 H S) (h1 : c1 ≤ d1) (h2 : c2 ≤ d2) : invC z d1 d2 H S := by
  obtain ⟨D, v, bs, tx, mo, π, Ls, LsR, i1, i2, i3, i4, i5, i6, i7, i8, i9, i10, i11, i12, i13, i14⟩ := h
  exact ⟨D, v, bs, tx, mo, π, Ls, LsR, i1, i2, i3, i4, i5, i6, i7, i8, i9, i10, i11, i12, by omega, by omega⟩
/-- an answer laid into its row -/
theorem inv_out {b : Int64} (h : invC z c1 c2 H S) : invC z c1 c2 (mj_put H (z + 106) (.inl (.long, [.long b]))) S ∧ clF z H (mj_put H (z + 106) (.inl (.long, [.long b]))) := by
  obtain ⟨D, v, bs, tx, mo, π, Ls, LsR, h⟩ := h
  obtain ⟨i1, i2, i3, i4, i5, -⟩ := id h
  obtain ⟨H', hH'⟩ : ∃ q, mj_put H (z + 106) (.inl (.long, [.long b])) = q := ⟨_, rfl⟩
  have o : only (z + 106) H H' := by rw [← hH']; exact only_put
  have e2 : H'.2.1 = H.2.1 := by rw [o.2]
  have e3 : H'.2.2 = H.2.2 := by rw [o.2]
  have hv := cv_rng i4
  rw [hH']
  refine ⟨inv_gen (d1 := 0) (d2 := 0) h ⟨fun q q1 q2 => o.1 q (by omega), fun q q1 _ _ => o.1 q (by omega), fun _ => byte_nd8 i4 (o.1 v (by omega)), fun q q1 q2 => absurd q2 (by omega), by omega⟩ (o.1 _ (by omega)) ⟨b, by rw [← hH']; exact mj_put_eq⟩ (wst_fr i4 (fun q hq => o.1 q (by omega)) (by omega)) i5 (Or.inl rfl) m_agr_refl (by omega) (by omega), fun q hq => o.1 q (by omega)⟩
/-- something was thrown -/
theorem inv_thr {ci : Nat} (h : invC z c1 c2 H S) (a : m_agr [0] [] [] S S') : invC z (c1 + 1) (c2 + 6) (mj_new H 6 (.inr (ci, []))) S' ∧ clF z H (mj_new H 6 (.inr (ci, []))) := by
  have h := inv_same h a
  obtain ⟨D, v, bs, tx, mo, π, Ls, LsR, h⟩ := h
  obtain ⟨i1, i2, i3, i4, i5, -⟩ := id h
  obtain ⟨c1', c2', c3'⟩ := i4.2.1
  obtain ⟨H', hH'⟩ : ∃ q, mj_new H 6 (.inr (ci, [])) = q := ⟨_, rfl⟩
  have o : ∀ q, q ≠ H.2.1 → H'.1 q = H.1 q := fun q hq => by rw [← hH']; exact mj_new_ne hq
  have on : H'.1 H.2.1 = some (.inr (ci, [])) := by rw [← hH']; exact mj_new_eq
  have e2 : H'.2.1 = H.2.1 + 1 := by rw [← hH']; rfl
  have e3 : H'.2.2 = H.2.2 + 6 := by rw [← hH']; rfl
  rw [hH']
  refine ⟨inv_gen (d1 := 1) (d2 := 6) h ⟨fun q q1 q2 => o q (by omega), fun q q1 q2 _ => o q (by omega), fun _ => byte_nd8 i4 (o v (by omega)), fun q q1 q2 => ?_, by omega⟩ (o _ (by omega)) (by
    obtain ⟨u, i3⟩ := i3
    exact ⟨u, (o _ (by omega)).trans i3⟩) (wst_fr i4 (fun q hq => o q (by omega)) (by omega)) i5 (Or.inl rfl) m_agr_refl (by omega) (by omega), fun q hq => o q (by omega)⟩
  have : q = H.2.1 := by omega
  rw [this, on]
  exact nd8_exc
/-- the text has changed -/
theorem inv_txt {bs bs' : List Value} {tx tx' : List Int32} {mo : Nat} {π : Nat → Nat} {Ls LsR : Nat → Ss} (h : invP z D c1 c2 H S v bs tx mo π Ls LsR) (t : tstep z H v bs H' v' bs') (hs : sb H' (z + 2) v' bs' tx') (hr : txR tx' S') (a : m_agr [0, 2, 40, 56] [1, 39, 53, 55] [] S S') : invC z c1 c2 H' S' ∧ clF z H H' := by
  obtain ⟨i1, i2, i3, i4, i5, -⟩ := id h
  obtain ⟨t1, t2, t3, t4, t5, t6, t7, t8, n1, n2, n3, ⟨y, n4⟩, n5⟩ := t
  obtain ⟨s1, ⟨c1', c2', c3'⟩, w3, w4, w5⟩ := i4
  have low : ∀ q, q < z + 107 → q ≠ z + 2 → q ≠ z + 3 → H'.1 q = H.1 q := fun q q1 q2 q3 => t1 q q2 (by omega) (by omega)
  refine ⟨inv_gen (d1 := 0) (d2 := 0) h ⟨fun q q1 q2 => low q (by omega) (by omega) (by omega), fun q q1 q2 q3 => t1 q (by omega) q3 q2, fun _ => by rw [n4]; exact nd8_byte, fun q q1 q2 => by obtain ⟨y', e⟩ := n5 q q1 q2; rw [e]; exact nd8_byte, t4⟩ (low _ (by omega) (by omega) (by omega)) (by
    obtain ⟨u, i3⟩ := i3
    exact ⟨u, (low _ (by omega) (by omega) (by omega)).trans i3⟩) ⟨hs, ⟨by omega, t3, by omega⟩, by omega, t7 w4, fun q hq => (low q (by omega) (by omega) (by omega)).trans (w5 q hq)⟩ hr t2 a (by omega) (by omega), fun q hq => low q (by omega) (by omega) (by omega)⟩
end INV
