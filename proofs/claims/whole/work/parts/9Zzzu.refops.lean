/-! SPREADS OF THE REFERENCE -/
def rsk (S : mS) : List Sp → Prop
  | [] => True
  | _ :: r => S.2.1 43 r.length = Int32.ofNat (szS r) ∧ rsk S r
def rst (S : mS) (R : List Sp) : Prop := S.1 44 = Int32.ofNat R.length ∧ S.1 45 = Int32.ofNat (szS R) ∧ rsk S R ∧ vw (S.2.1 41) (S.2.2 42) (fl R)
theorem rsk_ext {S S' : mS} : ∀ R : List Sp, rsk S R → (∀ i, i < R.length → S'.2.1 43 i = S.2.1 43 i) → rsk S' R := by
  intro R
  induction R with
  | nil => intro _ _; trivial
  | cons l r ih => intro h e; exact ⟨(e _ (by rw [List.length_cons]; omega)).trans h.1, ih h.2 (fun i hi => e i (by rw [List.length_cons]; omega))⟩
theorem rst_ag {S S' : mS} {R : List Sp} (h : rst S R) {F A B : List Nat} (a : m_agr F A B S S') (c : 44 ∉ F ∧ 45 ∉ F ∧ 41 ∉ A ∧ 43 ∉ A ∧ 42 ∉ B) : rst S' R := by
  obtain ⟨h1, h2, h3, h4⟩ := h
  obtain ⟨c1, c2, c3, c4, c5⟩ := c
  refine ⟨(a.1 44 c1).trans h1, (a.1 45 c2).trans h2, rsk_ext R h3 (fun i _ => by rw [a.2.1 43 c4]), ?_⟩
  rw [a.2.1 41 c3, a.2.2 42 c5]
  exact h4
/-- what working out an expression changes -/
def wF (S S' : mS) : Prop := m_agr [44, 45] [41, 43] [42, 46] S S'
section RFO
variable {N : Nat}
theorem rst_open {S : mS} {R : List Sp} (h : rst S R) (hn : R.length < 64) : ∃ S', M281 N S = some S' ∧ rst S' ([] :: R) ∧ wF S S' := by
  obtain ⟨h1, h2, h3, h4⟩ := h
  refine ⟨m_sV (m_sA S 43 ((S.1 44)).toInt.toNat (S.1 45)) 44 ((S.1 44) + 1), ?_, ⟨?_, ?_, ⟨?_, ?_⟩, ?_⟩, m_agr_sV (m_agr_sA m_agr_refl (by decide) _ _) (by decide) _⟩
  · unfold M281
    rw [if_pos (by rw [h1]; exact n_at (by omega) (by show _ < 64; omega))]
  · show S.1 44 + 1 = Int32.ofNat (R.length + 1)
    rw [h1, i_inc (by omega)]
  · show S.1 45 = Int32.ofNat (0 + szS R)
    rw [h2, Nat.zero_add]
  · show (if 43 = 43 ∧ R.length = (S.1 44).toInt.toNat then S.1 45 else S.2.1 43 R.length) = Int32.ofNat (szS R)
    rw [h1, n_t (by omega), if_pos ⟨rfl, rfl⟩, h2]
  · refine rsk_ext R h3 (fun i hi => ?_)
    show (if 43 = 43 ∧ i = (S.1 44).toInt.toNat then S.1 45 else S.2.1 43 i) = _
    rw [h1, n_t (by omega), if_neg (by omega)]
  · have e : (fun p => if 41 = 43 ∧ p = (S.1 44).toInt.toNat then S.1 45 else S.2.1 41 p) = S.2.1 41 := by
      funext p
      rw [if_neg (fun q => absurd q.1 (by decide))]
    show vw (fun p => if 41 = 43 ∧ p = (S.1 44).toInt.toNat then S.1 45 else S.2.1 41 p) (S.2.2 42) (fl R ++ [])
    rw [e, List.append_nil]
    exact h4
theorem rst_put {S : mS} {l : Sp} {r : List Sp} {v : Int32} {w : Nat} (h : rst S (l :: r)) (hs : szS (l :: r) < 4800) : ∃ S', M282 N v (Int64.ofNat w) S = some S' ∧ rst S' ((l ++ [(v, w)]) :: r) ∧ wF S S' := by
  obtain ⟨h1, h2, h3, h4⟩ := h
  have t45 : (S.1 45).toInt.toNat = szS (l :: r) := by rw [h2]; exact n_t (by omega)
  refine ⟨m_sV (m_sB (m_sA S 41 ((S.1 45)).toInt.toNat v) 42 ((S.1 45)).toInt.toNat (Int64.ofNat w)) 45 ((S.1 45) + 1), ?_, ⟨?_, ?_, ⟨?_, ?_⟩, ?_⟩, m_agr_sV (m_agr_sB (m_agr_sA m_agr_refl (by decide) _ _) (by decide) _ _) (by decide) _⟩
  · unfold M282
    rw [if_pos (by rw [h2]; exact n_at (by omega) (by show _ < 4800; omega)), if_pos (by rw [h2]; exact n_at (by omega) (by show _ < 4800; omega))]
  · show S.1 44 = _
    rw [h1]
    rfl
  · show S.1 45 + 1 = Int32.ofNat ((l ++ [(v, w)]).length + szS r)
    have : (l ++ [(v, w)]).length + szS r = szS (l :: r) + 1 := by
      rw [List.length_append, List.length_singleton]
      show _ = l.length + szS r + 1
      omega
    rw [h2, i_inc (by omega), this]
  · show (if 43 = 41 ∧ r.length = (S.1 45).toInt.toNat then v else S.2.1 43 r.length) = _
    rw [if_neg (fun q => absurd q.1 (by decide))]
    exact h3.1
  · refine rsk_ext r h3.2 (fun i hi => ?_)
    show (if 43 = 41 ∧ i = (S.1 45).toInt.toNat then v else S.2.1 43 i) = _
    rw [if_neg (fun q => absurd q.1 (by decide))]
  · have e1 : (fun p => if 41 = 41 ∧ p = (S.1 45).toInt.toNat then v else S.2.1 41 p) = fun p => if p = szS (l :: r) then v else S.2.1 41 p := by
      funext p
      rw [t45]
      by_cases q : p = szS (l :: r)
      · rw [if_pos ⟨rfl, q⟩, if_pos q]
      · rw [if_neg (fun w => q w.2), if_neg q]
    have e2 : (fun p => if 42 = 42 ∧ p = (S.1 45).toInt.toNat then Int64.ofNat w else S.2.2 42 p) = fun p => if p = szS (l :: r) then Int64.ofNat w else S.2.2 42 p := by
      funext p
      rw [t45]
      by_cases q : p = szS (l :: r)
      · rw [if_pos ⟨rfl, q⟩, if_pos q]
      · rw [if_neg (fun w => q w.2), if_neg q]
    show vw (fun p => if 41 = 41 ∧ p = (S.1 45).toInt.toNat then v else S.2.1 41 p) (fun p => if 42 = 42 ∧ p = (S.1 45).toInt.toNat then Int64.ofNat w else S.2.2 42 p) _
    rw [e1, e2]
    exact vw_put h4
/-- a minus sign -/
theorem rst_neg (hN : 100000 ≤ N) {l : Sp} {r : List Sp} (hs : szS (l :: r) ≤ 4800) {S : mS} (h : rst S (l :: r)) : ∃ S', L280_122 N (Int32.ofNat (szS r), S) = some (1, S') ∧ rst S' (ngS l :: r) ∧ wF S S' := by
  have key : ∀ (d i : Nat) (S0 : mS), i + d = szS (l :: r) → S0.1 45 = Int32.ofNat (szS (l :: r)) → ∃ S', t_lp (B280_122 N) (d + 1) (Int32.ofNat i, S0) = some (1, S') ∧ m_agr [] [41] [] S0 S' ∧ ∀ p, S'.2.1 41 p = if i ≤ p ∧ p < szS (l :: r) then -(S0.2.1 41 p) else S0.2.1 41 p := by
    intro d
    induction d with
    | zero =>
      intro i S0 hi h45
      have c := c_geT (a := i) (b := szS (l :: r)) (by omega) (by omega) (by omega)
      exact ⟨S0, t_end (by simp only [B280_122, h45, c, cond_true]) _, m_agr_refl, fun p => (if_neg (by omega)).symm⟩
    | succ d ih =>
      intro i S0 hi h45
      have c := c_geF (a := i) (b := szS (l :: r)) (by omega) (by omega) (by omega)
      obtain ⟨S', a1, a2, a3⟩ := ih (i + 1) (m_sA S0 41 i (-(S0.2.1 41 i))) (by omega) h45
      refine ⟨S', ?_, m_agr_trans (m_agr_sA m_agr_refl (by decide) _ _) a2, fun p => ?_⟩
      · have st : B280_122 N (Int32.ofNat i, S0) = some (.inl (Int32.ofNat (i + 1), m_sA S0 41 i (-(S0.2.1 41 i)))) := by
          have ck : 0 ≤ (Int32.ofNat i).toInt ∧ (Int32.ofNat i).toInt < mN 41 := n_at (by omega) (by show _ < 4800; omega)
          simp only [B280_122, h45, c, cond_false, if_pos ck, n_t (show i < 2147483648 by omega), i_inc (show i < 1000000 by omega)]
        rw [t_one st]
        exact a1
      · have e : (m_sA S0 41 i (-(S0.2.1 41 i))).2.1 41 p = if p = i then -(S0.2.1 41 i) else S0.2.1 41 p := by
          show (if 41 = 41 ∧ p = i then _ else _) = _
          by_cases q : p = i
          · rw [if_pos ⟨rfl, q⟩, if_pos q]
          · rw [if_neg (fun w => q w.2), if_neg q]
        rw [a3, e]
        by_cases q : p = i
        · rw [if_neg (by omega), if_pos q, if_pos (by omega), q]
        · rw [if_neg q]
          by_cases q2 : i ≤ p ∧ p < szS (l :: r)
          · rw [if_pos (by omega), if_pos q2]
          · rw [if_neg (by omega), if_neg q2]
  obtain ⟨h1, h2, h3, h4⟩ := h
  have sz : szS (l :: r) = l.length + szS r := rfl
  have nl : (ngS l).length = l.length := by unfold ngS; rw [List.length_map]
  obtain ⟨S', a1, a2, a3⟩ := key l.length (szS r) S (by omega) h2
  refine ⟨S', t_lp_more _ _ _ (by omega) a1, ⟨(a2.1 44 (by decide)).trans h1, ?_, ⟨?_, rsk_ext r h3.2 (fun i _ => by rw [a2.2.1 43 (by decide)])⟩, ?_⟩, m_agr_mono a2 (by decide) (by decide) (by decide)⟩
  · show S'.1 45 = Int32.ofNat ((ngS l).length + szS r)
    rw [a2.1 45 (by decide), h2, nl, sz]
  · rw [a2.2.1 43 (by decide)]
    exact h3.1
  · intro i p hp
    have hp' : (fl r ++ ngS l)[i]? = some p := hp
    have hv' : ∀ (i : Nat) (p : Int32 × Nat), (fl r ++ l)[i]? = some p → S.2.1 41 i = p.1 ∧ S.2.2 42 i = Int64.ofNat p.2 := h4
    rw [a3, a2.2.2 42 (by decide)]
    by_cases c : i < (fl r).length
    · rw [List.getElem?_append_left c] at hp'
      rw [fl_len] at c
      rw [if_neg (by omega)]
      exact hv' i p (by rw [List.getElem?_append_left (by rw [fl_len]; exact c)]; exact hp')
    · have hi := (List.getElem?_eq_some_iff.mp hp').1
      rw [List.length_append, nl, fl_len] at hi
      rw [List.getElem?_append_right (by omega)] at hp'
      unfold ngS at hp'
      rw [List.getElem?_map] at hp'
      obtain ⟨q, hq, hqp⟩ := Option.map_eq_some_iff.mp hp'
      have := hv' i q (by rw [List.getElem?_append_right (by omega)]; exact hq)
      rw [fl_len] at c
      rw [if_pos (by omega), this.1, this.2, ← hqp]
      exact ⟨rfl, rfl⟩
/-! WHAT AN OPERATION GIVES, the reference -/
theorem xor_ge {a b : Int32} : 0 ≤ (a ^^^ b).toInt ↔ (0 ≤ a.toInt ↔ 0 ≤ b.toInt) := by
  have e : ∀ x : Int32, x.toBitVec.msb = decide (x.toInt < 0) := fun x => BitVec.msb_eq_toInt
  have h : (a ^^^ b).toBitVec.msb = (a.toBitVec.msb ^^ b.toBitVec.msb) := by
    rw [Int32.toBitVec_xor]
    exact BitVec.msb_xor
  rw [e, e, e] at h
  by_cases c1 : a.toInt < 0 <;> by_cases c2 : b.toInt < 0 <;> by_cases c3 : (a ^^^ b).toInt < 0 <;> simp only [c1, c2, c3, decide_true, decide_false, Bool.xor_true, Bool.xor_false, Bool.not_true, Bool.not_false, Bool.true_eq_false, Bool.false_eq_true] at h <;> omega
theorem M285_do {S : mS} {a b : Int32} (hb : b ≠ 0) : M285 N a b S = some (fdv a b, S) := by
  unfold M285 fdv
  rw [if_pos hb, if_pos hb]
  have mz : (a - a / b * b = 0) ↔ a / b * b = a := by
    constructor
    · intro h; grind
    · intro h; grind
  by_cases c : a - a / b * b = 0
  · have e : mj_c1 .eq (a - a / b * b) = true := decide_eq_true c
    rw [e]
    show some (a / b, S) = _
    by_cases x : 0 ≤ (a ^^^ b).toInt
    · rw [if_pos x]
    · rw [if_neg x, if_pos (mz.mp c)]
  · have e : mj_c1 .eq (a - a / b * b) = false := decide_eq_false c
    have nq := fun h => c (mz.mpr h)
    rw [e, cond_false]
    by_cases ca : 0 ≤ a.toInt
    · have e1 : mj_c1 .ge a = true := i_c1 (decide_eq_true ca)
      rw [e1, cond_true]
      unfold J285_19
      by_cases cb : 0 ≤ b.toInt
      · have e2 : mj_c1 .ge b = true := i_c1 (decide_eq_true cb)
        rw [e2, if_pos (xor_ge.mpr ⟨fun _ => cb, fun _ => ca⟩)]
        rfl
      · have e2 : mj_c1 .ge b = false := i_c1 (decide_eq_false cb)
        rw [e2, if_neg (fun h => cb ((xor_ge.mp h).mp ca)), if_neg nq]
        rfl
    · have e1 : mj_c1 .ge a = false := i_c1 (decide_eq_false ca)
      rw [e1, cond_false]
      unfold J285_19
      by_cases cb : 0 ≤ b.toInt
      · have e2 : mj_c1 .ge b = true := i_c1 (decide_eq_true cb)
        rw [e2, if_neg (fun h => ca ((xor_ge.mp h).mpr cb)), if_neg nq]
        rfl
      · have e2 : mj_c1 .ge b = false := i_c1 (decide_eq_false cb)
        rw [e2, if_pos (xor_ge.mpr ⟨fun q => absurd q ca, fun q => absurd q cb⟩)]
        rfl
theorem fmd_fdv {a b : Int32} : a - b * fdv a b = fmd a b := by
  unfold fdv fmd
  have mz : (a - a / b * b = 0) ↔ a / b * b = a := by
    constructor
    · intro h; grind
    · intro h; grind
  by_cases x : 0 ≤ (a ^^^ b).toInt
  · rw [if_pos x, if_pos x, Int32.mul_comm]
  · rw [if_neg x, if_neg x]
    by_cases c : a / b * b = a
    · rw [if_pos c, if_pos (mz.mpr c), Int32.mul_comm]
    · rw [if_neg c, if_neg (fun h => c (mz.mp h))]
      grind
theorem M284_do {S : mS} {c a b : Int32} (hc : bd c ≠ -1000) (hb : c = 37 ∨ c = 47 → b ≠ 0) : M284 N (sg c) a b S = some (opV c a b, S) := by
  have dg : ∀ x y : Int32, mj_c2 .ge x y = decide (y.toInt ≤ x.toInt) := fun _ _ => i_c2 rfl
  have dl : ∀ x y : Int32, mj_c2 .le x y = decide (x.toInt ≤ y.toInt) := fun _ _ => i_c2 rfl
  have dn : ∀ x y : Int32, mj_c2 .ne x y = decide (¬ x = y) := fun _ _ => rfl
  unfold bd at hc
  by_cases h1 : c = 37
  · subst h1
    have s : M284 N (sg 37) a b S = (M285 N a b S).bind fun r24 => some ((a - (b * r24.1)), r24.2) := rfl
    have o : opV 37 a b = fmd a b := by
      unfold opV
      rw [if_pos rfl, if_neg (hb (Or.inl rfl))]
    rw [s, M285_do (hb (Or.inl rfl)), o, ← fmd_fdv]
    rfl
  by_cases h2 : c = 42
  · subst h2; rfl
  by_cases h3 : c = 43
  · subst h3; rfl
  by_cases h4 : c = 45
  · subst h4; rfl
  by_cases h5 : c = 47
  · subst h5
    have s : M284 N (sg 47) a b S = (M285 N a b S).bind fun r21 => some (r21.1, r21.2) := rfl
    have o : opV 47 a b = fdv a b := by
      unfold opV
      rw [if_neg (by decide), if_neg (by decide), if_neg (by decide), if_neg (by decide), if_pos rfl, if_neg (hb (Or.inr rfl))]
    rw [s, M285_do (hb (Or.inr rfl)), o]
    rfl
  by_cases h6 : c = 60
  · subst h6
    have s : M284 N (sg 60) a b S = bif mj_c2 .ge a b then J284_54 N 0 S else J284_54 N 1 S := rfl
    have o : opV 60 a b = if a.toInt < b.toInt then 1 else 0 := rfl
    rw [s, o, dg, Bool.cond_decide]
    by_cases d : b.toInt ≤ a.toInt
    · rw [if_pos d, if_neg (by omega)]; rfl
    · rw [if_neg d, if_pos (by omega)]; rfl
  by_cases h7 : c = 61
  · subst h7
    have s : M284 N (sg 61) a b S = bif mj_c2 .ne a b then J284_76 N 0 S else J284_76 N 1 S := rfl
    have o : opV 61 a b = if a = b then 1 else 0 := rfl
    rw [s, o, dn, Bool.cond_decide]
    by_cases d : a = b
    · rw [if_neg (fun k => k d), if_pos d]; rfl
    · rw [if_pos d, if_neg d]; rfl
  by_cases h8 : c = 62
  · subst h8
    have s : M284 N (sg 62) a b S = bif mj_c2 .le a b then J284_65 N 0 S else J284_65 N 1 S := rfl
    have o : opV 62 a b = if b.toInt < a.toInt then 1 else 0 := rfl
    rw [s, o, dl, Bool.cond_decide]
    by_cases d : a.toInt ≤ b.toInt
    · rw [if_pos d, if_neg (by omega)]; rfl
    · rw [if_neg d, if_pos (by omega)]; rfl
  rw [if_neg h1, if_neg h2, if_neg h3, if_neg h4, if_neg h5, if_neg h6, if_neg h7, if_neg h8] at hc
  exact absurd rfl hc
end RFO
