/-! EXPRESSIONS, THE REFERENCE: what is left to do, from readAtom's loop (RA) and from readSign's (RS) on -/
section RRR
variable {N : Nat}
def knS (N k : Nat) (x1 : Int32) (r : Int32 × mS) : Option (Int32 × mS) := bif mj_c1 .ne r.1 then (bif mj_c1 .le (r.2.1 29) then t_lp (B220_35 N) k (x1, 0, r.2) else t_lp (B220_35 N) k (x1, 1, r.2)) else some (0, r.2)
def knA (N k : Nat) (x1 : Int32) (r : Int32 × mS) : Option (Int32 × mS) := bif mj_c1 .eq r.1 then some (0, r.2) else (M229 N r.2).bind (knS N k x1)
def RA (N : Nat) (x1 : Int32) (p : Nat) (S : mS) (res : Int32 × mS) : Prop := (t_lp (B221_0 N) (400 - p) S).bind (knA N (400 - p) x1) = some res
def RS (N : Nat) (x1 : Int32) (p : Nat) (S : mS) (res : Int32 × mS) : Prop := (t_lp (B229_0 N) (400 - p) S).bind (knS N (400 - p) x1) = some res
theorem knS_more {k k' : Nat} {x1 : Int32} {r res : Int32 × mS} (hk : k ≤ k') (h : knS N k x1 r = some res) : knS N k' x1 r = some res := by
  unfold knS at h ⊢
  cases c1 : mj_c1 .ne r.1 with
  | true =>
    rw [c1] at h
    cases c2 : mj_c1 .le (r.2.1 29) with
    | true =>
      rw [c2] at h
      exact t_lp_more _ _ _ hk h
    | false =>
      rw [c2] at h
      exact t_lp_more _ _ _ hk h
  | false =>
    rw [c1] at h
    exact h
theorem knA_more {k k' : Nat} {x1 : Int32} {r res : Int32 × mS} (hk : k ≤ k') (h : knA N k x1 r = some res) : knA N k' x1 r = some res := by
  unfold knA at h ⊢
  cases c1 : mj_c1 .eq r.1 with
  | true =>
    rw [c1] at h
    exact h
  | false =>
    rw [c1] at h
    obtain ⟨y, h1, h2⟩ := Option.bind_eq_some_iff.mp h
    exact Option.bind_eq_some_iff.mpr ⟨y, h1, knS_more hk h2⟩
theorem t_one {σ ρ : Type} {f : σ → Option (σ ⊕ ρ)} {s s' : σ} (h : f s = some (.inl s')) (n : Nat) : t_lp f (n + 1) s = t_lp f n s' := by rw [t_lp, h]
theorem t_end {σ ρ : Type} {f : σ → Option (σ ⊕ ρ)} {s : σ} {r : ρ} (h : f s = some (.inr r)) (n : Nat) : t_lp f (n + 1) s = some r := by rw [t_lp, h]
theorem RA_push {x1 : Int32} {p : Nat} {S S' : mS} {res : Int32 × mS} (hp : p < 300) (h : B221_0 N S = some (.inl S')) (k : RA N x1 (p + 1) S' res) : RA N x1 p S res := by
  unfold RA at k ⊢
  rw [show 400 - p = 400 - (p + 1) + 1 by omega, t_one h]
  obtain ⟨y, h1, h2⟩ := Option.bind_eq_some_iff.mp k
  exact Option.bind_eq_some_iff.mpr ⟨y, h1, knA_more (by omega) h2⟩
theorem RA_fail {x1 : Int32} {p : Nat} {S S' : mS} (hp : p < 300) (h : B221_0 N S = some (.inr (0, S'))) : RA N x1 p S (0, S') := by
  unfold RA
  rw [show 400 - p = 400 - (p + 1) + 1 by omega, t_end h]
  rfl
theorem RA_item (hN : 2000 ≤ N) {x1 : Int32} {p p' : Nat} {S S' : mS} {res : Int32 × mS} (hp : p < 300) (hpp : p ≤ p') (h : B221_0 N S = some (.inr (1, S'))) (k : RS N x1 p' S' res) : RA N x1 p S res := by
  unfold RA
  unfold RS at k
  obtain ⟨y, h1, h2⟩ := Option.bind_eq_some_iff.mp k
  rw [show 400 - p = 400 - (p + 1) + 1 by omega, t_end h]
  have e : M229 N S' = some y := t_lp_more _ _ _ (by omega) h1
  show (M229 N S').bind _ = _
  rw [e]
  exact knS_more (by omega) h2
theorem RS_close {x1 : Int32} {p : Nat} {S S' : mS} {res : Int32 × mS} (hp : p < 300) (h : B229_0 N S = some (.inl S')) (k : RS N x1 (p + 1) S' res) : RS N x1 p S res := by
  unfold RS at k ⊢
  rw [show 400 - p = 400 - (p + 1) + 1 by omega, t_one h]
  obtain ⟨y, h1, h2⟩ := Option.bind_eq_some_iff.mp k
  exact Option.bind_eq_some_iff.mpr ⟨y, h1, knS_more (by omega) h2⟩
theorem RS_fail {x1 : Int32} {p : Nat} {S S' : mS} (hp : p < 300) (h : B229_0 N S = some (.inr (0, S'))) : RS N x1 p S (0, S') := by
  unfold RS
  rw [show 400 - p = 400 - (p + 1) + 1 by omega, t_end h]
  rfl
theorem RS_sign (hN : 2000 ≤ N) {x1 : Int32} {p : Nat} {S S' : mS} {res : Int32 × mS} (hp : p < 300) (h : B229_0 N S = some (.inr (1, S'))) (hw : mj_c1 .le (S'.1 29) = false) (k : RA N x1 (p + 1) S' res) : RS N x1 p S res := by
  unfold RA at k
  unfold RS
  obtain ⟨y, h1, h2⟩ := Option.bind_eq_some_iff.mp k
  rw [show 400 - p = 400 - (p + 1) + 1 by omega, t_end h]
  have e : M221 N S' = some y := t_lp_more _ _ _ (by omega) h1
  show knS N _ x1 (1, S') = _
  unfold knS
  rw [show mj_c1 .ne (1 : Int32) = true by decide, hw]
  show t_lp (B220_35 N) _ _ = _
  rw [t_lp]
  have b1 : mj_c1 .eq 1 = false := by decide
  have fB : B220_35 N (x1, 1, S') = (bif mj_c1 .eq y.1 then (J220_53 N y.2).map Sum.inr else (M229 N y.2).bind fun r16 => bif mj_c1 .ne r16.1 then bif mj_c1 .le (r16.2.1 29) then J220_67 N x1 0 r16.2 else J220_67 N x1 1 r16.2 else (J220_53 N r16.2).map Sum.inr) := by
    simp only [B220_35, b1, cond_false, e, Option.bind_some]
  unfold knA at h2
  cases c1 : mj_c1 .eq y.1 with
  | true =>
    rw [c1] at h2 fB
    rw [fB]
    exact h2
  | false =>
    rw [c1] at h2 fB
    obtain ⟨u, u1, u2⟩ := Option.bind_eq_some_iff.mp h2
    rw [fB, u1]
    unfold knS at u2
    cases c2 : mj_c1 .ne u.1 with
    | true =>
      rw [c2] at u2
      cases c3 : mj_c1 .le (u.2.1 29) with
      | true =>
        rw [c3] at u2
        simp only [Option.bind_some, c2, c3, cond_true, J220_67]
        exact u2
      | false =>
        rw [c3] at u2
        simp only [Option.bind_some, c2, c3, cond_true, cond_false, J220_67]
        exact u2
    | false =>
      rw [c2] at u2
      simp only [Option.bind_some, c2, cond_false, J220_53]
      exact u2
theorem RS_end {x1 : Int32} {p : Nat} {S S' : mS} (hp : p < 300) (h : B229_0 N S = some (.inr (1, S'))) (hw : mj_c1 .le (S'.1 29) = true) (hx : 0 ≤ (72 + x1).toInt ∧ (72 + x1).toInt < mN 9) : RS N x1 p S (1, m_sA S' 9 (72 + x1).toInt.toNat (S'.1 23 - 1)) := by
  unfold RS
  rw [show 400 - p = 400 - (p + 1) + 1 by omega, t_end h]
  show knS N _ x1 (1, S') = _
  unfold knS
  rw [show mj_c1 .ne (1 : Int32) = true by decide, hw]
  show t_lp (B220_35 N) _ _ = _
  rw [t_lp]
  have b0 : mj_c1 .eq 0 = true := by decide
  simp only [B220_35, b0, cond_true, if_pos hx]
/-- the whole of an expression -/
theorem M220_of (hN : 2000 ≤ N) {x1 : Int32} {p : Nat} {S : mS} {res : Int32 × mS} (hx : 0 ≤ (72 + x1).toInt ∧ (72 + x1).toInt < mN 8) (k : RA N x1 p (m_sA (m_sV (m_sV (m_sV (m_sV S 29 0) 30 0) 31 0) 33 0) 8 (72 + x1).toInt.toNat (S.1 23)) res) : M220 N x1 S = some res := by
  unfold M220
  rw [if_pos hx]
  obtain ⟨S', hS'⟩ : ∃ S', m_sA (m_sV (m_sV (m_sV (m_sV S 29 0) 30 0) 31 0) 33 0) 8 (72 + x1).toInt.toNat (S.1 23) = S' := ⟨_, rfl⟩
  rw [hS'] at k ⊢
  unfold RA at k
  obtain ⟨y, h1, h2⟩ := Option.bind_eq_some_iff.mp k
  have e : M221 N S' = some y := t_lp_more _ _ _ (by omega) h1
  have b1 : mj_c1 .eq 1 = false := by decide
  have main : t_lp (B220_35 N) (400 - p + 1) (x1, 1, S') = some res := by
    rw [t_lp]
    have fB : B220_35 N (x1, 1, S') = (bif mj_c1 .eq y.1 then (J220_53 N y.2).map Sum.inr else (M229 N y.2).bind fun r16 => bif mj_c1 .ne r16.1 then bif mj_c1 .le (r16.2.1 29) then J220_67 N x1 0 r16.2 else J220_67 N x1 1 r16.2 else (J220_53 N r16.2).map Sum.inr) := by
      simp only [B220_35, b1, cond_false, e, Option.bind_some]
    unfold knA at h2
    cases c1 : mj_c1 .eq y.1 with
    | true =>
      rw [c1] at h2 fB
      rw [fB]
      exact h2
    | false =>
      rw [c1] at h2 fB
      obtain ⟨u, u1, u2⟩ := Option.bind_eq_some_iff.mp h2
      rw [fB, u1]
      unfold knS at u2
      cases c2 : mj_c1 .ne u.1 with
      | true =>
        rw [c2] at u2
        cases c3 : mj_c1 .le (u.2.1 29) with
        | true =>
          rw [c3] at u2
          simp only [Option.bind_some, c2, c3, cond_true, J220_67]
          exact u2
        | false =>
          rw [c3] at u2
          simp only [Option.bind_some, c2, c3, cond_true, cond_false, J220_67]
          exact u2
      | false =>
        rw [c2] at u2
        simp only [Option.bind_some, c2, cond_false, J220_53]
        exact u2
  exact t_lp_more _ _ _ (by omega) main
end RRR
