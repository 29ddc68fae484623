section RSU
variable {N : Nat}
/-- a set that may have become too great -/
def vst (S : mS) (set : Nat) (U : Ss) (f0 : Int32) : Prop := (U.length ≤ 64 ∧ S.1 50 = f0 ∧ rsL S set U) ∨ (64 < U.length ∧ S.1 50 = 1 ∧ ∃ L', rsL S set L' ∧ ∀ x ∈ L', x.1.length = 6)
theorem jfr_50 {set : Nat} {S : mS} {v : Int32} : jfr set S (m_sV S 50 v) := ⟨m_agr_sV m_agr_refl (by decide) _, fun _ _ => rfl, fun _ _ => rfl, fun _ _ => rfl⟩
theorem rsL_sV {S : mS} {set j : Nat} {L : Ss} {v : Int32} (h : rsL S set L) : rsL (m_sV S j v) set L := h
theorem ins_6 {k : Vs} {w : Nat} {L : Ss} (hk : k.length = 6) (h : ∀ x ∈ L, x.1.length = 6) : ∀ x ∈ ins k w L, x.1.length = 6 := fun x hx => (ins_mem L x hx).elim (h x) (fun q => by rw [q.1]; exact hk)
theorem M270_v (hN : 2000 ≤ N) {S : mS} {set other state : Nat} {name v f0 : Int32} {k : Vs} {w : Nat} {U : Ss} (hs : set < 10) (ho : other < 10) (hso : set ≠ other) (hst : state < 64) (hv : vst S set U f0) (hc : cndR S other state name v k) (hk6 : k.length = 6) (h6 : ∀ x ∈ U, x.1.length = 6) : ∃ S', M270 N (Int32.ofNat set) (Int32.ofNat other) (Int32.ofNat state) name v (Int64.ofNat w) S = some S' ∧ vst S' set (ins k w U) f0 ∧ jfr set S S' := by
  rcases hv with ⟨h1, h2, h3⟩ | ⟨h1, h2, L', h3, h4⟩
  · obtain ⟨a1, a2⟩ := M270_do (N := N) (w := w) hN hs ho hso hst h3 hc hk6 h6
    by_cases hl : (ins k w U).length ≤ 64
    · obtain ⟨S', b1, b2, b3, b4⟩ := a1 hl
      exact ⟨S', b1, Or.inl ⟨hl, by rw [b4]; exact h2, b2⟩, b3⟩
    · exact ⟨_, a2 (by omega), Or.inr ⟨by omega, rfl, U, rsL_sV h3, h6⟩, jfr_50⟩
  · obtain ⟨a1, a2⟩ := M270_do (N := N) (w := w) hN hs ho hso hst h3 hc hk6 h4
    have lu := (ins_len (k := k) (w := w) (l := U)).1
    by_cases hl : (ins k w L').length ≤ 64
    · obtain ⟨S', b1, b2, b3, b4⟩ := a1 hl
      exact ⟨S', b1, Or.inr ⟨by omega, by rw [b4]; exact h2, _, b2, ins_6 hk6 h4⟩, b3⟩
    · exact ⟨_, a2 (by omega), Or.inr ⟨by omega, rfl, L', rsL_sV h3, h4⟩, jfr_50⟩
theorem cnd_m1 {S : mS} {o row : Nat} {L : Ss} {x : Vs × Nat} {v : Int32} (h : rsL S o L) (hx : L[row]? = some x) : cndR S o row (-1) v x.1 := fun j hj => Or.inl ⟨i_c2 (by
  show decide _ = true
  have q : (-1 : Int32).toInt = -1 := rfl
  apply decide_eq_true
  rw [i_nat (by omega), q]
  omega), (h.2.2 row x hx).2 j hj⟩
theorem cnd_at {S : mS} {o row m : Nat} {L : Ss} {x : Vs × Nat} {v : Int32} (h : rsL S o L) (hx : L[row]? = some x) (hm : m < 6) (hx6 : x.1.length = 6) : cndR S o row (Int32.ofNat m) v (x.1.set m v) := fun j hj => by
  rw [stf_set hx6 hj]
  by_cases e : j = m
  · refine Or.inr ⟨(c_ne (by omega) (by omega)).trans (decide_eq_false (fun q => q e)), ?_⟩
    rw [if_pos e]
  · refine Or.inl ⟨(c_ne (by omega) (by omega)).trans (decide_eq_true e), ?_⟩
    rw [if_neg e]
    exact (h.2.2 row x hx).2 j hj
/-- pour -/
theorem M269_do (hN : 2000 ≤ N) {S : mS} {set other tm : Nat} {f0 : Int32} {U Lo : Ss} (hs : set < 10) (ho : other < 10) (hso : set ≠ other) (hv : vst S set U f0) (hr : rsL S other Lo) (h6 : ∀ x ∈ U, x.1.length = 6) (ho6 : ∀ x ∈ Lo, x.1.length = 6) : ∃ S', M269 N (Int32.ofNat set) (Int32.ofNat other) (Int64.ofNat tm) S = some S' ∧ vst S' set (insA (scl tm Lo) U) f0 ∧ jfr set S S' := by
  obtain ⟨k9, t9⟩ := a49 ho
  have hlo := hr.2.1
  have key : ∀ (d row : Nat) (S1 : mS) (U1 : Ss), row + d = Lo.length → vst S1 set U1 f0 → (∀ x ∈ U1, x.1.length = 6) → jfr set S S1 → ∃ S', t_lp (B269_3 N) (d + 1) (Int32.ofNat set, Int32.ofNat other, Int64.ofNat tm, Int32.ofNat row, S1) = some S' ∧ vst S' set (insA (scl tm (Lo.drop row)) U1) f0 ∧ jfr set S S' := by
    intro d
    induction d with
    | zero =>
      intro row S1 U1 hrow hv1 _ hf
      have hd : Lo.drop row = [] := List.drop_eq_nil_of_le (by omega)
      have r1 := rsL_jfr hr hf (fun q => hso q.symm)
      have c := c_geT (a := row) (b := Lo.length) (by omega) (by omega) (by omega)
      refine ⟨S1, t_end ?_ _, by rw [hd]; exact hv1, hf⟩
      simp only [B269_3, if_pos k9, t9, r1.1, c, cond_true]
    | succ d ih =>
      intro row S1 U1 hrow hv1 h61 hf
      have hlt : row < Lo.length := by omega
      obtain ⟨x, hx⟩ : ∃ x, Lo[row]? = some x := ⟨_, List.getElem?_eq_getElem hlt⟩
      have hd : Lo.drop row = x :: Lo.drop (row + 1) := by
        rw [List.drop_eq_getElem_cons hlt]
        rw [List.getElem?_eq_getElem hlt] at hx
        rw [Option.some.inj hx]
      have hx6 := ho6 x (List.mem_of_getElem? hx)
      have r1 := rsL_jfr hr hf (fun q => hso q.symm)
      have c := c_geF (a := row) (b := Lo.length) (by omega) (by omega) hlt
      obtain ⟨k8, t8⟩ := a48 (i := row) ho (by omega)
      obtain ⟨S2, b1, b2, b3⟩ := M270_v (N := N) (w := x.2 * tm) hN hs ho hso (by omega) hv1 (cnd_m1 (v := 0) r1 hx) hx6 h61
      have e8 := (r1.2.2 row x hx).1
      have st : B269_3 N (Int32.ofNat set, Int32.ofNat other, Int64.ofNat tm, Int32.ofNat row, S1) = some (.inl (Int32.ofNat set, Int32.ofNat other, Int64.ofNat tm, Int32.ofNat (row + 1), S2)) := by
        simp only [B269_3, if_pos k9, t9, r1.1, c, cond_false, ix_64, if_pos k8, t8, e8, l_mul, b1, i_inc (show row < 1000000 by omega), Option.bind_some]
      rw [t_one st, hd]
      exact ih (row + 1) S2 _ (by omega) b2 (ins_6 hx6 h61) (jfr_trans hf b3)
  obtain ⟨S', a1, a2, a3⟩ := key Lo.length 0 S U (by omega) hv h6 jfr_refl
  rw [List.drop_zero] at a2
  exact ⟨S', t_lp_more _ _ _ (by omega) a1, a2, a3⟩
/-- copySet -/
theorem M268_do (hN : 2000 ≤ N) {S : mS} {set other : Nat} {Lo : Ss} (hs : set < 10) (ho : other < 10) (hso : set ≠ other) (hr : rsL S other Lo) (hg : gds Lo) : ∃ S', M268 N (Int32.ofNat set) (Int32.ofNat other) S = some S' ∧ rsL S' set Lo ∧ jfr set S S' ∧ S'.1 50 = S.1 50 := by
  obtain ⟨k9, t9⟩ := a49 hs
  have j1 : jfr set S (m_sA S 49 set 0) := jfr_49
  have r0 : rsL (m_sA S 49 set 0) set [] := ⟨if_pos ⟨rfl, rfl⟩, by decide, fun i x hx => by cases hx⟩
  obtain ⟨S', a1, a2, a3⟩ := M269_do (N := N) (S := m_sA S 49 set 0) (U := []) (tm := 1) (f0 := S.1 50) hN hs ho hso (Or.inl ⟨by decide, rfl, r0⟩) (rsL_jfr hr j1 (fun q => hso q.symm)) (fun x hx => by cases hx) (fun x hx => (hg.2 x hx).2.1)
  rw [insA_one hg] at a2
  rcases a2 with ⟨b1, b2, b3⟩ | ⟨b1, -⟩
  · refine ⟨S', ?_, b3, jfr_trans j1 a3, b2⟩
    have a1' : M269 N (Int32.ofNat set) (Int32.ofNat other) 1 (m_sA S 49 set 0) = some S' := a1
    simp only [M268, if_pos k9, t9, a1', Option.bind_some]
  · have := hr.2.1
    omega
/-- what is changed by what is done with states -/
def rG (S S' : mS) : Prop := m_agr [44, 45, 50, 51, 52] [41, 43, 47, 49] [42, 46, 48] S S'
theorem rG_j {set : Nat} {S S' : mS} (h : jfr set S S') : rG S S' := m_agr_mono h.1 (by decide) (by decide) (by decide)
theorem rG_w {S S' : mS} (h : wG S S') : rG S S' := m_agr_mono h (by decide) (by decide) (by decide)
def rsA (S : mS) (Ls : Nat → Ss) : Prop := ∀ q, q < 9 → rsL S q (Ls q)
theorem rsA_up {S S' : mS} {Ls : Nat → Ss} {set : Nat} {L : Ss} (h : rsA S Ls) (f : jfr set S S') (hr : rsL S' set L) : rsA S' (upL Ls set L) := fun q hq => by
  by_cases e : q = set
  · rw [e, upL_eq]; exact hr
  · rw [upL_ne e]; exact rsL_jfr (h q hq) f e
theorem rsA_9 {S S' : mS} {Ls : Nat → Ss} (h : rsA S Ls) (f : jfr 9 S S') : rsA S' Ls := fun q hq => rsL_jfr (h q hq) f (by omega)
theorem rsA_ag {S S' : mS} {Ls : Nat → Ss} (h : rsA S Ls) {F A B : List Nat} (a : m_agr F A B S S') (c : 47 ∉ A ∧ 49 ∉ A ∧ 48 ∉ B) : rsA S' Ls := fun q hq => rsL_ag (h q hq) a c
/-- beginSpare -/
theorem M273_do {S : mS} : ∃ S', M273 N S = some S' ∧ vst S' 9 [] 0 ∧ jfr 9 S S' := by
  refine ⟨_, rfl, Or.inl ⟨by decide, rfl, ?_⟩, jfr_trans jfr_49 jfr_50⟩
  exact ⟨show (if (49 : Nat) = 49 ∧ (9 : Nat) = 9 then (0 : Int32) else S.2.1 49 9) = 0 from if_pos ⟨rfl, rfl⟩, by decide, fun i x hx => by cases hx⟩
/-- settle -/
theorem M274_do (hN : 2000 ≤ N) {S : mS} {set mo : Nat} {U : Ss} {Ls : Nat → Ss} (hs : set < 9) (hv : vst S 9 U 0) (hg : gds U) (hA : rsA S Ls) (h52 : S.1 52 = Int32.ofNat mo) (hmo : mo ≤ 64) : (U.length ≤ 64 → ∃ S', M274 N (Int32.ofNat set) S = some (1, S') ∧ rsA S' (upL Ls set U) ∧ rG S S' ∧ S'.1 52 = Int32.ofNat (max mo U.length) ∧ S'.1 56 = S.1 56) ∧ (64 < U.length → M274 N (Int32.ofNat set) S = some (0, m_sV S 51 (-2))) := by
  have e0 : mj_c1 .eq 0 = true := by decide
  have e1 : mj_c1 .eq 1 = false := by decide
  rcases hv with ⟨h1, h2, h3⟩ | ⟨h1, h2, -⟩
  · refine ⟨fun _ => ?_, fun q => absurd h1 (by omega)⟩
    have fin : ∀ v, v = Int32.ofNat (max mo U.length) → ∃ S', J274_44 N (Int32.ofNat set) v S = some (1, S') ∧ rsA S' (upL Ls set U) ∧ rG S S' ∧ S'.1 52 = Int32.ofNat (max mo U.length) ∧ S'.1 56 = S.1 56 := by
      intro v hv
      obtain ⟨S', a1, a2, a3, a4⟩ := M268_do (N := N) (S := m_sV S 52 v) (set := set) (other := 9) hN (by omega) (by omega) (by omega) (rsL_sV h3) hg
      have a1' : M268 N (Int32.ofNat set) 9 (m_sV S 52 v) = some S' := a1
      have r0 : rG S (m_sV S 52 v) := m_agr_sV m_agr_refl (by decide) _
      refine ⟨S', by simp only [J274_44, a1', Option.bind_some], rsA_up (fun q hq => rsL_sV (hA q hq)) a3 a2, m_agr_trans r0 (rG_j a3), ?_, ?_⟩
      · rw [a3.1.1 52 (by decide)]
        exact hv
      · rw [a3.1.1 56 (by decide)]
        rfl
    by_cases c : U.length ≤ mo
    · obtain ⟨S', a1, a2⟩ := fin (S.1 52) (by rw [h52, Nat.max_eq_left c])
      refine ⟨S', ?_, a2⟩
      have cl : mj_c2 .le (S.2.1 49 9) (S.1 52) = true := by rw [h3.1, h52]; exact (c_le (by omega) (by omega)).trans (decide_eq_true c)
      simp only [M274, h2, e0, cond_true, cl, a1]
    · obtain ⟨S', a1, a2⟩ := fin (S.2.1 49 9) (by rw [h3.1, Nat.max_eq_right (by omega)])
      refine ⟨S', ?_, a2⟩
      have cl : mj_c2 .le (S.2.1 49 9) (S.1 52) = false := by rw [h3.1, h52]; exact (c_le (by omega) (by omega)).trans (decide_eq_false c)
      simp only [M274, h2, e0, cond_true, cl, cond_false, a1]
  · refine ⟨fun q => absurd q (by omega), fun _ => ?_⟩
    simp only [M274, h2, e1, cond_false]
/-- unite -/
theorem M272_do (hN : 2000 ≤ N) {S : mS} {sl s set mo mid en a b : Nat} {x1 : Int32} {Ls : Nat → Ss} {la lb : List (Nat × Nat)} (hx : x1 = Int32.ofNat sl) (hsl : sl < 3) (hs : s < 24) (hset : set + 2 < 9) (hmid : S.2.1 10 (24 * sl + s) = Int32.ofNat mid) (hen : S.2.1 11 (24 * sl + s) = Int32.ofNat en) (hm24 : mid ≤ 24) (he24 : en ≤ 24) (hba : bch S sl mid la (s + 1)) (hbb : bch S sl en lb mid) (hla : la.length ≤ 1000) (hlb : lb.length ≤ 1000) (ha : fold_ la 1 = a) (hb : fold_ lb 1 = b) (ha1 : 1 ≤ a ∧ a ≤ 2147483649) (hb1 : 1 ≤ b ∧ b ≤ 2147483649) (hml : mlN a b ≤ 2147483648) (hA : rsA S Ls) (hg1 : gds (Ls (set + 1))) (hg2 : gds (Ls (set + 2))) (h52 : S.1 52 = Int32.ofNat mo) (hmo : mo ≤ 64) : ((insA (scl (mlN a b / a) (Ls (set + 1)) ++ scl (mlN a b / b) (Ls (set + 2))) []).length ≤ 64 → ∃ S', M272 N x1 (Int32.ofNat s) (Int32.ofNat set) S = some (1, S') ∧ rsA S' (upL Ls set (insA (scl (mlN a b / a) (Ls (set + 1)) ++ scl (mlN a b / b) (Ls (set + 2))) [])) ∧ rG S S' ∧ S'.1 52 = Int32.ofNat (max mo (insA (scl (mlN a b / a) (Ls (set + 1)) ++ scl (mlN a b / b) (Ls (set + 2))) []).length) ∧ S'.1 56 = S.1 56) ∧ (64 < (insA (scl (mlN a b / a) (Ls (set + 1)) ++ scl (mlN a b / b) (Ls (set + 2))) []).length → ∃ S', M272 N x1 (Int32.ofNat s) (Int32.ofNat set) S = some (0, S') ∧ rG S S' ∧ S'.1 52 = S.1 52 ∧ S'.1 51 = -2 ∧ ∃ Ls', rsA S' Ls') := by
  subst hx
  have k10 : 0 ≤ (Int32.ofNat (24 * sl + s)).toInt ∧ (Int32.ofNat (24 * sl + s)).toInt < mN 10 := n_at (by omega) (by show _ < 96; omega)
  have k11 : 0 ≤ (Int32.ofNat (24 * sl + s)).toInt ∧ (Int32.ofNat (24 * sl + s)).toInt < mN 11 := k10
  have tt : (Int32.ofNat (24 * sl + s)).toInt.toNat = 24 * sl + s := n_t (by omega)
  have f1 := M236_do (N := N) (S := S) hN (x1 := Int32.ofNat sl) (i_nat (by omega)) (by omega) hm24 hba hla
  have f2 := M236_do (N := N) (S := S) hN (x1 := Int32.ofNat sl) (i_nat (by omega)) (by omega) he24 hbb hlb
  rw [ha] at f1
  rw [hb] at f2
  have f3 := M240_do (N := N) (S := S) hN ha1 hb1
  obtain ⟨ml1, ⟨d1, d2, d5⟩, ⟨d3, d4, d6⟩⟩ := ml_ok ha1.1 hb1.1 hml
  have na : Int64.ofNat a ≠ 0 := fun q => by
    have := congrArg Int64.toInt q
    rw [j_nat (by omega), show (0 : Int64).toInt = 0 from rfl] at this
    omega
  have nb : Int64.ofNat b ≠ 0 := fun q => by
    have := congrArg Int64.toInt q
    rw [j_nat (by omega), show (0 : Int64).toInt = 0 from rfl] at this
    omega
  have va := j_divn (a := mlN a b) (b := a) (by omega) ha1.1 (by omega)
  have vb := j_divn (a := mlN a b) (b := b) (by omega) hb1.1 (by omega)
  obtain ⟨S1, b1, b2, b3⟩ := M273_do (N := N) (S := S)
  have A1 := rsA_9 hA b3
  have i1 : Int32.ofNat set + 1 = Int32.ofNat (set + 1) := i_inc (by omega)
  have i2 : Int32.ofNat set + 2 = Int32.ofNat (set + 2) := by rw [show (2 : Int32) = Int32.ofNat 2 from rfl, n_add]
  have is : Int32.ofNat s + 1 = Int32.ofNat (s + 1) := i_inc (by omega)
  obtain ⟨S2, c1, c2, c3⟩ := M269_do (N := N) (set := 9) (other := set + 1) (tm := mlN a b / a) hN (by omega) (by omega) (by omega) b2 (A1 (set + 1) (by omega)) (fun x hx => by cases hx) (fun x hx => (hg1.2 x hx).2.1)
  have A2 := rsA_9 A1 c3
  have gU1 : gds (insA (scl (mlN a b / a) (Ls (set + 1))) []) := gds_insA _ [] gds_nil (scl_gd d1 hg1.2)
  obtain ⟨S3, e1, e2, e3⟩ := M269_do (N := N) (set := 9) (other := set + 2) (tm := mlN a b / b) hN (by omega) (by omega) (by omega) c2 (A2 (set + 2) (by omega)) (fun x hx => (gU1.2 x hx).2.1) (fun x hx => (hg2.2 x hx).2.1)
  have A3 := rsA_9 A2 e3
  have gU : gds (insA (scl (mlN a b / b) (Ls (set + 2))) (insA (scl (mlN a b / a) (Ls (set + 1))) [])) := gds_insA _ _ gU1 (scl_gd d3 hg2.2)
  have c1' : M269 N 9 (Int32.ofNat (set + 1)) (Int64.ofNat (mlN a b / a)) S1 = some S2 := c1
  have e1' : M269 N 9 (Int32.ofNat (set + 2)) (Int64.ofNat (mlN a b / b)) S2 = some S3 := e1
  have g3 : rG S S3 := m_agr_trans (rG_j b3) (m_agr_trans (rG_j c3) (rG_j e3))
  have q52 : S3.1 52 = S.1 52 := by rw [e3.1.1 52 (by decide), c3.1.1 52 (by decide), b3.1.1 52 (by decide)]
  have q56 : S3.1 56 = S.1 56 := by rw [e3.1.1 56 (by decide), c3.1.1 56 (by decide), b3.1.1 56 (by decide)]
  obtain ⟨w1, w2⟩ := M274_do (N := N) (set := set) hN (by omega) e2 gU A3 (q52.trans h52) hmo
  rw [insA_app]
  have o1 : (1 : Int32) = 0 ∨ (1 : Int32) = 1 := Or.inr rfl
  constructor
  · intro hl
    obtain ⟨S', u1, u2, u3, u4, u5⟩ := w1 hl
    refine ⟨S', ?_, u2, m_agr_trans g3 u3, u4, u5.trans q56⟩
    simp only [M272, ix_24, if_pos k10, tt, is, hmid, f1, if_pos k11, hen, f2, f3, b1, if_pos na, i1, va, c1', if_pos nb, i2, vb, e1', u1, true_or, or_true, if_true, Option.bind_some]
  · intro hl
    have u1 := w2 hl
    refine ⟨m_sV S3 51 (-2), ?_, m_agr_sV g3 (by decide) _, q52, rfl, _, fun q hq => rsL_sV (A3 q hq)⟩
    simp only [M272, ix_24, if_pos k10, tt, is, hmid, f1, if_pos k11, hen, f2, f3, b1, if_pos na, i1, va, c1', if_pos nb, i2, vb, e1', u1, true_or, or_true, if_true, Option.bind_some]
end RSU
