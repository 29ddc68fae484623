/-! STATES OF THE REFERENCE: ten sets -/
def rsL (S : mS) (set : Nat) (L : Ss) : Prop := S.2.1 49 set = Int32.ofNat L.length ∧ L.length ≤ 64 ∧ ∀ (i : Nat) (x : Vs × Nat), L[i]? = some x → S.2.2 48 (64 * set + i) = Int64.ofNat x.2 ∧ ∀ n, n < 6 → S.2.1 47 (384 * set + 6 * i + n) = stf x.1 n
/-- nothing but this set has changed -/
def jfr (set : Nat) (S S' : mS) : Prop := m_agr [50] [47, 49] [48] S S' ∧ (∀ p, ¬ (384 * set ≤ p ∧ p < 384 * set + 384) → S'.2.1 47 p = S.2.1 47 p) ∧ (∀ p, ¬ (64 * set ≤ p ∧ p < 64 * set + 64) → S'.2.2 48 p = S.2.2 48 p) ∧ ∀ q, q ≠ set → S'.2.1 49 q = S.2.1 49 q
theorem jfr_refl {set : Nat} {S : mS} : jfr set S S := ⟨m_agr_refl, fun _ _ => rfl, fun _ _ => rfl, fun _ _ => rfl⟩
theorem jfr_trans {set : Nat} {S S1 S2 : mS} (x : jfr set S S1) (y : jfr set S1 S2) : jfr set S S2 := ⟨m_agr_trans x.1 y.1, fun p h => (y.2.1 p h).trans (x.2.1 p h), fun p h => (y.2.2.1 p h).trans (x.2.2.1 p h), fun q h => (y.2.2.2 q h).trans (x.2.2.2 q h)⟩
theorem rsL_jfr {set o : Nat} {S S' : mS} {L : Ss} (h : rsL S o L) (f : jfr set S S') (ho : o ≠ set) : rsL S' o L := by
  obtain ⟨h1, h2, h3⟩ := h
  refine ⟨(f.2.2.2 o ho).trans h1, h2, fun i x hx => ?_⟩
  have hi := (List.getElem?_eq_some_iff.mp hx).1
  obtain ⟨e1, e2⟩ := h3 i x hx
  exact ⟨(f.2.2.1 _ (by omega)).trans e1, fun n hn => (f.2.1 _ (by omega)).trans (e2 n hn)⟩
theorem rsL_ag {S S' : mS} {set : Nat} {L : Ss} (h : rsL S set L) {F A B : List Nat} (a : m_agr F A B S S') (c : 47 ∉ A ∧ 49 ∉ A ∧ 48 ∉ B) : rsL S' set L := by
  obtain ⟨h1, h2, h3⟩ := h
  refine ⟨by rw [a.2.1 49 c.2.1]; exact h1, h2, fun i x hx => ?_⟩
  rw [a.2.1 47 c.1, a.2.2 48 c.2.2]
  exact h3 i x hx
/-- the state that is looked for -/
def cndR (S : mS) (other state : Nat) (name v : Int32) (k : Vs) : Prop := ∀ j, j < 6 → (mj_c2 .ne (Int32.ofNat j) name = true ∧ S.2.1 47 (384 * other + 6 * state + j) = stf k j) ∨ (mj_c2 .ne (Int32.ofNat j) name = false ∧ v = stf k j)
theorem cndR_fr {S S' : mS} {other state : Nat} {name v : Int32} {k : Vs} (h : cndR S other state name v k) (e : ∀ j, j < 6 → S'.2.1 47 (384 * other + 6 * state + j) = S.2.1 47 (384 * other + 6 * state + j)) : cndR S' other state name v k := fun j hj => by
  rcases h j hj with ⟨a, b⟩ | q
  · exact Or.inl ⟨a, (e j hj).trans b⟩
  · exact Or.inr q
section RST
variable {N : Nat}
theorem a47 {set i n : Nat} (hs : set < 10) (hi : i < 64) (hn : n < 6) : (0 ≤ (Int32.ofNat (384 * set + 6 * i + n)).toInt ∧ (Int32.ofNat (384 * set + 6 * i + n)).toInt < mN 47) ∧ (Int32.ofNat (384 * set + 6 * i + n)).toInt.toNat = 384 * set + 6 * i + n := ⟨n_at (by omega) (by show _ < 3840; omega), n_t (by omega)⟩
theorem a48 {set i : Nat} (hs : set < 10) (hi : i < 64) : (0 ≤ (Int32.ofNat (64 * set + i)).toInt ∧ (Int32.ofNat (64 * set + i)).toInt < mN 48) ∧ (Int32.ofNat (64 * set + i)).toInt.toNat = 64 * set + i := ⟨n_at (by omega) (by show _ < 640; omega), n_t (by omega)⟩
theorem a49 {set : Nat} (hs : set < 10) : (0 ≤ (Int32.ofNat set).toInt ∧ (Int32.ofNat set).toInt < mN 49) ∧ (Int32.ofNat set).toInt.toNat = set := ⟨n_at (by omega) (by show _ < 10; omega), n_t (by omega)⟩
theorem ix_64 {a b : Nat} : 64 * Int32.ofNat a + Int32.ofNat b = Int32.ofNat (64 * a + b) := by rw [show (64 : Int32) = Int32.ofNat 64 from rfl, n_mul, n_add]
/-- isSame -/
theorem M271_do (hN : 2000 ≤ N) {S : mS} {set i other state : Nat} {name v : Int32} {k : Vs} {x : Vs × Nat} (hs : set < 10) (hi : i < 64) (ho : other < 10) (hst : state < 64) (hx : ∀ n, n < 6 → S.2.1 47 (384 * set + 6 * i + n) = stf x.1 n) (hc : cndR S other state name v k) (hx6 : x.1.length = 6) (hk6 : k.length = 6) : (x.1 = k → M271 N (Int32.ofNat set) (Int32.ofNat i) (Int32.ofNat other) (Int32.ofNat state) name v S = some (1, S)) ∧ (x.1 ≠ k → M271 N (Int32.ofNat set) (Int32.ofNat i) (Int32.ofNat other) (Int32.ofNat state) name v S = some (0, S)) := by
  have e1 : mj_c1 .eq 1 = false := by decide
  have e0 : mj_c1 .eq 0 = true := by decide
  have key : ∀ d j fl, j + d = 6 → ((fl = 1 ∧ ∀ q, q < j → stf x.1 q = stf k q) ∨ (fl = 0 ∧ ∃ q, q < 6 ∧ stf x.1 q ≠ stf k q)) → (x.1 = k → t_lp (B271_6 N) (d + 1) (Int32.ofNat set, Int32.ofNat i, Int32.ofNat other, Int32.ofNat state, name, v, fl, Int32.ofNat j, S) = some (1, S)) ∧ (x.1 ≠ k → t_lp (B271_6 N) (d + 1) (Int32.ofNat set, Int32.ofNat i, Int32.ofNat other, Int32.ofNat state, name, v, fl, Int32.ofNat j, S) = some (0, S)) := by
    intro d
    induction d with
    | zero =>
      intro j fl hj hfl
      have c : mj_c2 .ge (Int32.ofNat j) 6 = true := c_geT (a := j) (b := 6) (by omega) (by omega) (by omega)
      rcases hfl with ⟨rfl, h⟩ | ⟨rfl, q, q1, q2⟩
      · refine ⟨fun _ => t_end ?_ _, fun ne => absurd (stf_ext hx6 hk6 (fun n hn => h n (by omega))) ne⟩
        simp only [B271_6, c, cond_true, true_or, or_true, if_true]
      · refine ⟨fun e => absurd (by rw [e]) q2, fun _ => t_end ?_ _⟩
        simp only [B271_6, c, cond_true, true_or, or_true, if_true]
    | succ d ih =>
      intro j fl hj hfl
      have c : mj_c2 .ge (Int32.ofNat j) 6 = false := c_geF (a := j) (b := 6) (by omega) (by omega) (by omega)
      obtain ⟨ka, ta⟩ := a47 (set := set) (i := i) (n := j) hs hi (by omega)
      obtain ⟨kb, tb⟩ := a47 (set := other) (i := state) (n := j) ho hst (by omega)
      have hxj := hx j (by omega)
      -- with the value that is due
      have due : ∀ r, J271_44 N (Int32.ofNat set) (Int32.ofNat i) (Int32.ofNat other) (Int32.ofNat state) name v fl (Int32.ofNat j) (stf k j) S = r → B271_6 N (Int32.ofNat set, Int32.ofNat i, Int32.ofNat other, Int32.ofNat state, name, v, fl, Int32.ofNat j, S) = r := by
        intro r hr
        rcases hc j (by omega) with ⟨n1, n2⟩ | ⟨n1, n2⟩
        · simp only [B271_6, c, cond_false, n1, cond_true, ix_384, if_pos kb, tb, n2]
          exact hr
        · simp only [B271_6, c, cond_false, n1]
          rw [← n2] at hr
          exact hr
      have st : ∀ fl', J271_44 N (Int32.ofNat set) (Int32.ofNat i) (Int32.ofNat other) (Int32.ofNat state) name v fl (Int32.ofNat j) (stf k j) S = some (.inl (Int32.ofNat set, Int32.ofNat i, Int32.ofNat other, Int32.ofNat state, name, v, fl', Int32.ofNat (j + 1), S)) → ((fl' = 1 ∧ ∀ q, q < j + 1 → stf x.1 q = stf k q) ∨ (fl' = 0 ∧ ∃ q, q < 6 ∧ stf x.1 q ≠ stf k q)) → (x.1 = k → t_lp (B271_6 N) (d + 1 + 1) (Int32.ofNat set, Int32.ofNat i, Int32.ofNat other, Int32.ofNat state, name, v, fl, Int32.ofNat j, S) = some (1, S)) ∧ (x.1 ≠ k → t_lp (B271_6 N) (d + 1 + 1) (Int32.ofNat set, Int32.ofNat i, Int32.ofNat other, Int32.ofNat state, name, v, fl, Int32.ofNat j, S) = some (0, S)) := by
        intro fl' w hw
        rw [t_one (due _ w)]
        exact ih (j + 1) fl' (by omega) hw
      rcases hfl with ⟨rfl, h⟩ | ⟨rfl, q⟩
      · by_cases e : stf x.1 j = stf k j
        · have ce : mj_c2 .ne (stf x.1 j) (stf k j) = false := decide_eq_false (fun q => q e)
          refine st 1 ?_ (Or.inl ⟨rfl, fun q hq => ?_⟩)
          · simp only [J271_44, e1, cond_false, ix_384, if_pos ka, ta, hxj, ce, J271_79, i_inc (show j < 1000000 by omega)]
          · by_cases w : q = j
            · rw [w]; exact e
            · exact h q (by omega)
        · have ce : mj_c2 .ne (stf x.1 j) (stf k j) = true := decide_eq_true e
          refine st 0 ?_ (Or.inr ⟨rfl, j, by omega, e⟩)
          simp only [J271_44, e1, cond_false, ix_384, if_pos ka, ta, hxj, ce, cond_true, J271_78, J271_79, i_inc (show j < 1000000 by omega)]
      · refine st 0 ?_ (Or.inr ⟨rfl, q⟩)
        simp only [J271_44, e0, cond_true, J271_78, J271_79, i_inc (show j < 1000000 by omega)]
  obtain ⟨a1, a2⟩ := key 6 0 1 (by omega) (Or.inl ⟨rfl, fun q hq => absurd hq (by omega)⟩)
  exact ⟨fun q => t_lp_more _ _ _ (by omega) (a1 q), fun q => t_lp_more _ _ _ (by omega) (a2 q)⟩
theorem jfr_47 {S : mS} {set i n : Nat} {v : Int32} (hi : i < 64) (hn : n < 6) : jfr set S (m_sA S 47 (384 * set + 6 * i + n) v) := by
  refine ⟨m_agr_sA m_agr_refl (by decide) _ _, fun p hp => ?_, fun _ _ => rfl, fun q _ => ?_⟩
  · show (if 47 = 47 ∧ p = 384 * set + 6 * i + n then v else S.2.1 47 p) = _
    rw [if_neg (fun q => hp (by omega))]
  · show (if 49 = 47 ∧ q = 384 * set + 6 * i + n then v else S.2.1 49 q) = _
    rw [if_neg (fun w => absurd w.1 (by decide))]
theorem jfr_48 {S : mS} {set i : Nat} {v : Int64} (hi : i < 64) : jfr set S (m_sB S 48 (64 * set + i) v) := by
  refine ⟨m_agr_sB m_agr_refl (by decide) _ _, fun _ _ => rfl, fun p hp => ?_, fun _ _ => rfl⟩
  show (if 48 = 48 ∧ p = 64 * set + i then v else S.2.2 48 p) = _
  rw [if_neg (fun q => hp (by omega))]
theorem jfr_49 {S : mS} {set : Nat} {v : Int32} : jfr set S (m_sA S 49 set v) := by
  refine ⟨m_agr_sA m_agr_refl (by decide) _ _, fun p _ => ?_, fun _ _ => rfl, fun q hq => ?_⟩
  · show (if 47 = 49 ∧ p = set then v else S.2.1 47 p) = _
    rw [if_neg (fun w => absurd w.1 (by decide))]
  · show (if 49 = 49 ∧ q = set then v else S.2.1 49 q) = _
    rw [if_neg (fun w => hq w.2)]
/-- join -/
theorem M270_do (hN : 2000 ≤ N) {S : mS} {set other state : Nat} {name v : Int32} {k : Vs} {w : Nat} {L : Ss} (hs : set < 10) (ho : other < 10) (hso : set ≠ other) (hst : state < 64) (hr : rsL S set L) (hc : cndR S other state name v k) (hk6 : k.length = 6) (h6 : ∀ x ∈ L, x.1.length = 6) : ((ins k w L).length ≤ 64 → ∃ S', M270 N (Int32.ofNat set) (Int32.ofNat other) (Int32.ofNat state) name v (Int64.ofNat w) S = some S' ∧ rsL S' set (ins k w L) ∧ jfr set S S' ∧ S'.1 = S.1) ∧ (64 < (ins k w L).length → M270 N (Int32.ofNat set) (Int32.ofNat other) (Int32.ofNat state) name v (Int64.ofNat w) S = some (m_sV S 50 1)) := by
  obtain ⟨h1, h2, h3⟩ := hr
  obtain ⟨k9, t9⟩ := a49 hs
  -- ways given to a state
  have give : ∀ (S1 : mS) (i w0 : Nat), i < 64 → S1.2.2 48 (64 * set + i) = Int64.ofNat w0 → J270_148 N (Int32.ofNat set) (Int64.ofNat w) (Int32.ofNat i) S1 = some (m_sB S1 48 (64 * set + i) (Int64.ofNat (w0 + w))) := by
    intro S1 i w0 hi e
    obtain ⟨k8, t8⟩ := a48 hs hi
    simp only [J270_148, ix_64, if_pos k8, t8, e, l_add]
  have key : ∀ d i, i + d = L.length → (∀ (q : Nat) (x : Vs × Nat), q < i → L[q]? = some x → x.1 ≠ k) → ((ins k w L).length ≤ 64 → ∃ S', t_lp (B270_3 N) (d + 1) (Int32.ofNat set, Int32.ofNat other, Int32.ofNat state, name, v, Int64.ofNat w, Int32.ofNat i, S) = some S' ∧ rsL S' set (ins k w L) ∧ jfr set S S' ∧ S'.1 = S.1) ∧ (64 < (ins k w L).length → t_lp (B270_3 N) (d + 1) (Int32.ofNat set, Int32.ofNat other, Int32.ofNat state, name, v, Int64.ofNat w, Int32.ofNat i, S) = some (m_sV S 50 1)) := by
    intro d
    induction d with
    | zero =>
      intro i hi hp
      have hi' : i = L.length := by omega
      subst hi'
      have ei : ins k w L = L ++ [(k, w)] := ins_no L (fun x hx => by
        obtain ⟨q, hq, e⟩ := List.mem_iff_getElem.mp hx
        exact hp q x hq (by rw [List.getElem?_eq_getElem hq, e]))
      have c := c_geT (a := L.length) (b := L.length) (by omega) (by omega) (Nat.le_refl _)
      rw [ei, List.length_append, List.length_singleton]
      constructor
      · intro hl
        have c64 : mj_c2 .ne (Int32.ofNat L.length) 64 = true := (c_ne (b := 64) (by omega) (by omega)).trans (decide_eq_true (by omega))
        have cn : mj_c2 .ne (Int32.ofNat L.length) (Int32.ofNat L.length) = false := decide_eq_false (fun q => q rfl)
        obtain ⟨k8, t8⟩ := a48 (i := L.length) hs (by omega)
        obtain ⟨S1, hS1⟩ : ∃ x, m_sB (m_sA S 49 set (Int32.ofNat L.length + 1)) 48 (64 * set + L.length) 0 = x := ⟨_, rfl⟩
        have j1 : jfr set S S1 := by rw [← hS1]; exact jfr_trans jfr_49 (jfr_48 (by omega))
        -- its values
        have cp : ∀ d j (S2 : mS), j + d = 6 → jfr set S S2 → S2.1 = S.1 → S2.2.1 49 set = Int32.ofNat (L.length + 1) → (∀ p, p < 64 * set + L.length ∨ 64 * set + L.length < p → S2.2.2 48 p = S.2.2 48 p) → S2.2.2 48 (64 * set + L.length) = 0 → (∀ p, p < 384 * set + 6 * L.length → S2.2.1 47 p = S.2.1 47 p) → (∀ q, q < j → S2.2.1 47 (384 * set + 6 * L.length + q) = stf k q) → ∃ S', t_lp (B270_86 N) (d + 1) (Int32.ofNat set, Int32.ofNat other, Int32.ofNat state, name, v, Int64.ofNat w, Int32.ofNat L.length, Int32.ofNat j, S2) = some S' ∧ rsL S' set (L ++ [(k, w)]) ∧ jfr set S S' ∧ S'.1 = S.1 := by
          intro d
          induction d with
          | zero =>
            intro j S2 hj f0 f1 f2 f3 f4 f5 f6
            have c6 : mj_c2 .ge (Int32.ofNat j) 6 = true := c_geT (a := j) (b := 6) (by omega) (by omega) (by omega)
            have gv := give S2 L.length 0 (by omega) f4
            rw [Nat.zero_add] at gv
            refine ⟨_, t_end (by simp only [B270_86, c6, cond_true, gv, Option.map_some]; rfl) _, ⟨?_, ?_, fun q y hy => ?_⟩, jfr_trans f0 (jfr_48 (by omega)), f1⟩
            · show S2.2.1 49 set = _
              rw [f2, List.length_append, List.length_singleton]
            · rw [List.length_append, List.length_singleton]; exact hl
            · show (if 48 = 48 ∧ 64 * set + q = 64 * set + L.length then Int64.ofNat w else S2.2.2 48 (64 * set + q)) = _ ∧ ∀ n, n < 6 → S2.2.1 47 (384 * set + 6 * q + n) = _
              by_cases e : q < L.length
              · rw [List.getElem?_append_left e] at hy
                rw [if_neg (by omega), f3 _ (by omega)]
                exact ⟨(h3 q y hy).1, fun n hn => by rw [f5 _ (by omega)]; exact (h3 q y hy).2 n hn⟩
              · have hq := (List.getElem?_eq_some_iff.mp hy).1
                rw [List.length_append, List.length_singleton] at hq
                have e2 : q = L.length := by omega
                subst e2
                rw [List.getElem?_append_right (Nat.le_refl _), Nat.sub_self] at hy
                rw [← Option.some.inj hy, if_pos ⟨rfl, rfl⟩]
                exact ⟨rfl, fun n hn => f6 n (by omega)⟩
          | succ d ih =>
            intro j S2 hj f0 f1 f2 f3 f4 f5 f6
            have c6 : mj_c2 .ge (Int32.ofNat j) 6 = false := c_geF (a := j) (b := 6) (by omega) (by omega) (by omega)
            obtain ⟨ka, ta⟩ := a47 (set := set) (i := L.length) (n := j) hs (by omega) (by omega)
            obtain ⟨kb, tb⟩ := a47 (set := other) (i := state) (n := j) ho hst (by omega)
            have st : B270_86 N (Int32.ofNat set, Int32.ofNat other, Int32.ofNat state, name, v, Int64.ofNat w, Int32.ofNat L.length, Int32.ofNat j, S2) = some (.inl (Int32.ofNat set, Int32.ofNat other, Int32.ofNat state, name, v, Int64.ofNat w, Int32.ofNat L.length, Int32.ofNat (j + 1), m_sA S2 47 (384 * set + 6 * L.length + j) (stf k j))) := by
              rcases hc j (by omega) with ⟨n1, n2⟩ | ⟨n1, n2⟩
              · have o47 : S2.2.1 47 (384 * other + 6 * state + j) = stf k j := by rw [f0.2.1 _ (by omega)]; exact n2
                simp only [B270_86, c6, cond_false, n1, cond_true, ix_384, if_pos kb, tb, o47, J270_141, if_pos ka, ta, i_inc (show j < 1000000 by omega)]
              · simp only [B270_86, c6, cond_false, n1, ix_384, J270_141, if_pos ka, ta, i_inc (show j < 1000000 by omega), n2]
            rw [t_one st]
            refine ih (j + 1) _ (by omega) (jfr_trans f0 (jfr_47 (by omega) (by omega))) f1 ?_ f3 f4 (fun p hp => ?_) (fun q hq => ?_)
            · show (if 49 = 47 ∧ set = 384 * set + 6 * L.length + j then stf k j else S2.2.1 49 set) = _
              rw [if_neg (fun w => absurd w.1 (by decide))]
              exact f2
            · show (if 47 = 47 ∧ p = 384 * set + 6 * L.length + j then stf k j else S2.2.1 47 p) = _
              rw [if_neg (by omega)]
              exact f5 p hp
            · show (if 47 = 47 ∧ 384 * set + 6 * L.length + q = 384 * set + 6 * L.length + j then stf k j else S2.2.1 47 (384 * set + 6 * L.length + q)) = _
              by_cases e : q = j
              · rw [if_pos ⟨rfl, by omega⟩, e]
              · rw [if_neg (by omega)]
                exact f6 q (by omega)
        obtain ⟨S', b1, b2, b3, b4⟩ := cp 6 0 S1 (by omega) j1 (by rw [← hS1]; rfl) (by
            rw [← hS1]
            show (if 49 = 49 ∧ set = set then Int32.ofNat L.length + 1 else S.2.1 49 set) = _
            rw [if_pos ⟨rfl, rfl⟩, i_inc (by omega)]) (fun p hp => by
            rw [← hS1]
            show (if 48 = 48 ∧ p = 64 * set + L.length then 0 else S.2.2 48 p) = _
            rw [if_neg (by omega)]) (by
            rw [← hS1]
            show (if 48 = 48 ∧ 64 * set + L.length = 64 * set + L.length then 0 else S.2.2 48 (64 * set + L.length)) = _
            rw [if_pos ⟨rfl, rfl⟩]) (fun p hp => by
            rw [← hS1]
            show (if 47 = 49 ∧ p = set then Int32.ofNat L.length + 1 else S.2.1 47 p) = _
            rw [if_neg (fun w => absurd w.1 (by decide))]) (fun q hq => absurd hq (by omega))
        refine ⟨S', ?_, b2, b3, b4⟩
        have b1' : L270_86 N (Int32.ofNat set, Int32.ofNat other, Int32.ofNat state, name, v, Int64.ofNat w, Int32.ofNat L.length, 0, S1) = some S' := t_lp_more _ _ _ (by omega) b1
        refine t_end ?_ _
        simp only [B270_3, if_pos k9, t9, h1, c, cond_true, J270_36, c64, cn, cond_false, ix_64, if_pos k8, t8, hS1, b1', Option.map_some]
      · intro hl
        have c64 : mj_c2 .ne (Int32.ofNat L.length) 64 = false := (c_ne (b := 64) (by omega) (by omega)).trans (decide_eq_false (by omega))
        refine t_end ?_ _
        simp only [B270_3, if_pos k9, t9, h1, c, cond_true, J270_36, c64, cond_false, Option.map_some]
    | succ d ih =>
      intro i hi hp
      have c := c_geF (a := i) (b := L.length) (by omega) (by omega) (by omega)
      have hlt : i < L.length := by omega
      obtain ⟨x, hx⟩ : ∃ x, L[i]? = some x := ⟨_, List.getElem?_eq_getElem hlt⟩
      have x6 := h6 x (List.mem_of_getElem? hx)
      have rx := h3 i x hx
      obtain ⟨l1, l2⟩ := M271_do (N := N) (x := x) hN hs (show i < 64 by omega) ho hst rx.2 hc x6 hk6
      by_cases e : x.1 = k
      · have lk := l1 e
        have ei : ins k w L = L.set i (k, x.2 + w) := ins_at L i x.2 hp (by rw [hx, ← e])
        have n1 : mj_c1 .ne 1 = true := by decide
        have c64 : mj_c2 .ne (Int32.ofNat i) 64 = true := (c_ne (b := 64) (by omega) (by omega)).trans (decide_eq_true (by omega))
        have cn : mj_c2 .ne (Int32.ofNat i) (Int32.ofNat L.length) = true := (c_ne (by omega) (by omega)).trans (decide_eq_true (by omega))
        have gv := give S i x.2 (by omega) rx.1
        rw [ei, List.length_set]
        refine ⟨fun _ => ⟨_, t_end (by simp only [B270_3, if_pos k9, t9, h1, c, cond_false, lk, n1, cond_true, J270_36, c64, cn, gv, Option.bind_some, Option.map_some]; rfl) _, ⟨?_, ?_, fun q y hy => ?_⟩, jfr_48 (by omega), rfl⟩, fun q => absurd q (by omega)⟩
        · show S.2.1 49 set = _
          rw [List.length_set]; exact h1
        · rw [List.length_set]; exact h2
        · show (if 48 = 48 ∧ 64 * set + q = 64 * set + i then Int64.ofNat (x.2 + w) else S.2.2 48 (64 * set + q)) = _ ∧ ∀ n, n < 6 → S.2.1 47 (384 * set + 6 * q + n) = _
          rw [List.getElem?_set] at hy
          by_cases e2 : i = q
          · rw [if_pos e2, if_pos hlt] at hy
            rw [← Option.some.inj hy, if_pos ⟨rfl, by omega⟩]
            refine ⟨rfl, fun n hn => ?_⟩
            rw [← e2, ← e]
            exact rx.2 n hn
          · rw [if_neg e2] at hy
            rw [if_neg (by omega)]
            exact h3 q y hy
      · have lk := l2 e
        have n0 : mj_c1 .ne 0 = false := by decide
        have st : B270_3 N (Int32.ofNat set, Int32.ofNat other, Int32.ofNat state, name, v, Int64.ofNat w, Int32.ofNat i, S) = some (.inl (Int32.ofNat set, Int32.ofNat other, Int32.ofNat state, name, v, Int64.ofNat w, Int32.ofNat (i + 1), S)) := by
          simp only [B270_3, if_pos k9, t9, h1, c, cond_false, lk, n0, i_inc (show i < 1000000 by omega), Option.bind_some]
        rw [t_one st]
        exact ih (i + 1) (by omega) (fun q y hq hy => by
          by_cases w : q = i
          · rw [w, hx] at hy
            rw [← Option.some.inj hy]
            exact e
          · exact hp q y (by omega) hy)
  obtain ⟨a1, a2⟩ := key L.length 0 (by omega) (fun q x hq => absurd hq (by omega))
  refine ⟨fun q => ?_, fun q => t_lp_more _ _ _ (by omega) (a2 q)⟩
  obtain ⟨S', b1, b2⟩ := a1 q
  exact ⟨S', t_lp_more _ _ _ (by omega) b1, b2⟩
end RST
