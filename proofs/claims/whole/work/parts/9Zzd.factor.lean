/-! FACTOR; A SLOT WITH A PROGRAM -/
/-- slot j's program, told by both sides -/
def pslot (z v : Nat) (H : mj_H) (S : mS) (j : Nat) (hp : Int32) (fs : Option Nat) : Prop := (hp = 0 ∧ S.2.1 4 j = 0) ∨ (hp = 1 ∧ S.2.1 4 j = 1 ∧ prg z v H S j fs)
section FCT
variable {xt : mj_X} {ct : Nat → Value} {O : OR} {N z : Nat}
theorem C121_do {H : mj_H} (hx : cx z H) (hc : cslots z H) (s : Int32) : (¬ (0 ≤ s.toInt ∧ s.toInt < 3) → C121 xt ct O N (z + 1) s H = some (.inr H.2.1, mj_new H 6 (.inr (13, [])))) ∧ (∀ j : Nat, j < 3 → s.toInt = j → ∀ hp fs oc tot os ws, slR z j H hp fs oc tot os ws → (hp = 0 → C121 xt ct O N (z + 1) s H = some (.inr H.2.1, mj_new H 6 (.inr (14, [])))) ∧ (hp = 1 → C121 xt ct O N (z + 1) s H = some (.inl (z + 54 + 3 * j), H))) := by
  have k0 : gK H (z + 1) 5 = some () := gK_of hx
  have n0 : mj_c1 .ne 0 = false := by decide
  have n1 : mj_c1 .ne 1 = true := by decide
  rcases C79_do (xt := xt) (ct := ct) (O := O) (N := N) hx hc s with ⟨j', h1, h2, h3⟩ | ⟨h1, h2⟩
  · refine ⟨fun q => absurd (show 0 ≤ s.toInt ∧ s.toInt < 3 by omega) q, fun j hj hs hp fs oc tot os ws hsl => ?_⟩
    have : j' = j := by omega
    subst this
    have g : gI H (z + 54 + 3 * j') 4 2 = some hp := gI_of hsl.1 rfl
    constructor
    · intro e
      subst e
      simp only [C121, k0, h3, tc, g, n0, cond_false, Option.bind_some]
    · intro e
      subst e
      simp only [C121, k0, h3, tc, g, n1, cond_true, Option.bind_some]
  · refine ⟨fun _ => ?_, fun j hj hs => absurd (show 0 ≤ s.toInt ∧ s.toInt < 3 by omega) h1⟩
    simp only [C121, k0, h2, tc, Option.bind_some]
theorem M246_do {S : mS} (s : Int32) : (¬ (0 ≤ s.toInt ∧ s.toInt < 3) → M246 N s S = some (1, S)) ∧ (∀ j : Nat, j < 3 → s.toInt = j → (S.2.1 4 j = 0 → M246 N s S = some (2, S)) ∧ (S.2.1 4 j = 1 → M246 N s S = some (0, S))) := by
  have m0 := M210_do (N := N) (S := S) (s := s)
  have n0 : mj_c1 .ne 0 = false := by decide
  have n1 : mj_c1 .ne 1 = true := by decide
  constructor
  · intro h
    rw [if_neg h] at m0
    simp only [M246, m0, n0, cond_false, J246_25, Option.bind_some]
  · intro j hj hs
    rw [if_pos (by omega)] at m0
    have c4 : 0 ≤ s.toInt ∧ s.toInt < mN 4 := by rw [show mN 4 = 4 from rfl]; omega
    have t : s.toInt.toNat = j := by omega
    constructor
    · intro e
      simp only [M246, m0, n1, cond_true, if_pos c4, t, e, n0, cond_false, J246_25, Option.bind_some]
    · intro e
      simp only [M246, m0, n1, cond_true, if_pos c4, t, e, J246_25, Option.bind_some]
/-- factor: both answer alike -/
theorem factor_call (hN : 2000 ≤ N) {H : mj_H} {S : mS} {v : Nat} (hx : cx z H) (hc : cslots z H) (s : Int32) (hp : ∀ j, j < 3 → ∃ hp fs oc tot os ws, slR z j H hp fs oc tot os ws ∧ pslot z v H S j hp fs) : (∃ (a : Int64), C178 xt ct O N (z + 1) s H = some (.inl a, H) ∧ M258 N s S = some (a, m_sV S 0 0)) ∨ (C178 xt ct O N (z + 1) s H = some (.inr H.2.1, mj_new H 6 (.inr (13, []))) ∧ M258 N s S = some (0, m_sV S 0 1)) ∨ (C178 xt ct O N (z + 1) s H = some (.inr H.2.1, mj_new H 6 (.inr (14, []))) ∧ M258 N s S = some (0, m_sV S 0 2)) := by
  have k0 : gK H (z + 1) 5 = some () := gK_of hx
  have l0 : mj_c1 .le 0 = true := by decide
  have l1 : mj_c1 .le 1 = false := by decide
  have l2 : mj_c1 .le 2 = false := by decide
  obtain ⟨c1, c2⟩ := C121_do (xt := xt) (ct := ct) (O := O) (N := N) hx hc s
  obtain ⟨m1, m2⟩ := M246_do (N := N) (S := S) s
  by_cases hs : 0 ≤ s.toInt ∧ s.toInt < 3
  · obtain ⟨j, hj⟩ : ∃ j : Nat, s.toInt = j := ⟨s.toInt.toNat, by omega⟩
    obtain ⟨hp', fs, oc, tot, os, ws, s1, s2⟩ := hp j (by omega)
    obtain ⟨d1, d2⟩ := c2 j (by omega) hj hp' fs oc tot os ws s1
    obtain ⟨e1, e2⟩ := m2 j (by omega) hj
    rcases s2 with ⟨rfl, s3⟩ | ⟨rfl, s3, A, B, sts, nds, fcs, l, p1, p2, p3, p4, p5, p6, p7, p8⟩
    · refine Or.inr (Or.inr ⟨?_, ?_⟩)
      · simp only [C178, k0, d1 rfl, tc, Option.bind_some]
      · simp only [M258, e1 s3, l2, cond_false, J258_32, Option.bind_some]
    · refine Or.inl ⟨Int64.ofNat (fold_ l 1), ?_, ?_⟩
      · have g : gR H (z + 54 + 3 * j) 4 3 = some fs := gR_of s1.1 rfl
        have f := C112_do (xt := xt) (ct := ct) (O := O) (N := N) hN p5 (bk_len p6 p7.2.1)
        simp only [C178, k0, d2 rfl, tc, g, f, Option.bind_some]
      · have c5 : 0 ≤ s.toInt ∧ s.toInt < mN 5 := by rw [show mN 5 = 4 from rfl]; omega
        have t : s.toInt.toNat = j := by omega
        obtain ⟨q1, q2, q3, q4, q5, q6, q7⟩ := p7
        obtain ⟨l', u1, u2, u3, -⟩ := bch_of (S := m_sV S 0 0) (sl := j) q2 (fun i t it => (q5 i t it).2.2.2.2.2.1) l 0 fs (fun i t _ it => (q5 i t it).2.2.2.2.2.2) p5 p6
        have w := M236_do (N := N) hN (x1 := s) hj (by omega) q2 u1 (by rw [u3]; exact bk_len p6 q2)
        rw [u2] at w
        have w' : M236 N s 0 (Int32.ofNat sts.length) (m_sV S 0 0) = some (Int64.ofNat (fold_ l 1), m_sV S 0 0) := w
        simp only [M258, e2 s3, l0, cond_true, if_pos c5, t, q1, w', J258_32, Option.bind_some]
  · refine Or.inr (Or.inl ⟨?_, ?_⟩)
    · simp only [C178, k0, c1 hs, tc, Option.bind_some]
    · simp only [M258, m1 hs, l1, cond_false, J258_32, Option.bind_some]
end FCT
