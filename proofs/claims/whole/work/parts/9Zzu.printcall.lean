/-! PRINT: BOTH ANSWER ALIKE -/
/-- a program's printed text -/
def prT (sts : List St) (nds : List Nd) (fcs : List Int32) : List Int32 := prB sts (prS sts nds fcs 5) 25 0 sts.length
/-- a slot's program on both sides, and its printed text is not too long -/
def prgP (z v : Nat) (H : mj_H) (S : mS) (j : Nat) (fs : Option Nat) : Prop := ∃ (A B : Nat) (sts : List St) (nds : List Nd) (fcs : List Int32) (l : List (Nat × Nat)), z + 107 ≤ A ∧ A ≤ B ∧ B ≤ H.2.1 ∧ (v < A ∨ B ≤ v) ∧ chn H l fs ∧ bk (sT H sts nds fcs 5 A B) sts l 0 sts.length ∧ pgR S j sts nds fcs ∧ fold_ l 1 ≤ 2147483648 ∧ (prT sts nds fcs).length ≤ 160
def pslotP (z v : Nat) (H : mj_H) (S : mS) (j : Nat) (hp : Int32) (fs : Option Nat) : Prop := (hp = 0 ∧ S.2.1 4 j = 0) ∨ (hp = 1 ∧ S.2.1 4 j = 1 ∧ prgP z v H S j fs)
theorem pslotP_to {z v : Nat} {H : mj_H} {S : mS} {j : Nat} {hp : Int32} {fs : Option Nat} (h : pslotP z v H S j hp fs) : pslot z v H S j hp fs := by
  rcases h with h | ⟨h1, h2, A, B, sts, nds, fcs, l, p1, p2, p3, p4, p5, p6, p7, p8, -⟩
  · exact Or.inl h
  · exact Or.inr ⟨h1, h2, A, B, sts, nds, fcs, l, p1, p2, p3, p4, p5, p6, p7, p8⟩
section PCL
variable {xt : mj_X} {ct : Nat → Value} {N z : Nat}
/-- print, the reference: a whole program -/
theorem M245_go {H : mj_H} {s : Int32} {j A B : Nat} {sts : List St} {nds : List Nd} {fcs : List Int32} {l : List (Nat × Nat)} {S : mS} (hN : 2000 ≤ N) (hs : s.toInt = j) (hj : j < 3) (hb : bk (sT H sts nds fcs 5 A B) sts l 0 sts.length) (hp : pgR S j sts nds fcs) (hl : (prT sts nds fcs).length ≤ 160) (h4 : S.2.1 4 j = 1) : ∃ S', M245 N s S = some (Int32.ofNat (prT sts nds fcs).length, S') ∧ txR (prT sts nds fcs) S' ∧ m_agr [0, 2, 40, 56] [1, 39, 53, 55] [] S S' ∧ S'.1 0 = 0 := by
  obtain ⟨q1, q2, q3, q4, q5, q6, q7⟩ := hp
  obtain ⟨S1, hS1⟩ : ∃ w, m_sV (m_sV (m_sV S 0 0) 2 0) 56 0 = w := ⟨_, rfl⟩
  have l0 : mj_c1 .le 0 = true := by decide
  have e0 : M246 N s S = some (0, S) := ((M246_do (N := N) (S := S) s).2 j hj hs).2 h4
  have ag : m_agr [0, 2, 40, 56] [1, 39, 53, 55] [] S S1 := by
    rw [← hS1]
    refine ⟨fun i hi => ?_, fun i _ => rfl, fun i _ => rfl⟩
    have i0 : i ≠ 0 := fun e => hi (by rw [e]; decide)
    have i2 : i ≠ 2 := fun e => hi (by rw [e]; decide)
    have i56 : i ≠ 56 := fun e => hi (by rw [e]; decide)
    show (if i = 56 then 0 else if i = 2 then 0 else if i = 0 then 0 else S.1 i) = S.1 i
    rw [if_neg i56, if_neg i2, if_neg i0]
  have hz : S1.1 0 = 0 ∧ S1.1 2 = 0 ∧ S1.1 56 = 0 := by rw [← hS1]; exact ⟨rfl, rfl, rfl⟩
  have st1 : sst S1 j sts nds fcs [] [] := by
    refine ⟨⟨hz.2.1, by decide, (fun i c h => by cases h), (fun c h => by cases h)⟩, ?_, ?_, hz.2.2, by decide, fun i b h => by cases h⟩
    · rw [← hS1]
      exact ⟨q1, fun i t it => ⟨(q5 i t it).1, (q5 i t it).2.1, (q5 i t it).2.2.1, (q5 i t it).2.2.2.1, (q5 i t it).2.2.2.2.1, (q5 i t it).2.2.2.2.2.1⟩⟩
    · rw [← hS1]
      exact ⟨q6, q7⟩
  have fin : ∀ S' : mS, SEr N s sts.length [] sts.length S' (S'.1 2, S') := by
    intro S'
    have b0 : mj_c1 .eq 0 = true := by decide
    unfold SEr
    have e : t_lp (B247_13 N) (([] : List (Nat × Nat)).length + 2) (s, Int32.ofNat sts.length, moreI [], S') = some S' := t_end (by simp only [B247_13, moreI, b0, cond_true]) _
    rw [e]
    show rstP N s sts.length sts.length S' = _
    unfold rstP
    rw [if_neg (by omega)]
  have key : ∃ S', sst S' j sts nds fcs (prT sts nds fcs) [] ∧ sg4 S1 S' ∧ t_lp (B245_30 N) (30 - 0) (s, Int32.ofNat 0, S1) = some (S'.1 2, S') := by
    by_cases h : sts.length = 0
    · have e : prT sts nds fcs = [] := by
        unfold prT
        rw [prB, if_neg (by omega)]
      rw [e]
      refine ⟨S1, st1, m_agr_refl, LP_SE hN hs hj q2 st1.2.1 st1.2.2.2 (by omega) ?_⟩
      have f := fin S1
      rw [h] at f ⊢
      exact f
    · obtain ⟨S', a1, a2, a3⟩ := (SP_do (N := N) hN hs hj q3 q4 q2 5).2 A B l 0 sts.length 24 (by omega) (by omega) (by omega) hb S1 [] [] st1 (by decide) (fun b r h => by cases h) (by
        have : ([] : List Int32).length = 0 := rfl
        rw [this, Nat.zero_add]
        exact hl)
      refine ⟨S', a1, a2, LP_SE hN hs hj q2 st1.2.1 st1.2.2.2 (by omega) (SE_next hs hj q2 st1 (by omega) (fun b r h => by cases h) (a3 _ (fin S')))⟩
  obtain ⟨S', k1, k2, k3⟩ := key
  refine ⟨S', ?_, k1.1, m_agr_trans ag (m_agr_mono k2 (by decide) (by decide) (by decide)), (k2.1 0 (by decide)).trans hz.1⟩
  have w : L245_30 N (s, 0, S1) = some (S'.1 2, S') := t_lp_more _ _ _ (by omega) k3
  simp only [M245, e0, l0, cond_true, hS1, w, Option.bind_some]
  rw [k1.1.1]
/-- print: both answer alike -/
theorem print_call (hN : 2000 ≤ N) (hd : dgZ xt ct z) {H : mj_H} {S : mS} {v : Nat} {bs : List Value} {tx : List Int32} (hx : cx z H) (hc : cslots z H) (hw : wst z H v bs tx) (hr : txR tx S) (s : Int32) (hp : ∀ j, j < 3 → ∃ hp fs oc tot os ws, slR z j H hp fs oc tot os ws ∧ pslotP z v H S j hp fs) : (∃ (a : Int32) (H' : mj_H) (S' : mS) (v' : Nat) (bs' : List Value) (tx' : List Int32), C120 xt ct (TT xt ct N 100) N (z + 1) s H = some (.inl a, H') ∧ M245 N s S = some (a, S') ∧ wst z H' v' bs' tx' ∧ tstep z H v bs H' v' bs' ∧ txR tx' S' ∧ m_agr [0, 2, 40, 56] [1, 39, 53, 55] [] S S' ∧ S'.1 0 = 0) ∨ (C120 xt ct (TT xt ct N 100) N (z + 1) s H = some (.inr H.2.1, mj_new H 6 (.inr (13, []))) ∧ M245 N s S = some (0, m_sV S 0 1)) ∨ (C120 xt ct (TT xt ct N 100) N (z + 1) s H = some (.inr H.2.1, mj_new H 6 (.inr (14, []))) ∧ M245 N s S = some (0, m_sV S 0 2)) := by
  have k0 : gK H (z + 1) 5 = some () := gK_of hx
  have l1 : mj_c1 .le 1 = false := by decide
  have l2 : mj_c1 .le 2 = false := by decide
  obtain ⟨c1, c2⟩ := C121_do (xt := xt) (ct := ct) (O := TT xt ct N 100) (N := N) hx hc s
  obtain ⟨m1, m2⟩ := M246_do (N := N) (S := S) s
  by_cases hs : 0 ≤ s.toInt ∧ s.toInt < 3
  · obtain ⟨j, hj⟩ : ∃ j : Nat, s.toInt = j := ⟨s.toInt.toNat, by omega⟩
    obtain ⟨hp', fs, oc, tot, os, ws, s1, s2⟩ := hp j (by omega)
    obtain ⟨d1, d2⟩ := c2 j (by omega) hj hp' fs oc tot os ws s1
    obtain ⟨e1, e2⟩ := m2 j (by omega) hj
    rcases s2 with ⟨rfl, s3⟩ | ⟨rfl, s3, A, B, sts, nds, fcs, l, p1, p2, p3, p4, p5, p6, p7, p8, p9⟩
    · refine Or.inr (Or.inr ⟨?_, ?_⟩)
      · simp only [C120, k0, d1 rfl, tc, Option.bind_some]
      · simp only [M245, e1 s3, l2, cond_false, Option.bind_some]
    · refine Or.inl ?_
      obtain ⟨S', n1, n2, n3, n4⟩ := M245_go (H := H) hN hj (by omega) p6 p7 p9 s3
      obtain ⟨w1, w2, w3, w4, w5⟩ := hw
      obtain ⟨H1, g1, g2, g3, g4⟩ := C37_0 (xt := xt) (ct := ct) (O := TT xt ct N 100) (N := N) w1
      obtain ⟨v1, v2, v3⟩ := w2
      have wst1 : wst z H1 v bs [] := ⟨g2, ⟨v1, by rw [g4]; exact v2, by rw [g4]; exact v3⟩, w3, w4, fun q hq => (g3 q (by omega)).trans (w5 q hq)⟩
      have okh1 : okh A B H H1 v := ⟨fun q a b => g3 q (by omega), p4, by rw [g4]; exact p3⟩
      obtain ⟨q1, q2, q3, q4, q5, q6, q7⟩ := p7
      obtain ⟨H2, v2', bs2, f1, f2, f3⟩ := (CP_wr (N := N) (H0 := H) hN hd q3 q4 q2 5 99 (by omega) A B p1).2 l 0 sts.length 24 fs (by omega) (by omega) p5 p6 H1 v bs [] okh1 wst1 (by
        have : ([] : List Int32).length = 0 := rfl
        rw [this, Nat.zero_add]
        exact p9)
      have x1 : H1.1 (z + 1) = H.1 (z + 1) := g3 _ (by omega)
      have x2 : H2.1 (z + 1) = H1.1 (z + 1) := f3.1 _ (by omega) (by omega) (by rw [g4]; omega)
      have t1 : gR H1 (z + 54 + 3 * j) 4 3 = some fs := gR_of ((g3 _ (by omega)).trans s1.1) rfl
      have y0 : gA H (z + 1) 5 0 = some (z + 2) := gA_of hx rfl
      have y1 : gA H1 (z + 1) 5 0 = some (z + 2) := gA_of (x1.trans hx) rfl
      have y2 : gA H2 (z + 1) 5 0 = some (z + 2) := gA_of (x2.trans (x1.trans hx)) rfl
      have u0 : gK H (z + 2) 0 = some () := gK_of w1.1.choose_spec
      have u2 : gK H2 (z + 2) 0 = some () := gK_of f2.1.1.choose_spec
      have c10 := C10_sb (xt := xt) (ct := ct) (O := TT xt ct N 100) (N := N) f2.1
      have f1' : (TT xt ct N 100).2.2.2.1 fs (z + 2) H1 = some H2 := f1
      refine ⟨Int32.ofNat (prT sts nds fcs).length, H2, S', v2', bs2, prT sts nds fcs, ?_, n1, f2, ?_, n2, n3, n4⟩
      · simp only [C120, k0, d2 rfl, tc, y0, u0, g1, t1, y1, f1', y2, u2, c10, Option.bind_some]
        rfl
      · obtain ⟨t1, t2, t3, t4, t5, t6, t7, t8, n1, n2, n3, n4, n5⟩ := f3
        rw [g4] at t1 t2 t4 t5 t6 t8 n1 n2 n5
        exact ⟨fun q a b c => (t1 q a b c).trans (g3 q a), t2, t3, t4, t5, t6, t7, t8, n1, n2, n3, n4, n5⟩
  · refine Or.inr (Or.inl ⟨?_, ?_⟩)
    · simp only [C120, k0, c1 hs, tc, Option.bind_some]
    · simp only [M245, m1 hs, l1, cond_false, Option.bind_some]
end PCL
