/-! REPORTS: outcome, ways, moment -/
section REP
variable {xt : mj_X} {ct : Nat → Value} {O : OR} {N z : Nat} {H : mj_H} {S : mS}
theorem i_64 {s i : Int32} {j k : Nat} (hs : s.toInt = j) (hj : j < 3) (hi : i.toInt = k) (hk : k < 64) : (64 * s + i).toInt = 64 * j + k := by
  have e : (64 : Int32).toInt = 64 := rfl
  rw [i_add (by rw [i_mul (by rw [e]; omega) (by rw [e]; omega), e]; omega) (by rw [i_mul (by rw [e]; omega) (by rw [e]; omega), e]; omega), i_mul (by rw [e]; omega) (by rw [e]; omega), e, hs, hi]
/-- an outcome that is there, or why not -/
theorem out_both (hx : cx z H) (hs : cSl z H S) (s i : Int32) : (∃ (j : Nat) (hp : Int32) (fs : Option Nat) (oc : Nat) (tot : Int64) (os ws : List Value) (k : Nat), j < 3 ∧ s.toInt = j ∧ slR z j H hp fs oc tot os ws ∧ rsV j oc tot os ws S ∧ rsN j oc tot S ∧ i.toInt = k ∧ k < oc ∧ C184 xt ct O N (z + 1) s i H = some (.inl (z + 54 + 3 * j), H) ∧ M292 N s i S = some (0, S)) ∨ ∃ (code : Int32) (ci : Nat), ((code = 1 ∧ ci = 13) ∨ (code = 2 ∧ ci = 14) ∨ (code = 3 ∧ ci = 15)) ∧ C184 xt ct O N (z + 1) s i H = some (.inr H.2.1, mj_new H 6 (.inr (ci, []))) ∧ M292 N s i S = some (code, S) := by
  have k5 : gK H (z + 1) 5 = some () := gK_of hx
  have b0 : mj_c1 .le 0 = true := by decide
  have b1 : mj_c1 .ne 1 = true := by decide
  have b2 : mj_c1 .ne 0 = false := by decide
  rcases res_both (xt := xt) (ct := ct) (O := O) (N := N) hx hs s with ⟨j, hp, fs, oc, tot, os, ws, hj, hsj, r1, r2, rn, c, m⟩ | ⟨code, ci, hc, c, m⟩
  · have g4 : gI H (z + 54 + 3 * j) 4 4 = some (Int32.ofNat oc) := gI_of r1.1 rfl
    have hoc := r1.2.2.2.2.2
    have ho1 := r2.1
    have ho : (Int32.ofNat oc).toInt = oc := i_nat (by omega)
    have hm : 0 ≤ s.toInt ∧ s.toInt < mN 58 := by rw [show mN 58 = 3 from rfl]; omega
    have hj2 : s.toInt.toNat = j := by omega
    have hlo : (Int32.ofNat oc - 1).toInt = oc - 1 := by rw [i_sub (by rw [q_1]; omega) (by rw [q_1]; omega), q_1, ho]
    have m205 := M205_do (N := N) (x := i) (lo := 0) (hi := Int32.ofNat oc - 1) (S := S)
    rw [q_0, hlo] at m205
    by_cases hi : 0 ≤ i.toInt ∧ i.toInt < oc
    · refine Or.inl ⟨j, hp, fs, oc, tot, os, ws, i.toInt.toNat, hj, hsj, r1, r2, rn, by omega, by omega, ?_, ?_⟩
      · have c1 : mj_c1 .lt i = false := i_c1 (by show decide _ = false; apply decide_eq_false; omega)
        have c2 : mj_c2 .lt i (Int32.ofNat oc) = true := i_c2 (by show decide _ = true; apply decide_eq_true; omega)
        simp only [C184, k5, c, tc, c1, c2, cond_false, cond_true, g4, Option.bind_some]
      · rw [if_pos (by omega)] at m205
        simp only [M292, m, b0, cond_true, if_pos hm, hj2, r2.2.2.1, m205, b1, J292_35, Option.bind_some]
    · refine Or.inr ⟨3, 15, Or.inr (Or.inr ⟨rfl, rfl⟩), ?_, ?_⟩
      · cases c1 : mj_c1 .lt i with
        | true => simp only [C184, k5, c, tc, c1, cond_true, J184_18, Option.bind_some]
        | false =>
          have h1 := of_decide_eq_false c1
          rw [Int32.lt_iff_toInt_lt, q_0] at h1
          have c2 : mj_c2 .lt i (Int32.ofNat oc) = false := i_c2 (by show decide _ = false; apply decide_eq_false; omega)
          simp only [C184, k5, c, tc, c1, c2, cond_false, g4, J184_18, Option.bind_some]
      · rw [if_neg (by omega)] at m205
        simp only [M292, m, b0, cond_true, if_pos hm, hj2, r2.2.2.1, m205, b2, cond_false, J292_35, Option.bind_some]
  · have hcl := code_le (code := code) (by rcases hc with ⟨h, -⟩ | ⟨h, -⟩ <;> simp [h])
    refine Or.inr ⟨code, ci, by rcases hc with h | h <;> simp [h], ?_, ?_⟩
    · simp only [C184, k5, c, tc, Option.bind_some]
    · simp only [M292, m, hcl.1, cond_false, J292_35, Option.bind_some]
theorem code3 {code : Int32} {ci : Nat} (hc : (code = 1 ∧ ci = 13) ∨ (code = 2 ∧ ci = 14) ∨ (code = 3 ∧ ci = 15)) : mj_c1 .le code = false ∧ code ≠ 0 := code_le (by rcases hc with ⟨h, -⟩ | ⟨h, -⟩ | ⟨h, -⟩ <;> simp [h])
theorem outcome_call (hx : cx z H) (hs : cSl z H S) (ho : cout z H) (s i : Int32) : cl_I z H S (C182 xt ct O N (z + 1) s i (z + 106) H) (M291 N s i S) := by
  have k5 : gK H (z + 1) 5 = some () := gK_of hx
  have b0 : mj_c1 .le 0 = true := by decide
  rcases out_both (xt := xt) (ct := ct) (O := O) (N := N) hx hs s i with ⟨j, hp, fs, oc, tot, os, ws, k, hj, hsj, r1, r2, rn, hi, hk, c, m⟩ | ⟨code, ci, hc, c, m⟩
  · have hoc := r1.2.2.2.2.2
    have g0 : gA H (z + 54 + 3 * j) 4 0 = some (z + 55 + 3 * j) := gA_of r1.1 rfl
    have hv := (r2.2.2.2.2 k hk).1
    have a : aI xt H (z + 55 + 3 * j) i = some (S.2.1 59 (64 * j + k)) := aI_of r1.2.1 (by omega) (by rw [show i.toInt.toNat = k by omega]; exact hv)
    have h64 := i_64 hsj hj hi (by omega)
    have hm : 0 ≤ (64 * s + i).toInt ∧ (64 * s + i).toInt < mN 59 := by rw [show mN 59 = 192 from rfl]; omega
    refine Or.inl ⟨S.2.1 59 (64 * j + k), m_sV S 0 0, ?_, ?_, rfl, ag_0⟩
    · simp only [C182, C183, k5, c, tc, th, g0, a, out_put ho, Option.bind_some]
    · simp only [M291, m, b0, cond_true, if_pos hm, show (64 * s + i).toInt.toNat = 64 * j + k by omega, J291_32, Option.bind_some]
  · have hcl := code3 hc
    refine Or.inr ⟨code, 0, m_sV S 0 code, ci, hcl.2, ?_, ?_, rfl, ag_0⟩
    · rcases hc with ⟨rfl, rfl⟩ | ⟨rfl, rfl⟩ | ⟨rfl, rfl⟩ <;> simp [C182, C183, k5, c, tc, th, gC_new]
    · simp only [M291, m, hcl.1, cond_false, J291_32, Option.bind_some]
theorem ways_call (hx : cx z H) (hs : cSl z H S) (ho : cout z H) (s i : Int32) : cl_L z H S (C185 xt ct O N (z + 1) s i (z + 106) H) (M293 N s i S) := by
  have k5 : gK H (z + 1) 5 = some () := gK_of hx
  have b0 : mj_c1 .le 0 = true := by decide
  rcases out_both (xt := xt) (ct := ct) (O := O) (N := N) hx hs s i with ⟨j, hp, fs, oc, tot, os, ws, k, hj, hsj, r1, r2, rn, hi, hk, c, m⟩ | ⟨code, ci, hc, c, m⟩
  · have hoc := r1.2.2.2.2.2
    have g0 : gA H (z + 54 + 3 * j) 4 1 = some (z + 56 + 3 * j) := gA_of r1.1 rfl
    have hv := (r2.2.2.2.2 k hk).2
    have a : aL xt H (z + 56 + 3 * j) i = some (S.2.2 60 (64 * j + k)) := aL_of r1.2.2.1 (by omega) (by rw [show i.toInt.toNat = k by omega]; exact hv)
    have h64 := i_64 hsj hj hi (by omega)
    have hm : 0 ≤ (64 * s + i).toInt ∧ (64 * s + i).toInt < mN 60 := by rw [show mN 60 = 192 from rfl]; omega
    refine Or.inl ⟨S.2.2 60 (64 * j + k), m_sV S 0 0, ?_, ?_, rfl, ag_0⟩
    · simp only [C185, C186, k5, c, tc, th, g0, a, out_put ho, Option.bind_some]
    · simp only [M293, m, b0, cond_true, if_pos hm, show (64 * s + i).toInt.toNat = 64 * j + k by omega, J293_32, Option.bind_some]
  · have hcl := code3 hc
    refine Or.inr ⟨code, 0, m_sV S 0 code, ci, hcl.2, ?_, ?_, rfl, ag_0⟩
    · rcases hc with ⟨rfl, rfl⟩ | ⟨rfl, rfl⟩ | ⟨rfl, rfl⟩ <;> simp [C185, C186, k5, c, tc, th, gC_new]
    · simp only [M293, m, hcl.1, cond_false, J293_32, Option.bind_some]
/-- place and states -/
def cpar (z : Nat) (H : mj_H) (S : mS) : Prop := ∃ ln at_ sm lv, H.1 (z + 5) = some (.inr (1, [.ref (z + 6), .ref (z + 7), .int ln, .int at_, .int sm, .int lv, .int (S.1 3)]))
def cben (z : Nat) (H : mj_H) (S : mS) : Prop := ∃ sp, H.1 (z + 8) = some (.inr (3, [.ref (z + 9), .ref (z + 10), .ref (z + 11), .int sp, .ref (z + 12), .ref (z + 13), .int 0, .ref (z + 14), .ref (z + 22), .ref (z + 25), .ref (z + 28), .ref (z + 29), .int (S.1 52)]))
theorem place_call (hx : cx z H) (hp : cpar z H S) : C75 xt ct O N (z + 1) H = some (S.1 3, H) ∧ M244 N S = some (S.1 3, m_sV S 0 0) := by
  obtain ⟨ln, at_, sm, lv, hp⟩ := hp
  have g : gA H (z + 1) 5 2 = some (z + 5) := gA_of hx rfl
  have g2 : gI H (z + 5) 1 6 = some (S.1 3) := gI_of hp rfl
  exact ⟨by simp only [C75, g, g2, Option.bind_some], rfl⟩
theorem states_call (hx : cx z H) (hp : cben z H S) : C76 xt ct O N (z + 1) H = some (S.1 52, H) ∧ M288 N S = some (S.1 52, m_sV S 0 0) := by
  obtain ⟨sp, hp⟩ := hp
  have g : gA H (z + 1) 5 3 = some (z + 8) := gA_of hx rfl
  have g2 : gI H (z + 8) 3 12 = some (S.1 52) := gI_of hp rfl
  exact ⟨by simp only [C76, g, g2, Option.bind_some], rfl⟩
end REP
