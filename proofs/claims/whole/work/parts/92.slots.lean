/-! SLOTS AND THEIR RESULTS -/
def cslots (z : Nat) (H : mj_H) : Prop := H.1 (z + 4) = some (.inl (.object "DiceOdds$Slot", [.ref (z + 54), .ref (z + 57), .ref (z + 60)]))
/-- slot j: its program fs (hp: whether there is one), oc outcomes, their total, the two rows -/
def slR (z j : Nat) (H : mj_H) (hp : Int32) (fs : Option Nat) (oc : Nat) (tot : Int64) (os ws : List Value) : Prop := H.1 (z + 54 + 3 * j) = some (.inr (4, [.ref (z + 55 + 3 * j), .ref (z + 56 + 3 * j), .int hp, rv fs, .int (Int32.ofNat oc), .long tot])) ∧ H.1 (z + 55 + 3 * j) = some (.inl (.int, os)) ∧ H.1 (z + 56 + 3 * j) = some (.inl (.long, ws)) ∧ os.length = 64 ∧ ws.length = 64 ∧ oc ≤ 64
/-- the result as the reference has it -/
def rsV (j oc : Nat) (tot : Int64) (os ws : List Value) (S : mS) : Prop := 1 ≤ oc ∧ S.2.1 57 j = 1 ∧ S.2.1 58 j = Int32.ofNat oc ∧ S.2.2 61 j = tot ∧ ∀ i, i < oc → os[i]? = some (.int (S.2.1 59 (64 * j + i))) ∧ ws[i]? = some (.long (S.2.2 60 (64 * j + i)))
/-- of a result's numbers: ways are more than 0, their sum is the total, no more than 2^31 -/
def wsum (S : mS) (j : Nat) : Nat → Int
  | 0 => 0
  | n + 1 => wsum S j n + (S.2.2 60 (64 * j + n)).toInt
def rsN (j oc : Nat) (tot : Int64) (S : mS) : Prop := (∀ i, i < oc → 0 < (S.2.2 60 (64 * j + i)).toInt) ∧ wsum S j oc = tot.toInt ∧ tot.toInt ≤ 2147483648 ∧ ∀ i, i < oc → -999 ≤ (S.2.1 59 (64 * j + i)).toInt ∧ (S.2.1 59 (64 * j + i)).toInt ≤ 999
def rsR (j oc : Nat) (tot : Int64) (os ws : List Value) (S : mS) : Prop := (oc = 0 ∧ S.2.1 57 j = 0) ∨ (rsV j oc tot os ws S ∧ rsN j oc tot S)
def cSl (z : Nat) (H : mj_H) (S : mS) : Prop := cslots z H ∧ ∀ j, j < 3 → ∃ hp fs oc tot os ws, slR z j H hp fs oc tot os ws ∧ rsR j oc tot os ws S
/-- the row that the law's helpers answer in -/
def cout (z : Nat) (H : mj_H) : Prop := ∃ u, H.1 (z + 106) = some (.inl (.long, [.long u]))
section SLO
variable {xt : mj_X} {ct : Nat → Value} {O : OR} {N z : Nat} {H : mj_H} {S : mS}
theorem C80_do {s : Int32} : C80 xt ct O N s H = some (if 0 ≤ s.toInt ∧ s.toInt < 3 then 1 else 0, H) := by
  unfold C80 J80_13 J80_14
  cases h1 : mj_c1 .lt s with
  | true =>
    have := of_decide_eq_true h1
    rw [Int32.lt_iff_toInt_lt, q_0] at this
    have n : ¬ (0 ≤ s.toInt ∧ s.toInt < 3) := by omega
    rw [if_neg n]
    rfl
  | false =>
    have h1' := of_decide_eq_false h1
    rw [Int32.lt_iff_toInt_lt, q_0] at h1'
    cases h2 : mj_c2 .ge s 3 with
    | true =>
      have := of_decide_eq_true h2
      rw [Int32.le_iff_toInt_le, q_3] at this
      have n : ¬ (0 ≤ s.toInt ∧ s.toInt < 3) := by omega
      rw [if_neg n]
      rfl
    | false =>
      have := of_decide_eq_false h2
      rw [Int32.le_iff_toInt_le, q_3] at this
      have n : 0 ≤ s.toInt ∧ s.toInt < 3 := by omega
      rw [if_pos n]
      rfl
theorem M210_do {s : Int32} : M210 N s S = some (if 0 ≤ s.toInt ∧ s.toInt < 3 then 1 else 0, S) := by
  unfold M210
  rw [M205_do, q_0, q_2]
  by_cases h : 0 ≤ s.toInt ∧ s.toInt < 3
  · have h' : 0 ≤ s.toInt ∧ s.toInt ≤ 2 := by omega
    rw [if_pos h, if_pos h']
    rfl
  · have h' : ¬ (0 ≤ s.toInt ∧ s.toInt ≤ 2) := by omega
    rw [if_neg h, if_neg h']
    rfl
theorem C79_do (hx : cx z H) (hs : cslots z H) (s : Int32) : (∃ j : Nat, j < 3 ∧ s.toInt = j ∧ C79 xt ct O N (z + 1) s H = some (.inl (z + 54 + 3 * j), H)) ∨ (¬ (0 ≤ s.toInt ∧ s.toInt < 3) ∧ C79 xt ct O N (z + 1) s H = some (.inr H.2.1, mj_new H 6 (.inr (13, [])))) := by
  have g1 : gA H (z + 1) 5 1 = some (z + 4) := gA_of hx rfl
  have b0 : mj_c1 .ne 0 = false := by decide
  have b1 : mj_c1 .ne 1 = true := by decide
  by_cases h : 0 ≤ s.toInt ∧ s.toInt < 3
  · refine Or.inl ⟨s.toInt.toNat, by omega, by omega, ?_⟩
    have c := C80_do (xt := xt) (ct := ct) (O := O) (N := N) (H := H) (s := s)
    rw [if_pos h] at c
    have a : aA xt H (z + 4) s = some (z + 54 + 3 * s.toInt.toNat) := by
      refine aA_of hs rfl h.1 ?_
      rcases (show s.toInt.toNat = 0 ∨ s.toInt.toNat = 1 ∨ s.toInt.toNat = 2 by omega) with e | e | e <;> rw [e] <;> rfl
    simp only [C79, c, b1, cond_true, g1, a, Option.bind_some]
  · refine Or.inr ⟨h, ?_⟩
    have c := C80_do (xt := xt) (ct := ct) (O := O) (N := N) (H := H) (s := s)
    rw [if_neg h] at c
    simp only [C79, c, b0, cond_false, Option.bind_some]
theorem i_ne0 {x : Int32} (h : x.toInt ≠ 0) : mj_c1 .ne x = true := i_c1 (by show decide _ = true; apply decide_eq_true; exact h)
theorem i_is0 {x : Int32} (h : x.toInt = 0) : mj_c1 .ne x = false := i_c1 (by show decide _ = false; apply decide_eq_false; exact fun z => z h)
/-- a slot with a result, or why not -/
theorem res_both (hx : cx z H) (hs : cSl z H S) (s : Int32) : (∃ (j : Nat) (hp : Int32) (fs : Option Nat) (oc : Nat) (tot : Int64) (os ws : List Value), j < 3 ∧ s.toInt = j ∧ slR z j H hp fs oc tot os ws ∧ rsV j oc tot os ws S ∧ rsN j oc tot S ∧ C181 xt ct O N (z + 1) s H = some (.inl (z + 54 + 3 * j), H) ∧ M290 N s S = some (0, S)) ∨ ∃ (code : Int32) (ci : Nat), ((code = 1 ∧ ci = 13) ∨ (code = 2 ∧ ci = 14)) ∧ C181 xt ct O N (z + 1) s H = some (.inr H.2.1, mj_new H 6 (.inr (ci, []))) ∧ M290 N s S = some (code, S) := by
  have k5 : gK H (z + 1) 5 = some () := gK_of hx
  have m := M210_do (N := N) (S := S) (s := s)
  have b0 : mj_c1 .ne 0 = false := by decide
  have b1 : mj_c1 .ne 1 = true := by decide
  rcases C79_do (xt := xt) (ct := ct) (O := O) (N := N) hx hs.1 s with ⟨j, hj, hsj, c79⟩ | ⟨hn, c79⟩
  · rw [if_pos (by omega)] at m
    obtain ⟨hp, fs, oc, tot, os, ws, r1, r2⟩ := hs.2 j hj
    have g4 : gI H (z + 54 + 3 * j) 4 4 = some (Int32.ofNat oc) := gI_of r1.1 rfl
    have ho : (Int32.ofNat oc).toInt = oc := i_nat (by have := r1.2.2.2.2.2; omega)
    have hm : 0 ≤ s.toInt ∧ s.toInt < mN 57 := by rw [show mN 57 = 3 from rfl]; omega
    have hj2 : s.toInt.toNat = j := by omega
    rcases r2 with ⟨e1, e2⟩ | ⟨r2, rn⟩
    · refine Or.inr ⟨2, 14, Or.inr ⟨rfl, rfl⟩, ?_, ?_⟩
      · simp only [C181, k5, c79, tc, g4, i_is0 (x := Int32.ofNat oc) (by omega), cond_false, Option.bind_some]
      · simp only [M290, m, b1, cond_true, if_pos hm, hj2, e2, b0, cond_false, J290_25, Option.bind_some]
    · refine Or.inl ⟨j, hp, fs, oc, tot, os, ws, hj, hsj, r1, r2, rn, ?_, ?_⟩
      · have := r2.1
        simp only [C181, k5, c79, tc, g4, i_ne0 (x := Int32.ofNat oc) (by omega), cond_true, Option.bind_some]
      · simp only [M290, m, b1, cond_true, if_pos hm, hj2, r2.2.1, J290_25, Option.bind_some]
  · rw [if_neg hn] at m
    refine Or.inr ⟨1, 13, Or.inl ⟨rfl, rfl⟩, ?_, ?_⟩
    · simp only [C181, k5, c79, tc, Option.bind_some]
    · simp only [M290, m, b0, cond_false, J290_25, Option.bind_some]
/-- a helper's answer and the reference's, of a call that changes nothing: ints; longs -/
def cl_I (z : Nat) (H : mj_H) (S : mS) (C : Option (Int32 × mj_H)) (M : Option (Int32 × mS)) : Prop := (∃ b S', C = some (0, mj_put H (z + 106) (.inl (.long, [.long b.toInt64]))) ∧ M = some (b, S') ∧ S'.1 0 = 0 ∧ m_agr [0] [] [] S S') ∨ ∃ (code : Int32) (b : Int32) (S' : mS) (ci : Nat), code ≠ 0 ∧ C = some (code, mj_new H 6 (.inr (ci, []))) ∧ M = some (b, S') ∧ S'.1 0 = code ∧ m_agr [0] [] [] S S'
def cl_L (z : Nat) (H : mj_H) (S : mS) (C : Option (Int32 × mj_H)) (M : Option (Int64 × mS)) : Prop := (∃ b S', C = some (0, mj_put H (z + 106) (.inl (.long, [.long b]))) ∧ M = some (b, S') ∧ S'.1 0 = 0 ∧ m_agr [0] [] [] S S') ∨ ∃ (code : Int32) (b : Int64) (S' : mS) (ci : Nat), code ≠ 0 ∧ C = some (code, mj_new H 6 (.inr (ci, []))) ∧ M = some (b, S') ∧ S'.1 0 = code ∧ m_agr [0] [] [] S S'
theorem out_put (ho : cout z H) (b : Int64) : sL H (z + 106) 0 b = some (mj_put H (z + 106) (.inl (.long, [.long b]))) := by
  obtain ⟨u, ho⟩ := ho
  rw [sL_of (i := 0) ho (by decide) (Nat.zero_lt_one)]
  rfl
theorem gC_new {n ci : Nat} : gC (mj_new H n (.inr (ci, []))) H.2.1 = some ci := gC_of mj_new_eq
theorem ag_0 {c : Int32} : m_agr [0] [] [] S (m_sV S 0 c) := m_agr_sV m_agr_refl (by decide) _
theorem code_le {code : Int32} (h : code = 1 ∨ code = 2 ∨ code = 3) : mj_c1 .le code = false ∧ code ≠ 0 := by rcases h with rfl | rfl | rfl <;> decide
theorem outcomes_call (hx : cx z H) (hs : cSl z H S) (ho : cout z H) (s : Int32) : cl_I z H S (C179 xt ct O N (z + 1) s (z + 106) H) (M289 N s S) := by
  have k5 : gK H (z + 1) 5 = some () := gK_of hx
  have b0 : mj_c1 .le 0 = true := by decide
  rcases res_both (xt := xt) (ct := ct) (O := O) (N := N) hx hs s with ⟨j, hp, fs, oc, tot, os, ws, hj, hsj, r1, r2, rn, c, m⟩ | ⟨code, ci, hc, c, m⟩
  · have g4 : gI H (z + 54 + 3 * j) 4 4 = some (Int32.ofNat oc) := gI_of r1.1 rfl
    refine Or.inl ⟨Int32.ofNat oc, m_sV S 0 0, ?_, ?_, rfl, ag_0⟩
    · simp only [C179, C180, k5, c, tc, th, g4, out_put ho, Option.bind_some]
    · have hm : 0 ≤ s.toInt ∧ s.toInt < mN 58 := by rw [show mN 58 = 3 from rfl]; omega
      have hj2 : s.toInt.toNat = j := by omega
      simp only [M289, m, b0, cond_true, if_pos hm, hj2, r2.2.2.1, J289_26, Option.bind_some]
  · have hcl := code_le (code := code) (by rcases hc with ⟨h, -⟩ | ⟨h, -⟩ <;> simp [h])
    refine Or.inr ⟨code, 0, m_sV S 0 code, ci, hcl.2, ?_, ?_, rfl, ag_0⟩
    · rcases hc with ⟨rfl, rfl⟩ | ⟨rfl, rfl⟩ <;> simp [C179, C180, k5, c, tc, th, gC_new]
    · simp only [M289, m, hcl.1, cond_false, J289_26, Option.bind_some]
theorem total_call (hx : cx z H) (hs : cSl z H S) (ho : cout z H) (s : Int32) : cl_L z H S (C187 xt ct O N (z + 1) s (z + 106) H) (M294 N s S) := by
  have k5 : gK H (z + 1) 5 = some () := gK_of hx
  have b0 : mj_c1 .le 0 = true := by decide
  rcases res_both (xt := xt) (ct := ct) (O := O) (N := N) hx hs s with ⟨j, hp, fs, oc, tot, os, ws, hj, hsj, r1, r2, rn, c, m⟩ | ⟨code, ci, hc, c, m⟩
  · have g5 : gL H (z + 54 + 3 * j) 4 5 = some tot := gL_of r1.1 rfl
    refine Or.inl ⟨tot, m_sV S 0 0, ?_, ?_, rfl, ag_0⟩
    · simp only [C187, C188, k5, c, tc, th, g5, out_put ho, Option.bind_some]
    · have hm : 0 ≤ s.toInt ∧ s.toInt < mN 61 := by rw [show mN 61 = 3 from rfl]; omega
      have hj2 : s.toInt.toNat = j := by omega
      simp only [M294, m, b0, cond_true, if_pos hm, hj2, r2.2.2.2.1, J294_26, Option.bind_some]
  · have hcl := code_le (code := code) (by rcases hc with ⟨h, -⟩ | ⟨h, -⟩ <;> simp [h])
    refine Or.inr ⟨code, 0, m_sV S 0 code, ci, hcl.2, ?_, ?_, rfl, ag_0⟩
    · rcases hc with ⟨rfl, rfl⟩ | ⟨rfl, rfl⟩ <;> simp [C187, C188, k5, c, tc, th, gC_new]
    · simp only [M294, m, hcl.1, cond_false, J294_26, Option.bind_some]
end SLO
