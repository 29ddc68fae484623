section MOC
variable {xt : mj_X} {ct : Nat → Value} {O : OR} {N z : Nat} {H : mj_H} {S : mS}
/-- three kinds of a slot: none such, without a result, with one -/
theorem slot3 (hx : cx z H) (hs : cSl z H S) (s : Int32) : (¬ (0 ≤ s.toInt ∧ s.toInt < 3) ∧ C181 xt ct O N (z + 1) s H = some (.inr H.2.1, mj_new H 6 (.inr (13, []))) ∧ M210 N s S = some (0, S)) ∨ (∃ j : Nat, j < 3 ∧ s.toInt = j ∧ S.2.1 57 j = 0 ∧ C181 xt ct O N (z + 1) s H = some (.inr H.2.1, mj_new H 6 (.inr (14, []))) ∧ M210 N s S = some (1, S)) ∨ ∃ (j : Nat) (hp : Int32) (fs : Option Nat) (oc : Nat) (tot : Int64) (os ws : List Value), j < 3 ∧ s.toInt = j ∧ slR z j H hp fs oc tot os ws ∧ rsV j oc tot os ws S ∧ rsN j oc tot S ∧ C181 xt ct O N (z + 1) s H = some (.inl (z + 54 + 3 * j), H) ∧ M210 N s S = some (1, S) := by
  have k5 : gK H (z + 1) 5 = some () := gK_of hx
  have m := M210_do (N := N) (S := S) (s := s)
  rcases C79_do (xt := xt) (ct := ct) (O := O) (N := N) hx hs.1 s with ⟨j, hj, hsj, c79⟩ | ⟨hn, c79⟩
  · rw [if_pos (by omega)] at m
    obtain ⟨hp, fs, oc, tot, os, ws, r1, r2⟩ := hs.2 j hj
    have g4 : gI H (z + 54 + 3 * j) 4 4 = some (Int32.ofNat oc) := gI_of r1.1 rfl
    have ho : (Int32.ofNat oc).toInt = oc := i_nat (by have := r1.2.2.2.2.2; omega)
    rcases r2 with ⟨e1, e2⟩ | ⟨r2, rn⟩
    · refine Or.inr (Or.inl ⟨j, hj, hsj, e2, ?_, m⟩)
      simp only [C181, k5, c79, tc, g4, i_is0 (x := Int32.ofNat oc) (by omega), cond_false, Option.bind_some]
    · refine Or.inr (Or.inr ⟨j, hp, fs, oc, tot, os, ws, hj, hsj, r1, r2, rn, ?_, m⟩)
      have := r2.1
      simp only [C181, k5, c79, tc, g4, i_ne0 (x := Int32.ofNat oc) (by omega), cond_true, Option.bind_some]
  · rw [if_neg hn] at m
    refine Or.inl ⟨hn, ?_, m⟩
    simp only [C181, k5, c79, tc, Option.bind_some]
theorem L295_x {s k x0 x : Int32} {c : Int32} (hN : 100 ≤ N) (hc : c ≠ 0) : L295_46 N (s, k, 0, x, m_sV S 0 c) = some (0, m_sV S 0 c) := by
  obtain ⟨n, rfl⟩ : ∃ n, N = n + 1 := ⟨N - 1, by omega⟩
  unfold L295_46
  have b : mj_c1 .ne ((m_sV S 0 c).1 0) = true := decide_eq_true hc
  rw [t_lp]
  simp only [B295_46, b, cond_true, J295_111, Option.map_some]
theorem moment_call (hN : 100 ≤ N) (hx : cx z H) (hs : cSl z H S) (ho : cout z H) (s k : Int32) : cl_L z H S (C189 xt ct O N (z + 1) s k (z + 106) H) (M295 N s k S) := by
  have k5 : gK H (z + 1) 5 = some () := gK_of hx
  have b0 : mj_c1 .ne 0 = false := by decide
  have b1 : mj_c1 .ne 1 = true := by decide
  have b2 : mj_c1 .eq 0 = true := by decide
  have b3 : mj_c1 .eq 1 = false := by decide
  have m205 := M205_do (N := N) (x := k) (lo := 1) (hi := 2) (S := S)
  rw [q_1, q_2] at m205
  have X1 := fun x => L295_x (N := N) (S := S) (s := s) (k := k) (x0 := 0) (x := x) (c := 1) hN (by decide)
  have X2 := fun x => L295_x (N := N) (S := S) (s := s) (k := k) (x0 := 0) (x := x) (c := 2) hN (by decide)
  have sl := slot3 (xt := xt) (ct := ct) (O := O) (N := N) hx hs s
  by_cases hk : 1 ≤ k.toInt ∧ k.toInt ≤ 2
  · rw [if_pos hk] at m205
    have ck : C190 xt ct O N (z + 1) s k H = J190_15 xt ct O N (z + 1) s k 1 H := by
      by_cases h1 : k.toInt = 1
      · have c1 : mj_c2 .eq k 1 = true := i_c2 (by show decide _ = true; apply decide_eq_true; rw [q_1]; exact h1)
        simp only [C190, c1, cond_true, J190_10]
      · have c1 : mj_c2 .eq k 1 = false := i_c2 (by show decide _ = false; apply decide_eq_false; rw [q_1]; exact h1)
        have c2 : mj_c2 .ne k 2 = false := i_c2 (by show decide _ = false; apply decide_eq_false; rw [q_2]; omega)
        simp only [C190, c1, c2, cond_false, J190_10]
    rcases sl with ⟨hn, c, m⟩ | ⟨j, hj, hsj, h57, c, m⟩ | ⟨j, hp, fs, oc, tot, os, ws, hj, hsj, r1, r2, rn, c, m⟩
    · refine Or.inr ⟨1, 0, m_sV S 0 1, 13, by decide, ?_, ?_, rfl, ag_0⟩
      · simp [C189, ck, J190_15, C191, b1, k5, c, tc, th, gC_new]
      · simp only [M295, m, b2, cond_true, J295_17, J295_35, X1, Option.bind_some]
    · have hm : 0 ≤ s.toInt ∧ s.toInt < mN 57 := by rw [show mN 57 = 3 from rfl]; omega
      refine Or.inr ⟨2, 0, m_sV S 0 2, 14, by decide, ?_, ?_, rfl, ag_0⟩
      · simp [C189, ck, J190_15, C191, b1, k5, c, tc, th, gC_new]
      · simp only [M295, m, b3, cond_false, m205, b1, cond_true, if_pos hm, show s.toInt.toNat = j by omega, h57, b0, J295_35, X2, Option.bind_some]
    · have hm : 0 ≤ s.toInt ∧ s.toInt < mN 57 := by rw [show mN 57 = 3 from rfl]; omega
      have hoc := r1.2.2.2.2.2
      have l1 : L190_30 xt ct O N (k, z + 54 + 3 * j, 0, 0, H) = some (.inl (mo k j S oc 0 0), H) := t_lp_more _ _ _ (by omega) (L190_do (xt := xt) (ct := ct) (O := O) (N := N) (k := k) r1 r2 oc 0 0 (by omega))
      have h64 : (64 * s) = Int32.ofNat (64 * j + 0) := i_eq (by
        have e : (64 : Int32).toInt = 64 := rfl
        rw [i_mul (by rw [e]; omega) (by rw [e]; omega), e, hsj]
        omega)
      have l2 : L295_46 N (s, k, 0, 64 * s, m_sV S 0 0) = some (mo k j S oc 0 0, m_sV S 0 0) := by
        rw [h64]
        exact t_lp_more _ _ _ (by omega) (L295_do (N := N) (k := k) hsj hj hoc r2 oc 0 0 (by omega))
      refine Or.inl ⟨mo k j S oc 0 0, m_sV S 0 0, ?_, ?_, rfl, ag_0⟩
      · simp only [C189, ck, J190_15, C191, b1, cond_true, k5, c, tc, th, l1, out_put ho, Option.bind_some]
      · simp only [M295, m, b3, cond_false, m205, b1, cond_true, if_pos hm, show s.toInt.toNat = j by omega, r2.2.1, J295_35, l2, Option.bind_some]
  · rw [if_neg hk] at m205
    have ck : C190 xt ct O N (z + 1) s k H = J190_15 xt ct O N (z + 1) s k 0 H := by
      have c1 : mj_c2 .eq k 1 = false := i_c2 (by show decide _ = false; apply decide_eq_false; rw [q_1]; omega)
      have c2 : mj_c2 .ne k 2 = true := i_c2 (by show decide _ = true; apply decide_eq_true; rw [q_2]; omega)
      simp only [C190, c1, c2, cond_false, cond_true]
    refine Or.inr ⟨1, 0, m_sV S 0 1, 13, by decide, ?_, ?_, rfl, ag_0⟩
    · simp [C189, ck, J190_15, C191, b0, k5, tc, th, gC_new]
    · rcases sl with ⟨hn, c, m⟩ | ⟨j, hj, hsj, h57, c, m⟩ | ⟨j, hp, fs, oc, tot, os, ws, hj, hsj, r1, r2, rn, c, m⟩
      · simp only [M295, m, b2, cond_true, J295_17, J295_35, X1, Option.bind_some]
      · simp only [M295, m, b3, cond_false, m205, b0, J295_17, J295_35, X1, Option.bind_some]
      · simp only [M295, m, b3, cond_false, m205, b0, J295_17, J295_35, X1, Option.bind_some]
end MOC
