section FIN2
variable {N : Nat}
/-- only factors of the draft differ -/
def onlyF (S S' : mS) : Prop := S'.1 = S.1 ∧ S'.2.1 = S.2.1 ∧ ∀ j i, ¬ (j = 12 ∧ 72 ≤ i) → S'.2.2 j i = S.2.2 j i
theorem L235_9_do (hN : 2000 ≤ N) {H : mj_H} {S0 : mS} {sts : List St} {nds : List Nd} {fcs : List Int32} (hs : drS S0 sts) (hn : drN S0 nds) (hT : ∀ s, s < sts.length → ∃ n A B t a, sts[s]? = some t ∧ sT H sts nds fcs n A B s t a) (hle : ∀ (s : Nat) (t : St), sts[s]? = some t → t.2.2.2.2.2.1 ≤ sts.length) : ∀ (k : Nat) (S : mS), k ≤ sts.length → onlyF S0 S → (∀ i t, k ≤ i → sts[i]? = some t → S.2.2 12 (72 + i) = Int64.ofNat t.2.2.2.2.2.2) → ∃ S', t_lp (B235_9 N) (k + 1) (Int32.ofNat k - 1, S) = some S' ∧ onlyF S0 S' ∧ ∀ i t, sts[i]? = some t → S'.2.2 12 (72 + i) = Int64.ofNat t.2.2.2.2.2.2 := by
  have h24 := hs.2.1
  intro k
  induction k with
  | zero =>
    intro S _ ho hf
    have c : mj_c1 .lt (Int32.ofNat 0 - 1) = true := by decide
    refine ⟨S, ?_, ho, fun i t hi => hf i t (Nat.zero_le _) hi⟩
    apply t_end
    simp only [B235_9, c, cond_true]
  | succ k ih =>
    intro S hk ho hf
    have ek : Int32.ofNat (k + 1) - 1 = Int32.ofNat k := (i_dec (by omega)).1
    rw [ek]
    have c : mj_c1 .lt (Int32.ofNat k) = false := i_c1 (by show decide _ = false; apply decide_eq_false; rw [i_nat (by omega)]; omega)
    have e72 := i_72 (i := k) (by omega)
    have et : (72 + Int32.ofNat k).toInt.toNat = 72 + k := by omega
    have c6 : 0 ≤ (72 + Int32.ofNat k).toInt ∧ (72 + Int32.ofNat k).toInt < mN 6 := by rw [show mN 6 = 96 from rfl]; omega
    have c7 : 0 ≤ (72 + Int32.ofNat k).toInt ∧ (72 + Int32.ofNat k).toInt < mN 7 := by rw [show mN 7 = 96 from rfl]; omega
    have c8 : 0 ≤ (72 + Int32.ofNat k).toInt ∧ (72 + Int32.ofNat k).toInt < mN 8 := by rw [show mN 8 = 96 from rfl]; omega
    have c10 : 0 ≤ (72 + Int32.ofNat k).toInt ∧ (72 + Int32.ofNat k).toInt < mN 10 := by rw [show mN 10 = 96 from rfl]; omega
    have c11 : 0 ≤ (72 + Int32.ofNat k).toInt ∧ (72 + Int32.ofNat k).toInt < mN 11 := by rw [show mN 11 = 96 from rfl]; omega
    have c12 : 0 ≤ (72 + Int32.ofNat k).toInt ∧ (72 + Int32.ofNat k).toInt < mN 12 := by rw [show mN 12 = 96 from rfl]; omega
    have q3 : (3 : Int32).toInt = ((3 : Nat) : Int) := rfl
    have i1 : Int32.ofNat k + 1 = Int32.ofNat (k + 1) := i_inc (by omega)
    have im : Int32.ofNat k + (-1) = Int32.ofNat k - 1 := by
      rcases Nat.eq_zero_or_pos k with q | q
      · subst q; decide
      · obtain ⟨j, rfl⟩ : ∃ j, k = j + 1 := ⟨k - 1, by omega⟩
        apply Int32.toInt_inj.mp
        rw [i_add (by rw [q_m1, i_nat (by omega)]; omega) (by rw [q_m1, i_nat (by omega)]; omega), i_sub (by rw [q_1, i_nat (by omega)]; omega) (by rw [q_1, i_nat (by omega)]; omega), q_1, q_m1]
        omega
    obtain ⟨n, A, B, t, a, t1, t2⟩ := hT k (by omega)
    obtain ⟨r1, r2, r3, r4, r5, r6⟩ := hs.2.2 k t t1
    rw [← ho.2.1] at r2 r3 r4 r5 r6
    have hn' : drN S nds := by
      unfold drN ndAt
      rw [ho.1, ho.2.1]
      exact hn
    have hend := hle k t t1
    have hr : ∀ i t, sts[i]? = some t → S.2.1 11 (24 * 3 + i) = Int32.ofNat t.2.2.2.2.2.1 := fun i t h => by rw [ho.2.1]; exact (hs.2.2 i t h).2.2.2.2.2
    -- the factor is kept: the next round
    have fin : ∀ f : Nat, f = t.2.2.2.2.2.2 → B235_9 N (Int32.ofNat k, S) = J235_146 N (Int32.ofNat k) (72 + Int32.ofNat k) (Int64.ofNat f) S → ∃ S', t_lp (B235_9 N) (k + 1 + 1) (Int32.ofNat k, S) = some S' ∧ onlyF S0 S' ∧ ∀ i t, sts[i]? = some t → S'.2.2 12 (72 + i) = Int64.ofNat t.2.2.2.2.2.2 := by
      intro f hff hB
      have hB2 : B235_9 N (Int32.ofNat k, S) = some (.inl (Int32.ofNat k - 1, m_sB S 12 (72 + k) (Int64.ofNat f))) := by
        rw [hB]
        unfold J235_146
        rw [if_pos c12, et, im]
      rw [t_one hB2]
      refine ih _ (by omega) ⟨ho.1, ho.2.1, fun j i hj => ?_⟩ (fun i t' hi ht' => ?_)
      · show (if j = 12 ∧ i = 72 + k then _ else S.2.2 j i) = _
        rw [if_neg (fun z => hj ⟨z.1, by omega⟩)]
        exact ho.2.2 j i hj
      · show (if 12 = 12 ∧ 72 + i = 72 + k then _ else S.2.2 12 (72 + i)) = _
        by_cases e : i = k
        · subst e
          rw [if_pos ⟨rfl, rfl⟩]
          rw [t1] at ht'
          cases ht'
          rw [hff]
        · rw [if_neg (by omega)]
          exact hf i t' (by omega) ht'
    cases n with
    | zero => exact t2.elim
    | succ n =>
      obtain ⟨-, -, b3, cc, e, tm, o1, o2, nx, s1, s2, A1, B1, k1, k2, k3, k4, k5⟩ := t2
      rcases k5 with ⟨q1, q2, q3', q4, q5, q6, q7⟩ | ⟨q1, q2, fe, l1, l2, q3', q4, q5, q6, q7, q8, q9, q10⟩ | ⟨q1, q2, q3', q4, q5, q6, q7, q8, l1, q9, q10, q11⟩
      · have ne3 : mj_c2 .ne (Int32.ofNat t.1) 3 = true := i_c2 (by show decide _ = true; apply decide_eq_true; rw [i_nat (by omega), q_3]; omega)
        have ne2 : mj_c2 .ne (Int32.ofNat t.1) 2 = true := i_c2 (by show decide _ = true; apply decide_eq_true; rw [i_nat (by omega), q_2]; omega)
        obtain ⟨g1, g2⟩ := r4 (by omega)
        have ef := exT_f _ _ _ _ _ q7
        have el := exT_fal _ _ _ _ _ q7
        have lp := L235_do (N := N) hN (x1 := Int32.ofNat k) (i := k) (by omega) g2 hn' el.2.2.2.1 (t.2.2.2.1 + 1 - t.2.2.1) t.2.2.1 1 (by omega) (by decide) (exT_nd _ _ _ _ _ q7)
        rw [← ef.1] at lp
        have hl2 := hn.2.1
        refine fin _ rfl ?_
        have J97 : J235_97 N (Int32.ofNat k) (72 + Int32.ofNat k) (Int64.ofNat t.2.2.2.2.2.2) S = J235_146 N (Int32.ofNat k) (72 + Int32.ofNat k) (Int64.ofNat t.2.2.2.2.2.2) S := by
          simp only [J235_97, if_pos c6, et, r2, ne2, cond_true]
        have J146 : J235_146 N (Int32.ofNat k) (72 + Int32.ofNat k) (Int64.ofNat t.2.2.2.2.2.2) S = some (.inl (Int32.ofNat k + (-1), m_sB S 12 (72 + Int32.ofNat k).toInt.toNat (Int64.ofNat t.2.2.2.2.2.2))) := by
          unfold J235_146
          rw [if_pos c12]
        rw [J97, J146] at lp
        rw [J146]
        simp only [B235_9, c, cond_false, if_pos c6, et, r2, ne3, cond_true, if_pos c8, g1]
        rw [et] at lp
        exact t_lp_more _ _ _ (show t.2.2.2.1 + 1 - t.2.2.1 + 1 ≤ N by omega) lp
      · have ne3 : mj_c2 .ne (Int32.ofNat t.1) 3 = true := by rw [q1]; decide
        have ne2 : mj_c2 .ne (Int32.ofNat t.1) 2 = false := by rw [q1]; decide
        obtain ⟨g1, g2⟩ := r4 (by omega)
        have g10 := r5 q1
        have ef := exT_f _ _ _ _ _ q3'
        have el := exT_fal _ _ _ _ _ q3'
        have lp := L235_do (N := N) hN (x1 := Int32.ofNat k) (i := k) (by omega) g2 hn' el.2.2.2.1 (t.2.2.2.1 + 1 - t.2.2.1) t.2.2.1 1 (by omega) (by decide) (exT_nd _ _ _ _ _ q3')
        rw [← ef.1] at lp
        have hl2 := hn.2.1
        have hmid := bk_le (fun s t a x => sT_end x) _ _ _ q7
        have hmid1 := bk_le (fun s t a x => sT_end x) _ _ _ q5
        obtain ⟨l1', u1, u2, u3, -⟩ := bch_of (S := S) (sl := 3) (by omega) hr l1 (k + 1) o1 (fun i t' a b => hf i t' a b) q4 q5
        obtain ⟨l2', v1, v2, v3, -⟩ := bch_of (S := S) (sl := 3) (by omega) hr l2 t.2.2.2.2.1 o2 (fun i t' a b => hf i t' (by omega) b) q6 q7
        have w1 := M236_do (N := N) hN (x1 := 3) q3 (by decide) (by omega) u1 (by rw [u3]; exact bk_len q5 (by omega))
        have w2 := M236_do (N := N) hN (x1 := 3) q3 (by decide) (by omega) v1 (by rw [v3]; exact bk_len q7 (by omega))
        rw [u2] at w1
        rw [v2] at w2
        have p1 : 1 ≤ fold_ l1 1 := fold_pos l1 1 (by decide) (fun x hx => (chn_pos l1 o1 q4 x hx).1)
        have p2 : 1 ≤ fold_ l2 1 := fold_pos l2 1 (by decide) (fun x hx => (chn_pos l2 o2 q6 x hx).1)
        have pb1 : fold_ l1 1 ≤ 2147483649 := fold_bd l1 1 (by decide)
        have pb2 : fold_ l2 1 ≤ 2147483649 := fold_bd l2 1 (by decide)
        have w3 := M240_do (N := N) (S := S) hN ⟨p1, pb1⟩ ⟨p2, pb2⟩
        have mp := mlN_do _ _ ⟨p1, pb1⟩ ⟨p2, pb2⟩
        have w4 := M237_do (N := N) (S := S) el.2.1.2 (show mlN (fold_ l1 1) (fold_ l2 1) ≤ 2147483649 from prN_le) (prN_pos mp.2.2.1 p2)
        rw [← q8] at w4
        refine fin _ rfl ?_
        have J97 : J235_97 N (Int32.ofNat k) (72 + Int32.ofNat k) (Int64.ofNat fe) S = J235_146 N (Int32.ofNat k) (72 + Int32.ofNat k) (Int64.ofNat t.2.2.2.2.2.2) S := by
          simp only [J235_97, if_pos c6, et, r2, ne2, cond_false, if_pos c10, if_pos c11, i1, g10, r6, w1, w2, w3, w4, Option.bind_some]
        have J146 : J235_146 N (Int32.ofNat k) (72 + Int32.ofNat k) (Int64.ofNat t.2.2.2.2.2.2) S = some (.inl (Int32.ofNat k + (-1), m_sB S 12 (72 + Int32.ofNat k).toInt.toNat (Int64.ofNat t.2.2.2.2.2.2))) := by
          unfold J235_146
          rw [if_pos c12]
        rw [J97, J146] at lp
        rw [J146]
        simp only [B235_9, c, cond_false, if_pos c6, et, r2, ne3, cond_true, if_pos c8, g1]
        rw [et] at lp
        exact t_lp_more _ _ _ (show t.2.2.2.1 + 1 - t.2.2.1 + 1 ≤ N by omega) lp
      · have ne3 : mj_c2 .ne (Int32.ofNat t.1) 3 = false := by rw [q1]; decide
        have ne2 : mj_c2 .ne (Int32.ofNat t.1) 2 = true := by rw [q1]; decide
        have hmid1 := bk_le (fun s t a x => sT_end x) _ _ _ q10
        obtain ⟨l1', u1, u2, u3, -⟩ := bch_of (S := S) (sl := 3) (by omega) hr l1 (k + 1) o1 (fun i t' a b => hf i t' a b) q9 q10
        have w1 := M236_do (N := N) hN (x1 := 3) q3 (by decide) (by omega) u1 (by rw [u3]; exact bk_len q10 (by omega))
        rw [u2] at w1
        have p1 : 1 ≤ fold_ l1 1 := fold_pos l1 1 (by decide) (fun x hx => (chn_pos l1 o1 q9 x hx).1)
        have pb1 : fold_ l1 1 ≤ 2147483649 := fold_bd l1 1 (by decide)
        have w2 := M238_do (N := N) (S := S) hN (a := fold_ l1 1) (t := t.2.1) ⟨p1, pb1⟩ (by omega)
        rw [← q11] at w2
        refine fin _ rfl ?_
        simp only [B235_9, c, cond_false, if_pos c6, et, r2, ne3, if_pos c11, i1, r6, w1, if_pos c7, r3, w2, J235_97, ne2, cond_true, Option.bind_some]
end FIN2
