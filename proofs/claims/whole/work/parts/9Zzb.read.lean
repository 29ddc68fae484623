/-! READ, BOTH SIDES -/
def ndW (x y : Nd) : Prop := x.1 = y.1 ∧ x.2.1 = y.2.1 ∧ x.2.2.1 = y.2.2.1 ∧ x.2.2.2.1 = y.2.2.2.1 ∧ x.2.2.2.2.1 = y.2.2.2.2.1 ∧ (y.1 ≠ 4 → x.2.2.2.2.2 = y.2.2.2.2.2)
/-- a slot's program in the reference's rows (what left is of dice changes when they are run) -/
def pgR (S : mS) (sl : Nat) (sts : List St) (nds : List Nd) (fcs : List Int32) : Prop := S.2.1 5 sl = Int32.ofNat sts.length ∧ sts.length ≤ 24 ∧ nds.length ≤ 160 ∧ fcs.length ≤ 160 ∧ (∀ (i : Nat) (t : St), sts[i]? = some t → t.1 ≤ 3 ∧ S.2.1 6 (24 * sl + i) = Int32.ofNat t.1 ∧ S.2.1 7 (24 * sl + i) = Int32.ofNat t.2.1 ∧ (t.1 ≠ 3 → S.2.1 8 (24 * sl + i) = Int32.ofNat t.2.2.1 ∧ S.2.1 9 (24 * sl + i) = Int32.ofNat t.2.2.2.1) ∧ (t.1 = 2 → S.2.1 10 (24 * sl + i) = Int32.ofNat t.2.2.2.2.1) ∧ S.2.1 11 (24 * sl + i) = Int32.ofNat t.2.2.2.2.2.1 ∧ S.2.2 12 (24 * sl + i) = Int64.ofNat t.2.2.2.2.2.2) ∧ (∀ (i : Nat) (nd : Nd), nds[i]? = some nd → ndW (ndAt S (160 * sl + i)) nd) ∧ ∀ (i : Nat) (x : Int32), fcs[i]? = some x → S.2.1 20 (160 * sl + i) = x
/-- a slot's program on both sides: its cells lie apart from the text's -/
def prg (z v : Nat) (H : mj_H) (S : mS) (j : Nat) (fs : Option Nat) : Prop := ∃ (A B : Nat) (sts : List St) (nds : List Nd) (fcs : List Int32) (l : List (Nat × Nat)), z + 107 ≤ A ∧ A ≤ B ∧ B ≤ H.2.1 ∧ (v < A ∨ B ≤ v) ∧ chn H l fs ∧ bk (sT H sts nds fcs 5 A B) sts l 0 sts.length ∧ pgR S j sts nds fcs ∧ fold_ l 1 ≤ 2147483648
section RDC
variable {xt : mj_X} {ct : Nat → Value} {N z : Nat} {tx : List Int32}
/-- a whole text read by the class -/
theorem C81_do (hN : 2000 ≤ N) (hf : ∃ o, vtO (ct 1) = some o) {H : mj_H} {v : Nat} {bs : List Value} {wp : Int32} (hv : v ≠ z + 5 ∧ v ≠ z + 6 ∧ v ≠ z + 7) (ht : txC tx) (hs : sb H (z + 2) v bs tx) (hp : pidle z H wp) (hfz : fz z H) (hz : z + 107 ≤ H.2.1) : (∀ w, rdT tx = .inl w → ∃ F pt st lv, C81 xt ct (TT xt ct N 100) N (z + 5) (z + 2) H = some (.inr F.2.1, mj_new F 6 (.inr (13, []))) ∧ pst z F tx pt st lv (Int32.ofNat w) ∧ fz z F ∧ (∀ q, q < H.2.1 → q ≠ z + 5 → q ≠ z + 6 → q ≠ z + 7 → F.1 q = H.1 q) ∧ H.2.1 ≤ F.2.1 ∧ F.2.1 ≤ H.2.1 + 160 ∧ F.2.2 ≤ H.2.2 + 1600 ∧ ∃ D : List Nat, D.length ≤ 80 ∧ ∀ q, H.2.1 ≤ q → q < F.2.1 → dcN D q (F.1 q)) ∧ (∀ q, rdT tx = .inr q → ∃ o G l, C81 xt ct (TT xt ct N 100) N (z + 5) (z + 2) H = some (.inl o, G) ∧ pst z G tx q.1.2.1 q.1.1.length q.1.2.2.1 wp ∧ fz z G ∧ (∀ q, q < H.2.1 → q ≠ z + 5 → q ≠ z + 6 → q ≠ z + 7 → G.1 q = H.1 q) ∧ H.2.1 ≤ G.2.1 ∧ G.2.1 ≤ H.2.1 + 160 ∧ G.2.2 ≤ H.2.2 + 1600 ∧ chn G l o ∧ bk (sT G q.1.1 q.1.2.2.2.1 q.1.2.2.2.2 5 H.2.1 G.2.1) q.1.1 l 0 q.1.1.length ∧ l.map Prod.snd = q.2 ∧ ∃ D : List Nat, D.length ≤ 80 ∧ ∀ q, H.2.1 ≤ q → q < G.2.1 → dcN D q (G.1 q)) ∧ (∀ q, rB tx 100 0 ([], 0, 0, [], []) = .inr q → ∃ (H : mj_H) (o : Option Nat) (l : List (Nat × Nat)) (m A B : Nat), chn H l o ∧ bk (sT H q.1.1 q.1.2.2.2.1 q.1.2.2.2.2 m A B) q.1.1 l 0 q.1.1.length ∧ l.map Prod.snd = q.2) := by
  obtain ⟨H1, a1, a2, a3, a4⟩ := C82_do (xt := xt) (ct := ct) (O := TT xt ct N 100) (N := N) hN hf hv ht hs hp
  have hl := ht.1
  have k0 : gK H (z + 5) 1 = some () := by
    obtain ⟨⟨a, b, c, d, h⟩, -⟩ := hp
    exact gK_of h
  have k1 := pst_k a2
  have n1 : H1.2.1 = H.2.1 := by rw [a4]
  have n1' : H1.2.2 = H.2.2 := by rw [a4]
  have fz1 := fz_fr hfz (a3 (z + 7) (by omega) (by omega))
  obtain ⟨x1, x2⟩ := CP_do (xt := xt) (ct := ct) (z := z) (tx := tx) (wp := wp) hN 100 0 ([], 0, 0, [], []) H1 (by decide) (by decide) a2 fz1 (by omega) (by decide) (by decide)
  have x1' : ∀ w, rB tx 100 0 ([], 0, 0, [], []) = .inl w → rthr z tx w 0 H1 ((TT xt ct N 100).1 (z + 5) 0 H1) := x1
  have x2' : ∀ q, rB tx 100 0 ([], 0, 0, [], []) = .inr q → ∃ o G l m, (TT xt ct N 100).1 (z + 5) 0 H1 = some (.inl o, G) ∧ pst z G tx q.1.2.1 q.1.1.length q.1.2.2.1 wp ∧ fz z G ∧ xfr z H1 G (q.1.2.1 - 0) ∧ chn G l o ∧ bk (sT G q.1.1 q.1.2.2.2.1 q.1.2.2.2.2 m H1.2.1 G.2.1) q.1.1 l 0 q.1.1.length ∧ l.map Prod.snd = q.2 ∧ m + 0 ≤ 5 := x2
  obtain ⟨O, hO⟩ : ∃ O, TT xt ct N 100 = O := ⟨_, rfl⟩
  rw [hO] at x1' x2' a1 ⊢
  have st0 : ∀ x, O.1 (z + 5) 0 H1 = x → C81 xt ct O N (z + 5) (z + 2) H = x.bind fun r10 => tc (fun z => z) r10 fun v13 => (gI r10.2 (z + 5) 1 3).bind fun r17 => (gI r10.2 (z + 5) 1 2).bind fun r20 => bif mj_c2 .ne r17 r20 then J81_28 xt ct O N (z + 5) v13 0 (z + 5) r10.2 else J81_28 xt ct O N (z + 5) v13 1 (z + 5) r10.2 := by
    intro x hx
    simp only [C81, k0, a1, k1, hx, Option.bind_some]
  -- what a throw gives
  have thr : ∀ w, rthr z tx w 0 H1 (C81 xt ct O N (z + 5) (z + 2) H) → ∃ F pt st lv, C81 xt ct O N (z + 5) (z + 2) H = some (.inr F.2.1, mj_new F 6 (.inr (13, []))) ∧ pst z F tx pt st lv (Int32.ofNat w) ∧ fz z F ∧ (∀ q, q < H.2.1 → q ≠ z + 5 → q ≠ z + 6 → q ≠ z + 7 → F.1 q = H.1 q) ∧ H.2.1 ≤ F.2.1 ∧ F.2.1 ≤ H.2.1 + 160 ∧ F.2.2 ≤ H.2.2 + 1600 ∧ ∃ D : List Nat, D.length ≤ 80 ∧ ∀ q, H.2.1 ≤ q → q < F.2.1 → dcN D q (F.1 q) := by
    rintro w ⟨F, pt, st, lv, b1, b2, b3, b4, b5⟩
    have hpt := b2.2.2.2.2
    obtain ⟨c1, c2, c3, c4, D, c6, c5⟩ := b5
    exact ⟨F, pt, st, lv, b1, b2, b3, fun q q1 q2 q3 q4 => (c1 q (by omega) q2 q4).trans (a3 q q2 q3), by omega, by omega, by omega, D, by omega, fun q q1 q2 => c5 q (by omega) q2 (by omega) (by omega)⟩
  unfold rdT
  cases es : rB tx 100 0 ([], 0, 0, [], []) with
  | inl w =>
    refine ⟨fun w' hw => ?_, fun q hq => (by cases hq), fun q hq => (by cases hq)⟩
    cases hw
    apply thr
    rw [st0 _ rfl]
    exact rthr_tc (x1' w es)
  | inr q =>
    dsimp only
    obtain ⟨o, G, l, m, b1, b2, b3, b4, b5, b6, b7, b8⟩ := x2' q es
    have hq := b2.2.2.2.2
    have hb4 := b4.2
    have hb5 := b4.2.2.1
    have hb6 := b4.2.2.2.1
    have kG := pst_k b2
    have g3 : gI G (z + 5) 1 3 = some (Int32.ofNat q.1.2.1) := gI_of b2.1 rfl
    have g2 : gI G (z + 5) 1 2 = some (Int32.ofNat tx.length) := gI_of b2.1 rfl
    have ff : fold_ l 1 = fo q.2 1 := by rw [fold_fo, b7]
    have h24 : q.1.1.length ≤ 24 := (rB_ok 100 0 ([], 0, 0, [], []) q (Nat.zero_le _) (by decide) (by decide) es).2.2.1
    have cl := C112_do (xt := xt) (ct := ct) (O := O) (N := N) hN b5 (bk_len b6 h24)
    have fb : fold_ l 1 ≤ 2147483649 := fold_bd l 1 (by decide)
    have tree : ∀ q', Sum.inr q = (Sum.inr q' : Nat ⊕ (Rs × List Nat)) → ∃ (H : mj_H) (o : Option Nat) (l : List (Nat × Nat)) (m A B : Nat), chn H l o ∧ bk (sT H q'.1.1 q'.1.2.2.2.1 q'.1.2.2.2.2 m A B) q'.1.1 l 0 q'.1.1.length ∧ l.map Prod.snd = q'.2 := fun q' hq' => by
      cases hq'
      exact ⟨G, o, l, m, _, _, b5, b6, b7⟩
    by_cases he : q.1.2.1 = tx.length
    · rw [if_pos he]
      have c : mj_c2 .ne (Int32.ofNat q.1.2.1) (Int32.ofNat tx.length) = false := decide_eq_false (fun k => k (by rw [he]))
      have e31 : (2147483648 : Int64).toInt = 2147483648 := rfl
      by_cases hfo : fo q.2 1 ≤ 2147483648
      · rw [if_pos hfo]
        refine ⟨fun w hw => (by cases hw), fun q' hq' => ?_, tree⟩
        cases hq'
        have c2 : mj_c1 .gt (lg_cmp (Int64.ofNat (fold_ l 1)) 2147483648) = false := by
          rw [lc_gt]
          exact decide_eq_false (by rw [j_nat (by omega), e31, ff]; omega)
        have b65 := bk_up (G := G) (m' := 5) (A' := H1.2.1) (B' := G.2.1) (sts' := q.1.1) (show m ≤ 5 by omega) (Nat.le_refl _) (Nat.le_refl _) (fun _ _ _ => rfl) ⟨[], (List.append_nil _).symm⟩ ⟨[], (List.append_nil _).symm⟩ (fun i _ _ => rfl) b5 b6
        refine ⟨o, G, l, ?_, b2, b3, fun q q1 q2 q3 q4 => (b4.1 q (by omega) q2 q4).trans (a3 q q2 q3), by omega, by omega, by omega, b5, by rw [← n1]; exact b65.2, b7, ?_⟩
        · rw [st0 _ b1]
          simp only [tc, g3, g2, c, cond_false, J81_28, kG, C87_yes, cl, c2, J81_52, Option.bind_some]
        · obtain ⟨-, -, -, -, D, e6, e5⟩ := b4
          exact ⟨D, by omega, fun q q1 q2 => e5 q (by omega) q2 (by omega) (by omega)⟩
      · rw [if_neg hfo]
        refine ⟨fun w hw => ?_, fun q' hq' => (by cases hq'), tree⟩
        cases hw
        have c2 : mj_c1 .gt (lg_cmp (Int64.ofNat (fold_ l 1)) 2147483648) = true := by
          rw [lc_gt]
          exact decide_eq_true (by rw [j_nat (by omega), e31, ff]; omega)
        apply thr
        rw [st0 _ b1]
        simp only [tc, g3, g2, c, cond_false, J81_28, kG, C87_yes, cl, c2, cond_true, J81_52, Option.bind_some]
        exact rthr_tc (rthr_fr (C87_r b2 b3 tx.length) b4 (by omega))
    · rw [if_neg he]
      refine ⟨fun w hw => ?_, fun q' hq' => (by cases hq'), tree⟩
      cases hw
      have c : mj_c2 .ne (Int32.ofNat q.1.2.1) (Int32.ofNat tx.length) = true := i_c2 (by show decide _ = true; apply decide_eq_true; rw [i_nat (by omega), i_nat (by omega)]; omega)
      apply thr
      rw [st0 _ b1]
      simp only [tc, g3, g2, c, cond_true, J81_28, kG, Option.bind_some]
      exact rthr_tc (rthr_fr (C87_r b2 b3 q.1.2.1) b4 (by omega))
end RDC
