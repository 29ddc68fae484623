/-! STATEMENTS AND PROGRAMS DONE, THE REFERENCE -/
def rH (S S' : mS) : Prop := m_agr [44, 45, 50, 51, 52, 56] [41, 43, 47, 49, 53, 54, 55] [42, 46, 48] S S'
theorem rH_G {S S' : mS} (h : rG S S') : rH S S' := m_agr_mono h (by decide) (by decide) (by decide)
theorem rH_f {S S' : mS} (h : m_agr [56] [53, 54, 55] [] S S') : rH S S' := m_agr_mono h (by decide) (by decide) (by decide)
theorem rH_c : (∀ j, j ∈ [41, 43, 47, 49, 53, 54, 55] → ¬ (5 ≤ j ∧ j ≤ 20)) ∧ 12 ∉ [42, 46, 48] ∧ 21 ∉ [42, 46, 48] := by decide
/-- rounds for one statement -/
def Wc : Nat → Nat
  | 0 => 1
  | m + 1 => 20 * (24 * Wc m + 1) + 3
theorem Wc_1 : ∀ m, 1 ≤ Wc m := by
  intro m
  cases m with
  | zero => exact Nat.le_refl _
  | succ m => rw [Wc]; omega
def rrS (N sl : Nat) (S : mS) (FR : List (Nat × Nat × Nat)) (cs : Nat) (Ls : Nat → Ss) (s s' c : Nat) (r : Rn) : Prop := match r.1 with
  | .inl v => ∃ S' k, k ≤ c ∧ rH S S' ∧ S'.1 52 = Int32.ofNat r.2 ∧ (∃ Ls', rsA S' Ls') ∧ ∀ n, LPk N sl (n + k) s S (v, S')
  | .inr L' => ∃ S' k Ls', k ≤ c ∧ rH S S' ∧ S'.1 52 = Int32.ofNat r.2 ∧ frL S' FR ∧ rsA S' Ls' ∧ (∀ q, q < cs → Ls' q = Ls q) ∧ gds (Ls' cs) ∧ eqs (Ls' cs) L' ∧ ∀ n res, LPk N sl n s' S' res → LPk N sl (n + k) s S res
def ctxR (sl : Nat) (sts : List St) (nds : List Nd) (fcs : List Int32) (S : mS) (FR : List (Nat × Nat × Nat)) (cs hi : Nat) (Ls : Nat → Ss) (L : Ss) (mo : Nat) : Prop := pcx S sl sts nds fcs ∧ frL S FR ∧ topB sts FR cs hi ∧ rsA S Ls ∧ gds (Ls cs) ∧ eqs (Ls cs) L ∧ gds L ∧ L.length ≤ mo ∧ mo ≤ 64 ∧ S.1 52 = Int32.ofNat mo ∧ cs ≤ 2 * FR.length
def stmR (N sl : Nat) (sts : List St) (nds : List Nd) (fcs : List Int32) (H : mj_H) (m : Nat) : Prop := ∀ (A B s : Nat) (t : St) (a : Nat), sts[s]? = some t → t.2.2.2.2.2.1 ≤ sts.length → sT H sts nds fcs m A B s t a → t.2.2.2.2.2.2 ≤ 2147483648 → ∀ (S : mS) (FR : List (Nat × Nat × Nat)) (cs hi : Nat) (Ls : Nat → Ss) (L : Ss) (mo : Nat), ctxR sl sts nds fcs S FR cs hi Ls L mo → s < hi → hi ≤ sts.length → nest sts (4 - FR.length) s → L ≠ [] → rrS N sl S FR cs Ls s t.2.2.2.2.2.1 (Wc m) (rnS sts nds fcs m s L mo)
def blkR (N sl : Nat) (sts : List St) (nds : List Nd) (fcs : List Int32) (H : mj_H) (m : Nat) : Prop := ∀ (A B : Nat) (l : List (Nat × Nat)) (o : Option Nat) (lo hi fu : Nat), hi ≤ sts.length → hi - lo ≤ fu → chn H l o → bk (sT H sts nds fcs m A B) sts l lo hi → fold_ l 1 ≤ 2147483648 → ∀ (S : mS) (FR : List (Nat × Nat × Nat)) (cs : Nat) (Ls : Nat → Ss) (L : Ss) (mo : Nat), ctxR sl sts nds fcs S FR cs hi Ls L mo → (∀ i, lo ≤ i → i < hi → nest sts (4 - FR.length) i) → rrS N sl S FR cs Ls lo hi (l.length * Wc m) (rnB sts (rnS sts nds fcs m) fu lo hi L mo)
theorem all_eqs2 {ev : Vs → Option Sp} {g g' : Vs × Nat → Sp → Ss} {G : Vs → Int32 → (Vs → Nat) → Nat} (hc : cnt g G) (hc' : cnt g' G) {L L' X : Ss} (h : eqs L L') (gl : gds L') (e : allS ev g L = some X) : ∃ Y, allS ev g' L' = some Y ∧ eqs X Y := by
  cases e' : allS ev g' L' with
  | none =>
    obtain ⟨p, p1, p2⟩ := (allS_none L').mp e'
    obtain ⟨q, q1, q2⟩ := eqs_mem (eqs_symm h) (fun p hp => (gl.2 p hp).1) p p1
    rw [(allS_none L).mpr ⟨q, q1, by rw [q2]; exact p2⟩] at e
    cases e
  | some Y => exact ⟨Y, rfl, fun f => by rw [allS_sF hc L X e, allS_sF hc' L' Y e', h]⟩
section RNM
variable {N sl : Nat} {sts : List St} {nds : List Nd} {fcs : List Int32} {H : mj_H}
theorem blkR_of (hN : 100000 ≤ N) (hsl : sl < 3) (hnl : nds.length ≤ 160) (hfc : fcs.length ≤ 160) (h24 : sts.length ≤ 24) {m : Nat} (stm : stmR N sl sts nds fcs H m) : blkR N sl sts nds fcs H m := by
  have good := rn_good (H := H) hnl hfc h24 m
  have w1 := Wc_1 m
  intro A B l
  induction l with
  | nil =>
    intro o lo hi fu hh hfu hc hb hf S FR cs Ls L mo hctx hnest
    have e1 : lo = hi := hb
    obtain ⟨c1, c2, c3, c4, c5, c6, c7, c8, c9, c10, c11⟩ := hctx
    have er : rnB sts (rnS sts nds fcs m) fu lo hi L mo = (.inr L, mo) := by
      cases fu with
      | zero => rfl
      | succ fu => rw [rnB, if_neg (fun q => absurd q.1 (by omega))]
    rw [er, e1]
    exact ⟨S, 0, Ls, Nat.zero_le _, m_agr_refl, c10, c2, c4, fun _ _ => rfl, c5, c6, fun n res k => k⟩
  | cons x r ih =>
    intro o lo hi fu hh hfu hc hb hf S FR cs Ls L mo hctx hnest
    obtain ⟨e0, hbd, w0, w1', w2, w3, w4, w5, w6, nx, hc1, hc2⟩ := hc
    obtain ⟨t, t1, t2, t3, t4⟩ := hb
    have l1 := sT_end t3
    have l2 := bk_le (fun s t a x => sT_end x) _ _ _ t4
    obtain ⟨fu, rfl⟩ : ∃ j', fu = j' + 1 := ⟨fu - 1, by omega⟩
    obtain ⟨f1, f2⟩ := fold_cons hbd (fun y hy => (chn_pos r nx hc2 y hy).1)
    rw [f1] at hf
    obtain ⟨f3, f4, f5⟩ := pr_two hbd.1 f2 hf
    have en : enS sts lo = t.2.2.2.2.2.1 := by unfold enS; rw [t1]
    have mulW : (x :: r).length * Wc m = r.length * Wc m + Wc m := by rw [List.length_cons, Nat.succ_mul]
    have nest' : ∀ i, t.2.2.2.2.2.1 ≤ i → i < hi → nest sts (4 - FR.length) i := fun i i1 i2 => hnest i (by omega) i2
    obtain ⟨c1, c2, c3, c4, c5, c6, c7, c8, c9, c10, c11⟩ := id hctx
    have hcs : cs < 9 := by have := c2.2.1; omega
    rw [rnB, en]
    by_cases c : L = []
    · -- nothing is left: it is passed over
      rw [if_neg (fun q => q.2 c)]
      have lenL := eqs_len c6 c5 c7
      have le : Ls cs = [] := by
        rw [c] at lenL
        exact List.eq_nil_of_length_eq_zero lenL
      have r0 := c4 cs hcs
      rw [le] at r0
      have M := M275_0 (N := N) hsl (show lo < 24 by omega) c1.1 c2 c3 hcs t1 r0
      have i := ih nx t.2.2.2.2.2.1 hi fu hh (by omega) hc2 t4 f5 S FR cs Ls L mo hctx nest'
      have er : rnB sts (rnS sts nds fcs m) fu t.2.2.2.2.2.1 hi L mo = (.inr L, mo) := by
        cases fu with
        | zero => rfl
        | succ fu => rw [rnB, if_neg (fun q => q.2 c)]
      rw [er] at i
      obtain ⟨S', k, Ls', i1, i2, i3, i4, i5, i6, i7, i8, i9⟩ := i
      refine ⟨S', k + 1, Ls', by rw [mulW]; omega, i2, i3, i4, i5, i6, i7, i8, fun n res q => ?_⟩
      exact LP_p hsl c1.1 c2 c3 (by omega) (by omega) (by omega) (by omega) M (i9 n res q)
    · rw [if_pos ⟨by omega, c⟩]
      have hf' : t.2.2.2.2.2.2 ≤ 2147483648 := by omega
      have st := stm A B lo t x.1 t1 (by omega) t3 hf' S FR cs hi Ls L mo hctx (by omega) hh (hnest lo (Nat.le_refl _) (by omega)) c
      have gd := good.1 A B lo t x.1 L mo t1 (by omega) t3 hf' c7 c8 c9
      generalize rnS sts nds fcs m lo L mo = R at st gd ⊢
      obtain ⟨R1, R2⟩ := R
      cases R1 with
      | inl w =>
        obtain ⟨S', k, s1, s2, s3, s4⟩ := st
        exact ⟨S', k, by rw [mulW]; omega, s2, s3, s4⟩
      | inr L' =>
        obtain ⟨S', k, Ls', s1, s2, s3, s4, s5, s6, s7, s8, s9⟩ := st
        obtain ⟨gd1, gd2, gd3, gd4, gd5⟩ := gd
        have i := ih nx t.2.2.2.2.2.1 hi fu hh (by omega) hc2 t4 f5 S' FR cs Ls' L' R2 ⟨pcx_ag c1 s2 rH_c, s4, c3, s5, s7, s8, gd3, gd4, gd2, s3, c11⟩ nest'
        show rrS N sl S FR cs Ls lo hi _ (rnB sts (rnS sts nds fcs m) fu t.2.2.2.2.2.1 hi L' R2)
        generalize rnB sts (rnS sts nds fcs m) fu t.2.2.2.2.2.1 hi L' R2 = Q at i ⊢
        obtain ⟨Q1, Q2⟩ := Q
        cases Q1 with
        | inl w =>
          obtain ⟨S2, k2, i1, i2, i3, i4', i4⟩ := i
          refine ⟨S2, k2 + k, by rw [mulW]; omega, m_agr_trans s2 i2, i3, i4', fun n => ?_⟩
          rw [← Nat.add_assoc]
          exact s9 _ _ (i4 n)
        | inr L2 =>
          obtain ⟨S2, k2, Ls2, i1, i2, i3, i4, i5, i6, i7, i8, i9⟩ := i
          refine ⟨S2, k2 + k, Ls2, by rw [mulW]; omega, m_agr_trans s2 i2, i3, i4, i5, fun q hq => (i6 q hq).trans (s6 q hq), i7, i8, fun n res q => ?_⟩
          rw [← Nat.add_assoc]
          exact s9 _ _ (i9 n res q)
theorem stmR_suc (hN : 100000 ≤ N) (hsl : sl < 3) (hnl : nds.length ≤ 160) (hfc : fcs.length ≤ 160) (h40 : lcn nds ≤ 40) (h24 : sts.length ≤ 24) {m : Nat} (blk : blkR N sl sts nds fcs H m) : stmR N sl sts nds fcs H (m + 1) := by
  have good := rn_good (H := H) hnl hfc h24 m
  have wm := Wc_1 m
  intro A B s t a hst hend h hf S FR cs hi Ls L mo hctx hshi hh hnest hL
  obtain ⟨c1, c2, c3, c4, c5, c6, c7, c8, c9, c10, c11⟩ := id hctx
  obtain ⟨a1, a2, a3, c, e, tm, o1, o2, nx, s1, s2, A1, B1, k1, k2, k3, k4, k5⟩ := h
  have hfr := c2.2.1
  have hcs : cs < 9 := by omega
  have lenL := eqs_len c6 c5 c7
  have hLs : Ls cs ≠ [] := fun q => hL (by
    rw [q] at lenL
    exact List.eq_nil_of_length_eq_zero lenL.symm)
  have rcs := c4 cs hcs
  have hs24 : s < 24 := by omega
  have hslen : s < sts.length := by omega
  rcases k5 with ⟨q1, q2, q3, q4, q5, q6, q7⟩ | ⟨q1, q2, fe, l1, l2, q3, q4, q5, q6, q7, q8, q9, q10⟩ | ⟨q1, q2, q3, q4, q5, q6, q7, q8, l1, q9, q10, q11⟩
  · have ge := ev_gd hnl hfc q7 hf
    -- a simple statement, once it is worked out
    have simp1 : ∀ (g : Vs × Nat → Sp → Ss) (Y : Ss), (∃ X, allS (evK nds fcs t.2.2.2.1) g (Ls cs) = some X ∧ ((insA X []).length ≤ 64 → ∃ S', M286 N (Int32.ofNat sl) (Int32.ofNat s) (Int32.ofNat cs) S = some (1, S') ∧ rsA S' (upL Ls cs (insA X [])) ∧ rG S S' ∧ S'.1 52 = Int32.ofNat (max mo (insA X []).length)) ∧ (64 < (insA X []).length → ∃ S', M286 N (Int32.ofNat sl) (Int32.ofNat s) (Int32.ofNat cs) S = some (0, S') ∧ rG S S' ∧ S'.1 52 = S.1 52 ∧ S'.1 51 = -2 ∧ ∃ Ls', rsA S' Ls') ∧ gds (insA X []) ∧ gds (insA Y []) ∧ eqs (insA X []) (insA Y [])) → rrS N sl S FR cs Ls s t.2.2.2.2.2.1 (Wc (m + 1)) (fin1 (insA Y []) mo) := by
      rintro g Y ⟨X, x1, x2, x3, gX, gY, eXY⟩
      have len := eqs_len eXY gX gY
      unfold fin1
      by_cases hl : 64 < (insA Y []).length
      · rw [if_pos hl]
        obtain ⟨S', y1, y2, y3, y4, y5⟩ := x3 (by omega)
        have M := (M275_1 (N := N) hsl hs24 c1.1 c2 c3 hcs hst q1 rcs hLs).1 y1
        refine ⟨S', 2, by rw [Wc]; omega, rH_G y2, y3.trans c10, y5, fun n => ?_⟩
        have := LP_pf (n := n) hsl c1.1 c2 c3 (by omega) hs24 (by omega) hslen M
        rw [y4] at this
        exact this
      · rw [if_neg hl]
        obtain ⟨S', y1, y2, y3, y4⟩ := x2 (by omega)
        have M := (M275_1 (N := N) hsl hs24 c1.1 c2 c3 hcs hst q1 rcs hLs).2 y1
        refine ⟨S', 1, upL Ls cs (insA X []), by rw [Wc]; omega, rH_G y3, by rw [y4, len], frL_ag c2 y3 (by decide), y2, fun q hq => upL_ne (by omega), by rw [upL_eq]; exact gX, by rw [upL_eq]; exact eXY, fun n res k => ?_⟩
        rw [q4] at k
        exact LP_p hsl c1.1 c2 c3 (by omega) hs24 (by omega) hslen M k
    have simp0 : (∃ S', M286 N (Int32.ofNat sl) (Int32.ofNat s) (Int32.ofNat cs) S = some (0, S') ∧ rG S S' ∧ S'.1 52 = S.1 52 ∧ S'.1 51 = -1 ∧ ∃ Ls', rsA S' Ls') → rrS N sl S FR cs Ls s t.2.2.2.2.2.1 (Wc (m + 1)) (.inl (-1), mo) := by
      rintro ⟨S', y1, y2, y3, y4, y5⟩
      have M := (M275_1 (N := N) hsl hs24 c1.1 c2 c3 hcs hst q1 rcs hLs).1 y1
      refine ⟨S', 2, by rw [Wc]; omega, rH_G y2, y3.trans c10, y5, fun n => ?_⟩
      have := LP_pf (n := n) hsl c1.1 c2 c3 (by omega) hs24 (by omega) hslen M
      rw [y4] at this
      exact this
    rcases (show t.1 = 0 ∨ t.1 = 1 by omega) with h0 | h0
    · rw [rnS_0 hst h0]
      rcases M286_gen (N := N) (g := gAs t.2.1) (hh := fun x q => [(x.1.set t.2.1 q.1, x.2 * q.2)]) hN (fun p => rfl) (fun p q r => rfl) (fun p s => gd_As p s _) hsl hs24 hcs hst (by omega) hnl hfc h40 q7 hf (one_As hN hsl hs24 hcs hst h0 (q5 h0).1) c1 c4 c5.2 c10 c9 with ⟨X, x1, x2, x3⟩ | ⟨⟨p, p1, p2⟩, x⟩
      · obtain ⟨Y, y1, y2⟩ := all_eqs2 cnt_As cnt_As c6 c7 x1
        rw [y1]
        exact simp1 _ Y ⟨X, x1, x2, x3, gds_insA X [] gds_nil (allS_gd ge (fun p s => gd_As p s _) (Ls cs) X c5.2 x1), gds_insA Y [] gds_nil (allS_gd ge (fun p s => gd_As p s _) L Y c7.2 y1), eqs_insA y2⟩
      · rw [all_none_eqs c6 c5 p p1 p2]
        exact simp0 x
    · rw [rnS_1 hst h0]
      rcases M286_gen (N := N) (g := gKs) (hh := fun x q => if q.1 = 0 then [] else [(x.1, x.2 * q.2)]) hN (fun p => rfl) (fun p q r => rfl) (fun p s => gd_Ks p s _) hsl hs24 hcs hst (by omega) hnl hfc h40 q7 hf (one_Ks hN hsl hs24 hcs hst h0) c1 c4 c5.2 c10 c9 with ⟨X, x1, x2, x3⟩ | ⟨⟨p, p1, p2⟩, x⟩
      · obtain ⟨Y, y1, y2⟩ := all_eqs2 cnt_Ks cnt_Ys c6 c7 x1
        rw [y1]
        exact simp1 _ Y ⟨X, x1, x2, x3, gds_insA X [] gds_nil (allS_gd ge (fun p s => gd_Ks p s _) (Ls cs) X c5.2 x1), gds_insA Y [] gds_nil (allS_gd ge (fun p s => gd_Ys p s _) L Y c7.2 y1), eqs_insA y2⟩
      · rw [all_none_eqs c6 c5 p p1 p2]
        exact simp0 x
  · -- a choice
    obtain ⟨dp3, nin⟩ := nest_in hnest hfr hst (by omega)
    obtain ⟨d1, d2, d3, d4, d5, d6, d7⟩ := ch_fac (exT_fal _ _ _ _ _ q3).2.1.1 q4 q6 q8 hf
    have ge := ev_gd hnl hfc q3 d2
    have m1 := bk_le (fun s t a x => sT_end x) _ _ _ q5
    have m2 := bk_le (fun s t a x => sT_end x) _ _ _ q7
    have lb1 := (bk_rng _ _ _ q5).2
    have lb2 := (bk_rng _ _ _ q7).2
    have wl1 : l1.length * Wc m ≤ 24 * Wc m := Nat.mul_le_mul_right _ (by omega)
    have wl2 : l2.length * Wc m ≤ 24 * Wc m := Nat.mul_le_mul_right _ (by omega)
    obtain ⟨r1, r2, r3, r4, r5, r6, r7⟩ := c1.1.2.2.2.2.1 s t hst
    rw [rnS_2 hst q1, bk_bf (fun s t a x => sT_end x) l1 25 _ _ 1 (by omega) q5, bk_bf (fun s t a x => sT_end x) l2 25 _ _ 1 (by omega) q7]
    rcases M278_do (N := N) hN hsl hs24 (show cs + 2 < 9 by omega) hst (by omega) hnl hfc h40 q3 d2 c1 c4 c5.2 with ⟨X, Y, S1, x1, x2, x3, x4, gX, gY, x5, x6⟩ | ⟨⟨p, p1, p2⟩, S1, y1, y2, y3, y4, y5⟩
    · obtain ⟨X', eX, eX2⟩ := all_eqs2 cnt_Ks cnt_Ys c6 c7 x1
      obtain ⟨Y', eY, eY2⟩ := all_eqs2 cnt_K0 cnt_No c6 c7 x2
      rw [eX, eY]
      show rrS N sl S FR cs Ls s t.2.2.2.2.2.1 _ (rnC sts (rnS sts nds fcs m) s t (fold_ l1 1) (fold_ l2 1) X' Y' mo)
      have gX' : gds (insA X' []) := gds_insA X' [] gds_nil (allS_gd ge (fun p s => gd_Ys p s _) L X' c7.2 eX)
      have gY' : gds (insA Y' []) := gds_insA Y' [] gds_nil (allS_gd ge (fun p s => gd_No p s _) L Y' c7.2 eY)
      have eXX : eqs (insA X []) (insA X' []) := eqs_insA eX2
      have eYY : eqs (insA Y []) (insA Y' []) := eqs_insA eY2
      have lX := ins_short ky_Ys eX (allS_gd ge (fun p s => gd_Ys p s _) L X' c7.2 eX)
      have lY := ins_short ky_No eY (allS_gd ge (fun p s => gd_No p s _) L Y' c7.2 eY)
      -- the first side
      obtain ⟨LA, hLA⟩ : ∃ q, upL (upL (upL Ls (cs + 1) (insA X [])) (cs + 2) (insA Y [])) cs (insA Y []) = q := ⟨_, rfl⟩
      rw [hLA] at x4
      have LA1 : LA (cs + 1) = insA X [] := by rw [← hLA, upL_ne (by omega), upL_ne (by omega), upL_eq]
      have LA0 : LA cs = insA Y [] := by rw [← hLA, upL_eq]
      have LAq : ∀ q, q < cs → LA q = Ls q := fun q hq => by rw [← hLA, upL_ne (by omega), upL_ne (by omega), upL_ne (by omega)]
      obtain ⟨S2, f1, f2, f3⟩ := M277_do (N := N) (s := s) (set := cs) (l := 1) (frL_ag c2 x5 (by decide)) (by omega)
      have M := (M275_2 (N := N) hsl hs24 c1.1 c2 c3 hcs hst q1 rcs hLs).2 S2 x3 f1
      have h02 : rH S S2 := m_agr_trans (rH_G x5) (rH_f f3)
      have e52 : S2.1 52 = Int32.ofNat mo := by rw [f3.1 52 (by decide), x6]; exact c10
      have go1 : ∀ n res, LPk N sl n (s + 1) S2 res → LPk N sl (n + 1) s S res := fun n res k => LP_p hsl c1.1 c2 c3 (by omega) hs24 (by omega) hslen M k
      have top1 : topB sts ((s, cs, 1) :: FR) (cs + 1) t.2.2.2.2.1 := ⟨t, hst, Or.inr (Or.inl ⟨q1, rfl, rfl, rfl⟩)⟩
      have top0 : topB sts ((s, cs, 0) :: FR) (cs + 2) t.2.2.2.2.2.1 := ⟨t, hst, Or.inr (Or.inr ⟨q1, rfl, rfl, rfl⟩)⟩
      have b1 := blk A1 B1 l1 o1 (s + 1) t.2.2.2.2.1 25 (by omega) (by omega) q4 q5 d6 S2 ((s, cs, 1) :: FR) (cs + 1) LA (insA X' []) mo ⟨pcx_ag c1 h02 rH_c, f2, top1, rsA_ag x4 f3 (by decide), by rw [LA1]; exact gX, by rw [LA1]; exact eXX, gX', by omega, c9, e52, by rw [List.length_cons]; omega⟩ (fun i i1 i2 => by rw [List.length_cons]; exact nin i (by omega) (by omega))
      have gd := good.2 A1 B1 l1 o1 (s + 1) t.2.2.2.2.1 25 (insA X' []) mo (by omega) (by omega) q4 q5 d6 gX' (by omega) c9
      unfold rnC
      generalize rnB sts (rnS sts nds fcs m) 25 (s + 1) t.2.2.2.2.1 (insA X' []) mo = R at b1 gd ⊢
      obtain ⟨R1, mo1⟩ := R
      cases R1 with
      | inl w =>
        obtain ⟨S', k, u1, u2, u3, u4', u4⟩ := b1
        refine ⟨S', k + 1, by rw [Wc]; omega, m_agr_trans h02 u2, u3, u4', fun n => ?_⟩
        rw [← Nat.add_assoc]
        exact go1 _ _ (u4 n)
      | inr Y1 =>
        obtain ⟨S3, k1', L3, u1, u2, u3, u4, u5, u6, u7, u8, u9⟩ := b1
        obtain ⟨gd1, gd2, gd3, gd4, gd5⟩ := gd
        have gd1' : mo ≤ mo1 := gd1
        have L30 : L3 cs = insA Y [] := (u6 cs (by omega)).trans LA0
        have h03 : rH S S3 := m_agr_trans h02 u2
        have p3 := pcx_ag c1 h03 rH_c
        -- the second side
        obtain ⟨S3a, hS3a⟩ : ∃ q, m_sA S3 55 FR.length (Int32.ofNat 0) = q := ⟨_, rfl⟩
        have ag3 : m_agr [] [55] [] S3 S3a := by rw [← hS3a]; exact m_agr_sA m_agr_refl (by decide) _ _
        have fr3 : frL S3a ((s, cs, 0) :: FR) := by rw [← hS3a]; exact frL_left u4
        have A3 := rsA_ag u5 ag3 (by decide)
        have r3a := A3 cs hcs
        rw [L30] at r3a
        obtain ⟨S4, v1, v2, v3, v4⟩ := M268_do (N := N) (set := cs + 2) (other := cs) (by omega) (by omega) (by omega) (by omega) r3a gY
        have G1 := M267_1 (N := N) (at0 := Int32.ofNat t.2.2.2.2.1) hsl p3.1 u4 hst q1 (by rw [hS3a]; exact v1)
        have go2 : ∀ n res, LPk N sl n t.2.2.2.2.1 S4 res → LPk N sl (n + 1) t.2.2.2.2.1 S3 res := fun n res k => LP_g hsl p3.1 u4 top1 (by omega) G1 k
        have h34 : rH S3 S4 := m_agr_trans (m_agr_mono ag3 (by decide) (by decide) (by decide)) (rH_G (rG_j v3))
        have h04 : rH S S4 := m_agr_trans h03 h34
        have A4 := rsA_up A3 v3 v2
        have f52 : S4.1 52 = Int32.ofNat mo1 := by rw [v3.1.1 52 (by decide), ag3.1 52 (by decide)]; exact u3
        have b2 := blk A1 B1 l2 o2 t.2.2.2.2.1 t.2.2.2.2.2.1 25 hend (by omega) q6 q7 d7 S4 ((s, cs, 0) :: FR) (cs + 2) (upL L3 (cs + 2) (insA Y [])) (insA Y' []) mo1 ⟨pcx_ag c1 h04 rH_c, frL_ag fr3 v3.1 (by decide), top0, A4, by rw [upL_eq]; exact gY, by rw [upL_eq]; exact eYY, gY', by omega, gd2, f52, by rw [List.length_cons]; omega⟩ (fun i i1 i2 => by rw [List.length_cons]; exact nin i (by omega) i2)
        have gd' := good.2 A1 B1 l2 o2 t.2.2.2.2.1 t.2.2.2.2.2.1 25 (insA Y' []) mo1 hend (by omega) q6 q7 d7 gY' (by omega) gd2
        show rrS N sl S FR cs Ls s t.2.2.2.2.2.1 _ (rbi (rnB sts (rnS sts nds fcs m) 25 t.2.2.2.2.1 t.2.2.2.2.2.1 (insA Y' []) mo1) _)
        generalize rnB sts (rnS sts nds fcs m) 25 t.2.2.2.2.1 t.2.2.2.2.2.1 (insA Y' []) mo1 = R at b2 gd' ⊢
        obtain ⟨R1, mo2⟩ := R
        cases R1 with
        | inl w =>
          obtain ⟨S', k, z1, z2, z3, z4', z4⟩ := b2
          refine ⟨S', k + 1 + k1' + 1, by rw [Wc]; omega, m_agr_trans h04 z2, z3, z4', fun n => ?_⟩
          have := go1 _ _ (u9 _ _ (go2 _ _ (z4 n)))
          rw [show n + (k + 1 + k1' + 1) = n + k + 1 + k1' + 1 by omega]
          exact this
        | inr N1 =>
          obtain ⟨S5, k2', L5, z1, z2, z3, z4, z5, z6, z7, z8, z9⟩ := b2
          obtain ⟨gd6, gd7, gd8, gd9, gd10⟩ := gd'
          have h05 : rH S S5 := m_agr_trans h04 z2
          have L51 : L5 (cs + 1) = L3 (cs + 1) := (z6 (cs + 1) (by omega)).trans (upL_ne (by omega))
          have L5q : ∀ q, q < cs → L5 q = Ls q := fun q hq => ((z6 q (by omega)).trans (upL_ne (by omega))).trans ((u6 q (by omega)).trans (LAq q hq))
          obtain ⟨ml1, ⟨m3, m4, m4'⟩, ⟨m5, m6, m6'⟩⟩ := ml_ok d4 d5 d3
          -- both are put together
          obtain ⟨S5a, hS5a⟩ : ∃ q, m_sV (m_sA S5 55 FR.length (-1)) 56 (Int32.ofNat FR.length) = q := ⟨_, rfl⟩
          have ag5 : m_agr [56] [55] [] S5 S5a := by rw [← hS5a]; exact m_agr_sV (m_agr_sA m_agr_refl (by decide) _ _) (by decide) _
          have fr5 : frL S5a FR := by rw [← hS5a]; exact frL_popl z4
          have h05a : rH S S5a := m_agr_trans h05 (m_agr_mono ag5 (by decide) (by decide) (by decide))
          have p5 := pcx_ag c1 h05 rH_c
          have p5a := pcx_ag c1 h05a rH_c
          have A5 := rsA_ag z5 ag5 (by decide)
          obtain ⟨w1, w2, w3, w4, w5, w6, w7⟩ := p5a.1.2.2.2.2.1 s t hst
          obtain ⟨la, ba1, ba2, ba3, -⟩ := bch_of (S := S5a) (H := H) (sl := sl) (show t.2.2.2.2.1 ≤ 24 by omega) (fun i t' hi => (p5a.1.2.2.2.2.1 i t' hi).2.2.2.2.2.1) l1 (s + 1) o1 (fun i t' _ hi => (p5a.1.2.2.2.2.1 i t' hi).2.2.2.2.2.2) q4 q5
          obtain ⟨lb, bb1, bb2, bb3, -⟩ := bch_of (S := S5a) (H := H) (sl := sl) (show t.2.2.2.2.2.1 ≤ 24 by omega) (fun i t' hi => (p5a.1.2.2.2.2.1 i t' hi).2.2.2.2.2.1) l2 t.2.2.2.2.1 o2 (fun i t' _ hi => (p5a.1.2.2.2.2.1 i t' hi).2.2.2.2.2.2) q6 q7
          have g52 : S5a.1 52 = Int32.ofNat mo2 := by rw [ag5.1 52 (by decide)]; exact z3
          obtain ⟨y1, y2⟩ := M272_do (N := N) (S := S5a) (sl := sl) (s := s) (set := cs) (mo := mo2) (mid := t.2.2.2.2.1) (en := t.2.2.2.2.2.1) (a := fold_ l1 1) (b := fold_ l2 1) (Ls := L5) (by omega) rfl hsl hs24 (by omega) (w5 q1) w6 (by omega) (by omega) ba1 bb1 (by omega) (by omega) ba2 bb2 ⟨d4, by omega⟩ ⟨d5, by omega⟩ d3 A5 (by rw [L51]; exact u7) z7 g52 gd7
          rw [L51] at y1 y2
          have gU : gds (insA (scl (mlN (fold_ l1 1) (fold_ l2 1) / fold_ l1 1) (L3 (cs + 1)) ++ scl (mlN (fold_ l1 1) (fold_ l2 1) / fold_ l2 1) (L5 (cs + 2))) []) := gds_insA _ [] gds_nil (fun p hp => (List.mem_append.mp hp).elim (scl_gd m3 u7.2 p) (scl_gd m5 z7.2 p))
          have gP : gds (insA (scl (mlN (fold_ l1 1) (fold_ l2 1) / fold_ l1 1) Y1 ++ scl (mlN (fold_ l1 1) (fold_ l2 1) / fold_ l2 1) N1) []) := gds_insA _ [] gds_nil (fun p hp => (List.mem_append.mp hp).elim (scl_gd m3 gd3.2 p) (scl_gd m5 gd8.2 p))
          have eU : eqs (insA (scl (mlN (fold_ l1 1) (fold_ l2 1) / fold_ l1 1) (L3 (cs + 1)) ++ scl (mlN (fold_ l1 1) (fold_ l2 1) / fold_ l2 1) (L5 (cs + 2))) []) (insA (scl (mlN (fold_ l1 1) (fold_ l2 1) / fold_ l1 1) Y1 ++ scl (mlN (fold_ l1 1) (fold_ l2 1) / fold_ l2 1) N1) []) := fun f => by
            rw [insA_sF, insA_sF, sF_app, sF_app, scl_sF, scl_sF, scl_sF, scl_sF, u8, z8]
          have lenU := eqs_len eU gU gP
          show rrS N sl S FR cs Ls s t.2.2.2.2.2.1 _ (fin1 _ mo2)
          unfold fin1
          by_cases hl : 64 < (insA (scl (mlN (fold_ l1 1) (fold_ l2 1) / fold_ l1 1) Y1 ++ scl (mlN (fold_ l1 1) (fold_ l2 1) / fold_ l2 1) N1) []).length
          · rw [if_pos hl]
            obtain ⟨S6, j1, j2, j3, j4, j5⟩ := y2 (by omega)
            have G2 := (M267_2 (N := N) (at0 := Int32.ofNat t.2.2.2.2.2.1) hsl p5.1 z4 hst q1 (by rw [hS5a]; exact j1)).1 rfl
            refine ⟨S6, 2 + k2' + 1 + k1' + 1, by rw [Wc]; omega, m_agr_trans h05a (rH_G j2), by rw [j3]; exact g52, j5, fun n => ?_⟩
            have g := LP_gf (n := n) hsl p5.1 z4 top0 (by omega) G2
            rw [j4] at g
            have := go1 _ _ (u9 _ _ (go2 _ _ (z9 _ _ g)))
            rw [show n + (2 + k2' + 1 + k1' + 1) = n + 2 + k2' + 1 + k1' + 1 by omega]
            exact this
          · rw [if_neg hl]
            obtain ⟨S6, j1, j2, j3, j4, j5⟩ := y1 (by omega)
            have G2 := (M267_2 (N := N) (at0 := Int32.ofNat t.2.2.2.2.2.1) hsl p5.1 z4 hst q1 (by rw [hS5a]; exact j1)).2 rfl
            refine ⟨S6, 1 + k2' + 1 + k1' + 1, _, by rw [Wc]; omega, m_agr_trans h05a (rH_G j3), by rw [j4, lenU], frL_ag fr5 j3 (by decide), j2, fun q hq => by rw [upL_ne (by omega)]; exact L5q q hq, by rw [upL_eq]; exact gU, by rw [upL_eq]; exact eU, fun n res k => ?_⟩
            have g := LP_g hsl p5.1 z4 top0 (by omega) G2 k
            have := go1 _ _ (u9 _ _ (go2 _ _ (z9 _ _ g)))
            rw [show n + (1 + k2' + 1 + k1' + 1) = n + 1 + k2' + 1 + k1' + 1 by omega]
            exact this
    · rw [all_none_eqs c6 c5 p p1 p2]
      have M := (M275_2 (N := N) hsl hs24 c1.1 c2 c3 hcs hst q1 rcs hLs).1 y1
      refine ⟨S1, 2, by rw [Wc]; omega, rH_G y2, y3.trans c10, y5, fun n => ?_⟩
      have := LP_pf (n := n) hsl c1.1 c2 c3 (by omega) hs24 (by omega) hslen M
      rw [y4] at this
      exact this
  · -- a repetition
    obtain ⟨dp3, nin⟩ := nest_in hnest hfr hst (by omega)
    have m1 := bk_le (fun s t a x => sT_end x) _ _ _ q10
    have lb1 := (bk_rng _ _ _ q10).2
    have wl1 : l1.length * Wc m ≤ 24 * Wc m := Nat.mul_le_mul_right _ (by omega)
    have p1 := fold_pos l1 1 (Nat.le_refl _) (fun x hx => (chn_pos l1 o1 q9 x hx).1)
    rw [q11] at hf
    obtain ⟨-, w2⟩ := pw_ok p1 t.2.1 1 (Nat.le_refl _) hf
    rw [rnS_3 hst q1]
    by_cases z : t.2.1 = 0
    · have M := (M275_3 (N := N) (S' := S) hsl hs24 c1.1 c2 c3 hcs hst q1 q3 rcs hLs).1 z
      rw [z]
      exact ⟨S, 1, Ls, by rw [Wc]; omega, m_agr_refl, c10, c2, c4, fun _ _ => rfl, c5, c6, fun n res k => LP_p hsl c1.1 c2 c3 (by omega) hs24 (by omega) hslen M k⟩
    · have f6 := w2 (by omega)
      have key : ∀ (n : Nat) (S : mS) (Ls : Nat → Ss) (L : Ss) (mo : Nat), n + 1 ≤ 20 → ctxR sl sts nds fcs S ((s, cs, n + 1) :: FR) cs t.2.2.2.2.2.1 Ls L mo → rrS N sl S FR cs Ls (s + 1) t.2.2.2.2.2.1 ((n + 1) * (24 * Wc m + 1)) (rnT (fun L mo => rnB sts (rnS sts nds fcs m) 25 (s + 1) t.2.2.2.2.2.1 L mo) (n + 1) L mo) := by
        intro n
        induction n with
        | zero =>
          intro S Ls L mo hn hctx
          obtain ⟨c1, c2, c3, c4, c5, c6, c7, c8, c9, c10, c11⟩ := id hctx
          have b1 := blk A1 B1 l1 o1 (s + 1) t.2.2.2.2.2.1 25 hend (by omega) q9 q10 f6 S _ cs Ls L mo hctx (fun i i1 i2 => by rw [List.length_cons]; exact nin i (by omega) i2)
          rw [rnT]
          show rrS N sl S FR cs Ls (s + 1) t.2.2.2.2.2.1 _ (rbi (rnB sts (rnS sts nds fcs m) 25 (s + 1) t.2.2.2.2.2.1 L mo) _)
          generalize rnB sts (rnS sts nds fcs m) 25 (s + 1) t.2.2.2.2.2.1 L mo = R at b1 ⊢
          obtain ⟨R1, mo1⟩ := R
          cases R1 with
          | inl w =>
            obtain ⟨S', k, u1, u2, u3, u4⟩ := b1
            exact ⟨S', k, by omega, u2, u3, u4⟩
          | inr L' =>
            obtain ⟨S3, k1', L3, u1, u2, u3, u4, u5, u6, u7, u8, u9⟩ := b1
            have p3 := pcx_ag c1 u2 rH_c
            have G := (M267_3 (N := N) (at0 := Int32.ofNat t.2.2.2.2.2.1) (n := 0) hsl p3.1 u4 hst q1 (by omega)).1 rfl
            have ag : m_agr [56] [55] [] S3 (m_sV (m_sA S3 55 FR.length (Int32.ofNat 0)) 56 (Int32.ofNat FR.length)) := m_agr_sV (m_agr_sA m_agr_refl (by decide) _ _) (by decide) _
            refine ⟨m_sV (m_sA S3 55 FR.length (Int32.ofNat 0)) 56 (Int32.ofNat FR.length), 1 + k1', L3, by omega, m_agr_trans u2 (m_agr_mono ag (by decide) (by decide) (by decide)), u3, frL_popl u4, rsA_ag u5 ag (by decide), u6, u7, u8, fun n res k => ?_⟩
            have := u9 _ _ (LP_g hsl p3.1 u4 c3 (by omega) G k)
            rw [← Nat.add_assoc]
            exact this
        | succ n ih =>
          intro S Ls L mo hn hctx
          obtain ⟨c1, c2, c3, c4, c5, c6, c7, c8, c9, c10, c11⟩ := id hctx
          have b1 := blk A1 B1 l1 o1 (s + 1) t.2.2.2.2.2.1 25 hend (by omega) q9 q10 f6 S _ cs Ls L mo hctx (fun i i1 i2 => by rw [List.length_cons]; exact nin i (by omega) i2)
          have gd := good.2 A1 B1 l1 o1 (s + 1) t.2.2.2.2.2.1 25 L mo hend (by omega) q9 q10 f6 c7 c8 c9
          have mulW : (n + 1 + 1) * (24 * Wc m + 1) = (n + 1) * (24 * Wc m + 1) + (24 * Wc m + 1) := Nat.succ_mul _ _
          rw [rnT]
          show rrS N sl S FR cs Ls (s + 1) t.2.2.2.2.2.1 _ (rbi (rnB sts (rnS sts nds fcs m) 25 (s + 1) t.2.2.2.2.2.1 L mo) _)
          generalize rnB sts (rnS sts nds fcs m) 25 (s + 1) t.2.2.2.2.2.1 L mo = R at b1 gd ⊢
          obtain ⟨R1, mo1⟩ := R
          cases R1 with
          | inl w =>
            obtain ⟨S', k, u1, u2, u3, u4⟩ := b1
            exact ⟨S', k, by rw [mulW]; omega, u2, u3, u4⟩
          | inr L' =>
            obtain ⟨S3, k1', L3, u1, u2, u3, u4, u5, u6, u7, u8, u9⟩ := b1
            obtain ⟨gd1, gd2, gd3, gd4, gd5⟩ := gd
            have p3 := pcx_ag c1 u2 rH_c
            have G := (M267_3 (N := N) (at0 := Int32.ofNat t.2.2.2.2.2.1) (n := n + 1) hsl p3.1 u4 hst q1 (by omega)).2 (by omega)
            obtain ⟨S4, hS4⟩ : ∃ q, m_sV (m_sA S3 55 FR.length (Int32.ofNat (n + 1))) 56 (Int32.ofNat (FR.length + 1)) = q := ⟨_, rfl⟩
            rw [hS4] at G
            have ag : m_agr [56] [55] [] S3 S4 := by rw [← hS4]; exact m_agr_sV (m_agr_sA m_agr_refl (by decide) _ _) (by decide) _
            have fr4 : frL S4 ((s, cs, n + 1) :: FR) := by
              rw [← hS4]
              have := frL_left (l := n + 1) u4
              exact ⟨by rw [List.length_cons]; rfl, this.2.1, this.2.2⟩
            have h4 : rH S S4 := m_agr_trans u2 (m_agr_mono ag (by decide) (by decide) (by decide))
            have i := ih S4 L3 L' mo1 (by omega) ⟨pcx_ag c1 h4 rH_c, fr4, ⟨t, hst, Or.inl ⟨q1, rfl, rfl⟩⟩, rsA_ag u5 ag (by decide), u7, u8, gd3, gd4, gd2, by rw [ag.1 52 (by decide)]; exact u3, c11⟩
            show rrS N sl S FR cs Ls (s + 1) t.2.2.2.2.2.1 _ (rnT _ (n + 1) L' mo1)
            generalize rnT (fun L mo => rnB sts (rnS sts nds fcs m) 25 (s + 1) t.2.2.2.2.2.1 L mo) (n + 1) L' mo1 = Q at i ⊢
            obtain ⟨Q1, Q2⟩ := Q
            cases Q1 with
            | inl w =>
              obtain ⟨S5, k2, i1, i2, i3, i4', i4⟩ := i
              refine ⟨S5, k2 + 1 + k1', by rw [mulW]; omega, m_agr_trans h4 i2, i3, i4', fun n => ?_⟩
              have := u9 _ _ (LP_g hsl p3.1 u4 c3 (by omega) G (i4 n))
              rw [← Nat.add_assoc, ← Nat.add_assoc]
              exact this
            | inr L2 =>
              obtain ⟨S5, k2, L5, i1, i2, i3, i4, i5, i6, i7, i8, i9⟩ := i
              refine ⟨S5, k2 + 1 + k1', L5, by rw [mulW]; omega, m_agr_trans h4 i2, i3, i4, i5, fun q hq => (i6 q hq).trans (u6 q hq), i7, i8, fun n res k => ?_⟩
              have := u9 _ _ (LP_g hsl p3.1 u4 c3 (by omega) G (i9 n res k))
              rw [← Nat.add_assoc, ← Nat.add_assoc]
              exact this
      obtain ⟨S2, f1, f2, f3⟩ := M277_do (N := N) (s := s) (set := cs) (l := t.2.1) c2 (by omega)
      have M := (M275_3 (N := N) hsl hs24 c1.1 c2 c3 hcs hst q1 q3 rcs hLs).2 (by omega) f1
      have h02 : rH S S2 := rH_f f3
      obtain ⟨n, hn⟩ : ∃ n, t.2.1 = n + 1 := ⟨t.2.1 - 1, by omega⟩
      rw [hn] at f2 ⊢
      have i := key n S2 Ls L mo (by omega) ⟨pcx_ag c1 h02 rH_c, f2, ⟨t, hst, Or.inl ⟨q1, rfl, rfl⟩⟩, rsA_ag c4 f3 (by decide), c5, c6, c7, c8, c9, by rw [f3.1 52 (by decide)]; exact c10, by rw [List.length_cons]; omega⟩
      have mul20 : (n + 1) * (24 * Wc m + 1) ≤ 20 * (24 * Wc m + 1) := Nat.mul_le_mul_right _ (by omega)
      generalize rnT (fun L mo => rnB sts (rnS sts nds fcs m) 25 (s + 1) t.2.2.2.2.2.1 L mo) (n + 1) L mo = Q at i ⊢
      obtain ⟨Q1, Q2⟩ := Q
      cases Q1 with
      | inl w =>
        obtain ⟨S5, k2, i1, i2, i3, i4', i4⟩ := i
        refine ⟨S5, k2 + 1, by rw [Wc]; omega, m_agr_trans h02 i2, i3, i4', fun n => ?_⟩
        rw [← Nat.add_assoc]
        exact LP_p hsl c1.1 c2 c3 (by omega) hs24 (by omega) hslen M (i4 n)
      | inr L2 =>
        obtain ⟨S5, k2, L5, i1, i2, i3, i4, i5, i6, i7, i8, i9⟩ := i
        refine ⟨S5, k2 + 1, L5, by rw [Wc]; omega, m_agr_trans h02 i2, i3, i4, i5, i6, i7, i8, fun n res k => ?_⟩
        rw [← Nat.add_assoc]
        exact LP_p hsl c1.1 c2 c3 (by omega) hs24 (by omega) hslen M (i9 n res k)
theorem RR_do (hN : 100000 ≤ N) (hsl : sl < 3) (hnl : nds.length ≤ 160) (hfc : fcs.length ≤ 160) (h40 : lcn nds ≤ 40) (h24 : sts.length ≤ 24) : ∀ m, blkR N sl sts nds fcs H m := by
  intro m
  induction m with
  | zero => exact blkR_of hN hsl hnl hfc h24 (fun A B s t a _ _ h => h.elim)
  | succ m ih => exact blkR_of hN hsl hnl hfc h24 (stmR_suc hN hsl hnl hfc h40 h24 ih)
end RNM
