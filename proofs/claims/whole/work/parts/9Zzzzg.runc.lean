/-! STATEMENTS AND PROGRAMS DONE, THE CLASS -/
section RNC
variable {xt : mj_X} {ct : Nat → Value} {N z : Nat} {D : List Nat} {sts : List St} {nds : List Nd} {fcs : List Int32} {H0 : mj_H}
def crS (z : Nat) (D : List Nat) (H : mj_H) (Ls : Nat → Ss) (j dp : Nat) (r : Rn) (x : Option (Int32 × mj_H)) : Prop := ∃ v K mo' π' Ls', x = some (v, K) ∧ ruF z D H K ∧ rnI z D K mo' π' Ls' ∧ (∀ q, q ≠ 1 → q ≠ j → q < 2 + 2 * dp → Ls' q = Ls q) ∧ match r.1 with
  | .inl w => v = w ∧ mo' = r.2
  | .inr L' => v = 0 ∧ gds (Ls' j) ∧ eqs (Ls' j) L' ∧ max mo' L'.length = r.2
def crB (z : Nat) (D : List Nat) (H : mj_H) (Ls : Nat → Ss) (j dp : Nat) (r : Rn) (x : Option (Int32 × mj_H)) : Prop := ∃ v K π' Ls', x = some (v, K) ∧ ruF z D H K ∧ rnI z D K r.2 π' Ls' ∧ (∀ q, q ≠ 1 → q ≠ j → q < 2 + 2 * dp → Ls' q = Ls q) ∧ match r.1 with
  | .inl w => v = w
  | .inr L' => v = 0 ∧ gds (Ls' j) ∧ eqs (Ls' j) L'
theorem eqs_insA {X Y : Ss} (h : eqs X Y) : eqs (insA X []) (insA Y []) := fun f => by rw [insA_sF, insA_sF, h]
theorem altS_sub {ev : Vs → Option Sp} {g : Vs × Nat → Sp → Ss} (hg : ∀ p s, (g p s).map Prod.fst = [] ∨ (g p s).map Prod.fst = [p.1]) : ∀ (L X : Ss), altS ev g L X → List.Sublist (X.map Prod.fst) (L.map Prod.fst) := by
  intro L
  induction L with
  | nil => intro X h; rw [show X = [] from h]; exact List.Sublist.refl _
  | cons p r ih =>
    intro X h
    obtain ⟨s, s', t, f, -, -, -, e, h'⟩ := h
    have i := ih t h'
    rw [e, List.map_append, List.map_cons]
    rcases hg p s' with q | q
    · rw [q, List.nil_append]
      exact List.Sublist.cons _ i
    · rw [q, List.singleton_append]
      exact List.Sublist.cons₂ _ i
theorem k_Ys (p : Vs × Nat) (s : Sp) : (gYs p s).map Prod.fst = [] ∨ (gYs p s).map Prod.fst = [p.1] := by
  unfold gYs
  split
  · exact Or.inl rfl
  · exact Or.inr rfl
theorem k_No (p : Vs × Nat) (s : Sp) : (gNo p s).map Prod.fst = [] ∨ (gNo p s).map Prod.fst = [p.1] := by
  unfold gNo
  split
  · exact Or.inl rfl
  · exact Or.inr rfl
theorem alt_gds {ev : Vs → Option Sp} {g : Vs × Nat → Sp → Ss} (hk : ∀ p s, (g p s).map Prod.fst = [] ∨ (g p s).map Prod.fst = [p.1]) (hg : ∀ p s f, gdk p → gdS s f → ∀ x ∈ g p s, gdk x) {L X : Ss} (hL : gds L) (h : altS ev g L X) : gds X ∧ X.length ≤ L.length := by
  have sb := altS_sub hk L X h
  refine ⟨⟨sb.nodup hL.1, altS_gd hg L X hL.2 h⟩, ?_⟩
  have := sb.length_le
  rw [List.length_map, List.length_map] at this
  exact this
theorem rnI_mo {H : mj_H} {mo : Nat} {π : Nat → Nat} {Ls : Nat → Ss} (h : rnI z D H mo π Ls) (mo2 : Nat) : ∃ K, uF H (z + 8) 3 12 (.int (Int32.ofNat mo2)) = some K ∧ rnI z D K mo2 π Ls ∧ bfr z H K := by
  obtain ⟨h1, ⟨sp, ho, V, T, F, W, hr, hs, hv⟩, h3, h4, h5⟩ := h
  obtain ⟨K, a1, a2, a3⟩ := bO_m ho (Int32.ofNat mo2)
  have fb : bfr z H K := bfr_of a3 (by omega)
  exact ⟨K, a1, ⟨lyS_b h1 fb, ⟨sp, a2, V, T, F, W, bR_fr hr a3 (by omega), hs, hv⟩, stsH_fr h3 (fun q hq => fb.1 q (by omega)), (fb.1 _ (by omega)).trans h4, (fb.1 _ (by omega)).trans h5⟩, fb⟩
theorem TT_all {d : Nat} : (TT xt ct N (d + 1)).2.2.2.2.1 = C138 xt ct (TT xt ct N d) N := rfl
theorem ne_neg {v : Int32} (h : v = -1 ∨ v = -2) : mj_c1 .ne v = true ∧ mj_c1 .eq v = false := by
  rcases h with e | e <;> rw [e] <;> decide
theorem swp_i {α : Type} {f : Nat → α} {i j : Nat} (h : i ≠ j) : swp f i j j = f i := by
  unfold swp
  rw [if_neg (fun q => h q.symm), if_pos rfl]
theorem swp_o {α : Type} {f : Nat → α} {i j q : Nat} (h1 : q ≠ i) (h2 : q ≠ j) : swp f i j q = f q := by
  unfold swp
  rw [if_neg h1, if_neg h2]
def stmP (xt : mj_X) (ct : Nat → Value) (N z : Nat) (D : List Nat) (sts : List St) (nds : List Nd) (fcs : List Int32) (H0 : mj_H) (m : Nat) : Prop := ∀ (A B s : Nat) (t : St) (a : Nat), sts[s]? = some t → t.2.2.2.2.2.1 ≤ sts.length → sT H0 sts nds fcs m A B s t a → t.2.2.2.2.2.2 ≤ 2147483648 → z + 107 ≤ A → B ≤ H0.2.1 → ∀ (k dp : Nat) (H : mj_H) (j mo : Nat) (π : Nat → Nat) (Ls : Nat → Ss) (L : Ss), 45 + m ≤ k → dp ≤ 4 → nest sts (4 - dp) s → ruF z D H0 H → rnI z D H mo π Ls → j ≠ 1 → j < 2 + 2 * dp → gds (Ls j) → eqs (Ls j) L → gds L → L.length ≤ mo → mo ≤ 64 → crS z D H Ls j dp (rnS sts nds fcs m s L mo) (C139 xt ct (TT xt ct N k) N a (z + so j) (z + 8) (Int32.ofNat dp) H)
def blkP (xt : mj_X) (ct : Nat → Value) (N z : Nat) (D : List Nat) (sts : List St) (nds : List Nd) (fcs : List Int32) (H0 : mj_H) (m : Nat) : Prop := ∀ (A B : Nat) (l : List (Nat × Nat)) (o : Option Nat) (lo hi fu : Nat), hi ≤ sts.length → hi - lo ≤ fu → chn H0 l o → bk (sT H0 sts nds fcs m A B) sts l lo hi → fold_ l 1 ≤ 2147483648 → z + 107 ≤ A → B ≤ H0.2.1 → ∀ (k dp : Nat) (H : mj_H) (j mo : Nat) (π : Nat → Nat) (Ls : Nat → Ss) (L : Ss), 46 + m ≤ k → dp ≤ 4 → (∀ i, lo ≤ i → i < hi → nest sts (4 - dp) i) → ruF z D H0 H → rnI z D H mo π Ls → j ≠ 1 → j < 2 + 2 * dp → gds (Ls j) → eqs (Ls j) L → gds L → L.length ≤ mo → mo ≤ 64 → crB z D H Ls j dp (rnB sts (rnS sts nds fcs m) fu lo hi L mo) ((TT xt ct N k).2.2.2.2.1 o (z + so j) (z + 8) (Int32.ofNat dp) H)
/-- programs, from statements -/
theorem blk_of (hN : 100000 ≤ N) (hD : ∀ q ∈ D, z + 107 ≤ q) (hnl : nds.length ≤ 160) (hfc : fcs.length ≤ 160) (h24 : sts.length ≤ 24) {m : Nat} (stm : stmP xt ct N z D sts nds fcs H0 m) : blkP xt ct N z D sts nds fcs H0 m := by
  have good := rn_good (H := H0) hnl hfc h24 m
  have n0 : mj_c1 .ne 0 = false := by decide
  intro A B l o lo hi fu hh hfu hc hb hf hA hB k dp H j mo π Ls L hk hdp hnest hru hI hj1 hj2 gj eL gL hLm hmo
  obtain ⟨k, rfl⟩ : ∃ k', k = k' + 1 := ⟨k - 1, by omega⟩
  rw [TT_all]
  obtain ⟨O, hO⟩ : ∃ O, TT xt ct N k = O := ⟨_, rfl⟩
  have key : ∀ (l : List (Nat × Nat)) (o : Option Nat) (lo fu : Nat) (H : mj_H) (mo : Nat) (π : Nat → Nat) (Ls : Nat → Ss) (L : Ss), hi - lo ≤ fu → chn H0 l o → bk (sT H0 sts nds fcs m A B) sts l lo hi → fold_ l 1 ≤ 2147483648 → (∀ i, lo ≤ i → i < hi → nest sts (4 - dp) i) → ruF z D H0 H → rnI z D H mo π Ls → gds (Ls j) → eqs (Ls j) L → gds L → L.length ≤ mo → mo ≤ 64 → crB z D H Ls j dp (rnB sts (rnS sts nds fcs m) fu lo hi L mo) (t_lp (B138_6 xt ct O N) (l.length + 1) (z + so j, z + 8, Int32.ofNat dp, 0, o, H)) := by
    intro l
    induction l with
    | nil =>
      intro o lo fu H mo π Ls L hfu hc hb hf hnest hru hI gj eL gL hLm hmo
      have e1 : lo = hi := hb
      have e2 : o = none := hc
      have er : rnB sts (rnS sts nds fcs m) fu lo hi L mo = (.inr L, mo) := by
        cases fu with
        | zero => rfl
        | succ fu => rw [rnB, if_neg (fun q => absurd q.1 (by omega))]
      rw [er]
      refine ⟨0, H, π, Ls, t_end ?_ _, ruF_refl, hI, fun _ _ _ _ => rfl, rfl, gj, eL⟩
      rw [e2]
      simp only [B138_6, Option.isNone_none, cond_true, J138_63, Option.map_some]
    | cons x r ih =>
      intro o lo fu H mo π Ls L hfu hc hb hf hnest hru hI gj eL gL hLm hmo
      obtain ⟨e0, hbd, w0, w1, w2, w3, w4, w5, w6, nx, hc1, hc2⟩ := hc
      obtain ⟨t, t1, t2, t3, t4⟩ := hb
      have l1 := sT_end t3
      have l2 := bk_le (fun s t a x => sT_end x) _ _ _ t4
      obtain ⟨fu, rfl⟩ : ∃ j', fu = j' + 1 := ⟨fu - 1, by omega⟩
      obtain ⟨f1, f2⟩ := fold_cons hbd (fun y hy => (chn_pos r nx hc2 y hy).1)
      rw [f1] at hf
      obtain ⟨f3, f4, f5⟩ := pr_two hbd.1 f2 hf
      have en : enS sts lo = t.2.2.2.2.2.1 := by unfold enS; rw [t1]
      have xr : A ≤ x.1 ∧ x.1 < B := by
        cases m with
        | zero => exact t3.elim
        | succ m => exact ⟨t3.1, t3.2.1⟩
      have hs := hI.2.2.1
      have hj : j < 10 := by omega
      have aj := hs.1 j hj
      have g2 : gI H (z + so j) 2 2 = some (Int32.ofNat (Ls j).length) := gI_of aj.2.2.1 rfl
      have lenL := eqs_len eL gj gL
      have nH := hru.2.1
      rw [rnB, en, e0]
      by_cases c : L = []
      · rw [if_neg (fun q => q.2 c)]
        refine ⟨0, H, π, Ls, t_end ?_ _, ruF_refl, hI, fun _ _ _ _ => rfl, rfl, gj, eL⟩
        rw [c] at lenL
        have l0 : mj_c1 .le (Int32.ofNat (Ls j).length) = true := by rw [lenL]; decide
        simp only [B138_6, Option.isNone_some, cond_false, n0, g2, l0, cond_true, J138_63, Option.bind_some, Option.map_some]
      · rw [if_pos ⟨by omega, c⟩]
        have lp : 1 ≤ (Ls j).length := by
          rw [lenL]
          cases L with
          | nil => exact absurd rfl c
          | cons _ _ => rw [List.length_cons]; omega
        have l0 : mj_c1 .le (Int32.ofNat (Ls j).length) = false := i_c1 (by
          show decide _ = false
          rw [i_nat (by have := aj.2.1; omega)]
          exact decide_eq_false (by omega))
        have cx := ru_at hru (by omega) (by omega) hc1 (by decide)
        have kx : gK H x.1 11 = some () := gK_of cx
        have hf' : t.2.2.2.2.2.2 ≤ 2147483648 := by omega
        obtain ⟨v, K, mo', π', Ls', c1, c2, c3, c4, c5⟩ := stm A B lo t x.1 t1 (by omega) t3 hf' hA hB k dp H j mo π Ls L (by omega) hdp (hnest lo (Nat.le_refl _) (by omega)) hru hI hj1 hj2 gj eL gL hLm hmo
        have gd := good.1 A B lo t x.1 L mo t1 (by omega) t3 hf' gL hLm hmo
        rw [hO] at c1
        have ru2 := ruF_trans hru c2
        have cK := ru_at ru2 (by omega) (by omega) hc1 (by decide)
        have gn : gR K x.1 11 8 = some nx := gR_of cK rfl
        generalize rnS sts nds fcs m lo L mo = R at c5 gd ⊢
        obtain ⟨R1, R2⟩ := R
        cases R1 with
        | inl w =>
          obtain ⟨c6, c7⟩ := c5
          obtain ⟨-, -, gv⟩ := gd
          have hw : v = -1 ∨ v = -2 := by rw [c6]; exact gv
          obtain ⟨nv, ev⟩ := ne_neg hw
          have st : B138_6 xt ct O N (z + so j, z + 8, Int32.ofNat dp, 0, some x.1, H) = some (.inl (z + so j, z + 8, Int32.ofNat dp, v, nx, K)) := by
            simp only [B138_6, Option.isNone_some, cond_false, n0, g2, l0, kx, c1, nv, cond_true, J138_53, gn, Option.bind_some]
          show crB z D H Ls j dp (.inl w, R2) _
          rw [List.length_cons, t_one st]
          refine ⟨v, K, π', Ls', t_end ?_ _, c2, by rw [← show mo' = R2 from c7]; exact c3, c4, c6⟩
          cases nx with
          | none => simp only [B138_6, Option.isNone_none, cond_true, J138_63, Option.map_some]
          | some n => simp only [B138_6, Option.isNone_some, cond_false, nv, cond_true, J138_63, Option.map_some]
        | inr L' =>
          obtain ⟨c6, c7, c8, c9⟩ := c5
          obtain ⟨gd1, gd2, gd3, gd4, gd5⟩ := gd
          have gd2' : R2 ≤ 64 := gd2
          subst c6
          have len' := eqs_len c8 c7 gd3
          obtain ⟨-, ⟨sp, hb3⟩, hs3, -⟩ := id c3
          have g12 : gI K (z + 8) 3 12 = some (Int32.ofNat mo') := gI_of hb3.1 rfl
          have g22 : gI K (z + so j) 2 2 = some (Int32.ofNat (Ls' j).length) := gI_of (hs3.1 j hj).2.2.1 rfl
          have mx := C18_do (xt := xt) (ct := ct) (O := O) (N := N) (H := K) (a := mo') (b := (Ls' j).length) (by omega) (by omega)
          rw [len', show max mo' L'.length = R2 from c9] at mx
          rw [len'] at g22
          obtain ⟨K2, d1, d2, d3⟩ := rnI_mo c3 R2
          have cK2 : K2.1 x.1 = _ := (d3.1 x.1 (by omega)).trans cK
          have gn2 : gR K2 x.1 11 8 = some nx := gR_of cK2 rfl
          have st : B138_6 xt ct O N (z + so j, z + 8, Int32.ofNat dp, 0, some x.1, H) = some (.inl (z + so j, z + 8, Int32.ofNat dp, 0, nx, K2)) := by
            simp only [B138_6, Option.isNone_some, cond_false, n0, g2, l0, kx, c1, g12, g22, mx, d1, J138_53, gn2, Option.bind_some]
          show crB z D H Ls j dp (rnB sts (rnS sts nds fcs m) fu t.2.2.2.2.2.1 hi L' R2) _
          rw [List.length_cons, t_one st]
          obtain ⟨v2, K3, π3, Ls3, e1, e2, e3, e4, e5⟩ := ih nx t.2.2.2.2.2.1 fu K2 R2 π' Ls' L' (by omega) hc2 t4 f5 (fun i i1 i2 => hnest i (by omega) i2) (ruF_trans ru2 (ruF_b d3 hD)) d2 c7 c8 gd3 gd4 gd2'
          exact ⟨v2, K3, π3, Ls3, e1, ruF_trans c2 (ruF_trans (ruF_b d3 hD) e2), e3, fun q q1 q2 q3 => (e4 q q1 q2 q3).trans (c4 q q1 q2 q3), e5⟩
  have ll := (bk_rng _ _ _ hb).2
  obtain ⟨v, K, π', Ls', c1, c2⟩ := key l o lo fu H mo π Ls L hfu hc hb hf hnest hru hI gj eL gL hLm hmo
  rw [hO]
  exact ⟨v, K, π', Ls', t_lp_more _ _ _ (by omega) c1, c2⟩
end RNC
