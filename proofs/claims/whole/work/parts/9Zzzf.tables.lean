/-! DICE, THE REFERENCE: all tables of a program -/
def isDc (nd : Nd) : Bool := decide (nd.1 = 4)
def dcn (nds : List Nd) : Nat := (nds.filter isDc).length
theorem dcn_take {nds : List Nd} {i : Nat} {nd : Nd} (h : nds[i]? = some nd) : dcn (nds.take (i + 1)) = dcn (nds.take i) + (if nd.1 = 4 then 1 else 0) := by
  unfold dcn
  rw [List.take_add_one, h, List.filter_append, List.length_append]
  congr 1
  show (List.filter isDc [nd]).length = _
  rw [List.filter_cons]
  by_cases e : nd.1 = 4
  · rw [if_pos e, if_pos (by unfold isDc; exact decide_eq_true e)]
    rfl
  · rw [if_neg e, if_neg (by unfold isDc; rw [decide_eq_false e]; decide)]
    rfl
theorem dcn_mono {nds : List Nd} {a b : Nat} (h : a ≤ b) : dcn (nds.take a) ≤ dcn (nds.take b) := by
  obtain ⟨d, rfl⟩ : ∃ d, b = a + d := ⟨b - a, by omega⟩
  unfold dcn
  rw [List.take_add, List.filter_append, List.length_append]
  omega
theorem dcn_lcn {nds : List Nd} : dcn nds ≤ lcn nds := by
  unfold dcn lcn
  induction nds with
  | nil => exact Nat.le_refl _
  | cons x l ih =>
    rw [List.filter_cons, List.filter_cons]
    by_cases e : isDc x = true
    · have e2 : isLf x = true := by
        unfold isDc at e
        unfold isLf
        have : x.1 = 4 := of_decide_eq_true e
        rw [this]
        decide
      rw [if_pos e, if_pos e2, List.length_cons, List.length_cons]
      omega
    · rw [if_neg e]
      split
      · rw [List.length_cons]; omega
      · exact ih
theorem dcn_all {nds : List Nd} {a : Nat} : dcn (nds.take a) ≤ dcn nds := by
  have e : nds = nds.take a ++ nds.drop a := (List.take_append_drop a nds).symm
  conv => rhs; rw [e]
  unfold dcn
  rw [List.filter_append, List.length_append]
  omega
section DCT
variable {N : Nat}
/-- the dice of the nodes from lo to hi have their tables -/
def tab (S : mS) (sl : Nat) (nds : List Nd) (lo hi item : Nat) : Prop := ∀ (i : Nat) (nd : Nd) (n m k : Nat) (pick : Int32), lo ≤ i → i < hi → nds[i]? = some nd → dcNd nd n m k pick → ∃ it, it < item ∧ S.2.1 18 (160 * sl + i) = Int32.ofNat it ∧ dcRow S it n m k pick
def dcIn (nds : List Nd) (lo hi : Nat) : Prop := ∀ (i : Nat) (nd : Nd), lo ≤ i → i < hi → nds[i]? = some nd → nd.1 = 4 → ∃ n m k pick, dcNd nd n m k pick
theorem n_inj {a b : Nat} (ha : a < 2147483648) (hb : b < 2147483648) (h : Int32.ofNat a = Int32.ofNat b) : a = b := by
  have := congrArg Int32.toInt h
  rw [i_nat ha, i_nat hb] at this
  omega
theorem dcNd_un {nd : Nd} {n m k n' m' k' : Nat} {pick pick' : Int32} (h : dcNd nd n m k pick) (h' : dcNd nd n' m' k' pick') : n = n' ∧ m = m' ∧ k = k' ∧ pick = pick' := by
  obtain ⟨how, keep, ⟨a1, a2, a3⟩, e⟩ := h
  obtain ⟨how', keep', ⟨b1, b2, b3⟩, e'⟩ := h'
  rw [e] at e'
  injection e' with _ e'
  injection e' with e1 e'
  injection e' with e2 e'
  injection e' with e3 e'
  injection e' with e4 _
  have hn := n_inj (by omega) (by omega) e1
  have hm := n_inj (by omega) (by omega) e2
  subst e3 e4
  rcases a3 with ⟨c1, c2, c3, c4⟩ | ⟨c1, c2, c3, c4, c5⟩ | ⟨c1, c2, c3, c4⟩ <;> rcases b3 with ⟨d1, d2, d3, d4⟩ | ⟨d1, d2, d3, d4, d5⟩ | ⟨d1, d2, d3, d4⟩
  · exact ⟨hn, hm, by omega, by rw [c3, d3]⟩
  · rw [c1] at d1; exact absurd d1 (by decide)
  · rw [c1] at d1; exact absurd d1 (by decide)
  · rw [c1] at d1; exact absurd d1 (by decide)
  · rw [c5] at d5; exact ⟨hn, hm, n_inj (by omega) (by omega) d5, by rw [c2, d2]⟩
  · rw [c1] at d1; exact absurd d1 (by decide)
  · rw [d1] at c1; exact absurd c1 (by decide)
  · rw [d1] at c1; exact absurd c1 (by decide)
  · rw [c4] at d4; exact ⟨hn, hm, n_inj (by omega) (by omega) d4, by rw [c2, d2]⟩
/-- a statement's dice -/
theorem M261_do (hN : 100000000000000000 ≤ N) {x1 : Int32} {sl s : Nat} {sts : List St} {nds : List Nd} {fcs : List Int32} {t : St} (hs : x1.toInt = sl) (hsl : sl < 3) (h40 : lcn nds ≤ 40) (ht : sts[s]? = some t) (h3 : t.1 ≠ 3) (hlo : t.2.2.1 ≤ t.2.2.2.1) (hhi : t.2.2.2.1 < nds.length) (hdc : dcIn nds t.2.2.1 (t.2.2.2.1 + 1)) {S : mS} (hp : pgR S sl sts nds fcs) {item : Nat} (hit : item ≤ dcn (nds.take t.2.2.1)) : ∃ S' item', M261 N x1 (Int32.ofNat s) (Int32.ofNat item) S = some (Int32.ofNat item', S') ∧ item' ≤ dcn (nds.take (t.2.2.2.1 + 1)) ∧ item ≤ item' ∧ m_agr [] [18, 37] [21, 38] S S' ∧ (∀ p, (∀ i nd, p = 160 * sl + i → t.2.2.1 ≤ i → i ≤ t.2.2.2.1 → nds[i]? = some nd → nd.1 ≠ 4) → S'.2.1 18 p = S.2.1 18 p) ∧ (∀ p, p < 121 * item → S'.2.2 21 p = S.2.2 21 p) ∧ tab S' sl nds t.2.2.1 (t.2.2.2.1 + 1) item' := by
  obtain ⟨q1, q2, q3, q4, q5, q6, q7⟩ := hp
  have hlt := (List.getElem?_eq_some_iff.mp ht).1
  obtain ⟨r1, r2, r3, r4, r5, r6, r7⟩ := q5 s t ht
  obtain ⟨r8, r9⟩ := r4 h3
  have e24 := i_24 (i := Int32.ofNat s) hs (by omega) (i_nat (by omega)) (by omega)
  have t24 : (24 * x1 + Int32.ofNat s).toInt.toNat = 24 * sl + s := by omega
  have c8 : 0 ≤ (24 * x1 + Int32.ofNat s).toInt ∧ (24 * x1 + Int32.ofNat s).toInt < mN 8 := by rw [show mN 8 = 96 from rfl]; omega
  have c9 : 0 ≤ (24 * x1 + Int32.ofNat s).toInt ∧ (24 * x1 + Int32.ofNat s).toInt < mN 9 := by rw [show mN 9 = 96 from rfl]; omega
  have x160 : ∀ k : Nat, k ≤ 160 → 160 * x1 + Int32.ofNat k = Int32.ofNat (160 * sl + k) := fun k hk => i_eq (by rw [i_160 hs (by omega) hk]; omega)
  have hd40 : dcn nds ≤ 40 := Nat.le_trans dcn_lcn h40
  have key : ∀ (d i it : Nat) (S0 : mS), i + d = t.2.2.2.1 + 1 → t.2.2.1 ≤ i → m_agr [] [18, 37] [21, 38] S S0 → it ≤ dcn (nds.take i) → item ≤ it → (∀ p, (∀ i nd, p = 160 * sl + i → t.2.2.1 ≤ i → i ≤ t.2.2.2.1 → nds[i]? = some nd → nd.1 ≠ 4) → S0.2.1 18 p = S.2.1 18 p) → (∀ p, p < 121 * item → S0.2.2 21 p = S.2.2 21 p) → tab S0 sl nds t.2.2.1 i it → ∃ S' item', t_lp (B261_22 N) (d + 1) (x1, Int32.ofNat s, Int32.ofNat it, Int32.ofNat (160 * sl + i), S0) = some (Int32.ofNat item', S') ∧ item' ≤ dcn (nds.take (t.2.2.2.1 + 1)) ∧ item ≤ item' ∧ m_agr [] [18, 37] [21, 38] S S' ∧ (∀ p, (∀ i nd, p = 160 * sl + i → t.2.2.1 ≤ i → i ≤ t.2.2.2.1 → nds[i]? = some nd → nd.1 ≠ 4) → S'.2.1 18 p = S.2.1 18 p) ∧ (∀ p, p < 121 * item → S'.2.2 21 p = S.2.2 21 p) ∧ tab S' sl nds t.2.2.1 (t.2.2.2.1 + 1) item' := by
    intro d
    induction d with
    | zero =>
      intro i it S0 hi _ ag hit0 hii l18 l21 tb
      have v9 : S0.2.1 9 (24 * sl + s) = Int32.ofNat t.2.2.2.1 := by rw [ag.2.1 9 (by decide)]; exact r9
      have c : mj_c2 .gt (Int32.ofNat (160 * sl + i)) (Int32.ofNat (160 * sl + t.2.2.2.1)) = true := (c_gt (by omega) (by omega)).trans (decide_eq_true (by omega))
      have : i = t.2.2.2.1 + 1 := by omega
      subst this
      refine ⟨S0, it, t_end ?_ _, hit0, hii, ag, l18, l21, tb⟩
      simp only [B261_22, if_pos c9, t24, v9, x160 t.2.2.2.1 (by omega), c, cond_true]
    | succ d ih =>
      intro i it S0 hi hlo2 ag hit0 hii l18 l21 tb
      have v9 : S0.2.1 9 (24 * sl + s) = Int32.ofNat t.2.2.2.1 := by rw [ag.2.1 9 (by decide)]; exact r9
      have c : mj_c2 .gt (Int32.ofNat (160 * sl + i)) (Int32.ofNat (160 * sl + t.2.2.2.1)) = false := (c_gt (by omega) (by omega)).trans (decide_eq_false (by omega))
      have c13 : 0 ≤ (Int32.ofNat (160 * sl + i)).toInt ∧ (Int32.ofNat (160 * sl + i)).toInt < mN 13 := n_at (by omega) (show 160 * sl + i < 640 by omega)
      obtain ⟨nd, hnd⟩ : ∃ nd, nds[i]? = some nd := ⟨nds[i]'(by omega), List.getElem?_eq_getElem (by omega)⟩
      obtain ⟨w1, w2, w3, w4, w5, w6⟩ := q6 i nd hnd
      have u13 : S0.2.1 13 (160 * sl + i) = nd.1 := by rw [ag.2.1 13 (by decide)]; exact w1
      have dt := dcn_take hnd
      by_cases e4 : nd.1 = 4
      · obtain ⟨n, m, k, pick, how, keep, dok, end_⟩ := hdc i nd hlo2 (by omega) hnd e4
        rw [if_pos e4] at dt
        have d1 := dcn_all (nds := nds) (a := i + 1)
        obtain ⟨S1, a1, a2, a3, a4, a5, a6⟩ := dice_do (N := N) (x1 := x1) (x2 := Int32.ofNat s) (item := it) hN (show 160 * sl + i < 640 by omega) (by omega) dok (S := S0) ⟨by rw [ag.2.1 14 (by decide)]; rw [end_] at w2; exact w2, by rw [ag.2.1 15 (by decide)]; rw [end_] at w3; exact w3, by rw [ag.2.1 16 (by decide)]; rw [end_] at w4; exact w4, by rw [ag.2.1 17 (by decide)]; rw [end_] at w5; exact w5⟩
        have cn : mj_c2 .ne nd.1 4 = false := by rw [e4]; decide
        have step : B261_22 N (x1, Int32.ofNat s, Int32.ofNat it, Int32.ofNat (160 * sl + i), S0) = some (.inl (x1, Int32.ofNat s, Int32.ofNat (it + 1), Int32.ofNat (160 * sl + i + 1), S1)) := by
          simp only [B261_22, if_pos c9, t24, v9, x160 t.2.2.2.1 (by omega), c, cond_false, if_pos c13, n_t (a := 160 * sl + i) (by omega), u13, cn]
          exact a1
        obtain ⟨S2, item2, b1, b2⟩ := ih (i + 1) (it + 1) S1 (by omega) (by omega) (m_agr_trans ag a4) (by omega) (by omega) (fun p hp => by
          rw [a5 p (fun e => hp i nd e hlo2 (by omega) hnd e4)]
          exact l18 p hp) (fun p hp => by
          rw [a6 p (by omega)]
          exact l21 p hp) (by
          intro i' nd' n' m' k' pick' h1 h2 h3 h4
          by_cases e : i' = i
          · subst e
            rw [hnd] at h3
            cases h3
            obtain ⟨rfl, rfl, rfl, rfl⟩ := dcNd_un ⟨how, keep, dok, end_⟩ h4
            exact ⟨it, by omega, a3, a2⟩
          · obtain ⟨it', g1, g2, g3⟩ := tb i' nd' n' m' k' pick' h1 (by omega) h3 h4
            refine ⟨it', by omega, (a5 _ (by omega)).trans g2, fun s hs => ?_⟩
            rw [a6 _ (by omega)]
            exact g3 s hs)
        exact ⟨S2, item2, by rw [t_one step]; exact b1, b2⟩
      · rw [if_neg e4] at dt
        have cn : mj_c2 .ne nd.1 4 = true := by
          refine i_c2 ?_
          show decide _ = true
          refine decide_eq_true (fun q => e4 (Int32.toInt_inj.mp q))
        have step : B261_22 N (x1, Int32.ofNat s, Int32.ofNat it, Int32.ofNat (160 * sl + i), S0) = some (.inl (x1, Int32.ofNat s, Int32.ofNat it, Int32.ofNat (160 * sl + i + 1), S0)) := by
          rw [← i_inc (k := 160 * sl + i) (by omega)]
          simp only [B261_22, if_pos c9, t24, v9, x160 t.2.2.2.1 (by omega), c, cond_false, if_pos c13, n_t (a := 160 * sl + i) (by omega), u13, cn, cond_true, J261_235]
        obtain ⟨S2, item2, b1, b2⟩ := ih (i + 1) it S0 (by omega) (by omega) ag (by omega) hii l18 l21 (by
          intro i' nd' n' m' k' pick' h1 h2 h3 h4
          by_cases e : i' = i
          · subst e
            rw [hnd] at h3
            cases h3
            obtain ⟨how, keep, dok, end_⟩ := h4
            rw [end_] at e4
            exact absurd rfl e4
          · exact tb i' nd' n' m' k' pick' h1 (by omega) h3 h4)
        exact ⟨S2, item2, by rw [t_one step]; exact b1, b2⟩
  obtain ⟨S', item', a1, a2⟩ := key (t.2.2.2.1 + 1 - t.2.2.1) t.2.2.1 item S (by omega) (Nat.le_refl _) m_agr_refl hit (Nat.le_refl _) (fun _ _ => rfl) (fun _ _ => rfl) (fun i nd n m k pick h1 h2 => by omega)
  refine ⟨S', item', ?_, a2⟩
  simp only [M261, if_pos c8, t24, r8, x160 t.2.2.1 (by omega)]
  exact t_lp_more _ _ _ (by omega) a1
/-- all tables of a program -/
def tabs (S : mS) (sl : Nat) (sts : List St) (nds : List Nd) : Prop := ∀ (i : Nat) (t : St), sts[i]? = some t → t.1 ≠ 3 → tab S sl nds t.2.2.1 (t.2.2.2.1 + 1) 40
theorem pgR_tab {S S' : mS} {sl : Nat} {sts : List St} {nds : List Nd} {fcs : List Int32} (h : pgR S sl sts nds fcs) (ag : m_agr [] [18, 37] [21, 38] S S') (l18 : ∀ p, (∀ i nd, p = 160 * sl + i → nds[i]? = some nd → nd.1 ≠ 4) → S'.2.1 18 p = S.2.1 18 p) : pgR S' sl sts nds fcs := by
  obtain ⟨q1, q2, q3, q4, q5, q6, q7⟩ := h
  refine ⟨by rw [ag.2.1 5 (by decide)]; exact q1, q2, q3, q4, fun i t it => ?_, fun i nd hi => ?_, fun i x hi => by rw [ag.2.1 20 (by decide)]; exact q7 i x hi⟩
  · rw [ag.2.1 6 (by decide), ag.2.1 7 (by decide), ag.2.1 8 (by decide), ag.2.1 9 (by decide), ag.2.1 10 (by decide), ag.2.1 11 (by decide), ag.2.2 12 (by decide)]
    exact q5 i t it
  · obtain ⟨w1, w2, w3, w4, w5, w6⟩ := q6 i nd hi
    refine ⟨?_, ?_, ?_, ?_, ?_, fun h4 => ?_⟩
    · show S'.2.1 13 _ = _
      rw [ag.2.1 13 (by decide)]; exact w1
    · show S'.2.1 14 _ = _
      rw [ag.2.1 14 (by decide)]; exact w2
    · show S'.2.1 15 _ = _
      rw [ag.2.1 15 (by decide)]; exact w3
    · show S'.2.1 16 _ = _
      rw [ag.2.1 16 (by decide)]; exact w4
    · show S'.2.1 17 _ = _
      rw [ag.2.1 17 (by decide)]; exact w5
    · rw [← w6 h4]
      show (S'.2.1 18 _, S'.2.1 19 _) = (S.2.1 18 _, S.2.1 19 _)
      rw [ag.2.1 19 (by decide), l18 _ (fun i' nd' e hi' => by
        have : i' = i := by omega
        subst this
        rw [hi] at hi'
        cases hi'
        exact h4)]
theorem L260_49_do (hN : 100000000000000000 ≤ N) {x1 : Int32} {sl : Nat} {sts : List St} {nds : List Nd} {fcs : List Int32} (hs : x1.toInt = sl) (hsl : sl < 3) (hL : pgL sts nds) (hdc : ∀ (i : Nat) (t : St), sts[i]? = some t → t.1 ≠ 3 → dcIn nds t.2.2.1 (t.2.2.2.1 + 1)) {S : mS} (hp : pgR S sl sts nds fcs) : ∃ S', (∀ r, L260_94 N (x1, 0, S') = some r → L260_49 N (x1, 0, 0, S) = some r) ∧ pgR S' sl sts nds fcs ∧ tabs S' sl sts nds ∧ m_agr [] [18, 37] [21, 38] S S' ∧ (∀ p, (∀ i nd, p = 160 * sl + i → nds[i]? = some nd → nd.1 ≠ 4) → S'.2.1 18 p = S.2.1 18 p) := by
  obtain ⟨h40, hnest, hrng⟩ := hL
  have h24 := hp.2.1
  have c5 : 0 ≤ x1.toInt ∧ x1.toInt < mN 5 := by rw [show mN 5 = 4 from rfl]; omega
  have t5 : x1.toInt.toNat = sl := by omega
  have key : ∀ (d i it b : Nat) (S0 : mS), i + d = sts.length → m_agr [] [18, 37] [21, 38] S S0 → (∀ p, (∀ i nd, p = 160 * sl + i → nds[i]? = some nd → nd.1 ≠ 4) → S0.2.1 18 p = S.2.1 18 p) → it ≤ dcn (nds.take b) → (∀ (j : Nat) (u : St), i ≤ j → sts[j]? = some u → u.1 ≠ 3 → b ≤ u.2.2.1) → (∀ (j : Nat) (u : St), j < i → sts[j]? = some u → u.1 ≠ 3 → u.2.2.2.1 < b ∧ tab S0 sl nds u.2.2.1 (u.2.2.2.1 + 1) it) → ∃ S', (∀ r, L260_94 N (x1, 0, S') = some r → t_lp (B260_49 N) (d + 1) (x1, Int32.ofNat it, Int32.ofNat i, S0) = some r) ∧ tabs S' sl sts nds ∧ m_agr [] [18, 37] [21, 38] S S' ∧ (∀ p, (∀ i nd, p = 160 * sl + i → nds[i]? = some nd → nd.1 ≠ 4) → S'.2.1 18 p = S.2.1 18 p) := by
    intro d
    induction d with
    | zero =>
      intro i it b S0 hi ag l18 hit _ htb
      have v5 : S0.2.1 5 sl = Int32.ofNat sts.length := by rw [ag.2.1 5 (by decide)]; exact hp.1
      have c : mj_c2 .ge (Int32.ofNat i) (Int32.ofNat sts.length) = true := (c_ge (by omega) (by omega)).trans (decide_eq_true (by omega))
      refine ⟨S0, fun r hr => ?_, fun j u ju jk => ?_, ag, l18⟩
      · refine t_lp_map ?_ |>.trans hr
        simp only [B260_49, if_pos c5, t5, v5, c, cond_true]
      · have hj := (List.getElem?_eq_some_iff.mp ju).1
        intro a nd n m k pick h1 h2 h3 h4
        obtain ⟨it', g1, g2, g3⟩ := (htb j u (by omega) ju jk).2 a nd n m k pick h1 h2 h3 h4
        have := dcn_all (nds := nds) (a := b)
        have := dcn_lcn (nds := nds)
        exact ⟨it', by omega, g2, g3⟩
    | succ d ih =>
      intro i it b S0 hi ag l18 hit hb htb
      have v5 : S0.2.1 5 sl = Int32.ofNat sts.length := by rw [ag.2.1 5 (by decide)]; exact hp.1
      have c : mj_c2 .ge (Int32.ofNat i) (Int32.ofNat sts.length) = false := (c_ge (by omega) (by omega)).trans (decide_eq_false (by omega))
      obtain ⟨t, ht⟩ : ∃ t, sts[i]? = some t := ⟨sts[i]'(by omega), List.getElem?_eq_getElem (by omega)⟩
      have e24 := i_24 (i := Int32.ofNat i) hs (by omega) (i_nat (by omega)) (by omega)
      have t24 : (24 * x1 + Int32.ofNat i).toInt.toNat = 24 * sl + i := by omega
      have c6 : 0 ≤ (24 * x1 + Int32.ofNat i).toInt ∧ (24 * x1 + Int32.ofNat i).toInt < mN 6 := by rw [show mN 6 = 96 from rfl]; omega
      obtain ⟨k3, r2, -⟩ := hp.2.2.2.2.1 i t ht
      have v6 : S0.2.1 6 (24 * sl + i) = Int32.ofNat t.1 := by rw [ag.2.1 6 (by decide)]; exact r2
      by_cases h3 : t.1 = 3
      · have cn : mj_c2 .ne (Int32.ofNat t.1) 3 = false := (c_ne (b := 3) (by omega) (by omega)).trans (decide_eq_false (fun q => q h3))
        have step : B260_49 N (x1, Int32.ofNat it, Int32.ofNat i, S0) = some (.inl (x1, Int32.ofNat it, Int32.ofNat (i + 1), S0)) := by
          rw [← i_inc (by omega)]
          simp only [B260_49, if_pos c5, t5, v5, c, cond_false, if_pos c6, t24, v6, cn, J260_85]
        obtain ⟨S', a1, a2⟩ := ih (i + 1) it b S0 (by omega) ag l18 hit (fun j u hj => hb j u (by omega)) (fun j u hj ju jk => by
          by_cases e : j = i
          · subst e
            rw [ht] at ju
            cases ju
            exact absurd h3 jk
          · exact htb j u (by omega) ju jk)
        exact ⟨S', fun r hr => by rw [t_one step]; exact a1 r hr, a2⟩
      · have cn : mj_c2 .ne (Int32.ofNat t.1) 3 = true := (c_ne (b := 3) (by omega) (by omega)).trans (decide_eq_true h3)
        obtain ⟨g1, g2, g3⟩ := hrng i t ht h3
        have bt := hb i t (Nat.le_refl _) ht h3
        obtain ⟨S1, it1, a1, a2, a3, a4, a5, a6, a7⟩ := M261_do (N := N) hN hs hsl h40 ht h3 g1 g2 (hdc i t ht h3) (pgR_tab hp ag l18) (item := it) (Nat.le_trans hit (dcn_mono bt))
        have step : B260_49 N (x1, Int32.ofNat it, Int32.ofNat i, S0) = some (.inl (x1, Int32.ofNat it1, Int32.ofNat (i + 1), S1)) := by
          rw [← i_inc (by omega)]
          simp only [B260_49, if_pos c5, t5, v5, c, cond_false, if_pos c6, t24, v6, cn, cond_true, a1, Option.bind_some, J260_85]
        obtain ⟨S', b1, b2⟩ := ih (i + 1) it1 (t.2.2.2.1 + 1) S1 (by omega) (m_agr_trans ag a4) (fun p hp2 => by
          rw [a5 p (fun i' nd e _ _ h => hp2 i' nd e h)]
          exact l18 p hp2) a2 (fun j u hj ju jk => g3 j u (by omega) ju jk) (fun j u hj ju jk => by
          by_cases e : j = i
          · subst e
            rw [ht] at ju
            cases ju
            exact ⟨by omega, a7⟩
          · obtain ⟨w1, w2⟩ := htb j u (by omega) ju jk
            refine ⟨by omega, fun a nd n m k pick h1 h2 h3 h4 => ?_⟩
            obtain ⟨it', z1, z2, z3⟩ := w2 a nd n m k pick h1 h2 h3 h4
            refine ⟨it', by omega, ?_, fun s hs => ?_⟩
            · rw [a5 _ (fun i' nd' e1 e2 e3 e4 => by omega)]
              exact z2
            · rw [a6 _ (by omega)]
              exact z3 s hs)
        exact ⟨S', fun r hr => by rw [t_one step]; exact b1 r hr, b2⟩
  obtain ⟨S', a1, a2, a3, a4⟩ := key sts.length 0 0 0 S (by omega) m_agr_refl (fun _ _ => rfl) (Nat.zero_le _) (fun _ _ _ _ _ => Nat.zero_le _) (fun j u hj => by omega)
  exact ⟨S', fun r hr => t_lp_more _ _ _ (by omega) (a1 r hr), pgR_tab hp a3 a4, a2, a3, a4⟩
end DCT
