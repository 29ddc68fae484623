/-! PRINTED PROGRAMS: a plain function of the statements -/
def enS (sts : List St) (s : Nat) : Nat := match sts[s]? with
  | none => s + 1
  | some t => t.2.2.2.2.2.1
def prB (sts : List St) (P : Nat → List Int32) : Nat → Nat → Nat → List Int32
  | 0, _, _ => []
  | k + 1, lo, hi => if lo < hi then P lo ++ prB sts P k (enS sts lo) hi else []
def prS (sts : List St) (nds : List Nd) (fcs : List Int32) : Nat → Nat → List Int32
  | 0, _ => []
  | n + 1, s => match sts[s]? with
    | none => []
    | some t =>
      if t.1 = 0 then [Int32.ofNat (65 + t.2.1), 61] ++ prX nds fcs 45 t.2.2.2.1 ++ [59]
      else if t.1 = 1 then [33] ++ prX nds fcs 45 t.2.2.2.1 ++ [59]
      else if t.1 = 2 then [63] ++ prX nds fcs 45 t.2.2.2.1 ++ [123] ++ prB sts (prS sts nds fcs n) 25 (s + 1) t.2.2.2.2.1 ++ [125] ++ (if t.2.2.2.2.1 < t.2.2.2.2.2.1 then [58, 123] ++ prB sts (prS sts nds fcs n) 25 t.2.2.2.2.1 t.2.2.2.2.2.1 ++ [125] else [])
      else [42] ++ dgs t.2.1 ++ [123] ++ prB sts (prS sts nds fcs n) 25 (s + 1) t.2.2.2.2.2.1 ++ [125]
theorem prX_up {H : mj_H} {A B : Nat} {nds : List Nd} {fcs : List Int32} (hn : nds.length ≤ 160) : ∀ (n n' lo i a f : Nat), n ≤ n' → exT H A B nds fcs n lo i a f → prX nds fcs n' i = prX nds fcs n i := by
  intro n
  induction n with
  | zero => intro n' lo i a f _ h; exact h.elim
  | succ n ih =>
    intro n' lo i a f hn' h
    obtain ⟨n', rfl⟩ : ∃ k, n' = k + 1 := ⟨n' - 1, by omega⟩
    rcases h with ⟨el, nd, b, fl, h1, h2, h3⟩ | ⟨j, x, ej, h1, h2, h3, h4, h5⟩ | ⟨j, m, x, y, g, h, c, ej, h1, h2, h3, h4, h5, h6, h7, h8⟩
    · obtain ⟨-, -, k⟩ := h2
      have : ∀ m, prX nds fcs (m + 1) i = (if nd.1 = 0 then dgs nd.2.1.toInt.toNat else if nd.1 = 1 then [65 + nd.2.1] else if nd.1 = 2 then 45 :: sd (decide (tgI nds nd.2.2.2.2.2.1.toInt.toNat < 3)) (prX nds fcs m nd.2.2.2.2.2.1.toInt.toNat) else if nd.1 = 4 then dcP nd else if nd.1 = 5 then fcP ((fcs.drop nd.2.1.toInt.toNat).take nd.2.2.1.toInt.toNat) 91 else sd (decide (tgI nds nd.2.2.2.2.2.1.toInt.toNat < tgt nd.2.1 ∨ (tgt nd.2.1 = 0 ∧ tgI nds nd.2.2.2.2.2.1.toInt.toNat = 0))) (prX nds fcs m nd.2.2.2.2.2.1.toInt.toNat) ++ [chO nd.2.1] ++ sd (decide (tgI nds nd.2.2.2.2.2.2.toInt.toNat ≤ tgt nd.2.1)) (prX nds fcs m nd.2.2.2.2.2.2.toInt.toNat)) := fun m => by rw [prX, h1]
      rw [this, this]
      rcases k with ⟨v', c1, rfl, -⟩ | ⟨v', c1, rfl, -⟩ | ⟨n', m, how, keep, pick, k, w, c1, rfl, -⟩ | ⟨r, rfl, -⟩
      · rfl
      · rfl
      · rfl
      · rfl
    · subst ej
      have hj := (exT_fal _ _ _ _ _ h3).2.2.2.1
      rw [prX_neg h4 (by omega), prX_neg h4 (by omega), ih n' _ _ _ _ (by omega) h3]
    · subst ej
      have hj := (exT_fal _ _ _ _ _ h4).2.2.2.1
      have hm := (exT_fal _ _ _ _ _ h3).2.2.2.1
      rw [prX_op h6 (by omega) (by omega), prX_op h6 (by omega) (by omega), ih n' _ _ _ _ (by omega) h3, ih n' _ _ _ _ (by omega) h4]
section PRT
variable {xt : mj_X} {ct : Nat → Value} {N z A B : Nat} {H0 : mj_H} {sts : List St} {nds : List Nd} {fcs : List Int32}
theorem wrt_fr {A1 B1 : Nat} {f : mj_H → Option mj_H} {w : List Int32} (h : wrt z A1 B1 H0 f w) (hA : A ≤ A1) (hB : B1 ≤ B) : wrt z A B H0 f w := by
  intro H v bs tx ho hs hl
  refine h H v bs tx ⟨fun q q1 q2 => ho.1 q (by omega) (by omega), ?_, by have := ho.2.2; omega⟩ hs hl
  have := ho.2.1
  omega
/-- programs and statements, by how deep they are -/
theorem CP_wr (hN : 2000 ≤ N) (hd : dgZ xt ct z) (hn : nds.length ≤ 160) (hfc : fcs.length ≤ 160) (h24 : sts.length ≤ 24) : ∀ (m k : Nat), m + 46 ≤ k → ∀ (A B : Nat), z + 107 ≤ A → (∀ (s : Nat) (t : St) (a : Nat), sts[s]? = some t → t.2.2.2.2.2.1 ≤ sts.length → sT H0 sts nds fcs m A B s t a → wrt z A B H0 (C123 xt ct (TT xt ct N k) N a (z + 2)) (prS sts nds fcs m s)) ∧ (∀ (l : List (Nat × Nat)) (lo hi j : Nat) (o : Option Nat), hi ≤ sts.length → hi - lo ≤ j → chn H0 l o → bk (sT H0 sts nds fcs m A B) sts l lo hi → wrt z A B H0 (C122 xt ct (TT xt ct N k) N o (z + 2)) (prB sts (prS sts nds fcs m) (j + 1) lo hi)) := by
  intro m
  induction m with
  | zero =>
    intro k hk A B hA
    refine ⟨fun s t a _ _ h => h.elim, fun l lo hi j o hh hj hc hb => ?_⟩
    cases l with
    | nil =>
      have e1 : lo = hi := hb
      have e2 : o = none := hc
      subst e1 e2
      intro H v bs tx ho hs hl
      have ep : prB sts (prS sts nds fcs 0) (j + 1) lo lo = [] := by rw [prB, if_neg (by omega)]
      refine ⟨H, v, bs, ?_, by rw [ep, List.append_nil]; exact hs, tstep_refl hs.1 hs.2.1⟩
      refine t_lp_more 1 _ _ (by omega) (t_end ?_ 0)
      simp only [B122_2, Option.isNone_none, cond_true]
    | cons x r =>
      obtain ⟨t, -, -, h3, -⟩ := hb
      exact h3.elim
  | succ m ih =>
    intro k hk A B hA
    obtain ⟨k', rfl⟩ : ∃ k', k = k' + 1 := ⟨k - 1, by omega⟩
    obtain ⟨O, hO⟩ : ∃ O, TT xt ct N (k' + 1) = O := ⟨_, rfl⟩
    have hOw : O.2.2.2.2.2.1 = CW xt ct (TT xt ct N k') N := by rw [← hO]; rfl
    have hOp : O.2.2.2.1 = C122 xt ct (TT xt ct N k') N := by rw [← hO]; rfl
    rw [hO]
    have b0 : mj_c1 .eq 0 = true := by decide
    have b1 : mj_c1 .eq 1 = false := by decide
    -- an expression
    have wx : ∀ (A1 B1 lo i e f : Nat), z + 107 ≤ A1 → exT H0 A1 B1 nds fcs 45 lo i e f → wrt z A1 B1 H0 (O.2.2.2.2.2.1 e (z + 2)) (prX nds fcs 45 i) := by
      intro A1 B1 lo i e f hA1 h
      have h' := exT_mono0 (G := H0) (Nat.le_refl _) (Nat.le_refl _) (fun _ _ _ => rfl) h
      have hup : exT H0 A1 B1 nds fcs (k' + 1) lo i e f := by
        have := exT_mono (nds' := []) (fcs' := []) (G := H0) (A' := A1) (B' := B1) (Nat.le_refl _) (Nat.le_refl _) (fun _ _ _ => rfl) 45 (k' + 1) _ _ _ _ (by omega) h
        rw [List.append_nil, List.append_nil] at this
        exact this
      have := CW_do (xt := xt) (ct := ct) (N := N) hN hd hA1 hn hfc (k' + 1) lo i e f hup
      rw [prX_up hn 45 (k' + 1) lo i e f (by omega) h, hO] at this
      exact this
    -- a block in braces
    have wb : ∀ (A1 B1 : Nat) (l : List (Nat × Nat)) (lo hi : Nat) (o : Option Nat), z + 107 ≤ A1 → hi ≤ sts.length → chn H0 l o → bk (sT H0 sts nds fcs m A1 B1) sts l lo hi → wrt z A1 B1 H0 (C132 xt ct O N o (z + 2)) ([123] ++ prB sts (prS sts nds fcs m) 25 lo hi ++ [125]) := by
      intro A1 B1 l lo hi o hA1 hh hc hb H v bs tx ho hs hl
      rw [List.length_append, List.length_append, List.length_singleton, List.length_singleton] at hl
      have inner : wrt z A1 B1 H0 (C122 xt ct (TT xt ct N k') N o (z + 2)) (prB sts (prS sts nds fcs m) 25 lo hi) := (ih k' (by omega) A1 B1 hA1).2 l lo hi 24 o hh (by omega) hc hb
      obtain ⟨H1, v1, bs1, a1, a2, a3, a4⟩ := wr_ch (xt := xt) (ct := ct) (O := O) (N := N) (c := 123) hs (by omega) (by decide)
      obtain ⟨H2, v2, bs2, d1, d2, d3⟩ := inner H1 v1 bs1 (tx ++ [123]) (okh_st ho hA1 a4) a3 (by rw [List.length_append, List.length_singleton]; omega)
      obtain ⟨H3, v3, bs3, e1, e2, e3, e4⟩ := wr_ch (xt := xt) (ct := ct) (O := O) (N := N) (c := 125) d2 (by rw [List.length_append, List.length_append, List.length_singleton]; omega) (by decide)
      refine ⟨H3, v3, bs3, ?_, ?_, tstep_trans a4 (tstep_trans d3 e4)⟩
      · simp only [C132, a2, a1, hOp, d1, e2, e1, Option.bind_some]
      · rw [← List.append_assoc, ← List.append_assoc]
        exact e3
    have st : ∀ (s : Nat) (t : St) (a : Nat), sts[s]? = some t → t.2.2.2.2.2.1 ≤ sts.length → sT H0 sts nds fcs (m + 1) A B s t a → wrt z A B H0 (C123 xt ct O N a (z + 2)) (prS sts nds fcs (m + 1) s) := by
      intro s t a hst hend h
      obtain ⟨a1, a2, a3, c, e, tm, o1, o2, nx, s1, s2, A1, B1, k1, k2, k3, k4, k5⟩ := h
      have hA1 : z + 107 ≤ A1 := by omega
      have ep : prS sts nds fcs (m + 1) s = (if t.1 = 0 then [Int32.ofNat (65 + t.2.1), 61] ++ prX nds fcs 45 t.2.2.2.1 ++ [59] else if t.1 = 1 then [33] ++ prX nds fcs 45 t.2.2.2.1 ++ [59] else if t.1 = 2 then [63] ++ prX nds fcs 45 t.2.2.2.1 ++ [123] ++ prB sts (prS sts nds fcs m) 25 (s + 1) t.2.2.2.2.1 ++ [125] ++ (if t.2.2.2.2.1 < t.2.2.2.2.2.1 then [58, 123] ++ prB sts (prS sts nds fcs m) 25 t.2.2.2.2.1 t.2.2.2.2.2.1 ++ [125] else []) else [42] ++ dgs t.2.1 ++ [123] ++ prB sts (prS sts nds fcs m) 25 (s + 1) t.2.2.2.2.2.1 ++ [125]) := by
        rw [prS, hst]
      rw [ep]
      -- reading the cell in any heap on the way
      have cell : ∀ (H : mj_H) (v : Nat), okh A B H0 H v → H.1 a = some (.inr (11, [.int c, .ref e, .int tm, rv o1, rv o2, .long (Int64.ofNat t.2.2.2.2.2.2), .long (Int64.ofNat s1), .long (Int64.ofNat s2), rv nx])) := fun H v ho => (ho.1 a a1 a2).trans k4
      have gI0 : ∀ (H : mj_H) (v : Nat), okh A B H0 H v → gI H a 11 0 = some c := fun H v ho => gI_of (cell H v ho) rfl
      have gA1 : ∀ (H : mj_H) (v : Nat), okh A B H0 H v → gA H a 11 1 = some e := fun H v ho => gA_of (cell H v ho) rfl
      have gR3 : ∀ (H : mj_H) (v : Nat), okh A B H0 H v → gR H a 11 3 = some o1 := fun H v ho => gR_of (cell H v ho) rfl
      have gR4 : ∀ (H : mj_H) (v : Nat), okh A B H0 H v → gR H a 11 4 = some o2 := fun H v ho => gR_of (cell H v ho) rfl
      rcases k5 with ⟨q1, q2, q3, q4, q5, q6, q7⟩ | ⟨q1, q2, fe, l1, l2, q3, q4, q5, q6, q7, q8, q9, q10⟩ | ⟨q1, q2, q3, q4, q5, q6, q7, q8, l1, q9, q10, q11⟩
      · have we := wrt_fr (A := A) (B := B) (wx A1 B1 _ _ _ _ hA1 q7) k1 k2
        have n63 : ∀ c : Int32, (c = 33 ∨ (65 ≤ c.toInt ∧ c.toInt < 71)) → mj_c2 .eq c 63 = false ∧ mj_c2 .eq c 42 = false := by
          intro c hc
          rcases hc with rfl | hc
          · decide
          · refine ⟨decide_eq_false (fun q => ?_), decide_eq_false (fun q => ?_)⟩
            · rw [q] at hc
              exact absurd hc (by decide)
            · rw [q] at hc
              exact absurd hc (by decide)
        -- from the expression on
        have fin : ∀ (H : mj_H) (v : Nat) (bs : List Value) (tx : List Int32), (c = 33 ∨ (65 ≤ c.toInt ∧ c.toInt < 71)) → okh A B H0 H v → wst z H v bs tx → tx.length + (prX nds fcs 45 t.2.2.2.1 ++ [59]).length ≤ 160 → ∃ H' v' bs', J123_26 xt ct O N a (z + 2) H = some H' ∧ wst z H' v' bs' (tx ++ (prX nds fcs 45 t.2.2.2.1 ++ [59])) ∧ tstep z H v bs H' v' bs' := by
          intro H v bs tx hc ho hs hl
          rw [List.length_append, List.length_singleton] at hl
          obtain ⟨x63, x42⟩ := n63 c hc
          obtain ⟨H1, v1, bs1, d1, d2, d3⟩ := we H v bs tx ho hs (by omega)
          have ho1 := okh_st ho hA d3
          obtain ⟨H2, v2, bs2, e1, e2, e3, e4⟩ := wr_ch (xt := xt) (ct := ct) (O := O) (N := N) (c := 59) d2 (by rw [List.length_append]; omega) (by decide)
          refine ⟨H2, v2, bs2, ?_, by rw [← List.append_assoc]; exact e3, tstep_trans d3 e4⟩
          simp only [J123_26, gA1 H v ho, d1, gI0 H1 v1 ho1, x63, x42, cond_false, e2, e1, Option.bind_some]
        have hk01 : t.1 = 0 ∨ t.1 = 1 := by omega
        rcases hk01 with hk0 | hk1
        · obtain ⟨r1, r2⟩ := q5 hk0
          have ec : c.toInt = 65 + t.2.1 := by rw [r2, i_nat (by omega)]; omega
          rw [if_pos hk0, ← r2]
          intro H v bs tx ho hs hl
          have hl2 : tx.length + (2 + (prX nds fcs 45 t.2.2.2.1 ++ [59]).length) ≤ 160 := by
            rw [List.append_assoc, List.length_append] at hl
            exact hl
          obtain ⟨H1, v1, bs1, d1, d2, d3, d4⟩ := wr_ch (xt := xt) (ct := ct) (O := O) (N := N) (c := c) hs (by omega) (by omega)
          have ho1 := okh_st ho hA d4
          have c86 := C86_do (xt := xt) (ct := ct) (O := O) (N := N) (H := H1) (c := c)
          rw [if_pos (by omega)] at c86
          obtain ⟨H2, v2, bs2, e1, e2, e3, e4⟩ := wr_ch (xt := xt) (ct := ct) (O := O) (N := N) (c := 61) d3 (by rw [List.length_append, List.length_singleton]; omega) (by decide)
          have ho2 := okh_st ho1 hA e4
          obtain ⟨H3, v3, bs3, f1, f2, f3⟩ := fin H2 v2 bs2 (tx ++ [c] ++ [61]) (Or.inr (by omega)) ho2 e3 (by rw [List.length_append, List.length_append, List.length_singleton, List.length_singleton]; omega)
          refine ⟨H3, v3, bs3, ?_, ?_, tstep_trans d4 (tstep_trans e4 f3)⟩
          · simp only [C123, gI0 H v ho, d2, d1, gI0 H1 v1 ho1, c86, b1, cond_false, e2, e1, f1, Option.bind_some]
          · have e' : tx ++ ([c, 61] ++ prX nds fcs 45 t.2.2.2.1 ++ [59]) = tx ++ [c] ++ [61] ++ (prX nds fcs 45 t.2.2.2.1 ++ [59]) := by simp
            rw [e']
            exact f2
        · have r2 := q6 hk1
          rw [if_neg (by omega), if_pos hk1]
          intro H v bs tx ho hs hl
          have hl2 : tx.length + (1 + (prX nds fcs 45 t.2.2.2.1 ++ [59]).length) ≤ 160 := by
            rw [List.append_assoc, List.length_append] at hl
            exact hl
          obtain ⟨H1, v1, bs1, d1, d2, d3, d4⟩ := wr_ch (xt := xt) (ct := ct) (O := O) (N := N) (c := c) hs (by omega) (by rw [r2]; decide)
          have ho1 := okh_st ho hA d4
          have c86 := C86_do (xt := xt) (ct := ct) (O := O) (N := N) (H := H1) (c := c)
          rw [if_neg (by rw [r2]; decide)] at c86
          obtain ⟨H3, v3, bs3, f1, f2, f3⟩ := fin H1 v1 bs1 (tx ++ [c]) (Or.inl r2) ho1 d3 (by rw [List.length_append, List.length_singleton]; omega)
          refine ⟨H3, v3, bs3, ?_, ?_, tstep_trans d4 f3⟩
          · simp only [C123, gI0 H v ho, d2, d1, gI0 H1 v1 ho1, c86, b0, cond_true, f1, Option.bind_some]
          · have e' : tx ++ ([33] ++ prX nds fcs 45 t.2.2.2.1 ++ [59]) = tx ++ [c] ++ (prX nds fcs 45 t.2.2.2.1 ++ [59]) := by rw [r2]; simp
            rw [e']
            exact f2
      · -- a choice
        rw [if_neg (by omega), if_neg (by omega), if_pos q1]
        have we := wrt_fr (A := A) (B := B) (wx A1 B1 _ _ _ _ hA1 q3) k1 k2
        have hmid2 := bk_le (fun s t a x => sT_end x) _ _ _ q7
        have w1 := wrt_fr (A := A) (B := B) (wb A1 B1 l1 _ _ o1 hA1 (by omega) q4 q5) k1 k2
        have w2 := wrt_fr (A := A) (B := B) (wb A1 B1 l2 _ _ o2 hA1 hend q6 q7) k1 k2
        obtain ⟨P1, hP1⟩ : ∃ w, [123] ++ prB sts (prS sts nds fcs m) 25 (s + 1) t.2.2.2.2.1 ++ [125] = w := ⟨_, rfl⟩
        obtain ⟨P2, hP2⟩ : ∃ w, [123] ++ prB sts (prS sts nds fcs m) 25 t.2.2.2.2.1 t.2.2.2.2.2.1 ++ [125] = w := ⟨_, rfl⟩
        rw [hP1] at w1
        rw [hP2] at w2
        have ew : [63] ++ prX nds fcs 45 t.2.2.2.1 ++ [123] ++ prB sts (prS sts nds fcs m) 25 (s + 1) t.2.2.2.2.1 ++ [125] ++ (if t.2.2.2.2.1 < t.2.2.2.2.2.1 then [58, 123] ++ prB sts (prS sts nds fcs m) 25 t.2.2.2.2.1 t.2.2.2.2.2.1 ++ [125] else []) = [63] ++ prX nds fcs 45 t.2.2.2.1 ++ P1 ++ (if t.2.2.2.2.1 < t.2.2.2.2.2.1 then [58] ++ P2 else []) := by
          rw [← hP1, ← hP2]
          split <;> simp
        rw [ew]
        subst q2
        intro H v bs tx ho hs hl
        rw [List.length_append, List.length_append, List.length_append, List.length_singleton] at hl
        obtain ⟨H1, v1, bs1, d1, d2, d3, d4⟩ := wr_ch (xt := xt) (ct := ct) (O := O) (N := N) (c := 63) hs (by omega) (by decide)
        have ho1 := okh_st ho hA d4
        have c86 := C86_do (xt := xt) (ct := ct) (O := O) (N := N) (H := H1) (c := 63)
        rw [if_neg (by decide)] at c86
        obtain ⟨H2, v2, bs2, e1, e2, e3⟩ := we H1 v1 bs1 (tx ++ [63]) ho1 d3 (by rw [List.length_append, List.length_singleton]; omega)
        have ho2 := okh_st ho1 hA e3
        obtain ⟨H3, v3, bs3, f1, f2, f3⟩ := w1 H2 v2 bs2 (tx ++ [63] ++ prX nds fcs 45 t.2.2.2.1) ho2 e2 (by rw [List.length_append, List.length_append, List.length_singleton]; omega)
        have ho3 := okh_st ho2 hA f3
        have x63 : mj_c2 .eq (63 : Int32) 63 = true := by decide
        cases l2 with
        | nil =>
          have eo : o2 = none := q6
          have em : t.2.2.2.2.1 = t.2.2.2.2.2.1 := q7
          rw [if_neg (by omega)] at hl ⊢
          refine ⟨H3, v3, bs3, ?_, ?_, tstep_trans d4 (tstep_trans e3 f3)⟩
          · have g4 := gR4 H3 v3 ho3
            rw [eo] at g4
            simp only [C123, gI0 H v ho, d2, d1, gI0 H1 v1 ho1, c86, b0, cond_true, J123_26, gA1 H1 v1 ho1, e1, gI0 H2 v2 ho2, x63, J123_60, gR3 H2 v2 ho2, f1, g4, Option.isNone_none, J123_90, Option.bind_some]
          · rw [List.append_nil, ← List.append_assoc, ← List.append_assoc]
            exact f2
        | cons y r =>
          obtain ⟨eo, -⟩ := id q6
          have lt : t.2.2.2.2.1 < t.2.2.2.2.2.1 := by
            have := (bk_rng _ _ _ q7).2
            rw [List.length_cons] at this
            omega
          rw [if_pos lt] at hl ⊢
          rw [List.length_append, List.length_singleton] at hl
          obtain ⟨H4, v4, bs4, g1, g2, g3, g4⟩ := wr_ch (xt := xt) (ct := ct) (O := O) (N := N) (c := 58) f2 (by rw [List.length_append, List.length_append, List.length_append, List.length_singleton]; omega) (by decide)
          have ho4 := okh_st ho3 hA g4
          obtain ⟨H5, v5, bs5, p1, p2, p3⟩ := w2 H4 v4 bs4 (tx ++ [63] ++ prX nds fcs 45 t.2.2.2.1 ++ P1 ++ [58]) ho4 g3 (by rw [List.length_append, List.length_append, List.length_append, List.length_append, List.length_singleton, List.length_singleton]; omega)
          refine ⟨H5, v5, bs5, ?_, ?_, tstep_trans d4 (tstep_trans e3 (tstep_trans f3 (tstep_trans g4 p3)))⟩
          · have r4 := gR4 H3 v3 ho3
            have r4' := gR4 H4 v4 ho4
            rw [eo] at r4 r4' p1
            simp only [C123, gI0 H v ho, d2, d1, gI0 H1 v1 ho1, c86, b0, cond_true, J123_26, gA1 H1 v1 ho1, e1, gI0 H2 v2 ho2, x63, J123_60, gR3 H2 v2 ho2, f1, r4, Option.isNone_some, cond_false, g2, g1, r4', p1, J123_90, Option.bind_some]
          · have e' : tx ++ ([63] ++ prX nds fcs 45 t.2.2.2.1 ++ P1 ++ ([58] ++ P2)) = tx ++ [63] ++ prX nds fcs 45 t.2.2.2.1 ++ P1 ++ [58] ++ P2 := by simp
            rw [e']
            exact p2
      · -- a repetition
        rw [if_neg (by omega), if_neg (by omega), if_neg (by omega)]
        have w1 := wrt_fr (A := A) (B := B) (wb A1 B1 l1 _ _ o1 hA1 hend q9 q10) k1 k2
        obtain ⟨P1, hP1⟩ : ∃ w, [123] ++ prB sts (prS sts nds fcs m) 25 (s + 1) t.2.2.2.2.2.1 ++ [125] = w := ⟨_, rfl⟩
        rw [hP1] at w1
        have ew : [42] ++ dgs t.2.1 ++ [123] ++ prB sts (prS sts nds fcs m) 25 (s + 1) t.2.2.2.2.2.1 ++ [125] = [42] ++ dgs t.2.1 ++ P1 := by
          rw [← hP1]
          simp
        rw [ew]
        subst q2
        intro H v bs tx ho hs hl
        rw [List.length_append, List.length_append, List.length_singleton] at hl
        obtain ⟨H1, v1, bs1, d1, d2, d3, d4⟩ := wr_ch (xt := xt) (ct := ct) (O := O) (N := N) (c := 42) hs (by omega) (by decide)
        have ho1 := okh_st ho hA d4
        have c86 := C86_do (xt := xt) (ct := ct) (O := O) (N := N) (H := H1) (c := 42)
        rw [if_neg (by decide)] at c86
        obtain ⟨H2, v2, bs2, e1, e2, e3, e4⟩ := wr_nm (xt := xt) (ct := ct) (O := TT xt ct N k') (N := N) hN hd (n := t.2.1) d3 (by omega) (by rw [List.length_append, List.length_singleton]; omega)
        have ho2 := okh_st ho1 hA e4
        have hce : H1.1 e = some (.inr (7, [.int (-1000), .int (Int32.ofNat t.2.1), .long 1])) := (ho1.1 e (by omega) (by omega)).trans q8
        have wpl : O.2.2.2.2.2.1 e (z + 2) H1 = some H2 := by
          rw [hOw]
          unfold CW
          rw [gC_of hce]
          have g0 : gI H1 e 7 0 = some (-1000) := gI_of hce rfl
          have g1 : gI H1 e 7 1 = some (Int32.ofNat t.2.1) := gI_of hce rfl
          have bb : mj_c2 .ne (-1000 : Int32) (-1000) = false := by decide
          show C130 xt ct (TT xt ct N k') N e (z + 2) H1 = _
          simp only [C130, g0, bb, cond_false, g1, e2, e1, J130_35, Option.bind_some]
        obtain ⟨H3, v3, bs3, f1, f2, f3⟩ := w1 H2 v2 bs2 (tx ++ [42] ++ dgs t.2.1) ho2 e3 (by rw [List.length_append, List.length_append, List.length_singleton]; omega)
        have ho3 := okh_st ho2 hA f3
        have x63 : mj_c2 .eq (42 : Int32) 63 = false := by decide
        have x42 : mj_c2 .eq (42 : Int32) 42 = true := by decide
        refine ⟨H3, v3, bs3, ?_, ?_, tstep_trans d4 (tstep_trans e4 f3)⟩
        · have g4 := gR4 H3 v3 ho3
          rw [q5] at g4
          simp only [C123, gI0 H v ho, d2, d1, gI0 H1 v1 ho1, c86, b0, cond_true, J123_26, gA1 H1 v1 ho1, wpl, gI0 H2 v2 ho2, x63, cond_false, x42, J123_60, gR3 H2 v2 ho2, f1, g4, Option.isNone_none, J123_90, Option.bind_some]
        · rw [← List.append_assoc, ← List.append_assoc]
          exact f2
    refine ⟨st, ?_⟩
    -- one behind another
    have lp : ∀ (l : List (Nat × Nat)) (lo hi j : Nat) (o : Option Nat), hi ≤ sts.length → hi - lo ≤ j → chn H0 l o → bk (sT H0 sts nds fcs (m + 1) A B) sts l lo hi → wrt z A B H0 (fun H => t_lp (B122_2 xt ct O N) (l.length + 1) (z + 2, o, H)) (prB sts (prS sts nds fcs (m + 1)) (j + 1) lo hi) := by
      intro l
      induction l with
      | nil =>
        intro lo hi j o hh hj hc hb
        have e1 : lo = hi := hb
        have e2 : o = none := hc
        subst e1 e2
        intro H v bs tx ho hs hl
        have ep : prB sts (prS sts nds fcs (m + 1)) (j + 1) lo lo = [] := by rw [prB, if_neg (by omega)]
        refine ⟨H, v, bs, ?_, by rw [ep, List.append_nil]; exact hs, tstep_refl hs.1 hs.2.1⟩
        refine t_end ?_ 0
        simp only [B122_2, Option.isNone_none, cond_true]
      | cons x r ihl =>
        intro lo hi j o hh hj hc hb
        obtain ⟨h0, hbd, s0, e0, t0, u0, v0, p0, q0, nx, hc1, hc2⟩ := hc
        obtain ⟨t, t1, t2, t3, t4⟩ := hb
        have l1 := sT_end t3
        have l2 := bk_le (fun s t a x => sT_end x) _ _ _ t4
        obtain ⟨j, rfl⟩ : ∃ j', j = j' + 1 := ⟨j - 1, by omega⟩
        have rng : A ≤ x.1 ∧ x.1 < B := ⟨t3.1, t3.2.1⟩
        have en : enS sts lo = t.2.2.2.2.2.1 := by unfold enS; rw [t1]
        have ep : prB sts (prS sts nds fcs (m + 1)) (j + 1 + 1) lo hi = prS sts nds fcs (m + 1) lo ++ prB sts (prS sts nds fcs (m + 1)) (j + 1) t.2.2.2.2.2.1 hi := by
          rw [prB, if_pos (by omega), en]
        have w1 := st lo t x.1 t1 (by omega) t3
        have w2 := ihl t.2.2.2.2.2.1 hi j nx hh (by omega) hc2 t4
        rw [ep, h0]
        intro H v bs tx ho hs hl
        rw [List.length_append] at hl
        obtain ⟨H1, v1, bs1, d1, d2, d3⟩ := w1 H v bs tx ho hs (by omega)
        have ho1 := okh_st ho hA d3
        obtain ⟨H2, v2, bs2, e1, e2, e3⟩ := w2 H1 v1 bs1 _ ho1 d2 (by rw [List.length_append]; omega)
        have gk : gK H x.1 11 = some () := gK_of ((ho.1 x.1 rng.1 rng.2).trans hc1)
        have gr : gR H1 x.1 11 8 = some nx := gR_of ((ho1.1 x.1 rng.1 rng.2).trans hc1) rfl
        have fB : B122_2 xt ct O N (z + 2, some x.1, H) = some (.inl (z + 2, nx, H1)) := by
          simp only [B122_2, Option.isNone_some, cond_false, gk, d1, gr, Option.bind_some]
        refine ⟨H2, v2, bs2, ?_, by rw [← List.append_assoc]; exact e2, tstep_trans d3 e3⟩
        show t_lp (B122_2 xt ct O N) ((x :: r).length + 1) (z + 2, some x.1, H) = _
        rw [List.length_cons]
        exact (t_one fB _).trans e1
    intro l lo hi j o hh hj hc hb H v bs tx ho hs hl
    obtain ⟨H1, v1, bs1, d1, d2⟩ := lp l lo hi j o hh hj hc hb H v bs tx ho hs hl
    have := (bk_rng _ _ _ hb).2
    exact ⟨H1, v1, bs1, t_lp_more _ _ _ (by omega) d1, d2⟩
end PRT
