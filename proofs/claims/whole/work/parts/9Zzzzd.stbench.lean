/-! AN EXPRESSION WORKED OUT FOR A STATE, AND WHAT COMES OF IT -/
section STB
variable {xt : mj_X} {ct : Nat → Value} {O : OR} {N z : Nat} {H : mj_H} {π : Nat → Nat} {Ls : Nat → Ss}
/-- what running does to the heap -/
def ruF (z : Nat) (D : List Nat) (H G : mj_H) : Prop := (∀ q, q < H.2.1 → ¬ (z + 8 ≤ q ∧ q ≤ z + 13) → ¬ (z + 15 ≤ q ∧ q ≤ z + 27) → ¬ (z + 30 ≤ q ∧ q ≤ z + 53) → G.1 q = H.1 q ∨ z + 107 ≤ q ∧ dcch (H.1 q) (G.1 q)) ∧ H.2.1 ≤ G.2.1 ∧ G.2.1 + pot G D ≤ H.2.1 + pot H D ∧ G.2.2 + 121 * pot G D ≤ H.2.2 + 121 * pot H D
theorem ruF_refl {D : List Nat} : ruF z D H H := ⟨fun _ _ _ _ _ => Or.inl rfl, Nat.le_refl _, Nat.le_refl _, Nat.le_refl _⟩
theorem ruF_trans {D : List Nat} {G K : mj_H} (x : ruF z D H G) (y : ruF z D G K) : ruF z D H K := by
  obtain ⟨x1, x2, x3, x4⟩ := x
  obtain ⟨y1, y2, y3, y4⟩ := y
  refine ⟨fun q h1 h2 h3 h4 => ?_, by omega, by omega, by omega⟩
  rcases x1 q h1 h2 h3 h4 with a | ⟨a0, a⟩
  · rcases y1 q (by omega) h2 h3 h4 with b | ⟨b0, b⟩
    · exact Or.inl (b.trans a)
    · rw [a] at b; exact Or.inr ⟨b0, b⟩
  · rcases y1 q (by omega) h2 h3 h4 with b | ⟨b0, b⟩
    · rw [b]; exact Or.inr ⟨a0, a⟩
    · exact Or.inr ⟨a0, dcch_trans a b⟩
theorem ruF_ly {D : List Nat} {G : mj_H} (x : lyF z D H G) : ruF z D H G := ⟨fun q h1 h2 h3 _ => x.1 q h1 h2 (by omega), x.2⟩
theorem ruF_s {D : List Nat} {G : mj_H} (h : sfr z H G) (hD : ∀ q ∈ D, z + 107 ≤ q) : ruF z D H G := by
  have e : pot G D = pot H D := pot_fr (z := z) (fun q hq => by rw [h.1 q (by have := hD q hq; omega) (by have := hD q hq; omega)])
  have n1 : G.2.1 = H.2.1 := by rw [h.2]
  have n2 : G.2.2 = H.2.2 := by rw [h.2]
  exact ⟨fun q _ _ h3 h4 => Or.inl (h.1 q (by omega) h4), by omega, by omega, by omega⟩
theorem ruF_b {D : List Nat} {G : mj_H} (h : bfr z H G) (hD : ∀ q ∈ D, z + 107 ≤ q) : ruF z D H G := ruF_ly (lyF_b h hD)
theorem ruF_dsm {D : List Nat} {G : mj_H} {A B : Nat} (h : ruF z D H G) (hA : z + 107 ≤ A) (hB : B ≤ H.2.1) : dsm A B H G := fun q h1 h2 => (h.1 q (by omega) (by omega) (by omega) (by omega)).imp id And.right
theorem lyS_s {D : List Nat} {G : mj_H} (h : lyS z D H) (hf : sfr z H G) : lyS z D G := by
  obtain ⟨h1, h2, h3, h4⟩ := h
  have n1 : G.2.1 = H.2.1 := by rw [hf.2]
  refine ⟨cI_fr h1 (fun q q1 _ => hf.1 q (by omega) (by omega)) n1, fun a a1 a2 a3 => h2 a a1 (by omega) (by rw [hf.1 a (by omega) (by omega)] at a3; exact a3), ⟨(hf.1 _ (by omega) (by omega)).trans h3.1, fun p hp => ?_⟩, by omega⟩
  obtain ⟨X, hX⟩ := h3.2 p hp
  exact ⟨X, LR_fr hX (hf.1 _ (by omega) (by omega))⟩
/-- the rows of the states of the choices -/
def ynH (z : Nat) (H : mj_H) : Prop := H.1 (z + 28) = some (.inl (.object "DiceOdds$States", [.ref (z + 30), .ref (z + 36), .ref (z + 42), .ref (z + 48)])) ∧ H.1 (z + 29) = some (.inl (.object "DiceOdds$States", [.ref (z + 33), .ref (z + 39), .ref (z + 45), .ref (z + 51)]))
/-- all that a run works with -/
def rnI (z : Nat) (D : List Nat) (H : mj_H) (mo : Nat) (π : Nat → Nat) (Ls : Nat → Ss) : Prop := lyS z D H ∧ (∃ sp, bst z H sp (Int32.ofNat mo)) ∧ stsH z H π Ls ∧ ynH z H
theorem rnI_s {D : List Nat} {G : mj_H} {mo : Nat} {π' : Nat → Nat} {Ls' : Nat → Ss} (h : rnI z D H mo π Ls) (hf : sfr z H G) (hs : stsH z G π' Ls') : rnI z D G mo π' Ls' := by
  obtain ⟨h1, ⟨sp, h2⟩, h3, h4, h5⟩ := h
  exact ⟨lyS_s h1 hf, ⟨sp, bst_fr h2 (fun q q1 q2 => hf.1 q (by omega) (by omega))⟩, hs, (hf.1 _ (by omega) (by omega)).trans h4, (hf.1 _ (by omega) (by omega)).trans h5⟩
theorem rnI_ly {D : List Nat} {G : mj_H} {mo : Nat} {sp : List Sp} (h : rnI z D H mo π Ls) (hf : lyF z D H G) (hS : lyS z D G) (hb : bst z G sp (Int32.ofNat mo)) : rnI z D G mo π Ls := by
  obtain ⟨h1, h2, h3, h4, h5⟩ := h
  have hz := h1.2.2.2
  have e := lyF_sv hf hz
  exact ⟨hS, ⟨sp, hb⟩, stsH_fr h3 (fun q hq => e q (by omega) (by omega)), (e _ (by omega) (by omega)).trans h4, (e _ (by omega) (by omega)).trans h5⟩
theorem stk_0 {T : Nat → Int32} : ∀ sp : List Sp, stk T sp → T 0 = 0 := by
  intro sp
  induction sp with
  | nil => intro h; exact h
  | cons l r ih => intro h; exact ih h.2
/-- workOut -/
theorem C141_do (hN : 100000 ≤ N) {D : List Nat} (hD : ∀ q ∈ D, z + 107 ≤ q) {A B lo i a f j row mo d : Nat} {nds : List Nd} {fcs : List Int32} (hA : z + 107 ≤ A) (hnl : nds.length ≤ 160) (hfc : fcs.length ≤ 160) (h40 : lcn nds ≤ 40) (hd : 45 ≤ d) (hx : exT H A B nds fcs 45 lo i a f) (hB : B ≤ H.2.1) (hf : f ≤ 2147483648) (hI : rnI z D H mo π Ls) (hj : j < 10) {x : Vs × Nat} (hrow : (Ls j)[row]? = some x) (gk : gdk x) : ∃ b G, C141 xt ct (TT xt ct N d) N (z + 8) a (z + so j) (Int32.ofNat row) H = some (b, G) ∧ ruF z D H G ∧ rnI z D G mo π Ls ∧ ((∃ s s', evK nds fcs i x.1 = some s ∧ b = 1 ∧ bst z G [s'] (Int32.ofNat mo) ∧ eqv s' s ∧ gdS s' f) ∨ (evK nds fcs i x.1 = none ∧ b = 0)) := by
  obtain ⟨h1, ⟨sp, h2⟩, h3, h4, h5⟩ := id hI
  obtain ⟨ho, V, T, F, W, hr, hs, hv⟩ := h2
  obtain ⟨H1, a1, a2, a3⟩ := bO_n ho 0
  have hb1 : bst z H1 [] (Int32.ofNat mo) := ⟨a2, V, T, F, W, bR_fr hr a3 (by omega), stk_0 sp hs, fun i p hp => by cases hp⟩
  have fb : bfr z H H1 := bfr_of a3 (by omega)
  have hS1 := lyS_b h1 fb
  have fl := exT_fal _ _ _ _ _ hx
  have hx1 : exT H1 A B nds fcs 45 lo i a f := by
    have := exT_mono (nds' := []) (fcs' := []) (G := H1) (Nat.le_refl A) (Nat.le_refl B) (fun q q1 q2 => fb.1 q (by omega)) 45 45 lo i a f (Nat.le_refl _) hx
    rw [List.append_nil, List.append_nil] at this
    exact this
  have n1 : H1.2.1 = H.2.1 := by rw [fb.2]
  obtain ⟨c1, c2, c3, V', W', ⟨c4, c5⟩, c6⟩ := h3.1 j hj
  have hr64 := (List.getElem?_eq_some_iff.mp hrow).1
  have r1 := so_rng hj
  have r2 := so_rng c1
  have sv1 : sv z H1 (z + so j) row (stf x.1) := ⟨_, _, _, V', (fb.1 _ (by omega)).trans c3, ⟨by omega, by omega⟩, ⟨by omega, by omega⟩, IR_fr c4 (fb.1 _ (by omega)), by omega, fun k hk => (c6 row x hrow).2 k hk⟩
  obtain ⟨b, G, g1, g2, g3, g4⟩ := LY_do (xt := xt) (ct := ct) (N := N) (mo := Int32.ofNat mo) (x2 := z + so j) (row := row) hN hD hA (stf_in gk) hnl hfc 45 d lo i a f H1 [] hd hx1 (by omega) hb1 (fun q hq => by cases hq) (by show 1 * f ≤ _; omega) (by have := lcn_all (nds := nds) (i + 1); show 0 + _ ≤ _; omega) hS1 sv1
  have b01 : b = 0 ∨ b = 1 := by
    rcases g4 with ⟨_, _, _, q, _⟩ | ⟨_, q, _⟩
    · exact Or.inr q
    · exact Or.inl q
  have nb : narrow .boolean (.int b) = .int b := by rcases b01 with e | e <;> rw [e] <;> decide
  have lf : lyF z D H G := lyF_trans (lyF_b fb hD) g2
  have a1' : uF H (z + 8) 3 3 (.int 0) = some H1 := a1
  have run : C141 xt ct (TT xt ct N d) N (z + 8) a (z + so j) (Int32.ofNat row) H = some (b, G) := by
    simp only [C141, a1', g1, if_pos nb, Option.bind_some]
  rcases g4 with ⟨L, L', q1, q2, q3, q4, q5⟩ | ⟨q1, q2, sp', q3, q4, q5⟩
  · exact ⟨b, G, run, ruF_ly lf, rnI_ly hI lf g3 q3, Or.inl ⟨L, L', q1, q2, q3, q4, q5⟩⟩
  · exact ⟨b, G, run, ruF_ly lf, rnI_ly hI lf g3 q3, Or.inr ⟨q1, q2⟩⟩
theorem fl_one {s : Sp} : fl [s] = s := List.nil_append s
/-- waysOfYes -/
theorem C162_do (hN : 100000 ≤ N) {s : Sp} {mo : Int32} (hb : bst z H [s] mo) (hl : s.length ≤ 1999) : C162 xt ct O N (z + 8) H = some (Int64.ofNat (yesW s), H) := by
  obtain ⟨ho, V, T, F, W, ⟨r1, r2, r3, -, -⟩, hs, hv⟩ := hb
  rw [fl_one] at hv
  have g2 : gA H (z + 8) 3 2 = some (z + 11) := gA_of ho rfl
  have g0 : gA H (z + 8) 3 0 = some (z + 9) := gA_of ho rfl
  have g1 : gA H (z + 8) 3 1 = some (z + 10) := gA_of ho rfl
  have t1 : T 1 = Int32.ofNat s.length := hs.1
  have a1 : aI xt H (z + 11) 1 = some (Int32.ofNat s.length) := by rw [← t1]; exact IR_get (i := 1) r3 (by omega) (by omega)
  have key : ∀ (rest : Sp) (i acc : Nat), i + rest.length = s.length → s.drop i = rest → t_lp (B162_4 xt ct O N) (rest.length + 1) (z + 8, Int64.ofNat acc, Int32.ofNat i, H) = some (Int64.ofNat (acc + yesW rest), H) := by
    intro rest
    induction rest with
    | nil =>
      intro i acc hi _
      have hi' : i + 0 = s.length := hi
      have c := c_geT (a := i) (b := s.length) (by omega) (by omega) (by omega)
      refine t_end ?_ _
      simp only [B162_4, g2, a1, c, cond_true, Option.bind_some]
      rfl
    | cons p r ih =>
      intro i acc hi hd
      rw [List.length_cons] at hi
      have c := c_geF (a := i) (b := s.length) (by omega) (by omega) (by omega)
      have hp : s[i]? = some p := by
        have : (s.drop i)[0]? = some p := by rw [hd]; rfl
        rw [List.getElem?_drop, Nat.add_zero] at this
        exact this
      have hr : s.drop (i + 1) = r := by
        have : (s.drop i).drop 1 = r := by rw [hd]; rfl
        rw [List.drop_drop] at this
        exact this
      obtain ⟨v1, v2⟩ := hv i p hp
      have a2 : aI xt H (z + 9) (Int32.ofNat i) = some p.1 := by rw [← v1]; exact IR_get r1 (by omega) (by omega)
      have a3 : aL xt H (z + 10) (Int32.ofNat i) = some (Int64.ofNat p.2) := by rw [← v2]; exact LR_get r2 (by omega) (by omega)
      have ey : yesW (p :: r) = p.2 * (if p.1 = 0 then 0 else 1) + yesW r := rfl
      have z0 : (0 : Int64) = Int64.ofNat 0 := rfl
      by_cases e : p.1 = 0
      · have ce : mj_c1 .eq p.1 = true := by rw [e]; decide
        have st : B162_4 xt ct O N (z + 8, Int64.ofNat acc, Int32.ofNat i, H) = some (.inl (z + 8, Int64.ofNat acc, Int32.ofNat (i + 1), H)) := by
          simp only [B162_4, g2, a1, c, cond_false, g0, a2, ce, cond_true, J162_34, i_inc (show i < 1000000 by omega), Option.bind_some]
          rw [z0, l_add]
          rfl
        rw [List.length_cons, t_one st, ih (i + 1) acc (by omega) hr, ey, if_pos e, Nat.mul_zero, Nat.zero_add]
      · have ce : mj_c1 .eq p.1 = false := decide_eq_false e
        have st : B162_4 xt ct O N (z + 8, Int64.ofNat acc, Int32.ofNat i, H) = some (.inl (z + 8, Int64.ofNat (acc + p.2), Int32.ofNat (i + 1), H)) := by
          simp only [B162_4, g2, a1, c, cond_false, g0, a2, ce, g1, a3, J162_34, l_add, i_inc (show i < 1000000 by omega), Option.bind_some]
        rw [List.length_cons, t_one st, ih (i + 1) (acc + p.2) (by omega) hr, ey, if_neg e, Nat.mul_one, Nat.add_assoc]
  have := key s 0 0 (by omega) rfl
  rw [Nat.zero_add] at this
  exact t_lp_more _ _ _ (by omega) this
/-- giveTo -/
theorem C172_do (hN : 100000 ≤ N) {s : Sp} {mo : Int32} (hb : bst z H [s] mo) (hl : s.length ≤ 1999) (h : stsH z H π Ls) {i j row m : Nat} (hi : i < 10) (hj : j < 10) (hij : i ≠ j) {x : Vs × Nat} (hx : (Ls i)[row]? = some x) (hm : m < 6) (h6 : ∀ y ∈ Ls j, y.1.length = 6) (hx6 : x.1.length = 6) : ((insA (gAs m x s) (Ls j)).length ≤ 64 → ∃ K, C172 xt ct O N (z + 8) (z + so j) (z + so i) (Int32.ofNat row) (Int32.ofNat m) H = some (1, K) ∧ stsH z K π (upL Ls j (insA (gAs m x s) (Ls j))) ∧ sfr z H K) ∧ (64 < (insA (gAs m x s) (Ls j)).length → ∃ K L, C172 xt ct O N (z + 8) (z + so j) (z + so i) (Int32.ofNat row) (Int32.ofNat m) H = some (0, K) ∧ stsH z K π (upL Ls j L) ∧ sfr z H K) := by
  obtain ⟨ho, V, T, F, W, ⟨r1, r2, r3, -, -⟩, hs, hv⟩ := hb
  rw [fl_one] at hv
  have t1 : T 1 = Int32.ofNat s.length := hs.1
  have key : ∀ (rest : Sp) (q : Nat) (H1 : mj_H) (L1 : Ss), q + rest.length = s.length → s.drop q = rest → stsH z H1 π (upL Ls j L1) → (∀ y ∈ L1, y.1.length = 6) → sfr z H H1 → ((insA (gAs m x rest) L1).length ≤ 64 → ∃ K, t_lp (B172_3 xt ct O N) (rest.length + 1) (z + 8, z + so j, z + so i, Int32.ofNat row, Int32.ofNat m, Int32.ofNat q, H1) = some (1, K) ∧ stsH z K π (upL Ls j (insA (gAs m x rest) L1)) ∧ sfr z H K) ∧ (64 < (insA (gAs m x rest) L1).length → ∃ K L, t_lp (B172_3 xt ct O N) (rest.length + 1) (z + 8, z + so j, z + so i, Int32.ofNat row, Int32.ofNat m, Int32.ofNat q, H1) = some (0, K) ∧ stsH z K π (upL Ls j L) ∧ sfr z H K) := by
    intro rest
    induction rest with
    | nil =>
      intro q H1 L1 hq _ h1 h61 hf
      have hq' : q + 0 = s.length := hq
      have o1 : H1.1 (z + 8) = _ := (hf.1 _ (by omega) (by omega)).trans ho
      have g2 : gA H1 (z + 8) 3 2 = some (z + 11) := gA_of o1 rfl
      have a1 : aI xt H1 (z + 11) 1 = some (Int32.ofNat s.length) := by rw [← t1]; exact IR_get (i := 1) (IR_fr r3 (hf.1 _ (by omega) (by omega))) (by omega) (by omega)
      have c := c_geT (a := q) (b := s.length) (by omega) (by omega) (by omega)
      have a := h1.1 j hj
      rw [upL_eq] at a
      show (L1.length ≤ 64 → _) ∧ (64 < L1.length → _)
      refine ⟨fun _ => ⟨H1, t_end ?_ _, h1, hf⟩, fun w => absurd a.2.1 (by omega)⟩
      simp only [B172_3, g2, a1, c, cond_true, Option.bind_some]
    | cons p r ih =>
      intro q H1 L1 hq hd h1 h61 hf
      rw [List.length_cons] at hq
      have o1 : H1.1 (z + 8) = _ := (hf.1 _ (by omega) (by omega)).trans ho
      have g2 : gA H1 (z + 8) 3 2 = some (z + 11) := gA_of o1 rfl
      have g0 : gA H1 (z + 8) 3 0 = some (z + 9) := gA_of o1 rfl
      have g1 : gA H1 (z + 8) 3 1 = some (z + 10) := gA_of o1 rfl
      have a1 : aI xt H1 (z + 11) 1 = some (Int32.ofNat s.length) := by rw [← t1]; exact IR_get (i := 1) (IR_fr r3 (hf.1 _ (by omega) (by omega))) (by omega) (by omega)
      have c := c_geF (a := q) (b := s.length) (by omega) (by omega) (by omega)
      have hp : s[q]? = some p := by
        have : (s.drop q)[0]? = some p := by rw [hd]; rfl
        rw [List.getElem?_drop, Nat.add_zero] at this
        exact this
      have hr : s.drop (q + 1) = r := by
        have : (s.drop q).drop 1 = r := by rw [hd]; rfl
        rw [List.drop_drop] at this
        exact this
      obtain ⟨v1, v2⟩ := hv q p hp
      have a2 : aI xt H1 (z + 9) (Int32.ofNat q) = some p.1 := by rw [← v1]; exact IR_get (IR_fr r1 (hf.1 _ (by omega) (by omega))) (by omega) (by omega)
      have a3 : aL xt H1 (z + 10) (Int32.ofNat q) = some (Int64.ofNat p.2) := by rw [← v2]; exact LR_get (LR_fr r2 (hf.1 _ (by omega) (by omega))) (by omega) (by omega)
      have a := h1.1 j hj
      have kj : gK H1 (z + so j) 2 = some () := gK_of a.2.2.1
      have n1 : mj_c1 .ne 1 = true := by decide
      have n0 : mj_c1 .ne 0 = false := by decide
      obtain ⟨s1, s2⟩ := C173_do (xt := xt) (ct := ct) (O := O) (N := N) (by omega) h1 (row := row) (m := m) (v := p.1) (tm := p.2) hi hj hij (by rw [upL_ne hij]; exact hx) hm (by rw [upL_eq]; exact h61) hx6
      rw [upL_eq] at s1 s2
      show ((insA (gAs m x r) (ins (x.1.set m p.1) (x.2 * p.2) L1)).length ≤ 64 → _) ∧ (64 < (insA (gAs m x r) (ins (x.1.set m p.1) (x.2 * p.2) L1)).length → _)
      have mono := insA_len (gAs m x r) (ins (x.1.set m p.1) (x.2 * p.2) L1)
      rw [List.length_cons]
      by_cases hl : (ins (x.1.set m p.1) (x.2 * p.2) L1).length ≤ 64
      · obtain ⟨K, k1, k2, k3⟩ := s1 hl
        rw [upL_up] at k2
        have st : B172_3 xt ct O N (z + 8, z + so j, z + so i, Int32.ofNat row, Int32.ofNat m, Int32.ofNat q, H1) = some (.inl (z + 8, z + so j, z + so i, Int32.ofNat row, Int32.ofNat m, Int32.ofNat (q + 1), K)) := by
          simp only [B172_3, g2, a1, c, cond_false, g0, a2, g1, a3, kj, k1, n1, cond_true, i_inc (show q < 1000000 by omega), Option.bind_some]
        rw [t_one st]
        refine ih (q + 1) K _ (by omega) hr k2 (fun y hy => ?_) (sfr_trans hf k3)
        rcases ins_mem L1 y hy with w | w
        · exact h61 y w
        · rw [w.1, List.length_set]; exact hx6
      · obtain ⟨K, k1, k2, k3⟩ := s2 (by omega)
        refine ⟨fun w => absurd w (by omega), fun _ => ⟨K, L1, t_end ?_ _, k2, sfr_trans hf k3⟩⟩
        simp only [B172_3, g2, a1, c, cond_false, g0, a2, g1, a3, kj, k1, n0, Option.bind_some]
  obtain ⟨b1, b2⟩ := key s 0 H (Ls j) (by omega) rfl (by rw [upL_same]; exact h) h6 sfr_refl
  refine ⟨fun w => ?_, fun w => ?_⟩
  · obtain ⟨K, k1, k2⟩ := b1 w
    exact ⟨K, t_lp_more _ _ _ (by omega) k1, k2⟩
  · obtain ⟨K, L, k1, k2⟩ := b2 w
    exact ⟨K, L, t_lp_more _ _ _ (by omega) k1, k2⟩
end STB
