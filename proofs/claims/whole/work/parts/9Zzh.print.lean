/-! PRINTED EXPRESSIONS: a plain function of the nodes -/
def sd (b : Bool) (w : List Int32) : List Int32 := bif b then 40 :: (w ++ [41]) else w
def tgN (nd : Nd) : Nat := if nd.1 = 3 then tgt nd.2.1 else 3
def tgI (nds : List Nd) (i : Nat) : Nat := match nds[i]? with
  | none => 3
  | some nd => tgN nd
def chO (s : Int32) : Int32 := if s = 0 then 60 else if s = 1 then 62 else if s = 2 then 61 else if s = 3 then 43 else if s = 4 then 45 else if s = 5 then 42 else if s = 6 then 47 else 37
def fcP : List Int32 → Int32 → List Int32
  | [], _ => [93]
  | x :: r, s => s :: (dgs x.toInt.toNat ++ fcP r 44)
def dcP (nd : Nd) : List Int32 := (if nd.2.1.toInt ≤ 1 then [] else dgs nd.2.1.toInt.toNat) ++ [100] ++ dgs nd.2.2.1.toInt.toNat ++ (if nd.2.2.2.1 = 32 then [] else nd.2.2.2.1 :: dgs nd.2.2.2.2.1.toInt.toNat)
def prX (nds : List Nd) (fcs : List Int32) : Nat → Nat → List Int32
  | 0, _ => []
  | n + 1, i => match nds[i]? with
    | none => []
    | some nd =>
      if nd.1 = 0 then dgs nd.2.1.toInt.toNat
      else if nd.1 = 1 then [65 + nd.2.1]
      else if nd.1 = 2 then 45 :: sd (decide (tgI nds nd.2.2.2.2.2.1.toInt.toNat < 3)) (prX nds fcs n nd.2.2.2.2.2.1.toInt.toNat)
      else if nd.1 = 4 then dcP nd
      else if nd.1 = 5 then fcP ((fcs.drop nd.2.1.toInt.toNat).take nd.2.2.1.toInt.toNat) 91
      else sd (decide (tgI nds nd.2.2.2.2.2.1.toInt.toNat < tgt nd.2.1 ∨ (tgt nd.2.1 = 0 ∧ tgI nds nd.2.2.2.2.2.1.toInt.toNat = 0))) (prX nds fcs n nd.2.2.2.2.2.1.toInt.toNat) ++ [chO nd.2.1] ++ sd (decide (tgI nds nd.2.2.2.2.2.2.toInt.toNat ≤ tgt nd.2.1)) (prX nds fcs n nd.2.2.2.2.2.2.toInt.toNat)
theorem prX_neg {nds : List Nd} {fcs : List Int32} {n i j : Nat} (h : nds[i]? = some (ngN j)) (hj : j < 1000) : prX nds fcs (n + 1) i = 45 :: sd (decide (tgI nds j < 3)) (prX nds fcs n j) := by
  have e : (Int32.ofNat j).toInt.toNat = j := by rw [i_nat (by omega)]; omega
  rw [prX, h]
  show (if (2 : Int32) = 0 then _ else if (2 : Int32) = 1 then _ else if (2 : Int32) = 2 then 45 :: sd (decide (tgI nds (Int32.ofNat j).toInt.toNat < 3)) (prX nds fcs n (Int32.ofNat j).toInt.toNat) else _) = _
  rw [if_neg (by decide), if_neg (by decide), if_pos rfl, e]
theorem prX_op {nds : List Nd} {fcs : List Int32} {n i m j : Nat} {c : Int32} (h : nds[i]? = some (opN c m j)) (hm : m < 1000) (hj : j < 1000) : prX nds fcs (n + 1) i = sd (decide (tgI nds m < tgt (sg c) ∨ (tgt (sg c) = 0 ∧ tgI nds m = 0))) (prX nds fcs n m) ++ [chO (sg c)] ++ sd (decide (tgI nds j ≤ tgt (sg c))) (prX nds fcs n j) := by
  have e : (Int32.ofNat j).toInt.toNat = j := by rw [i_nat (by omega)]; omega
  have e2 : (Int32.ofNat m).toInt.toNat = m := by rw [i_nat (by omega)]; omega
  rw [prX, h]
  show (if (3 : Int32) = 0 then _ else if (3 : Int32) = 1 then _ else if (3 : Int32) = 2 then _ else if (3 : Int32) = 4 then _ else if (3 : Int32) = 5 then _ else sd (decide (tgI nds (Int32.ofNat m).toInt.toNat < tgt (sg c) ∨ (tgt (sg c) = 0 ∧ tgI nds (Int32.ofNat m).toInt.toNat = 0))) (prX nds fcs n (Int32.ofNat m).toInt.toNat) ++ [chO (sg c)] ++ sd (decide (tgI nds (Int32.ofNat j).toInt.toNat ≤ tgt (sg c))) (prX nds fcs n (Int32.ofNat j).toInt.toNat)) = _
  rw [if_neg (by decide), if_neg (by decide), if_neg (by decide), if_neg (by decide), if_neg (by decide), e, e2]
/-- the sign's character, its binding -/
theorem chO_sg {c : Int32} (h : bd c ≠ -1000) : chO (sg c) = c ∧ bd c = Int32.ofNat (tgt (sg c)) ∧ (33 ≤ c.toInt ∧ c.toInt ≤ 126) := by
  by_cases h1 : c = 37
  · subst h1; decide
  · by_cases h2 : c = 42
    · subst h2; decide
    · by_cases h3 : c = 43
      · subst h3; decide
      · by_cases h4 : c = 45
        · subst h4; decide
        · by_cases h5 : c = 47
          · subst h5; decide
          · by_cases h6 : c = 60
            · subst h6; decide
            · by_cases h7 : c = 61
              · subst h7; decide
              · by_cases h8 : c = 62
                · subst h8; decide
                · refine absurd ?_ h
                  unfold bd
                  rw [if_neg h1, if_neg h2, if_neg h3, if_neg h4, if_neg h5, if_neg h6, if_neg h7, if_neg h8]
/-- how tightly a tree binds, as the class tells it -/
theorem CB_do {xt : mj_X} {ct : Nat → Value} {O : OR} {N : Nat} {H : mj_H} {A B : Nat} {nds : List Nd} {fcs : List Int32} : ∀ (n lo i a f : Nat), exT H A B nds fcs n lo i a f → CB xt ct O N a H = some (Int32.ofNat (tgI nds i), H) ∧ tgI nds i ≤ 3 ∧ ∃ c, gE H a = some c := by
  intro n lo i a f h
  cases n with
  | zero => exact h.elim
  | succ n =>
    have three : ∀ (c : Nat) (fs : List Value), 6 ≤ c → c ≤ 9 → H.1 a = some (.inr (c, fs)) → tgI nds i = 3 → CB xt ct O N a H = some (Int32.ofNat (tgI nds i), H) ∧ tgI nds i ≤ 3 ∧ ∃ c, gE H a = some c := by
      intro c fs c1 c2 hc ht
      have g : gE H a = some c := by
        unfold gE
        rw [gC_of hc]
        show (if 6 ≤ c ∧ c ≤ 10 then some c else none) = _
        rw [if_pos ⟨c1, by omega⟩]
      rw [ht]
      refine ⟨?_, by decide, c, g⟩
      have hb : (c == 10) = false := by simpa using (show c ≠ 10 by omega)
      unfold CB
      rw [g]
      simp only [Option.bind_some, hb, cond_false, C127]
      rfl
    rcases h with ⟨e, nd, b, fl, h1, h2, h3⟩ | ⟨j, x, e, h1, h2, h3, h4, h5⟩ | ⟨j, m, x, y, g, h, c, e, h1, h2, h3, h4, h5, h6, h7, h8⟩
    · obtain ⟨-, -, k⟩ := h2
      have tI : nd.1 ≠ 3 → tgI nds i = 3 := fun hn => by
        unfold tgI
        rw [h1]
        show tgN nd = 3
        unfold tgN
        rw [if_neg hn]
      rcases k with ⟨v, c1, rfl, c3, c4, rfl⟩ | ⟨v, c1, rfl, c3, c4, rfl⟩ | ⟨n', m, how, keep, pick, k, w, c1, rfl, c3, c4, rfl⟩ | ⟨r, rfl, c2, c3, c4, c5, c6, c7, rfl⟩
      · exact three 7 _ (by decide) (by decide) c4 (tI (show (0 : Int32) ≠ 3 by decide))
      · exact three 7 _ (by decide) (by decide) c4 (tI (show (1 : Int32) ≠ 3 by decide))
      · exact three 8 _ (by decide) (by decide) c4 (tI (show (4 : Int32) ≠ 3 by decide))
      · exact three 9 _ (by decide) (by decide) c6 (tI (show (5 : Int32) ≠ 3 by decide))
    · refine three 6 _ (by decide) (by decide) h5 ?_
      unfold tgI
      rw [h4]
      rfl
    · have tI : tgI nds i = tgt (sg c) := by
        unfold tgI
        rw [h6]
        rfl
      have g' : gE H a = some 10 := by
        unfold gE
        rw [gC_of h8]
        rfl
      have gi : gI H a 10 0 = some c := gI_of h8 rfl
      rw [tI]
      refine ⟨?_, ?_, 10, g'⟩
      · unfold CB
        rw [g']
        show C126 xt ct O N a H = _
        simp only [C126, gi, C108_do, (chO_sg h5).2.1, Option.bind_some]
      · unfold tgt
        split
        · omega
        · split <;> omega
