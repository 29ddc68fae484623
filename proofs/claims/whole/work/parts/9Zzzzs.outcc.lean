section OUD
variable {xt : mj_X} {ct : Nat → Value} {O : OR} {N z : Nat} {j : Nat} {hp : Int32} {fs : Option Nat}
theorem tot_le {l : Sp} {p : Int32 × Nat} (h : p ∈ l) : p.2 ≤ tot l := by
  induction l with
  | nil => cases h
  | cons q r ih =>
    rw [tot_cons]
    rcases List.mem_cons.mp h with k | k
    · rw [k]; omega
    · have := ih k; omega
theorem gcF_le : ∀ (l : Sp) (g : Nat), posS l → l ≠ [] ∨ 1 ≤ g → 1 ≤ gcF l g ∧ gcF l g ≤ max g (tot l) := by
  intro l
  induction l with
  | nil =>
    intro g _ h
    have : 1 ≤ g := h.resolve_left (fun q => q rfl)
    exact ⟨this, Nat.le_max_left _ _⟩
  | cons p r ih =>
    intro g hp h
    have p1 := hp p List.mem_cons_self
    have g1 : 1 ≤ Nat.gcd g p.2 := Nat.gcd_pos_of_pos_right _ p1
    have g2 : Nat.gcd g p.2 ≤ p.2 := Nat.gcd_le_right _ p1
    obtain ⟨i1, i2⟩ := ih (Nat.gcd g p.2) (fun q hq => hp q (List.mem_cons_of_mem _ hq)) (Or.inr g1)
    refine ⟨i1, ?_⟩
    show gcF r (Nat.gcd g p.2) ≤ _
    rw [tot_cons]
    omega
/-- divided by what is common -/
theorem C176_do (hN : 2000 ≤ N) {H : mj_H} {Ov : Nat → Int32} {Wv : Nat → Int64} {l : Sp} (h : slF z j H hp fs l.length 0 Ov Wv) (hv : vw Ov Wv l) (hpos : posS l) (hne : l ≠ []) (ht : tot l ≤ 2147483648) : ∃ K Wv', C176 xt ct O N (z + 54 + 3 * j) H = some K ∧ slF z j K hp fs l.length (Int64.ofNat (tot (dvO l))) Ov Wv' ∧ vw Ov Wv' (dvO l) ∧ ofr z j H K := by
  obtain ⟨h1, h2, h3, h4⟩ := id h
  obtain ⟨G1, G2⟩ := gcF_le l 0 hpos (Or.inl hne)
  have G3 : gcF l 0 ≤ 2147483648 := by omega
  obtain ⟨G, hG⟩ : ∃ G, gcF l 0 = G := ⟨_, rfl⟩
  have g4 : gI H (z + 54 + 3 * j) 4 4 = some (Int32.ofNat l.length) := gI_of h1 rfl
  have g1 : gA H (z + 54 + 3 * j) 4 1 = some (z + 56 + 3 * j) := gA_of h1 rfl
  -- what is common
  have com : ∀ (rest : Sp) (i g : Nat), i + rest.length = l.length → l.drop i = rest → g ≤ 2147483648 → t_lp (B176_4 xt ct O N) (rest.length + 1) (z + 54 + 3 * j, Int64.ofNat g, Int32.ofNat i, H) = L176_31 xt ct O N (z + 54 + 3 * j, Int64.ofNat (gcF rest g), 0, H) := by
    intro rest
    induction rest with
    | nil =>
      intro i g hi _ _
      have hi' : i + 0 = l.length := hi
      have c := c_geT (a := i) (b := l.length) (by omega) (by omega) (by omega)
      apply t_lp_map
      simp only [B176_4, g4, c, cond_true, Option.bind_some]
      rfl
    | cons p r ih =>
      intro i g hi hd hg
      rw [List.length_cons] at hi
      have hp' : l[i]? = some p := by
        have : (l.drop i)[0]? = some p := by rw [hd]; rfl
        rw [List.getElem?_drop, Nat.add_zero] at this
        exact this
      have hr : l.drop (i + 1) = r := by
        have : (l.drop i).drop 1 = r := by rw [hd]; rfl
        rw [List.drop_drop] at this
        exact this
      have p1 := hpos p (List.mem_of_getElem? hp')
      have p2 := tot_le (List.mem_of_getElem? hp')
      have c := c_geF (a := i) (b := l.length) (by omega) (by omega) (by omega)
      have a1 : aL xt H (z + 56 + 3 * j) (Int32.ofNat i) = some (Int64.ofNat p.2) := by
        have := LR_get (xt := xt) h3 (show i < 64 by omega) (by omega)
        rw [(hv i p hp').2] at this
        exact this
      have gc := C114_do (xt := xt) (ct := ct) (O := O) (N := N) (H := H) (x := g) (y := p.2) hN (by omega) (by omega)
      have gle : Nat.gcd g p.2 ≤ p.2 := Nat.gcd_le_right _ p1
      have st : B176_4 xt ct O N (z + 54 + 3 * j, Int64.ofNat g, Int32.ofNat i, H) = some (.inl (z + 54 + 3 * j, Int64.ofNat (Nat.gcd g p.2), Int32.ofNat (i + 1), H)) := by
        simp only [B176_4, g4, c, cond_false, g1, a1, gc, i_inc (show i < 1000000 by omega), Option.bind_some]
      rw [List.length_cons, t_one st]
      exact ih (i + 1) (Nat.gcd g p.2) (by omega) hr (by omega)
  -- divided
  have div : ∀ (rest : Sp) (i acc : Nat) (H1 : mj_H) (Wv1 : Nat → Int64), i + rest.length = l.length → l.drop i = rest → slF z j H1 hp fs l.length (Int64.ofNat acc) Ov Wv1 → (∀ (q : Nat) (p : Int32 × Nat), q < i → l[q]? = some p → Wv1 q = Int64.ofNat (p.2 / G)) → (∀ (q : Nat) (p : Int32 × Nat), i ≤ q → l[q]? = some p → Wv1 q = Int64.ofNat p.2) → ofr z j H H1 → ∃ K Wv', t_lp (B176_31 xt ct O N) (rest.length + 1) (z + 54 + 3 * j, Int64.ofNat G, Int32.ofNat i, H1) = some K ∧ slF z j K hp fs l.length (Int64.ofNat (acc + tot (rest.map (fun p => (p.1, p.2 / G))))) Ov Wv' ∧ (∀ (q : Nat) (p : Int32 × Nat), l[q]? = some p → Wv' q = Int64.ofNat (p.2 / G)) ∧ ofr z j H K := by
    intro rest
    induction rest with
    | nil =>
      intro i acc H1 Wv1 hi _ hs hlo _ hf
      have hi' : i + 0 = l.length := hi
      have c := c_geT (a := i) (b := l.length) (by omega) (by omega) (by omega)
      have g4' : gI H1 (z + 54 + 3 * j) 4 4 = some (Int32.ofNat l.length) := gI_of hs.1 rfl
      refine ⟨H1, Wv1, t_end ?_ _, hs, fun q p hq => hlo q p ?_ hq, hf⟩
      · simp only [B176_31, g4', c, cond_true, Option.bind_some]
      · have := (List.getElem?_eq_some_iff.mp hq).1
        omega
    | cons p r ih =>
      intro i acc H1 Wv1 hi hd hs hlo hhi hf
      rw [List.length_cons] at hi
      have hp' : l[i]? = some p := by
        have : (l.drop i)[0]? = some p := by rw [hd]; rfl
        rw [List.getElem?_drop, Nat.add_zero] at this
        exact this
      have hr : l.drop (i + 1) = r := by
        have : (l.drop i).drop 1 = r := by rw [hd]; rfl
        rw [List.drop_drop] at this
        exact this
      have p2 := tot_le (List.mem_of_getElem? hp')
      obtain ⟨s1, s2, s3, s4⟩ := hs
      have c := c_geF (a := i) (b := l.length) (by omega) (by omega) (by omega)
      have g4' : gI H1 (z + 54 + 3 * j) 4 4 = some (Int32.ofNat l.length) := gI_of s1 rfl
      have g1' : gA H1 (z + 54 + 3 * j) 4 1 = some (z + 56 + 3 * j) := gA_of s1 rfl
      have a1 : aL xt H1 (z + 56 + 3 * j) (Int32.ofNat i) = some (Int64.ofNat p.2) := by
        have := LR_get (xt := xt) s3 (show i < 64 by omega) (by omega)
        rw [hhi i p (Nat.le_refl _) hp'] at this
        exact this
      have dv := C115_do (xt := xt) (ct := ct) (O := O) (N := N) (H := H1) (x := p.2) (y := G) (by omega) (by omega) (by omega)
      obtain ⟨H2, b1, b2, b3⟩ := LR_set (x := Int64.ofNat (p.2 / G)) s3 (show i < 64 by omega) (by omega)
      have o2 : H2.1 (z + 54 + 3 * j) = some (.inr (4, [.ref (z + 55 + 3 * j), .ref (z + 56 + 3 * j), .int hp, rv fs, .int (Int32.ofNat l.length), .long (Int64.ofNat acc)])) := (b3.1 _ (by omega)).trans s1
      have g5 : gL H2 (z + 54 + 3 * j) 4 5 = some (Int64.ofNat acc) := gL_of o2 rfl
      have g12 : gA H2 (z + 54 + 3 * j) 4 1 = some (z + 56 + 3 * j) := gA_of o2 rfl
      have a2 : aL xt H2 (z + 56 + 3 * j) (Int32.ofNat i) = some (Int64.ofNat (p.2 / G)) := by
        have := LR_get (xt := xt) b2 (show i < 64 by omega) (by omega)
        rw [if_pos rfl] at this
        exact this
      have u := uF_of (n := 5) (v := .long (Int64.ofNat (acc + p.2 / G))) o2
      obtain ⟨K, hK⟩ : ∃ K, mj_put H2 (z + 54 + 3 * j) (.inr (4, [.ref (z + 55 + 3 * j), .ref (z + 56 + 3 * j), .int hp, rv fs, .int (Int32.ofNat l.length), .long (Int64.ofNat (acc + p.2 / G))])) = K := ⟨_, rfl⟩
      have u' : uF H2 (z + 54 + 3 * j) 4 5 (.long (Int64.ofNat (acc + p.2 / G))) = some K := by rw [← hK]; exact u
      have fr : ∀ q, q ≠ z + 54 + 3 * j → K.1 q = H2.1 q := fun q hq => by rw [← hK]; exact mj_put_ne hq
      have st : B176_31 xt ct O N (z + 54 + 3 * j, Int64.ofNat G, Int32.ofNat i, H1) = some (.inl (z + 54 + 3 * j, Int64.ofNat G, Int32.ofNat (i + 1), K)) := by
        simp only [B176_31, g4', c, cond_false, g1', a1, dv, b1, g5, g12, a2, l_add, u', i_inc (show i < 1000000 by omega), Option.bind_some]
      rw [List.length_cons, t_one st]
      obtain ⟨K2, Wv2, d1, d2, d3, d4⟩ := ih (i + 1) (acc + p.2 / G) K _ (by omega) hr ⟨by rw [← hK]; exact mj_put_eq, IR_fr s2 ((fr _ (by omega)).trans (b3.1 _ (by omega))), LR_fr b2 (fr _ (by omega)), s4⟩ (fun q y hq hy => by
        show (if q = i then _ else _) = _
        by_cases e : q = i
        · rw [if_pos e]
          rw [e, hp'] at hy
          rw [Option.some.inj hy]
        · rw [if_neg e]
          exact hlo q y (by omega) hy) (fun q y hq hy => by
        show (if q = i then _ else _) = _
        rw [if_neg (by omega)]
        exact hhi q y (by omega) hy) (ofr_trans hf ⟨fun q q1 q2 q3 => (fr q q1).trans (b3.1 q q3), by rw [← hK]; exact b3.2⟩)
      refine ⟨K2, Wv2, d1, ?_, d3, d4⟩
      rw [List.map_cons, tot_cons, ← Nat.add_assoc]
      exact d2
  obtain ⟨K, Wv', d1, d2, d3, d4⟩ := div l 0 0 H Wv (by omega) rfl h (fun q p hq => absurd hq (by omega)) (fun q p _ hq => (hv q p hq).2) ofr_refl
  rw [Nat.zero_add] at d2
  refine ⟨K, Wv', ?_, by unfold dvO; rw [hG]; exact d2, fun i p hi => ?_, d4⟩
  · have c1 := com l 0 0 (by omega) rfl (by omega)
    rw [hG] at c1
    have d1' : L176_31 xt ct O N (z + 54 + 3 * j, Int64.ofNat G, 0, H) = some K := t_lp_more _ _ _ (by omega) d1
    rw [d1'] at c1
    exact t_lp_more _ _ _ (by omega) c1
  · unfold dvO at hi
    rw [List.getElem?_map] at hi
    obtain ⟨q, q1, q2⟩ := Option.map_eq_some_iff.mp hi
    rw [← q2]
    refine ⟨(hv i q q1).1, ?_⟩
    rw [hG]
    exact d3 i q q1
/-- takeResult -/
theorem C174_do (hN : 2000 ≤ N) {H : mj_H} {π : Nat → Nat} {Ls : Nat → Ss} {Ov : Nat → Int32} {Wv : Nat → Int64} (h : slF z j H hp fs 0 0 Ov Wv) (hj : j < 3) (hs : stsH z H π Ls) (hg : ∀ x ∈ Ls 0, gdk x) (hne : Ls 0 ≠ []) (ht : toF (Ls 0) ≤ 2147483648) : ∃ K Ov' Wv', C174 xt ct O N (z + 54 + 3 * j) (z + 22) H = some K ∧ slF z j K hp fs (insOs (Ls 0) []).length (Int64.ofNat (tot (dvO (insOs (Ls 0) [])))) Ov' Wv' ∧ vw Ov' Wv' (dvO (insOs (Ls 0) [])) ∧ ofr z j H K := by
  obtain ⟨b1, b2, b3, V', W', ⟨b4, b5⟩, b6⟩ := hs.1 0 (by omega)
  have r0 := so_rng b1
  obtain ⟨i1, i2, i3, i4⟩ := insOs_ok (Ls 0) [] hg trivial (fun p hp => by cases hp) (fun p hp => by cases hp)
  have hlen : (insOs (Ls 0) []).length ≤ 64 := by
    have : ([] : Sp).length = 0 := rfl
    omega
  have itot : tot (insOs (Ls 0) []) = toF (Ls 0) := by
    unfold tot toF
    rw [insOs_sS]
    exact Nat.zero_add _
  have ine : insOs (Ls 0) [] ≠ [] := fun q => by
    rw [q] at itot
    have e0 : tot ([] : Sp) = 0 := rfl
    cases e : Ls 0 with
    | nil => exact hne e
    | cons x r =>
      have hx := hg x (by rw [e]; exact List.mem_cons_self)
      rw [e, toF_cons, e0] at itot
      have := hx.1
      omega
  have key : ∀ (rest : Ss) (i : Nat) (H1 : mj_H) (lo : Sp) (Ov1 : Nat → Int32) (Wv1 : Nat → Int64), i + rest.length = (Ls 0).length → (Ls 0).drop i = rest → slF z j H1 hp fs lo.length 0 Ov1 Wv1 → vw Ov1 Wv1 lo → srt lo → lo.length ≤ i → insOs rest lo = insOs (Ls 0) [] → ofr z j H H1 → ∃ K Ov' Wv', t_lp (B174_2 xt ct O N) (rest.length + 1) (z + 54 + 3 * j, z + 22, Int32.ofNat i, H1) = some K ∧ slF z j K hp fs (insOs (Ls 0) []).length (Int64.ofNat (tot (dvO (insOs (Ls 0) [])))) Ov' Wv' ∧ vw Ov' Wv' (dvO (insOs (Ls 0) [])) ∧ ofr z j H K := by
    intro rest
    induction rest with
    | nil =>
      intro i H1 lo Ov1 Wv1 hi _ hs1 hv1 hsr _ he hf
      have hi' : i + 0 = (Ls 0).length := hi
      have he' : lo = insOs (Ls 0) [] := he
      rw [← he'] at i2 itot ine ⊢
      have o1 : H1.1 (z + 22) = some (.inr (2, [.ref (z + so (π 0) + 1), .ref (z + so (π 0) + 2), .int (Int32.ofNat (Ls 0).length)])) := (hf.1 _ (by omega) (by omega) (by omega)).trans b3
      have g2 : gI H1 (z + 22) 2 2 = some (Int32.ofNat (Ls 0).length) := gI_of o1 rfl
      have k4 : gK H1 (z + 54 + 3 * j) 4 = some () := gK_of hs1.1
      have c := c_geT (a := i) (b := (Ls 0).length) (by omega) (by omega) (by omega)
      obtain ⟨K, Wv', d1, d2, d3, d4⟩ := C176_do (xt := xt) (ct := ct) (O := O) (N := N) hN hs1 hv1 i2 ine (by omega)
      refine ⟨K, Ov1, Wv', t_end ?_ _, d2, d3, ofr_trans hf d4⟩
      simp only [B174_2, g2, c, cond_true, k4, d1, Option.bind_some]
    | cons x r ih =>
      intro i H1 lo Ov1 Wv1 hi hd hs1 hv1 hsr hlo he hf
      rw [List.length_cons] at hi
      obtain ⟨hx, hr⟩ := dr_get hd
      have o1 : H1.1 (z + 22) = some (.inr (2, [.ref (z + so (π 0) + 1), .ref (z + so (π 0) + 2), .int (Int32.ofNat (Ls 0).length)])) := (hf.1 _ (by omega) (by omega) (by omega)).trans b3
      have iv1 : IR H1 (z + so (π 0) + 1) 390 V' := IR_fr b4 (hf.1 _ (by omega) (by omega) (by omega))
      have lw1 : LR H1 (z + so (π 0) + 2) 64 W' := LR_fr b5 (hf.1 _ (by omega) (by omega) (by omega))
      have g2 : gI H1 (z + 22) 2 2 = some (Int32.ofNat (Ls 0).length) := gI_of o1 rfl
      have g1 : gA H1 (z + 22) 2 1 = some (z + so (π 0) + 2) := gA_of o1 rfl
      have k2 : gK H1 (z + 22) 2 = some () := gK_of o1
      have k4 : gK H1 (z + 54 + 3 * j) 4 = some () := gK_of hs1.1
      have c := c_geF (a := i) (b := (Ls 0).length) (by omega) (by omega) (by omega)
      have v0 : C154 xt ct O N (z + 22) (Int32.ofNat i) 0 H1 = some (stf x.1 0, H1) := by
        have := C154_do (xt := xt) (ct := ct) (O := O) (N := N) (row := i) (k := 0) o1 iv1 (by omega)
        rw [(b6 i x hx).2 0 (by omega)] at this
        exact this
      have a1 : aL xt H1 (z + so (π 0) + 2) (Int32.ofNat i) = some (Int64.ofNat x.2) := by
        have := LR_get (xt := xt) lw1 (show i < 64 by omega) (by omega)
        rw [(b6 i x hx).1] at this
        exact this
      have il := insO_len (v := stf x.1 0) (w := x.2) lo
      obtain ⟨K, Ov2, Wv2, d1, d2, d3, d4⟩ := C175_do (xt := xt) (ct := ct) (O := O) (N := N) (v := stf x.1 0) (w := x.2) hN hs1 hv1 hsr (by omega)
      have st : B174_2 xt ct O N (z + 54 + 3 * j, z + 22, Int32.ofNat i, H1) = some (.inl (z + 54 + 3 * j, z + 22, Int32.ofNat (i + 1), K)) := by
        simp only [B174_2, g2, c, cond_false, k2, v0, g1, a1, k4, d1, i_inc (show i < 1000000 by omega), Option.bind_some]
      rw [List.length_cons, t_one st]
      exact ih (i + 1) K _ Ov2 Wv2 (by omega) hr d2 d3 (insO_srt lo hsr) (by omega) he (ofr_trans hf d4)
  obtain ⟨K, Ov', Wv', d1, d2⟩ := key (Ls 0) 0 H [] Ov Wv (by omega) rfl h (fun i p hi => by cases hi) trivial (Nat.le_refl _) rfl ofr_refl
  exact ⟨K, Ov', Wv', t_lp_more _ _ _ (by omega) d1, d2⟩
end OUD
