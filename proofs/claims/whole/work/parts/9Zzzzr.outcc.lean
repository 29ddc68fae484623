/-! OUTCOMES TAKEN, THE CLASS -/
def slF (z j : Nat) (H : mj_H) (hp : Int32) (fs : Option Nat) (oc : Nat) (tot : Int64) (Ov : Nat → Int32) (Wv : Nat → Int64) : Prop := H.1 (z + 54 + 3 * j) = some (.inr (4, [.ref (z + 55 + 3 * j), .ref (z + 56 + 3 * j), .int hp, rv fs, .int (Int32.ofNat oc), .long tot])) ∧ IR H (z + 55 + 3 * j) 64 Ov ∧ LR H (z + 56 + 3 * j) 64 Wv ∧ oc ≤ 64
theorem slF_R {z j : Nat} {H : mj_H} {hp : Int32} {fs : Option Nat} {oc : Nat} {tot : Int64} {Ov : Nat → Int32} {Wv : Nat → Int64} (h : slF z j H hp fs oc tot Ov Wv) : slR z j H hp fs oc tot ((List.range 64).map (fun i => .int (Ov i))) ((List.range 64).map (fun i => .long (Wv i))) := ⟨h.1, h.2.1, h.2.2.1, rg_len, rg_len, h.2.2.2⟩
def ofr (z j : Nat) (H K : mj_H) : Prop := (∀ q, q ≠ z + 54 + 3 * j → q ≠ z + 55 + 3 * j → q ≠ z + 56 + 3 * j → K.1 q = H.1 q) ∧ K.2 = H.2
theorem ofr_refl {z j : Nat} {H : mj_H} : ofr z j H H := ⟨fun _ _ _ _ => rfl, rfl⟩
theorem ofr_trans {z j : Nat} {H K L : mj_H} (x : ofr z j H K) (y : ofr z j K L) : ofr z j H L := ⟨fun q a b c => (y.1 q a b c).trans (x.1 q a b c), y.2.trans x.2⟩
section OUC
variable {xt : mj_X} {ct : Nat → Value} {O : OR} {N z : Nat} {H : mj_H} {j : Nat} {hp : Int32} {fs : Option Nat} {tot : Int64} {Ov : Nat → Int32} {Wv : Nat → Int64}
theorem C175_do (hN : 2000 ≤ N) {l : Sp} {v : Int32} {w : Nat} (h : slF z j H hp fs l.length tot Ov Wv) (hv : vw Ov Wv l) (hs : srt l) (hl : (insO v w l).length ≤ 64) : ∃ K Ov' Wv', C175 xt ct O N (z + 54 + 3 * j) v (Int64.ofNat w) H = some K ∧ slF z j K hp fs (insO v w l).length tot Ov' Wv' ∧ vw Ov' Wv' (insO v w l) ∧ ofr z j H K := by
  obtain ⟨h1, h2, h3, h4⟩ := h
  obtain ⟨k, hk⟩ : ∃ k, idx v l = k := ⟨_, rfl⟩
  have kle := idx_le (v := v) l
  have klo := idx_lo (v := v) l
  have khi := fun i p => idx_hi (v := v) l i p hs
  rw [hk] at kle klo khi
  have g4 : gI H (z + 54 + 3 * j) 4 4 = some (Int32.ofNat l.length) := gI_of h1 rfl
  have g0 : gA H (z + 54 + 3 * j) 4 0 = some (z + 55 + 3 * j) := gA_of h1 rfl
  have g1 : gA H (z + 54 + 3 * j) 4 1 = some (z + 56 + 3 * j) := gA_of h1 rfl
  -- where it is put
  have fin : ∃ K Ov' Wv', J175_30 xt ct O N (z + 54 + 3 * j) v (Int64.ofNat w) (Int32.ofNat k) H = some K ∧ slF z j K hp fs (insO v w l).length tot Ov' Wv' ∧ vw Ov' Wv' (insO v w l) ∧ ofr z j H K := by
    by_cases ex : ∃ w0, l[k]? = some (v, w0)
    · obtain ⟨w0, hw0⟩ := ex
      have klt := (List.getElem?_eq_some_iff.mp hw0).1
      have ei := insO_at (w := w) l w0 (by rw [hk]; exact hw0)
      rw [hk] at ei
      obtain ⟨v1, v2⟩ := hv k _ hw0
      have c := c_geF (a := k) (b := l.length) (by omega) (by omega) klt
      have a0 : aI xt H (z + 55 + 3 * j) (Int32.ofNat k) = some v := by
        have := IR_get (xt := xt) h2 (show k < 64 by omega) (by omega)
        rw [v1] at this
        exact this
      have a1 : aL xt H (z + 56 + 3 * j) (Int32.ofNat k) = some (Int64.ofNat w0) := by
        have := LR_get (xt := xt) h3 (show k < 64 by omega) (by omega)
        rw [v2] at this
        exact this
      have cn : mj_c2 .ne v v = false := decide_eq_false (fun q => q rfl)
      obtain ⟨K, b1, b2, b3⟩ := LR_set (x := Int64.ofNat (w0 + w)) h3 (show k < 64 by omega) (by omega)
      have lset : (l.set k (v, w0 + w)).length = l.length := List.length_set ..
      rw [ei]
      refine ⟨K, Ov, _, ?_, ⟨by rw [lset]; exact (b3.1 _ (by omega)).trans h1, IR_fr h2 (b3.1 _ (by omega)), b2, by rw [lset]; exact h4⟩, fun i p hi => ?_, fun q q1 q2 q3 => b3.1 q q3, b3.2⟩
      · simp only [J175_30, g4, c, cond_false, g0, a0, cn, g1, a1, l_add, b1, J175_147, Option.bind_some]
      · rw [List.getElem?_set] at hi
        by_cases e : k = i
        · rw [if_pos e, if_pos klt] at hi
          rw [← Option.some.inj hi, ← e]
          exact ⟨v1, if_pos rfl⟩
        · rw [if_neg e] at hi
          exact ⟨(hv i p hi).1, (if_neg (fun q => e q.symm)).trans (hv i p hi).2⟩
    · have en := insO_new (w := w) l (by rw [hk]; exact fun w0 q => ex ⟨w0, q⟩)
      rw [hk] at en
      have len : (l.take k ++ (v, w) :: l.drop k).length = l.length + 1 := by
        rw [List.length_append, List.length_take, List.length_cons, List.length_drop]
        omega
      rw [en] at hl ⊢
      rw [len] at hl
      -- behind all that is less
      have put : ∃ K Ov' Wv', J175_64 xt ct O N (z + 54 + 3 * j) v (Int64.ofNat w) (Int32.ofNat k) H = some K ∧ slF z j K hp fs (l.take k ++ (v, w) :: l.drop k).length tot Ov' Wv' ∧ vw Ov' Wv' (l.take k ++ (v, w) :: l.drop k) ∧ ofr z j H K := by
        have c64 : mj_c2 .ge (Int32.ofNat l.length) 64 = false := c_geF (b := 64) (by omega) (by omega) (by omega)
        have i1 : Int32.ofNat k + 1 = Int32.ofNat (k + 1) := i_inc (by omega)
        have i2 : Int32.ofNat l.length - Int32.ofNat k = Int32.ofNat (l.length - k) := n_sub (by omega) kle
        obtain ⟨H1, b1, b2, b3⟩ := cY_I (sp := k) (dp := k + 1) (c := l.length - k) h2 h2 (by omega) (by omega) (by omega) (by omega)
        have o1 : H1.1 (z + 54 + 3 * j) = _ := (b3.1 _ (by omega)).trans h1
        have w1 : LR H1 (z + 56 + 3 * j) 64 Wv := LR_fr h3 (b3.1 _ (by omega))
        obtain ⟨H2, d1, d2, d3⟩ := cY_L (sp := k) (dp := k + 1) (c := l.length - k) w1 w1 (by omega) (by omega) (by omega) (by omega)
        have o2 : H2.1 (z + 54 + 3 * j) = _ := (d3.1 _ (by omega)).trans o1
        have v2 := IR_fr b2 (d3.1 (z + 55 + 3 * j) (by omega))
        obtain ⟨H3, e1, e2, e3⟩ := IR_set (x := v) v2 (show k < 64 by omega) (by omega)
        have o3 : H3.1 (z + 54 + 3 * j) = _ := (e3.1 _ (by omega)).trans o2
        have w3 := LR_fr d2 (e3.1 (z + 56 + 3 * j) (by omega))
        obtain ⟨H4, f1, f2, f3⟩ := LR_set (x := Int64.ofNat w) w3 (show k < 64 by omega) (by omega)
        have o4 : H4.1 (z + 54 + 3 * j) = some (.inr (4, [.ref (z + 55 + 3 * j), .ref (z + 56 + 3 * j), .int hp, rv fs, .int (Int32.ofNat l.length), .long tot])) := (f3.1 _ (by omega)).trans o3
        have u := uF_of (n := 4) (v := .int (Int32.ofNat (l.length + 1))) o4
        obtain ⟨K, hK⟩ : ∃ K, mj_put H4 (z + 54 + 3 * j) (.inr (4, [.ref (z + 55 + 3 * j), .ref (z + 56 + 3 * j), .int hp, rv fs, .int (Int32.ofNat (l.length + 1)), .long tot])) = K := ⟨_, rfl⟩
        have u' : uF H4 (z + 54 + 3 * j) 4 4 (.int (Int32.ofNat (l.length + 1))) = some K := by rw [← hK]; exact u
        have fr : ∀ q, q ≠ z + 54 + 3 * j → K.1 q = H4.1 q := fun q hq => by rw [← hK]; exact mj_put_ne hq
        have ga : gA H1 (z + 54 + 3 * j) 4 1 = some (z + 56 + 3 * j) := gA_of o1 rfl
        have gb : gI H1 (z + 54 + 3 * j) 4 4 = some (Int32.ofNat l.length) := gI_of o1 rfl
        have gc : gA H2 (z + 54 + 3 * j) 4 0 = some (z + 55 + 3 * j) := gA_of o2 rfl
        have gd : gA H3 (z + 54 + 3 * j) 4 1 = some (z + 56 + 3 * j) := gA_of o3 rfl
        have ge : gI H4 (z + 54 + 3 * j) 4 4 = some (Int32.ofNat l.length) := gI_of o4 rfl
        have iv := IR_fr e2 ((fr _ (by omega)).trans (f3.1 (z + 55 + 3 * j) (by omega)))
        have lw := LR_fr f2 (fr (z + 56 + 3 * j) (by omega))
        refine ⟨K, _, _, ?_, ⟨by rw [len, ← hK]; exact mj_put_eq, iv, lw, by rw [len]; exact hl⟩, fun i p hi => ?_, fun q q1 q2 q3 => (fr q q1).trans ((f3.1 q q3).trans ((e3.1 q q2).trans ((d3.1 q q3).trans (b3.1 q q2)))), by rw [← hK]; exact f3.2.trans (e3.2.trans (d3.2.trans b3.2))⟩
        · simp only [J175_64, g4, c64, cond_false, g0, i1, i2, b1, ga, gb, d1, gc, e1, gd, f1, ge, i_inc (show l.length < 1000000 by omega), u', J175_147, Option.bind_some]
        · have hi2 := (List.getElem?_eq_some_iff.mp hi).1
          rw [len] at hi2
          show (if i = k then v else if k + 1 ≤ i ∧ i < k + 1 + (l.length - k) then Ov (k + (i - (k + 1))) else Ov i) = _ ∧ (if i = k then Int64.ofNat w else if k + 1 ≤ i ∧ i < k + 1 + (l.length - k) then Wv (k + (i - (k + 1))) else Wv i) = _
          have lt : (l.take k).length = k := by rw [List.length_take]; omega
          by_cases c1 : i < k
          · rw [List.getElem?_append_left (by omega), List.getElem?_take_of_lt c1] at hi
            rw [if_neg (by omega), if_neg (by omega), if_neg (by omega), if_neg (by omega)]
            exact hv i p hi
          · rw [List.getElem?_append_right (by omega), lt] at hi
            by_cases c2 : i = k
            · rw [c2, Nat.sub_self] at hi
              rw [if_pos c2, if_pos c2, ← Option.some.inj hi]
              exact ⟨rfl, rfl⟩
            · obtain ⟨d, hd⟩ : ∃ d, i = k + 1 + d := ⟨i - k - 1, by omega⟩
              rw [show i - k = d + 1 by omega, List.getElem?_cons_succ, List.getElem?_drop] at hi
              rw [if_neg c2, if_neg c2, if_pos (by omega), if_pos (by omega), show k + (i - (k + 1)) = k + d by omega]
              exact hv (k + d) p hi
      by_cases c : k < l.length
      · obtain ⟨p, hp'⟩ : ∃ p, l[k]? = some p := ⟨_, List.getElem?_eq_getElem c⟩
        have ne : p.1 ≠ v := fun q => ex ⟨p.2, by rw [hp', ← q]⟩
        have cc := c_geF (a := k) (b := l.length) (by omega) (by omega) c
        have a0 : aI xt H (z + 55 + 3 * j) (Int32.ofNat k) = some p.1 := by
          have := IR_get (xt := xt) h2 (show k < 64 by omega) (by omega)
          rw [(hv k p hp').1] at this
          exact this
        have cn : mj_c2 .ne p.1 v = true := decide_eq_true ne
        obtain ⟨K, Ov', Wv', p1, p2⟩ := put
        refine ⟨K, Ov', Wv', ?_, p2⟩
        simp only [J175_30, g4, cc, cond_false, g0, a0, cn, cond_true, p1, Option.bind_some]
      · have cc := c_geT (a := k) (b := l.length) (by omega) (by omega) (by omega)
        obtain ⟨K, Ov', Wv', p1, p2⟩ := put
        refine ⟨K, Ov', Wv', ?_, p2⟩
        simp only [J175_30, g4, cc, cond_true, p1, Option.bind_some]
  -- the way there
  have key : ∀ d, k + d ≤ l.length → t_lp (B175_6 xt ct O N) (d + 1) (z + 54 + 3 * j, v, Int64.ofNat w, Int32.ofNat (k + d), H) = J175_30 xt ct O N (z + 54 + 3 * j) v (Int64.ofNat w) (Int32.ofNat k) H := by
    intro d
    induction d with
    | zero =>
      intro hd
      apply t_lp_map
      by_cases k0 : k = 0
      · have c : mj_c1 .le (Int32.ofNat (k + 0)) = true := by rw [k0]; decide
        simp only [B175_6, c, cond_true]
        rfl
      · have c : mj_c1 .le (Int32.ofNat k) = false := i_c1 (by
          show decide _ = false
          rw [i_nat (by omega)]
          exact decide_eq_false (by omega))
        have i1 : Int32.ofNat k - 1 = Int32.ofNat (k - 1) := by rw [show (1 : Int32) = Int32.ofNat 1 from rfl, n_sub (by omega) (by omega)]
        obtain ⟨p, hp'⟩ : ∃ p, l[k - 1]? = some p := ⟨_, List.getElem?_eq_getElem (by omega)⟩
        have a0 : aI xt H (z + 55 + 3 * j) (Int32.ofNat (k - 1)) = some p.1 := by
          have := IR_get (xt := xt) h2 (show k - 1 < 64 by omega) (by omega)
          rw [(hv (k - 1) p hp').1] at this
          exact this
        have cl : mj_c2 .lt p.1 v = true := i_c2 (by
          show decide _ = true
          exact decide_eq_true (klo (k - 1) p (by omega) hp'))
        show B175_6 xt ct O N (z + 54 + 3 * j, v, Int64.ofNat w, Int32.ofNat k, H) = _
        simp only [B175_6, c, cond_false, g0, i1, a0, cl, cond_true, Option.bind_some]
    | succ d ih =>
      intro hd
      have c : mj_c1 .le (Int32.ofNat (k + (d + 1))) = false := i_c1 (by
        show decide _ = false
        rw [i_nat (by omega)]
        exact decide_eq_false (by omega))
      have i1 : Int32.ofNat (k + (d + 1)) - 1 = Int32.ofNat (k + d) := by rw [show (1 : Int32) = Int32.ofNat 1 from rfl, n_sub (by omega) (by omega), show k + (d + 1) - 1 = k + d by omega]
      have i2 : Int32.ofNat (k + (d + 1)) + (-1) = Int32.ofNat (k + d) := by rw [n_dec (by omega) (by omega), show k + (d + 1) - 1 = k + d by omega]
      obtain ⟨p, hp'⟩ : ∃ p, l[k + d]? = some p := ⟨_, List.getElem?_eq_getElem (by omega)⟩
      have a0 : aI xt H (z + 55 + 3 * j) (Int32.ofNat (k + d)) = some p.1 := by
        have := IR_get (xt := xt) h2 (show k + d < 64 by omega) (by omega)
        rw [(hv (k + d) p hp').1] at this
        exact this
      have cl : mj_c2 .lt p.1 v = false := i_c2 (by
        show decide _ = false
        have := khi (k + d) p (by omega) hp'
        exact decide_eq_false (by omega))
      have st : B175_6 xt ct O N (z + 54 + 3 * j, v, Int64.ofNat w, Int32.ofNat (k + (d + 1)), H) = some (.inl (z + 54 + 3 * j, v, Int64.ofNat w, Int32.ofNat (k + d), H)) := by
        simp only [B175_6, c, cond_false, g0, i1, a0, cl, i2, Option.bind_some]
      rw [t_one st]
      exact ih (by omega)
  obtain ⟨K, Ov', Wv', f1, f2⟩ := fin
  refine ⟨K, Ov', Wv', ?_, f2⟩
  have kk := key (l.length - k) (by omega)
  rw [show k + (l.length - k) = l.length by omega, f1] at kk
  have kk' : L175_6 xt ct O N (z + 54 + 3 * j, v, Int64.ofNat w, Int32.ofNat l.length, H) = some K := t_lp_more _ _ _ (by omega) kk
  simp only [C175, g4, kk', Option.bind_some]
end OUC
