section CM2
variable {xt : mj_X} {ct : Nat → Value} {O : OR} {N z : Nat}
/-- what was found, on the heap -/
def cH (z : Nat) (H : mj_H) (n : Nat) (mo : Int32) (V T : Nat → Int32) (W : Nat → Int64) (fd : List Int32) (g : Nat → Nat) : Prop := bO z H n fd.length mo ∧ ∃ F, bR z H V T F W (fun i => Int64.ofNat (g i)) ∧ ∀ (i : Nat) (v : Int32), fd[i]? = some v → F i = v
theorem ix_add {v : Int32} (h : inR v) : v + 999 = Int32.ofNat (ix v) := by
  apply Int32.toInt_inj.mp
  have q : (999 : Int32).toInt = 999 := rfl
  obtain ⟨h1, h2⟩ := h
  rw [i_add (by rw [q]; omega) (by rw [q]; omega), q]
  unfold ix
  rw [i_nat (by omega)]
  omega
/-- one pair more -/
theorem C157_one {H : mj_H} {n : Nat} {mo c : Int32} {V T : Nat → Int32} {W : Nat → Int64} {fd : List Int32} {g : Nat → Nat} {Q : (Int32 → Nat) → Nat} {x3 x4 : Int32} {i j wi wj : Nat} (h : cH z H n mo V T W fd g) (hc : clt fd g Q) (hi : i < 4598) (hj : j < 4598) (hji : mj_c2 .ge (Int32.ofNat j) x4 = false) (ei : W i = Int64.ofNat wi) (ej : W j = Int64.ofNat wj) (hw : 1 ≤ wi * wj) (hq : Q (fun _ => 1) ≤ 2147483648) : (inR (opV c (V i) (V j)) → ∃ K, B157_12 xt ct O N (z + 8, c, x3, x4, Int32.ofNat i, Int32.ofNat j, H) = some (.inl (z + 8, c, x3, x4, Int32.ofNat i, Int32.ofNat (j + 1), K)) ∧ cH z K n mo V T W (if g (ix (opV c (V i) (V j))) = 0 then fd ++ [opV c (V i) (V j)] else fd) (fun q => if q = ix (opV c (V i) (V j)) then g q + wi * wj else g q) ∧ bfr z H K) ∧ (¬ inR (opV c (V i) (V j)) → B157_12 xt ct O N (z + 8, c, x3, x4, Int32.ofNat i, Int32.ofNat j, H) = some (.inr (.inr (0, H)))) := by
  obtain ⟨ho, F, hr, hF⟩ := h
  have g0 : gA H (z + 8) 3 0 = some (z + 9) := gA_of ho rfl
  have vi : aI xt H (z + 9) (Int32.ofNat i) = some (V i) := IR_get hr.1 hi (by omega)
  have vj : aI xt H (z + 9) (Int32.ofNat j) = some (V j) := IR_get hr.1 hj (by omega)
  have cc := C158_do (xt := xt) (ct := ct) (O := O) (N := N) (H := H) (c := c) (a := V i) (b := V j)
  obtain ⟨v, hv⟩ : ∃ v, opV c (V i) (V j) = v := ⟨_, rfl⟩
  rw [hv] at cc ⊢
  have q1 : (-999 : Int32).toInt = -999 := rfl
  have q2 : (999 : Int32).toInt = 999 := rfl
  constructor
  · intro hin
    have l1 : mj_c2 .lt v (-999) = false := i_c2 (decide_eq_false (by rw [q1]; have := hin.1; omega))
    have l2 : mj_c2 .le v 999 = true := i_c2 (decide_eq_true (by rw [q2]; have := hin.2; omega))
    have hx := ix_lt hin
    have ea := ix_add hin
    have g4 : gA H (z + 8) 3 4 = some (z + 12) := gA_of ho rfl
    have gv : aL xt H (z + 12) (Int32.ofNat (ix v)) = some (Int64.ofNat (g (ix v))) := LR_get hr.2.2.2.1 hx (by omega)
    have gb := clt_bd hc hx
    have q0 : (0 : Int64).toInt = 0 := rfl
    -- the rest, from any heap of this kind
    have rest : ∀ (K : mj_H) (fd' : List Int32), cH z K n mo V T W fd' g → ∃ L, J157_94 xt ct O N (z + 8) c x3 x4 (Int32.ofNat i) (Int32.ofNat j) v K = some (.inl (z + 8, c, x3, x4, Int32.ofNat i, Int32.ofNat (j + 1), L)) ∧ cH z L n mo V T W fd' (fun q => if q = ix v then g q + wi * wj else g q) ∧ bfr z K L := by
      intro K fd' hK
      obtain ⟨ko, F', kr, kF⟩ := hK
      have g4 : gA K (z + 8) 3 4 = some (z + 12) := gA_of ko rfl
      have g1 : gA K (z + 8) 3 1 = some (z + 10) := gA_of ko rfl
      have gv : aL xt K (z + 12) (Int32.ofNat (ix v)) = some (Int64.ofNat (g (ix v))) := LR_get kr.2.2.2.1 hx (by omega)
      have wi' : aL xt K (z + 10) (Int32.ofNat i) = some (Int64.ofNat wi) := by rw [← ei]; exact LR_get kr.2.1 hi (by omega)
      have wj' : aL xt K (z + 10) (Int32.ofNat j) = some (Int64.ofNat wj) := by rw [← ej]; exact LR_get kr.2.1 hj (by omega)
      obtain ⟨L, b1, b2, b3⟩ := bR_G kr (i := ix v) (Int64.ofNat (g (ix v)) + Int64.ofNat wi * Int64.ofNat wj) hx
      refine ⟨L, ?_, ⟨bO_fr ko b3 (by omega), F', ?_, kF⟩, bfr_of b3 (by omega)⟩
      · rw [← i_inc (k := j) (by omega)]
        simp only [J157_94, g4, ea, gv, g1, wi', wj', b1, Option.bind_some]
      · obtain ⟨u1, u2, u3, u4, u5⟩ := b2
        refine ⟨u1, u2, u3, LR_ext u4 (fun p hp => ?_), u5⟩
        try dsimp only
        by_cases e : p = ix v
        · rw [if_pos e, if_pos e, l_mul, l_add, e]
        · rw [if_neg e, if_neg e]
    by_cases c0 : g (ix v) = 0
    · rw [if_pos c0]
      have n0 : mj_c1 .ne (lg_cmp (Int64.ofNat (g (ix v))) 0) = false := by
        rw [lc_ne, c0]
        rfl
      have hfl : fd.length < 1999 := by
        have k := hc.2.2.1 (ix v) hx
        rw [ix_at hin] at k
        have := fd_len (fd := fd ++ [v]) (List.nodup_append.mpr ⟨hc.1, List.nodup_cons.mpr ⟨List.not_mem_nil, List.nodup_nil⟩, fun a ha b hb e => by
          rw [List.mem_singleton.mp hb] at e
          exact (k.mpr (e ▸ ha)) c0⟩) (fun u hu => by
          rcases List.mem_append.mp hu with q | q
          · exact hc.2.1 u q
          · rw [List.mem_singleton.mp q]; exact hin)
        rw [List.length_append, List.length_singleton] at this
        omega
      have g5 : gA H (z + 8) 3 5 = some (z + 13) := gA_of ho rfl
      have g6 : gI H (z + 8) 3 6 = some (Int32.ofNat fd.length) := gI_of ho rfl
      obtain ⟨K1, b1, b2, b3⟩ := bR_F hr (i := fd.length) v hfl
      have o1 := bO_fr ho b3 (by omega)
      have g6' : gI K1 (z + 8) 3 6 = some (Int32.ofNat fd.length) := gI_of o1 rfl
      obtain ⟨K2, d1, d2, d3⟩ := bO_f o1 (fd.length + 1)
      have hK2 : cH z K2 n mo V T W (fd ++ [v]) g := by
        refine ⟨by rw [List.length_append, List.length_singleton]; exact d2, _, bR_fr b2 d3 (by omega), fun p u hp => ?_⟩
        by_cases e : p < fd.length
        · rw [List.getElem?_append_left e] at hp
          try dsimp only
          rw [if_neg (by omega)]
          exact hF p u hp
        · have hi := (List.getElem?_eq_some_iff.mp hp).1
          rw [List.length_append, List.length_singleton] at hi
          have ep : p = fd.length := by omega
          rw [ep, List.getElem?_concat_length] at hp
          cases hp
          exact if_pos ep
      obtain ⟨L, r1, r2, r3⟩ := rest K2 (fd ++ [v]) hK2
      refine ⟨L, ?_, r2, bfr_trans (bfr_of b3 (by omega)) (bfr_trans (bfr_of d3 (by omega)) r3)⟩
      have i1 : Int32.ofNat fd.length + 1 = Int32.ofNat (fd.length + 1) := i_inc (by omega)
      simp only [B157_12, hji, cond_false, g0, vi, vj, cc, l1, l2, cond_true, g4, ea, gv, n0, g5, g6, b1, g6', i1, d1, r1, Option.bind_some]
    · rw [if_neg c0]
      have n0 : mj_c1 .ne (lg_cmp (Int64.ofNat (g (ix v))) 0) = true := by
        rw [lc_ne, j_nat (by omega), q0]
        exact decide_eq_true (by omega)
      obtain ⟨L, r1, r2, r3⟩ := rest H fd ⟨ho, F, hr, hF⟩
      refine ⟨L, ?_, r2, r3⟩
      simp only [B157_12, hji, cond_false, g0, vi, vj, cc, l1, l2, cond_true, g4, ea, gv, n0, r1, Option.bind_some]
  · intro hin
    by_cases c1 : v.toInt < -999
    · have l1 : mj_c2 .lt v (-999) = true := i_c2 (decide_eq_true (by rw [q1]; exact c1))
      simp only [B157_12, hji, cond_false, g0, vi, vj, cc, l1, cond_true, J157_55, Option.bind_some, Option.map_some]
    · have l1 : mj_c2 .lt v (-999) = false := i_c2 (decide_eq_false (by rw [q1]; exact c1))
      have l2 : mj_c2 .le v 999 = false := i_c2 (decide_eq_false (by rw [q2]; exact fun w => hin ⟨by omega, w⟩))
      simp only [B157_12, hji, cond_false, g0, vi, vj, cc, l1, l2, J157_55, Option.bind_some, Option.map_some]
theorem c_geT {a b : Nat} (ha : a < 2147483648) (hb : b < 2147483648) (h : b ≤ a) : mj_c2 .ge (Int32.ofNat a) (Int32.ofNat b) = true := (c_ge ha hb).trans (decide_eq_true h)
theorem c_geF {a b : Nat} (ha : a < 2147483648) (hb : b < 2147483648) (h : a < b) : mj_c2 .ge (Int32.ofNat a) (Int32.ofNat b) = false := (c_ge ha hb).trans (decide_eq_false (by omega))
/-- a value of the first with all of the second -/
theorem C157_row {n : Nat} {mo c : Int32} {V T : Nat → Int32} {W : Nat → Int64} {i s2 : Nat} {x3 : Int32} {p : Int32 × Nat} (hi : i < 4598) (ei : V i = p.1 ∧ W i = Int64.ofNat p.2) (hp : 1 ≤ p.2) (h2 : s2 ≤ 4598) : ∀ (ms : Sp) (j : Nat) (H : mj_H) (fd : List Int32) (g : Nat → Nat) (Q : (Int32 → Nat) → Nat), j + ms.length = s2 → posS ms → vw (fun q => V (j + q)) (fun q => W (j + q)) ms → cH z H n mo V T W fd g → clt fd g Q → Q (fun _ => 1) + p.2 * tot ms ≤ 2147483648 → ((∀ q ∈ ms, inR (opV c p.1 q.1)) ∧ ∃ K fd' g', t_lp (B157_12 xt ct O N) (ms.length + 1) (z + 8, c, x3, Int32.ofNat s2, Int32.ofNat i, Int32.ofNat j, H) = some (.inl (z + 8, c, x3, Int32.ofNat s2, Int32.ofNat (i + 1), K)) ∧ cH z K n mo V T W fd' g' ∧ clt fd' g' (fun f => Q f + p.2 * sS ms (fun y => f (opV c p.1 y))) ∧ bfr z H K) ∨ ((∃ q ∈ ms, ¬ inR (opV c p.1 q.1)) ∧ ∃ K fd' g' Q', t_lp (B157_12 xt ct O N) (ms.length + 1) (z + 8, c, x3, Int32.ofNat s2, Int32.ofNat i, Int32.ofNat j, H) = some (.inr (0, K)) ∧ cH z K n mo V T W fd' g' ∧ clt fd' g' Q' ∧ Q' (fun _ => 1) ≤ Q (fun _ => 1) + p.2 * tot ms ∧ bfr z H K) := by
  intro ms
  induction ms with
  | nil =>
    intro j H fd g Q hj _ _ hH hc hb
    rw [List.length_nil] at hj
    have c1 := c_geT (a := j) (b := s2) (by omega) (by omega) (by omega)
    refine Or.inl ⟨fun q hq => (by cases hq), H, fd, g, t_end ?_ _, hH, hc, bfr_refl⟩
    rw [← i_inc (k := i) (by omega)]
    simp only [B157_12, c1, cond_true]
  | cons q ms ih =>
    intro j H fd g Q hj hpos hvw hH hc hb
    rw [List.length_cons] at hj
    rw [tot_cons, Nat.mul_add] at hb
    have c1 := c_geF (a := j) (b := s2) (by omega) (by omega) (by omega)
    have ej : V j = q.1 ∧ W j = Int64.ofNat q.2 := hvw 0 q rfl
    have hq := hpos q List.mem_cons_self
    have hw : 1 ≤ p.2 * q.2 := Nat.mul_pos hp hq
    obtain ⟨o1, o2⟩ := C157_one (xt := xt) (ct := ct) (O := O) (N := N) (c := c) (x3 := x3) (x4 := Int32.ofNat s2) (i := i) (j := j) (wi := p.2) (wj := q.2) hH hc hi (by omega) c1 ei.2 ej.2 hw (by omega)
    rw [ei.1, ej.1] at o1 o2
    by_cases hin : inR (opV c p.1 q.1)
    · obtain ⟨K, a1, a2, a3⟩ := o1 hin
      have hc' := clt_step hc (v := opV c p.1 q.1) hin hw
      have vw' : vw (fun r => V (j + 1 + r)) (fun r => W (j + 1 + r)) ms := fun r u hr => by
        have := hvw (r + 1) u (by rw [List.getElem?_cons_succ]; exact hr)
        dsimp only at this ⊢
        rw [show j + 1 + r = j + (r + 1) by omega]
        exact this
      rcases ih (j + 1) K _ _ _ (by omega) (fun u hu => hpos u (List.mem_cons_of_mem _ hu)) vw' a2 hc' (by dsimp only; omega) with ⟨b0, L, fd', g', b1, b2, b3, b4⟩ | ⟨⟨u, hu, b0⟩, L, fd', g', Q', b1, b2, b3, b4, b5⟩
      · refine Or.inl ⟨fun u hu => ?_, L, fd', g', by rw [List.length_cons, t_one a1]; exact b1, b2, ?_, bfr_trans a3 b4⟩
        · rcases List.mem_cons.mp hu with e | e
          · rw [e]; exact hin
          · exact b0 u e
        · have e : (fun f => Q f + p.2 * sS (q :: ms) (fun y => f (opV c p.1 y))) = fun f => Q f + p.2 * q.2 * f (opV c p.1 q.1) + p.2 * sS ms (fun y => f (opV c p.1 y)) := by
            funext f
            show Q f + p.2 * (q.2 * f (opV c p.1 q.1) + sS ms _) = _
            rw [Nat.mul_add, Nat.mul_assoc]
            omega
          rw [e]
          exact b3
      · refine Or.inr ⟨⟨u, List.mem_cons_of_mem _ hu, b0⟩, L, fd', g', Q', by rw [List.length_cons, t_one a1]; exact b1, b2, b3, ?_, bfr_trans a3 b5⟩
        rw [tot_cons, Nat.mul_add]
        dsimp only at b4
        omega
    · refine Or.inr ⟨⟨q, List.mem_cons_self, hin⟩, H, fd, g, Q, t_end (o2 hin) _, hH, hc, ?_, bfr_refl⟩
      omega
/-- collect -/
theorem C157_all (hN : 100000 ≤ N) {n : Nat} {mo c : Int32} {V T : Nat → Int32} {W : Nat → Int64} {s1 s2 : Nat} {m : Sp} (h1 : s1 + m.length = s2) (h2 : s2 ≤ 4598) (hm : posS m) (hvm : vw (fun q => V (s1 + q)) (fun q => W (s1 + q)) m) : ∀ (ls : Sp) (i : Nat) (H : mj_H) (fd : List Int32) (g : Nat → Nat) (Q : (Int32 → Nat) → Nat), i + ls.length = s1 → posS ls → vw (fun q => V (i + q)) (fun q => W (i + q)) ls → cH z H n mo V T W fd g → clt fd g Q → Q (fun _ => 1) + tot ls * tot m ≤ 2147483648 → ((∀ p ∈ ls, ∀ q ∈ m, inR (opV c p.1 q.1)) ∧ ∃ K fd' g', t_lp (B157_3 xt ct O N) (ls.length + 1) (z + 8, c, Int32.ofNat s1, Int32.ofNat s2, Int32.ofNat i, H) = some (1, K) ∧ cH z K n mo V T W fd' g' ∧ clt fd' g' (fun f => Q f + pW c ls m f) ∧ bfr z H K) ∨ ((∃ p ∈ ls, ∃ q ∈ m, ¬ inR (opV c p.1 q.1)) ∧ ∃ K fd' g' Q', t_lp (B157_3 xt ct O N) (ls.length + 1) (z + 8, c, Int32.ofNat s1, Int32.ofNat s2, Int32.ofNat i, H) = some (0, K) ∧ cH z K n mo V T W fd' g' ∧ clt fd' g' Q' ∧ Q' (fun _ => 1) ≤ Q (fun _ => 1) + tot ls * tot m ∧ bfr z H K) := by
  intro ls
  induction ls with
  | nil =>
    intro i H fd g Q hi _ _ hH hc hb
    rw [List.length_nil] at hi
    have c1 := c_geT (a := i) (b := s1) (by omega) (by omega) (by omega)
    exact Or.inl ⟨fun q hq => (by cases hq), H, fd, g, t_end (by simp only [B157_3, c1, cond_true]) _, hH, hc, bfr_refl⟩
  | cons p ls ih =>
    intro i H fd g Q hi hpos hvw hH hc hb
    rw [List.length_cons] at hi
    rw [tot_cons, Nat.add_mul] at hb
    have c1 := c_geF (a := i) (b := s1) (by omega) (by omega) (by omega)
    have ei : V i = p.1 ∧ W i = Int64.ofNat p.2 := hvw 0 p rfl
    rcases C157_row (xt := xt) (ct := ct) (O := O) (N := N) (c := c) (x3 := Int32.ofNat s1) (show i < 4598 by omega) ei (hpos p List.mem_cons_self) h2 m s1 H fd g Q h1 hm hvm hH hc (by omega) with ⟨a0, K, fd', g', a1, a2, a3, a4⟩ | ⟨⟨u, hu, a0⟩, K, fd', g', Q', a1, a2, a3, a4, a5⟩
    · have st : B157_3 xt ct O N (z + 8, c, Int32.ofNat s1, Int32.ofNat s2, Int32.ofNat i, H) = some (.inl (z + 8, c, Int32.ofNat s1, Int32.ofNat s2, Int32.ofNat (i + 1), K)) := by
        simp only [B157_3, c1, cond_false]
        exact t_lp_more _ _ _ (by omega) a1
      have vw' : vw (fun r => V (i + 1 + r)) (fun r => W (i + 1 + r)) ls := fun r u hr => by
        have := hvw (r + 1) u (by rw [List.getElem?_cons_succ]; exact hr)
        dsimp only at this ⊢
        rw [show i + 1 + r = i + (r + 1) by omega]
        exact this
      have tq : sS m (fun _ => 1) = tot m := rfl
      rcases ih (i + 1) K fd' g' _ (by omega) (fun u hu => hpos u (List.mem_cons_of_mem _ hu)) vw' a2 a3 (by dsimp only; rw [tq]; omega) with ⟨b0, L, fd2, g2, b1, b2, b3, b4⟩ | ⟨⟨u, hu, b0⟩, L, fd2, g2, Q', b1, b2, b3, b4, b5⟩
      · refine Or.inl ⟨fun u hu => ?_, L, fd2, g2, by rw [List.length_cons, t_one st]; exact b1, b2, ?_, bfr_trans a4 b4⟩
        · rcases List.mem_cons.mp hu with e | e
          · rw [e]; exact a0
          · exact b0 u e
        · have e : (fun f => Q f + pW c (p :: ls) m f) = fun f => Q f + p.2 * sS m (fun y => f (opV c p.1 y)) + pW c ls m f := by
            funext f
            show Q f + (p.2 * sS m _ + pW c ls m f) = _
            omega
          rw [e]
          exact b3
      · refine Or.inr ⟨⟨u, List.mem_cons_of_mem _ hu, b0⟩, L, fd2, g2, Q', by rw [List.length_cons, t_one st]; exact b1, b2, b3, ?_, bfr_trans a4 b5⟩
        rw [tot_cons, Nat.add_mul]
        dsimp only at b4
        rw [tq] at b4
        omega
    · have st : B157_3 xt ct O N (z + 8, c, Int32.ofNat s1, Int32.ofNat s2, Int32.ofNat i, H) = some (.inr (0, K)) := by
        simp only [B157_3, c1, cond_false]
        exact t_lp_more _ _ _ (by omega) a1
      refine Or.inr ⟨⟨p, List.mem_cons_self, u, hu, a0⟩, K, fd', g', Q', t_end st _, a2, a3, ?_, a5⟩
      rw [tot_cons, Nat.add_mul]
      omega
end CM2
