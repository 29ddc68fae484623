section CM3
variable {xt : mj_X} {ct : Nat → Value} {O : OR} {N z : Nat}
theorem vw_put {V : Nat → Int32} {W : Nat → Int64} {l : Sp} {r : List Sp} {v : Int32} {w : Nat} (h : vw V W (fl (l :: r))) : vw (fun p => if p = szS (l :: r) then v else V p) (fun p => if p = szS (l :: r) then Int64.ofNat w else W p) (fl ((l ++ [(v, w)]) :: r)) := by
  intro i p hp
  have e : fl ((l ++ [(v, w)]) :: r) = fl (l :: r) ++ [(v, w)] := (List.append_assoc _ _ _).symm
  rw [e] at hp
  try dsimp only
  rw [← fl_len]
  by_cases c : i < (fl (l :: r)).length
  · rw [List.getElem?_append_left c] at hp
    rw [if_neg (by omega), if_neg (by omega)]
    exact h i p hp
  · have hi := (List.getElem?_eq_some_iff.mp hp).1
    rw [List.length_append, List.length_singleton] at hi
    have ei : i = (fl (l :: r)).length := by omega
    rw [ei, List.getElem?_concat_length] at hp
    cases hp
    rw [if_pos ei, if_pos ei]
    exact ⟨rfl, rfl⟩
/-- what was found is put on the bench -/
theorem L156_do {b mo : Int32} (hb : b = 0 ∨ b = 1) {r : List Sp} (hn : r.length < 40) {fd : List Int32} {F : Nat → Int32} (hF : ∀ (i : Nat) (v : Int32), fd[i]? = some v → F i = v) (hfd : fd.length ≤ 1999) {g : Nat → Nat} : ∀ (ds : List Int32) (i : Nat) (K : mj_H) (top : Sp) (V T : Nat → Int32) (W Gf : Nat → Int64), i + ds.length = fd.length → fd.drop i = ds → ds.Nodup → (∀ v ∈ ds, inR v) → bO z K (r.length + 1) fd.length mo → bR z K V T F W Gf → stk T (top :: r) → vw V W (fl (top :: r)) → szS (top :: r) + ds.length ≤ 4598 → (∀ v ∈ ds, Gf (ix v) = Int64.ofNat (g (ix v))) → (∀ q, q < 1999 → (∀ v ∈ ds, ix v ≠ q) → Gf q = 0) → ∃ K', t_lp (B156_79 xt ct O N) (ds.length + 1) (z + 8, b, Int32.ofNat i, K) = some (b, K') ∧ bst z K' ((top ++ fdS ds g) :: r) mo ∧ bfr z K K' := by
  intro ds
  induction ds with
  | nil =>
    intro i K top V T W Gf hi hd _ _ ho hr hs hv _ _ hz
    rw [List.length_nil] at hi
    have g6 : gI K (z + 8) 3 6 = some (Int32.ofNat fd.length) := gI_of ho rfl
    have c := c_geT (a := i) (b := fd.length) (by omega) (by omega) (by omega)
    obtain ⟨K1, a1, a2, a3⟩ := bO_f ho 0
    have a1' : uF K (z + 8) 3 6 (.int 0) = some K1 := a1
    have nb : narrow .boolean (.int b) = .int b := by rcases hb with e | e <;> rw [e] <;> decide
    refine ⟨K1, t_end (by simp only [B156_79, g6, c, cond_true, a1', if_pos nb, Option.bind_some]) _, ⟨a2, V, T, F, W, ?_, ?_, ?_⟩, bfr_of a3 (by omega)⟩
    · obtain ⟨u1, u2, u3, u4, u5⟩ := bR_fr hr a3 (by omega)
      exact ⟨u1, u2, u3, LR_ext u4 (fun p hp => hz p hp (fun v hv => (by cases hv))), u5⟩
    · show stk T ((top ++ []) :: r)
      rw [List.append_nil]
      exact hs
    · show vw V W (fl ((top ++ []) :: r))
      rw [List.append_nil]
      exact hv
  | cons v ds ih =>
    intro i K top V T W Gf hi hd hnd hin ho hr hs hv hsz hg hz
    rw [List.length_cons] at hi hsz
    have hv0 := hin v List.mem_cons_self
    have hx := ix_lt hv0
    have ea := ix_add hv0
    have g6 : gI K (z + 8) 3 6 = some (Int32.ofNat fd.length) := gI_of ho rfl
    have g5 : gA K (z + 8) 3 5 = some (z + 13) := gA_of ho rfl
    have g4 : gA K (z + 8) 3 4 = some (z + 12) := gA_of ho rfl
    have c := c_geF (a := i) (b := fd.length) (by omega) (by omega) (by omega)
    have fi : fd[i]? = some v := by
      have := congrArg (fun l : List Int32 => l[0]?) hd
      try dsimp only at this
      rw [List.getElem?_drop] at this
      exact this
    have av : aI xt K (z + 13) (Int32.ofNat i) = some v := by rw [← hF i v fi]; exact IR_get hr.2.2.2.2 (by omega) (by omega)
    have gv : aL xt K (z + 12) (Int32.ofNat (ix v)) = some (Int64.ofNat (g (ix v))) := by rw [← hg v List.mem_cons_self]; exact LR_get hr.2.2.2.1 hx (by omega)
    obtain ⟨K1, a1, a2, a3, a4⟩ := C150_do (xt := xt) (ct := ct) (O := O) (N := N) (v := v) (w := Int64.ofNat (g (ix v))) ho hr (by omega) (stk_top hs) (by omega)
    have g4' : gA K1 (z + 8) 3 4 = some (z + 12) := gA_of a2 rfl
    obtain ⟨K2, b1, b2, b3⟩ := bR_G a3 (i := ix v) 0 hx
    have sz : szS ((top ++ [(v, g (ix v))]) :: r) = szS (top :: r) + 1 := by
      show (top ++ [(v, g (ix v))]).length + _ = top.length + _ + 1
      rw [List.length_append, List.length_singleton]
      omega
    have hnd' := List.nodup_cons.mp hnd
    obtain ⟨K3, e1, e2, e3⟩ := ih (i + 1) K2 (top ++ [(v, g (ix v))]) _ _ _ _ (by omega) (by
      have : (fd.drop i).drop 1 = ds := by rw [hd]; rfl
      rw [List.drop_drop] at this
      exact this) hnd'.2 (fun u hu => hin u (List.mem_cons_of_mem _ hu)) (bO_fr a2 b3 (by omega)) b2 ⟨by
        show (if r.length + 1 = (top :: r).length then _ else _) = _
        rw [List.length_cons, if_pos rfl, sz], stk_ext r hs.2 (fun p hp => if_neg (by omega))⟩ (vw_put hv) (by omega) (fun u hu => by
        try dsimp only
        rw [if_neg (fun q => hnd'.1 (ix_inj (hin u (List.mem_cons_of_mem _ hu)) hv0 q ▸ hu))]
        exact hg u (List.mem_cons_of_mem _ hu)) (fun q hq hne => by
        try dsimp only
        by_cases e : q = ix v
        · rw [if_pos e]
        · rw [if_neg e]
          exact hz q hq (fun u hu => (List.mem_cons.mp hu).elim (fun w => by rw [w]; exact fun x => e x.symm) (fun w => hne u w)))
    refine ⟨K3, ?_, ?_, bfr_trans a4 (bfr_trans (bfr_of b3 (by omega)) e3)⟩
    · have k : gK K (z + 8) 3 = some () := gK_of ho
      have st : B156_79 xt ct O N (z + 8, b, Int32.ofNat i, K) = some (.inl (z + 8, b, Int32.ofNat (i + 1), K2)) := by
        rw [← i_inc (k := i) (by omega)]
        simp only [B156_79, g6, c, cond_false, g5, av, g4, ea, gv, k, a1, g4', b1, Option.bind_some]
      rw [List.length_cons, t_one st]
      exact e1
    · have e : top ++ fdS (v :: ds) g = top ++ [(v, g (ix v))] ++ fdS ds g := by rw [List.append_assoc]; rfl
      rw [e]
      exact e2
/-- combine -/
theorem bst_cmb (hN : 100000 ≤ N) {H : mj_H} {mo c : Int32} {l m : Sp} {r : List Sp} (h : bst z H (m :: l :: r) mo) (hg : gdA (m :: l :: r)) (hp : ppS (m :: l :: r) ≤ 2147483648) (hn : r.length + 2 ≤ 40) : ∃ K L b, C156 xt ct O N (z + 8) c H = some (b, K) ∧ bst z K (L :: r) mo ∧ bfr z H K ∧ (badW c l m = 0 → b = 1 ∧ gdS L (tot l * tot m) ∧ ∀ f, sS L f = pW c l m f) ∧ (badW c l m ≠ 0 → b = 0 ∧ szS (L :: r) ≤ 4598) := by
  have room := room_ok hg hp hn
  obtain ⟨ho, V, T, F, W, hr, hs, hv⟩ := h
  have ho' : bO z H (r.length + 2) 0 mo := ho
  obtain ⟨gm, tm⟩ := hg m List.mem_cons_self
  obtain ⟨gl, tl⟩ := hg l (List.mem_cons_of_mem _ List.mem_cons_self)
  have gr : gdA r := fun q hq => hg q (List.mem_cons_of_mem _ (List.mem_cons_of_mem _ hq))
  have z1 : szS (m :: l :: r) = m.length + (l.length + szS r) := rfl
  have hp' : tot m * (tot l * ppS r) ≤ 2147483648 := hp
  have pr1 := ppS_pos r (fun q hq => (gr q hq).2)
  have tb : tot l * tot m ≤ 2147483648 := by
    have x1 : tot m * tot l ≤ tot m * (tot l * ppS r) := Nat.mul_le_mul_left _ (Nat.le_mul_of_pos_right _ pr1)
    rw [Nat.mul_comm (tot l)]
    omega
  have hv' : ∀ (i : Nat) (p : Int32 × Nat), (fl r ++ l ++ m)[i]? = some p → V i = p.1 ∧ W i = Int64.ofNat p.2 := hv
  have lr := fl_len r
  have vm : vw (fun q => V (l.length + szS r + q)) (fun q => W (l.length + szS r + q)) m := fun i p hi => hv' _ p (by
    rw [List.getElem?_append_right (by rw [List.length_append]; omega), List.length_append, show l.length + szS r + i - ((fl r).length + l.length) = i by omega]
    exact hi)
  have vl : vw (fun q => V (szS r + q)) (fun q => W (szS r + q)) l := fun i p hi => hv' _ p (by
    have := (List.getElem?_eq_some_iff.mp hi).1
    rw [List.getElem?_append_left (by rw [List.length_append]; omega), List.getElem?_append_right (by omega), show szS r + i - (fl r).length = i by omega]
    exact hi)
  have c0 : cH z H (r.length + 2) mo V T W [] (fun _ => 0) := ⟨ho', F, hr, fun i v hi => (by cases hi)⟩
  have g3 : gI H (z + 8) 3 3 = some (Int32.ofNat (r.length + 2)) := gI_of ho' rfl
  have g2 : gA H (z + 8) 3 2 = some (z + 11) := gA_of ho' rfl
  have cge : mj_c2 .ge (Int32.ofNat (r.length + 2)) 2 = true := c_geT (b := 2) (by omega) (by omega) (by omega)
  have e2 : Int32.ofNat (r.length + 2) - 2 = Int32.ofNat r.length := n_sub (b := 2) (by omega) (by omega)
  have e1 : Int32.ofNat (r.length + 2) - 1 = Int32.ofNat (r.length + 1) := n_sub (b := 1) (by omega) (by omega)
  have t0 : aI xt H (z + 11) (Int32.ofNat r.length) = some (Int32.ofNat (szS r)) := by rw [← stk_top hs.2.2]; exact IR_get hr.2.2.1 (by omega) (by omega)
  have t1 : aI xt H (z + 11) (Int32.ofNat (r.length + 1)) = some (Int32.ofNat (l.length + szS r)) := by
    have := hs.2.1
    rw [show Int32.ofNat (l.length + szS r) = T (r.length + 1) from this.symm]
    exact IR_get hr.2.2.1 (by omega) (by omega)
  have t2 : aI xt H (z + 11) (Int32.ofNat (r.length + 2)) = some (Int32.ofNat (m.length + (l.length + szS r))) := by
    have := hs.1
    rw [show Int32.ofNat (m.length + (l.length + szS r)) = T (r.length + 2) from this.symm]
    exact IR_get hr.2.2.1 (by omega) (by omega)
  have k0 : gK H (z + 8) 3 = some () := gK_of ho'
  -- what comes behind
  have rest : ∀ (b : Int32) (K : mj_H) (fd : List Int32) (g : Nat → Nat) (Q : (Int32 → Nat) → Nat), (b = 0 ∨ b = 1) → C157 xt ct O N (z + 8) c (Int32.ofNat (szS r)) (Int32.ofNat (l.length + szS r)) (Int32.ofNat (m.length + (l.length + szS r))) H = some (b, K) → cH z K (r.length + 2) mo V T W fd g → clt fd g Q → szS (fdS fd g :: r) ≤ 4598 → bfr z H K → ∃ L, C156 xt ct O N (z + 8) c H = some (b, L) ∧ bst z L (fdS fd g :: r) mo ∧ bfr z H L := by
    intro b K fd g Q hb hC hK hQ hroom hf
    obtain ⟨ko, F', kr, kF⟩ := hK
    have g3' : gI K (z + 8) 3 3 = some (Int32.ofNat (r.length + 2)) := gI_of ko rfl
    obtain ⟨K1, a1, a2, a3⟩ := bO_n ko (r.length + 1)
    have r1 := bR_fr kr a3 (by omega)
    have g2' : gA K1 (z + 8) 3 2 = some (z + 11) := gA_of a2 rfl
    have g3'' : gI K1 (z + 8) 3 3 = some (Int32.ofNat (r.length + 1)) := gI_of a2 rfl
    have e1' : Int32.ofNat (r.length + 1) - 1 = Int32.ofNat r.length := n_sub (b := 1) (by omega) (by omega)
    have t0' : aI xt K1 (z + 11) (Int32.ofNat r.length) = some (Int32.ofNat (szS r)) := by rw [← stk_top hs.2.2]; exact IR_get r1.2.2.1 (by omega) (by omega)
    obtain ⟨K2, b1, b2, b3⟩ := bR_T r1 (i := r.length + 1) (Int32.ofNat (szS r)) (by omega)
    have fl3 := fd_len hQ.1 hQ.2.1
    have fz : (fdS fd g).length = fd.length := by unfold fdS; rw [List.length_map]
    have hroom' : (fdS fd g).length + szS r ≤ 4598 := hroom
    have z2 : szS ([] :: r) = szS r := by show 0 + szS r = _; omega
    obtain ⟨K3, d1, d2, d3⟩ := L156_do (xt := xt) (ct := ct) (O := O) (N := N) hb (show r.length < 40 by omega) kF fl3 fd 0 K2 [] V _ W _ (by omega) rfl hQ.1 hQ.2.1 (bO_fr a2 b3 (by omega)) b2 ⟨by
        show (if _ then _ else _) = _
        rw [if_pos rfl, z2], stk_ext r hs.2.2 (fun p hp => if_neg (by omega))⟩ (fun i p hi => by
        have hi' : (fl r ++ [])[i]? = some p := hi
        rw [List.append_nil] at hi'
        refine hv' i p ?_
        have := (List.getElem?_eq_some_iff.mp hi').1
        rw [List.append_assoc, List.getElem?_append_left this]
        exact hi') (by rw [z2]; omega) (fun v hv => rfl) (fun q hq hne => by
        have := (hQ.2.2.1 q hq)
        by_cases e : g q = 0
        · rw [e]; rfl
        · have hm := this.mp e
          exact absurd (show ix (vAt q) = q by unfold ix; rw [vAt_i hq]; omega) (hne _ hm))
    refine ⟨K3, ?_, d2, bfr_trans hf (bfr_trans (bfr_of a3 (by omega)) (bfr_trans (bfr_of b3 (by omega)) d3))⟩
    simp only [C156, g3, cge, cond_true, g2, e2, t0, e1, t1, t2, k0, hC, g3', a1, g2', g3'', e1', t0', b1, L156_79, Option.bind_some]
    exact t_lp_more _ _ _ (by omega) d1
  rcases C157_all (xt := xt) (ct := ct) (O := O) (N := N) (c := c) hN (s1 := l.length + szS r) (s2 := m.length + (l.length + szS r)) (by omega) (by omega) gm.1 vm l (szS r) H [] (fun _ => 0) (fun _ => 0) (by omega) gl.1 vl c0 clt_nil (by omega) with ⟨b0, K, fd, g, b1, b2, b3, b4⟩ | ⟨⟨p, hp1, q, hq1, b0⟩, K, fd, g, Q, b1, b2, b3, b4, b5⟩
  · have bz := badW_ok b0
    have e0 : (fun f => 0 + pW c l m f) = fun f => pW c l m f := by funext f; rw [Nat.zero_add]
    rw [e0] at b3
    have gd := clt_pos b3
    rw [pW_tot] at gd
    have rm : szS (fdS fd g :: r) ≤ 4572 := by
      refine room_ok (fun q hq => ?_) ?_ (by rw [List.length_cons]; omega)
      · rcases List.mem_cons.mp hq with e | e
        · rw [e]
          have := gd.2.2.2
          refine ⟨by rw [this]; exact gd, ?_⟩
          rw [this]
          exact Nat.mul_pos tl tm
        · exact gr q e
      · show tot (fdS fd g) * ppS r ≤ _
        rw [gd.2.2.2, Nat.mul_comm (tot l), Nat.mul_assoc]
        exact hp'
    obtain ⟨L, d1, d2, d3⟩ := rest 1 K fd g _ (Or.inr rfl) (t_lp_more _ _ _ (by omega) b1) b2 b3 (by omega) b4
    exact ⟨L, _, 1, d1, d2, d3, fun _ => ⟨rfl, gd, b3.2.2.2⟩, fun q => absurd bz q⟩
  · have bz := badW_ne gl.1 gm.1 hp1 hq1 b0
    have gd := clt_pos b3
    have rm : szS (fdS fd g :: r) ≤ 4598 := by
      by_cases e : Q (fun _ => 1) = 0
      · have lf := gdS_f gd
        show (fdS fd g).length + szS r ≤ _
        omega
      · have t := gd.2.2.2
        refine Nat.le_trans (room_ok (fun q hq => ?_) ?_ (by rw [List.length_cons]; omega)) (by decide)
        · rcases List.mem_cons.mp hq with e' | e'
          · rw [e', t]
            exact ⟨gd, by omega⟩
          · exact gr q e'
        · show tot (fdS fd g) * ppS r ≤ _
          rw [t]
          refine Nat.le_trans (Nat.mul_le_mul_right _ (show Q (fun _ => 1) ≤ tot m * tot l from ?_)) ?_
          · rw [Nat.mul_comm (tot m)]
            omega
          · rw [Nat.mul_assoc]
            exact hp'
    obtain ⟨L, d1, d2, d3⟩ := rest 0 K fd g _ (Or.inl rfl) (t_lp_more _ _ _ (by omega) b1) b2 b3 rm b5
    exact ⟨L, _, 0, d1, d2, d3, fun q => absurd q bz, fun _ => ⟨rfl, rm⟩⟩
end CM3
