/-! THE PURE RUN OF THE WHOLE LAW -/
theorem whole_pure {b base n : Nat} {xs : Nat → Int32} {xt : mj_X} {ct : Nat → Value} (hn : n ≤ 2048) (hk : kX b n xs base xt ct) : ∃ (f : Nat) (h : mj_H), mj_x kY xt ct f 1000 300 0 [(0, .ref b)] [] (k_h0 base) = some (.inl (some (.int 1)), h) ∧ h.2.1 ≤ base + 601024 ∧ h.2.2 ≤ 7293034 := by
  obtain ⟨k1, k2, k3, k4, ⟨t2, y2, u1, u2, u3, u4⟩, t3, y3, w1, w2, w3, w4⟩ := hk
  obtain ⟨z, rfl⟩ : ∃ z, base = z + 1 := ⟨base - 1, by omega⟩
  have hC0 := kCr_ok
  cases hcr : kCr with
  | none => rw [hcr] at hC0; cases hC0
  | some q =>
    rw [hcr] at hC0
    dsimp only at hC0
    simp only [Bool.and_eq_true, decide_eq_true_eq] at hC0
    obtain ⟨c1, c2, c3, -⟩ := hC0
    have hm0 : me_h_f b (z + 1) (fun _ => 0) (fun _ => 0) h00 (k_h0 (z + 1)) := ⟨(fun a e h => by have h' : (none : Option mj_E) = some e := h; cases h'), Nat.le_refl _, (by show z + 1 = me_sg b (z + 1) 1; unfold me_sg; simp), rfl, fun _ _ => rfl, k1, (fun a ty xs h => by have h' : (none : Option mj_E) = some (.inl (ty, xs)) := h; cases h')⟩
    obtain ⟨g0, e1, e2⟩ := me_to_f (b := b) (B := z + 1) (ri := fun _ => 0) (rj := fun _ => 0) (sc := sc0) (sc' := ky_sc) (hd := ky_hd) (xt := xtn) (xt' := xt) (ct := ct0) (ct' := ct) (fun a e he => by cases he) (p1_sc k3) (fun k idx q hq => p1_df hq) _ _ _ _ _ _ _ _ _ hm0 hcr
    have fr : frs b z g0 := by
      have e : (kHp, 107, 47714) = q.2.2 := by
        unfold kHp
        rw [hcr]
        exact Prod.ext rfl c3.symm
      unfold frs
      rw [e]
      exact e2
    have hd : dgZ xt ct z := ⟨⟨t2, y2, u1, Nat.le_of_lt_succ u2, u3, u4⟩, t3, y3, w1, Nat.le_of_lt_succ w2, w3, w4⟩
    have hf : ∃ o, vtO (ct 1) = some o := by
      rcases k4 1 (by omega) (by omega) with e | ⟨t, e⟩
      · rw [e]; exact ⟨_, rfl⟩
      · rw [e]; exact ⟨_, rfl⟩
    obtain ⟨O, hO⟩ : ∃ O, TT xt ct 100000000000000000 100 = O := ⟨_, rfl⟩
    have ok : oOK xt ct 900 O := by
      rw [← hO]
      exact TT_ok k3 100
    obtain ⟨K, r1, r2, r3⟩ := lw_loop (B1 := z + 1 + 601024) (B2 := 7293034) (N := 100000000000000000) k3 hf hd (Nat.le_refl _) hO ok sep_0 raZ_0 (Nat.le_of_lt_succ k1) hn k2 512 0 (z + 107) 47714 g0 S00 (by omega) (Nat.zero_le _) (frs_inv fr) (md_0 fr) (fr.2.2.2.2.1 b k1) (by omega) (by decide)
    have hl : LF b (z + 1) (z + 63) (z + 106) (Int32.ofNat (4 * 0)) (me_l b (z + 1) (fun _ => 0) (fun _ => 0) kLoc) := ⟨rfl, rfl, rfl, rfl, rfl⟩
    have run := r1 _ hl
    have hrun : mj_Run kY xt ct 912 300 0 [(0, .ref b)] [] (k_h0 (z + 1)) (.inl (some (.int 1)), K) := by
      refine mr_toD (d := 20) (by decide) _ _ e1 ?_
      rw [c1, c2]
      exact run
    obtain ⟨f, hf⟩ := mj_Run_deep (d' := 1000) (by decide) hrun
    exact ⟨f, K, hf, by omega, r3⟩
/-! THE CLAIM OUT OF THE PURE RUN (skeleton of the kit, turned) -/
def lw_P (b : Addr) (xs : List Int32) (args : Array Value) (s : State) : Prop := args = #[.ref b] ∧ s.IntsAt b xs ∧ xs.length ≤ 2048 ∧ (Jvm.Cond.and given_1 narrow_1).before args s = true
def lw_Q (_ : Array Value) (s : State) (o : Outcome) (t : State) : Prop := o = .returned (some (.int 1)) ∧ Framed s o t [] 601024 7293034
set_option maxHeartbeats 4000000 in
theorem lw_walk (l : Launch) (hfl : l.flags = pinnedFlags ++ [noTraceFlag]) (b : Addr) (xs : List Int32) : MetFree l x (headSpec (Jvm.Cond.code x code maxLocals ret :: tables_1) room_1) (lw_P b xs) (fun _ _ _ _ _ => True) lw_Q := by
  refine MetFree.of_bodyS (code := code) (maxLocals := maxLocals) (ret := ret) (by decide) ?_ ?_
  · intro args s m h hn
    obtain ⟨meth, c, h1, h2, h3, h4, h5, h6, -, -⟩ := Cond.code_spec hn (atoms_spec (ws := Jvm.Cond.code x code maxLocals ret :: tables_1) h _ List.mem_cons_self)
    exact ⟨meth, c, h1, h2, h3, h4, h5, h6⟩
  · intro p e s m args below meth c s₁ B hml0 hP _
    obtain ⟨rfl, hx, hbd, hgv⟩ := hP
    obtain ⟨scr, harrAt, hlist, hof, hsmall⟩ := hx
    obtain ⟨hcb, hkn, -, -⟩ := State.arrayAt?_spec harrAt
    have hts0 : ∀ c ∈ (Jvm.Cond.code x code maxLocals ret :: tables_1), c.before #[Value.ref b] s = true := atoms_spec (ws := Jvm.Cond.code x code maxLocals ret :: tables_1) B.pre
    have hts : ∀ w ∈ lw_tbl, w.before #[Value.ref b] s = true := k2_hts_sels lw_privs (fun w hw => hts0 w (List.mem_cons_of_mem _ hw)) lw_privs_ok
    have X₀ : Stand p l e room_1 s m #[Value.ref b] below meth c s₁ [] 0 0 := Stand.of_body B
    have hh0 : s₁.heap = s.heap := by rw [B.state]; rfl
    have hsz : scr.slots.size = xs.length := by rw [← Array.length_toList, hlist, List.length_map]
    have hval : ∀ j : Nat, j < xs.length → scr.slots[j]? = some (.int (xs.getD j 0)) := fun j hj => by
      rw [← Array.getElem?_toList, hlist]
      simp [hj]
    have hX : va_X b xs.length (fun j => xs.getD j 0) s s.heap := ⟨scr, hcb, hof, hkn, hsz, hval⟩
    obtain ⟨mk, methk, ck, hCal⟩ := mj_cal_of (y := x) (bytes := code) (maxL := maxLocals) (ret := ret) (hh := []) (args := #[Value.ref b]) (hts0 _ List.mem_cons_self)
    cases B.named.symm.trans hCal.1
    cases B.method.symm.trans hCal.2.1
    cases X₀.code.symm.trans hCal.2.2.1
    have K : W p l e room_1 s m #[Value.ref b] below meth c s₁.heap [] 0 0 (k_Z below s) (entryFrame m ([Value.ref b] : List Value).toArray 8) := by
      rw [hh0]
      exact k_start l hfl B.exec hCal (hts0 _ List.mem_cons_self) hts hX hgv (fun xt ct hk => whole_pure hbd hk)
    obtain ⟨t, a1, o, b1, b2, b3⟩ := K s₁ rfl X₀
    exact ⟨t, o, a1, b1, b2, b3⟩
theorem lw_pre_spec {args : Array Value} {s : State} (h : (Jvm.Cond.and given_1 narrow_1).before args s = true) (hr : rest_1_c.before args s = true) : ∃ (b : Addr) (xs : List Int32), lw_P b xs args s := by
  have hs := flat_of_before _ h
  have hq := flat_of_before _ hr
  have hc : (Cond.count 1).before args s = true := hs _ (by decide +kernel)
  have harr : (Cond.arrayOf (.arg 0) .int).before args s = true := hs _ (by decide +kernel)
  have hle : (Cond.le (.length (.arg 0)) (.int 2048)).before args s = true := hs _ (by decide +kernel)
  have hlen : (Cond.isInt (.length (.arg 0))).before args s = true := hq _ (by decide +kernel)
  have hall : (Cond.all (.arg 0) (.isInt (.elem (.arg 0) (.index 0)))).before args s = true := hq _ (by decide +kernel)
  obtain ⟨b, xs, hb, hx⟩ := State.ints_of_pre rfl harr hlen hall
  have hsm : xs.length < 2 ^ 31 := hx.choose_spec.2.2.2
  have hev : (Term.length (.arg 0)).eval args s none [] s = some (.int xs.length.toInt32) := hx.length_eval hb
  have hv := Cond.le_ints hev (show (Term.int 2048).eval args s none [] s = some (.int 2048) from rfl)
  have hd : xs.length.toInt32 ≤ 2048 := by
    simpa [Cond.before, Cond.holds, hv] using hle
  have hN : xs.length ≤ 2048 := (Int32.ofNat_le_ofNat hsm (by decide)).mp (show Int32.ofNat xs.length ≤ Int32.ofNat 2048 from hd)
  exact ⟨b, xs, Cond.one_arg hc (show args[0]? = some (.ref b) from hb), hx, hN, h⟩
theorem lw_comes (l : Launch) (hfl : l.flags = pinnedFlags ++ [noTraceFlag]) : Comes l x (Jvm.Cond.code x code maxLocals ret :: tables_1) room_1 (fun tb e args s => Calls_1 tb e args s ∧ rest_1 tb e args s ∧ Pre_1 tb e args s)
    (fun _ _ args s o t => lw_Q args s o t) := by
  intro p e ha hc hk s m args below hf hfit hheap happ hpre
  obtain ⟨b, xs, hP⟩ := lw_pre_spec hpre.2.2 hpre.2.1
  obtain ⟨k, o, h1, h2, h3, hQ⟩ := lw_walk l hfl b xs p e ha hc hk s m args below hf ((Spec.applies_iff_loose hf).mp happ).1 hP trivial
  exact ⟨k, o, h1, h2, h3, hQ⟩
theorem lw_frame {s t : State} {o : Outcome} {args : Array Value} (h : Framed s o t [] 601024 7293034) :
    Framed s o t (fieldLocs frame_1_writes args s ++ arrayLocs frame_1_arrays args s ++ staticLocs frame_1_statics s) 601024 7293034 := h
theorem lw_limb (L : Cond) (hL : ∀ (args : Array Value) (s t : State), L.after args s (.returned (some (.int 1))) t = true) :
    ArmFor flags0 classFile x code maxLocals ret World_1 tables_1 room_1 Calls_1 rest_1 Pre_1
      (fun tb e a s o t => postC L tb e a s o t ∧ Framed s o t (fieldLocs frame_1_writes a s ++ arrayLocs frame_1_arrays a s ++ staticLocs frame_1_statics s) 601024 7293034) := by
  intro l hfl _ _ p e ha hc hk s m args below hf hfit hheap happ hpre
  obtain ⟨k, o, h1, h2, h3, rfl, hF⟩ := lw_comes l hfl p e ha hc hk s m args below hf hfit hheap happ hpre
  exact ⟨k, _, h1, h2, h3, hL args s _, lw_frame hF⟩
theorem i_vc : Claimed_1_1 ∧ Claimed_1_2 := ⟨lw_limb limb_1_1 (fun args s t => by simp [limb_1_1, Cond.after, Cond.holds, Cond.value]), lw_limb limb_1_2 (fun args s t => Cond.after_iff.mpr (by
  first | (rw [show limb_1_2 = Cond.eq .result (.int 1) from rfl, Cond.eq_ints (x := 1) (y := 1) rfl rfl]; simp; done) | (simp [limb_1_2, Cond.value, Term.eval]; done)))⟩
