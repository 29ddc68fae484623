section MJZ
variable {p : Program} {l : Launch} {e : Env} {R : Room} {s : State} {m : MethodId} {args : Array Value} {below : List Frame} {meth : Method} {c : Code} {H : Heap} {locs : List Loc} {cells slots : Nat} {Q : State → Prop}
variable {Y : mj_Y} {M : Nat → Option mj_I} {TB : List Cond} {cl : List vw_C} {tys : List FieldType} {D : va_G} {dA : FieldType → ClassId} {xt : mj_X} {ct : Nat → Value} {base : Nat} {HB : Heap}
variable {k pc : Nat} {I : mj_I} {lv : mj_L} {st : List Value} {h : mj_H} {ls : Array Slot}
theorem mj_split {n a : Nat} {tl : List Value} (h : st.drop n = .ref a :: tl) : (st.take (n + 1)).reverse = .ref a :: (st.take n).reverse ∧ st.drop (n + 1) = tl ∧ st = (st.take n).reverse.reverse ++ .ref a :: tl ∧ (st.take n).reverse.length = n := by
  have hlt : n < st.length := by
    apply Nat.lt_of_not_le
    intro hle
    rw [List.drop_eq_nil_of_le hle] at h
    cases h
  have h1 : st[n]? = some (.ref a) := by
    have : (st.drop n)[0]? = some (.ref a) := by rw [h]; rfl
    simpa using this
  have h2 : st.drop (n + 1) = tl := by
    have : (st.drop n).drop 1 = tl := by rw [h]; rfl
    simpa [List.drop_drop] using this
  refine ⟨?_, h2, ?_, by simp; omega⟩
  · rw [List.take_add_one, h1]
    simp
  · rw [List.reverse_reverse, ← h, List.take_append_drop]
theorem mj_np_len {d : String} {n : Nat} {As : List Value} (h : mj_np d = some n) (hA : As.length = n) : ∀ sig, parseMethodDescriptor d = some sig → As.length = sig.parameters.length := by
  intro sig hs
  unfold mj_np at h
  rw [hs] at h
  rw [hA]
  exact (Option.some.inj h).symm
set_option maxHeartbeats 4000000 in
/-- A CALL of the small machine is one of the great one -/
theorem mj_calls (hO : mj_Ok Y M TB cl tys) (hI : M k = some I) (hx : p.tables.exec = Jvm.exec) (hc : mj_Cal I.1 I.2.1 I.2.2.1 I.2.2.2.1 I.2.2.2.2 s m meth c) (hE : mj_Env TB cl tys D dA xt base HB s) (hR : mj_Rel D cl dA tys base HB h H)
    {q : Nat × List Value × Nat × mj_L × List Value} (hs : mj_s Y xt ct k pc lv st h = some (.inr (.inl q))) :
    ∃ (I2 : mj_I) (mk : MethodId) (methk : Method) (ck : Code) (ig : Instr), M q.1 = some I2 ∧ mj_Cal I2.1 I2.2.1 I2.2.2.1 I2.2.2.2.1 I2.2.2.2.2 s mk methk ck ∧ q.2.2.1 = pc + 3 ∧ q.2.2.2.1 = lv ∧ decode c.code pc = .ok (ig, 3) ∧ mj_wt q.2.2.2.2 + I2.2.2.1 + 11 ≤ 64 ∧ (lg_sl q.2.1).length ≤ I2.2.2.1 ∧
      mj_Inv p l e R s m args below meth c H locs cells slots (F0 m pc ls st) q.2.2.2.2 mk q.2.1.toArray := by
  have hb := hc.2.2.2.1
  have hM := hO.2.1 k I hI
  unfold mj_s at hs
  split at hs
  · cases hs
  rename_i i hi
  obtain ⟨len, hd, hlen⟩ := hM.1 pc i hi
  have hln : ∀ j : Instr, i = j → (∀ a b c d, j ≠ .tableswitch a b c d) → (∀ a b, j ≠ .lookupswitch a b) → len = mj_len j := by
    intro j hj n1 n2
    subst hj
    rcases hlen with h1 | ⟨a, b, c, d, h1⟩ | ⟨a, b, h1⟩
    · exact h1
    · exact absurd h1 (n1 a b c d)
    · exact absurd h1 (n2 a b)
  have hcalq : ∀ (k2 n : Nat), mj_cal Y k2 n pc lv st = some (.inr (.inl q)) → n ≤ st.length ∧ mj_wt (st.drop n) + Y.nL k2 + 11 ≤ 64 ∧ (lg_sl (st.take n).reverse).length ≤ Y.nL k2 ∧ q = (k2, (st.take n).reverse, pc + 3, lv, st.drop n) := by
    intro k2 n h1
    unfold mj_cal at h1
    split at h1
    · rename_i hok
      simp only [Option.some.injEq, Sum.inr.injEq, Sum.inl.injEq] at h1
      exact ⟨hok.1, hok.2.1, hok.2.2, h1.symm⟩
    · cases h1
  split at hs
  case h_20 =>
    have e1 := hln _ rfl (fun _ _ _ _ q => by cases q) (fun _ _ q => by cases q)
    subst e1
    rename_i idx
    split at hs
    · exfalso; unfold mj_acp at hs; repeat' (split at hs)
      all_goals first | (cases hs; done) | (simp [mj_go] at hs; done)
    · cases hs
    · rename_i hpr
      split at hs
      · rename_i q0 hq
        obtain ⟨h1, h2, h3, rfl⟩ := hcalq _ _ hs
        obtain ⟨I2, g1, g2, g3, g4⟩ := hO.2.2.2.2.2.2.2.2.2.1 k I idx q0 hI hq
        have hM2 := hO.2.1 _ I2 g1
        obtain ⟨mk, methk, ck, hcal⟩ := mj_cal_of (hE.1 _ hM2.2.2.2.2.1 args)
        refine ⟨I2, mk, methk, ck, _, g1, hcal, rfl, rfl, by rw [hb]; exact hd, by rw [← hM2.2.1]; exact h2, by rw [← hM2.2.1]; exact h3, ?_⟩
        have hstk : st = (st.take q0.2).reverse.reverse ++ st.drop q0.2 := by rw [List.reverse_reverse, List.take_append_drop]
        have hln2 := mj_np_len (As := (st.take q0.2).reverse) g4 (by simp; omega)
        rcases g2 with g2 | ⟨host, g2⟩
        · exact mj_invS hx (mj_own hc) (hE.1 _ g2 _) (hE.1 _ g3 _) (hE.1 _ hM2.2.2.2.2.2.2.2 _) hcal hM2.2.2.2.2.2.2.1 rfl hln2 hstk (by rw [hb]; exact hd)
        · exact mj_invSN hx (mj_own hc) (hE.1 _ g2 _) (hE.1 _ g3 _) (hE.1 _ hM2.2.2.2.2.2.2.2 _) hcal hM2.2.2.2.2.2.2.1 rfl hln2 hstk (by rw [hb]; exact hd)
      · cases hs
  case h_21 =>
    have e1 := hln _ rfl (fun _ _ _ _ q => by cases q) (fun _ _ q => by cases q)
    subst e1
    rename_i idx
    split at hs
    · exfalso; repeat' (split at hs)
      all_goals first | (cases hs; done) | (simp [mj_go] at hs; done)
    · cases hs
    · rename_i hpr
      split at hs
      · rename_i q0 hq
        split at hs
        · rename_i a tl hdr
          split at hs
          · rename_i o he
            obtain ⟨s1, s2, s3, s4⟩ := mj_split hdr
            obtain ⟨h1, h2, h3, rfl⟩ := hcalq _ _ hs
            obtain ⟨I2, g1, g3, g5, galt⟩ := hO.2.2.2.2.2.2.2.2.2.2.1 k I idx q0 hI hq
            have hM2 := hO.2.1 _ I2 g1
            obtain ⟨mk, methk, ck, hcal⟩ := mj_cal_of (hE.1 _ hM2.2.2.2.2.1 args)
            refine ⟨I2, mk, methk, ck, _, g1, hcal, rfl, rfl, by rw [hb]; exact hd, by rw [← hM2.2.1]; exact h2, by rw [← hM2.2.1]; exact h3, ?_⟩
            have hln2 := mj_np_len g5 s4
            dsimp only
            rw [s1, s2]
            rcases galt with ⟨g2, g4, g6, g7⟩ | ⟨g2, g4, g6, g7⟩
            · have hcode : Cond.code I2.1 I2.2.1 I2.2.2.1 none ∈ TB := by
                have := hM2.2.2.2.2.1
                rw [g6, g7] at this
                exact this
              rcases g2 with g2 | ⟨host, g2⟩
              · exact mj_invI hx (mj_own hc) (hE.1 _ g2 _) (hE.1 _ g3 _) (hE.1 _ hcode _) g4 hcal.1 hM2.2.2.2.2.2.2.1 rfl hln2 s3 (by rw [hb]; exact hd)
              · exact mj_invIN hx (mj_own hc) (hE.1 _ g2 _) (hE.1 _ g3 _) (hE.1 _ hcode _) g4 hcal.1 hM2.2.2.2.2.2.2.1 rfl hln2 s3 (by rw [hb]; exact hd)
            · obtain ⟨-, r, r1, -, cell, r3, r4, r5, -⟩ := hR.2.2.2.1 a _ he
              have hob : cell.vm.isStatics = false := by rw [r5]; rfl
              obtain ⟨-, -, kC, hkC, -⟩ := hE.2.1.1 o.1 r r1
              exact mj_invSU hx (mj_own hc) (hE.1 _ g2 _) (hE.1 _ g4 _) (hE.1 _ g6 _) (hE.1 _ g3 _) g7 hcal r3 hob (by rw [r4]; exact hkC) rfl hln2 s3 (by rw [hb]; exact hd)
          · cases hs
        · cases hs
      · cases hs
  case h_22 =>
    have e1 := hln _ rfl (fun _ _ _ _ q => by cases q) (fun _ _ q => by cases q)
    subst e1
    rename_i idx
    split at hs
    · rename_i n hn
      split at hs
      · rename_i a tl hdr
        split at hs
        · rename_i ci fs he
          split at hs
          · rename_i k2 hk2
            obtain ⟨s1, s2, s3, s4⟩ := mj_split hdr
            obtain ⟨h1, h2, h3, rfl⟩ := hcalq _ _ hs
            obtain ⟨I2, g1, C, T, N, g2, g3, g4⟩ := hO.2.2.2.2.2.2.2.2.2.2.2 k I idx n ci k2 hI hn hk2
            have hM2 := hO.2.1 _ I2 g1
            obtain ⟨mk, methk, ck, hcal⟩ := mj_cal_of (hE.1 _ hM2.2.2.2.2.1 args)
            refine ⟨I2, mk, methk, ck, _, g1, hcal, rfl, rfl, by rw [hb]; exact hd, by rw [← hM2.2.1]; exact h2, by rw [← hM2.2.1]; exact h3, ?_⟩
            obtain ⟨-, r, r1, -, cell, r3, r4, r5, -⟩ := hR.2.2.2.1 a _ he
            have hob : cell.vm.isStatics = false := by rw [r5]; rfl
            have hcl : s.vm.findClass C = some cell.cls := by rw [r4]; exact (hE.2.1.1 ci _ g2).2.1
            dsimp only
            rw [s1, s2]
            rcases g4 with ⟨g4 | ⟨host, g4⟩, g5, g6⟩ | ⟨g4, g5, g6, g7⟩ | ⟨x, owner, g4, g5, g6, g7, g8, g9⟩
            · exact mj_invV hx (mj_own hc) (hE.1 _ g4 _) (hE.1 _ g3 _) (hE.1 _ g5 _) hcal hM2.2.2.2.2.2.2.1 r3 hob hcl rfl (mj_np_len g6 s4) s3 (by rw [hb]; exact hd)
            · exact mj_invVN hx (mj_own hc) (hE.1 _ g4 _) (hE.1 _ g3 _) (hE.1 _ g5 _) hcal hM2.2.2.2.2.2.2.1 r3 hob hcl rfl (mj_np_len g6 s4) s3 (by rw [hb]; exact hd)
            · exact mj_invVP hx (mj_own hc) (hE.1 _ g4 _) (hE.1 _ g5 _) (hE.1 _ g3 _) (hE.1 _ g6 _) hcal hM2.2.2.2.2.2.2.1 r3 hob rfl (mj_np_len g7 s4) s3 (by rw [hb]; exact hd)
            · have hdecl : va_Decl s ⟨owner, x.name, x.desc⟩ := by
                rcases g6 with g6 | ⟨g6, b, m', r', g6'⟩
                · exact va_Decl.abs (va_Nw.of rfl (hE.1 _ g6 args))
                · exact va_Decl.of (hE.1 _ g6 args) (hE.1 _ g6' args)
              exact mj_invVU hx (mj_own hc) (hE.1 _ g4 _) (hE.1 _ g5 _) hdecl g7 (hE.1 _ g8 _) (hE.1 _ g3 _) hcal.1 r3 hob hcl rfl (mj_np_len g9 s4) s3 (by rw [hb]; exact hd)
          · cases hs
        · cases hs
      · cases hs
    · exfalso; unfold mj_cln at hs; repeat' (split at hs)
      all_goals first | (cases hs; done) | (simp [mj_go] at hs; done)
  all_goals exfalso
  all_goals try unfold mj_mna at hs
  all_goals try unfold mj_ccs at hs
  all_goals try unfold mj_gf at hs
  all_goals try unfold mj_pf at hs
  all_goals try unfold mj_ald at hs
  all_goals try unfold mj_ast at hs
  all_goals try unfold mj_lst at hs
  all_goals try unfold mj_rst at hs
  all_goals try unfold mj_nwo at hs
  all_goals try unfold mj_nwa at hs
  all_goals try unfold mj_nwq at hs
  all_goals repeat' (split at hs)
  all_goals first
    | (cases hs; done)
    | (simp [mj_go] at hs; done)
    | (obtain ⟨v, -, hv⟩ := Option.bind_eq_some_iff.mp hs; simp [mj_go] at hv; done)
set_option maxHeartbeats 4000000 in
/-- WHAT THE SMALL MACHINE ANSWERS, THE GREAT ONE DOES. G: the states at which all this is known -/
theorem mj_sound (hO : mj_Ok Y M TB cl tys) (hx : p.tables.exec = Jvm.exec) (G : State → Prop) (hG1 : ∀ s U : State, G s → s.WarmedH U.vm → (∀ q : Nat, q < base → U.heap[q]? = HB[q]?) → G U) (hG2 : ∀ s : State, G s → mj_Env TB cl tys D dA xt base HB s ∧ mj_Pr Y M p l e cl tys D dA ct base HB s) :
    ∀ (f d k pc : Nat) (lv : mj_L) (st : List Value) (h : mj_H) (r : mj_O × mj_H) (I : mj_I), M k = some I → mj_x Y xt ct f d k pc lv st h = some r →
    ∀ (R : Room) (s : State) (m : MethodId) (args : Array Value) (below : List Frame) (meth : Method) (c : Code) (H : Heap) (locs : List Loc) (cells slots : Nat) (ls : Array Slot), mj_Cal I.1 I.2.1 I.2.2.1 I.2.2.2.1 I.2.2.2.2 s m meth c → G s → mj_Rel D cl dA tys base HB h H → lv_has ls (Y.nL k) lv → (∀ q ∈ locs, base ≤ q.base) →
      d + 12 ≤ R.frames → 64 * d + 200 ≤ R.locals → cells + (r.2.2.1 - h.2.1) ≤ R.cells → slots + (r.2.2.2 - h.2.2) ≤ R.slots →
      W p l e R s m args below meth c H locs cells slots (mj_MQ below base r.1 (mj_Rel D cl dA tys base HB r.2) s (cells + (r.2.2.1 - h.2.1)) (slots + (r.2.2.2 - h.2.2))) (F0 m pc ls st) := by
  intro f
  induction f with
  | zero => intro d k pc lv st h r I hI hxx; cases hxx
  | succ f ih =>
    intro d k pc lv st h r I hI hxx R s m args below meth c H locs cells slots ls hc hGs hR hl hL hfr hlo hce hsl
    obtain ⟨hE, hP⟩ := hG2 s hGs
    have hge := mj_x_ge _ _ _ _ _ _ _ _ hxx
    simp only [mj_x] at hxx
    split at hxx
    · cases hxx
    · rename_i q hs
      have g1 := mj_s_ge hs
      have g2 := mj_x_ge _ _ _ _ _ _ _ _ hxx
      have a1 : r.2.2.1 - h.2.1 = (q.2.2.2.2.1 - h.2.1) + (r.2.2.1 - q.2.2.2.2.1) := by have := g1.1; have := g2.1; omega
      have a2 : r.2.2.2 - h.2.2 = (q.2.2.2.2.2 - h.2.2) + (r.2.2.2 - q.2.2.2.2.2) := by have := g1.2; have := g2.2; omega
      refine mj_step hO hI hx hc hE hP hR hl hL (by omega) (by omega) hs (by omega) (by omega) fun H' ls' locs' h1 h2 h3 => ?_
      rw [a1, a2, ← Nat.add_assoc, ← Nat.add_assoc]
      exact ih d k q.1 q.2.1 q.2.2.1 q.2.2.2 r I hI hxx R s m args below meth c H' locs' _ _ ls' hc hGs h1 h2 h3 hfr hlo (by omega) (by omega)
    · rename_i q hs
      obtain ⟨I2, mk, methk, ck, ig, i1, i2, i3, i4, i5, i6, i7, i8⟩ := mj_calls (l := l) (e := e) (R := R) (args := args) (below := below) (locs := locs) (cells := cells) (slots := slots) (ls := ls) hO hI hx hc hE hR hs
      have hM2 := hO.2.1 _ I2 i1
      have hszl : ls.size = c.maxLocals := by rw [hl.1, hc.2.2.2.2.1]; exact (hO.2.1 k I hI).2.1
      split at hxx
      · cases hxx
      · rename_i d'
        have callee : ∀ (o : mj_O) (h' : mj_H), mj_x Y xt ct f d' q.1 0 (lv_args 0 q.2.1) [] h = some (o, h') → ∀ s' : State, s'.heap = H → s.WarmedH s'.vm → mj_Cal I2.1 I2.2.1 I2.2.2.1 I2.2.2.2.1 I2.2.2.2.2 s' mk methk ck →
            W p l e { frames := d' + 12, locals := 64 * d' + 200, cells := h'.2.1 - h.2.1, slots := h'.2.2 - h.2.2 } s' mk q.2.1.toArray (.java (F0 m pc ls q.2.2.2.2) :: below) methk ck H [] 0 0 (mj_MQ (.java (F0 m pc ls q.2.2.2.2) :: below) base o (mj_Rel D cl dA tys base HB h') s' (h'.2.1 - h.2.1) (h'.2.2 - h.2.2)) (entryFrame mk q.2.1.toArray I2.2.2.1) := by
          intro o h' hcx s' e1 e2 e3
          have hG' : G s' := hG1 s s' hGs e2 (fun z hz => by rw [e1]; exact hR.2.2.1 z hz)
          rw [lg_entry_eq]
          have := ih d' q.1 0 (lv_args 0 q.2.1) [] h (o, h') I2 i1 hcx { frames := d' + 12, locals := 64 * d' + 200, cells := h'.2.1 - h.2.1, slots := h'.2.2 - h.2.2 } s' mk q.2.1.toArray (.java (F0 m pc ls q.2.2.2.2) :: below) methk ck H [] 0 0 _ e3 hG' hR (by rw [hM2.2.1]; exact lv_entry q.2.1 i7) (fun _ hq => by cases hq) (Nat.le_refl _) (Nat.le_refl _) (by simp) (by simp)
          simpa using this
        split at hxx
        · cases hxx
        · rename_i v h' hcx
          have g1 := mj_x_ge _ _ _ _ _ _ _ _ hcx
          have g2 := mj_x_ge _ _ _ _ _ _ _ _ hxx
          dsimp only at g1 g2
          have a1 : r.2.2.1 - h.2.1 = (h'.2.1 - h.2.1) + (r.2.2.1 - h'.2.1) := by have := g1.1; have := g2.1; omega
          have a2 : r.2.2.2 - h.2.2 = (h'.2.2 - h.2.2) + (r.2.2.2 - h'.2.2) := by have := g1.2; have := g2.2; omega
          refine mj_call (g := F0 m pc ls st) rfl hszl i5 i2 hM2.2.2.2.2.2.1 i8 (R' := { frames := d' + 12, locals := 64 * d' + 200, cells := h'.2.1 - h.2.1, slots := h'.2.2 - h.2.2 }) (by show d' + 12 + 1 ≤ _; omega) (by show 2 * 0 + mj_wt q.2.2.2.2 + _ + (64 * d' + 200) ≤ _; omega) (by show cells + (h'.2.1 - h.2.1) ≤ _; omega) (by show slots + (h'.2.2 - h.2.2) ≤ _; omega) (o := .inl v) (callee _ _ hcx) ?_ ?_
          · intro v' H' L hv hL' hR'
            cases hv
            rw [a1, a2, ← Nat.add_assoc, ← Nat.add_assoc]
            have := ih (d' + 1) k q.2.2.1 q.2.2.2.1 (v.toList ++ q.2.2.2.2) h' r I hI hxx R s m args below meth c H' (locs ++ L) (cells + (h'.2.1 - h.2.1)) (slots + (h'.2.2 - h.2.2)) ls hc hGs hR' (by rw [i4]; exact hl) (mj_la1 hL hL') hfr hlo (by omega) (by omega)
            rw [i3] at this
            exact this
          · intro x H' L hv
            cases hv
        · rename_i a h' hcx
          have g1 := mj_x_ge _ _ _ _ _ _ _ _ hcx
          dsimp only at g1
          split at hxx
          · rename_i hnh
            cases hxx
            refine mj_call (g := F0 m pc ls st) rfl hszl i5 i2 hM2.2.2.2.2.2.1 i8 (R' := { frames := d' + 12, locals := 64 * d' + 200, cells := h'.2.1 - h.2.1, slots := h'.2.2 - h.2.2 }) (by show d' + 12 + 1 ≤ _; omega) (by show 2 * 0 + mj_wt q.2.2.2.2 + _ + (64 * d' + 200) ≤ _; omega) (by show cells + (h'.2.1 - h.2.1) ≤ _; omega) (by show slots + (h'.2.2 - h.2.2) ≤ _; omega) (o := .inr a) (callee _ _ hcx) ?_ ?_
            · intro v' H' L hv
              cases hv
            · intro x H' L hv hL' hR'
              cases hv
              refine mj_leaves hc.2.2.2.2.2.2.2.1 rfl rfl rfl ?_ (mj_la1 hL hL') hR'
              intro q hq
              have c6 := hc.2.2.2.2.2.1
              rw [(hO.2.1 k I hI).2.2.2.1 hnh] at c6
              have : c.exceptionTable.toList = [] := List.map_eq_nil_iff.mp c6
              rw [this] at hq
              cases hq
          · rename_i hnh
            split at hxx
            · rename_i ci fs hex
              split at hxx
              · rename_i hpc hhd
                have g2 := mj_x_ge _ _ _ _ _ _ _ _ hxx
                have a1 : r.2.2.1 - h.2.1 = (h'.2.1 - h.2.1) + (r.2.2.1 - h'.2.1) := by have := g1.1; have := g2.1; omega
                have a2 : r.2.2.2 - h.2.2 = (h'.2.2 - h.2.2) + (r.2.2.2 - h'.2.2) := by have := g1.2; have := g2.2; omega
                refine mj_call (g := F0 m pc ls st) rfl hszl i5 i2 hM2.2.2.2.2.2.1 i8 (R' := { frames := d' + 12, locals := 64 * d' + 200, cells := h'.2.1 - h.2.1, slots := h'.2.2 - h.2.2 }) (by show d' + 12 + 1 ≤ _; omega) (by show 2 * 0 + mj_wt q.2.2.2.2 + _ + (64 * d' + 200) ≤ _; omega) (by show cells + (h'.2.1 - h.2.1) ≤ _; omega) (by show slots + (h'.2.2 - h.2.2) ≤ _; omega) (o := .inr a) (callee _ _ hcx) ?_ ?_
                · intro v' H' L hv
                  cases hv
                · intro x H' L hv hL' hR'
                  cases hv
                  have hls : ls.size = I.2.2.1 := by rw [hl.1]; exact (hO.2.1 k I hI).2.1
                  refine (hP k I R m args below meth c H' (locs ++ L) _ _ _ pc ls h' hI hc hR' (by omega) (by omega) hls).2.2.2.2.2.2.1 a ci hpc fs _ hnh hex hhd ?_
                  rw [a1, a2, ← Nat.add_assoc, ← Nat.add_assoc]
                  exact ih (d' + 1) k hpc q.2.2.2.1 [.ref a] h' r I hI hxx R s m args below meth c H' (locs ++ L) (cells + (h'.2.1 - h.2.1)) (slots + (h'.2.2 - h.2.2)) ls hc hGs hR' (by rw [i4]; exact hl) (mj_la1 hL hL') hfr hlo (by omega) (by omega)
              · cases hxx
            · cases hxx
    · rename_i o hs
      cases hxx
      refine mj_ends hx hO hI hc hR hL hs fun idx ci hd hco hci hnh hw ho => ?_
      subst ho
      have hls : ls.size = I.2.2.1 := by rw [hl.1]; exact (hO.2.1 k I hI).2.1
      have e1 : (mj_new h 6 (.inr (ci, []))).2.1 - h.2.1 = 1 := by simp [mj_new]
      have e2 : (mj_new h 6 (.inr (ci, []))).2.2 - h.2.2 = 6 := by simp [mj_new]
      dsimp only at hce hsl ⊢
      rw [e1] at hce
      rw [e2] at hsl
      rw [e1, e2]
      refine (hP k I R m args below meth c H locs cells slots _ pc ls h hI hc hR (by omega) (by omega) hls).2.2.1 idx ci st hd hco hL hci hnh hw hce hsl fun H' L h1 h2 => ?_
      refine mj_leaves hc.2.2.2.2.2.2.2.1 rfl rfl rfl ?_ (mj_la1 hL h2) h1
      intro q hq
      have c6 := hc.2.2.2.2.2.1
      rw [(hO.2.1 k I hI).2.2.2.1 hnh] at c6
      have : c.exceptionTable.toList = [] := List.map_eq_nil_iff.mp c6
      rw [this] at hq
      cases hq
end MJZ
