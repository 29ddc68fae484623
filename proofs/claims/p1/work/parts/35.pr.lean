/-! WHAT IS ASKED OF THE ONE-STEP CALLS HOLDS -/
def ky_sc (k idx : Nat) : Option Nat := mj_lk2 ksc idx (ky_o k)
def ky_hd (k pc ci : Nat) : Option Nat := (mj_lk3 khd k pc ci).map (fun v => v.1)
abbrev kY : mj_Y := ky ky_sc ky_hd
theorem kY_ok : mj_Ok kY ky_M kt kc_cl kty := ky_ok
/-- what is known at each state of the run -/
def kG (D : va_G) (dA : FieldType → ClassId) (xt : mj_X) (ct : Nat → Value) (base : Nat) (HB : Heap) (s : State) : Prop :=
  mj_Env kt kc_cl kty D dA xt base HB s ∧ (∀ q : Nat, q < base → s.heap[q]? = HB[q]?) ∧ (∀ (n : Nat) (z : String × String × String), kst[n]? = some z → mj_Zs z.1 z.2.1 z.2.2 (ct n) base HB s) ∧ (∀ a ∈ [13, 14, 15], ∀ b ∈ [13, 14, 15], a ≠ b → mj_NC (k_nm a) (k_nm b) s) ∧
  (∀ e ∈ kxs, ∃ q, vk_R (ky_I e.1).cls e.2.2.2.2.2.1 e.2.2.2.2.2.2 q s)
theorem kG_moved {D : va_G} {dA : FieldType → ClassId} {xt : mj_X} {ct : Nat → Value} {base : Nat} {HB : Heap} {s U : State} (h : kG D dA xt ct base HB s) (hW : s.WarmedH U.vm) (hU : ∀ q : Nat, q < base → U.heap[q]? = HB[q]?) : kG D dA xt ct base HB U := by
  obtain ⟨h1, h2, h3, h4, h5⟩ := h
  refine ⟨mj_Env_moved kt_kp hW h1, hU, fun n z hz => mj_Zs_moved hW.alike (h3 n z hz), fun a ha b hb hab => mj_NC_moved hW.alike (h4 a ha b hb hab), fun e he => ?_⟩
  obtain ⟨q, hq⟩ := h5 e he
  exact ⟨q, hq.warm hW⟩
theorem ky_prw {k : Nat} {I : mj_I} {idx n : Nat} (h : ky_M k = some I) (hp : ky_pr k idx = some n) : ∀ w ∈ kpr_w (idx, ky_o k, n), w ∈ kt := fun w hw => kpr_W w (List.mem_flatMap.mpr ⟨_, mj_lk2_in hp, hw⟩)
/-- the code at a place, read off -/
theorem ky_dec {k pc : Nat} {I : mj_I} {i : Instr} (h : ky_M k = some I) (hc : ky_code k pc = some i) (hsw : mj_sw i = false) : decode I.2.1 pc = .ok (i, mj_len i) := by
  obtain ⟨len, hd, hl⟩ := (ky_okM (sc := ky_sc) (hd := ky_hd) h).1 pc i hc
  rcases hl with rfl | ⟨a, b, c, d, rfl⟩ | ⟨a, b, rfl⟩
  · exact hd
  · cases hsw
  · cases hsw
def kxs_b (k : Nat) : Bool := match km[k]? with
  | some q => q.2.all (fun z => match z.2 with
    | .new idx => match ky_ex k idx with
      | some ci => kxs.any (fun e => e.1 == k && (e.2.1 == z.1 && (e.2.2.1 == idx && e.2.2.2.1 == ci)))
      | none => true
    | _ => true)
  | none => true
theorem kxs_B : ∀ k, k < km.length → kxs_b k = true := by decide +kernel
theorem kxs_C : ∀ e ∈ kxs, ky_code e.1 (e.2.1 + 3) = some .dup ∧ ky_code e.1 (e.2.1 + 4) = some (.ldc e.2.2.2.2.2.1) ∧ ky_code e.1 (e.2.1 + 6) = some (.invokespecial e.2.2.2.2.1) ∧ ky_code e.1 (e.2.1 + 9) = some .athrow := by decide +kernel
theorem kxs_of {k pc idx ci : Nat} {I : mj_I} (h : ky_M k = some I) (hc : ky_code k pc = some (.new idx)) (hx : ky_ex k idx = some ci) : ∃ e ∈ kxs, e.1 = k ∧ e.2.1 = pc ∧ e.2.2.1 = idx ∧ e.2.2.2.1 = ci := by
  obtain ⟨l, hl⟩ := ky_row h
  have hb := kxs_B k (List.getElem?_eq_some_iff.mp hl).1
  unfold kxs_b at hb
  rw [hl] at hb
  dsimp only at hb
  unfold ky_code at hc
  rw [hl] at hc
  have hm : (pc, Instr.new idx) ∈ l := mj_lookup_mem hc
  have := List.all_eq_true.mp hb _ hm
  dsimp only at this
  rw [hx] at this
  dsimp only at this
  obtain ⟨e, he, h2⟩ := List.any_eq_true.mp this
  simp only [Bool.and_eq_true, beq_iff_eq] at h2
  exact ⟨e, he, h2.1, h2.2.1, h2.2.2.1, h2.2.2.2⟩
/-- the words of a throw -/
def kxs_ok (own X : String) (ic idx : Nat) : Prop := (∀ w ∈ (Bundle.ownAtoms own ic X k_up).filter k_tw, w ∈ kt) ∧ (∀ w ∈ (Bundle.ownAtoms own ic X k_up).filter (fun w => !k_tw w), w ∈ k_hw) ∧ Cond.classLink own idx X ∈ kt ∧ Cond.initialized X ∈ kt ∧ Bundle.fit X = true
theorem kxs_W : ∀ e ∈ kxs, kxs_ok (ky_I e.1).cls (k_nm e.2.2.2.1) e.2.2.2.2.1 e.2.2.1 := by
  have a0 : kxs_ok "DiceOdds" "java/lang/IllegalArgumentException" 170 166 := ⟨k_tw0, k_th0, k_tc0 _ (by simp), k_tc0 _ (by simp), by decide +kernel⟩
  have a1 : kxs_ok "DiceOdds$Parser" "java/lang/IllegalArgumentException" 74 70 := ⟨k_tw1, k_th1, k_tc1 _ (by simp), k_tc1 _ (by simp), by decide +kernel⟩
  have a2 : kxs_ok "DiceOdds" "java/lang/IllegalStateException" 181 177 := ⟨k_tw2, k_th2, k_tc2 _ (by simp), k_tc2 _ (by simp), by decide +kernel⟩
  have a3 : kxs_ok "DiceOdds" "java/lang/IndexOutOfBoundsException" 153 149 := ⟨k_tw3, k_th3, k_tc3 _ (by simp), k_tc3 _ (by simp), by decide +kernel⟩
  have key : ∀ e ∈ kxs, ((ky_I e.1).cls, k_nm e.2.2.2.1, e.2.2.2.2.1, e.2.2.1) ∈ [("DiceOdds", "java/lang/IllegalArgumentException", 170, 166), ("DiceOdds$Parser", "java/lang/IllegalArgumentException", 74, 70), ("DiceOdds", "java/lang/IllegalStateException", 181, 177), ("DiceOdds", "java/lang/IndexOutOfBoundsException", 153, 149)] := by decide +kernel
  intro e he
  have hm := key e he
  simp only [List.mem_cons, List.not_mem_nil, or_false, Prod.mk.injEq] at hm
  rcases hm with ⟨h1, h2, h3, h4⟩ | ⟨h1, h2, h3, h4⟩ | ⟨h1, h2, h3, h4⟩ | ⟨h1, h2, h3, h4⟩
  · rw [h1, h2, h3, h4]; exact a0
  · rw [h1, h2, h3, h4]; exact a1
  · rw [h1, h2, h3, h4]; exact a2
  · rw [h1, h2, h3, h4]; exact a3
theorem kxs_T : ∀ e ∈ kxs, e.2.2.2.1 ∈ [13, 14, 15] := by decide +kernel
theorem kc_exc : ∀ ci ∈ [13, 14, 15], ∃ T0, kc_cl[ci]? = some (k_nm ci, T0, 0) := by
  intro ci h
  simp only [List.mem_cons, List.not_mem_nil, or_false] at h
  rcases h with rfl | rfl | rfl
  · exact ⟨_, rfl⟩
  · exact ⟨_, rfl⟩
  · exact ⟨_, rfl⟩
theorem k_upfit : ∀ n ∈ k_up, Bundle.fit n = true := by decide +kernel
theorem k_nfw : nativeFrameWords "java/lang/System" "arraycopy" 5 ≤ 100 := by decide +kernel
theorem k_cts {ty : FieldType} {n : Nat} (h : mj_ctt n = some ty) : (n = 3 ∧ ty = .int) ∨ (n = 4 ∧ ty = .long) ∨ (n = 5 ∧ ty = .byte) := by
  unfold mj_ctt at h
  split at h <;> simp_all
theorem k_cls {ty : FieldType} {n : Nat} (h : mj_clt n = some ty) : (n = 7 ∧ ty = .int) ∨ (n = 8 ∧ ty = .long) ∨ (n = 9 ∧ ty = .byte) := by
  unfold mj_clt at h
  split at h <;> simp_all
section KPR
variable {p : Program} {l : Launch} {e : Env} {s : State} {D : va_G} {dA : FieldType → ClassId} {xt : mj_X} {ct : Nat → Value} {base : Nat} {HB : Heap}
set_option maxHeartbeats 4000000 in
theorem kG_pr (hx : p.tables.exec = Jvm.exec) (hfl : l.flags = pinnedFlags ++ [noTraceFlag]) (hct : ∀ n, 1 ≤ n → n < 6 → ct n = .null ∨ ∃ t, ct n = .ref t) (hG : kG D dA xt ct base HB s) : mj_Pr kY ky_M p l e kc_cl kty D dA ct base HB s := by
  obtain ⟨hE, hHB, hZ, hN, hV⟩ := hG
  intro k I R m args below meth c H locs cells slots Q pc ls h hI hc hR hfr hlo hls
  have hb : c.code = I.2.1 := hc.2.2.2.1
  have hown := mj_own hc
  have hml : ls.size = c.maxLocals := by rw [hls]; exact hc.2.2.2.2.1.symm
  obtain ⟨hcl, hIk⟩ := ky_cls hI
  have gl : ∀ w ∈ k_gl, w.before args s = true := fun w hw => hE.1 w (k_glW w hw) args
  refine ⟨?_, ?_, ?_, ?_, ?_, ?_, ?_, ?_, ?_, ?_⟩
  · intro idx st lv q hd hpr hs kk
    have hw := ky_prw hI hpr
    obtain ⟨pc', lv', st', h'⟩ := q
    unfold mj_acp at hs
    split at hs
    · split at hs
      · split at hs
        · rename_i n dp b sp a r _ _ ty xs tz ys ha hbb hok
          obtain ⟨rfl, o2, o3, o4, o5, o6, o7, o8, o9⟩ := hok
          obtain ⟨rfl, rfl, rfl, rfl⟩ := mj_go_inj hs
          refine mj_copy hx hb hml hown (index := idx) (hE.1 _ (by rw [← hcl]; exact hw _ (by simp [kpr_w])) _) (gl _ (by simp [k_gl])) (gl _ (by simp [k_gl])) (gl _ (by simp [k_gl])) hR hE.2.2 ha hbb o2 o3 o4 o5 o6 o7 o8 (by omega) (by have h1 : (List.map (fun v => v.category) st').sum = mj_wt st' := rfl; have := k_nfw; rw [h1]; omega) hd fun H' L g1 g2 => kk H' L rfl rfl g1 g2
        · cases hs
      · cases hs
    · cases hs
  · intro idx a r hd hpr hw kk
    have hww := ky_prw hI hpr
    refine W.objInit hx hb hown (idx := idx) (hE.1 _ (by rw [← hcl]; exact hww _ (by simp [kpr_w])) _) (gl _ (by simp [k_gl])) (gl _ (by simp [k_gl])) (g := F0 m pc ls (.ref a :: r)) rfl hml rfl hd (by omega) (by show 2 * 0 + mj_wt r + 12 ≤ _; omega) kk
  · intro idx ci r hd hco hL hex hnh hw hcells hslots kk
    obtain ⟨x, hxm, rfl, rfl, rfl, rfl⟩ := kxs_of hI hco hex
    obtain ⟨w1, w2, w3, w4, w5⟩ := kxs_W x hxm
    obtain ⟨T0, hcl0⟩ := kc_exc _ (kxs_T x hxm)
    obtain ⟨d3, d4, d6, d9⟩ := kxs_C x hxm
    obtain ⟨qs, hqs⟩ := hV x hxm
    rw [hIk] at w1 w2 w3 hqs
    refine mj_throw hx hb hfl hown w5 k_upfit rfl (fun w hw => ?_) (hE.1 _ w3 _) (hE.1 _ w4 _) hqs hR hE.2.1 hcl0 hL hml hfr hlo hw hcells hslots hd (ky_dec hI d3 rfl) (ky_dec hI d4 rfl) (ky_dec hI d6 rfl) (ky_dec hI d9 rfl) kk
    cases hk : k_tw w with
    | true => exact hE.1 _ (w1 w (List.mem_filter.mpr ⟨hw, hk⟩)) _
    | false =>
      have := w2 w (List.mem_filter.mpr ⟨hw, by rw [hk]; rfl⟩)
      simp only [k_hw, List.mem_cons, List.not_mem_nil, or_false] at this
      rcases this with rfl | rfl | rfl | rfl
      · exact mj_Zs_lays (hZ 4 _ rfl) hHB
      · exact mj_Zs_lays (hZ 5 _ rfl) hHB
      · exact mj_Zs_ref (hZ 4 _ rfl) (hct 4 (by omega) (by omega)) hHB
      · exact mj_Zs_ref (hZ 5 _ rfl) (hct 5 (by omega) (by omega)) hHB
  · intro idx n r hd hsc kk
    generalize hgen : idx + 65536 = z at hsc
    have := (ksc_B _ (mj_lk2_in (show mj_lk2 ksc z (ky_o k) = some n from hsc))).1
    dsimp only at this
    omega
  · intro idx n r hd hsc kk
    have hm := mj_lk2_in (show mj_lk2 ksc idx (ky_o k) = some n from hsc)
    have hlt := (ksc_B _ hm).2
    have hw := ksc_W _ (List.mem_map.mpr ⟨_, hm, rfl⟩)
    unfold ksc_w at hw
    dsimp only at hw hlt
    rw [hcl] at hw
    obtain ⟨z, hz⟩ : ∃ z, kst[n]? = some z := ⟨_, List.getElem?_eq_getElem (Nat.lt_trans hlt (by decide))⟩
    rw [show ksc_z n = z by unfold ksc_z; rw [hz]; rfl] at hw
    exact mj_gets hx hb (hZ n z hz) hR hown (hE.1 _ hw _) hd kk
  · intro st lv q hd hs kk
    obtain ⟨pc', lv', st', h'⟩ := q
    unfold mj_rst at hs
    split at hs
    · split at hs
      · split at hs
        · rename_i v j a r _ _ C xs ci fs ha hv hok
          obtain ⟨rfl, rfl, rfl, rfl⟩ := mj_go_inj hs
          obtain ⟨o1, o2, o3⟩ := hok
          have hty := (hR.2.2.2.1 a _ ha).2.1
          have hC : Cond.arrayOver (.object C) ∈ kt := by
            have h1 : ∀ t ∈ kty, ∀ C, t = .object C → Cond.arrayOver (.object C) ∈ kt := by
              intro t ht C e1
              subst e1
              have h2 : FieldType.object C = .object "DiceOdds$Slot" ∨ FieldType.object C = .object "DiceOdds$States" := by
                simpa [kty] using ht
              rcases h2 with h2 | h2
              · rw [h2]; exact ka_W _ (by decide +kernel)
              · rw [h2]; exact ka_W _ (by decide +kernel)
            exact h1 _ hty C rfl
          obtain ⟨z, hz, hz2⟩ : ∃ z, kc_cl[ci]? = some z ∧ z.1 = C := by
            have : (kc_cl[ci]?).map (fun q => q.1) = some C := of_decide_eq_true o1
            obtain ⟨z, h1, h2⟩ := Option.map_eq_some_iff.mp this
            exact ⟨z, h1, h2⟩
          obtain ⟨zC, zT, zN⟩ := z
          dsimp only at hz2
          subst hz2
          refine mj_aast hx hb hR hE.2.2 hE.2.1 ha hv hz (fun k0 comp0 g1 g2 => ?_) o2 o3 hd fun H' z g1 g2 => kk H' z rfl rfl g1 g2
          obtain ⟨comp, cc, kk', f1, f2, f3, f4, f5⟩ := Cond.arrayOver_spec (hE.1 _ hC args)
          have e1 : cc = dA (.object zC) := Option.some.inj (f5.symm.trans (hE.2.2.1 _ hty).1)
          subst e1
          have e2 : kk' = k0 := Option.some.inj (f3.symm.trans g1)
          subst e2
          have e3 := f4.symm.trans g2
          injection e3 with e4 _
          rw [f1, e4]
        · cases hs
      · cases hs
    · cases hs
  · intro x ci hpc fs r hnh hxx hhd kk
    obtain ⟨⟨v1, v2⟩, hv, hv2⟩ := Option.map_eq_some_iff.mp (show (mj_lk3 khd k pc ci).map (fun v => v.1) = some hpc from hhd)
    dsimp only at hv2
    subst hv2
    have hb0 := khd_B _ (mj_lk3_in hv)
    unfold khd_b at hb0
    dsimp only at hb0
    have hhh : khd_hh k = I.2.2.2.2 := by
      obtain ⟨ll, hll⟩ := ky_row hI
      unfold khd_hh; rw [hll]; rfl
    rw [hhh, hIk] at hb0
    split at hb0
    · rename_i y hy
      simp only [Bool.and_eq_true, decide_eq_true_eq] at hb0
      obtain ⟨⟨b0, b1, b2, b3, b4, b5, b6⟩, b7⟩ := hb0
      obtain ⟨T0, hcl0⟩ := kc_exc _ b6
      have hcw : ∀ a b, (a, b) ∈ khc → (Cond.classLink I.1.cls a (k_nm b)).before args s = true := fun a b hab => by
        rw [b0]
        exact hE.1 _ (khc_W _ (List.mem_map.mpr ⟨_, hab, rfl⟩)) _
      have hlt := (List.getElem?_eq_some_iff.mp hy)
      refine mj_hand hR hE.2.1 hxx hcl0 hown hc.2.2.2.2.2.1 (I.2.2.2.2.take v2) y (I.2.2.2.2.drop (v2 + 1)) ?_ (fun z hz => ?_) ⟨b1, b2⟩ b3 (hcw _ _ b5) (by rw [b4]; exact kk)
      · obtain ⟨h1, h2⟩ := hlt
        rw [← h2, List.getElem_cons_drop, List.take_append_drop]
      · have := List.all_eq_true.mp b7 z hz
        simp only [Bool.and_eq_true, decide_eq_true_eq, List.any_eq_true, beq_iff_eq, Bool.not_eq_true', beq_eq_false_iff_ne] at this
        obtain ⟨⟨g1, g2, g3⟩, w, gw, g4, g5, g6⟩ := this
        refine ⟨⟨g1, g2⟩, g3, k_nm w.2, ?_, hN _ b6 _ g5 (Ne.symm g6)⟩
        rw [← g4]
        exact hcw w.1 w.2 gw
    · cases hb0
  · intro idx st lv q hd hpr hs hcells hslots kk
    have hw := ky_prw hI hpr
    obtain ⟨pc', lv', st', h'⟩ := q
    unfold mj_mna at hs
    split at hs
    · split at hs
      · rename_i kk0 n r hok
        obtain ⟨o1, o2, o3, o4⟩ := hok
        obtain ⟨rfl, rfl, rfl, rfl⟩ := mj_go_inj hs
        have e1 : (mj_mul h n.toNatClampNeg kk0.toNatClampNeg).2.1 - h.2.1 = 1 + n.toNatClampNeg := by simp only [mj_mul]; omega
        have e2 : (mj_mul h n.toNatClampNeg kk0.toNatClampNeg).2.2 - h.2.2 = n.toNatClampNeg + n.toNatClampNeg * kk0.toNatClampNeg := by simp only [mj_mul]; omega
        dsimp only at hcells hslots kk
        rw [e1] at hcells kk
        rw [e2] at hslots kk
        refine mj_multi hx hb hown (index := idx) (hE.1 _ (by rw [← hcl]; exact hw _ (by simp [kpr_w])) _) (gl _ (by simp [k_gl])) (gl _ (by simp [k_gl])) hR hE.2.2 (by decide) (by decide) o1 o2 o3 o4 hcells hslots hd fun H' g1 => ?_
        have := kk H' rfl g1
        rw [← Nat.add_assoc, ← Nat.add_assoc] at this
        exact this
      · cases hs
    · cases hs
  · intro idx n st lv q hd hpr hs hcells hslots kk
    have hw := ky_prw hI hpr
    obtain ⟨pc', lv', st', h'⟩ := q
    unfold mj_cln at hs
    split at hs
    · split at hs
      · split at hs
        · rename_i a r _ ty xs ha hok
          obtain ⟨o1, o2, o3⟩ := hok
          obtain ⟨rfl, rfl, rfl, rfl⟩ := mj_go_inj hs
          have e1 : (mj_new h xs.length (.inl (ty, xs))).2.1 - h.2.1 = 1 := by simp only [mj_new]; omega
          have e2 : (mj_new h xs.length (.inl (ty, xs))).2.2 - h.2.2 = xs.length := by simp only [mj_new]; omega
          dsimp only at hcells hslots kk
          rw [e1] at hcells kk
          rw [e2] at hslots kk
          have hgo : ∀ ad : String, kpr_w (idx, ky_o k, n) = k_cw (ky_o k) idx ad → "[" ++ ty.toString = ad → W p l e R s m args below meth c H locs cells slots Q (F0 m pc ls (.ref a :: r)) := by
            intro ad e3 e4
            rw [e3] at hw
            unfold k_cw at hw
            rw [hcl] at hw
            exact mj_clone hx hb hml hown (hE.1 _ (hw _ (by simp)) _) (hE.1 _ (hw _ (by simp)) _) (gl (.native k_oc) (by simp [k_gl])) (gl (.instanceMethod k_oc) (by simp [k_gl])) (hE.1 _ (hw _ (by simp [k_oc])) _) (hE.1 _ (hw _ (by simp)) _) hR hE.2.2 ha e4 o2 (by omega) (by have h1 : (List.map (fun v => v.category) r).sum = mj_wt r := rfl; rw [h1]; omega) hcells hslots hd fun H' g1 => kk H' rfl g1
          rcases k_cls o1 with ⟨rfl, rfl⟩ | ⟨rfl, rfl⟩ | ⟨rfl, rfl⟩
          · exact hgo "[I" rfl (by decide +kernel)
          · exact hgo "[J" rfl (by decide +kernel)
          · exact hgo "[B" rfl (by decide +kernel)
        · cases hs
      · cases hs
    · cases hs
  · intro idx n a ty xs r hd hpr hctt ha kk
    have hw := ky_prw hI hpr
    have hgo : ∀ nm : String, kpr_w (idx, ky_o k, n) = [.classLink (kn.getD (ky_o k) "") idx nm] → "[" ++ ty.toString = nm → W p l e R s m args below meth c H locs cells slots Q (F0 m pc ls (.ref a :: r)) := by
      intro nm e3 e4
      rw [e3, hcl] at hw
      exact mj_castA hx hb hown (hE.1 _ (hw _ (by simp)) _) hR hE.2.2 ha e4 hd kk
    rcases k_cts hctt with ⟨rfl, rfl⟩ | ⟨rfl, rfl⟩ | ⟨rfl, rfl⟩
    · exact hgo "[I" rfl (by decide +kernel)
    · exact hgo "[J" rfl (by decide +kernel)
    · exact hgo "[B" rfl (by decide +kernel)
end KPR
