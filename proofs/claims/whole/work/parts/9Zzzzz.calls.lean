/-! EVERY CALL BUT READ AND RUN KEEPS IT -/
def okA (z c1 c2 : Nat) (H : mj_H) (C : Option (Int32 × mj_H)) (M : Option (Int32 × mS)) : Prop := ∃ a H' S', C = some (a, H') ∧ M = some (a, S') ∧ clF z H H' ∧ invC z (c1 + 250) (c2 + 11400) H' S'
def okI (z c1 c2 : Nat) (H : mj_H) (C : Option (Int32 × mj_H)) (M : Option (Int32 × mS)) : Prop := ∃ code b H' S', C = some (code, H') ∧ M = some (b, S') ∧ S'.1 0 = code ∧ (code = 0 → H'.1 (z + 106) = some (.inl (.long, [.long b.toInt64]))) ∧ clF z H H' ∧ invC z (c1 + 250) (c2 + 11400) H' S'
def okL (z c1 c2 : Nat) (H : mj_H) (C : Option (Int32 × mj_H)) (M : Option (Int64 × mS)) : Prop := ∃ code b H' S', C = some (code, H') ∧ M = some (b, S') ∧ S'.1 0 = code ∧ (code = 0 → H'.1 (z + 106) = some (.inl (.long, [.long b]))) ∧ clF z H H' ∧ invC z (c1 + 250) (c2 + 11400) H' S'
section CAL
variable {xt : mj_X} {ct : Nat → Value} {N z c1 c2 : Nat} {H H' : mj_H} {S S' : mS}
theorem clF_trans {K : mj_H} (x : clF z H H') (y : clF z H' K) : clF z H K := fun q hq => (y q hq).trans (x q hq)
theorem okI_of {C : Option (Int32 × mj_H)} {M : Option (Int32 × mS)} (h : invC z c1 c2 H S) (c : cl_I z H S C M) : okI z c1 c2 H C M := by
  rcases c with ⟨b, S', e1, e2, e3, e4⟩ | ⟨code, b, S', ci, e0, e1, e2, e3, e4⟩
  · obtain ⟨o1, o2⟩ := inv_out (b := b.toInt64) (inv_same h e4)
    exact ⟨0, b, _, S', e1, e2, e3, fun _ => mj_put_eq, o2, inv_up o1 (by omega) (by omega)⟩
  · obtain ⟨o1, o2⟩ := inv_thr (ci := ci) h e4
    exact ⟨code, b, _, S', e1, e2, e3, fun w => absurd w e0, o2, inv_up o1 (by omega) (by omega)⟩
theorem okL_of {C : Option (Int32 × mj_H)} {M : Option (Int64 × mS)} (h : invC z c1 c2 H S) (c : cl_L z H S C M) : okL z c1 c2 H C M := by
  rcases c with ⟨b, S', e1, e2, e3, e4⟩ | ⟨code, b, S', ci, e0, e1, e2, e3, e4⟩
  · obtain ⟨o1, o2⟩ := inv_out (b := b) (inv_same h e4)
    exact ⟨0, b, _, S', e1, e2, e3, fun _ => mj_put_eq, o2, inv_up o1 (by omega) (by omega)⟩
  · obtain ⟨o1, o2⟩ := inv_thr (ci := ci) h e4
    exact ⟨code, b, _, S', e1, e2, e3, fun w => absurd w e0, o2, inv_up o1 (by omega) (by omega)⟩
theorem inv_cSl (h : invC z c1 c2 H S) : cx z H ∧ cSl z H S ∧ cout z H := by
  obtain ⟨D, v, bs, tx, mo, π, Ls, LsR, i1, i2, i3, i4, i5, i6, i7, i8, i9, i10, i11, i12, i13, i14⟩ := h
  refine ⟨i1, ⟨i2, fun j hj => ?_⟩, i3⟩
  obtain ⟨hp, fs, oc, to, Ov, Wv, s1, s2, -⟩ := i12 j hj
  exact ⟨hp, fs, oc, to, _, _, slF_R s1, s2⟩
theorem agZ0 {v : Int32} : m_agr [0] [] [] S (m_sV S 0 v) := m_agr_sV m_agr_refl (by decide) _
theorem st_type (hN : 100 ≤ N) {O : OR} (h : invC z c1 c2 H S) (w : Int64) (n : Int32) : okA z c1 c2 H (C9 xt ct O N (z + 1) w n H) (M204 N w n S) := by
  obtain ⟨D, v, bs, tx, mo, π, Ls, LsR, h⟩ := h
  obtain ⟨i1, i2, i3, i4, i5, -⟩ := id h
  obtain ⟨a, H', S', v', bs', tx', e1, e2, e3, e4, e5, e6, e7⟩ := type_call (xt := xt) (ct := ct) (O := O) (N := N) i1 i4.1 i4.2.1 i5 hN w n
  obtain ⟨o1, o2⟩ := inv_txt h e4 e3 e5 (m_agr_mono e6 (by decide) (by decide) (by decide))
  exact ⟨a, H', S', e1, e2, o2, inv_up o1 (by omega) (by omega)⟩
theorem st_wipe {O : OR} (h : invC z c1 c2 H S) : okA z c1 c2 H (C36 xt ct O N (z + 1) H) (M207 N S) := by
  obtain ⟨D, v, bs, tx, mo, π, Ls, LsR, h⟩ := h
  obtain ⟨i1, i2, i3, i4, i5, -⟩ := id h
  obtain ⟨a, H', S', e1, e2, e3, e4, e5, e6, e7⟩ := wipe_call (xt := xt) (ct := ct) (O := O) (N := N) i1 i4.1 i4.2.1 i5
  obtain ⟨o1, o2⟩ := inv_txt h e4 e3 e5 (m_agr_mono e6 (by decide) (by decide) (by decide))
  exact ⟨a, H', S', e1, e2, o2, inv_up o1 (by omega) (by omega)⟩
theorem st_char {O : OR} (hf : ∃ o, vtO (ct 1) = some o) (h : invC z c1 c2 H S) (i : Int32) : okA z c1 c2 H (C72 xt ct O N (z + 1) i H) (M208 N i S) := by
  obtain ⟨D, v, bs, tx, mo, π, Ls, LsR, h'⟩ := id h
  obtain ⟨i1, i2, i3, i4, i5, -⟩ := id h'
  obtain ⟨a, e1, e2⟩ := char_call (xt := xt) (ct := ct) (O := O) (N := N) hf i1 i4.1 i5 i
  exact ⟨a, H, _, e1, e2, clF_refl, inv_up (inv_same h agZ0) (by omega) (by omega)⟩
theorem st_place {O : OR} (h : invC z c1 c2 H S) : okA z c1 c2 H (C75 xt ct O N (z + 1) H) (M244 N S) := by
  obtain ⟨D, v, bs, tx, mo, π, Ls, LsR, h'⟩ := id h
  obtain ⟨i1, i2, i3, i4, i5, ⟨⟨a, b, c, d, i6⟩, -⟩, -⟩ := id h'
  obtain ⟨e1, e2⟩ := place_call (xt := xt) (ct := ct) (O := O) (N := N) (S := S) i1 ⟨a, b, c, d, i6⟩
  exact ⟨_, H, _, e1, e2, clF_refl, inv_up (inv_same h agZ0) (by omega) (by omega)⟩
theorem st_states {O : OR} (h : invC z c1 c2 H S) : okA z c1 c2 H (C76 xt ct O N (z + 1) H) (M288 N S) := by
  obtain ⟨D, v, bs, tx, mo, π, Ls, LsR, h'⟩ := id h
  obtain ⟨i1, i2, i3, i4, i5, i6, i7, i8, i9, i10, -⟩ := id h'
  obtain ⟨sp, b1, -⟩ := i9.2.1
  have cb : cben z H S := by
    refine ⟨Int32.ofNat sp.length, ?_⟩
    rw [i10]
    exact b1
  obtain ⟨e1, e2⟩ := states_call (xt := xt) (ct := ct) (O := O) (N := N) (S := S) i1 cb
  exact ⟨_, H, _, e1, e2, clF_refl, inv_up (inv_same h agZ0) (by omega) (by omega)⟩
theorem st_factor {O : OR} (hN : 2000 ≤ N) (h : invC z c1 c2 H S) (s : Int32) : okL z c1 c2 H (C177 xt ct O N (z + 1) s (z + 106) H) (M258 N s S) := by
  obtain ⟨D, v, bs, tx, mo, π, Ls, LsR, h'⟩ := id h
  obtain ⟨i1, i2, i3, i4, i5, i6, i7, i8, i9, i10, i11, i12, -⟩ := id h'
  have k0 : gK H (z + 1) 5 = some () := gK_of i1
  rcases factor_call (xt := xt) (ct := ct) (O := O) (N := N) (v := v) hN i1 i2 s (fun j hj => by
    obtain ⟨hp, fs, oc, to, Ov, Wv, s1, s2, s3⟩ := i12 j hj
    refine ⟨hp, fs, oc, to, _, _, slF_R s1, ?_⟩
    rcases s3 with s3 | ⟨a1, a2, A, B, sts, nds, fcs, l, p1, p2, p3, p4, p5, p6, p7, p8, -⟩
    · exact Or.inl s3
    · exact Or.inr ⟨a1, a2, A, B, sts, nds, fcs, l, p1, p2, p3, p4, p5, p6, p7, p8⟩) with ⟨a, e1, e2⟩ | ⟨e1, e2⟩ | ⟨e1, e2⟩
  · obtain ⟨o1, o2⟩ := inv_out (b := a) (inv_same h (agZ0 (v := 0)))
    refine ⟨0, a, _, _, ?_, e2, rfl, fun _ => mj_put_eq, o2, inv_up o1 (by omega) (by omega)⟩
    simp only [C177, k0, e1, th, out_put i3, Option.bind_some]
  · obtain ⟨o1, o2⟩ := inv_thr (ci := 13) h (agZ0 (v := 1))
    refine ⟨1, 0, _, _, ?_, e2, rfl, fun w => absurd w (by decide), o2, inv_up o1 (by omega) (by omega)⟩
    have g : gC (mj_new H 6 (.inr (13, []))) H.2.1 = some 13 := gC_of mj_new_eq
    simp only [C177, k0, e1, th, g, Option.bind_some]
    rfl
  · obtain ⟨o1, o2⟩ := inv_thr (ci := 14) h (agZ0 (v := 2))
    refine ⟨2, 0, _, _, ?_, e2, rfl, fun w => absurd w (by decide), o2, inv_up o1 (by omega) (by omega)⟩
    have g : gC (mj_new H 6 (.inr (14, []))) H.2.1 = some 14 := gC_of mj_new_eq
    simp only [C177, k0, e1, th, g, Option.bind_some]
    rfl
theorem st_print (hN : 2000 ≤ N) (hd : dgZ xt ct z) (h : invC z c1 c2 H S) (s : Int32) : okI z c1 c2 H (C119 xt ct (TT xt ct N 100) N (z + 1) s (z + 106) H) (M245 N s S) := by
  obtain ⟨D, v, bs, tx, mo, π, Ls, LsR, h'⟩ := id h
  obtain ⟨i1, i2, i3, i4, i5, i6, i7, i8, i9, i10, i11, i12, -⟩ := id h'
  have k0 : gK H (z + 1) 5 = some () := gK_of i1
  rcases print_call (xt := xt) (ct := ct) (N := N) (v := v) hN hd i1 i2 i4 i5 s (fun j hj => by
    obtain ⟨hp, fs, oc, to, Ov, Wv, s1, s2, s3⟩ := i12 j hj
    refine ⟨hp, fs, oc, to, _, _, slF_R s1, ?_⟩
    rcases s3 with s3 | ⟨a1, a2, A, B, sts, nds, fcs, l, p1, p2, p3, p4, p5, p6, p7, p8, p9, -⟩
    · exact Or.inl s3
    · exact Or.inr ⟨a1, a2, A, B, sts, nds, fcs, l, p1, p2, p3, p4, p5, p6, p7, p8, p9⟩) with ⟨a, H1, S1, v1, bs1, tx1, e1, e2, e3, e4, e5, e6, e7⟩ | ⟨e1, e2⟩ | ⟨e1, e2⟩
  · obtain ⟨t1, t2⟩ := inv_txt h' e4 e3.1 e5 e6
    obtain ⟨o1, o2⟩ := inv_out (b := a.toInt64) t1
    obtain ⟨-, -, i3'⟩ := inv_cSl t1
    refine ⟨0, a, _, _, ?_, e2, e7, fun _ => mj_put_eq, clF_trans t2 o2, inv_up o1 (by omega) (by omega)⟩
    simp only [C119, k0, e1, th, out_put i3', Option.bind_some]
  · obtain ⟨o1, o2⟩ := inv_thr (ci := 13) h (agZ0 (v := 1))
    refine ⟨1, 0, _, _, ?_, e2, rfl, fun w => absurd w (by decide), o2, inv_up o1 (by omega) (by omega)⟩
    have g : gC (mj_new H 6 (.inr (13, []))) H.2.1 = some 13 := gC_of mj_new_eq
    simp only [C119, k0, e1, th, g, Option.bind_some]
    rfl
  · obtain ⟨o1, o2⟩ := inv_thr (ci := 14) h (agZ0 (v := 2))
    refine ⟨2, 0, _, _, ?_, e2, rfl, fun w => absurd w (by decide), o2, inv_up o1 (by omega) (by omega)⟩
    have g : gC (mj_new H 6 (.inr (14, []))) H.2.1 = some 14 := gC_of mj_new_eq
    simp only [C119, k0, e1, th, g, Option.bind_some]
    rfl
end CAL
