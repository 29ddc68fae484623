/-! THE LAW'S LOOP -/
theorem md_eq {a : Nat} {ra : Nat → Nat} {S : mS} {H h h' : mj_H} (m : md a ra S h) (m' : md a ra S h') (f : m_fr a ra H h) (f' : m_fr a ra H h') : h = h' := by
  refine Prod.ext (funext fun q => ?_) (f.1.trans f'.1.symm)
  by_cases e : q = a
  · rw [e, m.1, m'.1]
  · by_cases e2 : ∃ j, j < 62 ∧ 2 ≤ mK j ∧ q = ra j
    · obtain ⟨j, h1, h2, h3⟩ := e2
      rw [h3, m.2 j h1 h2, m'.2 j h1 h2]
    · rw [f.2 q e (fun j h1 h2 h3 => e2 ⟨j, h1, h2, h3⟩), f'.2 q e (fun j h1 h2 h3 => e2 ⟨j, h1, h2, h3⟩)]
/-- from the loop's head all is well, within room -/
def LWx (xt : mj_X) (ct : Nat → Value) (d b z B1 B2 : Nat) (i : Int32) (H : mj_H) : Prop := ∃ K : mj_H, LW xt ct d b (z + 1) (z + 63) (z + 106) i H (.inl (some (.int 1)), K) ∧ K.2.1 ≤ B1 ∧ K.2.2 ≤ B2
/-- the reference's cells -/
def raZ (z : Nat) (ra : Nat → Nat) : Prop := ∀ j, j < 62 → 2 ≤ mK j → z + 64 ≤ ra j ∧ ra j < z + 106
section LOP
variable {xt : mj_X} {ct : Nat → Value} {O : OR} {N d b z B1 B2 c1 c2 : Nat} {ra : Nat → Nat} {i len w0 w1 w2 w3 : Int32} {H : mj_H} {S : mS}
theorem lw_pick {S2 : mS} {H1 : mj_H} (h : ∀ h', md (z + 63) ra S2 h' → m_fr (z + 63) ra H1 h' → LWx xt ct d b z B1 B2 i h') : ∃ K : mj_H, (∀ h', md (z + 63) ra S2 h' → m_fr (z + 63) ra H1 h' → LW xt ct d b (z + 1) (z + 63) (z + 106) i h' (.inl (some (.int 1)), K)) ∧ K.2.1 ≤ B1 ∧ K.2.2 ≤ B2 := by
  by_cases hex : ∃ h', md (z + 63) ra S2 h' ∧ m_fr (z + 63) ra H1 h'
  · obtain ⟨h0, m0, f0⟩ := hex
    obtain ⟨K, k1, k2, k3⟩ := h h0 m0 f0
    exact ⟨K, fun h' m' f' => by rw [md_eq m' m0 f' f0]; exact k1, k2, k3⟩
  · exact ⟨(fun _ => none, 0, 0), fun h' m' f' => absurd ⟨h', m', f'⟩ hex, Nat.zero_le _, Nat.zero_le _⟩
theorem md_clF {H1 : mj_H} (hz : raZ z ra) (m : md (z + 63) ra S H) (f : clF z H H1) : md (z + 63) ra S H1 := ⟨(f _ (by omega)).trans m.1, fun j h1 h2 => (f _ (by have := hz j h1 h2; omega)).trans (m.2 j h1 h2)⟩
theorem rF_of {H1 : mj_H} (hz : raZ z ra) (f : m_fr (z + 63) ra H H1) : rF z H H1 := ⟨fun q hq => f.2 q (by omega) (fun j h1 h2 e => by have := hz j h1 h2; omega), f.1⟩
theorem mo_of {q : Nat} (hz : raZ z ra) (hq : q < z + 63 ∨ z + 106 ≤ q) : m_out (z + 63) ra q := ⟨by omega, fun j h1 h2 e => by have := hz j h1 h2; omega⟩
theorem aL_out {H1 : mj_H} {v : Int64} (h : H1.1 (z + 106) = some (.inl (.long, [.long v]))) : aL xt H1 (z + 106) 0 = some v := aL_of h (by decide) rfl
theorem lw_s0 (hct : ct 0 = .int 1) (hf : ∃ o, vtO (ct 1) = some o) (hd : dgZ xt ct z) (hN : 100000000000000000 ≤ N) (hT : TT xt ct N 100 = O) (hO : oOK xt ct d O) (hsep : m_sep (z + 63) ra) (hz : raZ z ra) (hb : b ≤ z) (RN : ∀ h : mj_H, h.1 b = none → aN xt h b = some len) (hlt : mj_c2 .gt i (len - 4) = false) (R0 : ∀ h : mj_H, h.1 b = none → aI xt h b i = some w0) (R1 : ∀ h : mj_H, h.1 b = none → aI xt h b (i + 1) = some w1) (R2 : ∀ h : mj_H, h.1 b = none → aI xt h b (i + 2) = some w2) (R3 : ∀ h : mj_H, h.1 b = none → aI xt h b (i + 3) = some w3) (hb0 : H.1 b = none) (h : invC z c1 c2 H S) (hm : md (z + 63) ra S H) (next : ∀ H' S', invC z (c1 + 250) (c2 + 11400) H' S' → md (z + 63) ra S' H' → H'.1 b = none → LWx xt ct d b z B1 B2 (i + 4) H') (hw : w0 &&& 31 = 0) : LWx xt ct d b z B1 B2 i H := by
  have hbo : m_out (z + 63) ra b := mo_of hz (by omega)
  have ho' : m_out (z + 63) ra (z + 106) := mo_of hz (by omega)
  have hx : gC H (z + 1) = some 5 := gC_of (inv_cSl h).1
  have st : okA z c1 c2 H (C9 xt ct O N (z + 1) (((w1 : Int32).toInt64 <<< ((32 : Int32).toInt64 &&& 63)) ||| ((w2 : Int32).toInt64 &&& 4294967295)) w3 H) (M204 N (((w1 : Int32).toInt64 <<< ((32 : Int32).toInt64 &&& 63)) ||| ((w2 : Int32).toInt64 &&& 4294967295)) w3 S) := st_type (by omega) h _ _
  obtain ⟨a, H1, S1, e1, e2, f, i1⟩ := st
  have hb1 : H1.1 b = none := (f b (Or.inl hb)).trans hb0
  obtain ⟨K, hr, k1, k2⟩ := lw_pick (fun h' m' f' => next h' S1 (inv_ref i1 (rF_of hz f')) m' (m_fr_b f' hbo hb1))
  have hm1 := md_clF hz hm f
  have r : LW xt ct d b (z + 1) (z + 63) (z + 106) i H (.inl (some (.int 1)), K) := law_0 (O := O) (N := N) (q1 := (a, H1)) (q2 := (a, S1)) hct hO hsep hbo RN hlt R0 R1 R2 R3 hb0 hw hx e1 hb1 hm1 e2 rfl hr
  exact ⟨K, r, k1, k2⟩
theorem lw_s1 (hct : ct 0 = .int 1) (hf : ∃ o, vtO (ct 1) = some o) (hd : dgZ xt ct z) (hN : 100000000000000000 ≤ N) (hT : TT xt ct N 100 = O) (hO : oOK xt ct d O) (hsep : m_sep (z + 63) ra) (hz : raZ z ra) (hb : b ≤ z) (RN : ∀ h : mj_H, h.1 b = none → aN xt h b = some len) (hlt : mj_c2 .gt i (len - 4) = false) (R0 : ∀ h : mj_H, h.1 b = none → aI xt h b i = some w0) (R1 : ∀ h : mj_H, h.1 b = none → aI xt h b (i + 1) = some w1) (R2 : ∀ h : mj_H, h.1 b = none → aI xt h b (i + 2) = some w2) (R3 : ∀ h : mj_H, h.1 b = none → aI xt h b (i + 3) = some w3) (hb0 : H.1 b = none) (h : invC z c1 c2 H S) (hm : md (z + 63) ra S H) (next : ∀ H' S', invC z (c1 + 250) (c2 + 11400) H' S' → md (z + 63) ra S' H' → H'.1 b = none → LWx xt ct d b z B1 B2 (i + 4) H') (hw : w0 &&& 31 = 1) : LWx xt ct d b z B1 B2 i H := by
  have hbo : m_out (z + 63) ra b := mo_of hz (by omega)
  have ho' : m_out (z + 63) ra (z + 106) := mo_of hz (by omega)
  have hx : gC H (z + 1) = some 5 := gC_of (inv_cSl h).1
  have st : okA z c1 c2 H (C36 xt ct O N (z + 1) H) (M207 N S) := st_wipe h
  obtain ⟨a, H1, S1, e1, e2, f, i1⟩ := st
  have hb1 : H1.1 b = none := (f b (Or.inl hb)).trans hb0
  obtain ⟨K, hr, k1, k2⟩ := lw_pick (fun h' m' f' => next h' S1 (inv_ref i1 (rF_of hz f')) m' (m_fr_b f' hbo hb1))
  have hm1 := md_clF hz hm f
  have r : LW xt ct d b (z + 1) (z + 63) (z + 106) i H (.inl (some (.int 1)), K) := law_1 (O := O) (N := N) (q1 := (a, H1)) (q2 := (a, S1)) hct hO hsep hbo RN hlt R0 R1 R2 R3 hb0 hw hx e1 hb1 hm1 e2 rfl hr
  exact ⟨K, r, k1, k2⟩
theorem lw_s2 (hct : ct 0 = .int 1) (hf : ∃ o, vtO (ct 1) = some o) (hd : dgZ xt ct z) (hN : 100000000000000000 ≤ N) (hT : TT xt ct N 100 = O) (hO : oOK xt ct d O) (hsep : m_sep (z + 63) ra) (hz : raZ z ra) (hb : b ≤ z) (RN : ∀ h : mj_H, h.1 b = none → aN xt h b = some len) (hlt : mj_c2 .gt i (len - 4) = false) (R0 : ∀ h : mj_H, h.1 b = none → aI xt h b i = some w0) (R1 : ∀ h : mj_H, h.1 b = none → aI xt h b (i + 1) = some w1) (R2 : ∀ h : mj_H, h.1 b = none → aI xt h b (i + 2) = some w2) (R3 : ∀ h : mj_H, h.1 b = none → aI xt h b (i + 3) = some w3) (hb0 : H.1 b = none) (h : invC z c1 c2 H S) (hm : md (z + 63) ra S H) (next : ∀ H' S', invC z (c1 + 250) (c2 + 11400) H' S' → md (z + 63) ra S' H' → H'.1 b = none → LWx xt ct d b z B1 B2 (i + 4) H') (hw : w0 &&& 31 = 2) : LWx xt ct d b z B1 B2 i H := by
  have hbo : m_out (z + 63) ra b := mo_of hz (by omega)
  have ho' : m_out (z + 63) ra (z + 106) := mo_of hz (by omega)
  have hx : gC H (z + 1) = some 5 := gC_of (inv_cSl h).1
  have st : okA z c1 c2 H (C72 xt ct O N (z + 1) w1 H) (M208 N w1 S) := st_char hf h w1
  obtain ⟨a, H1, S1, e1, e2, f, i1⟩ := st
  have hb1 : H1.1 b = none := (f b (Or.inl hb)).trans hb0
  obtain ⟨K, hr, k1, k2⟩ := lw_pick (fun h' m' f' => next h' S1 (inv_ref i1 (rF_of hz f')) m' (m_fr_b f' hbo hb1))
  have hm1 := md_clF hz hm f
  have r : LW xt ct d b (z + 1) (z + 63) (z + 106) i H (.inl (some (.int 1)), K) := law_2 (O := O) (N := N) (q1 := (a, H1)) (q2 := (a, S1)) hct hO hsep hbo RN hlt R0 R1 R2 R3 hb0 hw hx e1 hb1 hm1 e2 rfl hr
  exact ⟨K, r, k1, k2⟩
theorem lw_s4 (hct : ct 0 = .int 1) (hf : ∃ o, vtO (ct 1) = some o) (hd : dgZ xt ct z) (hN : 100000000000000000 ≤ N) (hT : TT xt ct N 100 = O) (hO : oOK xt ct d O) (hsep : m_sep (z + 63) ra) (hz : raZ z ra) (hb : b ≤ z) (RN : ∀ h : mj_H, h.1 b = none → aN xt h b = some len) (hlt : mj_c2 .gt i (len - 4) = false) (R0 : ∀ h : mj_H, h.1 b = none → aI xt h b i = some w0) (R1 : ∀ h : mj_H, h.1 b = none → aI xt h b (i + 1) = some w1) (R2 : ∀ h : mj_H, h.1 b = none → aI xt h b (i + 2) = some w2) (R3 : ∀ h : mj_H, h.1 b = none → aI xt h b (i + 3) = some w3) (hb0 : H.1 b = none) (h : invC z c1 c2 H S) (hm : md (z + 63) ra S H) (next : ∀ H' S', invC z (c1 + 250) (c2 + 11400) H' S' → md (z + 63) ra S' H' → H'.1 b = none → LWx xt ct d b z B1 B2 (i + 4) H') (hw : w0 &&& 31 = 4) : LWx xt ct d b z B1 B2 i H := by
  have hbo : m_out (z + 63) ra b := mo_of hz (by omega)
  have ho' : m_out (z + 63) ra (z + 106) := mo_of hz (by omega)
  have hx : gC H (z + 1) = some 5 := gC_of (inv_cSl h).1
  have st : okA z c1 c2 H (C75 xt ct O N (z + 1) H) (M244 N S) := st_place h
  obtain ⟨a, H1, S1, e1, e2, f, i1⟩ := st
  have hb1 : H1.1 b = none := (f b (Or.inl hb)).trans hb0
  obtain ⟨K, hr, k1, k2⟩ := lw_pick (fun h' m' f' => next h' S1 (inv_ref i1 (rF_of hz f')) m' (m_fr_b f' hbo hb1))
  have hm1 := md_clF hz hm f
  have r : LW xt ct d b (z + 1) (z + 63) (z + 106) i H (.inl (some (.int 1)), K) := law_4 (O := O) (N := N) (q1 := (a, H1)) (q2 := (a, S1)) hct hO hsep hbo RN hlt R0 R1 R2 R3 hb0 hw hx e1 hb1 hm1 e2 rfl hr
  exact ⟨K, r, k1, k2⟩
theorem lw_s7 (hct : ct 0 = .int 1) (hf : ∃ o, vtO (ct 1) = some o) (hd : dgZ xt ct z) (hN : 100000000000000000 ≤ N) (hT : TT xt ct N 100 = O) (hO : oOK xt ct d O) (hsep : m_sep (z + 63) ra) (hz : raZ z ra) (hb : b ≤ z) (RN : ∀ h : mj_H, h.1 b = none → aN xt h b = some len) (hlt : mj_c2 .gt i (len - 4) = false) (R0 : ∀ h : mj_H, h.1 b = none → aI xt h b i = some w0) (R1 : ∀ h : mj_H, h.1 b = none → aI xt h b (i + 1) = some w1) (R2 : ∀ h : mj_H, h.1 b = none → aI xt h b (i + 2) = some w2) (R3 : ∀ h : mj_H, h.1 b = none → aI xt h b (i + 3) = some w3) (hb0 : H.1 b = none) (h : invC z c1 c2 H S) (hm : md (z + 63) ra S H) (next : ∀ H' S', invC z (c1 + 250) (c2 + 11400) H' S' → md (z + 63) ra S' H' → H'.1 b = none → LWx xt ct d b z B1 B2 (i + 4) H') (hw : w0 &&& 31 = 7) : LWx xt ct d b z B1 B2 i H := by
  have hbo : m_out (z + 63) ra b := mo_of hz (by omega)
  have ho' : m_out (z + 63) ra (z + 106) := mo_of hz (by omega)
  have hx : gC H (z + 1) = some 5 := gC_of (inv_cSl h).1
  have st : okA z c1 c2 H (C76 xt ct O N (z + 1) H) (M288 N S) := st_states h
  obtain ⟨a, H1, S1, e1, e2, f, i1⟩ := st
  have hb1 : H1.1 b = none := (f b (Or.inl hb)).trans hb0
  obtain ⟨K, hr, k1, k2⟩ := lw_pick (fun h' m' f' => next h' S1 (inv_ref i1 (rF_of hz f')) m' (m_fr_b f' hbo hb1))
  have hm1 := md_clF hz hm f
  have r : LW xt ct d b (z + 1) (z + 63) (z + 106) i H (.inl (some (.int 1)), K) := law_7 (O := O) (N := N) (q1 := (a, H1)) (q2 := (a, S1)) hct hO hsep hbo RN hlt R0 R1 R2 R3 hb0 hw hx e1 hb1 hm1 e2 rfl hr
  exact ⟨K, r, k1, k2⟩
theorem lw_s3 (hct : ct 0 = .int 1) (hf : ∃ o, vtO (ct 1) = some o) (hd : dgZ xt ct z) (hN : 100000000000000000 ≤ N) (hT : TT xt ct N 100 = O) (hO : oOK xt ct d O) (hsep : m_sep (z + 63) ra) (hz : raZ z ra) (hb : b ≤ z) (RN : ∀ h : mj_H, h.1 b = none → aN xt h b = some len) (hlt : mj_c2 .gt i (len - 4) = false) (R0 : ∀ h : mj_H, h.1 b = none → aI xt h b i = some w0) (R1 : ∀ h : mj_H, h.1 b = none → aI xt h b (i + 1) = some w1) (R2 : ∀ h : mj_H, h.1 b = none → aI xt h b (i + 2) = some w2) (R3 : ∀ h : mj_H, h.1 b = none → aI xt h b (i + 3) = some w3) (hb0 : H.1 b = none) (h : invC z c1 c2 H S) (hm : md (z + 63) ra S H) (next : ∀ H' S', invC z (c1 + 250) (c2 + 11400) H' S' → md (z + 63) ra S' H' → H'.1 b = none → LWx xt ct d b z B1 B2 (i + 4) H') (hw : w0 &&& 31 = 3) : LWx xt ct d b z B1 B2 i H := by
  have hbo : m_out (z + 63) ra b := mo_of hz (by omega)
  have ho' : m_out (z + 63) ra (z + 106) := mo_of hz (by omega)
  obtain ⟨hx, hs, ho⟩ := inv_cSl h
  have st : okI z c1 c2 H (C77 xt ct O N (z + 1) w1 (z + 106) H) (M209 N w1 S) := by rw [← hT]; exact st_read (by omega) hf h w1
  obtain ⟨code, b', H1, S1, e1, e2, e3, e4, f, i1⟩ := st
  have hb1 : H1.1 b = none := (f b (Or.inl hb)).trans hb0
  obtain ⟨K, hr, k1, k2⟩ := lw_pick (fun h' m' f' => next h' S1 (inv_ref i1 (rF_of hz f')) m' (m_fr_b f' hbo hb1))
  have hm1 := md_clF hz hm f
  have m3 : M203 N S1 = some (S1.1 0, S1) := rfl
  by_cases hk : code = 0
  · have hv := aL_out (xt := xt) (e4 hk)
    have r : LW xt ct d b (z + 1) (z + 63) (z + 106) i H (.inl (some (.int 1)), K) := law_3V (O := O) (N := N) (q1 := (code, H1)) (q2 := (b', S1)) (q3 := (S1.1 0, S1)) hct hO hsep hbo RN hlt R0 R1 R2 R3 hb0 hw e1 hb1 hm1 ho' hv e2 m3 e3 hk rfl hr
    exact ⟨K, r, k1, k2⟩
  · have r : LW xt ct d b (z + 1) (z + 63) (z + 106) i H (.inl (some (.int 1)), K) := law_3X (O := O) (N := N) (q1 := (code, H1)) (q2 := (b', S1)) (q3 := (S1.1 0, S1)) hct hO hsep hbo RN hlt R0 R1 R2 R3 hb0 hw e1 hb1 hm1 e2 m3 e3 hk hr
    exact ⟨K, r, k1, k2⟩
theorem lw_s5 (hct : ct 0 = .int 1) (hf : ∃ o, vtO (ct 1) = some o) (hd : dgZ xt ct z) (hN : 100000000000000000 ≤ N) (hT : TT xt ct N 100 = O) (hO : oOK xt ct d O) (hsep : m_sep (z + 63) ra) (hz : raZ z ra) (hb : b ≤ z) (RN : ∀ h : mj_H, h.1 b = none → aN xt h b = some len) (hlt : mj_c2 .gt i (len - 4) = false) (R0 : ∀ h : mj_H, h.1 b = none → aI xt h b i = some w0) (R1 : ∀ h : mj_H, h.1 b = none → aI xt h b (i + 1) = some w1) (R2 : ∀ h : mj_H, h.1 b = none → aI xt h b (i + 2) = some w2) (R3 : ∀ h : mj_H, h.1 b = none → aI xt h b (i + 3) = some w3) (hb0 : H.1 b = none) (h : invC z c1 c2 H S) (hm : md (z + 63) ra S H) (next : ∀ H' S', invC z (c1 + 250) (c2 + 11400) H' S' → md (z + 63) ra S' H' → H'.1 b = none → LWx xt ct d b z B1 B2 (i + 4) H') (hw : w0 &&& 31 = 5) : LWx xt ct d b z B1 B2 i H := by
  have hbo : m_out (z + 63) ra b := mo_of hz (by omega)
  have ho' : m_out (z + 63) ra (z + 106) := mo_of hz (by omega)
  obtain ⟨hx, hs, ho⟩ := inv_cSl h
  have st : okI z c1 c2 H (C119 xt ct O N (z + 1) w1 (z + 106) H) (M245 N w1 S) := by rw [← hT]; exact st_print (by omega) hd h w1
  obtain ⟨code, b', H1, S1, e1, e2, e3, e4, f, i1⟩ := st
  have hb1 : H1.1 b = none := (f b (Or.inl hb)).trans hb0
  obtain ⟨K, hr, k1, k2⟩ := lw_pick (fun h' m' f' => next h' S1 (inv_ref i1 (rF_of hz f')) m' (m_fr_b f' hbo hb1))
  have hm1 := md_clF hz hm f
  have m3 : M203 N S1 = some (S1.1 0, S1) := rfl
  by_cases hk : code = 0
  · have hv := aL_out (xt := xt) (e4 hk)
    have r : LW xt ct d b (z + 1) (z + 63) (z + 106) i H (.inl (some (.int 1)), K) := law_5V (O := O) (N := N) (q1 := (code, H1)) (q2 := (b', S1)) (q3 := (S1.1 0, S1)) hct hO hsep hbo RN hlt R0 R1 R2 R3 hb0 hw e1 hb1 hm1 ho' hv e2 m3 e3 hk rfl hr
    exact ⟨K, r, k1, k2⟩
  · have r : LW xt ct d b (z + 1) (z + 63) (z + 106) i H (.inl (some (.int 1)), K) := law_5X (O := O) (N := N) (q1 := (code, H1)) (q2 := (b', S1)) (q3 := (S1.1 0, S1)) hct hO hsep hbo RN hlt R0 R1 R2 R3 hb0 hw e1 hb1 hm1 e2 m3 e3 hk hr
    exact ⟨K, r, k1, k2⟩
theorem lw_s6 (hct : ct 0 = .int 1) (hf : ∃ o, vtO (ct 1) = some o) (hd : dgZ xt ct z) (hN : 100000000000000000 ≤ N) (hT : TT xt ct N 100 = O) (hO : oOK xt ct d O) (hsep : m_sep (z + 63) ra) (hz : raZ z ra) (hb : b ≤ z) (RN : ∀ h : mj_H, h.1 b = none → aN xt h b = some len) (hlt : mj_c2 .gt i (len - 4) = false) (R0 : ∀ h : mj_H, h.1 b = none → aI xt h b i = some w0) (R1 : ∀ h : mj_H, h.1 b = none → aI xt h b (i + 1) = some w1) (R2 : ∀ h : mj_H, h.1 b = none → aI xt h b (i + 2) = some w2) (R3 : ∀ h : mj_H, h.1 b = none → aI xt h b (i + 3) = some w3) (hb0 : H.1 b = none) (h : invC z c1 c2 H S) (hm : md (z + 63) ra S H) (next : ∀ H' S', invC z (c1 + 250) (c2 + 11400) H' S' → md (z + 63) ra S' H' → H'.1 b = none → LWx xt ct d b z B1 B2 (i + 4) H') (hw : w0 &&& 31 = 6) : LWx xt ct d b z B1 B2 i H := by
  have hbo : m_out (z + 63) ra b := mo_of hz (by omega)
  have ho' : m_out (z + 63) ra (z + 106) := mo_of hz (by omega)
  obtain ⟨hx, hs, ho⟩ := inv_cSl h
  have st : okI z c1 c2 H (C133 xt ct O N (z + 1) w1 (z + 106) H) (M259 N w1 S) := by rw [← hT]; exact st_run hN h w1
  obtain ⟨code, b', H1, S1, e1, e2, e3, e4, f, i1⟩ := st
  have hb1 : H1.1 b = none := (f b (Or.inl hb)).trans hb0
  obtain ⟨K, hr, k1, k2⟩ := lw_pick (fun h' m' f' => next h' S1 (inv_ref i1 (rF_of hz f')) m' (m_fr_b f' hbo hb1))
  have hm1 := md_clF hz hm f
  have m3 : M203 N S1 = some (S1.1 0, S1) := rfl
  by_cases hk : code = 0
  · have hv := aL_out (xt := xt) (e4 hk)
    have r : LW xt ct d b (z + 1) (z + 63) (z + 106) i H (.inl (some (.int 1)), K) := law_6V (O := O) (N := N) (q1 := (code, H1)) (q2 := (b', S1)) (q3 := (S1.1 0, S1)) hct hO hsep hbo RN hlt R0 R1 R2 R3 hb0 hw e1 hb1 hm1 ho' hv e2 m3 e3 hk rfl hr
    exact ⟨K, r, k1, k2⟩
  · have r : LW xt ct d b (z + 1) (z + 63) (z + 106) i H (.inl (some (.int 1)), K) := law_6X (O := O) (N := N) (q1 := (code, H1)) (q2 := (b', S1)) (q3 := (S1.1 0, S1)) hct hO hsep hbo RN hlt R0 R1 R2 R3 hb0 hw e1 hb1 hm1 e2 m3 e3 hk hr
    exact ⟨K, r, k1, k2⟩
theorem lw_s8 (hct : ct 0 = .int 1) (hf : ∃ o, vtO (ct 1) = some o) (hd : dgZ xt ct z) (hN : 100000000000000000 ≤ N) (hT : TT xt ct N 100 = O) (hO : oOK xt ct d O) (hsep : m_sep (z + 63) ra) (hz : raZ z ra) (hb : b ≤ z) (RN : ∀ h : mj_H, h.1 b = none → aN xt h b = some len) (hlt : mj_c2 .gt i (len - 4) = false) (R0 : ∀ h : mj_H, h.1 b = none → aI xt h b i = some w0) (R1 : ∀ h : mj_H, h.1 b = none → aI xt h b (i + 1) = some w1) (R2 : ∀ h : mj_H, h.1 b = none → aI xt h b (i + 2) = some w2) (R3 : ∀ h : mj_H, h.1 b = none → aI xt h b (i + 3) = some w3) (hb0 : H.1 b = none) (h : invC z c1 c2 H S) (hm : md (z + 63) ra S H) (next : ∀ H' S', invC z (c1 + 250) (c2 + 11400) H' S' → md (z + 63) ra S' H' → H'.1 b = none → LWx xt ct d b z B1 B2 (i + 4) H') (hw : w0 &&& 31 = 8) : LWx xt ct d b z B1 B2 i H := by
  have hbo : m_out (z + 63) ra b := mo_of hz (by omega)
  have ho' : m_out (z + 63) ra (z + 106) := mo_of hz (by omega)
  obtain ⟨hx, hs, ho⟩ := inv_cSl h
  have st : okL z c1 c2 H (C177 xt ct O N (z + 1) w1 (z + 106) H) (M258 N w1 S) := st_factor (by omega) h w1
  obtain ⟨code, b', H1, S1, e1, e2, e3, e4, f, i1⟩ := st
  have hb1 : H1.1 b = none := (f b (Or.inl hb)).trans hb0
  obtain ⟨K, hr, k1, k2⟩ := lw_pick (fun h' m' f' => next h' S1 (inv_ref i1 (rF_of hz f')) m' (m_fr_b f' hbo hb1))
  have hm1 := md_clF hz hm f
  have m3 : M203 N S1 = some (S1.1 0, S1) := rfl
  by_cases hk : code = 0
  · have hv := aL_out (xt := xt) (e4 hk)
    have r : LW xt ct d b (z + 1) (z + 63) (z + 106) i H (.inl (some (.int 1)), K) := law_8V (O := O) (N := N) (q1 := (code, H1)) (q2 := (b', S1)) (q3 := (S1.1 0, S1)) hct hO hsep hbo RN hlt R0 R1 R2 R3 hb0 hw e1 hb1 hm1 ho' hv e2 m3 e3 hk rfl hr
    exact ⟨K, r, k1, k2⟩
  · have r : LW xt ct d b (z + 1) (z + 63) (z + 106) i H (.inl (some (.int 1)), K) := law_8X (O := O) (N := N) (q1 := (code, H1)) (q2 := (b', S1)) (q3 := (S1.1 0, S1)) hct hO hsep hbo RN hlt R0 R1 R2 R3 hb0 hw e1 hb1 hm1 e2 m3 e3 hk hr
    exact ⟨K, r, k1, k2⟩
theorem lw_s9 (hct : ct 0 = .int 1) (hf : ∃ o, vtO (ct 1) = some o) (hd : dgZ xt ct z) (hN : 100000000000000000 ≤ N) (hT : TT xt ct N 100 = O) (hO : oOK xt ct d O) (hsep : m_sep (z + 63) ra) (hz : raZ z ra) (hb : b ≤ z) (RN : ∀ h : mj_H, h.1 b = none → aN xt h b = some len) (hlt : mj_c2 .gt i (len - 4) = false) (R0 : ∀ h : mj_H, h.1 b = none → aI xt h b i = some w0) (R1 : ∀ h : mj_H, h.1 b = none → aI xt h b (i + 1) = some w1) (R2 : ∀ h : mj_H, h.1 b = none → aI xt h b (i + 2) = some w2) (R3 : ∀ h : mj_H, h.1 b = none → aI xt h b (i + 3) = some w3) (hb0 : H.1 b = none) (h : invC z c1 c2 H S) (hm : md (z + 63) ra S H) (next : ∀ H' S', invC z (c1 + 250) (c2 + 11400) H' S' → md (z + 63) ra S' H' → H'.1 b = none → LWx xt ct d b z B1 B2 (i + 4) H') (hw : w0 &&& 31 = 9) : LWx xt ct d b z B1 B2 i H := by
  have hbo : m_out (z + 63) ra b := mo_of hz (by omega)
  have ho' : m_out (z + 63) ra (z + 106) := mo_of hz (by omega)
  obtain ⟨hx, hs, ho⟩ := inv_cSl h
  have st : okI z c1 c2 H (C179 xt ct O N (z + 1) w1 (z + 106) H) (M289 N w1 S) := okI_of h (outcomes_call hx hs ho w1)
  obtain ⟨code, b', H1, S1, e1, e2, e3, e4, f, i1⟩ := st
  have hb1 : H1.1 b = none := (f b (Or.inl hb)).trans hb0
  obtain ⟨K, hr, k1, k2⟩ := lw_pick (fun h' m' f' => next h' S1 (inv_ref i1 (rF_of hz f')) m' (m_fr_b f' hbo hb1))
  have hm1 := md_clF hz hm f
  have m3 : M203 N S1 = some (S1.1 0, S1) := rfl
  by_cases hk : code = 0
  · have hv := aL_out (xt := xt) (e4 hk)
    have r : LW xt ct d b (z + 1) (z + 63) (z + 106) i H (.inl (some (.int 1)), K) := law_9V (O := O) (N := N) (q1 := (code, H1)) (q2 := (b', S1)) (q3 := (S1.1 0, S1)) hct hO hsep hbo RN hlt R0 R1 R2 R3 hb0 hw e1 hb1 hm1 ho' hv e2 m3 e3 hk rfl hr
    exact ⟨K, r, k1, k2⟩
  · have r : LW xt ct d b (z + 1) (z + 63) (z + 106) i H (.inl (some (.int 1)), K) := law_9X (O := O) (N := N) (q1 := (code, H1)) (q2 := (b', S1)) (q3 := (S1.1 0, S1)) hct hO hsep hbo RN hlt R0 R1 R2 R3 hb0 hw e1 hb1 hm1 e2 m3 e3 hk hr
    exact ⟨K, r, k1, k2⟩
theorem lw_s10 (hct : ct 0 = .int 1) (hf : ∃ o, vtO (ct 1) = some o) (hd : dgZ xt ct z) (hN : 100000000000000000 ≤ N) (hT : TT xt ct N 100 = O) (hO : oOK xt ct d O) (hsep : m_sep (z + 63) ra) (hz : raZ z ra) (hb : b ≤ z) (RN : ∀ h : mj_H, h.1 b = none → aN xt h b = some len) (hlt : mj_c2 .gt i (len - 4) = false) (R0 : ∀ h : mj_H, h.1 b = none → aI xt h b i = some w0) (R1 : ∀ h : mj_H, h.1 b = none → aI xt h b (i + 1) = some w1) (R2 : ∀ h : mj_H, h.1 b = none → aI xt h b (i + 2) = some w2) (R3 : ∀ h : mj_H, h.1 b = none → aI xt h b (i + 3) = some w3) (hb0 : H.1 b = none) (h : invC z c1 c2 H S) (hm : md (z + 63) ra S H) (next : ∀ H' S', invC z (c1 + 250) (c2 + 11400) H' S' → md (z + 63) ra S' H' → H'.1 b = none → LWx xt ct d b z B1 B2 (i + 4) H') (hw : w0 &&& 31 = 10) : LWx xt ct d b z B1 B2 i H := by
  have hbo : m_out (z + 63) ra b := mo_of hz (by omega)
  have ho' : m_out (z + 63) ra (z + 106) := mo_of hz (by omega)
  obtain ⟨hx, hs, ho⟩ := inv_cSl h
  have st : okI z c1 c2 H (C182 xt ct O N (z + 1) w1 w2 (z + 106) H) (M291 N w1 w2 S) := okI_of h (outcome_call hx hs ho w1 w2)
  obtain ⟨code, b', H1, S1, e1, e2, e3, e4, f, i1⟩ := st
  have hb1 : H1.1 b = none := (f b (Or.inl hb)).trans hb0
  obtain ⟨K, hr, k1, k2⟩ := lw_pick (fun h' m' f' => next h' S1 (inv_ref i1 (rF_of hz f')) m' (m_fr_b f' hbo hb1))
  have hm1 := md_clF hz hm f
  have m3 : M203 N S1 = some (S1.1 0, S1) := rfl
  by_cases hk : code = 0
  · have hv := aL_out (xt := xt) (e4 hk)
    have r : LW xt ct d b (z + 1) (z + 63) (z + 106) i H (.inl (some (.int 1)), K) := law_10V (O := O) (N := N) (q1 := (code, H1)) (q2 := (b', S1)) (q3 := (S1.1 0, S1)) hct hO hsep hbo RN hlt R0 R1 R2 R3 hb0 hw e1 hb1 hm1 ho' hv e2 m3 e3 hk rfl hr
    exact ⟨K, r, k1, k2⟩
  · have r : LW xt ct d b (z + 1) (z + 63) (z + 106) i H (.inl (some (.int 1)), K) := law_10X (O := O) (N := N) (q1 := (code, H1)) (q2 := (b', S1)) (q3 := (S1.1 0, S1)) hct hO hsep hbo RN hlt R0 R1 R2 R3 hb0 hw e1 hb1 hm1 e2 m3 e3 hk hr
    exact ⟨K, r, k1, k2⟩
theorem lw_s11 (hct : ct 0 = .int 1) (hf : ∃ o, vtO (ct 1) = some o) (hd : dgZ xt ct z) (hN : 100000000000000000 ≤ N) (hT : TT xt ct N 100 = O) (hO : oOK xt ct d O) (hsep : m_sep (z + 63) ra) (hz : raZ z ra) (hb : b ≤ z) (RN : ∀ h : mj_H, h.1 b = none → aN xt h b = some len) (hlt : mj_c2 .gt i (len - 4) = false) (R0 : ∀ h : mj_H, h.1 b = none → aI xt h b i = some w0) (R1 : ∀ h : mj_H, h.1 b = none → aI xt h b (i + 1) = some w1) (R2 : ∀ h : mj_H, h.1 b = none → aI xt h b (i + 2) = some w2) (R3 : ∀ h : mj_H, h.1 b = none → aI xt h b (i + 3) = some w3) (hb0 : H.1 b = none) (h : invC z c1 c2 H S) (hm : md (z + 63) ra S H) (next : ∀ H' S', invC z (c1 + 250) (c2 + 11400) H' S' → md (z + 63) ra S' H' → H'.1 b = none → LWx xt ct d b z B1 B2 (i + 4) H') (hw : w0 &&& 31 = 11) : LWx xt ct d b z B1 B2 i H := by
  have hbo : m_out (z + 63) ra b := mo_of hz (by omega)
  have ho' : m_out (z + 63) ra (z + 106) := mo_of hz (by omega)
  obtain ⟨hx, hs, ho⟩ := inv_cSl h
  have st : okL z c1 c2 H (C185 xt ct O N (z + 1) w1 w2 (z + 106) H) (M293 N w1 w2 S) := okL_of h (ways_call hx hs ho w1 w2)
  obtain ⟨code, b', H1, S1, e1, e2, e3, e4, f, i1⟩ := st
  have hb1 : H1.1 b = none := (f b (Or.inl hb)).trans hb0
  obtain ⟨K, hr, k1, k2⟩ := lw_pick (fun h' m' f' => next h' S1 (inv_ref i1 (rF_of hz f')) m' (m_fr_b f' hbo hb1))
  have hm1 := md_clF hz hm f
  have m3 : M203 N S1 = some (S1.1 0, S1) := rfl
  by_cases hk : code = 0
  · have hv := aL_out (xt := xt) (e4 hk)
    have r : LW xt ct d b (z + 1) (z + 63) (z + 106) i H (.inl (some (.int 1)), K) := law_11V (O := O) (N := N) (q1 := (code, H1)) (q2 := (b', S1)) (q3 := (S1.1 0, S1)) hct hO hsep hbo RN hlt R0 R1 R2 R3 hb0 hw e1 hb1 hm1 ho' hv e2 m3 e3 hk rfl hr
    exact ⟨K, r, k1, k2⟩
  · have r : LW xt ct d b (z + 1) (z + 63) (z + 106) i H (.inl (some (.int 1)), K) := law_11X (O := O) (N := N) (q1 := (code, H1)) (q2 := (b', S1)) (q3 := (S1.1 0, S1)) hct hO hsep hbo RN hlt R0 R1 R2 R3 hb0 hw e1 hb1 hm1 e2 m3 e3 hk hr
    exact ⟨K, r, k1, k2⟩
theorem lw_s12 (hct : ct 0 = .int 1) (hf : ∃ o, vtO (ct 1) = some o) (hd : dgZ xt ct z) (hN : 100000000000000000 ≤ N) (hT : TT xt ct N 100 = O) (hO : oOK xt ct d O) (hsep : m_sep (z + 63) ra) (hz : raZ z ra) (hb : b ≤ z) (RN : ∀ h : mj_H, h.1 b = none → aN xt h b = some len) (hlt : mj_c2 .gt i (len - 4) = false) (R0 : ∀ h : mj_H, h.1 b = none → aI xt h b i = some w0) (R1 : ∀ h : mj_H, h.1 b = none → aI xt h b (i + 1) = some w1) (R2 : ∀ h : mj_H, h.1 b = none → aI xt h b (i + 2) = some w2) (R3 : ∀ h : mj_H, h.1 b = none → aI xt h b (i + 3) = some w3) (hb0 : H.1 b = none) (h : invC z c1 c2 H S) (hm : md (z + 63) ra S H) (next : ∀ H' S', invC z (c1 + 250) (c2 + 11400) H' S' → md (z + 63) ra S' H' → H'.1 b = none → LWx xt ct d b z B1 B2 (i + 4) H') (hw : w0 &&& 31 = 12) : LWx xt ct d b z B1 B2 i H := by
  have hbo : m_out (z + 63) ra b := mo_of hz (by omega)
  have ho' : m_out (z + 63) ra (z + 106) := mo_of hz (by omega)
  obtain ⟨hx, hs, ho⟩ := inv_cSl h
  have st : okL z c1 c2 H (C187 xt ct O N (z + 1) w1 (z + 106) H) (M294 N w1 S) := okL_of h (total_call hx hs ho w1)
  obtain ⟨code, b', H1, S1, e1, e2, e3, e4, f, i1⟩ := st
  have hb1 : H1.1 b = none := (f b (Or.inl hb)).trans hb0
  obtain ⟨K, hr, k1, k2⟩ := lw_pick (fun h' m' f' => next h' S1 (inv_ref i1 (rF_of hz f')) m' (m_fr_b f' hbo hb1))
  have hm1 := md_clF hz hm f
  have m3 : M203 N S1 = some (S1.1 0, S1) := rfl
  by_cases hk : code = 0
  · have hv := aL_out (xt := xt) (e4 hk)
    have r : LW xt ct d b (z + 1) (z + 63) (z + 106) i H (.inl (some (.int 1)), K) := law_12V (O := O) (N := N) (q1 := (code, H1)) (q2 := (b', S1)) (q3 := (S1.1 0, S1)) hct hO hsep hbo RN hlt R0 R1 R2 R3 hb0 hw e1 hb1 hm1 ho' hv e2 m3 e3 hk rfl hr
    exact ⟨K, r, k1, k2⟩
  · have r : LW xt ct d b (z + 1) (z + 63) (z + 106) i H (.inl (some (.int 1)), K) := law_12X (O := O) (N := N) (q1 := (code, H1)) (q2 := (b', S1)) (q3 := (S1.1 0, S1)) hct hO hsep hbo RN hlt R0 R1 R2 R3 hb0 hw e1 hb1 hm1 e2 m3 e3 hk hr
    exact ⟨K, r, k1, k2⟩
theorem lw_s13 (hct : ct 0 = .int 1) (hf : ∃ o, vtO (ct 1) = some o) (hd : dgZ xt ct z) (hN : 100000000000000000 ≤ N) (hT : TT xt ct N 100 = O) (hO : oOK xt ct d O) (hsep : m_sep (z + 63) ra) (hz : raZ z ra) (hb : b ≤ z) (RN : ∀ h : mj_H, h.1 b = none → aN xt h b = some len) (hlt : mj_c2 .gt i (len - 4) = false) (R0 : ∀ h : mj_H, h.1 b = none → aI xt h b i = some w0) (R1 : ∀ h : mj_H, h.1 b = none → aI xt h b (i + 1) = some w1) (R2 : ∀ h : mj_H, h.1 b = none → aI xt h b (i + 2) = some w2) (R3 : ∀ h : mj_H, h.1 b = none → aI xt h b (i + 3) = some w3) (hb0 : H.1 b = none) (h : invC z c1 c2 H S) (hm : md (z + 63) ra S H) (next : ∀ H' S', invC z (c1 + 250) (c2 + 11400) H' S' → md (z + 63) ra S' H' → H'.1 b = none → LWx xt ct d b z B1 B2 (i + 4) H') (hw : w0 &&& 31 = 13) : LWx xt ct d b z B1 B2 i H := by
  have hbo : m_out (z + 63) ra b := mo_of hz (by omega)
  have ho' : m_out (z + 63) ra (z + 106) := mo_of hz (by omega)
  obtain ⟨hx, hs, ho⟩ := inv_cSl h
  have st : okL z c1 c2 H (C189 xt ct O N (z + 1) w1 w2 (z + 106) H) (M295 N w1 w2 S) := okL_of h (moment_call (by omega) hx hs ho w1 w2)
  obtain ⟨code, b', H1, S1, e1, e2, e3, e4, f, i1⟩ := st
  have hb1 : H1.1 b = none := (f b (Or.inl hb)).trans hb0
  obtain ⟨K, hr, k1, k2⟩ := lw_pick (fun h' m' f' => next h' S1 (inv_ref i1 (rF_of hz f')) m' (m_fr_b f' hbo hb1))
  have hm1 := md_clF hz hm f
  have m3 : M203 N S1 = some (S1.1 0, S1) := rfl
  by_cases hk : code = 0
  · have hv := aL_out (xt := xt) (e4 hk)
    have r : LW xt ct d b (z + 1) (z + 63) (z + 106) i H (.inl (some (.int 1)), K) := law_13V (O := O) (N := N) (q1 := (code, H1)) (q2 := (b', S1)) (q3 := (S1.1 0, S1)) hct hO hsep hbo RN hlt R0 R1 R2 R3 hb0 hw e1 hb1 hm1 ho' hv e2 m3 e3 hk rfl hr
    exact ⟨K, r, k1, k2⟩
  · have r : LW xt ct d b (z + 1) (z + 63) (z + 106) i H (.inl (some (.int 1)), K) := law_13X (O := O) (N := N) (q1 := (code, H1)) (q2 := (b', S1)) (q3 := (S1.1 0, S1)) hct hO hsep hbo RN hlt R0 R1 R2 R3 hb0 hw e1 hb1 hm1 e2 m3 e3 hk hr
    exact ⟨K, r, k1, k2⟩
theorem lw_s14 (hct : ct 0 = .int 1) (hf : ∃ o, vtO (ct 1) = some o) (hd : dgZ xt ct z) (hN : 100000000000000000 ≤ N) (hT : TT xt ct N 100 = O) (hO : oOK xt ct d O) (hsep : m_sep (z + 63) ra) (hz : raZ z ra) (hb : b ≤ z) (RN : ∀ h : mj_H, h.1 b = none → aN xt h b = some len) (hlt : mj_c2 .gt i (len - 4) = false) (R0 : ∀ h : mj_H, h.1 b = none → aI xt h b i = some w0) (R1 : ∀ h : mj_H, h.1 b = none → aI xt h b (i + 1) = some w1) (R2 : ∀ h : mj_H, h.1 b = none → aI xt h b (i + 2) = some w2) (R3 : ∀ h : mj_H, h.1 b = none → aI xt h b (i + 3) = some w3) (hb0 : H.1 b = none) (h : invC z c1 c2 H S) (hm : md (z + 63) ra S H) (next : ∀ H' S', invC z (c1 + 250) (c2 + 11400) H' S' → md (z + 63) ra S' H' → H'.1 b = none → LWx xt ct d b z B1 B2 (i + 4) H') (hw : w0 &&& 31 = 14) : LWx xt ct d b z B1 B2 i H := by
  have hbo : m_out (z + 63) ra b := mo_of hz (by omega)
  have ho' : m_out (z + 63) ra (z + 106) := mo_of hz (by omega)
  obtain ⟨hx, hs, ho⟩ := inv_cSl h
  have st : okI z c1 c2 H (C192 xt ct O N (z + 1) w1 w2 (z + 106) H) (M296 N w1 w2 S) := okI_of h (millionths_call hx hs ho w1 w2)
  obtain ⟨code, b', H1, S1, e1, e2, e3, e4, f, i1⟩ := st
  have hb1 : H1.1 b = none := (f b (Or.inl hb)).trans hb0
  obtain ⟨K, hr, k1, k2⟩ := lw_pick (fun h' m' f' => next h' S1 (inv_ref i1 (rF_of hz f')) m' (m_fr_b f' hbo hb1))
  have hm1 := md_clF hz hm f
  have m3 : M203 N S1 = some (S1.1 0, S1) := rfl
  by_cases hk : code = 0
  · have hv := aL_out (xt := xt) (e4 hk)
    have r : LW xt ct d b (z + 1) (z + 63) (z + 106) i H (.inl (some (.int 1)), K) := law_14V (O := O) (N := N) (q1 := (code, H1)) (q2 := (b', S1)) (q3 := (S1.1 0, S1)) hct hO hsep hbo RN hlt R0 R1 R2 R3 hb0 hw e1 hb1 hm1 ho' hv e2 m3 e3 hk rfl hr
    exact ⟨K, r, k1, k2⟩
  · have r : LW xt ct d b (z + 1) (z + 63) (z + 106) i H (.inl (some (.int 1)), K) := law_14X (O := O) (N := N) (q1 := (code, H1)) (q2 := (b', S1)) (q3 := (S1.1 0, S1)) hct hO hsep hbo RN hlt R0 R1 R2 R3 hb0 hw e1 hb1 hm1 e2 m3 e3 hk hr
    exact ⟨K, r, k1, k2⟩
theorem lw_s15 (hct : ct 0 = .int 1) (hf : ∃ o, vtO (ct 1) = some o) (hd : dgZ xt ct z) (hN : 100000000000000000 ≤ N) (hT : TT xt ct N 100 = O) (hO : oOK xt ct d O) (hsep : m_sep (z + 63) ra) (hz : raZ z ra) (hb : b ≤ z) (RN : ∀ h : mj_H, h.1 b = none → aN xt h b = some len) (hlt : mj_c2 .gt i (len - 4) = false) (R0 : ∀ h : mj_H, h.1 b = none → aI xt h b i = some w0) (R1 : ∀ h : mj_H, h.1 b = none → aI xt h b (i + 1) = some w1) (R2 : ∀ h : mj_H, h.1 b = none → aI xt h b (i + 2) = some w2) (R3 : ∀ h : mj_H, h.1 b = none → aI xt h b (i + 3) = some w3) (hb0 : H.1 b = none) (h : invC z c1 c2 H S) (hm : md (z + 63) ra S H) (next : ∀ H' S', invC z (c1 + 250) (c2 + 11400) H' S' → md (z + 63) ra S' H' → H'.1 b = none → LWx xt ct d b z B1 B2 (i + 4) H') (hw : w0 &&& 31 = 15) : LWx xt ct d b z B1 B2 i H := by
  have hbo : m_out (z + 63) ra b := mo_of hz (by omega)
  have ho' : m_out (z + 63) ra (z + 106) := mo_of hz (by omega)
  obtain ⟨hx, hs, ho⟩ := inv_cSl h
  have st : okI z c1 c2 H (C195 xt ct O N (z + 1) w1 w2 w3 (z + 106) H) (M297 N w1 w2 w3 S) := okI_of h (percentile_call (by omega) hx hs ho w1 w2 w3)
  obtain ⟨code, b', H1, S1, e1, e2, e3, e4, f, i1⟩ := st
  have hb1 : H1.1 b = none := (f b (Or.inl hb)).trans hb0
  obtain ⟨K, hr, k1, k2⟩ := lw_pick (fun h' m' f' => next h' S1 (inv_ref i1 (rF_of hz f')) m' (m_fr_b f' hbo hb1))
  have hm1 := md_clF hz hm f
  have m3 : M203 N S1 = some (S1.1 0, S1) := rfl
  by_cases hk : code = 0
  · have hv := aL_out (xt := xt) (e4 hk)
    have r : LW xt ct d b (z + 1) (z + 63) (z + 106) i H (.inl (some (.int 1)), K) := law_15V (O := O) (N := N) (q1 := (code, H1)) (q2 := (b', S1)) (q3 := (S1.1 0, S1)) hct hO hsep hbo RN hlt R0 R1 R2 R3 hb0 hw e1 hb1 hm1 ho' hv e2 m3 e3 hk rfl hr
    exact ⟨K, r, k1, k2⟩
  · have r : LW xt ct d b (z + 1) (z + 63) (z + 106) i H (.inl (some (.int 1)), K) := law_15X (O := O) (N := N) (q1 := (code, H1)) (q2 := (b', S1)) (q3 := (S1.1 0, S1)) hct hO hsep hbo RN hlt R0 R1 R2 R3 hb0 hw e1 hb1 hm1 e2 m3 e3 hk hr
    exact ⟨K, r, k1, k2⟩
theorem lw_s16 (hct : ct 0 = .int 1) (hf : ∃ o, vtO (ct 1) = some o) (hd : dgZ xt ct z) (hN : 100000000000000000 ≤ N) (hT : TT xt ct N 100 = O) (hO : oOK xt ct d O) (hsep : m_sep (z + 63) ra) (hz : raZ z ra) (hb : b ≤ z) (RN : ∀ h : mj_H, h.1 b = none → aN xt h b = some len) (hlt : mj_c2 .gt i (len - 4) = false) (R0 : ∀ h : mj_H, h.1 b = none → aI xt h b i = some w0) (R1 : ∀ h : mj_H, h.1 b = none → aI xt h b (i + 1) = some w1) (R2 : ∀ h : mj_H, h.1 b = none → aI xt h b (i + 2) = some w2) (R3 : ∀ h : mj_H, h.1 b = none → aI xt h b (i + 3) = some w3) (hb0 : H.1 b = none) (h : invC z c1 c2 H S) (hm : md (z + 63) ra S H) (next : ∀ H' S', invC z (c1 + 250) (c2 + 11400) H' S' → md (z + 63) ra S' H' → H'.1 b = none → LWx xt ct d b z B1 B2 (i + 4) H') (hw : w0 &&& 31 = 16) : LWx xt ct d b z B1 B2 i H := by
  have hbo : m_out (z + 63) ra b := mo_of hz (by omega)
  have ho' : m_out (z + 63) ra (z + 106) := mo_of hz (by omega)
  obtain ⟨hx, hs, ho⟩ := inv_cSl h
  have st : okI z c1 c2 H (C197 xt ct O N (z + 1) w1 (((w2 : Int32).toInt64 <<< ((32 : Int32).toInt64 &&& 63)) ||| ((w3 : Int32).toInt64 &&& 4294967295)) (z + 106) H) (M298 N w1 (((w2 : Int32).toInt64 <<< ((32 : Int32).toInt64 &&& 63)) ||| ((w3 : Int32).toInt64 &&& 4294967295)) S) := okI_of h (sample_call (by omega) hx hs ho w1 (((w2 : Int32).toInt64 <<< ((32 : Int32).toInt64 &&& 63)) ||| ((w3 : Int32).toInt64 &&& 4294967295)))
  obtain ⟨code, b', H1, S1, e1, e2, e3, e4, f, i1⟩ := st
  have hb1 : H1.1 b = none := (f b (Or.inl hb)).trans hb0
  obtain ⟨K, hr, k1, k2⟩ := lw_pick (fun h' m' f' => next h' S1 (inv_ref i1 (rF_of hz f')) m' (m_fr_b f' hbo hb1))
  have hm1 := md_clF hz hm f
  have m3 : M203 N S1 = some (S1.1 0, S1) := rfl
  by_cases hk : code = 0
  · have hv := aL_out (xt := xt) (e4 hk)
    have r : LW xt ct d b (z + 1) (z + 63) (z + 106) i H (.inl (some (.int 1)), K) := law_16V (O := O) (N := N) (q1 := (code, H1)) (q2 := (b', S1)) (q3 := (S1.1 0, S1)) hct hO hsep hbo RN hlt R0 R1 R2 R3 hb0 hw e1 hb1 hm1 ho' hv e2 m3 e3 hk rfl hr
    exact ⟨K, r, k1, k2⟩
  · have r : LW xt ct d b (z + 1) (z + 63) (z + 106) i H (.inl (some (.int 1)), K) := law_16X (O := O) (N := N) (q1 := (code, H1)) (q2 := (b', S1)) (q3 := (S1.1 0, S1)) hct hO hsep hbo RN hlt R0 R1 R2 R3 hb0 hw e1 hb1 hm1 e2 m3 e3 hk hr
    exact ⟨K, r, k1, k2⟩
theorem lw_s17 (hct : ct 0 = .int 1) (hf : ∃ o, vtO (ct 1) = some o) (hd : dgZ xt ct z) (hN : 100000000000000000 ≤ N) (hT : TT xt ct N 100 = O) (hO : oOK xt ct d O) (hsep : m_sep (z + 63) ra) (hz : raZ z ra) (hb : b ≤ z) (RN : ∀ h : mj_H, h.1 b = none → aN xt h b = some len) (hlt : mj_c2 .gt i (len - 4) = false) (R0 : ∀ h : mj_H, h.1 b = none → aI xt h b i = some w0) (R1 : ∀ h : mj_H, h.1 b = none → aI xt h b (i + 1) = some w1) (R2 : ∀ h : mj_H, h.1 b = none → aI xt h b (i + 2) = some w2) (R3 : ∀ h : mj_H, h.1 b = none → aI xt h b (i + 3) = some w3) (hb0 : H.1 b = none) (h : invC z c1 c2 H S) (hm : md (z + 63) ra S H) (next : ∀ H' S', invC z (c1 + 250) (c2 + 11400) H' S' → md (z + 63) ra S' H' → H'.1 b = none → LWx xt ct d b z B1 B2 (i + 4) H') (hw : w0 &&& 31 = 17) : LWx xt ct d b z B1 B2 i H := by
  have hbo : m_out (z + 63) ra b := mo_of hz (by omega)
  have ho' : m_out (z + 63) ra (z + 106) := mo_of hz (by omega)
  obtain ⟨hx, hs, ho⟩ := inv_cSl h
  have st : okL z c1 c2 H (C199 xt ct O N (z + 1) w1 w2 w3 (z + 106) H) (M299 N w1 w2 w3 S) := okL_of h (compare_call (by omega) hx hs ho w1 w2 w3)
  obtain ⟨code, b', H1, S1, e1, e2, e3, e4, f, i1⟩ := st
  have hb1 : H1.1 b = none := (f b (Or.inl hb)).trans hb0
  obtain ⟨K, hr, k1, k2⟩ := lw_pick (fun h' m' f' => next h' S1 (inv_ref i1 (rF_of hz f')) m' (m_fr_b f' hbo hb1))
  have hm1 := md_clF hz hm f
  have m3 : M203 N S1 = some (S1.1 0, S1) := rfl
  by_cases hk : code = 0
  · have hv := aL_out (xt := xt) (e4 hk)
    have r : LW xt ct d b (z + 1) (z + 63) (z + 106) i H (.inl (some (.int 1)), K) := law_17V (O := O) (N := N) (q1 := (code, H1)) (q2 := (b', S1)) (q3 := (S1.1 0, S1)) hct hO hsep hbo RN hlt R0 R1 R2 R3 hb0 hw e1 hb1 hm1 ho' hv e2 m3 e3 hk rfl hr
    exact ⟨K, r, k1, k2⟩
  · have r : LW xt ct d b (z + 1) (z + 63) (z + 106) i H (.inl (some (.int 1)), K) := law_17X (O := O) (N := N) (q1 := (code, H1)) (q2 := (b', S1)) (q3 := (S1.1 0, S1)) hct hO hsep hbo RN hlt R0 R1 R2 R3 hb0 hw e1 hb1 hm1 e2 m3 e3 hk hr
    exact ⟨K, r, k1, k2⟩
theorem lw_step (hct : ct 0 = .int 1) (hf : ∃ o, vtO (ct 1) = some o) (hd : dgZ xt ct z) (hN : 100000000000000000 ≤ N) (hT : TT xt ct N 100 = O) (hO : oOK xt ct d O) (hsep : m_sep (z + 63) ra) (hz : raZ z ra) (hb : b ≤ z) (RN : ∀ h : mj_H, h.1 b = none → aN xt h b = some len) (hlt : mj_c2 .gt i (len - 4) = false) (R0 : ∀ h : mj_H, h.1 b = none → aI xt h b i = some w0) (R1 : ∀ h : mj_H, h.1 b = none → aI xt h b (i + 1) = some w1) (R2 : ∀ h : mj_H, h.1 b = none → aI xt h b (i + 2) = some w2) (R3 : ∀ h : mj_H, h.1 b = none → aI xt h b (i + 3) = some w3) (hb0 : H.1 b = none) (h : invC z c1 c2 H S) (hm : md (z + 63) ra S H) (next : ∀ H' S', invC z (c1 + 250) (c2 + 11400) H' S' → md (z + 63) ra S' H' → H'.1 b = none → LWx xt ct d b z B1 B2 (i + 4) H') : LWx xt ct d b z B1 B2 i H := by
  have hbo : m_out (z + 63) ra b := mo_of hz (by omega)
  have ho' : m_out (z + 63) ra (z + 106) := mo_of hz (by omega)
  obtain ⟨n, hn, hw⟩ := p1_31 w0
  have skip : LWx xt ct d b z B1 B2 (i + 4) H := next H S (inv_up h (by omega) (by omega)) hm hb0
  match n, hn, hw with
  | 0, _, hw => exact lw_s0 hct hf hd hN hT hO hsep hz hb RN hlt R0 R1 R2 R3 hb0 h hm next hw
  | 1, _, hw => exact lw_s1 hct hf hd hN hT hO hsep hz hb RN hlt R0 R1 R2 R3 hb0 h hm next hw
  | 2, _, hw => exact lw_s2 hct hf hd hN hT hO hsep hz hb RN hlt R0 R1 R2 R3 hb0 h hm next hw
  | 3, _, hw => exact lw_s3 hct hf hd hN hT hO hsep hz hb RN hlt R0 R1 R2 R3 hb0 h hm next hw
  | 4, _, hw => exact lw_s4 hct hf hd hN hT hO hsep hz hb RN hlt R0 R1 R2 R3 hb0 h hm next hw
  | 5, _, hw => exact lw_s5 hct hf hd hN hT hO hsep hz hb RN hlt R0 R1 R2 R3 hb0 h hm next hw
  | 6, _, hw => exact lw_s6 hct hf hd hN hT hO hsep hz hb RN hlt R0 R1 R2 R3 hb0 h hm next hw
  | 7, _, hw => exact lw_s7 hct hf hd hN hT hO hsep hz hb RN hlt R0 R1 R2 R3 hb0 h hm next hw
  | 8, _, hw => exact lw_s8 hct hf hd hN hT hO hsep hz hb RN hlt R0 R1 R2 R3 hb0 h hm next hw
  | 9, _, hw => exact lw_s9 hct hf hd hN hT hO hsep hz hb RN hlt R0 R1 R2 R3 hb0 h hm next hw
  | 10, _, hw => exact lw_s10 hct hf hd hN hT hO hsep hz hb RN hlt R0 R1 R2 R3 hb0 h hm next hw
  | 11, _, hw => exact lw_s11 hct hf hd hN hT hO hsep hz hb RN hlt R0 R1 R2 R3 hb0 h hm next hw
  | 12, _, hw => exact lw_s12 hct hf hd hN hT hO hsep hz hb RN hlt R0 R1 R2 R3 hb0 h hm next hw
  | 13, _, hw => exact lw_s13 hct hf hd hN hT hO hsep hz hb RN hlt R0 R1 R2 R3 hb0 h hm next hw
  | 14, _, hw => exact lw_s14 hct hf hd hN hT hO hsep hz hb RN hlt R0 R1 R2 R3 hb0 h hm next hw
  | 15, _, hw => exact lw_s15 hct hf hd hN hT hO hsep hz hb RN hlt R0 R1 R2 R3 hb0 h hm next hw
  | 16, _, hw => exact lw_s16 hct hf hd hN hT hO hsep hz hb RN hlt R0 R1 R2 R3 hb0 h hm next hw
  | 17, _, hw => exact lw_s17 hct hf hd hN hT hO hsep hz hb RN hlt R0 R1 R2 R3 hb0 h hm next hw
  | 18, _, hw => exact skip.imp (fun K hK => ⟨law_18 (O := O) (N := N) (ra := ra) hct hO hsep hbo RN hlt R0 R1 R2 R3 hb0 hw hK.1, hK.2⟩)
  | 19, _, hw => exact skip.imp (fun K hK => ⟨law_19 (O := O) (N := N) (ra := ra) hct hO hsep hbo RN hlt R0 R1 R2 R3 hb0 hw hK.1, hK.2⟩)
  | 20, _, hw => exact skip.imp (fun K hK => ⟨law_20 (O := O) (N := N) (ra := ra) hct hO hsep hbo RN hlt R0 R1 R2 R3 hb0 hw hK.1, hK.2⟩)
  | 21, _, hw => exact skip.imp (fun K hK => ⟨law_21 (O := O) (N := N) (ra := ra) hct hO hsep hbo RN hlt R0 R1 R2 R3 hb0 hw hK.1, hK.2⟩)
  | 22, _, hw => exact skip.imp (fun K hK => ⟨law_22 (O := O) (N := N) (ra := ra) hct hO hsep hbo RN hlt R0 R1 R2 R3 hb0 hw hK.1, hK.2⟩)
  | 23, _, hw => exact skip.imp (fun K hK => ⟨law_23 (O := O) (N := N) (ra := ra) hct hO hsep hbo RN hlt R0 R1 R2 R3 hb0 hw hK.1, hK.2⟩)
  | 24, _, hw => exact skip.imp (fun K hK => ⟨law_24 (O := O) (N := N) (ra := ra) hct hO hsep hbo RN hlt R0 R1 R2 R3 hb0 hw hK.1, hK.2⟩)
  | 25, _, hw => exact skip.imp (fun K hK => ⟨law_25 (O := O) (N := N) (ra := ra) hct hO hsep hbo RN hlt R0 R1 R2 R3 hb0 hw hK.1, hK.2⟩)
  | 26, _, hw => exact skip.imp (fun K hK => ⟨law_26 (O := O) (N := N) (ra := ra) hct hO hsep hbo RN hlt R0 R1 R2 R3 hb0 hw hK.1, hK.2⟩)
  | 27, _, hw => exact skip.imp (fun K hK => ⟨law_27 (O := O) (N := N) (ra := ra) hct hO hsep hbo RN hlt R0 R1 R2 R3 hb0 hw hK.1, hK.2⟩)
  | 28, _, hw => exact skip.imp (fun K hK => ⟨law_28 (O := O) (N := N) (ra := ra) hct hO hsep hbo RN hlt R0 R1 R2 R3 hb0 hw hK.1, hK.2⟩)
  | 29, _, hw => exact skip.imp (fun K hK => ⟨law_29 (O := O) (N := N) (ra := ra) hct hO hsep hbo RN hlt R0 R1 R2 R3 hb0 hw hK.1, hK.2⟩)
  | 30, _, hw => exact skip.imp (fun K hK => ⟨law_30 (O := O) (N := N) (ra := ra) hct hO hsep hbo RN hlt R0 R1 R2 R3 hb0 hw hK.1, hK.2⟩)
  | 31, _, hw => exact skip.imp (fun K hK => ⟨law_31 (O := O) (N := N) (ra := ra) hct hO hsep hbo RN hlt R0 R1 R2 R3 hb0 hw hK.1, hK.2⟩)
  | _ + 32, hn, _ => exact absurd hn (by omega)
end LOP
