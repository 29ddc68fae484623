/-! A RUN'S BEGINNING; TREES STAY -/
theorem chn_dc {H G : mj_H} {A B : Nat} (hG : dsm A B H G) : ∀ (l : List (Nat × Nat)) (o : Option Nat), (∀ x ∈ l, A ≤ x.1 ∧ x.1 < B) → chn H l o → chn G l o := by
  intro l
  induction l with
  | nil => intro o _ h; exact h
  | cons x r ih =>
    intro o hx h
    obtain ⟨h0, h1, s, e, t, u, v, p, q, nx, h2, h3⟩ := h
    have k := hx x List.mem_cons_self
    exact ⟨h0, h1, s, e, t, u, v, p, q, nx, dsm_at hG k.1 k.2 h2 (by decide), ih nx (fun y hy => hx y (List.mem_cons_of_mem _ hy)) h3⟩
theorem dsm_in {H G : mj_H} {A B A' B' : Nat} (h : dsm A B H G) (hA : A ≤ A') (hB : B' ≤ B) : dsm A' B' H G := fun q h1 h2 => h q (by omega) (by omega)
theorem sT_dc {H G : mj_H} {sts : List St} {nds : List Nd} {fcs : List Int32} : ∀ (n A B s : Nat) (t : St) (a : Nat), dsm A B H G → sT H sts nds fcs n A B s t a → sT G sts nds fcs n A B s t a := by
  intro n
  induction n with
  | zero => intro A B s t a _ h; exact h.elim
  | succ n ih =>
    intro A B s t a hG h
    obtain ⟨a1, a2, a3, c, e, tm, o1, o2, nx, s1, s2, A1, B1, k1, k2, k3, k4, k5⟩ := h
    have hG1 := dsm_in hG k1 k2
    have bkm : ∀ (l : List (Nat × Nat)) (lo hi : Nat) (o : Option Nat), chn H l o → bk (sT H sts nds fcs n A1 B1) sts l lo hi → chn G l o ∧ bk (sT G sts nds fcs n A1 B1) sts l lo hi := by
      intro l lo hi o hc hb
      have r := bk_rng l lo hi hb
      exact ⟨chn_dc hG1 l o r.1 hc, (bk_imp l lo hi (fun s t a x => sT_end x) (fun s' t' a' _ _ w => ih A1 B1 s' t' a' hG1 w) (fun i _ _ => rfl) hb).1⟩
    refine ⟨a1, a2, a3, c, e, tm, o1, o2, nx, s1, s2, A1, B1, k1, k2, k3, dsm_at hG a1 a2 k4 (by decide), ?_⟩
    rcases k5 with ⟨q1, q2, q3, q4, q5, q6, q7⟩ | ⟨q1, q2, fe, l1, l2, q3, q4, q5, q6, q7, q8⟩ | ⟨q1, q2, q3, q4, q5, q6, q7, q8, l1, q9, q10, q11⟩
    · exact Or.inl ⟨q1, q2, q3, q4, q5, q6, exT_dc hG1 _ _ _ _ _ q7⟩
    · have u1 := bkm l1 _ _ o1 q4 q5
      have u2 := bkm l2 _ _ o2 q6 q7
      exact Or.inr (Or.inl ⟨q1, q2, fe, l1, l2, exT_dc hG1 _ _ _ _ _ q3, u1.1, u1.2, u2.1, u2.2, q8⟩)
    · have u1 := bkm l1 _ _ o1 q9 q10
      exact Or.inr (Or.inr ⟨q1, q2, q3, q4, q5, q6, q7, dsm_at hG1 q6 q7 q8 (by decide), l1, u1.1, u1.2, q11⟩)
theorem bk_dc {H G : mj_H} {sts : List St} {nds : List Nd} {fcs : List Int32} {n A B lo hi : Nat} {l : List (Nat × Nat)} {o : Option Nat} (hG : dsm A B H G) (hc : chn H l o) (hb : bk (sT H sts nds fcs n A B) sts l lo hi) : chn G l o ∧ bk (sT G sts nds fcs n A B) sts l lo hi := ⟨chn_dc hG l o (bk_rng l lo hi hb).1 hc, (bk_imp l lo hi (fun s t a x => sT_end x) (fun s' t' a' _ _ w => sT_dc n A B s' t' a' hG w) (fun i _ _ => rfl) hb).1⟩
/-- every statement has its expression -/
theorem sT_ex {H : mj_H} {sts : List St} {nds : List Nd} {fcs : List Int32} : ∀ (n A B : Nat) (l : List (Nat × Nat)) (lo hi : Nat), bk (sT H sts nds fcs n A B) sts l lo hi → ∀ (i : Nat) (t : St), lo ≤ i → i < hi → sts[i]? = some t → t.1 ≠ 3 → ∃ A' B' a f, exT H A' B' nds fcs 45 t.2.2.1 t.2.2.2.1 a f := by
  intro n
  induction n with
  | zero =>
    intro A B l lo hi hb i t h1 h2
    cases l with
    | nil => have e : lo = hi := hb; omega
    | cons x r => obtain ⟨t', -, -, h, -⟩ := hb; exact h.elim
  | succ n ih =>
    intro A B l
    induction l with
    | nil => intro lo hi hb i t h1 h2; have e : lo = hi := hb; omega
    | cons x r ihl =>
      intro lo hi hb i t h1 h2 h3 h4
      obtain ⟨u, u1, u2, u3, u4⟩ := hb
      by_cases c1 : u.2.2.2.2.2.1 ≤ i
      · exact ihl u.2.2.2.2.2.1 hi u4 i t c1 h2 h3 h4
      · obtain ⟨a1, a2, a3, c, e, tm, o1, o2, nx, s1, s2, A1, B1, k1, k2, k3, k4, k5⟩ := u3
        by_cases c2 : i = lo
        · subst c2
          rw [u1] at h3
          cases h3
          rcases k5 with ⟨q1, q2, q3, q4, q5, q6, q7⟩ | ⟨q1, q2, fe, l1, l2, q3, -⟩ | ⟨q1, -⟩
          · exact ⟨A1, B1, e, _, q7⟩
          · exact ⟨A1, B1, e, fe, q3⟩
          · exact absurd q1 h4
        · rcases k5 with ⟨q1, q2, q3, q4, q5, q6, q7⟩ | ⟨q1, q2, fe, l1, l2, q3, q4, q5, q6, q7, q8⟩ | ⟨q1, q2, q3, q4, q5, q6, q7, q8, l1, q9, q10, q11⟩
          · omega
          · by_cases c3 : i < u.2.2.2.2.1
            · exact ih A1 B1 l1 _ _ q5 i t (by omega) c3 h3 h4
            · exact ih A1 B1 l2 _ _ q7 i t (by omega) (by omega) h3 h4
          · exact ih A1 B1 l1 _ _ q10 i t (by omega) (by omega) h3 h4
theorem exT_dcIn {H : mj_H} {A B : Nat} {nds : List Nd} {fcs : List Int32} : ∀ (n lo i a f : Nat), exT H A B nds fcs n lo i a f → dcIn nds lo (i + 1) := by
  intro n
  induction n with
  | zero => intro lo i a f h; exact h.elim
  | succ n ih =>
    intro lo i a f h q nd h1 h2 h3 h4
    rcases h with ⟨rfl, nd', b, fl, g1, g2, g3⟩ | ⟨j, x, rfl, g1, g2, g3, g4, g5⟩ | ⟨j, m, x, y, g, h, c, rfl, g1, g2, g3, g4, g5, g6, g7, g8⟩
    · have e : q = lo := by omega
      rw [e, g1] at h3
      cases h3
      obtain ⟨-, -, k⟩ := g2
      rcases k with ⟨v, -, rfl, -⟩ | ⟨v, -, rfl, -⟩ | ⟨n', m, how, keep, pick, k, w, c1, rfl, -⟩ | ⟨r, rfl, -⟩
      · exact absurd (show (0 : Int32) = 4 from h4) (by decide)
      · exact absurd (show (1 : Int32) = 4 from h4) (by decide)
      · exact ⟨n', m, k, pick, how, keep, c1, rfl⟩
      · exact absurd (show (5 : Int32) = 4 from h4) (by decide)
    · by_cases e : q = j + 1
      · rw [e, g4] at h3
        cases h3
        exact absurd (show (2 : Int32) = 4 from h4) (by decide)
      · exact ih _ _ _ _ g3 q nd h1 (by omega) h3 h4
    · by_cases e : q = j + 1
      · rw [e, g6] at h3
        cases h3
        exact absurd (show (3 : Int32) = 4 from h4) (by decide)
      · by_cases e2 : q < m + 1
        · exact ih _ _ _ _ g3 q nd h1 e2 h3 h4
        · exact ih _ _ _ _ g4 q nd (by omega) (by omega) h3 h4
section BEG
variable {xt : mj_X} {ct : Nat → Value} {O : OR} {N z : Nat} {D : List Nat}
/-- the one state in the beginning -/
def zst : Ss := [([0, 0, 0, 0, 0, 0], 1)]
theorem zst_gds : gds zst := by
  refine ⟨List.nodup_cons.mpr ⟨List.not_mem_nil, List.nodup_nil⟩, fun p hp => ?_⟩
  rw [List.mem_singleton.mp hp]
  refine ⟨Nat.le_refl _, rfl, fun v hv => ?_⟩
  have : v = 0 := by
    simp only [List.mem_cons, List.not_mem_nil, or_false, or_self] at hv
    exact hv
  rw [this]
  decide
theorem stf_z {n : Nat} (h : n < 6) : stf [0, 0, 0, 0, 0, 0] n = 0 := by
  have : n = 0 ∨ n = 1 ∨ n = 2 ∨ n = 3 ∨ n = 4 ∨ n = 5 := by omega
  rcases this with rfl | rfl | rfl | rfl | rfl | rfl <;> rfl
/-- addZeros -/
theorem C137_do (hN : 2000 ≤ N) {H : mj_H} {π : Nat → Nat} {Ls : Nat → Ss} (h : stsH z H π Ls) : ∃ K, C137 xt ct O N (z + so 0) H = some K ∧ stsH z K π (upL Ls 0 zst) ∧ sfr z H K := by
  obtain ⟨a1, a2, a3, V, W, ⟨a4, a5⟩, a6⟩ := h.1 0 (by omega)
  have key : ∀ (d i : Nat) (H1 : mj_H) (V1 : Nat → Int32), i + d = 6 → IR H1 (z + so (π 0) + 1) 390 V1 → (∀ q, q < i → V1 q = 0) → only (z + so (π 0) + 1) H H1 → ∃ K V2, t_lp (B137_2 xt ct O N) (d + 1) (z + so 0, Int32.ofNat i, H1) = some K ∧ sO z K 0 (π 0) 1 ∧ sW z K (π 0) V2 (fun p => if p = 0 then 1 else W p) ∧ (∀ q, q < 6 → V2 q = 0) ∧ (∀ q, q ≠ z + so 0 → q ≠ z + so (π 0) + 1 → q ≠ z + so (π 0) + 2 → K.1 q = H.1 q) ∧ K.2 = H.2 := by
    intro d
    induction d with
    | zero =>
      intro i H1 V1 hi hv hz hf
      have c : mj_c2 .ge (Int32.ofNat i) 6 = true := c_geT (a := i) (b := 6) (by omega) (by omega) (by omega)
      have o1 : sO z H1 0 (π 0) (Ls 0).length := (hf.1 _ (fun q => so_in.1 q.symm)).trans a3
      have g1 : gA H1 (z + so 0) 2 1 = some (z + so (π 0) + 2) := gA_of o1 rfl
      have w1 : LR H1 (z + so (π 0) + 2) 64 W := LR_fr a5 (hf.1 _ (by omega))
      obtain ⟨H2, b1, b2, b3⟩ := LR_set (i := 0) (x := 1) w1 (by omega) (by omega)
      have b1' : sL H1 (z + so (π 0) + 2) 0 1 = some H2 := b1
      have o2 : sO z H2 0 (π 0) (Ls 0).length := (b3.1 _ (fun q => so_in.2 q.symm)).trans o1
      have u := uF_of (n := 2) (v := .int 1) o2
      obtain ⟨K, hK⟩ : ∃ K, mj_put H2 (z + so 0) (.inr (2, [.ref (z + so (π 0) + 1), .ref (z + so (π 0) + 2), .int 1])) = K := ⟨_, rfl⟩
      have u' : uF H2 (z + so 0) 2 2 (.int 1) = some K := by rw [← hK]; exact u
      have fr : ∀ q, q ≠ z + so 0 → K.1 q = H2.1 q := fun q hq => by rw [← hK]; exact mj_put_ne hq
      refine ⟨K, V1, t_end ?_ _, by rw [← hK]; exact mj_put_eq, ⟨IR_fr hv ((fr _ so_in.1).trans (b3.1 _ (by omega))), LR_fr b2 (fr _ so_in.2)⟩, fun q hq => hz q (by omega), fun q q1 q2 q3 => (fr q q1).trans ((b3.1 q q3).trans (hf.1 q q2)), by rw [← hK]; exact b3.2.trans hf.2⟩
      simp only [B137_2, c, cond_true, g1, b1', u', Option.bind_some]
    | succ d ih =>
      intro i H1 V1 hi hv hz hf
      have c : mj_c2 .ge (Int32.ofNat i) 6 = false := c_geF (a := i) (b := 6) (by omega) (by omega) (by omega)
      have o1 : sO z H1 0 (π 0) (Ls 0).length := (hf.1 _ (fun q => so_in.1 q.symm)).trans a3
      have g0 : gA H1 (z + so 0) 2 0 = some (z + so (π 0) + 1) := gA_of o1 rfl
      obtain ⟨H2, b1, b2, b3⟩ := IR_set (x := 0) hv (show i < 390 by omega) (by omega)
      have st : B137_2 xt ct O N (z + so 0, Int32.ofNat i, H1) = some (.inl (z + so 0, Int32.ofNat (i + 1), H2)) := by
        simp only [B137_2, c, cond_false, g0, b1, i_inc (show i < 1000000 by omega), Option.bind_some]
      rw [t_one st]
      refine ih (i + 1) H2 _ (by omega) b2 (fun q hq => ?_) (only_trans hf b3)
      show (if q = i then 0 else V1 q) = 0
      by_cases e : q = i
      · rw [if_pos e]
      · rw [if_neg e]; exact hz q (by omega)
  obtain ⟨K, V2, k1, k2, k3, k4, k5, k6⟩ := key 6 0 H V (by omega) a4 (fun q hq => absurd hq (by omega)) only_refl
  have rp : rep zst V2 (fun p => if p = 0 then 1 else W p) := by
    intro i x hx
    have hi := (List.getElem?_eq_some_iff.mp hx).1
    have e : i = 0 := by
      have : zst.length = 1 := rfl
      omega
    subst e
    rw [← Option.some.inj hx]
    refine ⟨rfl, fun n hn => ?_⟩
    rw [show 0 * 6 + n = n by omega, k4 n hn]
    exact (stf_z hn).symm
  obtain ⟨u1, u2⟩ := sts_upd (K := K) (L := zst) h (by omega) (by decide) k2 ⟨V2, _, k3, rp⟩ k5 k6
  exact ⟨K, t_lp_more _ _ _ (by omega) k1, u1, u2⟩
/-- begin -/
theorem C135_do (hN : 2000 ≤ N) (hD : ∀ q ∈ D, z + 107 ≤ q) {H : mj_H} {mo : Nat} {π : Nat → Nat} {Ls : Nat → Ss} (h : rnI z D H mo π Ls) : ∃ K, C135 xt ct O N (z + 8) H = some (z + 22, K) ∧ rnI z D K 1 π (upL Ls 0 zst) ∧ ruF z D H K := by
  obtain ⟨h1, ⟨sp, h2⟩, h3, h4⟩ := id h
  have g8 : gA H (z + 8) 3 8 = some (z + 22) := gA_of h2.1 rfl
  have k0 : gK H (z + 22) 2 = some () := gK_of (h3.1 0 (by omega)).2.2.1
  obtain ⟨H1, b1, b2, b3⟩ := C136_do (xt := xt) (ct := ct) (O := O) (N := N) h3 (j := 0) (by omega)
  have I1 := rnI_s h b3 b2
  have b1' : C136 xt ct O N (z + 22) H = some H1 := b1
  obtain ⟨-, ⟨sp1, hb1⟩, -⟩ := id I1
  have g81 : gA H1 (z + 8) 3 8 = some (z + 22) := gA_of hb1.1 rfl
  have k1 : gK H1 (z + 22) 2 = some () := gK_of (b2.1 0 (by omega)).2.2.1
  obtain ⟨H2, d1, d2, d3⟩ := C137_do (xt := xt) (ct := ct) (O := O) (N := N) hN b2
  rw [upL_up] at d2
  have I2 := rnI_s I1 d3 d2
  have d1' : C137 xt ct O N (z + 22) H1 = some H2 := d1
  obtain ⟨-, ⟨sp2, hb2⟩, -⟩ := id I2
  have g82 : gA H2 (z + 8) 3 8 = some (z + 22) := gA_of hb2.1 rfl
  have o2 := (d2.1 0 (by omega)).2.2.1
  rw [upL_eq] at o2
  have gs : gI H2 (z + 22) 2 2 = some (Int32.ofNat 1) := gI_of (c := 2) (fs := [.ref (z + so (π 0) + 1), .ref (z + so (π 0) + 2), .int (Int32.ofNat 1)]) o2 rfl
  obtain ⟨K, e1, e2, e3⟩ := rnI_mo I2 1
  obtain ⟨-, ⟨sp3, hb3⟩, -⟩ := id e2
  have g83 : gA K (z + 8) 3 8 = some (z + 22) := gA_of hb3.1 rfl
  refine ⟨K, ?_, e2, ruF_trans (ruF_s b3 hD) (ruF_trans (ruF_s d3 hD) (ruF_b e3 hD))⟩
  simp only [C135, g8, k0, b1', g81, k1, d1', g82, gs, e1, g83, Option.bind_some]
end BEG
