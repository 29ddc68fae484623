/-! RUN, AS IT IS CALLED -/
/-- what a run does to the heap -/
def rcF (z j : Nat) (D : List Nat) (H K : mj_H) : Prop := (∀ q, q < H.2.1 → ¬ (z + 8 ≤ q ∧ q ≤ z + 13) → ¬ (z + 15 ≤ q ∧ q ≤ z + 27) → ¬ (z + 30 ≤ q ∧ q ≤ z + 53) → q ≠ z + 54 + 3 * j → q ≠ z + 55 + 3 * j → q ≠ z + 56 + 3 * j → K.1 q = H.1 q ∨ z + 107 ≤ q ∧ dcch (H.1 q) (K.1 q)) ∧ H.2.1 ≤ K.2.1 ∧ K.2.1 + pot K D ≤ H.2.1 + pot H D ∧ K.2.2 + 121 * pot K D ≤ H.2.2 + 121 * pot H D
section RCL
variable {xt : mj_X} {ct : Nat → Value} {N z j : Nat} {D : List Nat} {H G K : mj_H}
theorem rcF_trans (x : rcF z j D H G) (y : rcF z j D G K) : rcF z j D H K := by
  obtain ⟨x1, x2, x3, x4⟩ := x
  obtain ⟨y1, y2, y3, y4⟩ := y
  refine ⟨fun q h1 h2 h3 h4 h5 h6 h7 => ?_, by omega, by omega, by omega⟩
  rcases x1 q h1 h2 h3 h4 h5 h6 h7 with a | ⟨a0, a⟩
  · rcases y1 q (by omega) h2 h3 h4 h5 h6 h7 with b | ⟨b0, b⟩
    · exact Or.inl (b.trans a)
    · rw [a] at b
      exact Or.inr ⟨b0, b⟩
  · rcases y1 q (by omega) h2 h3 h4 h5 h6 h7 with b | ⟨b0, b⟩
    · rw [b]
      exact Or.inr ⟨a0, a⟩
    · exact Or.inr ⟨b0, dcch_trans a b⟩
theorem rcF_r (h : ruF z D H K) : rcF z j D H K := ⟨fun q h1 h2 h3 h4 _ _ _ => h.1 q h1 h2 h3 h4, h.2⟩
theorem rcF_o (hj : j < 3) (hD : ∀ q ∈ D, z + 107 ≤ q) (h : ofr z j H K) : rcF z j D H K := by
  have e : pot K D = pot H D := pot_fr (z := z) (fun q hq => by
    have := hD q hq
    rw [h.1 q (by omega) (by omega) (by omega)])
  have e2 : K.2 = H.2 := h.2
  rw [rcF, e, e2]
  exact ⟨fun q _ _ _ _ h5 h6 h7 => Or.inl (h.1 q h5 h6 h7), Nat.le_refl _, Nat.le_refl _, Nat.le_refl _⟩
theorem rnI_o {mo : Nat} {π : Nat → Nat} {Ls : Nat → Ss} (hj : j < 3) (h : rnI z D H mo π Ls) (hf : ofr z j H G) : rnI z D G mo π Ls := by
  obtain ⟨⟨l1, l2, l3, l4⟩, ⟨sp, h2⟩, h3, h4, h5⟩ := h
  have n1 : G.2.1 = H.2.1 := by rw [hf.2]
  have e : ∀ q, (q < z + 54 ∨ z + 63 ≤ q) → G.1 q = H.1 q := fun q hq => hf.1 q (by omega) (by omega) (by omega)
  refine ⟨⟨cI_fr l1 (fun q q1 _ => e q (by omega)) n1, fun a a1 a2 a3 => l2 a a1 (by omega) (by rw [e a (by omega)] at a3; exact a3), ⟨(e _ (by omega)).trans l3.1, fun p hp => ?_⟩, by omega⟩, ⟨sp, bst_fr h2 (fun q q1 q2 => e q (by omega))⟩, stsH_fr h3 (fun q hq => e q (by omega)), (e _ (by omega)).trans h4, (e _ (by omega)).trans h5⟩
  obtain ⟨X, hX⟩ := l3.2 p hp
  exact ⟨X, LR_fr hX (e _ (by omega))⟩
theorem C118_do {O : OR} {hp : Int32} {fs : Option Nat} {oc : Nat} {to : Int64} {Ov : Nat → Int32} {Wv : Nat → Int64} (h : slF z j H hp fs oc to Ov Wv) : ∃ K, C118 xt ct O N (z + 54 + 3 * j) H = some K ∧ slF z j K hp fs 0 0 Ov Wv ∧ ofr z j H K := by
  obtain ⟨h1, h2, h3, h4⟩ := h
  have u1 := uF_of (n := 4) (v := .int 0) h1
  obtain ⟨H1, hH1⟩ : ∃ q, mj_put H (z + 54 + 3 * j) (.inr (4, [.ref (z + 55 + 3 * j), .ref (z + 56 + 3 * j), .int hp, rv fs, .int 0, .long to])) = q := ⟨_, rfl⟩
  have o1 : only (z + 54 + 3 * j) H H1 := by rw [← hH1]; exact only_put
  have e1 : H1.1 (z + 54 + 3 * j) = some (.inr (4, [.ref (z + 55 + 3 * j), .ref (z + 56 + 3 * j), .int hp, rv fs, .int 0, .long to])) := by rw [← hH1]; exact mj_put_eq
  have u1' : uF H (z + 54 + 3 * j) 4 4 (.int 0) = some H1 := by rw [u1, ← hH1]; rfl
  have u2 := uF_of (n := 5) (v := .long 0) e1
  obtain ⟨H2, hH2⟩ : ∃ q, mj_put H1 (z + 54 + 3 * j) (.inr (4, [.ref (z + 55 + 3 * j), .ref (z + 56 + 3 * j), .int hp, rv fs, .int 0, .long 0])) = q := ⟨_, rfl⟩
  have o2 : only (z + 54 + 3 * j) H1 H2 := by rw [← hH2]; exact only_put
  have e2 : H2.1 (z + 54 + 3 * j) = some (.inr (4, [.ref (z + 55 + 3 * j), .ref (z + 56 + 3 * j), .int hp, rv fs, .int 0, .long 0])) := by rw [← hH2]; exact mj_put_eq
  have u2' : uF H1 (z + 54 + 3 * j) 4 5 (.long 0) = some H2 := by rw [u2, ← hH2]; rfl
  have f : ofr z j H H2 := ⟨fun q a _ _ => (o2.1 q a).trans (o1.1 q a), o2.2.trans o1.2⟩
  refine ⟨H2, ?_, ⟨e2, IR_fr h2 ?_, LR_fr h3 ?_, by omega⟩, f⟩
  · simp only [C118, u1', u2', Option.bind_some]
  · exact (o2.1 _ (by omega)).trans (o1.1 _ (by omega))
  · exact (o2.1 _ (by omega)).trans (o1.1 _ (by omega))
theorem slF_fr {hp : Int32} {fs : Option Nat} {oc : Nat} {to : Int64} {Ov : Nat → Int32} {Wv : Nat → Int64} (h : slF z j H hp fs oc to Ov Wv) (e : ∀ q, z + 54 + 3 * j ≤ q → q ≤ z + 56 + 3 * j → K.1 q = H.1 q) : slF z j K hp fs oc to Ov Wv := ⟨(e _ (by omega) (by omega)).trans h.1, IR_fr h.2.1 (e _ (by omega) (by omega)), LR_fr h.2.2.1 (e _ (by omega) (by omega)), h.2.2.2⟩
/-- the class's run -/
theorem C134_go (hN : 100000 ≤ N) (hD : ∀ q ∈ D, z + 107 ≤ q) {mo : Nat} {π : Nat → Nat} {Ls : Nat → Ss} {sts : List St} {nds : List Nd} {fcs : List Int32} {l : List (Nat × Nat)} {A B : Nat} {fs : Option Nat} {oc : Nat} {to : Int64} {Ov : Nat → Int32} {Wv : Nat → Int64} {s : Int32} (hx : cx z H) (hj : j < 3) (hc : C121 xt ct (TT xt ct N 100) N (z + 1) s H = some (.inl (z + 54 + 3 * j), H)) (hI : rnI z D H mo π Ls) (hs : slF z j H 1 fs oc to Ov Wv) (hA : z + 107 ≤ A) (hB : B ≤ H.2.1) (hch : chn H l fs) (hbk : bk (sT H sts nds fcs 5 A B) sts l 0 sts.length) (hf : fold_ l 1 ≤ 2147483648) (hL : pgL sts nds) (h24 : sts.length ≤ 24) (hnl : nds.length ≤ 160) (hfc : fcs.length ≤ 160) : ∃ a K π' Ls' Ov' Wv', C134 xt ct (TT xt ct N 100) N (z + 1) s H = some (.inl a, K) ∧ rcF z j D H K ∧ rnI z D K (rnB sts (rnS sts nds fcs 5) 25 0 sts.length zst 1).2 π' Ls' ∧ match (rnB sts (rnS sts nds fcs 5) 25 0 sts.length zst 1).1 with
    | .inl w => a = w ∧ a ≠ 0 ∧ slF z j K 1 fs 0 0 Ov' Wv'
    | .inr L' => (L' = [] ∧ a = -3 ∧ slF z j K 1 fs 0 0 Ov' Wv') ∨ (L' ≠ [] ∧ a = 0 ∧ gds (Ls' 0) ∧ eqs (Ls' 0) L' ∧ toF (Ls' 0) ≤ 2147483648 ∧ slF z j K 1 fs (insOs (Ls' 0) []).length (Int64.ofNat (tot (dvO (insOs (Ls' 0) [])))) Ov' Wv' ∧ vw Ov' Wv' (dvO (insOs (Ls' 0) []))) := by
  have k0 : gK H (z + 1) 5 = some () := gK_of hx
  have ks : gK H (z + 54 + 3 * j) 4 = some () := gK_of hs.1
  obtain ⟨H1, a1, a2, a3⟩ := C118_do (xt := xt) (ct := ct) (O := TT xt ct N 100) (N := N) hs
  have I1 := rnI_o hj hI a3
  have x1 : H1.1 (z + 1) = H.1 (z + 1) := a3.1 _ (by omega) (by omega) (by omega)
  have y1 : gA H1 (z + 1) 5 3 = some (z + 8) := gA_of (x1.trans hx) rfl
  obtain ⟨sp1, b1⟩ := I1.2.1
  have k8 : gK H1 (z + 8) 3 = some () := gK_of b1.1
  obtain ⟨H2, c1, c2, c3⟩ := C135_do (xt := xt) (ct := ct) (O := TT xt ct N 100) (N := N) (by omega) hD I1
  have n1 : H1.2.1 = H.2.1 := by rw [a3.2]
  have z1 := I1.1.2.2.2
  have cell : ∀ {X Y : mj_H}, ruF z D X Y → z + 107 ≤ X.2.1 → ∀ q, (q < z + 8 ∨ z + 54 ≤ q ∧ q < z + 107) → Y.1 q = X.1 q := fun h hz q hq => (h.1 q (by omega) (by omega) (by omega) (by omega)).resolve_right (fun w => absurd w.1 (by omega))
  have s2 : slF z j H2 1 fs 0 0 Ov Wv := slF_fr a2 (fun q q1 q2 => cell c3 z1 q (by omega))
  have y2 : gA H2 (z + 1) 5 3 = some (z + 8) := gA_of ((cell c3 z1 _ (by omega)).trans (x1.trans hx)) rfl
  have t2 : gR H2 (z + 54 + 3 * j) 4 3 = some fs := gR_of s2.1 rfl
  have f2 : rcF z j D H H2 := rcF_trans (rcF_o hj hD a3) (rcF_r c3)
  have dm : dsm A B H H2 := fun q q1 q2 => (f2.1 q (by omega) (by omega) (by omega) (by omega) (by omega) (by omega) (by omega)).imp id And.right
  obtain ⟨ch2, bk2⟩ := bk_dc dm hch hbk
  have n2 : H.2.1 ≤ H2.2.1 := f2.2.1
  have u0 : upL Ls 0 zst 0 = zst := upL_eq
  have good := (rn_good (H := H2) hnl hfc h24 5).2 A B l fs 0 sts.length 25 zst 1 (Nat.le_refl _) (by omega) ch2 bk2 hf zst_gds (Nat.le_refl _) (by omega)
  have cr := CR_do (xt := xt) (ct := ct) (N := N) (H0 := H2) hN hD hnl hfc hL.1 h24 5 A B l fs 0 sts.length 25 (Nat.le_refl _) (by omega) ch2 bk2 hf hA (by omega) 100 0 H2 0 1 π (upL Ls 0 zst) zst (by omega) (by omega) (fun i _ hi => hL.2.1 i hi) ruF_refl c2 (by omega) (by omega) (by rw [u0]; exact zst_gds) (by rw [u0]; exact eqs_refl) zst_gds (Nat.le_refl _) (by omega)
  generalize rnB sts (rnS sts nds fcs 5) 25 0 sts.length zst 1 = R at good cr ⊢
  obtain ⟨r1, mo'⟩ := R
  obtain ⟨w, K, π', Ls', e1, e2, e3, e4, e5⟩ := cr
  have e1' : (TT xt ct N 100).2.2.2.2.1 fs (z + 22) (z + 8) 0 H2 = some (w, K) := e1
  have z2 : z + 107 ≤ H2.2.1 := by omega
  have s3 : slF z j K 1 fs 0 0 Ov Wv := slF_fr s2 (fun q q1 q2 => cell e2 z2 q (by omega))
  have f3 : rcF z j D H K := rcF_trans f2 (rcF_r e2)
  have ks3 : gK K (z + 54 + 3 * j) 4 = some () := gK_of s3.1
  have k22 : gI K (z + 22) 2 2 = some (Int32.ofNat (Ls' 0).length) := gI_of (e3.2.2.1.1 0 (by omega)).2.2.1 rfl
  have l64 : (Ls' 0).length ≤ 64 := (e3.2.2.1.1 0 (by omega)).2.1
  have b0 : mj_c1 .eq 0 = true := by decide
  cases r1 with
  | inl v =>
    have e5' : w = v := e5
    have g : v = -1 ∨ v = -2 := good.2.2
    have vne : v ≠ 0 := by rcases g with rfl | rfl <;> decide
    have bv : mj_c1 .eq w = false := by rw [e5']; rcases g with rfl | rfl <;> decide
    refine ⟨w, K, π', Ls', Ov, Wv, ?_, f3, e3, e5', by rw [e5']; exact vne, s3⟩
    simp only [C134, k0, hc, tc, ks, a1, y1, k8, c1, t2, y2, e1', bv, cond_false, Option.bind_some]
  | inr L' =>
    obtain ⟨e6, e7, e8⟩ : w = 0 ∧ gds (Ls' 0) ∧ eqs (Ls' 0) L' := e5
    obtain ⟨g1, g2, g3⟩ : gds L' ∧ L'.length ≤ mo' ∧ toF L' ≤ toF zst * fold_ l 1 := good.2.2
    have tz : toF zst = 1 := rfl
    rw [tz, Nat.one_mul] at g3
    have le := eqs_len e8 e7 g1
    have te : toF (Ls' 0) = toF L' := e8 _
    by_cases hn : L' = []
    · have l0 : (Ls' 0).length = 0 := by rw [le, hn]; rfl
      have bn : mj_c1 .ne (Int32.ofNat (Ls' 0).length) = false := by rw [l0]; decide
      refine ⟨-3, K, π', Ls', Ov, Wv, ?_, f3, e3, Or.inl ⟨hn, rfl, s3⟩⟩
      simp only [C134, k0, hc, tc, ks, a1, y1, k8, c1, t2, y2, e1', e6, b0, k22, bn, cond_true, cond_false, Option.bind_some]
    · have l0 : 0 < (Ls' 0).length := by
        rw [le]
        exact List.length_pos_iff.mpr hn
      have bn : mj_c1 .ne (Int32.ofNat (Ls' 0).length) = true := by
        rw [i_c1]
        have := i_nat (n := (Ls' 0).length) (by omega)
        show decide ((Int32.ofNat (Ls' 0).length).toInt ≠ 0) = true
        exact decide_eq_true (by omega)
      have hne : Ls' 0 ≠ [] := List.length_pos_iff.mp l0
      obtain ⟨K2, Ov', Wv', d1, d2, d3, d4⟩ := C174_do (xt := xt) (ct := ct) (O := TT xt ct N 100) (N := N) (by omega) s3 hj e3.2.2.1 e7.2 hne (by omega)
      refine ⟨0, K2, π', Ls', Ov', Wv', ?_, rcF_trans f3 (rcF_o hj hD d4), rnI_o hj e3 d4, Or.inr ⟨hn, rfl, e7, e8, by omega, d2, d3⟩⟩
      simp only [C134, k0, hc, tc, ks, a1, y1, k8, c1, t2, y2, e1', e6, b0, k22, bn, ks3, d1, cond_true, Option.bind_some]
end RCL
