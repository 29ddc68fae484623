section RDD
variable {xt : mj_X} {ct : Nat → Value} {N z : Nat} {tx : List Int32}
theorem C117_do {O : OR} {H : mj_H} {a : Nat} {x y u w : Value} {hp : Int32} {fs o : Option Nat} (h : H.1 a = some (.inr (4, [x, y, .int hp, rv fs, u, w]))) : C117 xt ct O N a o H = some (mj_put H a (.inr (4, [x, y, .int 1, rv o, .int 0, .long 0]))) := by
  have u1 : uF H a 4 2 (.int 1) = some (mj_put H a (.inr (4, [x, y, .int 1, rv fs, u, w]))) := by rw [uF_of h]; rfl
  have u2 : uF (mj_put H a (.inr (4, [x, y, .int 1, rv fs, u, w]))) a 4 3 (rv o) = some (mj_put H a (.inr (4, [x, y, .int 1, rv o, u, w]))) := by rw [uF_of mj_put_eq, put_put]; rfl
  have u3 : uF (mj_put H a (.inr (4, [x, y, .int 1, rv o, u, w]))) a 4 4 (.int 0) = some (mj_put H a (.inr (4, [x, y, .int 1, rv o, .int 0, w]))) := by rw [uF_of mj_put_eq, put_put]; rfl
  have u4 : uF (mj_put H a (.inr (4, [x, y, .int 1, rv o, .int 0, w]))) a 4 5 (.long 0) = some (mj_put H a (.inr (4, [x, y, .int 1, rv o, .int 0, .long 0]))) := by rw [uF_of mj_put_eq, put_put]; rfl
  simp only [C117, C118, u1, u2, gK_of mj_put_eq, u3, u4, Option.bind_some]
/-- what a read that does well leaves in the reference's rows as it was; j: the slot -/
def rdA (j jj p : Nat) : Prop := pgA jj p ∧ ¬ ((jj = 4 ∨ jj = 5 ∨ jj = 57) ∧ p = j) ∧ ¬ ((6 ≤ jj ∧ jj ≤ 11) ∧ 24 * j ≤ p ∧ p < 24 * j + 24) ∧ ¬ ((13 ≤ jj ∧ jj ≤ 20) ∧ 160 * j ≤ p ∧ p < 160 * j + 160)
theorem M209_do (hN : 2000 ≤ N) {S : mS} {s : Int32} {j : Nat} (hs : s.toInt = j) (hj : j < 3) (ht : txR tx S) (hT : ∀ q, rB tx 100 0 ([], 0, 0, [], []) = .inr q → ∃ (H : mj_H) (o : Option Nat) (l : List (Nat × Nat)) (m A B : Nat), chn H l o ∧ bk (sT H q.1.1 q.1.2.2.2.1 q.1.2.2.2.2 m A B) q.1.1 l 0 q.1.1.length ∧ l.map Prod.snd = q.2) : (∀ w, rdT tx = .inl w → ∃ S', M209 N s S = some (0, S') ∧ S'.1 0 = 1 ∧ S'.1 3 = Int32.ofNat w ∧ (∀ jj, jj ∉ 0 :: 3 :: pgV → S'.1 jj = S.1 jj) ∧ (∀ jj p, pgA jj p → S'.2.1 jj p = S.2.1 jj p) ∧ ∀ jj p, ¬ (jj = 12 ∧ 72 ≤ p) → S'.2.2 jj p = S.2.2 jj p) ∧ (∀ q, rdT tx = .inr q → ∃ S', M209 N s S = some (Int32.ofNat q.1.1.length, S') ∧ S'.1 0 = 0 ∧ S'.1 2 = 0 ∧ S'.2.1 57 j = 0 ∧ S'.2.1 4 j = 1 ∧ pgR S' j q.1.1 q.1.2.2.2.1 q.1.2.2.2.2 ∧ (∀ jj, jj ∉ 0 :: 2 :: pgV → S'.1 jj = S.1 jj) ∧ (∀ jj p, rdA j jj p → S'.2.1 jj p = S.2.1 jj p) ∧ ∀ jj p, ¬ (jj = 12 ∧ 72 ≤ p) → ¬ (jj = 12 ∧ 24 * j ≤ p ∧ p < 24 * j + 24) → S'.2.2 jj p = S.2.2 jj p) := by
  have b0 : mj_c1 .eq 0 = true := by decide
  have b1 : mj_c1 .eq 1 = false := by decide
  have n0 : mj_c1 .ne 0 = false := by decide
  have n1 : mj_c1 .ne 1 = true := by decide
  have ag0 : m_agr [0] [] [] S (m_sV S 0 0) := m_agr_sV m_agr_refl (by decide) _
  have m0 := M210_do (N := N) (S := m_sV S 0 0) (s := s)
  rw [if_pos (by omega)] at m0
  obtain ⟨x1, x2⟩ := M211_do (N := N) (S := m_sV S 0 0) hN (txR_ag ht ag0 (by decide)) hT
  have t : s.toInt.toNat = j := by omega
  constructor
  · intro w hw
    obtain ⟨S1, a1, a2, a3⟩ := x1 w hw
    refine ⟨m_sV S1 0 1, ?_, rfl, a2, ?_, a3.2.1, a3.2.2⟩
    · simp only [M209, m0, b1, cond_false, a1, n0, J209_19, M242, Option.bind_some]
    · intro jj hjj
      show (if jj = 0 then _ else S1.1 jj) = _
      have hne : jj ≠ 0 := fun k => hjj (by rw [k]; exact List.mem_cons_self)
      rw [if_neg hne, a3.1 jj (fun k => hjj (List.mem_cons_of_mem _ k))]
      exact if_neg hne
  · intro q hq
    obtain ⟨S1, a1, a2, a3, a4⟩ := x2 q hq
    obtain ⟨k1, k2, k3, k4, k5, k6, k7, k8, k9⟩ := a3
    have hl := k1.1.2.1
    have hp := k1.2.2
    obtain ⟨S2, b2, b3, b4, b5, b6, b7, b8, b9, b10⟩ := M243_do (N := N) (S := S1) hN hs hj
    have c57 : 0 ≤ s.toInt ∧ s.toInt < mN 57 := by rw [show mN 57 = 3 from rfl]; omega
    have c5 : 0 ≤ s.toInt ∧ s.toInt < mN 5 := by rw [show mN 5 = 4 from rfl]; omega
    obtain ⟨S3, hS3⟩ : ∃ S3, m_sV (m_sA S2 57 j 0) 2 0 = S3 := ⟨_, rfl⟩
    have e5 : S2.2.1 5 j = Int32.ofNat q.1.1.length := by rw [b5]; exact k5.1
    have vA : ∀ jj p, jj ≠ 57 → S3.2.1 jj p = S2.2.1 jj p := fun jj p h => by
      rw [← hS3]
      exact if_neg (fun z => h z.1)
    have vA57 : S3.2.1 57 j = 0 := by
      rw [← hS3]
      exact if_pos ⟨rfl, rfl⟩
    refine ⟨S3, ?_, ?_, by rw [← hS3]; rfl, vA57, by rw [vA 4 j (by decide)]; exact b4, ?_, ?_, ?_, ?_⟩
    · simp only [M209, m0, b1, cond_false, a1, n1, cond_true, b2, if_pos c57, if_pos c5, t, e5, hS3, Option.bind_some]
    · have : S3.1 0 = S2.1 0 := by rw [← hS3]; rfl
      rw [this, b3, a2.1 0 (by decide)]
      rfl
    · have h24 := k5.2.1
      refine ⟨by rw [vA 5 j (by decide)]; exact e5, h24, by omega, by omega, ?_, ?_, ?_⟩
      · intro i t it
        have hi := (List.getElem?_eq_some_iff.mp it).1
        obtain ⟨g1, g2, g3, g4, g5, g6⟩ := k5.2.2 i t it
        have gB : S3.2.2 12 (24 * j + i) = Int64.ofNat t.2.2.2.2.2.2 := by
          have : S3.2.2 = S2.2.2 := by rw [← hS3]; rfl
          rw [this, b8 i (by omega)]
          exact a4 i t it
        refine ⟨g1, ?_, ?_, fun h => ⟨?_, ?_⟩, fun h => ?_, ?_, gB⟩
        · rw [vA 6 _ (by decide), b6 6 i (by decide) (by decide) (by omega)]; exact g2
        · rw [vA 7 _ (by decide), b6 7 i (by decide) (by decide) (by omega)]; exact g3
        · rw [vA 8 _ (by decide), b6 8 i (by decide) (by decide) (by omega)]; exact (g4 h).1
        · rw [vA 9 _ (by decide), b6 9 i (by decide) (by decide) (by omega)]; exact (g4 h).2
        · rw [vA 10 _ (by decide), b6 10 i (by decide) (by decide) (by omega)]; exact g5 h
        · rw [vA 11 _ (by decide), b6 11 i (by decide) (by decide) (by omega)]; exact g6
      · intro i nd hi
        have hlt := (List.getElem?_eq_some_iff.mp hi).1
        have : ndAt S3 (160 * j + i) = nd := by
          rw [← k3.2.2 i nd hi]
          unfold ndAt
          rw [vA 13 _ (by decide), vA 14 _ (by decide), vA 15 _ (by decide), vA 16 _ (by decide), vA 17 _ (by decide), vA 18 _ (by decide), vA 19 _ (by decide), b7 13 i (by decide) (by decide) (by omega), b7 14 i (by decide) (by decide) (by omega), b7 15 i (by decide) (by decide) (by omega), b7 16 i (by decide) (by decide) (by omega), b7 17 i (by decide) (by decide) (by omega), b7 18 i (by decide) (by decide) (by omega), b7 19 i (by decide) (by decide) (by omega)]
        rw [this]
        exact ⟨rfl, rfl, rfl, rfl, rfl, fun _ => rfl⟩
      · intro i x hi
        have hlt := (List.getElem?_eq_some_iff.mp hi).1
        rw [vA 20 _ (by decide), b7 20 i (by decide) (by decide) (by omega)]
        exact k4.2.2 i x hi
    · intro jj hjj
      have h0 : jj ≠ 0 := fun k => hjj (by rw [k]; exact List.mem_cons_self)
      have h2 : jj ≠ 2 := fun k => hjj (by rw [k]; exact List.mem_cons_of_mem _ List.mem_cons_self)
      have e1 : S3.1 jj = S2.1 jj := by
        rw [← hS3]
        exact if_neg h2
      rw [e1, b3, a2.1 jj (fun k => hjj (List.mem_cons_of_mem _ (List.mem_cons_of_mem _ k)))]
      exact if_neg h0
    · intro jj p hjj
      obtain ⟨r1, r2, r3, r4⟩ := hjj
      have e1 : S3.2.1 jj p = S2.2.1 jj p := by
        rw [← hS3]
        exact if_neg (fun z => r2 ⟨Or.inr (Or.inr z.1), z.2⟩)
      rw [e1, b9 jj p (fun z => r2 ⟨z.1.elim Or.inl (fun k => Or.inr (Or.inl k)), z.2⟩) r3 r4]
      exact a2.2.1 jj p r1
    · intro jj p h1 h2
      have e1 : S3.2.2 = S2.2.2 := by rw [← hS3]; rfl
      rw [e1, b10 jj p h2]
      exact a2.2.2 jj p h1
theorem M209_no {S : mS} {s : Int32} (hs : ¬ (0 ≤ s.toInt ∧ s.toInt < 3)) : M209 N s S = some (0, m_sV (m_sV S 0 0) 0 1) := by
  have b0 : mj_c1 .eq 0 = true := by decide
  have m0 := M210_do (N := N) (S := m_sV S 0 0) (s := s)
  rw [if_neg hs] at m0
  simp only [M209, m0, b0, cond_true, J209_19, M242, Option.bind_some]
/-- read, the class -/
theorem C78_do (hN : 2000 ≤ N) (hf : ∃ o, vtO (ct 1) = some o) {H : mj_H} {v : Nat} {bs : List Value} {wp : Int32} (hx : cx z H) (hc : cslots z H) (hv : cv_ z H v) (ht : txC tx) (hs : sb H (z + 2) v bs tx) (hp : pidle z H wp) (hfz : fz z H) {s : Int32} {j : Nat} (hsj : s.toInt = j) (hj : j < 3) {hpr : Int32} {fs : Option Nat} {oc : Nat} {tot : Int64} {os ws : List Value} (hsl : slR z j H hpr fs oc tot os ws) : (∀ w, rdT tx = .inl w → ∃ F pt st lv, C78 xt ct (TT xt ct N 100) N (z + 1) s H = some (.inr F.2.1, mj_new F 6 (.inr (13, []))) ∧ pst z F tx pt st lv (Int32.ofNat w) ∧ fz z F ∧ (∀ q, q < H.2.1 → q ≠ z + 5 → q ≠ z + 6 → q ≠ z + 7 → F.1 q = H.1 q) ∧ H.2.1 ≤ F.2.1 ∧ F.2.1 ≤ H.2.1 + 160 ∧ F.2.2 ≤ H.2.2 + 1600 ∧ ∃ D : List Nat, D.length ≤ 80 ∧ ∀ q, H.2.1 ≤ q → q < F.2.1 → dcN D q (F.1 q)) ∧ (∀ q, rdT tx = .inr q → ∃ o G l, C78 xt ct (TT xt ct N 100) N (z + 1) s H = some (.inl (Int32.ofNat q.1.1.length), G) ∧ pst z G tx q.1.2.1 q.1.1.length q.1.2.2.1 wp ∧ fz z G ∧ sb G (z + 2) v bs [] ∧ slR z j G 1 o 0 0 os ws ∧ (∀ q, q < H.2.1 → q ≠ z + 2 → q ≠ z + 5 → q ≠ z + 6 → q ≠ z + 7 → q ≠ z + 54 + 3 * j → G.1 q = H.1 q) ∧ H.2.1 ≤ G.2.1 ∧ G.2.1 ≤ H.2.1 + 160 ∧ G.2.2 ≤ H.2.2 + 1600 ∧ chn G l o ∧ bk (sT G q.1.1 q.1.2.2.2.1 q.1.2.2.2.2 5 H.2.1 G.2.1) q.1.1 l 0 q.1.1.length ∧ l.map Prod.snd = q.2 ∧ ∃ D : List Nat, D.length ≤ 80 ∧ ∀ q, H.2.1 ≤ q → q < G.2.1 → dcN D q (G.1 q)) := by
  obtain ⟨c1, c2, c3⟩ := C81_do (xt := xt) (ct := ct) (N := N) hN hf (z := z) (tx := tx) (H := H) (v := v) (bs := bs) (wp := wp) (by obtain ⟨a, -⟩ := hv; omega) ht hs hp hfz hv.2.2
  obtain ⟨O, hO⟩ : ∃ O, TT xt ct N 100 = O := ⟨_, rfl⟩
  rw [hO] at c1 c2 ⊢
  have k0 : gK H (z + 1) 5 = some () := gK_of hx
  have hz := hv.2.2
  have k5 : gK H (z + 5) 1 = some () := by
    obtain ⟨⟨a, b, c, d, h⟩, -⟩ := hp
    exact gK_of h
  have g0 : gA H (z + 1) 5 0 = some (z + 2) := gA_of hx rfl
  have g2 : gA H (z + 1) 5 2 = some (z + 5) := gA_of hx rfl
  have c79 : C79 xt ct O N (z + 1) s H = some (.inl (z + 54 + 3 * j), H) := by
    rcases C79_do (xt := xt) (ct := ct) (O := O) (N := N) hx hc s with ⟨j', h1, h2, h3⟩ | ⟨h1, -⟩
    · have : j' = j := by omega
      subst this
      exact h3
    · exact absurd (show 0 ≤ s.toInt ∧ s.toInt < 3 by omega) h1
  have st0 : ∀ x, C81 xt ct O N (z + 5) (z + 2) H = x → C78 xt ct O N (z + 1) s H = x.bind fun r20 => tc (fun z => z) r20 fun v23 => (gK r20.2 (z + 54 + 3 * j) 4).bind fun k27 => (C117 xt ct O N (z + 54 + 3 * j) v23 r20.2).bind fun r30 => (gA r30 (z + 1) 5 0).bind fun r33 => (gK r30 r33 0).bind fun k36 => (C37 xt ct O N r33 0 r30).bind fun r39 => (gA r39 (z + 1) 5 2).bind fun r42 => (gI r39 r42 1 4).bind fun r45 => some (.inl r45, r39) := by
    intro x hx
    simp only [C78, k0, c79, tc, g2, g0, k5, hx, Option.bind_some]
  constructor
  · intro w hw
    obtain ⟨F, pt, st, lv, a1, a2⟩ := c1 w hw
    refine ⟨F, pt, st, lv, ?_, a2⟩
    rw [st0 _ a1]
    rfl
  · intro q hq
    obtain ⟨o, G, l, a1, a2, a3, a4, a5, a6, a7, a8, a9, a10, D, a12, a11⟩ := c2 q hq
    obtain ⟨s1, s2, s3, s4, s5, s6⟩ := hsl
    have ge : ∀ q, q < H.2.1 → q ≠ z + 5 → q ≠ z + 6 → q ≠ z + 7 → G.1 q = H.1 q := a4
    have gs : G.1 (z + 54 + 3 * j) = some (.inr (4, [.ref (z + 55 + 3 * j), .ref (z + 56 + 3 * j), .int hpr, rv fs, .int (Int32.ofNat oc), .long tot])) := by
      rw [ge _ (by omega) (by omega) (by omega) (by omega)]
      exact s1
    have u := C117_do (xt := xt) (ct := ct) (O := O) (N := N) (o := o) gs
    obtain ⟨G1, hG1⟩ : ∃ G1, mj_put G (z + 54 + 3 * j) (.inr (4, [.ref (z + 55 + 3 * j), .ref (z + 56 + 3 * j), .int 1, rv o, .int 0, .long 0])) = G1 := ⟨_, rfl⟩
    rw [hG1] at u
    have nG1 : ∀ q, q ≠ z + 54 + 3 * j → G1.1 q = G.1 q := fun q h => by rw [← hG1]; exact mj_put_ne h
    have sG1 : sb G1 (z + 2) v bs tx := by
      obtain ⟨⟨mm, t1⟩, t2, t3⟩ := hs
      have hv0 := hv.1
      have hv1 := hv.2.1
      refine ⟨⟨mm, ?_⟩, ?_, t3⟩
      · rw [nG1 _ (by omega), ge _ (by omega) (by omega) (by omega) (by omega)]
        exact t1
      · rw [nG1 _ (by omega), ge _ hv1 (by omega) (by omega) (by omega)]
        exact t2
    obtain ⟨G2, w1, w2, w3, w4⟩ := C37_0 (xt := xt) (ct := ct) (O := O) (N := N) sG1
    have x1 : G1.1 (z + 1) = some (.inr (5, [.ref (z + 2), .ref (z + 4), .ref (z + 5), .ref (z + 8)])) := by
      rw [nG1 _ (by omega), ge _ (by omega) (by omega) (by omega) (by omega)]
      exact hx
    have x2 : G2.1 (z + 1) = some (.inr (5, [.ref (z + 2), .ref (z + 4), .ref (z + 5), .ref (z + 8)])) := (w3 _ (by omega)).trans x1
    have p2 : pst z G2 tx q.1.2.1 q.1.1.length q.1.2.2.1 wp := pst_fr a2 ((w3 _ (by omega)).trans (nG1 _ (by omega))) ((w3 _ (by omega)).trans (nG1 _ (by omega))) ((w3 _ (by omega)).trans (nG1 _ (by omega)))
    have b2 : G2.2 = G.2 := by rw [w4, ← hG1]; rfl
    have b21 : G2.2.1 = G.2.1 := by rw [b2]
    have b22 : G2.2.2 = G.2.2 := by rw [b2]
    have old : ∀ q', H.2.1 ≤ q' → q' < G.2.1 → G2.1 q' = G.1 q' := fun q' h1 h2 => by rw [w3 _ (by omega), nG1 _ (by omega)]
    have tr := bk_up (G := G2) (m' := 5) (A' := H.2.1) (B' := G.2.1) (sts' := q.1.1) (Nat.le_refl _) (Nat.le_refl _) (Nat.le_refl _) old ⟨[], (List.append_nil _).symm⟩ ⟨[], (List.append_nil _).symm⟩ (fun i _ _ => rfl) a8 a9
    refine ⟨o, G2, l, ?_, p2, fz_fr a3 ((w3 _ (by omega)).trans (nG1 _ (by omega))), w2, ⟨?_, ?_, ?_, s4, s5, by decide⟩, ?_, by omega, by omega, by omega, tr.1, by rw [b21]; exact tr.2, a10, D, a12, fun q' h1 h2 => by rw [b21] at h2; rw [old q' h1 h2]; exact a11 q' h1 h2⟩
    · have gi : gI G2 (z + 5) 1 4 = some (Int32.ofNat q.1.1.length) := gI_of p2.1 rfl
      have ga0 : gA G1 (z + 1) 5 0 = some (z + 2) := gA_of x1 rfl
      have ga2 : gA G2 (z + 1) 5 2 = some (z + 5) := gA_of x2 rfl
      obtain ⟨mm, t1⟩ := sG1.1
      rw [st0 _ a1]
      simp only [tc, gK_of gs, u, ga0, gK_of t1, w1, ga2, gi, Option.bind_some]
    · rw [w3 _ (by omega), ← hG1]
      exact mj_put_eq
    · rw [w3 _ (by omega), nG1 _ (by omega), ge _ (by omega) (by omega) (by omega) (by omega)]
      exact s2
    · rw [w3 _ (by omega), nG1 _ (by omega), ge _ (by omega) (by omega) (by omega) (by omega)]
      exact s3
    · intro q' h1 h2 h3 h4 h5 h6
      rw [w3 _ h2, nG1 _ h6]
      exact ge q' h1 h3 h4 h5
end RDD
