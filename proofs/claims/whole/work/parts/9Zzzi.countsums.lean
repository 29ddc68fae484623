section TAM
variable {xt : mj_X} {ct : Nat → Value} {O : OR} {N z : Nat}
/-- a face is gone through -/
theorem L144_80_do (hN : 2000 ≤ N) {a n m k f : Nat} {pick g i : Int32} {w fl : Value} {F : List Nat} (ha : z + 107 ≤ a) (hn : 1 ≤ n ∧ n ≤ 6) (hm : m ≤ 20) (hk : k ≤ n) (hf : f ≤ m) (hF : ∀ x ∈ F, x ≤ m) {H : mj_H} (hd : dcO H a n m pick k w fl) (h : TL z H n (TF n k F)) : ∃ G, L144_80 xt ct O N (a, z + 14, g, i, Int32.ofNat f, Int32.ofNat n - 1, H) = some (.inl (a, z + 14, g, i + 1, G)) ∧ TL z G n (TF n k (F ++ [f])) ∧ f15 z H G := by
  have far : ∀ j s, j ≤ n → m * min j k < s → TF n k F j s = 0 := fun j s hj hs => TF_far hF hj hs
  -- more and more dice at one place
  have more : ∀ (d j e : Nat) (H : mj_H), e + d = n - j → j + 1 ≤ n → dcO H a n m pick k w fl → TL z H n (Mm n k f (TF n k F) j e) → ∃ G, t_lp (B144_88 xt ct O N) (d + 1) (a, z + 14, g, i, Int32.ofNat f, Int32.ofNat j, Int32.ofNat (e + 1), H) = some (.inl (a, z + 14, g, i, Int32.ofNat f, Int32.ofNat j + (-1), G)) ∧ TL z G n (Mm n k f (TF n k F) j (n - j)) ∧ f15 z H G := by
    intro d
    induction d with
    | zero =>
      intro j e H he hj hd h
      have g0 : gI H a 8 0 = some (Int32.ofNat n) := gI_of hd rfl
      have c : mj_c2 .gt (Int32.ofNat (e + 1)) (Int32.ofNat (n - j)) = true := (c_gt (by omega) (by omega)).trans (decide_eq_true (by omega))
      have : e = n - j := by omega
      subst this
      refine ⟨H, t_end ?_ _, h, f15_refl⟩
      simp only [B144_88, g0, n_sub (show n < 2147483648 by omega) (show j ≤ n by omega), c, cond_true, Option.bind_some]
    | succ d ih =>
      intro j e H he hj hd h
      have g0 : gI H a 8 0 = some (Int32.ofNat n) := gI_of hd rfl
      have c : mj_c2 .gt (Int32.ofNat (e + 1)) (Int32.ofNat (n - j)) = false := (c_gt (by omega) (by omega)).trans (decide_eq_false (by omega))
      obtain ⟨G1, a1, a2, a3⟩ := C146_do (xt := xt) (ct := ct) (O := O) (N := N) hN ha hd hn.2 hm hk hf h (show j + (e + 1) ≤ n by omega) (fun s hs => by rw [Mm_row]; exact far j s (by omega) hs)
      have a2' : TL z G1 n (Mm n k f (TF n k F) j (e + 1)) := TL_ext a2 (fun p s hp hs => by
        rw [Mm_next]
        congr 1
        by_cases q : p = j + (e + 1)
        · rw [if_pos q, if_pos q]
          unfold trm
          congr 1
          by_cases q2 : f * Gm k j p ≤ s
          · rw [if_pos q2, if_pos q2, Mm_row]
          · rw [if_neg q2, if_neg q2]
        · rw [if_neg q, if_neg q])
      obtain ⟨G2, b1, b2, b3⟩ := ih j (e + 1) G1 (by omega) hj ((a3.1 a (by omega)).trans hd) a2'
      refine ⟨G2, ?_, b2, f15_trans a3 b3⟩
      have st : B144_88 xt ct O N (a, z + 14, g, i, Int32.ofNat f, Int32.ofNat j, Int32.ofNat (e + 1), H) = some (.inl (a, z + 14, g, i, Int32.ofNat f, Int32.ofNat j, Int32.ofNat (e + 1 + 1), G1)) := by
        have c1 := C147_do (xt := xt) (ct := ct) (O := O) (H := H) hN (a := e + 1) (b := n - j) (by omega) (by omega)
        rw [← i_inc (k := e + 1) (by omega)]
        simp only [B144_88, g0, n_sub (show n < 2147483648 by omega) (show j ≤ n by omega), c, cond_false, c1, gK_of hd, a1, Option.bind_some]
      rw [t_one st]
      exact b1
  have row : ∀ (j : Nat) (H : mj_H), j + 1 ≤ n → dcO H a n m pick k w fl → TL z H n (Mm n k f (TF n k F) j 0) → ∃ G, B144_80 xt ct O N (a, z + 14, g, i, Int32.ofNat f, Int32.ofNat j, H) = some (.inl (a, z + 14, g, i, Int32.ofNat f, Int32.ofNat j + (-1), G)) ∧ TL z G n (Mm n k f (TF n k F) j (n - j)) ∧ f15 z H G := by
    intro j H hj hd h
    obtain ⟨G, a1, a2, a3⟩ := more (n - j) j 0 H (by omega) hj hd h
    have c : mj_c1 .lt (Int32.ofNat j) = false := c1_lt (by omega)
    refine ⟨G, ?_, a2, a3⟩
    simp only [B144_80, c, cond_false]
    exact t_lp_more _ _ _ (by omega) a1
  have down : ∀ (j : Nat) (H : mj_H), j + 1 ≤ n → dcO H a n m pick k w fl → TL z H n (Mm n k f (TF n k F) j 0) → ∃ G, t_lp (B144_80 xt ct O N) (j + 2) (a, z + 14, g, i, Int32.ofNat f, Int32.ofNat j, H) = some (.inl (a, z + 14, g, i + 1, G)) ∧ TL z G n (TF n k (F ++ [f])) ∧ f15 z H G := by
    intro j
    induction j with
    | zero =>
      intro H hj hd h
      obtain ⟨G, a1, a2, a3⟩ := row 0 H hj hd h
      refine ⟨G, ?_, TL_ext a2 (fun p s hp hs => by rw [Nat.sub_zero]; exact Mm_last hp), a3⟩
      rw [t_one a1]
      have c : mj_c1 .lt (Int32.ofNat 0 + (-1)) = true := by decide
      exact t_end (by simp only [B144_80, c, cond_true]) _
    | succ j ih =>
      intro H hj hd h
      obtain ⟨G, a1, a2, a3⟩ := row (j + 1) H hj hd h
      rw [n_dec (by omega) (by omega), Nat.add_sub_cancel] at a1
      obtain ⟨G2, b1, b2, b3⟩ := ih G (by omega) ((a3.1 a (by omega)).trans hd) (TL_ext a2 (fun p s hp hs => Mm_down (by omega) hp))
      exact ⟨G2, by rw [t_one a1]; exact b1, b2, f15_trans a3 b3⟩
  obtain ⟨G, a1, a2, a3⟩ := down (n - 1) H (by omega) hd (TL_ext h (fun p s hp hs => (Mm_first hn.1 hp).symm))
  refine ⟨G, ?_, a2, a3⟩
  have e : Int32.ofNat n - 1 = Int32.ofNat (n - 1) := n_sub (b := 1) (by omega) (by omega)
  rw [e]
  exact t_lp_more _ _ _ (by omega) a1
/-- a row's beginning is copied -/
theorem C148_do {H : mj_H} {r n : Nat} {T : Nat → Int64} (h : LR H r 121 T) (hr : r < H.2.1) (hn : n ≤ 121) : ∃ G, C148 xt ct O N r (Int32.ofNat n) H = some (H.2.1, G) ∧ LR G H.2.1 n T ∧ (∀ q, q ≠ H.2.1 → G.1 q = H.1 q) ∧ G.2.1 = H.2.1 + 1 ∧ G.2.2 = H.2.2 + n := by
  have len := LR_len (xt := xt) h
  have fit : ((List.range 121).map (fun i => Value.long (T i))).all (fun v => fits .long v) = true := by
    rw [List.all_map, List.all_eq_true]
    intro x _
    rfl
  have tn : (Int32.ofNat n).toNatClampNeg = n := by
    show (Int32.ofNat n).toInt.toNat = n
    exact n_t (by omega)
  by_cases e : n = 121
  · subst e
    have c : mj_c2 .ne (Int32.ofNat 121) (Int32.ofNat 121) = false := by decide
    have cl : cLn 8 H r = some (H.2.1, mj_new H 121 (.inl (.long, (List.range 121).map (fun i => .long (T i))))) := by
      unfold cLn
      rw [show H.1 r = _ from h]
      simp only
      rw [if_pos ⟨rfl, fit⟩, rg_len]
    have ck : cKc 4 (mj_new H 121 (.inl (.long, (List.range 121).map (fun i => .long (T i))))) H.2.1 = some () := by
      unfold cKc
      rw [mj_new_eq]
      simp only
      exact if_pos rfl
    refine ⟨_, ?_, mj_new_eq, fun q hq => mj_new_ne hq, rfl, rfl⟩
    simp only [C148, len, c, cond_false, cl, ck, Option.bind_some]
  · have c : mj_c2 .ne (Int32.ofNat n) (Int32.ofNat 121) = true := (c_ne (by omega) (by omega)).trans (decide_eq_true e)
    have nn : ¬ Int32.ofNat n < 0 := by
      rw [Int32.lt_iff_toInt_lt, i_nat (by omega)]
      have : (0 : Int32).toInt = 0 := rfl
      omega
    have na : nA H .long (Int32.ofNat n) = some (H.2.1, mj_new H n (.inl (.long, List.replicate n (.long 0)))) := by
      unfold nA
      rw [tn, if_pos ⟨nn, by omega⟩]
      rfl
    obtain ⟨G1, hG1⟩ : ∃ G1, mj_new H n (.inl (.long, List.replicate n (.long 0))) = G1 := ⟨_, rfl⟩
    rw [hG1] at na
    have r1 : LR G1 r 121 T := LR_fr h (by rw [← hG1]; exact mj_new_ne (by omega))
    have x1 : G1.1 H.2.1 = some (.inl (.long, List.replicate n (.long 0))) := by rw [← hG1]; exact mj_new_eq
    have mn := C21_do (xt := xt) (ct := ct) (O := O) (N := N) (H := G1) (a := 121) (b := n) (by omega) (by omega)
    rw [show min 121 n = n by omega] at mn
    have z0 : ¬ (0 : Int32) < 0 := by decide
    have zt : (0 : Int32).toNatClampNeg = 0 := rfl
    have cy : cY G1 r 0 H.2.1 0 (Int32.ofNat n) = some (mj_put G1 H.2.1 (.inl (.long, mj_cpy ((List.range 121).map (fun i => .long (T i))) (List.replicate n (.long 0)) 0 0 n))) := by
      unfold cY
      rw [show G1.1 r = _ from r1, x1]
      simp only
      rw [tn, zt, if_pos ⟨trivial, rfl, z0, z0, nn, by rw [rg_len]; omega, by rw [List.length_replicate]; omega, fit⟩]
    refine ⟨mj_put G1 H.2.1 (.inl (.long, mj_cpy ((List.range 121).map (fun i => .long (T i))) (List.replicate n (.long 0)) 0 0 n)), ?_, ?_, fun q hq => ?_, ?_, ?_⟩
    · simp only [C148, len, c, cond_true, na, LR_len (xt := xt) r1, mn, cy, Option.bind_some]
    · unfold LR
      rw [mj_put_eq]
      congr 3
      unfold mj_cpy
      rw [List.length_replicate]
      refine List.map_congr_left (fun i hi => ?_)
      have hi2 := List.mem_range.mp hi
      rw [if_pos ⟨Nat.zero_le _, by omega⟩, Nat.zero_add, Nat.sub_zero, List.getD_eq_getElem?_getD, rg_at (by omega)]
      rfl
    · rw [mj_put_ne hq, ← hG1, mj_new_ne hq]
    · show G1.2.1 = _
      rw [← hG1]
      rfl
    · show G1.2.2 = _
      rw [← hG1]
      rfl
/-- dice whose sums are counted -/
theorem C144_do (hN : 2000 ≤ N) {H : mj_H} {a n m k : Nat} {how keep pick : Int32} {w fl : Value} (ha : z + 107 ≤ a) (haB : a < H.2.1) (hok : dcOK n m how keep pick k) (hp : pick ≠ 101) (hd : dcO H a n m pick k w fl) (ht : tly z H) : ∃ G, C144 xt ct O N a (z + 14) H = some (H.2.1, G) ∧ LR G H.2.1 (m * k + 1) (fun s => Int64.ofNat (dW n m pick k s)) ∧ (∀ q, q ≠ H.2.1 → ¬ (z + 15 ≤ q ∧ q ≤ z + 21) → G.1 q = H.1 q) ∧ tly z G ∧ G.2.1 = H.2.1 + 1 ∧ G.2.2 ≤ H.2.2 + 121 := by
  obtain ⟨hn, hm, h5⟩ := hok
  have hk : k ≤ n := by
    rcases h5 with ⟨-, -, -, e⟩ | ⟨-, e, -⟩ | ⟨-, -, e, -⟩
    · omega
    · exact absurd e hp
    · omega
  have mk : m * k ≤ 20 * 6 := Nat.mul_le_mul hm.2 (by omega)
  have gr : Int32.ofNat k * Int32.ofNat m = Int32.ofNat (m * k) := by rw [n_mul, Nat.mul_comm]
  -- rows are wiped
  have wipe : ∀ (d p : Nat) (H1 : mj_H), p + d = n + 1 → dcO H1 a n m pick k w fl → tly z H1 → (∀ p', p' < p → LR H1 (z + 15 + p') 121 (fun _ => 0)) → f15 z H H1 → ∃ G, t_lp (B144_12 xt ct O N) (d + 1) (a, z + 14, Int32.ofNat (m * k), Int32.ofNat p, H1) = t_lp (B144_12 xt ct O N) 1 (a, z + 14, Int32.ofNat (m * k), Int32.ofNat (n + 1), G) ∧ dcO G a n m pick k w fl ∧ tly z G ∧ (∀ p', p' ≤ n → LR G (z + 15 + p') 121 (fun _ => 0)) ∧ f15 z H G := by
    intro d
    induction d with
    | zero =>
      intro p H1 hp hd1 ht1 hr hf
      exact ⟨H1, by rw [show p = n + 1 by omega], hd1, ht1, fun p' hp' => hr p' (by omega), hf⟩
    | succ d ih =>
      intro p H1 hp hd1 ht1 hr hf
      have g0 : gI H1 a 8 0 = some (Int32.ofNat n) := gI_of hd1 rfl
      have c : mj_c2 .gt (Int32.ofNat p) (Int32.ofNat n) = false := (c_gt (by omega) (by omega)).trans (decide_eq_false (by omega))
      obtain ⟨X, hX⟩ := ht1.2 p (by omega)
      obtain ⟨H2, a1, a2, a3⟩ := C145_do (xt := xt) (ct := ct) (O := O) (x := 0) hN hX (by decide)
      obtain ⟨G, b1, b2⟩ := ih (p + 1) H2 (by omega) ((a3.1 a (by omega)).trans hd1) (tly_set (by omega) ht1 a3 ⟨_, a2⟩) (fun p' hp' => by
        by_cases e : p' = p
        · rw [e]; exact a2
        · exact LR_fr (hr p' (by omega)) (a3.1 _ (by omega))) (f15_trans hf (f15_of (p := p) (by omega) a3))
      refine ⟨G, ?_, b2⟩
      have st : B144_12 xt ct O N (a, z + 14, Int32.ofNat (m * k), Int32.ofNat p, H1) = some (.inl (a, z + 14, Int32.ofNat (m * k), Int32.ofNat (p + 1), H2)) := by
        rw [← i_inc (k := p) (by omega)]
        simp only [B144_12, g0, c, cond_false, tly_at (xt := xt) ht1 (show p < 7 by omega), a1, Option.bind_some]
      rw [t_one st]
      exact b1
  obtain ⟨H1, w1, w2, w3, w4, w5⟩ := wipe (n + 1) 0 H (by omega) hd ht (fun p hp => by omega) f15_refl
  obtain ⟨H2, s1, s2, s3⟩ := LR_set (x := 1) (w4 0 (by omega)) (show 0 < 121 by decide) (by decide)
  have d2 : dcO H2 a n m pick k w fl := (s3.1 a (by omega)).trans w2
  have t2 : TL z H2 n (TF n k []) := by
    refine ⟨tly_set (p := 0) (by decide) w3 s3 ⟨_, s2⟩, fun p hp => ?_⟩
    by_cases e : p = 0
    · subst e
      refine LR_ext s2 (fun s hs => ?_)
      show _ = Int64.ofNat (if 0 = 0 then dlt s 0 else 0)
      unfold dlt
      rw [if_pos rfl]
      by_cases q : s = 0
      · rw [if_pos q, if_pos q.symm]; rfl
      · rw [if_neg q, if_neg (fun w => q w.symm)]; rfl
    · refine LR_ext (LR_fr (w4 p hp) (s3.1 _ (by omega))) (fun s hs => ?_)
      show _ = Int64.ofNat (if 0 = p then dlt s 0 else 0)
      rw [if_neg (fun w => e w.symm)]
      rfl
  -- the faces
  have faces : ∀ (d i : Nat) (H3 : mj_H) (F : List Nat), i + d = m + 1 → 1 ≤ i → (∀ x ∈ F, x ≤ m) → dcO H3 a n m pick k w fl → TL z H3 n (TF n k F) → f15 z H H3 → ∃ G F', t_lp (B144_41 xt ct O N) (d + 1) (a, z + 14, Int32.ofNat (m * k), Int32.ofNat i, H3) = t_lp (B144_41 xt ct O N) 1 (a, z + 14, Int32.ofNat (m * k), Int32.ofNat (m + 1), G) ∧ dcO G a n m pick k w fl ∧ TL z G n (TF n k F') ∧ f15 z H G ∧ F' = F ++ (if pick = 108 then (List.range d).map (fun x => i + x) else (List.range d).map (fun x => m + 1 - (i + x))) := by
    intro d
    induction d with
    | zero =>
      intro i H3 F hi _ _ hd3 ht3 hf3
      refine ⟨H3, F, by rw [show i = m + 1 by omega], hd3, ht3, hf3, ?_⟩
      split <;> exact (List.append_nil _).symm
    | succ d ih =>
      intro i H3 F hi h1 hF hd3 ht3 hf3
      have g0 : gI H3 a 8 0 = some (Int32.ofNat n) := gI_of hd3 rfl
      have g1 : gI H3 a 8 1 = some (Int32.ofNat m) := gI_of hd3 rfl
      have g2 : gI H3 a 8 2 = some pick := gI_of hd3 rfl
      have c : mj_c2 .gt (Int32.ofNat i) (Int32.ofNat m) = false := (c_gt (by omega) (by omega)).trans (decide_eq_false (by omega))
      obtain ⟨f, hf⟩ : ∃ f, (if pick = 108 then i else m + 1 - i) = f := ⟨_, rfl⟩
      have fm : f ≤ m := by rw [← hf]; split <;> omega
      obtain ⟨G1, a1, a2, a3⟩ := L144_80_do (xt := xt) (ct := ct) (O := O) (N := N) (g := Int32.ofNat (m * k)) (i := Int32.ofNat i) hN ha hn hm.2 hk fm hF hd3 ht3
      obtain ⟨G, F', b1, b2, b3, b4, b5⟩ := ih (i + 1) G1 (F ++ [f]) (by omega) (by omega) (fun x hx => by
        rcases List.mem_append.mp hx with q | q
        · exact hF x q
        · rw [List.mem_singleton.mp q]; exact fm) ((a3.1 a (by omega)).trans hd3) a2 (f15_trans hf3 a3)
      refine ⟨G, F', ?_, b2, b3, b4, ?_⟩
      · have st : B144_41 xt ct O N (a, z + 14, Int32.ofNat (m * k), Int32.ofNat i, H3) = some (.inl (a, z + 14, Int32.ofNat (m * k), Int32.ofNat (i + 1), G1)) := by
          rw [← i_inc (k := i) (by omega), ← a1]
          by_cases q : pick = 108
          · have c2 : mj_c2 .ne pick 108 = false := by rw [q]; decide
            rw [if_pos q] at hf
            subst hf
            simp only [B144_41, g1, c, cond_false, g2, c2, J144_70, g0, Option.bind_some]
          · have c2 : mj_c2 .ne pick 108 = true := i_c2 (by show decide _ = true; exact decide_eq_true (fun w => q (Int32.toInt_inj.mp w)))
            rw [if_neg q] at hf
            have e : Int32.ofNat m + 1 - Int32.ofNat i = Int32.ofNat f := by rw [i_inc (by omega), n_sub (by omega) (by omega), hf]
            simp only [B144_41, g1, c, cond_false, g2, c2, cond_true, J144_70, g0, e, Option.bind_some]
        rw [t_one st]
        exact b1
      · rw [b5, List.append_assoc]
        congr 1
        by_cases q : pick = 108
        · rw [if_pos q, if_pos q]
          rw [if_pos q] at hf
          rw [List.range_succ_eq_map, List.map_cons, List.map_map, ← hf]
          show i :: _ = (i + 0) :: _
          rw [Nat.add_zero]
          congr 1
          exact List.map_congr_left (fun x _ => by show i + 1 + x = i + (x + 1); omega)
        · rw [if_neg q, if_neg q]
          rw [if_neg q] at hf
          rw [List.range_succ_eq_map, List.map_cons, List.map_map, ← hf]
          show (m + 1 - i) :: _ = (m + 1 - (i + 0)) :: _
          rw [Nat.add_zero]
          congr 1
          exact List.map_congr_left (fun x _ => by show m + 1 - (i + 1 + x) = m + 1 - (i + (x + 1)); rw [show i + 1 + x = i + (x + 1) by omega])
  obtain ⟨H4, F, f1, f2, f3, f4, f5⟩ := faces m 1 H2 [] (by omega) (by omega) (fun x hx => by cases hx) d2 t2 (f15_trans w5 (f15_of (p := 0) (by decide) s3))
  have fDr : ∀ m, fD m = (List.range m).map (fun x => m + 1 - (1 + x)) := by
    intro m
    induction m with
    | zero => rfl
    | succ m ih =>
      rw [List.range_succ_eq_map, List.map_cons, List.map_map, fD, ih]
      show (m + 1) :: _ = (m + 1 + 1 - (1 + 0)) :: _
      congr 1
      exact List.map_congr_left (fun x _ => by show m + 1 - (1 + x) = m + 1 + 1 - (1 + (x + 1)); omega)
  have fUr : (fD m).reverse = (List.range m).map (fun x => 1 + x) := by
    rw [fDr, ← List.map_reverse]
    apply List.ext_getElem
    · simp
    · intro i h1 h2
      simp at h1 h2 ⊢
      omega
  have Fe : F = if pick = 108 then (fD m).reverse else fD m := by
    rw [f5, List.nil_append]
    by_cases q : pick = 108
    · rw [if_pos q, if_pos q, fUr]
    · rw [if_neg q, if_neg q, ← fDr]
  have rown := f3.2 n (Nat.le_refl _)
  have hH4 : H4.2 = H.2 := f4.2
  obtain ⟨G, b1, b2, b3, b4, b5⟩ := C148_do (xt := xt) (ct := ct) (O := O) (N := N) (n := m * k + 1) rown (by rw [hH4]; omega) (by omega)
  rw [hH4] at b1 b2 b3 b4 b5
  refine ⟨G, ?_, LR_ext b2 (fun s hs => ?_), fun q h1 h2 => (b3 q h1).trans (f4.1 q h2), ?_, b4, by omega⟩
  · have g3 : gI H a 8 3 = some (Int32.ofNat k) := gI_of hd rfl
    have g1 : gI H a 8 1 = some (Int32.ofNat m) := gI_of hd rfl
    have g0 : gI H1 a 8 0 = some (Int32.ofNat n) := gI_of w2 rfl
    have g04 : gI H4 a 8 0 = some (Int32.ofNat n) := gI_of f2 rfl
    have g14 : gI H4 a 8 1 = some (Int32.ofNat m) := gI_of f2 rfl
    have c : mj_c2 .gt (Int32.ofNat (n + 1)) (Int32.ofNat n) = true := (c_gt (by omega) (by omega)).trans (decide_eq_true (by omega))
    have c4 : mj_c2 .gt (Int32.ofNat (m + 1)) (Int32.ofNat m) = true := (c_gt (by omega) (by omega)).trans (decide_eq_true (by omega))
    have inc : Int32.ofNat (m * k) + 1 = Int32.ofNat (m * k + 1) := i_inc (by omega)
    have e41 : B144_41 xt ct O N (a, z + 14, Int32.ofNat (m * k), Int32.ofNat (m + 1), H4) = some (.inr (H.2.1, G)) := by
      simp only [B144_41, g14, c4, cond_true, g04, tly_at (xt := xt) f3.1 (show n < 7 by omega), inc, b1, Option.bind_some]
    have l41 : L144_41 xt ct O N (a, z + 14, Int32.ofNat (m * k), 1, H2) = some (H.2.1, G) := t_lp_more (m + 1) _ _ (by omega) (f1.trans (t_end e41 _))
    have z0 : Int32.ofNat 0 = 0 := rfl
    have a0 := tly_at (xt := xt) w3 (show 0 < 7 by decide)
    have e12 : B144_12 xt ct O N (a, z + 14, Int32.ofNat (m * k), Int32.ofNat (n + 1), H1) = some (.inr (H.2.1, G)) := by
      rw [z0] at a0 s1
      simp only [B144_12, g0, c, cond_true, a0, s1, l41, Option.map_some, Option.bind_some]
    simp only [C144, g3, g1, gr, Option.bind_some]
    exact t_lp_more (n + 1 + 1) _ _ (by omega) (w1.trans (t_end e12 _))
  · unfold dW TF
    rw [if_neg hp, Fe]
    by_cases q : pick = 108
    · rw [if_pos q, if_pos q]
    · rw [if_neg q, if_neg q]
  · refine ⟨(b3 _ (by omega)).trans f3.1.1, fun p hp2 => ?_⟩
    obtain ⟨X, hX⟩ := f3.1.2 p hp2
    exact ⟨X, LR_fr hX (b3 _ (by omega))⟩
end TAM
