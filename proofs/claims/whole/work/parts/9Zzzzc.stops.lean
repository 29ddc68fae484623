section STO
variable {xt : mj_X} {ct : Nat → Value} {O : OR} {N z : Nat} {H : mj_H} {π : Nat → Nat} {Ls : Nat → Ss}
theorem upL_same {j : Nat} : upL Ls j (Ls j) = Ls := by
  funext q
  unfold upL
  split
  · rename_i e; rw [e]
  · rfl
theorem upL_up {j : Nat} {L L' : Ss} : upL (upL Ls j L) j L' = upL Ls j L' := by
  funext q
  unfold upL
  split <;> rfl
theorem so_in {i j : Nat} : z + so i + 1 ≠ z + so j ∧ z + so i + 2 ≠ z + so j := by
  by_cases q : i = j
  · rw [q]; omega
  · have := so_ne q; omega
/-- a state copied behind the others -/
theorem C164_do (h : stsH z H π Ls) {i j row : Nat} (hi : i < 10) (hj : j < 10) (hij : i ≠ j) {x : Vs × Nat} (hx : (Ls i)[row]? = some x) : ∃ G V W, C164 xt ct O N (z + so j) (z + so i) (Int32.ofNat row) H = some G ∧ sW z G (π j) V W ∧ rep (Ls j) V W ∧ (∀ n, n < 6 → V ((Ls j).length * 6 + n) = stf x.1 n) ∧ only (z + so (π j) + 1) H G := by
  obtain ⟨a1, a2, a3, V, W, ⟨a4, a5⟩, a6⟩ := h.1 j hj
  obtain ⟨b1, b2, b3, V', W', ⟨b4, b5⟩, b6⟩ := h.1 i hi
  have hr := (List.getElem?_eq_some_iff.mp hx).1
  have np : π i ≠ π j := fun q => hij (h.2 i j hi hj q)
  have d := so_ne np
  obtain ⟨G, c1, c2, c3⟩ := cY_I (sp := row * 6) (dp := (Ls j).length * 6) (c := 6) b4 a4 (by omega) (by omega) (by omega) (by omega)
  have e6 : ∀ n : Nat, Int32.ofNat n * 6 = Int32.ofNat (n * 6) := fun n => by rw [show (6 : Int32) = Int32.ofNat 6 from rfl, n_mul]
  have c1' : cY H (z + so (π i) + 1) (Int32.ofNat (row * 6)) (z + so (π j) + 1) (Int32.ofNat ((Ls j).length * 6)) 6 = some G := c1
  have g1 : gA H (z + so i) 2 0 = some (z + so (π i) + 1) := gA_of b3 rfl
  have g2 : gA H (z + so j) 2 0 = some (z + so (π j) + 1) := gA_of a3 rfl
  have g3 : gI H (z + so j) 2 2 = some (Int32.ofNat (Ls j).length) := gI_of a3 rfl
  refine ⟨G, _, W, ?_, ⟨c2, LR_fr a5 (c3.1 _ (by omega))⟩, fun q y hy => ⟨(a6 q y hy).1, fun n hn => ?_⟩, fun n hn => ?_, c3⟩
  · simp only [C164, g1, g2, g3, e6, c1', Option.bind_some]
  · have hq := (List.getElem?_eq_some_iff.mp hy).1
    show (if _ then _ else _) = _
    rw [if_neg (by omega)]
    exact (a6 q y hy).2 n hn
  · show (if _ then _ else _) = _
    rw [if_pos (by omega), ← (b6 row x hx).2 n hn]
    congr 1
    omega
theorem stf_set {k : Vs} {m n : Nat} {v : Int32} (hk : k.length = 6) (hn : n < 6) : stf (k.set m v) n = if n = m then v else stf k n := by
  unfold stf
  rw [List.getD_eq_getElem?_getD, List.getD_eq_getElem?_getD, List.getElem?_set]
  by_cases e : n = m
  · rw [if_pos e, if_pos e.symm, if_pos (by omega)]
    rfl
  · rw [if_neg e, if_neg (fun q => e q.symm)]
theorem k_b1 : narrow .boolean (.int 1) = .int 1 := by decide
theorem k_b0 : narrow .boolean (.int 0) = .int 0 := by decide
/-- a state with a variable changed -/
theorem C173_do (hN : 2000 ≤ N) (h : stsH z H π Ls) {i j row m : Nat} (hi : i < 10) (hj : j < 10) (hij : i ≠ j) {x : Vs × Nat} (hx : (Ls i)[row]? = some x) (hm : m < 6) {v : Int32} {tm : Nat} (h6 : ∀ y ∈ Ls j, y.1.length = 6) (hx6 : x.1.length = 6) : ((ins (x.1.set m v) (x.2 * tm) (Ls j)).length ≤ 64 → ∃ K, C173 xt ct O N (z + so j) (z + so i) (Int32.ofNat row) (Int32.ofNat m) v (Int64.ofNat tm) H = some (1, K) ∧ stsH z K π (upL Ls j (ins (x.1.set m v) (x.2 * tm) (Ls j))) ∧ sfr z H K) ∧ (64 < (ins (x.1.set m v) (x.2 * tm) (Ls j)).length → ∃ K, C173 xt ct O N (z + so j) (z + so i) (Int32.ofNat row) (Int32.ofNat m) v (Int64.ofNat tm) H = some (0, K) ∧ stsH z K π Ls ∧ sfr z H K) := by
  obtain ⟨a1, a2, a3, -⟩ := h.1 j hj
  obtain ⟨b1, b2, b3, V', W', ⟨b4, b5⟩, b6⟩ := h.1 i hi
  have hr := (List.getElem?_eq_some_iff.mp hx).1
  have np : π i ≠ π j := fun q => hij (h.2 i j hi hj q)
  have d := so_ne np
  obtain ⟨G, V, W, c1, c2, c3, c4, c5⟩ := C164_do (xt := xt) (ct := ct) (O := O) (N := N) h hi hj hij hx
  have oj : sO z G j (π j) (Ls j).length := (c5.1 _ (fun q => so_in.1 q.symm)).trans a3
  have oi : sO z G i (π i) (Ls i).length := (c5.1 _ (fun q => so_in.1 q.symm)).trans b3
  obtain ⟨G2, d1, d2, d3⟩ := IR_set (x := v) c2.1 (show (Ls j).length * 6 + m < 390 by omega) (by omega)
  have e6 : Int32.ofNat (Ls j).length * 6 + Int32.ofNat m = Int32.ofNat ((Ls j).length * 6 + m) := by rw [show (6 : Int32) = Int32.ofNat 6 from rfl, n_mul, n_add]
  have oj2 : sO z G2 j (π j) (Ls j).length := (d3.1 _ (fun q => so_in.1 q.symm)).trans oj
  have oi2 : sO z G2 i (π i) (Ls i).length := (d3.1 _ (fun q => so_in.1 q.symm)).trans oi
  have wi2 : LR G2 (z + so (π i) + 2) 64 W' := LR_fr b5 ((d3.1 _ (by omega)).trans (c5.1 _ (by omega)))
  have rep2 : rep (Ls j) (fun p => if p = (Ls j).length * 6 + m then v else V p) W := fun q y hy => ⟨(c3 q y hy).1, fun n hn => by
    have hq := (List.getElem?_eq_some_iff.mp hy).1
    show (if _ then _ else _) = _
    rw [if_neg (by omega)]
    exact (c3 q y hy).2 n hn⟩
  have cand : ∀ n, n < 6 → (fun p => if p = (Ls j).length * 6 + m then v else V p) ((Ls j).length * 6 + n) = stf (x.1.set m v) n := fun n hn => by
    rw [stf_set hx6 hn]
    show (if _ then _ else _) = _
    by_cases e : n = m
    · rw [if_pos (by omega), if_pos e]
    · rw [if_neg (by omega), if_neg e]
      exact c4 n hn
  have sw2 : sW z G2 (π j) (fun p => if p = (Ls j).length * 6 + m then v else V p) W := ⟨d2, LR_fr c2.2 (d3.1 _ (by omega))⟩
  obtain ⟨s1, s2⟩ := C168_do (xt := xt) (ct := ct) (O := O) (N := N) (k := x.1.set m v) (w := x.2 * tm) hN oj2 sw2 rep2 cand a2 (by rw [List.length_set]; exact hx6) h6
  have kj : gK H (z + so j) 2 = some () := gK_of a3
  have g1 : gA G (z + so j) 2 0 = some (z + so (π j) + 1) := gA_of oj rfl
  have g2 : gI G (z + so j) 2 2 = some (Int32.ofNat (Ls j).length) := gI_of oj rfl
  have g3 : gA G2 (z + so i) 2 1 = some (z + so (π i) + 2) := gA_of oi2 rfl
  have g4 : aL xt G2 (z + so (π i) + 2) (Int32.ofNat row) = some (Int64.ofNat x.2) := by rw [← (b6 row x hx).1]; exact LR_get wi2 (by omega) (by omega)
  have k2 : gK G2 (z + so j) 2 = some () := gK_of oj2
  have fr2 : ∀ q, q ≠ z + so (π j) + 1 → G2.1 q = H.1 q := fun q hq => (d3.1 q hq).trans (c5.1 q hq)
  constructor
  · intro hl
    obtain ⟨K, W2, t1, t2, t3, t4, t5, t6⟩ := s1 hl
    obtain ⟨u1, u2⟩ := sts_upd (K := K) h hj hl t2 ⟨_, W2, t3, t4⟩ (fun q q1 q2 q3 => (t5 q q1 q3).trans (fr2 q q2)) (t6.trans (d3.2.trans c5.2))
    refine ⟨K, ?_, u1, u2⟩
    simp only [C173, kj, c1, g1, g2, e6, d1, g3, g4, l_mul, k2, t1, if_pos k_b1, Option.bind_some]
  · intro hl
    have t1 := s2 hl
    obtain ⟨u1, u2⟩ := sts_upd (K := G2) (L := Ls j) h hj a2 oj2 ⟨_, W, sw2, rep2⟩ (fun q q1 q2 q3 => fr2 q q2) (d3.2.trans c5.2)
    rw [upL_same] at u1
    refine ⟨G2, ?_, u1, u2⟩
    simp only [C173, kj, c1, g1, g2, e6, d1, g3, g4, l_mul, k2, t1, if_pos k_b0, Option.bind_some]
/-- a state put behind -/
theorem C163_do (h : stsH z H π Ls) {i j row : Nat} (hi : i < 10) (hj : j < 10) (hij : i ≠ j) {x : Vs × Nat} (hx : (Ls i)[row]? = some x) {tm : Nat} (ht : tm ≤ 2147483648) (hl : (Ls j).length < 64) : ∃ K, C163 xt ct O N (z + so j) (z + so i) (Int32.ofNat row) (Int64.ofNat tm) H = some K ∧ stsH z K π (upL Ls j (Ls j ++ if tm = 0 then [] else [(x.1, x.2 * tm)])) ∧ sfr z H K := by
  obtain ⟨a1, a2, a3, -⟩ := h.1 j hj
  obtain ⟨b1, b2, b3, V', W', ⟨b4, b5⟩, b6⟩ := h.1 i hi
  have hr := (List.getElem?_eq_some_iff.mp hx).1
  have np : π i ≠ π j := fun q => hij (h.2 i j hi hj q)
  have d := so_ne np
  have q0 : (0 : Int64).toInt = 0 := rfl
  by_cases e : tm = 0
  · have l1 : mj_c1 .le (lg_cmp (Int64.ofNat tm) 0) = true := by rw [lc_le, e]; rfl
    refine ⟨H, ?_, ?_, sfr_refl⟩
    · simp only [C163, l1, cond_true, J163_48]
    · rw [if_pos e, List.append_nil, upL_same]
      exact h
  · have l1 : mj_c1 .le (lg_cmp (Int64.ofNat tm) 0) = false := by
      rw [lc_le, j_nat (by omega), q0]
      exact decide_eq_false (by omega)
    have c2 : mj_c2 .ge (Int32.ofNat (Ls j).length) 64 = false := c_geF (b := 64) (by omega) (by omega) (by omega)
    obtain ⟨G, V, W, c1, c2', c3, c4, c5⟩ := C164_do (xt := xt) (ct := ct) (O := O) (N := N) h hi hj hij hx
    have oj : sO z G j (π j) (Ls j).length := (c5.1 _ (fun q => so_in.1 q.symm)).trans a3
    have oi : sO z G i (π i) (Ls i).length := (c5.1 _ (fun q => so_in.1 q.symm)).trans b3
    have wi : LR G (z + so (π i) + 2) 64 W' := LR_fr b5 (c5.1 _ (by omega))
    have g0 : gI H (z + so j) 2 2 = some (Int32.ofNat (Ls j).length) := gI_of a3 rfl
    have kj : gK H (z + so j) 2 = some () := gK_of a3
    have g1 : gA G (z + so j) 2 1 = some (z + so (π j) + 2) := gA_of oj rfl
    have g2 : gI G (z + so j) 2 2 = some (Int32.ofNat (Ls j).length) := gI_of oj rfl
    have g3 : gA G (z + so i) 2 1 = some (z + so (π i) + 2) := gA_of oi rfl
    have g4 : aL xt G (z + so (π i) + 2) (Int32.ofNat row) = some (Int64.ofNat x.2) := by rw [← (b6 row x hx).1]; exact LR_get wi (by omega) (by omega)
    obtain ⟨G1, d1, d2, d3⟩ := LR_set (x := Int64.ofNat (x.2 * tm)) c2'.2 hl (by omega)
    have oj1 : sO z G1 j (π j) (Ls j).length := (d3.1 _ (fun q => so_in.2 q.symm)).trans oj
    have g5 : gI G1 (z + so j) 2 2 = some (Int32.ofNat (Ls j).length) := gI_of oj1 rfl
    have u := uF_of (n := 2) (v := .int (Int32.ofNat (Ls j).length + 1)) oj1
    obtain ⟨K, hK⟩ : ∃ K, mj_put G1 (z + so j) (.inr (2, [.ref (z + so (π j) + 1), .ref (z + so (π j) + 2), .int (Int32.ofNat (Ls j).length + 1)])) = K := ⟨_, rfl⟩
    have u' : uF G1 (z + so j) 2 2 (.int (Int32.ofNat (Ls j).length + 1)) = some K := by rw [← hK]; exact u
    have fr : ∀ q, q ≠ z + so j → K.1 q = G1.1 q := fun q hq => by rw [← hK]; exact mj_put_ne hq
    have ok : sO z K j (π j) (Ls j ++ [(x.1, x.2 * tm)]).length := by
      rw [i_inc (by omega)] at hK
      rw [List.length_append, List.length_singleton, ← hK]
      exact mj_put_eq
    obtain ⟨u1, u2⟩ := sts_upd (K := K) (L := Ls j ++ [(x.1, x.2 * tm)]) h hj (by rw [List.length_append, List.length_singleton]; omega) ok ⟨V, fun q => if q = (Ls j).length then Int64.ofNat (x.2 * tm) else W q, ⟨IR_fr c2'.1 ((fr _ so_in.1).trans (d3.1 _ (by omega))), LR_fr d2 (fr _ so_in.2)⟩, rep_snoc c3 c4⟩ (fun q q1 q2 q3 => (fr q q1).trans ((d3.1 q q3).trans (c5.1 q q2))) (by rw [← hK]; exact d3.2.trans c5.2)
    refine ⟨K, ?_, by rw [if_neg e]; exact u1, u2⟩
    simp only [C163, l1, cond_false, g0, c2, kj, c1, g1, g2, g3, g4, l_mul, d1, g5, u', J163_48, Option.bind_some]
/-- all states of others -/
theorem C167_do (hN : 2000 ≤ N) (h : stsH z H π Ls) {i j tm : Nat} (hi : i < 10) (hj : j < 10) (hij : i ≠ j) (h6 : ∀ y ∈ Ls j, y.1.length = 6) (hi6 : ∀ y ∈ Ls i, y.1.length = 6) : ((insA (scl tm (Ls i)) (Ls j)).length ≤ 64 → ∃ K, C167 xt ct O N (z + so j) (z + so i) (Int64.ofNat tm) H = some (1, K) ∧ stsH z K π (upL Ls j (insA (scl tm (Ls i)) (Ls j))) ∧ sfr z H K) ∧ (64 < (insA (scl tm (Ls i)) (Ls j)).length → ∃ K L, C167 xt ct O N (z + so j) (z + so i) (Int64.ofNat tm) H = some (0, K) ∧ stsH z K π (upL Ls j L) ∧ sfr z H K) := by
  have key : ∀ (d row : Nat) (H1 : mj_H) (L1 : Ss), row + d = (Ls i).length → stsH z H1 π (upL Ls j L1) → (∀ y ∈ L1, y.1.length = 6) → sfr z H H1 → ((insA (scl tm ((Ls i).drop row)) L1).length ≤ 64 → ∃ K, t_lp (B167_6 xt ct O N) (d + 2) (z + so j, z + so i, Int64.ofNat tm, 1, Int32.ofNat row, H1) = some (1, K) ∧ stsH z K π (upL Ls j (insA (scl tm ((Ls i).drop row)) L1)) ∧ sfr z H K) ∧ (64 < (insA (scl tm ((Ls i).drop row)) L1).length → ∃ K L, t_lp (B167_6 xt ct O N) (d + 2) (z + so j, z + so i, Int64.ofNat tm, 1, Int32.ofNat row, H1) = some (0, K) ∧ stsH z K π (upL Ls j L) ∧ sfr z H K) := by
    intro d
    induction d with
    | zero =>
      intro row H1 L1 hrow h1 h61 hf
      have hd : (Ls i).drop row = [] := List.drop_eq_nil_of_le (by omega)
      have b := h1.1 i hi
      rw [upL_ne hij] at b
      have a := h1.1 j hj
      rw [upL_eq] at a
      have g : gI H1 (z + so i) 2 2 = some (Int32.ofNat (Ls i).length) := gI_of b.2.2.1 rfl
      have c := c_geT (a := row) (b := (Ls i).length) (by have := b.2.1; omega) (by have := b.2.1; omega) (by omega)
      rw [hd]
      show (L1.length ≤ 64 → _) ∧ (64 < L1.length → _)
      refine ⟨fun _ => ⟨H1, t_end ?_ _, h1, hf⟩, fun q => absurd a.2.1 (by omega)⟩
      simp only [B167_6, g, c, cond_true, J167_48, if_pos k_b1, Option.bind_some, Option.map_some]
    | succ d ih =>
      intro row H1 L1 hrow h1 h61 hf
      have hlt : row < (Ls i).length := by omega
      obtain ⟨x, hx⟩ : ∃ x, (Ls i)[row]? = some x := ⟨_, List.getElem?_eq_getElem hlt⟩
      have hd : (Ls i).drop row = x :: (Ls i).drop (row + 1) := by
        rw [List.drop_eq_getElem_cons hlt]
        rw [List.getElem?_eq_getElem hlt] at hx
        rw [Option.some.inj hx]
      have hx6 := hi6 x (List.mem_of_getElem? hx)
      obtain ⟨b1, b2, b3, V', W', ⟨b4, b5⟩, b6⟩ := h1.1 i hi
      obtain ⟨a1, a2, a3, -⟩ := h1.1 j hj
      have hx' : (upL Ls j L1 i)[row]? = some x := by rw [upL_ne hij]; exact hx
      have np : π i ≠ π j := fun q => hij (h1.2 i j hi hj q)
      have dd := so_ne np
      have e6 := b6 row x hx'
      rw [upL_ne hij] at b2 b3
      rw [upL_eq] at a2 a3
      have gi : gI H1 (z + so i) 2 2 = some (Int32.ofNat (Ls i).length) := gI_of b3 rfl
      have c := c_geF (a := row) (b := (Ls i).length) (by omega) (by omega) hlt
      have e1 : mj_c1 .eq 1 = false := by decide
      have e0 : mj_c1 .eq 0 = true := by decide
      have kj : gK H1 (z + so j) 2 = some () := gK_of a3
      obtain ⟨G, V, W, c1, c2, c3, c4, c5⟩ := C164_do (xt := xt) (ct := ct) (O := O) (N := N) h1 hi hj hij hx'
      rw [upL_eq] at c3 c4
      have oj : sO z G j (π j) L1.length := (c5.1 _ (fun q => so_in.1 q.symm)).trans a3
      have oi : sO z G i (π i) (Ls i).length := (c5.1 _ (fun q => so_in.1 q.symm)).trans b3
      have wi : LR G (z + so (π i) + 2) 64 W' := LR_fr b5 (c5.1 _ (by omega))
      have g3 : gA G (z + so i) 2 1 = some (z + so (π i) + 2) := gA_of oi rfl
      have g4 : aL xt G (z + so (π i) + 2) (Int32.ofNat row) = some (Int64.ofNat x.2) := by rw [← e6.1]; exact LR_get wi (by omega) (by omega)
      have kG : gK G (z + so j) 2 = some () := gK_of oj
      obtain ⟨s1, s2⟩ := C168_do (xt := xt) (ct := ct) (O := O) (N := N) (k := x.1) (w := x.2 * tm) hN oj c2 c3 c4 a2 hx6 h61
      rw [hd]
      show ((insA (scl tm ((Ls i).drop (row + 1))) (ins x.1 (x.2 * tm) L1)).length ≤ 64 → _) ∧ (64 < (insA (scl tm ((Ls i).drop (row + 1))) (ins x.1 (x.2 * tm) L1)).length → _)
      have mono := insA_len (scl tm ((Ls i).drop (row + 1))) (ins x.1 (x.2 * tm) L1)
      by_cases hl : (ins x.1 (x.2 * tm) L1).length ≤ 64
      · obtain ⟨K, W2, t1, t2, t3, t4, t5, t6⟩ := s1 hl
        obtain ⟨u1, u2⟩ := sts_upd (K := K) h1 hj hl t2 ⟨_, W2, t3, t4⟩ (fun q q1 q2 q3 => (t5 q q1 q3).trans (c5.1 q q2)) (t6.trans c5.2)
        rw [upL_up] at u1
        have st : B167_6 xt ct O N (z + so j, z + so i, Int64.ofNat tm, 1, Int32.ofNat row, H1) = some (.inl (z + so j, z + so i, Int64.ofNat tm, 1, Int32.ofNat (row + 1), K)) := by
          simp only [B167_6, gi, c, cond_false, e1, kj, c1, g3, g4, l_mul, kG, t1, i_inc (show row < 1000000 by omega), Option.bind_some]
        rw [t_one st]
        refine ih (row + 1) K _ (by omega) u1 (fun y hy => ?_) (sfr_trans hf u2)
        rcases ins_mem L1 y hy with q | q
        · exact h61 y q
        · rw [q.1]; exact hx6
      · have t1 := s2 (by omega)
        obtain ⟨u1, u2⟩ := sts_upd (K := G) (L := L1) h1 hj a2 oj ⟨V, W, c2, c3⟩ (fun q q1 q2 q3 => c5.1 q q2) c5.2
        rw [upL_up] at u1
        refine ⟨fun q => absurd q (by omega), fun _ => ⟨G, L1, ?_, u1, sfr_trans hf u2⟩⟩
        have st : B167_6 xt ct O N (z + so j, z + so i, Int64.ofNat tm, 1, Int32.ofNat row, H1) = some (.inl (z + so j, z + so i, Int64.ofNat tm, 0, Int32.ofNat (row + 1), G)) := by
          simp only [B167_6, gi, c, cond_false, e1, kj, c1, g3, g4, l_mul, kG, t1, i_inc (show row < 1000000 by omega), Option.bind_some]
        rw [t_one st]
        have gG : gI G (z + so i) 2 2 = some (Int32.ofNat (Ls i).length) := gI_of oi rfl
        refine t_end ?_ _
        by_cases c2 : (Ls i).length ≤ row + 1
        · have cc := c_geT (a := row + 1) (b := (Ls i).length) (by omega) (by omega) c2
          simp only [B167_6, gG, cc, cond_true, J167_48, if_pos k_b0, Option.bind_some, Option.map_some]
        · have cc := c_geF (a := row + 1) (b := (Ls i).length) (by omega) (by omega) (by omega)
          simp only [B167_6, gG, cc, cond_false, e0, cond_true, J167_48, if_pos k_b0, Option.bind_some, Option.map_some]
  have b := h.1 i hi
  obtain ⟨a1, a2⟩ := key (Ls i).length 0 H (Ls j) (by omega) (by rw [upL_same]; exact h) h6 sfr_refl
  rw [List.drop_zero] at a1 a2
  refine ⟨fun q => ?_, fun q => ?_⟩
  · obtain ⟨K, b1, b2⟩ := a1 q
    exact ⟨K, t_lp_more _ _ _ (by have := b.2.1; omega) b1, b2⟩
  · obtain ⟨K, L, b1, b2⟩ := a2 q
    exact ⟨K, L, t_lp_more _ _ _ (by have := b.2.1; omega) b1, b2⟩
def swp {α : Type} (f : Nat → α) (i j : Nat) : Nat → α := fun q => if q = i then f j else if q = j then f i else f q
/-- two change their rows -/
theorem C165_do (h : stsH z H π Ls) {i j : Nat} (hi : i < 10) (hj : j < 10) (hij : i ≠ j) : ∃ K, C165 xt ct O N (z + so j) (z + so i) H = some K ∧ stsH z K (swp π i j) (swp Ls i j) ∧ sfr z H K := by
  obtain ⟨a1, a2, a3, a4⟩ := h.1 j hj
  obtain ⟨b1, b2, b3, b4⟩ := h.1 i hi
  have dn := so_ne hij
  have nij : z + so i ≠ z + so j := by omega
  have nji : z + so j ≠ z + so i := by omega
  have f1 : gA H (z + so i) 2 0 = some (z + so (π i) + 1) := gA_of b3 rfl
  have f2 : gA H (z + so i) 2 1 = some (z + so (π i) + 2) := gA_of b3 rfl
  have f3 : gI H (z + so i) 2 2 = some (Int32.ofNat (Ls i).length) := gI_of b3 rfl
  have f4 : gA H (z + so j) 2 0 = some (z + so (π j) + 1) := gA_of a3 rfl
  have u1 := uF_of (n := 0) (v := .ref (z + so (π j) + 1)) b3
  obtain ⟨H1, hH1⟩ : ∃ G, mj_put H (z + so i) (.inr (2, [.ref (z + so (π j) + 1), .ref (z + so (π i) + 2), .int (Int32.ofNat (Ls i).length)])) = G := ⟨_, rfl⟩
  have u1' : uF H (z + so i) 2 0 (.ref (z + so (π j) + 1)) = some H1 := by rw [← hH1]; exact u1
  have c1 : H1.1 (z + so i) = some (.inr (2, [.ref (z + so (π j) + 1), .ref (z + so (π i) + 2), .int (Int32.ofNat (Ls i).length)])) := by rw [← hH1]; exact mj_put_eq
  have n1 : ∀ q, q ≠ z + so i → H1.1 q = H.1 q := fun q hq => by rw [← hH1]; exact mj_put_ne hq
  have j1 : sO z H1 j (π j) (Ls j).length := (n1 _ nji).trans a3
  have f5 : gA H1 (z + so j) 2 1 = some (z + so (π j) + 2) := gA_of j1 rfl
  have u2 := uF_of (n := 1) (v := .ref (z + so (π j) + 2)) c1
  obtain ⟨H2, hH2⟩ : ∃ G, mj_put H1 (z + so i) (.inr (2, [.ref (z + so (π j) + 1), .ref (z + so (π j) + 2), .int (Int32.ofNat (Ls i).length)])) = G := ⟨_, rfl⟩
  have u2' : uF H1 (z + so i) 2 1 (.ref (z + so (π j) + 2)) = some H2 := by rw [← hH2]; exact u2
  have c2 : H2.1 (z + so i) = some (.inr (2, [.ref (z + so (π j) + 1), .ref (z + so (π j) + 2), .int (Int32.ofNat (Ls i).length)])) := by rw [← hH2]; exact mj_put_eq
  have n2 : ∀ q, q ≠ z + so i → H2.1 q = H1.1 q := fun q hq => by rw [← hH2]; exact mj_put_ne hq
  have j2 : sO z H2 j (π j) (Ls j).length := (n2 _ nji).trans j1
  have f6 : gI H2 (z + so j) 2 2 = some (Int32.ofNat (Ls j).length) := gI_of j2 rfl
  have u3 := uF_of (n := 2) (v := .int (Int32.ofNat (Ls j).length)) c2
  obtain ⟨H3, hH3⟩ : ∃ G, mj_put H2 (z + so i) (.inr (2, [.ref (z + so (π j) + 1), .ref (z + so (π j) + 2), .int (Int32.ofNat (Ls j).length)])) = G := ⟨_, rfl⟩
  have u3' : uF H2 (z + so i) 2 2 (.int (Int32.ofNat (Ls j).length)) = some H3 := by rw [← hH3]; exact u3
  have c3 : sO z H3 i (π j) (Ls j).length := by rw [← hH3]; exact mj_put_eq
  have n3 : ∀ q, q ≠ z + so i → H3.1 q = H2.1 q := fun q hq => by rw [← hH3]; exact mj_put_ne hq
  have j3 : sO z H3 j (π j) (Ls j).length := (n3 _ nji).trans j2
  have u4 := uF_of (n := 0) (v := .ref (z + so (π i) + 1)) j3
  obtain ⟨H4, hH4⟩ : ∃ G, mj_put H3 (z + so j) (.inr (2, [.ref (z + so (π i) + 1), .ref (z + so (π j) + 2), .int (Int32.ofNat (Ls j).length)])) = G := ⟨_, rfl⟩
  have u4' : uF H3 (z + so j) 2 0 (.ref (z + so (π i) + 1)) = some H4 := by rw [← hH4]; exact u4
  have c4 : H4.1 (z + so j) = some (.inr (2, [.ref (z + so (π i) + 1), .ref (z + so (π j) + 2), .int (Int32.ofNat (Ls j).length)])) := by rw [← hH4]; exact mj_put_eq
  have n4 : ∀ q, q ≠ z + so j → H4.1 q = H3.1 q := fun q hq => by rw [← hH4]; exact mj_put_ne hq
  have u5 := uF_of (n := 1) (v := .ref (z + so (π i) + 2)) c4
  obtain ⟨H5, hH5⟩ : ∃ G, mj_put H4 (z + so j) (.inr (2, [.ref (z + so (π i) + 1), .ref (z + so (π i) + 2), .int (Int32.ofNat (Ls j).length)])) = G := ⟨_, rfl⟩
  have u5' : uF H4 (z + so j) 2 1 (.ref (z + so (π i) + 2)) = some H5 := by rw [← hH5]; exact u5
  have c5 : H5.1 (z + so j) = some (.inr (2, [.ref (z + so (π i) + 1), .ref (z + so (π i) + 2), .int (Int32.ofNat (Ls j).length)])) := by rw [← hH5]; exact mj_put_eq
  have n5 : ∀ q, q ≠ z + so j → H5.1 q = H4.1 q := fun q hq => by rw [← hH5]; exact mj_put_ne hq
  have u6 := uF_of (n := 2) (v := .int (Int32.ofNat (Ls i).length)) c5
  obtain ⟨H6, hH6⟩ : ∃ G, mj_put H5 (z + so j) (.inr (2, [.ref (z + so (π i) + 1), .ref (z + so (π i) + 2), .int (Int32.ofNat (Ls i).length)])) = G := ⟨_, rfl⟩
  have u6' : uF H5 (z + so j) 2 2 (.int (Int32.ofNat (Ls i).length)) = some H6 := by rw [← hH6]; exact u6
  have c6 : sO z H6 j (π i) (Ls i).length := by rw [← hH6]; exact mj_put_eq
  have n6 : ∀ q, q ≠ z + so j → H6.1 q = H5.1 q := fun q hq => by rw [← hH6]; exact mj_put_ne hq
  have fr : ∀ q, q ≠ z + so i → q ≠ z + so j → H6.1 q = H.1 q := fun q q1 q2 => (n6 q q2).trans ((n5 q q2).trans ((n4 q q2).trans ((n3 q q1).trans ((n2 q q1).trans (n1 q q1)))))
  have ci : sO z H6 i (π j) (Ls j).length := (n6 _ nij).trans ((n5 _ nij).trans ((n4 _ nij).trans c3))
  have rp : ∀ p L, sRp z H p L → sRp z H6 p L := by
    rintro p L ⟨V, W, ⟨w1, w2⟩, w3⟩
    exact ⟨V, W, ⟨IR_fr w1 (fr _ so_in.1 so_in.1), LR_fr w2 (fr _ so_in.2 so_in.2)⟩, w3⟩
  refine ⟨H6, ?_, ⟨fun q hq => ?_, fun a b ha hb e => ?_⟩, fun q q1 q2 => fr q (by have := so_rng hi; omega) (by have := so_rng hj; omega), ?_⟩
  · simp only [C165, f1, f2, f3, f4, u1', f5, u2', f6, u3', u4', u5', u6', Option.bind_some]
  · unfold swp
    by_cases e1 : q = i
    · rw [if_pos e1, if_pos e1, e1]
      exact ⟨a1, a2, ci, rp _ _ a4⟩
    · rw [if_neg e1, if_neg e1]
      by_cases e2 : q = j
      · rw [if_pos e2, if_pos e2, e2]
        exact ⟨b1, b2, c6, rp _ _ b4⟩
      · rw [if_neg e2, if_neg e2]
        obtain ⟨x1, x2, x3, x4⟩ := h.1 q hq
        have d1 := so_ne e1
        have d2 := so_ne e2
        exact ⟨x1, x2, (fr _ (by omega) (by omega)).trans x3, rp _ _ x4⟩
  · unfold swp at e
    have inj := h.2
    by_cases x1 : a = i <;> by_cases x2 : b = i
    · omega
    · rw [if_pos x1, if_neg x2] at e
      by_cases x3 : b = j
      · rw [if_pos x3] at e
        have := inj j i hj hi e
        omega
      · rw [if_neg x3] at e
        have := inj j b hj hb e
        omega
    · rw [if_neg x1, if_pos x2] at e
      by_cases x3 : a = j
      · rw [if_pos x3] at e
        have := inj i j hi hj e
        omega
      · rw [if_neg x3] at e
        have := inj a j ha hj e
        omega
    · rw [if_neg x1, if_neg x2] at e
      by_cases x3 : a = j <;> by_cases x4 : b = j
      · omega
      · rw [if_pos x3, if_neg x4] at e
        have := inj i b hi hb e
        omega
      · rw [if_neg x3, if_pos x4] at e
        have := inj a i ha hi e
        omega
      · rw [if_neg x3, if_neg x4] at e
        exact inj a b ha hb e
  · rw [← hH6, ← hH5, ← hH4, ← hH3, ← hH2, ← hH1]
    rfl
end STO
