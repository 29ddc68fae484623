/-! STATES ON THE HEAP: ten objects and their rows, which they change among each other -/
theorem fitI {n : Nat} {V : Nat → Int32} : (((List.range n).map (fun i => Value.int (V i))).all (fun v => fits .int v)) = true := by
  rw [List.all_map, List.all_eq_true]
  intro x _
  rfl
theorem fitL {n : Nat} {V : Nat → Int64} : (((List.range n).map (fun i => Value.long (V i))).all (fun v => fits .long v)) = true := by
  rw [List.all_map, List.all_eq_true]
  intro x _
  rfl
theorem n_nn {a : Nat} (h : a < 2147483648) : ¬ Int32.ofNat a < 0 := by
  rw [Int32.lt_iff_toInt_lt, i_nat h]
  show ¬ (a : Int) < 0
  omega
theorem n_cl {a : Nat} (h : a < 2147483648) : (Int32.ofNat a).toNatClampNeg = a := n_t h
/-- ints copied from a row to another, or within one -/
theorem cY_I {H : mj_H} {a b n m sp dp c : Nat} {V V' : Nat → Int32} (ha : IR H a n V) (hb : IR H b m V') (h1 : sp + c ≤ n) (h2 : dp + c ≤ m) (hn : n < 100000) (hm : m < 100000) : ∃ G, cY H a (Int32.ofNat sp) b (Int32.ofNat dp) (Int32.ofNat c) = some G ∧ IR G b m (fun k => if dp ≤ k ∧ k < dp + c then V (sp + (k - dp)) else V' k) ∧ only b H G := by
  refine ⟨mj_put H b (.inl (.int, mj_cpy ((List.range n).map (fun i => .int (V i))) ((List.range m).map (fun i => .int (V' i))) sp dp c)), ?_, ?_, only_put⟩
  · unfold cY
    rw [show H.1 a = _ from ha, show H.1 b = _ from hb]
    simp only
    rw [n_cl (by omega), n_cl (by omega), n_cl (by omega), if_pos ⟨trivial, rfl, n_nn (by omega), n_nn (by omega), n_nn (by omega), by rw [rg_len]; omega, by rw [rg_len]; omega, fitI⟩]
  · unfold IR
    rw [mj_put_eq]
    congr 3
    unfold mj_cpy
    rw [rg_len]
    refine List.map_congr_left (fun i hi => ?_)
    have hi2 := List.mem_range.mp hi
    dsimp only
    by_cases e : dp ≤ i ∧ i < dp + c
    · rw [if_pos e, if_pos e, List.getD_eq_getElem?_getD, rg_at (by omega)]
      rfl
    · rw [if_neg e, if_neg e, List.getD_eq_getElem?_getD, rg_at hi2]
      rfl
theorem cY_L {H : mj_H} {a b n m sp dp c : Nat} {V V' : Nat → Int64} (ha : LR H a n V) (hb : LR H b m V') (h1 : sp + c ≤ n) (h2 : dp + c ≤ m) (hn : n < 100000) (hm : m < 100000) : ∃ G, cY H a (Int32.ofNat sp) b (Int32.ofNat dp) (Int32.ofNat c) = some G ∧ LR G b m (fun k => if dp ≤ k ∧ k < dp + c then V (sp + (k - dp)) else V' k) ∧ only b H G := by
  refine ⟨mj_put H b (.inl (.long, mj_cpy ((List.range n).map (fun i => .long (V i))) ((List.range m).map (fun i => .long (V' i))) sp dp c)), ?_, ?_, only_put⟩
  · unfold cY
    rw [show H.1 a = _ from ha, show H.1 b = _ from hb]
    simp only
    rw [n_cl (by omega), n_cl (by omega), n_cl (by omega), if_pos ⟨trivial, rfl, n_nn (by omega), n_nn (by omega), n_nn (by omega), by rw [rg_len]; omega, by rw [rg_len]; omega, fitL⟩]
  · unfold LR
    rw [mj_put_eq]
    congr 3
    unfold mj_cpy
    rw [rg_len]
    refine List.map_congr_left (fun i hi => ?_)
    have hi2 := List.mem_range.mp hi
    dsimp only
    by_cases e : dp ≤ i ∧ i < dp + c
    · rw [if_pos e, if_pos e, List.getD_eq_getElem?_getD, rg_at (by omega)]
      rfl
    · rw [if_neg e, if_neg e, List.getD_eq_getElem?_getD, rg_at hi2]
      rfl
def so (j : Nat) : Nat := if j < 2 then 22 + 3 * j else 24 + 3 * j
theorem so_lt {i j : Nat} (h : i < j) : so i + 3 ≤ so j := by
  unfold so
  split <;> split <;> omega
theorem so_rng {j : Nat} (h : j < 10) : (22 ≤ so j ∧ so j + 2 ≤ 27) ∨ (30 ≤ so j ∧ so j + 2 ≤ 53) := by
  unfold so
  split <;> omega
theorem so_ne {i j : Nat} (h : i ≠ j) : so i + 3 ≤ so j ∨ so j + 3 ≤ so i := by
  rcases Nat.lt_or_ge i j with c | c
  · exact Or.inl (so_lt c)
  · exact Or.inr (so_lt (by omega))
/-- these states in these rows -/
def rep (L : Ss) (V : Nat → Int32) (W : Nat → Int64) : Prop := ∀ (i : Nat) (x : Vs × Nat), L[i]? = some x → W i = Int64.ofNat x.2 ∧ ∀ n, n < 6 → V (i * 6 + n) = stf x.1 n
def sW (z : Nat) (H : mj_H) (p : Nat) (V : Nat → Int32) (W : Nat → Int64) : Prop := IR H (z + so p + 1) 390 V ∧ LR H (z + so p + 2) 64 W
def sO (z : Nat) (H : mj_H) (j p n : Nat) : Prop := H.1 (z + so j) = some (.inr (2, [.ref (z + so p + 1), .ref (z + so p + 2), .int (Int32.ofNat n)]))
def sRp (z : Nat) (H : mj_H) (p : Nat) (L : Ss) : Prop := ∃ V W, sW z H p V W ∧ rep L V W
def stsH (z : Nat) (H : mj_H) (π : Nat → Nat) (Ls : Nat → Ss) : Prop := (∀ j, j < 10 → π j < 10 ∧ (Ls j).length ≤ 64 ∧ sO z H j (π j) (Ls j).length ∧ sRp z H (π j) (Ls j)) ∧ ∀ i j, i < 10 → j < 10 → π i = π j → i = j
def upL (Ls : Nat → Ss) (j : Nat) (L : Ss) : Nat → Ss := fun q => if q = j then L else Ls q
theorem upL_eq {Ls : Nat → Ss} {j : Nat} {L : Ss} : upL Ls j L j = L := if_pos rfl
theorem upL_ne {Ls : Nat → Ss} {j q : Nat} {L : Ss} (h : q ≠ j) : upL Ls j L q = Ls q := if_neg h
/-- nothing but states has changed -/
def sfr (z : Nat) (H K : mj_H) : Prop := (∀ q, ¬ (z + 22 ≤ q ∧ q ≤ z + 27) → ¬ (z + 30 ≤ q ∧ q ≤ z + 53) → K.1 q = H.1 q) ∧ K.2 = H.2
theorem sfr_refl {z : Nat} {H : mj_H} : sfr z H H := ⟨fun _ _ _ => rfl, rfl⟩
theorem sfr_trans {z : Nat} {H K L : mj_H} (x : sfr z H K) (y : sfr z K L) : sfr z H L := ⟨fun q h h' => (y.1 q h h').trans (x.1 q h h'), y.2.trans x.2⟩
/-- one of them has changed -/
theorem sts_upd {z : Nat} {H K : mj_H} {π : Nat → Nat} {Ls : Nat → Ss} {j : Nat} {L : Ss} (h : stsH z H π Ls) (hj : j < 10) (hl : L.length ≤ 64) (ho : sO z K j (π j) L.length) (hr : sRp z K (π j) L) (hf : ∀ q, q ≠ z + so j → q ≠ z + so (π j) + 1 → q ≠ z + so (π j) + 2 → K.1 q = H.1 q) (h2 : K.2 = H.2) : stsH z K π (upL Ls j L) ∧ sfr z H K := by
  obtain ⟨h1, hi⟩ := h
  have pj := (h1 j hj).1
  refine ⟨⟨fun i hi10 => ?_, hi⟩, fun q q1 q2 => hf q ?_ ?_ ?_, h2⟩
  · by_cases e : i = j
    · rw [e, upL_eq]
      exact ⟨pj, hl, ho, hr⟩
    · obtain ⟨a1, a2, a3, V, W, ⟨a4, a5⟩, a6⟩ := h1 i hi10
      have np : π i ≠ π j := fun q => e (hi i j hi10 hj q)
      have d1 := so_ne e
      have d2 := so_ne np
      have m1 : ∀ a b, a < 10 → b < 10 → z + so a ≠ z + so b + 1 ∧ z + so a ≠ z + so b + 2 := by
        intro a b _ _
        by_cases q : a = b
        · rw [q]; omega
        · have := so_ne q; omega
      have x1 := m1 i (π j) hi10 pj
      have x2 := m1 j (π i) hj a1
      rw [upL_ne e]
      refine ⟨a1, a2, (hf _ (by omega) x1.1 x1.2).trans a3, V, W, ⟨IR_fr a4 (hf _ (by omega) (by omega) (by omega)), LR_fr a5 (hf _ (by omega) (by omega) (by omega))⟩, a6⟩
  · have := so_rng hj; omega
  · have := so_rng pj; omega
  · have := so_rng pj; omega
section STH
variable {xt : mj_X} {ct : Nat → Value} {O : OR} {N z : Nat} {H : mj_H} {π : Nat → Nat} {Ls : Nat → Ss}
theorem stsH_fr {G : mj_H} (h : stsH z H π Ls) (e : ∀ q, (z + 22 ≤ q ∧ q ≤ z + 27) ∨ (z + 30 ≤ q ∧ q ≤ z + 53) → G.1 q = H.1 q) : stsH z G π Ls := by
  refine ⟨fun j hj => ?_, h.2⟩
  obtain ⟨a1, a2, a3, V, W, ⟨a4, a5⟩, a6⟩ := h.1 j hj
  have r1 := so_rng hj
  have r2 := so_rng a1
  exact ⟨a1, a2, (e _ (by omega)).trans a3, V, W, ⟨IR_fr a4 (e _ (by omega)), LR_fr a5 (e _ (by omega))⟩, a6⟩
/-- clear -/
theorem C136_do (h : stsH z H π Ls) {j : Nat} (hj : j < 10) : ∃ K, C136 xt ct O N (z + so j) H = some K ∧ stsH z K π (upL Ls j []) ∧ sfr z H K := by
  obtain ⟨a1, a2, a3, V, W, ⟨a4, a5⟩, a6⟩ := h.1 j hj
  have u := uF_of (n := 2) (v := .int 0) a3
  obtain ⟨K, hK⟩ : ∃ K, mj_put H (z + so j) (.inr (2, [.ref (z + so (π j) + 1), .ref (z + so (π j) + 2), .int 0])) = K := ⟨_, rfl⟩
  have u' : uF H (z + so j) 2 2 (.int 0) = some K := by rw [← hK]; exact u
  have m1 : z + so (π j) + 1 ≠ z + so j ∧ z + so (π j) + 2 ≠ z + so j := by
    by_cases q : π j = j
    · rw [q]; omega
    · have := so_ne q; omega
  have fr : ∀ q, q ≠ z + so j → K.1 q = H.1 q := fun q hq => by rw [← hK]; exact mj_put_ne hq
  obtain ⟨b1, b2⟩ := sts_upd (L := []) h hj (by decide) (K := K) (by rw [← hK]; exact mj_put_eq) ⟨V, W, ⟨IR_fr a4 (fr _ m1.1), LR_fr a5 (fr _ m1.2)⟩, fun i x hx => by cases hx⟩ (fun q q1 _ _ => fr q q1) (by rw [← hK]; rfl)
  refine ⟨K, ?_, b1, b2⟩
  simp only [C136, u', Option.bind_some]
theorem C154_do {x vr wr n row k : Nat} {V : Nat → Int32} (ho : H.1 x = some (.inr (2, [.ref vr, .ref wr, .int (Int32.ofNat n)]))) (hv : IR H vr 390 V) (hb : row * 6 + k < 390) : C154 xt ct O N x (Int32.ofNat row) (Int32.ofNat k) H = some (V (row * 6 + k), H) := by
  have i6 : Int32.ofNat row * 6 + Int32.ofNat k = Int32.ofNat (row * 6 + k) := by
    rw [show (6 : Int32) = Int32.ofNat 6 from rfl, n_mul, n_add]
  have g0 : gA H x 2 0 = some vr := gA_of ho rfl
  simp only [C154, g0, i6, IR_get (xt := xt) hv hb (by omega), Option.bind_some]
/-- is it like the last -/
theorem C169_do (hN : 2000 ≤ N) {x vr wr n row : Nat} {V : Nat → Int32} (ho : H.1 x = some (.inr (2, [.ref vr, .ref wr, .int (Int32.ofNat n)]))) (hv : IR H vr 390 V) (hn : n ≤ 64) (hr : row ≤ 64) : ((∀ i, i < 6 → V (row * 6 + i) = V (n * 6 + i)) → C169 xt ct O N x (Int32.ofNat row) H = some (1, H)) ∧ ((¬ ∀ i, i < 6 → V (row * 6 + i) = V (n * 6 + i)) → C169 xt ct O N x (Int32.ofNat row) H = some (0, H)) := by
  have k0 : gK H x 2 = some () := gK_of ho
  have g2 : gI H x 2 2 = some (Int32.ofNat n) := gI_of ho rfl
  have key : ∀ d i, i + d = 6 → (∀ j, j < i → V (row * 6 + j) = V (n * 6 + j)) → ((∀ i, i < 6 → V (row * 6 + i) = V (n * 6 + i)) → t_lp (B169_2 xt ct O N) (d + 1) (x, Int32.ofNat row, Int32.ofNat i, H) = some (1, H)) ∧ ((¬ ∀ i, i < 6 → V (row * 6 + i) = V (n * 6 + i)) → t_lp (B169_2 xt ct O N) (d + 1) (x, Int32.ofNat row, Int32.ofNat i, H) = some (0, H)) := by
    intro d
    induction d with
    | zero =>
      intro i hi hp
      have c : mj_c2 .ge (Int32.ofNat i) 6 = true := c_geT (a := i) (b := 6) (by omega) (by omega) (by omega)
      refine ⟨fun _ => t_end (by simp only [B169_2, c, cond_true]) _, fun q => absurd (fun j hj => hp j (by omega)) q⟩
    | succ d ih =>
      intro i hi hp
      have c : mj_c2 .ge (Int32.ofNat i) 6 = false := c_geF (a := i) (b := 6) (by omega) (by omega) (by omega)
      have v1 := C154_do (xt := xt) (ct := ct) (O := O) (N := N) (row := row) (k := i) ho hv (by omega)
      have v2 := C154_do (xt := xt) (ct := ct) (O := O) (N := N) (row := n) (k := i) ho hv (by omega)
      by_cases e : V (row * 6 + i) = V (n * 6 + i)
      · have ce : mj_c2 .eq (V (row * 6 + i)) (V (n * 6 + i)) = true := decide_eq_true e
        have st : B169_2 xt ct O N (x, Int32.ofNat row, Int32.ofNat i, H) = some (.inl (x, Int32.ofNat row, Int32.ofNat (i + 1), H)) := by
          simp only [B169_2, c, cond_false, k0, v1, g2, v2, ce, cond_true, i_inc (show i < 1000000 by omega), Option.bind_some]
        rw [t_one st]
        exact ih (i + 1) (by omega) (fun j hj => by
          by_cases q : j = i
          · rw [q]; exact e
          · exact hp j (by omega))
      · have ce : mj_c2 .eq (V (row * 6 + i)) (V (n * 6 + i)) = false := decide_eq_false e
        refine ⟨fun q => absurd (q i (by omega)) e, fun _ => t_end ?_ _⟩
        simp only [B169_2, c, cond_false, k0, v1, g2, v2, ce, Option.bind_some]
  obtain ⟨a1, a2⟩ := key 6 0 (by omega) (fun j hj => absurd hj (by omega))
  exact ⟨fun q => t_lp_more _ _ _ (by omega) (a1 q), fun q => t_lp_more _ _ _ (by omega) (a2 q)⟩
theorem stf_ext {k k' : Vs} (h : k.length = 6) (h' : k'.length = 6) (e : ∀ n, n < 6 → stf k n = stf k' n) : k = k' := by
  refine List.ext_getElem (by omega) (fun i h1 h2 => ?_)
  have := e i (by omega)
  unfold stf at this
  rw [List.getD_eq_getElem?_getD, List.getD_eq_getElem?_getD, List.getElem?_eq_getElem h1, List.getElem?_eq_getElem h2] at this
  exact this
theorem rep_set {L : Ss} {V : Nat → Int32} {W : Nat → Int64} {i w : Nat} {x : Vs × Nat} (h : rep L V W) (hx : L[i]? = some x) : rep (L.set i (x.1, w)) V (fun q => if q = i then Int64.ofNat w else W q) := by
  intro q y hy
  rw [List.getElem?_set] at hy
  by_cases e : i = q
  · rw [if_pos e] at hy
    split at hy
    · rw [← Option.some.inj hy]
      refine ⟨if_pos e.symm, fun n hn => ?_⟩
      rw [← e]
      exact (h i x hx).2 n hn
    · cases hy
  · rw [if_neg e] at hy
    exact ⟨(if_neg (fun q => e q.symm)).trans (h q y hy).1, (h q y hy).2⟩
theorem rep_snoc {L : Ss} {V : Nat → Int32} {W : Nat → Int64} {k : Vs} {w : Nat} (h : rep L V W) (hc : ∀ n, n < 6 → V (L.length * 6 + n) = stf k n) : rep (L ++ [(k, w)]) V (fun q => if q = L.length then Int64.ofNat w else W q) := by
  intro q y hy
  by_cases e : q < L.length
  · rw [List.getElem?_append_left e] at hy
    exact ⟨(if_neg (by omega)).trans (h q y hy).1, (h q y hy).2⟩
  · have hq := (List.getElem?_eq_some_iff.mp hy).1
    rw [List.length_append, List.length_singleton] at hq
    have e2 : q = L.length := by omega
    rw [e2, List.getElem?_append_right (Nat.le_refl _), Nat.sub_self] at hy
    rw [← Option.some.inj hy, e2]
    exact ⟨if_pos rfl, hc⟩
/-- ways given to the state behind the others -/
theorem C168_do (hN : 2000 ≤ N) {j p : Nat} {L : Ss} {V : Nat → Int32} {W : Nat → Int64} {k : Vs} {w : Nat} (ho : sO z H j p L.length) (hw : sW z H p V W) (hr : rep L V W) (hc : ∀ n, n < 6 → V (L.length * 6 + n) = stf k n) (hL : L.length ≤ 64) (h6 : k.length = 6) (hk : ∀ x ∈ L, x.1.length = 6) : ((ins k w L).length ≤ 64 → ∃ G W', C168 xt ct O N (z + so j) (Int64.ofNat w) H = some (1, G) ∧ sO z G j p (ins k w L).length ∧ sW z G p V W' ∧ rep (ins k w L) V W' ∧ (∀ q, q ≠ z + so j → q ≠ z + so p + 2 → G.1 q = H.1 q) ∧ G.2 = H.2) ∧ (64 < (ins k w L).length → C168 xt ct O N (z + so j) (Int64.ofNat w) H = some (0, H)) := by
  have k0 : gK H (z + so j) 2 = some () := gK_of ho
  have g2 : gI H (z + so j) 2 2 = some (Int32.ofNat L.length) := gI_of ho rfl
  have g1 : gA H (z + so j) 2 1 = some (z + so p + 2) := gA_of ho rfl
  have m1 : z + so p + 1 ≠ z + so j ∧ z + so p + 2 ≠ z + so j := by
    by_cases q : p = j
    · rw [q]; omega
    · have := so_ne q; omega
  have key : ∀ d i, i + d = L.length → (∀ (q : Nat) (x : Vs × Nat), q < i → L[q]? = some x → x.1 ≠ k) → ((ins k w L).length ≤ 64 → ∃ G W', t_lp (B168_2 xt ct O N) (d + 1) (z + so j, Int64.ofNat w, Int32.ofNat i, H) = some (1, G) ∧ sO z G j p (ins k w L).length ∧ sW z G p V W' ∧ rep (ins k w L) V W' ∧ (∀ q, q ≠ z + so j → q ≠ z + so p + 2 → G.1 q = H.1 q) ∧ G.2 = H.2) ∧ (64 < (ins k w L).length → t_lp (B168_2 xt ct O N) (d + 1) (z + so j, Int64.ofNat w, Int32.ofNat i, H) = some (0, H)) := by
    intro d
    induction d with
    | zero =>
      intro i hi hp
      have ei : ins k w L = L ++ [(k, w)] := ins_no L (fun x hx => by
        obtain ⟨q, hq, e⟩ := List.mem_iff_getElem.mp hx
        exact hp q x (by omega) (by rw [List.getElem?_eq_getElem hq, e]))
      have c := c_geT (a := i) (b := L.length) (by omega) (by omega) (by omega)
      rw [ei, List.length_append, List.length_singleton]
      constructor
      · intro hl
        have c2 : mj_c2 .lt (Int32.ofNat L.length) 64 = true := (c_lt (b := 64) (by omega) (by omega)).trans (decide_eq_true (by omega))
        obtain ⟨G1, b1, b2, b3⟩ := LR_set (x := Int64.ofNat w) hw.2 (show L.length < 64 by omega) (by omega)
        have o1 : sO z G1 j p L.length := (b3.1 _ (fun q => m1.2 q.symm)).trans ho
        have g3 : gI G1 (z + so j) 2 2 = some (Int32.ofNat L.length) := gI_of o1 rfl
        have u := uF_of (n := 2) (v := .int (Int32.ofNat L.length + 1)) o1
        obtain ⟨G, hG⟩ : ∃ G, mj_put G1 (z + so j) (.inr (2, [.ref (z + so p + 1), .ref (z + so p + 2), .int (Int32.ofNat L.length + 1)])) = G := ⟨_, rfl⟩
        have u' : uF G1 (z + so j) 2 2 (.int (Int32.ofNat L.length + 1)) = some G := by rw [← hG]; exact u
        have fr : ∀ q, q ≠ z + so j → G.1 q = G1.1 q := fun q hq => by rw [← hG]; exact mj_put_ne hq
        refine ⟨G, fun q => if q = L.length then Int64.ofNat w else W q, t_end ?_ _, ?_, ⟨IR_fr hw.1 ((fr _ m1.1).trans (b3.1 _ (by omega))), LR_fr b2 (fr _ m1.2)⟩, rep_snoc hr hc, fun q q1 q2 => (fr q q1).trans (b3.1 q q2), ?_⟩
        · simp only [B168_2, g2, c, cond_true, c2, g1, b1, g3, u', Option.bind_some]
        · rw [i_inc (by omega)] at hG
          rw [← hG]
          exact mj_put_eq
        · rw [← hG]
          exact b3.2
      · intro hl
        have c2 : mj_c2 .lt (Int32.ofNat L.length) 64 = false := (c_lt (b := 64) (by omega) (by omega)).trans (decide_eq_false (by omega))
        refine t_end ?_ _
        simp only [B168_2, g2, c, cond_true, c2, cond_false, Option.bind_some]
    | succ d ih =>
      intro i hi hp
      have c := c_geF (a := i) (b := L.length) (by omega) (by omega) (by omega)
      have hlt : i < L.length := by omega
      obtain ⟨x, hx⟩ : ∃ x, L[i]? = some x := ⟨_, List.getElem?_eq_getElem hlt⟩
      have x6 := hk x (List.mem_of_getElem? hx)
      have rx := hr i x hx
      obtain ⟨l1, l2⟩ := C169_do (xt := xt) (ct := ct) (O := O) (N := N) (row := i) hN ho hw.1 hL (by omega)
      by_cases e : x.1 = k
      · have lk := l1 (fun n hn => by rw [rx.2 n hn, hc n hn, e])
        have ei : ins k w L = L.set i (k, x.2 + w) := ins_at L i x.2 hp (by rw [hx, ← e])
        have e1 : mj_c1 .eq 1 = false := by decide
        have a1 := LR_get (xt := xt) hw.2 (show i < 64 by omega) (by omega)
        obtain ⟨G, b1, b2, b3⟩ := LR_set (x := Int64.ofNat x.2 + Int64.ofNat w) hw.2 (show i < 64 by omega) (by omega)
        rw [ei, List.length_set]
        refine ⟨fun _ => ⟨G, fun q => if q = i then Int64.ofNat (x.2 + w) else W q, t_end ?_ _, (b3.1 _ (fun q => m1.2 q.symm)).trans ho, ⟨IR_fr hw.1 (b3.1 _ (by omega)), ?_⟩, ?_, fun q _ q2 => b3.1 q q2, b3.2⟩, fun q => absurd q (by omega)⟩
        · rw [rx.1] at a1
          simp only [B168_2, g2, c, cond_false, k0, lk, e1, g1, a1, b1, Option.bind_some]
        · rw [← l_add]; exact b2
        · have := rep_set (w := x.2 + w) hr hx
          rw [e] at this
          exact this
      · have lk := l2 (fun q => e (stf_ext x6 h6 (fun n hn => by rw [← rx.2 n hn, ← hc n hn]; exact q n hn)))
        have e0 : mj_c1 .eq 0 = true := by decide
        have st : B168_2 xt ct O N (z + so j, Int64.ofNat w, Int32.ofNat i, H) = some (.inl (z + so j, Int64.ofNat w, Int32.ofNat (i + 1), H)) := by
          simp only [B168_2, g2, c, cond_false, k0, lk, e0, cond_true, i_inc (show i < 1000000 by omega), Option.bind_some]
        rw [t_one st]
        exact ih (i + 1) (by omega) (fun q y hq hy => by
          by_cases w : q = i
          · rw [w, hx] at hy
            rw [← Option.some.inj hy]
            exact e
          · exact hp q y (by omega) hy)
  obtain ⟨a1, a2⟩ := key L.length 0 (by omega) (fun q x hq => absurd hq (by omega))
  refine ⟨fun q => ?_, fun q => t_lp_more _ _ _ (by omega) (a2 q)⟩
  obtain ⟨G, W', b1, b2⟩ := a1 q
  exact ⟨G, W', t_lp_more _ _ _ (by omega) b1, b2⟩
end STH
