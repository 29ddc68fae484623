/-! THE BENCH ON THE HEAP: its fields and its rows -/
def bO (z : Nat) (H : mj_H) (n fi : Nat) (mo : Int32) : Prop := H.1 (z + 8) = some (.inr (3, [.ref (z + 9), .ref (z + 10), .ref (z + 11), .int (Int32.ofNat n), .ref (z + 12), .ref (z + 13), .int (Int32.ofNat fi), .ref (z + 14), .ref (z + 22), .ref (z + 25), .ref (z + 28), .ref (z + 29), .int mo]))
def bR (z : Nat) (H : mj_H) (V T F : Nat → Int32) (W G : Nat → Int64) : Prop := IR H (z + 9) 4598 V ∧ LR H (z + 10) 4598 W ∧ IR H (z + 11) 41 T ∧ LR H (z + 12) 1999 G ∧ IR H (z + 13) 1999 F
/-- nothing but the bench has changed -/
def bfr (z : Nat) (H K : mj_H) : Prop := (∀ q, ¬ (z + 8 ≤ q ∧ q ≤ z + 13) → K.1 q = H.1 q) ∧ K.2 = H.2
theorem bfr_refl {z : Nat} {H : mj_H} : bfr z H H := ⟨fun _ _ => rfl, rfl⟩
theorem bfr_trans {z : Nat} {H K L : mj_H} (x : bfr z H K) (y : bfr z K L) : bfr z H L := ⟨fun q h => (y.1 q h).trans (x.1 q h), y.2.trans x.2⟩
theorem bfr_of {z r : Nat} {H K : mj_H} (x : only r H K) (hr : z + 8 ≤ r ∧ r ≤ z + 13) : bfr z H K := ⟨fun q h => x.1 q (fun e => h (by rw [e]; exact hr)), x.2⟩
section BEN
variable {xt : mj_X} {ct : Nat → Value} {O : OR} {N z : Nat} {H : mj_H} {n fi : Nat} {mo : Int32} {V T F : Nat → Int32} {W G : Nat → Int64}
theorem bO_n (h : bO z H n fi mo) (m : Nat) : ∃ K, uF H (z + 8) 3 3 (.int (Int32.ofNat m)) = some K ∧ bO z K m fi mo ∧ only (z + 8) H K := ⟨_, uF_of h, mj_put_eq, only_put⟩
theorem bO_f (h : bO z H n fi mo) (m : Nat) : ∃ K, uF H (z + 8) 3 6 (.int (Int32.ofNat m)) = some K ∧ bO z K n m mo ∧ only (z + 8) H K := ⟨_, uF_of h, mj_put_eq, only_put⟩
theorem bO_m (h : bO z H n fi mo) (m : Int32) : ∃ K, uF H (z + 8) 3 12 (.int m) = some K ∧ bO z K n fi m ∧ only (z + 8) H K := ⟨_, uF_of h, mj_put_eq, only_put⟩
theorem bO_fr {K : mj_H} {r : Nat} (h : bO z H n fi mo) (x : only r H K) (hr : r ≠ z + 8) : bO z K n fi mo := (x.1 _ (fun e => hr e.symm)).trans h
theorem bR_fr {K : mj_H} {r : Nat} (h : bR z H V T F W G) (x : only r H K) (hr : ¬ (z + 9 ≤ r ∧ r ≤ z + 13)) : bR z K V T F W G := ⟨IR_fr h.1 (x.1 _ (by omega)), LR_fr h.2.1 (x.1 _ (by omega)), IR_fr h.2.2.1 (x.1 _ (by omega)), LR_fr h.2.2.2.1 (x.1 _ (by omega)), IR_fr h.2.2.2.2 (x.1 _ (by omega))⟩
theorem bR_V (h : bR z H V T F W G) {i : Nat} (x : Int32) (hi : i < 4598) : ∃ K, sN .int H (z + 9) (Int32.ofNat i) x = some K ∧ bR z K (fun p => if p = i then x else V p) T F W G ∧ only (z + 9) H K := by
  obtain ⟨K, a1, a2, a3⟩ := IR_set (x := x) h.1 hi (by omega)
  exact ⟨K, a1, ⟨a2, LR_fr h.2.1 (a3.1 _ (by omega)), IR_fr h.2.2.1 (a3.1 _ (by omega)), LR_fr h.2.2.2.1 (a3.1 _ (by omega)), IR_fr h.2.2.2.2 (a3.1 _ (by omega))⟩, a3⟩
theorem bR_W (h : bR z H V T F W G) {i : Nat} (x : Int64) (hi : i < 4598) : ∃ K, sL H (z + 10) (Int32.ofNat i) x = some K ∧ bR z K V T F (fun p => if p = i then x else W p) G ∧ only (z + 10) H K := by
  obtain ⟨K, a1, a2, a3⟩ := LR_set (x := x) h.2.1 hi (by omega)
  exact ⟨K, a1, ⟨IR_fr h.1 (a3.1 _ (by omega)), a2, IR_fr h.2.2.1 (a3.1 _ (by omega)), LR_fr h.2.2.2.1 (a3.1 _ (by omega)), IR_fr h.2.2.2.2 (a3.1 _ (by omega))⟩, a3⟩
theorem bR_T (h : bR z H V T F W G) {i : Nat} (x : Int32) (hi : i < 41) : ∃ K, sN .int H (z + 11) (Int32.ofNat i) x = some K ∧ bR z K V (fun p => if p = i then x else T p) F W G ∧ only (z + 11) H K := by
  obtain ⟨K, a1, a2, a3⟩ := IR_set (x := x) h.2.2.1 hi (by omega)
  exact ⟨K, a1, ⟨IR_fr h.1 (a3.1 _ (by omega)), LR_fr h.2.1 (a3.1 _ (by omega)), a2, LR_fr h.2.2.2.1 (a3.1 _ (by omega)), IR_fr h.2.2.2.2 (a3.1 _ (by omega))⟩, a3⟩
theorem bR_G (h : bR z H V T F W G) {i : Nat} (x : Int64) (hi : i < 1999) : ∃ K, sL H (z + 12) (Int32.ofNat i) x = some K ∧ bR z K V T F W (fun p => if p = i then x else G p) ∧ only (z + 12) H K := by
  obtain ⟨K, a1, a2, a3⟩ := LR_set (x := x) h.2.2.2.1 hi (by omega)
  exact ⟨K, a1, ⟨IR_fr h.1 (a3.1 _ (by omega)), LR_fr h.2.1 (a3.1 _ (by omega)), IR_fr h.2.2.1 (a3.1 _ (by omega)), a2, IR_fr h.2.2.2.2 (a3.1 _ (by omega))⟩, a3⟩
theorem bR_F (h : bR z H V T F W G) {i : Nat} (x : Int32) (hi : i < 1999) : ∃ K, sN .int H (z + 13) (Int32.ofNat i) x = some K ∧ bR z K V T (fun p => if p = i then x else F p) W G ∧ only (z + 13) H K := by
  obtain ⟨K, a1, a2, a3⟩ := IR_set (x := x) h.2.2.2.2 hi (by omega)
  exact ⟨K, a1, ⟨IR_fr h.1 (a3.1 _ (by omega)), LR_fr h.2.1 (a3.1 _ (by omega)), IR_fr h.2.2.1 (a3.1 _ (by omega)), LR_fr h.2.2.2.1 (a3.1 _ (by omega)), a2⟩, a3⟩
/-- open -/
theorem C149_do (ho : bO z H n fi mo) (hr : bR z H V T F W G) (hn : n < 40) : ∃ K, C149 xt ct O N (z + 8) H = some K ∧ bO z K (n + 1) fi mo ∧ bR z K V (fun p => if p = n + 1 then T n else T p) F W G ∧ bfr z H K := by
  have g3 : gI H (z + 8) 3 3 = some (Int32.ofNat n) := gI_of ho rfl
  have g2 : gA H (z + 8) 3 2 = some (z + 11) := gA_of ho rfl
  have c : mj_c2 .ge (Int32.ofNat n) 40 = false := (c_ge (b := 40) (by omega) (by omega)).trans (decide_eq_false (by omega))
  have a : aI xt H (z + 11) (Int32.ofNat n) = some (T n) := IR_get hr.2.2.1 (by omega) (by omega)
  have i1 : Int32.ofNat n + 1 = Int32.ofNat (n + 1) := i_inc (by omega)
  obtain ⟨K1, a1, a2, a3⟩ := bR_T hr (i := n + 1) (T n) (by omega)
  have o1 := bO_fr ho a3 (by omega)
  have g3' : gI K1 (z + 8) 3 3 = some (Int32.ofNat n) := gI_of o1 rfl
  obtain ⟨K2, b1, b2, b3⟩ := bO_n o1 (n + 1)
  refine ⟨K2, ?_, b2, bR_fr a2 b3 (by omega), bfr_trans (bfr_of a3 (by omega)) (bfr_of b3 (by omega))⟩
  simp only [C149, g3, g2, c, cond_false, a, i1, a1, g3', b1, J149_39, Option.bind_some]
/-- put -/
theorem C150_do {e : Nat} {v : Int32} {w : Int64} (ho : bO z H n fi mo) (hr : bR z H V T F W G) (hn : n < 41) (he : T n = Int32.ofNat e) (h4 : e < 4598) : ∃ K, C150 xt ct O N (z + 8) v w H = some K ∧ bO z K n fi mo ∧ bR z K (fun p => if p = e then v else V p) (fun p => if p = n then Int32.ofNat (e + 1) else T p) F (fun p => if p = e then w else W p) G ∧ bfr z H K := by
  have g3 : gI H (z + 8) 3 3 = some (Int32.ofNat n) := gI_of ho rfl
  have g2 : gA H (z + 8) 3 2 = some (z + 11) := gA_of ho rfl
  have g0 : gA H (z + 8) 3 0 = some (z + 9) := gA_of ho rfl
  have c : mj_c2 .ge (Int32.ofNat e) 4598 = false := (c_ge (b := 4598) (by omega) (by omega)).trans (decide_eq_false (by omega))
  have a : aI xt H (z + 11) (Int32.ofNat n) = some (Int32.ofNat e) := by rw [← he]; exact IR_get hr.2.2.1 hn (by omega)
  have i1 : Int32.ofNat e + 1 = Int32.ofNat (e + 1) := i_inc (by omega)
  obtain ⟨K1, a1, a2, a3⟩ := bR_V hr (i := e) v h4
  have o1 := bO_fr ho a3 (by omega)
  have g1 : gA K1 (z + 8) 3 1 = some (z + 10) := gA_of o1 rfl
  obtain ⟨K2, b1, b2, b3⟩ := bR_W a2 (i := e) w h4
  have o2 := bO_fr o1 b3 (by omega)
  have g2' : gA K2 (z + 8) 3 2 = some (z + 11) := gA_of o2 rfl
  have g3' : gI K2 (z + 8) 3 3 = some (Int32.ofNat n) := gI_of o2 rfl
  obtain ⟨K3, d1, d2, d3⟩ := bR_T b2 (i := n) (Int32.ofNat (e + 1)) hn
  refine ⟨K3, ?_, bO_fr o2 d3 (by omega), d2, bfr_trans (bfr_of a3 (by omega)) (bfr_trans (bfr_of b3 (by omega)) (bfr_of d3 (by omega)))⟩
  simp only [C150, g3, g2, a, c, cond_false, g0, a1, g1, b1, g2', g3', i1, d1, J150_48, Option.bind_some]
end BEN
/-! SPREADS ON THE BENCH, the last one first in the list -/
def fl : List Sp → Sp
  | [] => []
  | l :: r => fl r ++ l
theorem fl_len : ∀ sp : List Sp, (fl sp).length = szS sp := by
  intro sp
  induction sp with
  | nil => rfl
  | cons l r ih => rw [fl, List.length_append, ih]; show _ = _ + _; omega
def stk (T : Nat → Int32) : List Sp → Prop
  | [] => T 0 = 0
  | l :: r => T (r.length + 1) = Int32.ofNat (szS (l :: r)) ∧ stk T r
theorem stk_ext {T T' : Nat → Int32} : ∀ sp : List Sp, stk T sp → (∀ i, i ≤ sp.length → T' i = T i) → stk T' sp := by
  intro sp
  induction sp with
  | nil => intro h e; exact (e 0 (Nat.le_refl _)).trans h
  | cons l r ih => intro h e; exact ⟨(e _ (by rw [List.length_cons]; omega)).trans h.1, ih h.2 (fun i hi => e i (by rw [List.length_cons]; omega))⟩
theorem stk_top {T : Nat → Int32} {sp : List Sp} (h : stk T sp) : T sp.length = Int32.ofNat (szS sp) := by
  cases sp with
  | nil => exact h
  | cons l r => exact h.1
def vw (V : Nat → Int32) (W : Nat → Int64) (l : Sp) : Prop := ∀ (i : Nat) (p : Int32 × Nat), l[i]? = some p → V i = p.1 ∧ W i = Int64.ofNat p.2
/-- these spreads lie on the bench -/
def bst (z : Nat) (H : mj_H) (sp : List Sp) (mo : Int32) : Prop := bO z H sp.length 0 mo ∧ ∃ V T F W, bR z H V T F W (fun _ => 0) ∧ stk T sp ∧ vw V W (fl sp)
section BST
variable {xt : mj_X} {ct : Nat → Value} {O : OR} {N z : Nat} {H : mj_H} {mo : Int32}
theorem bst_open {sp : List Sp} (h : bst z H sp mo) (hn : sp.length < 40) : ∃ K, C149 xt ct O N (z + 8) H = some K ∧ bst z K ([] :: sp) mo ∧ bfr z H K := by
  obtain ⟨ho, V, T, F, W, hr, hs, hv⟩ := h
  obtain ⟨K, a1, a2, a3, a4⟩ := C149_do (xt := xt) (ct := ct) (O := O) (N := N) ho hr hn
  refine ⟨K, a1, ⟨a2, V, _, F, W, a3, ⟨?_, stk_ext sp hs (fun i hi => if_neg (by omega))⟩, ?_⟩, a4⟩
  · show (if _ then _ else _) = _
    rw [if_pos rfl, stk_top hs]
    show _ = Int32.ofNat (0 + _)
    rw [Nat.zero_add]
  · show vw V W (fl sp ++ [])
    rw [List.append_nil]
    exact hv
theorem bst_put {l : Sp} {r : List Sp} {v : Int32} {w : Nat} (h : bst z H (l :: r) mo) (hn : r.length < 40) (h4 : szS (l :: r) < 4598) : ∃ K, C150 xt ct O N (z + 8) v (Int64.ofNat w) H = some K ∧ bst z K ((l ++ [(v, w)]) :: r) mo ∧ bfr z H K := by
  obtain ⟨ho, V, T, F, W, hr, hs, hv⟩ := h
  obtain ⟨K, a1, a2, a3, a4⟩ := C150_do (xt := xt) (ct := ct) (O := O) (N := N) (v := v) (w := Int64.ofNat w) ho hr (by rw [List.length_cons]; omega) (stk_top hs) h4
  have sz : szS ((l ++ [(v, w)]) :: r) = szS (l :: r) + 1 := by
    show (l ++ [(v, w)]).length + _ = l.length + _ + 1
    rw [List.length_append, List.length_singleton]
    omega
  refine ⟨K, a1, ⟨a2, _, _, F, _, a3, ⟨?_, stk_ext r hs.2 (fun i hi => if_neg (by rw [List.length_cons]; omega))⟩, ?_⟩, a4⟩
  · show (if _ then _ else _) = _
    rw [List.length_cons, if_pos rfl, sz]
  · intro i p hp
    have e : fl ((l ++ [(v, w)]) :: r) = fl (l :: r) ++ [(v, w)] := (List.append_assoc _ _ _).symm
    rw [e] at hp
    dsimp only
    rw [← fl_len]
    by_cases c : i < (fl (l :: r)).length
    · rw [List.getElem?_append_left c] at hp
      rw [if_neg (by omega), if_neg (by omega)]
      exact hv i p hp
    · have hi := (List.getElem?_eq_some_iff.mp hp).1
      rw [List.length_append, List.length_singleton] at hi
      have ei : i = (fl (l :: r)).length := by omega
      rw [ei, List.getElem?_concat_length] at hp
      cases hp
      rw [if_pos ei, if_pos ei]
      exact ⟨rfl, rfl⟩
end BST
