/-! THE REFERENCE'S OBJECT AS A STATE: its int and boolean fields, its int and boolean rows, its long rows, each by the field's number -/
abbrev mS : Type := (Nat → Int32) × (Nat → Nat → Int32) × (Nat → Nat → Int64)
/-- what a field is: 0 an int, 1 a boolean, 2 a row of ints, 3 of longs, 4 of booleans -/
def mK (j : Nat) : Nat := ([0, 2, 0, 0, 4, 2, 2, 2, 2, 2, 2, 2, 3, 2, 2, 2, 2, 2, 2, 2, 2, 3, 0, 0, 0, 0, 0, 2, 4, 0, 0, 1, 2, 0, 2, 4, 0, 2, 3, 2, 0, 2, 3, 2, 0, 0, 3, 2, 3, 2, 1, 0, 0, 2, 2, 2, 0, 4, 2, 2, 3, 3] : List Nat).getD j 9
/-- how long a row is -/
def mN (j : Nat) : Nat := ([0, 160, 0, 0, 4, 4, 96, 96, 96, 96, 96, 96, 96, 640, 640, 640, 640, 640, 640, 640, 640, 4840, 0, 0, 0, 0, 0, 200, 200, 0, 0, 0, 60, 0, 5, 5, 0, 6, 121, 400, 0, 4800, 4800, 64, 0, 0, 1999, 3840, 640, 10, 0, 0, 0, 8, 8, 8, 0, 3, 3, 192, 192, 3] : List Nat).getD j 0
def m_val (ra : Nat → Nat) (S : mS) (j : Nat) : Value := if mK j < 2 then .int (S.1 j) else .ref (ra j)
def m_cell (S : mS) (j : Nat) : mj_E := if mK j = 3 then .inl (.long, (List.range (mN j)).map (fun i => .long (S.2.2 j i))) else if mK j = 2 then .inl (.int, (List.range (mN j)).map (fun i => .int (S.2.1 j i))) else .inl (.boolean, (List.range (mN j)).map (fun i => .int (S.2.1 j i)))
/-- the object and its rows lie apart -/
def m_sep (a : Nat) (ra : Nat → Nat) : Prop := (∀ j, j < 62 → 2 ≤ mK j → ra j ≠ a) ∧ ∀ i j, i < 62 → j < 62 → 2 ≤ mK i → 2 ≤ mK j → ra i = ra j → i = j
def md (a : Nat) (ra : Nat → Nat) (S : mS) (h : mj_H) : Prop := h.1 a = some (.inr (12, (List.range 62).map (m_val ra S))) ∧ ∀ j, j < 62 → 2 ≤ mK j → h.1 (ra j) = some (m_cell S j)
/-- nothing but the object and its rows has changed, nothing is new -/
def m_fr (a : Nat) (ra : Nat → Nat) (h h' : mj_H) : Prop := h'.2 = h.2 ∧ ∀ q, q ≠ a → (∀ j, j < 62 → 2 ≤ mK j → q ≠ ra j) → h'.1 q = h.1 q
def m_sV (S : mS) (j : Nat) (v : Int32) : mS := (fun q => if q = j then v else S.1 q, S.2)
def m_sA (S : mS) (j i : Nat) (v : Int32) : mS := (S.1, fun q p => if q = j ∧ p = i then v else S.2.1 q p, S.2.2)
def m_sB (S : mS) (j i : Nat) (v : Int64) : mS := (S.1, S.2.1, fun q p => if q = j ∧ p = i then v else S.2.2 q p)
theorem m_fr_refl (a : Nat) (ra : Nat → Nat) (h : mj_H) : m_fr a ra h h := ⟨rfl, fun _ _ _ => rfl⟩
theorem m_fr_trans {a : Nat} {ra : Nat → Nat} {h h1 h2 : mj_H} (x : m_fr a ra h h1) (y : m_fr a ra h1 h2) : m_fr a ra h h2 := ⟨y.1.trans x.1, fun q n1 n2 => (y.2 q n1 n2).trans (x.2 q n1 n2)⟩
theorem m_rs {f : Nat → Value} {n i : Nat} {v : Value} : ((List.range n).map f).set i v = (List.range n).map (fun p => if p = i then v else f p) := by
  apply List.ext_getElem?
  intro p
  rw [List.getElem?_set]
  by_cases hp : p < n
  · by_cases e : i = p
    · subst e
      rw [if_pos rfl]
      simp [hp]
    · rw [if_neg e]
      simp [hp]
      intro e2
      exact absurd e2.symm e
  · by_cases e : i = p
    · subst e
      simp [hp]
    · rw [if_neg e]
      simp [hp]
theorem m_rg {f : Nat → Value} {n i : Nat} (hi : i < n) : ((List.range n).map f)[i]? = some (f i) := by simp [hi]
theorem mj_put_eq {h : mj_H} {a : Nat} {e : mj_E} : (mj_put h a e).1 a = some e := by
  show (if a = a then some e else h.1 a) = _
  rw [if_pos rfl]
theorem mj_put_ne {h : mj_H} {a q : Nat} {e : mj_E} (n : q ≠ a) : (mj_put h a e).1 q = h.1 q := by
  show (if q = a then some e else h.1 q) = _
  rw [if_neg n]
theorem md_sV {a : Nat} {ra : Nat → Nat} {S : mS} {h : mj_H} (hs : m_sep a ra) (hm : md a ra S h) {j : Nat} (hj : mK j < 2) (v : Int32) : md a ra (m_sV S j v) (mj_put h a (.inr (12, ((List.range 62).map (m_val ra S)).set j (.int v)))) ∧ m_fr a ra h (mj_put h a (.inr (12, ((List.range 62).map (m_val ra S)).set j (.int v)))) := by
  refine ⟨⟨?_, ?_⟩, rfl, fun q n1 n2 => mj_put_ne n1⟩
  · rw [mj_put_eq, m_rs]
    congr 4
    funext p
    unfold m_val m_sV
    by_cases e : p = j
    · subst e
      rw [if_pos rfl, if_pos hj]
      dsimp only
      rw [if_pos rfl]
    · rw [if_neg e]
      dsimp only
      rw [if_neg e]
  · intro i hi hk
    rw [mj_put_ne (hs.1 i hi hk)]
    exact hm.2 i hi hk
theorem md_sA {a : Nat} {ra : Nat → Nat} {S : mS} {h : mj_H} (hs : m_sep a ra) (hm : md a ra S h) {j : Nat} (hj : mK j = 2 ∧ j < 62) (i : Nat) (v : Int32) : md a ra (m_sA S j i v) (mj_put h (ra j) (.inl (.int, ((List.range (mN j)).map (fun i => .int (S.2.1 j i))).set i (.int v)))) ∧ m_fr a ra h (mj_put h (ra j) (.inl (.int, ((List.range (mN j)).map (fun i => .int (S.2.1 j i))).set i (.int v)))) := by
  have h2 : 2 ≤ mK j := by omega
  refine ⟨⟨?_, ?_⟩, rfl, fun q n1 n2 => mj_put_ne (n2 j hj.2 h2)⟩
  · rw [mj_put_ne (hs.1 j hj.2 h2).symm]
    exact hm.1
  · intro q hq hk
    by_cases e : q = j
    · subst e
      rw [mj_put_eq, m_rs]
      unfold m_cell
      rw [if_neg (by omega), if_pos hj.1]
      congr 4
      funext p
      unfold m_sA
      dsimp only
      by_cases e2 : p = i
      · rw [if_pos e2, if_pos ⟨rfl, e2⟩]
      · rw [if_neg e2, if_neg (fun z => e2 z.2)]
    · rw [mj_put_ne (fun z => e (hs.2 _ _ hq hj.2 hk h2 z)), hm.2 q hq hk]
      unfold m_cell m_sA
      dsimp only
      simp only [e, false_and, if_false]
theorem md_sZ {a : Nat} {ra : Nat → Nat} {S : mS} {h : mj_H} (hs : m_sep a ra) (hm : md a ra S h) {j : Nat} (hj : mK j = 4 ∧ j < 62) (i : Nat) (v : Int32) : md a ra (m_sA S j i v) (mj_put h (ra j) (.inl (.boolean, ((List.range (mN j)).map (fun i => .int (S.2.1 j i))).set i (.int v)))) ∧ m_fr a ra h (mj_put h (ra j) (.inl (.boolean, ((List.range (mN j)).map (fun i => .int (S.2.1 j i))).set i (.int v)))) := by
  have h2 : 2 ≤ mK j := by omega
  refine ⟨⟨?_, ?_⟩, rfl, fun q n1 n2 => mj_put_ne (n2 j hj.2 h2)⟩
  · rw [mj_put_ne (hs.1 j hj.2 h2).symm]
    exact hm.1
  · intro q hq hk
    by_cases e : q = j
    · subst e
      rw [mj_put_eq, m_rs]
      unfold m_cell
      rw [if_neg (by omega), if_neg (by omega)]
      congr 4
      funext p
      unfold m_sA
      dsimp only
      by_cases e2 : p = i
      · rw [if_pos e2, if_pos ⟨rfl, e2⟩]
      · rw [if_neg e2, if_neg (fun z => e2 z.2)]
    · rw [mj_put_ne (fun z => e (hs.2 _ _ hq hj.2 hk h2 z)), hm.2 q hq hk]
      unfold m_cell m_sA
      dsimp only
      simp only [e, false_and, if_false]
theorem md_sB {a : Nat} {ra : Nat → Nat} {S : mS} {h : mj_H} (hs : m_sep a ra) (hm : md a ra S h) {j : Nat} (hj : mK j = 3 ∧ j < 62) (i : Nat) (v : Int64) : md a ra (m_sB S j i v) (mj_put h (ra j) (.inl (.long, ((List.range (mN j)).map (fun i => .long (S.2.2 j i))).set i (.long v)))) ∧ m_fr a ra h (mj_put h (ra j) (.inl (.long, ((List.range (mN j)).map (fun i => .long (S.2.2 j i))).set i (.long v)))) := by
  have h2 : 2 ≤ mK j := by omega
  refine ⟨⟨?_, ?_⟩, rfl, fun q n1 n2 => mj_put_ne (n2 j hj.2 h2)⟩
  · rw [mj_put_ne (hs.1 j hj.2 h2).symm]
    exact hm.1
  · intro q hq hk
    by_cases e : q = j
    · subst e
      rw [mj_put_eq, m_rs]
      unfold m_cell
      rw [if_pos hj.1]
      congr 4
      funext p
      unfold m_sB
      dsimp only
      by_cases e2 : p = i
      · rw [if_pos e2, if_pos ⟨rfl, e2⟩]
      · rw [if_neg e2, if_neg (fun z => e2 z.2)]
    · rw [mj_put_ne (fun z => e (hs.2 _ _ hq hj.2 hk h2 z)), hm.2 q hq hk]
      unfold m_cell m_sB
      dsimp only
      simp only [e, false_and, if_false]

/-! RUNS OF ITS METHODS: from a place with a state S to the method's end o with a state S' -/
def MR (xt : mj_X) (ct : Nat → Value) (a : Nat) (ra : Nat → Nat) (d k pc : Nat) (l : mj_L) (st : List Value) (S : mS) (o : mj_O) (S' : mS) : Prop := m_sep a ra → ∀ h, md a ra S h → ∃ h', mj_Run kY xt ct d k pc l st h (o, h') ∧ md a ra S' h' ∧ m_fr a ra h h'
section MRR
variable {xt : mj_X} {ct : Nat → Value} {a : Nat} {ra : Nat → Nat} {d k pc pc' : Nat} {l : mj_L} {st : List Value} {S S' : mS} {o : mj_O}
theorem M_of {pc1 : Nat} {l1 : mj_L} {st1 : List Value} (hs : ∀ h r, mj_Run kY xt ct d k pc1 l1 st1 h r → mj_Run kY xt ct d k pc l st h r) (H : MR xt ct a ra d k pc1 l1 st1 S o S') : MR xt ct a ra d k pc l st S o S' := fun hp h hm =>
  let ⟨h', r, m, f⟩ := H hp h hm
  ⟨h', hs _ _ r, m, f⟩
theorem M_get {j idx : Nat} {ty : FieldType} {w : Bool} {v : Int32} (hc : mj_Y.code kY k pc = some (.getfield idx) ∧ mj_Y.fl kY k idx 12 = some (j, ty, w) ∧ pc' = pc + 3) (hj : mK j < 2 ∧ j < 62) (hv : S.1 j = v) (H : MR xt ct a ra d k pc' l (.int v :: st) S o S') : MR xt ct a ra d k pc l (.ref a :: st) S o S' := fun hp h hm =>
  let ⟨h', r, m, f⟩ := H hp h hm
  ⟨h', r_getf hc hm.1 ((m_rg hj.2).trans (by unfold m_val; rw [if_pos hj.1, hv])) r, m, f⟩
theorem M_geta {j idx : Nat} {ty : FieldType} {w : Bool} (hc : mj_Y.code kY k pc = some (.getfield idx) ∧ mj_Y.fl kY k idx 12 = some (j, ty, w) ∧ pc' = pc + 3) (hj : 2 ≤ mK j ∧ j < 62) (H : MR xt ct a ra d k pc' l (.ref (ra j) :: st) S o S') : MR xt ct a ra d k pc l (.ref a :: st) S o S' := fun hp h hm =>
  let ⟨h', r, m, f⟩ := H hp h hm
  ⟨h', r_getf hc hm.1 ((m_rg hj.2).trans (by unfold m_val; rw [if_neg (by omega)])) r, m, f⟩
theorem M_put {j idx : Nat} {v : Int32} (hc : mj_Y.code kY k pc = some (.putfield idx) ∧ mj_Y.fl kY k idx 12 = some (j, .int, true) ∧ pc' = pc + 3) (hj : mK j < 2) (H : MR xt ct a ra d k pc' l st (m_sV S j v) o S') : MR xt ct a ra d k pc l (.int v :: .ref a :: st) S o S' := fun hp h hm =>
  let ⟨m1, f1⟩ := md_sV hp hm hj v
  let ⟨h', r, m, f⟩ := H hp _ m1
  ⟨h', r_putf hc hm.1 ⟨rfl, rfl⟩ r, m, m_fr_trans f1 f⟩
theorem M_putz {j idx : Nat} {v : Int32} (hc : mj_Y.code kY k pc = some (.putfield idx) ∧ mj_Y.fl kY k idx 12 = some (j, .boolean, true) ∧ pc' = pc + 3) (hj : mK j < 2) (hv : v = 0 ∨ v = 1) (H : MR xt ct a ra d k pc' l st (m_sV S j v) o S') : MR xt ct a ra d k pc l (.int v :: .ref a :: st) S o S' := fun hp h hm =>
  let ⟨m1, f1⟩ := md_sV hp hm hj v
  let ⟨h', r, m, f⟩ := H hp _ m1
  ⟨h', r_putf hc hm.1 (by rcases hv with rfl | rfl <;> exact ⟨rfl, rfl⟩) r, m, m_fr_trans f1 f⟩
theorem m_lt {j : Nat} {i : Int32} (hi : 0 ≤ i.toInt ∧ i.toInt < mN j) : i.toInt.toNat < mN j := by omega
theorem M_iald {j : Nat} {i v : Int32} (hc : mj_Y.code kY k pc = some .iaload ∧ pc' = pc + 1) (hj : mK j = 2 ∧ j < 62) (hi : 0 ≤ i.toInt ∧ i.toInt < mN j) (hv : S.2.1 j i.toInt.toNat = v) (H : MR xt ct a ra d k pc' l (.int v :: st) S o S') : MR xt ct a ra d k pc l (.int i :: .ref (ra j) :: st) S o S' := fun hp h hm =>
  let ⟨h', r, m, f⟩ := H hp h hm
  ⟨h', r_iald hc ((hm.2 j hj.2 (by omega)).trans (by unfold m_cell; rw [if_neg (by omega), if_pos hj.1])) hi.1 ((m_rg (m_lt hi)).trans (by rw [hv])) r, m, f⟩
theorem M_zald {j : Nat} {i v : Int32} (hc : mj_Y.code kY k pc = some .baload ∧ pc' = pc + 1) (hj : mK j = 4 ∧ j < 62) (hi : 0 ≤ i.toInt ∧ i.toInt < mN j) (hv : S.2.1 j i.toInt.toNat = v) (H : MR xt ct a ra d k pc' l (.int v :: st) S o S') : MR xt ct a ra d k pc l (.int i :: .ref (ra j) :: st) S o S' := fun hp h hm =>
  let ⟨h', r, m, f⟩ := H hp h hm
  ⟨h', r_zald hc ((hm.2 j hj.2 (by omega)).trans (by unfold m_cell; rw [if_neg (by omega), if_neg (by omega)])) hi.1 ((m_rg (m_lt hi)).trans (by rw [hv])) r, m, f⟩
theorem M_lald {j : Nat} {i : Int32} {v : Int64} (hc : mj_Y.code kY k pc = some .laload ∧ pc' = pc + 1) (hj : mK j = 3 ∧ j < 62) (hi : 0 ≤ i.toInt ∧ i.toInt < mN j) (hv : S.2.2 j i.toInt.toNat = v) (H : MR xt ct a ra d k pc' l (.long v :: st) S o S') : MR xt ct a ra d k pc l (.int i :: .ref (ra j) :: st) S o S' := fun hp h hm =>
  let ⟨h', r, m, f⟩ := H hp h hm
  ⟨h', r_lald hc ((hm.2 j hj.2 (by omega)).trans (by unfold m_cell; rw [if_pos hj.1])) hi.1 ((m_rg (m_lt hi)).trans (by rw [hv])) r, m, f⟩
theorem M_iast {j : Nat} {i v : Int32} (hc : mj_Y.code kY k pc = some .iastore ∧ pc' = pc + 1) (hj : mK j = 2 ∧ j < 62) (hi : 0 ≤ i.toInt ∧ i.toInt < mN j) (H : MR xt ct a ra d k pc' l st (m_sA S j i.toInt.toNat v) o S') : MR xt ct a ra d k pc l (.int v :: .int i :: .ref (ra j) :: st) S o S' := fun hp h hm =>
  let ⟨m1, f1⟩ := md_sA hp hm hj i.toInt.toNat v
  let ⟨h', r, m, f⟩ := H hp _ m1
  ⟨h', r_iast hc ((hm.2 j hj.2 (by omega)).trans (by unfold m_cell; rw [if_neg (by omega), if_pos hj.1])) hi.1 (by simpa using m_lt hi) rfl r, m, m_fr_trans f1 f⟩
theorem M_zast {j : Nat} {i v : Int32} (hc : mj_Y.code kY k pc = some .bastore ∧ pc' = pc + 1) (hj : mK j = 4 ∧ j < 62) (hi : 0 ≤ i.toInt ∧ i.toInt < mN j) (hv : v = 0 ∨ v = 1) (H : MR xt ct a ra d k pc' l st (m_sA S j i.toInt.toNat v) o S') : MR xt ct a ra d k pc l (.int v :: .int i :: .ref (ra j) :: st) S o S' := fun hp h hm =>
  let ⟨m1, f1⟩ := md_sZ hp hm hj i.toInt.toNat v
  let ⟨h', r, m, f⟩ := H hp _ m1
  ⟨h', r_zast hc ((hm.2 j hj.2 (by omega)).trans (by unfold m_cell; rw [if_neg (by omega), if_neg (by omega)])) hi.1 (by simpa using m_lt hi) (by rcases hv with rfl | rfl <;> rfl) r, m, m_fr_trans f1 f⟩
theorem M_last {j : Nat} {i : Int32} {v : Int64} (hc : mj_Y.code kY k pc = some .lastore ∧ pc' = pc + 1) (hj : mK j = 3 ∧ j < 62) (hi : 0 ≤ i.toInt ∧ i.toInt < mN j) (H : MR xt ct a ra d k pc' l st (m_sB S j i.toInt.toNat v) o S') : MR xt ct a ra d k pc l (.long v :: .int i :: .ref (ra j) :: st) S o S' := fun hp h hm =>
  let ⟨m1, f1⟩ := md_sB hp hm hj i.toInt.toNat v
  let ⟨h', r, m, f⟩ := H hp _ m1
  ⟨h', r_last hc ((hm.2 j hj.2 (by omega)).trans (by unfold m_cell; rw [if_pos hj.1])) hi.1 (by simpa using m_lt hi) r, m, m_fr_trans f1 f⟩
theorem M_cs {k2 n d2 idx m : Nat} {as st' : List Value} {v : Option Value} {S1 : mS} (hc : mj_Y.code kY k pc = some (.invokestatic idx) ∧ mj_Y.pr kY k idx = none ∧ mj_Y.cs kY k idx = some (k2, n) ∧ mj_Y.nL kY k2 = m ∧ pc' = pc + 3) (hq : n ≤ st.length ∧ mj_wt (st.drop n) + m + 11 ≤ 64 ∧ (lg_sl (st.take n).reverse).length ≤ m) (has : (st.take n).reverse = as) (hst : v.toList ++ st.drop n = st') (he : MR xt ct a ra d2 k2 0 (lv_args 0 as) [] S (.inl v) S1) (hd : d2 < d) (H : MR xt ct a ra d k pc' l st' S1 o S') : MR xt ct a ra d k pc l st S o S' := fun hp h hm =>
  let ⟨h1, r1, m1, f1⟩ := he hp h hm
  let ⟨h', r, m, f⟩ := H hp h1 m1
  ⟨h', r_cs hc hq has hst r1 hd r, m, m_fr_trans f1 f⟩
theorem M_cp {k2 n d2 idx m : Nat} {as st' rest : List Value} {v : Option Value} {S1 : mS} (hc : mj_Y.code kY k pc = some (.invokespecial idx) ∧ mj_Y.pr kY k idx = none ∧ mj_Y.cp kY k idx = some (k2, n) ∧ mj_Y.nL kY k2 = m ∧ pc' = pc + 3) (hs : st.drop n = .ref a :: rest) (hq : n + 1 ≤ st.length ∧ mj_wt (st.drop (n + 1)) + m + 11 ≤ 64 ∧ (lg_sl (st.take (n + 1)).reverse).length ≤ m) (has : (st.take (n + 1)).reverse = as) (hst : v.toList ++ st.drop (n + 1) = st') (he : MR xt ct a ra d2 k2 0 (lv_args 0 as) [] S (.inl v) S1) (hd : d2 < d) (H : MR xt ct a ra d k pc' l st' S1 o S') : MR xt ct a ra d k pc l st S o S' := fun hp h hm =>
  let ⟨h1, r1, m1, f1⟩ := he hp h hm
  let ⟨h', r, m, f⟩ := H hp h1 m1
  ⟨h', r_cp hc hs hm.1 hq has hst r1 hd r, m, m_fr_trans f1 f⟩
theorem M_cv {k2 n d2 idx m : Nat} {as st' rest : List Value} {v : Option Value} {S1 : mS} (hc : mj_Y.code kY k pc = some (.invokevirtual idx) ∧ mj_Y.na kY k idx = some n ∧ mj_Y.cv kY k idx 12 = some k2 ∧ mj_Y.nL kY k2 = m ∧ pc' = pc + 3) (hs : st.drop n = .ref a :: rest) (hq : n + 1 ≤ st.length ∧ mj_wt (st.drop (n + 1)) + m + 11 ≤ 64 ∧ (lg_sl (st.take (n + 1)).reverse).length ≤ m) (has : (st.take (n + 1)).reverse = as) (hst : v.toList ++ st.drop (n + 1) = st') (he : MR xt ct a ra d2 k2 0 (lv_args 0 as) [] S (.inl v) S1) (hd : d2 < d) (H : MR xt ct a ra d k pc' l st' S1 o S') : MR xt ct a ra d k pc l st S o S' := fun hp h hm =>
  let ⟨h1, r1, m1, f1⟩ := he hp h hm
  let ⟨h', r, m, f⟩ := H hp h1 m1
  ⟨h', r_cv hc hs hm.1 hq has hst r1 hd r, m, m_fr_trans f1 f⟩
theorem M_sw {i : Instr} {x c : Int32} {t : Nat} (hc : mj_Y.code kY k pc = some i ∧ r_np i = true ∧ ∀ (l : mj_L) (st : List Value), mj_p (mj_Y.nL kY k) pc i l (.int c :: st) = some (t, l, st)) (hx : mj_c2 .eq x c = true) (H : MR xt ct a ra d k t l st S o S') : MR xt ct a ra d k pc l (.int x :: st) S o S' := by
  have e : x = c := of_decide_eq_true hx
  subst e
  exact M_of (fun _ _ => r_sw hc) H
theorem M_end (hr : ∀ h, mj_Run kY xt ct d k pc l st h (o, h)) : MR xt ct a ra d k pc l st S o S := fun _ h hm => ⟨h, hr h, hm, m_fr_refl a ra h⟩
theorem M_ri {v : Int32} {q : Int32 × mS} (e : (v, S) = q) (hr : ∀ h, mj_Run kY xt ct d k pc l st h (.inl (some (.int v)), h)) : MR xt ct a ra d k pc l st S (.inl (some (.int q.1))) q.2 := by
  subst e
  exact M_end hr
theorem M_rl {v : Int64} {q : Int64 × mS} (e : (v, S) = q) (hr : ∀ h, mj_Run kY xt ct d k pc l st h (.inl (some (.long v)), h)) : MR xt ct a ra d k pc l st S (.inl (some (.long q.1))) q.2 := by
  subst e
  exact M_end hr
theorem M_rv {q : mS} (e : S = q) (hr : ∀ h, mj_Run kY xt ct d k pc l st h (.inl none, h)) : MR xt ct a ra d k pc l st S (.inl none) q := by
  subst e
  exact M_end hr
theorem M_deep {d' : Nat} (hd : d ≤ d') (H : MR xt ct a ra d k pc l st S o S') : MR xt ct a ra d' k pc l st S o S' := fun hp h hm =>
  let ⟨h', r, m, f⟩ := H hp h hm
  ⟨h', mj_Run_deep hd r, m, f⟩
end MRR
theorem m_z1 {v : Int32} (h : v = 0 ∨ v = 1) : narrow .boolean (.int v) = .int v := by
  rcases h with rfl | rfl <;> rfl
theorem ld1_eq {l : mj_L} {i : Nat} {v : Value} : mj_ld (mj_st1 l i v) i = some v := by
  unfold mj_ld mj_st1
  rw [List.find?_cons_of_pos (by simp)]
  rfl
theorem ld2_eq {l : mj_L} {i : Nat} {v : Value} : mj_ld (mj_st2 l i v) i = some v := by
  unfold mj_ld mj_st2
  rw [List.find?_cons_of_pos (by simp)]
  rfl
theorem ld_fil {l : mj_L} {j : Nat} {w : Value} {p : Nat × Value → Bool} (h : mj_ld l j = some w) (hp : p (j, w) = true) : mj_ld (l.filter p) j = some w := by
  induction l with
  | nil => cases h
  | cons q r ih =>
    obtain ⟨x, y⟩ := q
    unfold mj_ld at h ih ⊢
    by_cases e : x = j
    · subst e
      rw [List.find?_cons_of_pos (by simp)] at h
      cases h
      rw [List.filter_cons_of_pos hp, List.find?_cons_of_pos (by simp)]
      rfl
    · rw [List.find?_cons_of_neg (by simpa using e)] at h
      by_cases e2 : p (x, y) = true
      · rw [List.filter_cons_of_pos e2, List.find?_cons_of_neg (by simpa using e)]
        exact ih h
      · rw [List.filter_cons_of_neg e2]
        exact ih h
theorem ld1_ne {l : mj_L} {i j : Nat} {v w : Value} (h : mj_ld l j = some w) (hn : j ≠ i) (hc : j + 1 ≠ i ∨ w.category = 1) : mj_ld (mj_st1 l i v) j = some w := by
  have e : mj_ld (mj_st1 l i v) j = mj_ld (l.filter (fun q => !(q.1 == i) && !(q.1 + 1 == i && q.2.category == 2))) j := by
    unfold mj_ld mj_st1
    rw [List.find?_cons_of_neg (by simpa using fun z => hn z.symm)]
  rw [e]
  refine ld_fil h ?_
  rcases hc with hc | hc <;> simp [hn, hc]
theorem ld2_ne {l : mj_L} {i j : Nat} {v w : Value} (h : mj_ld l j = some w) (hn : j ≠ i ∧ j ≠ i + 1) (hc : j + 1 ≠ i ∨ w.category = 1) : mj_ld (mj_st2 l i v) j = some w := by
  have e : mj_ld (mj_st2 l i v) j = mj_ld (l.filter (fun q => !(q.1 == i) && (!(q.1 == i + 1) && !(q.1 + 1 == i && q.2.category == 2)))) j := by
    unfold mj_ld mj_st2
    rw [List.find?_cons_of_neg (by simpa using fun z => hn.1 z.symm)]
  rw [e]
  refine ld_fil h ?_
  rcases hc with hc | hc <;> simp [hn.1, hn.2, hc]
/-! TREES: what a piece of code answers, as an Option (none: the machine would throw) -/
theorem t_if {α : Type} {G : Prop} {b : Bool} {x y : Option α} {q : α} (h : (bif b then x else y) = some q) (h1 : b = true → x = some q → G) (h2 : b = false → y = some q → G) : G := by
  cases b with
  | true => exact h1 rfl h
  | false => exact h2 rfl h
theorem t_ck {α : Type} {G P : Prop} [Decidable P] {x : Option α} {q : α} (h : (if P then x else none) = some q) (h1 : P → x = some q → G) : G := by
  by_cases hp : P
  · rw [if_pos hp] at h
    exact h1 hp h
  · rw [if_neg hp] at h
    cases h
theorem t_bd {α β : Type} {G : Prop} {x : Option β} {f : β → Option α} {q : α} (h : x.bind f = some q) (h1 : ∀ y, x = some y → f y = some q → G) : G := by
  obtain ⟨y, e1, e2⟩ := Option.bind_eq_some_iff.mp h
  exact h1 y e1 e2
/-- a loop: a state again, or what comes out behind it; n times at most -/
def t_lp {σ ρ : Type} (f : σ → Option (σ ⊕ ρ)) : Nat → σ → Option ρ
  | 0, _ => none
  | n + 1, s => match f s with
    | none => none
    | some (.inl s') => t_lp f n s'
    | some (.inr r) => some r
theorem t_lp_ok {σ ρ : Type} {f : σ → Option (σ ⊕ ρ)} {G : σ → Prop} {q : ρ} (hc : ∀ s s', f s = some (.inl s') → G s' → G s) (he : ∀ s, f s = some (.inr q) → G s) : ∀ n s, t_lp f n s = some q → G s := by
  intro n
  induction n with
  | zero => intro s h; cases h
  | succ n ih =>
    intro s h
    rw [t_lp] at h
    split at h
    · cases h
    · rename_i s' hs
      exact hc s s' hs (ih _ h)
    · rename_i r hs
      cases h
      exact he s hs
theorem t_rt {α : Type} {G : α → Prop} {x q : α} (h : some x = some q) (h1 : G x) : G q := by
  cases h
  exact h1
theorem t_rg {α : Type} {G : Prop} {P : α → Prop} {x o : α} (h : some x = some o) (hG : P o) (h1 : P x → G) : G := by
  cases h
  exact h1 hG
theorem t_eq {α : Type} {G : α → Prop} {x q : α} (h : x = q) (h1 : G x) : G q := by
  subst h
  exact h1
theorem t_up {α β : Type} {G : Prop} {x : Option β} {o : α ⊕ β} (h : x.map Sum.inr = some o) (h1 : ∀ y, x = some y → o = .inr y → G) : G := by
  obtain ⟨y, e1, e2⟩ := Option.map_eq_some_iff.mp h
  exact h1 y e1 e2.symm
