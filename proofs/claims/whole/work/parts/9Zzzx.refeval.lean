section RE2
variable {N : Nat}
theorem lcn_all {nds : List Nd} (i : Nat) : lcn (nds.take i) ≤ lcn nds := by
  have e : nds = nds.take i ++ nds.drop i := (List.take_append_drop i nds).symm
  conv => rhs; rw [e]
  unfold lcn
  rw [List.filter_append, List.length_append]
  omega
/-- an expression worked out, node by node -/
theorem RE_do (hN : 100000 ≤ N) {H : mj_H} {A B sl s lo0 hi0 set row : Nat} {nds : List Nd} {fcs : List Int32} {st : Nat → Int32} (hsl : sl < 3) (hs : s < 24) (hset : set < 10) (hrow : row < 64) (hst : ∀ k, k < 6 → inR (st k)) (hnl : nds.length ≤ 160) (hfc : fcs.length ≤ 160) (hhi : hi0 < 160) : ∀ (n lo i a f : Nat) (S : mS) (r : List Sp), exT H A B nds fcs n lo i a f → lo0 ≤ lo → i ≤ hi0 → rst S r → gdA r → ppS r * f ≤ 2147483648 → r.length + lcn (nds.take (i + 1)) ≤ 40 + lcn (nds.take lo) → eF S sl s lo0 hi0 nds fcs set row st → (∃ L S', evT nds fcs st n i = some L ∧ gdS L f ∧ rst S' (L :: r) ∧ wF S S' ∧ ∀ res, EL N sl s set row (i + 1) S' res → EL N sl s set row lo S res) ∨ (evT nds fcs st n i = none ∧ ∃ S', wF S S' ∧ EL N sl s set row lo S (0, m_sV S' 51 (-1))) := by
  intro n
  induction n with
  | zero => intro lo i a f S r h; exact h.elim
  | succ n ih =>
    intro lo i a f S r hx hlo hi hr hg hp hlc he
    have pr1 := ppS_pos r (fun q hq => (hg q hq).2)
    have hf31 : f ≤ 2147483648 := Nat.le_trans (Nat.le_mul_of_pos_left _ pr1) hp
    obtain ⟨f1, fev⟩ := evT_gd hst hnl hfc (n + 1) lo i a f hx hf31
    have lc := exT_lc _ _ _ _ _ hx
    have hn : r.length < 40 := by omega
    have len : ∀ {i : Nat} {nd : Nd}, nds[i]? = some nd → i < 160 := fun h => Nat.lt_of_lt_of_le (List.getElem?_eq_some_iff.mp h).1 hnl
    have ck : ∀ i j, i < 160 → mN j = 640 → 0 ≤ (Int32.ofNat (160 * sl + i)).toInt ∧ (Int32.ofNat (160 * sl + i)).toInt < mN j := fun i j h1 h2 => n_at (by omega) (by rw [h2]; omega)
    have tk : ∀ i, i < 160 → (Int32.ofNat (160 * sl + i)).toInt.toNat = 160 * sl + i := fun i h1 => n_t (by omega)
    have q00 : mj_c2 .eq (0 : Int32) 0 = true := by decide
    have q10 : mj_c2 .eq (1 : Int32) 0 = false := by decide
    have q11 : mj_c2 .eq (1 : Int32) 1 = true := by decide
    have q20 : mj_c2 .eq (2 : Int32) 0 = false := by decide
    have q21 : mj_c2 .eq (2 : Int32) 1 = false := by decide
    have q22 : mj_c2 .eq (2 : Int32) 2 = true := by decide
    have q30 : mj_c2 .eq (3 : Int32) 0 = false := by decide
    have q31 : mj_c2 .eq (3 : Int32) 1 = false := by decide
    have q32 : mj_c2 .eq (3 : Int32) 2 = false := by decide
    have q34 : mj_c2 .eq (3 : Int32) 4 = false := by decide
    have q35 : mj_c2 .eq (3 : Int32) 5 = false := by decide
    have q40 : mj_c2 .eq (4 : Int32) 0 = false := by decide
    have q41 : mj_c2 .eq (4 : Int32) 1 = false := by decide
    have q42 : mj_c2 .eq (4 : Int32) 2 = false := by decide
    have q44 : mj_c2 .eq (4 : Int32) 4 = true := by decide
    have q50 : mj_c2 .eq (5 : Int32) 0 = false := by decide
    have q51 : mj_c2 .eq (5 : Int32) 1 = false := by decide
    have q52 : mj_c2 .eq (5 : Int32) 2 = false := by decide
    have q54 : mj_c2 .eq (5 : Int32) 4 = false := by decide
    have q55 : mj_c2 .eq (5 : Int32) 5 = true := by decide
    rcases hx with ⟨e, nd, b, l, h1, ⟨h01, h02, h2⟩, h3⟩ | ⟨j, x, h1, h01, h02, h2, h3, h4⟩ | ⟨j, m, x, y, g, h, c, h1, h01, h02, h2, h3, h4, h5, h6, h7⟩
    · -- a leaf
      subst e
      have li := len h1
      have k13 := ck lo 13 li rfl
      have k14 := ck lo 14 li rfl
      have tt := tk lo li
      have nn := he.1 lo nd h1
      obtain ⟨S1, a1, a2, a3⟩ := rst_open (N := N) hr (by omega)
      have s14 : S1.2.1 14 = S.2.1 14 := a3.2.1 14 (by decide)
      have leaf : ∀ L, evT nds fcs st (n + 1) lo = some L → (∃ S', M280 N (Int32.ofNat sl) (Int32.ofNat lo) (Int32.ofNat set) (Int32.ofNat row) S = some (1, S') ∧ rst S' (L :: r) ∧ wF S S') → (∃ L S', evT nds fcs st (n + 1) lo = some L ∧ gdS L f ∧ rst S' (L :: r) ∧ wF S S' ∧ ∀ res, EL N sl s set row (lo + 1) S' res → EL N sl s set row lo S res) := by
        intro L ev hM
        obtain ⟨S', m1, m2, m3⟩ := hM
        exact ⟨L, S', ev, fev _ ev, m2, m3, fun res k => EL_step hsl hs hi hhi he.2.2.2.1 m1 k⟩
      rcases h2 with ⟨v, v1, rfl, -, v4, rfl⟩ | ⟨k, v1, rfl, -, v4, rfl⟩ | ⟨a', m, how, keep, pick, k, w, o, rfl, -, v4, v5⟩ | ⟨rr, rfl, l1, l2, v3, v4, v5, v6, rfl⟩
      · -- a number
        have ev : evT nds fcs st (n + 1) lo = some [(Int32.ofNat v, 1)] := evT_0 h1
        obtain ⟨-, -, rm⟩ := room_one hg (fev _ ev) f1 hp hn
        have e13 : S.2.1 13 (160 * sl + lo) = 0 := nn.1
        have e14 : S.2.1 14 (160 * sl + lo) = Int32.ofNat v := nn.2.1
        obtain ⟨S2, b1, b2, b3⟩ := rst_put (N := N) (v := Int32.ofNat v) (w := 1) a2 (by have : 1 + szS r ≤ 4572 := rm; show 0 + szS r < 4800; omega)
        have b1' : M282 N (Int32.ofNat v) 1 S1 = some S2 := b1
        refine Or.inl (leaf _ ev ⟨S2, ?_, b2, m_agr_trans a3 b3⟩)
        simp only [M280, ix_160, if_pos k13, tt, e13, q00, cond_true, a1, if_pos k14, s14, e14, b1', Option.bind_some]
      · -- a name
        have ev : evT nds fcs st (n + 1) lo = some [(st k, 1)] := evT_1 v1 h1
        obtain ⟨-, -, rm⟩ := room_one hg (fev _ ev) f1 hp hn
        have e13 : S.2.1 13 (160 * sl + lo) = 1 := nn.1
        have e14 : S.2.1 14 (160 * sl + lo) = Int32.ofNat k := nn.2.1
        have e47 : S1.2.1 47 (384 * set + 6 * row + k) = st k := by rw [a3.2.1 47 (by decide)]; exact he.2.2.2.2.2 k v1
        have k47 : 0 ≤ (Int32.ofNat (384 * set + 6 * row + k)).toInt ∧ (Int32.ofNat (384 * set + 6 * row + k)).toInt < mN 47 := n_at (by omega) (by show _ < 3840; omega)
        have t47 : (Int32.ofNat (384 * set + 6 * row + k)).toInt.toNat = 384 * set + 6 * row + k := n_t (by omega)
        obtain ⟨S2, b1, b2, b3⟩ := rst_put (N := N) (v := st k) (w := 1) a2 (by have : 1 + szS r ≤ 4572 := rm; show 0 + szS r < 4800; omega)
        have b1' : M282 N (st k) 1 S1 = some S2 := b1
        refine Or.inl (leaf _ ev ⟨S2, ?_, b2, m_agr_trans a3 b3⟩)
        simp only [M280, ix_160, if_pos k13, tt, e13, q10, q11, cond_false, cond_true, a1, if_pos k14, s14, e14, ix_384, if_pos k47, t47, e47, b1', Option.bind_some]
      · -- dice
        have ev : evT nds fcs st (n + 1) lo = some (dcS (dW a' m pick k) 121) := evT_4 o h1
        obtain ⟨-, -, rm⟩ := room_one hg (fev _ ev) f1 hp hn
        have e13 : S.2.1 13 (160 * sl + lo) = 4 := nn.1
        obtain ⟨it, t1, t2, t3⟩ := he.2.2.2.2.1 lo _ a' m k pick hlo (by omega) h1 ⟨how, keep, o, rfl⟩
        obtain ⟨S2, b1, b2, b3⟩ := L280_161_do (N := N) (S0 := S1) (idx := 160 * sl + lo) (it := it) (w := dW a' m pick k) hN (by omega) t1 (by rw [a3.2.1 18 (by decide)]; exact t2) (fun q hq => by rw [a3.2.2 21 (by decide)]; exact t3 q hq) (fun q hq => Nat.le_trans (dW_le o hq) (by decide)) (by omega) a2
        refine Or.inl (leaf _ ev ⟨S2, ?_, b2, m_agr_trans a3 b3⟩)
        simp only [M280, ix_160, if_pos k13, tt, e13, q40, q41, q42, q44, cond_false, cond_true, a1, b1, Option.bind_some]
      · -- faces
        have bb : b + l.length ≤ 160 := by
          have hl : l.length - 1 < l.length := by omega
          have := h3 (l.length - 1) _ (List.getElem?_eq_getElem hl)
          have := (List.getElem?_eq_some_iff.mp this).1
          omega
        have ev : evT nds fcs st (n + 1) lo = some (onS l) := evT_5 (by omega) l1.2 h1 h3
        obtain ⟨-, -, rm⟩ := room_one hg (fev _ ev) f1 hp hn
        have e13 : S.2.1 13 (160 * sl + lo) = 5 := nn.1
        have e14 : S1.2.1 14 (160 * sl + lo) = Int32.ofNat b := by rw [s14]; exact nn.2.1
        have e15 : S1.2.1 15 (160 * sl + lo) = Int32.ofNat l.length := by rw [a3.2.1 15 (by decide)]; exact nn.2.2.1
        obtain ⟨S2, b1, b2, b3⟩ := L280_218_do (N := N) (S0 := S1) (sl := sl) (idx := 160 * sl + lo) (b := b) (l := l) hN hsl (by omega) bb l1.2 e14 e15 (fun q x hq => by rw [a3.2.1 20 (by decide)]; exact he.2.1 _ x (h3 q x hq)) (by omega) a2
        refine Or.inl (leaf _ ev ⟨S2, ?_, b2, m_agr_trans a3 b3⟩)
        simp only [M280, ix_160, if_pos k13, tt, e13, q50, q51, q52, q54, q55, cond_false, cond_true, a1, b1, Option.bind_some]
    · -- minus
      subst h1
      have li := len h3
      have ev : evT nds fcs st (n + 1) (j + 1) = (evT nds fcs st n j).map ngS := evT_2 (by omega) h3
      rcases ih lo j x f S r h2 hlo (by omega) hr hg hp (by have := lcn_mono (nds := nds) 1 (j + 1); omega) he with ⟨L, S1, b1, b2, b3, b4, b5⟩ | ⟨b1, S1, b2, b3⟩
      · have k13 := ck (j + 1) 13 li rfl
        have tt := tk (j + 1) li
        have he1 := eF_ag he b4 wF_c
        have e13 : S1.2.1 13 (160 * sl + (j + 1)) = 2 := (he1.1 (j + 1) _ h3).1
        obtain ⟨-, -, rm⟩ := room_one hg b2 f1 hp hn
        have e44 : S1.1 44 - 1 = Int32.ofNat r.length := by
          rw [b3.1, show (1 : Int32) = Int32.ofNat 1 from rfl, n_sub (by rw [List.length_cons]; omega) (by rw [List.length_cons]; omega), List.length_cons, Nat.add_sub_cancel]
        have k43 : 0 ≤ (Int32.ofNat r.length).toInt ∧ (Int32.ofNat r.length).toInt < mN 43 := n_at (by omega) (by show _ < 64; omega)
        have t43 : (Int32.ofNat r.length).toInt.toNat = r.length := n_t (by omega)
        have e43 : S1.2.1 43 r.length = Int32.ofNat (szS r) := b3.2.2.1.1
        obtain ⟨S2, c1, c2, c3⟩ := rst_neg (N := N) hN (by omega) b3
        have m1 : M280 N (Int32.ofNat sl) (Int32.ofNat (j + 1)) (Int32.ofNat set) (Int32.ofNat row) S1 = some (1, S2) := by
          simp only [M280, ix_160, if_pos k13, tt, e13, q20, q21, q22, cond_false, cond_true, e44, if_pos k43, t43, e43, c1]
        exact Or.inl ⟨ngS L, S2, by rw [ev, b1]; rfl, ngS_gd b2, c2, m_agr_trans b4 c3, fun res k => b5 _ (EL_step hsl hs hi hhi he1.2.2.2.1 m1 k)⟩
      · exact Or.inr ⟨by rw [ev, b1]; rfl, S1, b2, b3⟩
    · -- an operation
      subst h1
      have li := len h5
      have fl2 := exT_fal _ _ _ _ _ h2
      have fl3 := exT_fal _ _ _ _ _ h3
      have ev : evT nds fcs st (n + 1) (j + 1) = (evT nds fcs st n m).bind fun a => (evT nds fcs st n j).bind fun b => cmb c a b := evT_3 (by omega) (by omega) h4 h5
      have ef : f = g * h := by rw [h6]; exact prN_ok (by rw [← h6]; exact hf31)
      have lc2 := exT_lc _ _ _ _ _ h2
      have lc3 := exT_lc _ _ _ _ _ h3
      have lm := lcn_mono (nds := nds) 1 (j + 1)
      have e3 : ppS r * g * h = ppS r * f := by rw [ef, Nat.mul_assoc]
      have pg : ppS r * g ≤ 2147483648 := Nat.le_trans (Nat.le_mul_of_pos_right _ fl3.2.1.1) (by rw [e3]; exact hp)
      rcases ih lo m x g S r h2 hlo (by omega) hr hg pg (by omega) he with ⟨L, S1, b1, b2, b3, b4, b5⟩ | ⟨b1, S1, b2, b3⟩
      · obtain ⟨gA1, gP1, -⟩ := room_one hg b2 fl2.2.1.1 pg hn
        have he1 := eF_ag he b4 wF_c
        rcases ih (m + 1) j y h S1 (L :: r) h3 (by omega) (by omega) b3 gA1 (by
          show tot L * ppS r * h ≤ _
          rw [b2.2.2.2, Nat.mul_comm g, e3]
          exact hp) (by rw [List.length_cons]; omega) he1 with ⟨M, S2, d1, d2, d3, d4, d5⟩ | ⟨d1, S2, d2, d3⟩
        · have he2 := eF_ag he1 d4 wF_c
          have k13 := ck (j + 1) 13 li rfl
          have k14 := ck (j + 1) 14 li rfl
          have tt := tk (j + 1) li
          have e13 : S2.2.1 13 (160 * sl + (j + 1)) = 3 := (he2.1 (j + 1) _ h5).1
          have e14 : S2.2.1 14 (160 * sl + (j + 1)) = sg c := (he2.1 (j + 1) _ h5).2.1
          have gA2 : gdA (M :: L :: r) := fun q hq => by
            rcases List.mem_cons.mp hq with e | e
            · rw [e, d2.2.2.2]; exact ⟨d2, fl3.2.1.1⟩
            · exact gA1 q e
          have pp : ppS (M :: L :: r) ≤ 2147483648 := by
            show tot M * (tot L * ppS r) ≤ _
            rw [d2.2.2.2, b2.2.2.2, Nat.mul_comm, Nat.mul_comm g, e3]
            exact hp
          have rm2 := room_ok gA2 pp (by rw [List.length_cons, List.length_cons]; omega)
          have cv : cmb c L M = if badW c L M = 0 then some (rowS (wAt c L M) 1999) else none := rfl
          have ev2 : evT nds fcs st (n + 1) (j + 1) = cmb c L M := by rw [ev, b1, d1]; rfl
          obtain ⟨bb, S3, u1, u2, u3, u4⟩ := M283_do (N := N) (c := c) hN h4 d3 b2.1 d2.1 (by rw [b2.2.2.2, d2.2.2.2, ← ef]; exact hf31) (by omega) (by omega) (fun bz => by
            have : evT nds fcs st (n + 1) (j + 1) = some (rowS (wAt c L M) 1999) := by rw [ev2, cv, if_pos bz]
            obtain ⟨-, -, rm⟩ := room_one hg (fev _ this) f1 hp hn
            omega)
          by_cases bz : badW c L M = 0
          · obtain ⟨w1, w2⟩ := u3 bz
            subst w1
            have ev3 : evT nds fcs st (n + 1) (j + 1) = some (rowS (wAt c L M) 1999) := by rw [ev2, cv, if_pos bz]
            have o1 : (1 : Int32) = 0 ∨ (1 : Int32) = 1 := Or.inr rfl
            have m1 : M280 N (Int32.ofNat sl) (Int32.ofNat (j + 1)) (Int32.ofNat set) (Int32.ofNat row) S2 = some (1, S3) := by
              simp only [M280, ix_160, if_pos k13, tt, e13, q30, q31, q32, q34, q35, cond_false, if_pos k14, e14, u1, true_or, or_true, if_true, Option.bind_some]
            exact Or.inl ⟨_, S3, ev3, fev _ ev3, w2, m_agr_trans b4 (m_agr_trans d4 u2), fun res k => b5 _ (d5 _ (EL_step hsl hs hi hhi he2.2.2.2.1 m1 k))⟩
          · have w1 := u4 bz
            subst w1
            have o0 : (0 : Int32) = 0 ∨ (0 : Int32) = 1 := Or.inl rfl
            have m1 : M280 N (Int32.ofNat sl) (Int32.ofNat (j + 1)) (Int32.ofNat set) (Int32.ofNat row) S2 = some (0, S3) := by
              simp only [M280, ix_160, if_pos k13, tt, e13, q30, q31, q32, q34, q35, cond_false, if_pos k14, e14, u1, true_or, or_true, if_true, Option.bind_some]
            have he3 := eF_ag he2 u2 wF_c
            exact Or.inr ⟨by rw [ev2, cv, if_neg bz], S3, m_agr_trans b4 (m_agr_trans d4 u2), b5 _ (d5 _ (EL_bad hsl hs hi hhi he2.2.2.2.1 he3.2.2.2.1 m1))⟩
        · exact Or.inr ⟨by rw [ev, b1, d1]; rfl, S2, m_agr_trans b4 d2, b5 _ d3⟩
      · exact Or.inr ⟨by rw [ev, b1]; rfl, S1, b2, b3⟩
/-- what work changes -/
def wG (S S' : mS) : Prop := m_agr [44, 45, 51] [41, 43] [42, 46] S S'
/-- work -/
theorem M279_do (hN : 100000 ≤ N) {H : mj_H} {A B sl s lo hi a f set row : Nat} {nds : List Nd} {fcs : List Int32} {st : Nat → Int32} (hsl : sl < 3) (hs : s < 24) (hset : set < 10) (hrow : row < 64) (hst : ∀ k, k < 6 → inR (st k)) (hnl : nds.length ≤ 160) (hfc : fcs.length ≤ 160) (h40 : lcn nds ≤ 40) (hx : exT H A B nds fcs 45 lo hi a f) (hf : f ≤ 2147483648) {S : mS} (he : eF S sl s lo hi nds fcs set row st) : (∃ L S', evT nds fcs st 45 hi = some L ∧ gdS L f ∧ M279 N (Int32.ofNat sl) (Int32.ofNat s) (Int32.ofNat set) (Int32.ofNat row) S = some (1, S') ∧ rst S' [L] ∧ wG S S') ∨ (evT nds fcs st 45 hi = none ∧ ∃ S', M279 N (Int32.ofNat sl) (Int32.ofNat s) (Int32.ofNat set) (Int32.ofNat row) S = some (0, S') ∧ wG S S' ∧ S'.1 51 = -1) := by
  have fl := exT_fal _ _ _ _ _ hx
  obtain ⟨S0, hS0⟩ : ∃ w, m_sV (m_sV S 44 0) 45 0 = w := ⟨_, rfl⟩
  have ag0 : m_agr [44, 45] [] [] S S0 := by rw [← hS0]; exact m_agr_sV (m_agr_sV m_agr_refl (by decide) _) (by decide) _
  have r0 : rst S0 [] := by
    rw [← hS0]
    exact ⟨rfl, rfl, trivial, fun i p hp => by cases hp⟩
  have he0 := eF_ag he ag0 ⟨fun j hj => (by cases hj), by decide⟩
  have k8 : 0 ≤ (Int32.ofNat (24 * sl + s)).toInt ∧ (Int32.ofNat (24 * sl + s)).toInt < mN 8 := n_at (by omega) (by show _ < 96; omega)
  have t8 : (Int32.ofNat (24 * sl + s)).toInt.toNat = 24 * sl + s := n_t (by omega)
  have go : ∀ res, EL N sl s set row lo S0 res → M279 N (Int32.ofNat sl) (Int32.ofNat s) (Int32.ofNat set) (Int32.ofNat row) S = some res := by
    intro res k
    unfold EL at k
    have k' := t_lp_more _ _ _ (show 400 - lo ≤ N by omega) k
    simp only [M279, ix_24, if_pos k8, t8, he.2.2.1, hS0, L279_26]
    exact k'
  have w1 : ∀ S', wF S0 S' → wG S S' := fun S' w => m_agr_trans (m_agr_mono ag0 (by decide) (by decide) (by decide)) (m_agr_mono w (by decide) (by decide) (by decide))
  rcases RE_do (N := N) hN (H := H) (A := A) (B := B) (lo0 := lo) (hi0 := hi) hsl hs hset hrow hst hnl hfc (by omega) 45 lo hi a f S0 [] hx (Nat.le_refl _) (Nat.le_refl _) r0 (fun q hq => by cases hq) (by show 1 * f ≤ _; omega) (by have := lcn_all (nds := nds) (hi + 1); show 0 + _ ≤ _; omega) he0 with ⟨L, S1, a1, a2, a3, a4, a5⟩ | ⟨a1, S1, a2, a3⟩
  · have he1 := eF_ag he0 a4 wF_c
    exact Or.inl ⟨L, S1, a1, a2, go _ (a5 _ (EL_end hsl hs (by omega) he1.2.2.2.1)), a3, w1 _ a4⟩
  · exact Or.inr ⟨a1, _, go _ a3, m_agr_sV (w1 _ a2) (by decide) _, rfl⟩
end RE2
