section LAY
variable {xt : mj_X} {ct : Nat → Value} {N z : Nat} {mo : Int32}
theorem lcn_take {nds : List Nd} {i : Nat} {nd : Nd} (h : nds[i]? = some nd) : lcn (nds.take (i + 1)) = lcn (nds.take i) + lcn [nd] := by
  rw [List.take_add_one, h, lcn_app]
  rfl
theorem lcn_mono {nds : List Nd} : ∀ (d i : Nat), lcn (nds.take i) ≤ lcn (nds.take (i + d)) := by
  intro d
  induction d with
  | zero => intro i; exact Nat.le_refl _
  | succ d ih =>
    intro i
    have h := ih i
    rw [show i + (d + 1) = i + d + 1 by omega, List.take_add_one, lcn_app]
    omega
theorem exT_lc {H : mj_H} {A B : Nat} {nds : List Nd} {fcs : List Int32} : ∀ (n lo i a f : Nat), exT H A B nds fcs n lo i a f → lcn (nds.take lo) + 1 ≤ lcn (nds.take (i + 1)) := by
  intro n
  induction n with
  | zero => intro lo i a f h; exact h.elim
  | succ n ih =>
    intro lo i a f h
    rcases h with ⟨e, nd, b, l, h1, ⟨-, -, h2⟩, -⟩ | ⟨j, x, h1, -, -, h2, h3, -⟩ | ⟨j, m, x, y, g, h, c, h1, -, -, h2, h3, -⟩
    · subst e
      rw [lcn_take h1]
      have : lcn [nd] = 1 := by rcases h2 with ⟨v, v1, rfl, -⟩ | ⟨k, v1, rfl, -⟩ | ⟨a', m, how, keep, pick, k, w, o, rfl, -⟩ | ⟨r, rfl, -⟩ <;> rfl
      omega
    · subst h1
      have := ih _ _ _ _ h2
      have := lcn_mono (nds := nds) 1 (j + 1)
      omega
    · subst h1
      have := ih _ _ _ _ h2
      have := ih _ _ _ _ h3
      have := lcn_mono (nds := nds) 1 (j + 1)
      omega
/-- the values of one of the states -/
def sv (z : Nat) (H : mj_H) (x row : Nat) (st : Nat → Int32) : Prop := ∃ (vr : Nat) (o1 o2 : Value) (V : Nat → Int32), H.1 x = some (.inr (2, [.ref vr, o1, o2])) ∧ (z + 22 ≤ x ∧ x ≤ z + 53) ∧ (z + 22 ≤ vr ∧ vr ≤ z + 53) ∧ IR H vr 390 V ∧ row < 65 ∧ ∀ k, k < 6 → V (row * 6 + k) = st k
theorem sv_fr {H G : mj_H} {x row : Nat} {st : Nat → Int32} (h : sv z H x row st) (e : ∀ q, z + 22 ≤ q → q ≤ z + 53 → G.1 q = H.1 q) : sv z G x row st := by
  obtain ⟨vr, o1, o2, V, h1, h2, h3, h4, h5⟩ := h
  exact ⟨vr, o1, o2, V, (e _ h2.1 h2.2).trans h1, h2, h3, IR_fr h4 (e _ h3.1 h3.2), h5⟩
theorem lyF_sv {D : List Nat} {H G : mj_H} (h : lyF z D H G) (hz : z + 107 ≤ H.2.1) : ∀ q, z + 22 ≤ q → q ≤ z + 53 → G.1 q = H.1 q := fun q h1 h2 => (h.1 q (by omega) (by omega) (by omega)).resolve_right (fun w => by omega)
/-- what laying an expression comes to -/
def lyR (z : Nat) (D : List Nat) (mo : Int32) (r : List Sp) (f : Nat) (ev : Option Sp) (H : mj_H) (x : Option (Int32 × mj_H)) : Prop := ∃ b G, x = some (b, G) ∧ lyF z D H G ∧ lyS z D G ∧ ((∃ L L', ev = some L ∧ b = 1 ∧ bst z G (L' :: r) mo ∧ eqv L' L ∧ gdS L' f) ∨ (ev = none ∧ b = 0 ∧ ∃ sp, bst z G sp mo ∧ sp.length ≤ 40 ∧ szS sp ≤ 4598))
theorem lyR_ok {D : List Nat} {r : List Sp} {f : Nat} {L : Sp} {H G : mj_H} {x : Option (Int32 × mj_H)} (e : x = some (1, G)) (h1 : lyF z D H G) (h2 : lyS z D G) (h3 : bst z G (L :: r) mo) (h4 : gdS L f) : lyR z D mo r f (some L) H x := ⟨1, G, e, h1, h2, Or.inl ⟨L, L, rfl, rfl, h3, eqv_refl, h4⟩⟩
theorem room_one {r : List Sp} {L : Sp} {f : Nat} (hg : gdA r) (hL : gdS L f) (hf : 1 ≤ f) (hp : ppS r * f ≤ 2147483648) (hn : r.length < 40) : gdA (L :: r) ∧ ppS (L :: r) ≤ 2147483648 ∧ szS (L :: r) ≤ 4572 := by
  have t := hL.2.2.2
  have g : gdA (L :: r) := fun l hl => by
    rcases List.mem_cons.mp hl with e | e
    · rw [e, t]; exact ⟨hL, hf⟩
    · exact hg l e
  have p : ppS (L :: r) ≤ 2147483648 := by
    show tot L * ppS r ≤ _
    rw [t, Nat.mul_comm]
    exact hp
  exact ⟨g, p, room_ok g p (by rw [List.length_cons]; omega)⟩
/-- faces laid on the bench -/
theorem C155_do (hN : 100000 ≤ N) {O : OR} {H : mj_H} {a rr x2 : Nat} {x3 : Int32} {fv : Value} {l : List Int32} {r : List Sp} (ha : z + 107 ≤ a) (hrr : z + 107 ≤ rr) (hd : H.1 a = some (.inr (9, [.ref rr, fv]))) (hl : H.1 rr = some (.inl (.int, l.map Value.int))) (h8 : l.length ≤ 8) (hb : bst z H r mo) (hn : r.length < 40) (hroom : szS (onS l :: r) ≤ 4598) : ∃ G, C155 xt ct O N a (z + 8) x2 x3 H = some (1, G) ∧ bst z G (onS l :: r) mo ∧ bfr z H G := by
  obtain ⟨H1, a1, a2, a3⟩ := bst_open (xt := xt) (ct := ct) (O := O) (N := N) hb hn
  have ol : ∀ l : List Int32, (onS l).length = l.length := fun l => by unfold onS; rw [List.length_map]
  have hroom' : (onS l).length + szS r ≤ 4598 := hroom
  rw [ol] at hroom'
  have key : ∀ (d s : Nat) (K : mj_H), s + d = l.length → bst z K (onS (l.take s) :: r) mo → bfr z H K → ∃ G, t_lp (B155_7 xt ct O N) (d + 1) (a, z + 8, Int32.ofNat s, K) = some (1, G) ∧ bst z G (onS l :: r) mo ∧ bfr z H G := by
    intro d
    induction d with
    | zero =>
      intro s K hs hK hf
      have dk := (hf.1 a (by omega)).trans hd
      have lk := (hf.1 rr (by omega)).trans hl
      have g0 : gA K a 9 0 = some rr := gA_of dk rfl
      have ln : aN xt K rr = some (Int32.ofNat l.length) := by rw [aN_of lk, List.length_map]
      have c := c_geT (a := s) (b := l.length) (by omega) (by omega) (by omega)
      refine ⟨K, t_end ?_ _, ?_, hf⟩
      · simp only [B155_7, g0, ln, c, cond_true, Option.bind_some]
      · rw [List.take_of_length_le (by omega)] at hK
        exact hK
    | succ d ih =>
      intro s K hs hK hf
      have dk := (hf.1 a (by omega)).trans hd
      have lk := (hf.1 rr (by omega)).trans hl
      have g0 : gA K a 9 0 = some rr := gA_of dk rfl
      have ln : aN xt K rr = some (Int32.ofNat l.length) := by rw [aN_of lk, List.length_map]
      have c := c_geF (a := s) (b := l.length) (by omega) (by omega) (by omega)
      have hs' : s < l.length := by omega
      have es : l[s]? = some l[s] := List.getElem?_eq_getElem hs'
      have av : aI xt K rr (Int32.ofNat s) = some l[s] := aI_of lk (by rw [i_nat (by omega)]; omega) (by rw [n_t (by omega), List.getElem?_map, es]; rfl)
      have k0 : gK K (z + 8) 3 = some () := gK_of hK.1
      have i1 : Int32.ofNat s + 1 = Int32.ofNat (s + 1) := i_inc (by omega)
      obtain ⟨K2, b1, b2, b3⟩ := bst_put (xt := xt) (ct := ct) (O := O) (N := N) (v := l[s]) (w := 1) hK hn (by show (onS (l.take s)).length + szS r < 4598; rw [ol, List.length_take]; omega)
      have b1' : C150 xt ct O N (z + 8) l[s] 1 K = some K2 := b1
      have st : B155_7 xt ct O N (a, z + 8, Int32.ofNat s, K) = some (.inl (a, z + 8, Int32.ofNat (s + 1), K2)) := by
        simp only [B155_7, g0, ln, c, cond_false, av, k0, b1', i1, Option.bind_some]
      rw [t_one st]
      refine ih (s + 1) K2 (by omega) ?_ (bfr_trans hf b3)
      have : onS (l.take (s + 1)) = onS (l.take s) ++ [(l[s], 1)] := by
        unfold onS
        rw [List.take_add_one, es, List.map_append]
        rfl
      rw [this]
      exact b2
  obtain ⟨G, b1, b2, b3⟩ := key l.length 0 H1 (by omega) a2 a3
  refine ⟨G, ?_, b2, b3⟩
  have k0 : gK H (z + 8) 3 = some () := gK_of hb.1
  simp only [C155, k0, a1, L155_7, Option.bind_some]
  exact t_lp_more _ _ _ (by omega) b1
theorem TT_ly {d : Nat} : (TT xt ct N (d + 1)).2.2.2.2.2.2 = CLy xt ct (TT xt ct N d) N := rfl
/-- an expression laid on the bench -/
theorem LY_do (hN : 100000 ≤ N) {D : List Nat} (hD : ∀ q ∈ D, z + 107 ≤ q) {A B x2 row : Nat} {nds : List Nd} {fcs : List Int32} {st : Nat → Int32} (hA : z + 107 ≤ A) (hst : ∀ k, k < 6 → inR (st k)) (hnl : nds.length ≤ 160) (hfc : fcs.length ≤ 160) : ∀ (n d lo i a f : Nat) (H : mj_H) (r : List Sp), n ≤ d → exT H A B nds fcs n lo i a f → B ≤ H.2.1 → bst z H r mo → gdA r → ppS r * f ≤ 2147483648 → r.length + lcn (nds.take (i + 1)) ≤ 40 + lcn (nds.take lo) → lyS z D H → sv z H x2 row st → lyR z D mo r f (evT nds fcs st n i) H ((TT xt ct N d).2.2.2.2.2.2 a (z + 8) x2 (Int32.ofNat row) H) := by
  intro n
  induction n with
  | zero => intro d lo i a f H r _ h; exact h.elim
  | succ n ih =>
    intro d lo i a f H r hd hx hB hb hg hp hlc hS hsv
    obtain ⟨d, rfl⟩ : ∃ e, d = e + 1 := ⟨d - 1, by omega⟩
    have pr1 := ppS_pos r (fun q hq => (hg q hq).2)
    have hf31 : f ≤ 2147483648 := Nat.le_trans (Nat.le_mul_of_pos_left _ pr1) hp
    obtain ⟨f1, fev⟩ := evT_gd hst hnl hfc (n + 1) lo i a f hx hf31
    have lc := exT_lc _ _ _ _ _ hx
    have hn : r.length < 40 := by omega
    have hz := hS.2.2.2
    have len : ∀ {i : Nat} {nd : Nd}, nds[i]? = some nd → i < 160 := fun h => Nat.lt_of_lt_of_le (List.getElem?_eq_some_iff.mp h).1 hnl
    have k0 : gK H (z + 8) 3 = some () := gK_of hb.1
    rw [TT_ly]
    obtain ⟨O, hO⟩ : ∃ O, TT xt ct N d = O := ⟨_, rfl⟩
    rw [hO]
    rcases hx with ⟨e, nd, b, l, h1, ⟨h01, h02, h2⟩, h3⟩ | ⟨j, x, h1, h01, h02, h2, h3, h4⟩ | ⟨j, m, x, y, g, h, c, h1, h01, h02, h2, h3, h4, h5, h6, h7⟩
    · rcases h2 with ⟨v, v1, rfl, -, v4, rfl⟩ | ⟨k, v1, rfl, -, v4, rfl⟩ | ⟨a', m, how, keep, pick, k, w, o, rfl, -, v4, v5⟩ | ⟨rr, rfl, l1, l2, v3, v4, v5, v6, rfl⟩
      · -- a number
        have ev : evT nds fcs st (n + 1) i = some [(Int32.ofNat v, 1)] := evT_0 h1
        obtain ⟨H1, a1, a2, a3⟩ := bst_open (xt := xt) (ct := ct) (O := O) (N := N) hb hn
        obtain ⟨-, -, rm⟩ := room_one hg (fev _ ev) f1 hp hn
        obtain ⟨H2, b1, b2, b3⟩ := bst_put (xt := xt) (ct := ct) (O := O) (N := N) (v := Int32.ofNat v) (w := 1) a2 hn (by have : 1 + szS r ≤ 4572 := rm; show 0 + szS r < 4598; omega)
        have b1' : C150 xt ct O N (z + 8) (Int32.ofNat v) 1 H1 = some H2 := b1
        have v4' : H1.1 a = some (.inr (7, [.int (-1000), .int (Int32.ofNat v), .long 1])) := (a3.1 a (by omega)).trans v4
        have c0 : mj_c2 .ne (-1000) (-1000) = false := by decide
        have kk : gK H1 (z + 8) 3 = some () := gK_of a2.1
        rw [ev]
        refine lyR_ok (G := H2) ?_ (lyF_b (bfr_trans a3 b3) hD) (lyS_b hS (bfr_trans a3 b3)) b2 (fev _ ev)
        simp only [CLy, gC_of v4, Option.bind_some]
        rw [if_neg (by decide), if_pos trivial]
        have ga0 : gI H1 a 7 0 = some (-1000) := gI_of v4' rfl
        have ga1 : gI H1 a 7 1 = some (Int32.ofNat v) := gI_of v4' rfl
        simp only [C153, k0, a1, ga0, ga1, c0, cond_false, J153_31, kk, b1', Option.bind_some]
      · -- a name
        have ev : evT nds fcs st (n + 1) i = some [(st k, 1)] := evT_1 v1 h1
        obtain ⟨H1, a1, a2, a3⟩ := bst_open (xt := xt) (ct := ct) (O := O) (N := N) hb hn
        obtain ⟨-, -, rm⟩ := room_one hg (fev _ ev) f1 hp hn
        obtain ⟨H2, b1, b2, b3⟩ := bst_put (xt := xt) (ct := ct) (O := O) (N := N) (v := st k) (w := 1) a2 hn (by have : 1 + szS r ≤ 4572 := rm; show 0 + szS r < 4598; omega)
        have b1' : C150 xt ct O N (z + 8) (st k) 1 H1 = some H2 := b1
        have v4' : H1.1 a = some (.inr (7, [.int (Int32.ofNat k), .int 0, .long 1])) := (a3.1 a (by omega)).trans v4
        have c0 : mj_c2 .ne (Int32.ofNat k) (-1000) = true := i_c2 (by
          show decide _ = true
          have q : (-1000 : Int32).toInt = -1000 := rfl
          apply decide_eq_true
          rw [i_nat (by omega), q]
          omega)
        have kk : gK H1 (z + 8) 3 = some () := gK_of a2.1
        obtain ⟨vr, o1, o2, V, s1, s2, s3, s4, s5, s6⟩ := sv_fr hsv (fun q q1 q2 => a3.1 q (by omega))
        have s7 : C154 xt ct O N x2 (Int32.ofNat row) (Int32.ofNat k) H1 = some (st k, H1) := by
          have i6 : Int32.ofNat row * 6 + Int32.ofNat k = Int32.ofNat (row * 6 + k) := by
            rw [show (6 : Int32) = Int32.ofNat 6 from rfl, n_mul, n_add]
          have av : aI xt H1 vr (Int32.ofNat (row * 6 + k)) = some (st k) := by rw [← s6 k v1]; exact IR_get s4 (by omega) (by omega)
          have gv : gA H1 x2 2 0 = some vr := gA_of s1 rfl
          simp only [C154, gv, i6, av, Option.bind_some]
        rw [ev]
        refine lyR_ok (G := H2) ?_ (lyF_b (bfr_trans a3 b3) hD) (lyS_b hS (bfr_trans a3 b3)) b2 (fev _ ev)
        simp only [CLy, gC_of v4, Option.bind_some]
        rw [if_neg (by decide), if_pos trivial]
        have ga0 : gI H1 a 7 0 = some (Int32.ofNat k) := gI_of v4' rfl
        simp only [C153, k0, a1, ga0, c0, cond_true, gK_of s1, s7, J153_31, kk, b1', Option.bind_some]
      · -- dice
        have ev : evT nds fcs st (n + 1) i = some (dcS (dW a' m pick k) 121) := evT_4 o h1
        obtain ⟨-, -, rm⟩ := room_one hg (fev _ ev) f1 hp hn
        obtain ⟨G, b1, b2, b3, b4⟩ := C142_do (xt := xt) (ct := ct) (O := O) (N := N) hN hD (x2 := x2) (x3 := Int32.ofNat row) (show z + 107 ≤ a by omega) (by omega) o v4 hS hb hn (by omega)
        rw [ev]
        refine lyR_ok (G := G) ?_ b3 b4 b2 (fev _ ev)
        simp only [CLy, gC_of v4, Option.bind_some]
        rw [if_neg (by decide), if_neg (by decide), if_pos trivial]
        exact b1
      · -- faces
        have b1 : b < 1000 := by
          have : (fcs[b + 0]?) = some l[0] := h3 0 _ (List.getElem?_eq_getElem (by omega))
          have := (List.getElem?_eq_some_iff.mp this).1
          omega
        have ev : evT nds fcs st (n + 1) i = some (onS l) := evT_5 b1 l1.2 h1 h3
        obtain ⟨-, -, rm⟩ := room_one hg (fev _ ev) f1 hp hn
        obtain ⟨G, e1, e2, e3⟩ := C155_do (xt := xt) (ct := ct) (O := O) (N := N) hN (x2 := x2) (x3 := Int32.ofNat row) (show z + 107 ≤ a by omega) (by omega) v5 v6 l1.2 hb hn (by omega)
        rw [ev]
        refine lyR_ok (G := G) ?_ (lyF_b e3 hD) (lyS_b hS e3) e2 (fev _ ev)
        simp only [CLy, gC_of v5, Option.bind_some]
        rw [if_neg (by decide), if_neg (by decide), if_neg (by decide), if_pos trivial]
        exact e1
    · -- minus
      subst h1
      have ev : evT nds fcs st (n + 1) (j + 1) = (evT nds fcs st n j).map ngS := evT_2 (by have := len h3; omega) h3
      obtain ⟨b, G, a1, a2, a3, a4⟩ := ih d lo j x f H r (by omega) h2 hB hb hg hp (by have := lcn_mono (nds := nds) 1 (j + 1); omega) hS hsv
      rw [hO] at a1
      have fin : ∀ K, C161 xt ct O N (z + 8) G = some K → bfr z G K → (b = 0 ∨ b = 1) → CLy xt ct O N a (z + 8) x2 (Int32.ofNat row) H = some (b, K) ∧ lyF z D H K ∧ lyS z D K := by
        intro K e1 e2 hb01
        refine ⟨?_, lyF_trans a2 (lyF_b e2 hD), lyS_b a3 e2⟩
        have nb : narrow .boolean (.int b) = .int b := by rcases hb01 with e | e <;> rw [e] <;> decide
        have kG : gK G (z + 8) 3 = some () := by
          rcases a4 with ⟨_, _, _, _, q, _⟩ | ⟨_, _, _, q, _⟩
          · exact gK_of q.1
          · exact gK_of q.1
        simp only [CLy, gC_of h4, Option.bind_some]
        rw [if_pos trivial]
        have gx : gA H a 6 0 = some x := gA_of h4 rfl
        simp only [C151, gx, a1, kG, e1, if_pos nb, Option.bind_some]
      rcases a4 with ⟨L, L', q1, q2, q3, q4, q5⟩ | ⟨q1, q2, sp, q3, q4, q5⟩
      · obtain ⟨-, -, rm⟩ := room_one hg q5 f1 hp hn
        obtain ⟨K, e1, e2, e3⟩ := bst_neg (xt := xt) (ct := ct) (O := O) (N := N) hN q3 hn (by omega)
        obtain ⟨c1, c2, c3⟩ := fin K e1 e3 (Or.inr q2)
        exact ⟨b, K, c1, c2, c3, Or.inl ⟨ngS L, ngS L', by rw [ev, q1]; rfl, q2, e2, ngS_eqv q4, ngS_gd q5⟩⟩
      · cases sp with
        | nil =>
          have g3 : gI G (z + 8) 3 3 = some 0 := gI_of q3.1 rfl
          have c : mj_c2 .ge 0 1 = false := by decide
          have e1 : C161 xt ct O N (z + 8) G = some G := by simp only [C161, g3, c, cond_false, Option.bind_some]
          obtain ⟨c1, c2, c3⟩ := fin G e1 bfr_refl (Or.inl q2)
          exact ⟨b, G, c1, c2, c3, Or.inr ⟨by rw [ev, q1]; rfl, q2, [], q3, q4, q5⟩⟩
        | cons t rs =>
          rw [List.length_cons] at q4
          obtain ⟨K, e1, e2, e3⟩ := bst_neg (xt := xt) (ct := ct) (O := O) (N := N) hN q3 (by omega) q5
          obtain ⟨c1, c2, c3⟩ := fin K e1 e3 (Or.inl q2)
          refine ⟨b, K, c1, c2, c3, Or.inr ⟨by rw [ev, q1]; rfl, q2, _, e2, by rw [List.length_cons]; omega, ?_⟩⟩
          show (ngS t).length + szS rs ≤ _
          have : (ngS t).length = t.length := by unfold ngS; rw [List.length_map]
          rw [this]
          exact q5
    · -- an operation
      subst h1
      have fl2 := exT_fal _ _ _ _ _ h2
      have fl3 := exT_fal _ _ _ _ _ h3
      have ev : evT nds fcs st (n + 1) (j + 1) = (evT nds fcs st n m).bind fun a => (evT nds fcs st n j).bind fun b => cmb c a b := evT_3 (by have := len h5; omega) (by omega) h4 h5
      have ef : f = g * h := by rw [h6]; exact prN_ok (by rw [← h6]; exact hf31)
      have lc2 := exT_lc _ _ _ _ _ h2
      have lc3 := exT_lc _ _ _ _ _ h3
      have lm := lcn_mono (nds := nds) 1 (j + 1)
      have e3 : ppS r * g * h = ppS r * f := by rw [ef, Nat.mul_assoc]
      have pg : ppS r * g ≤ 2147483648 := Nat.le_trans (Nat.le_mul_of_pos_right _ fl3.2.1.1) (by rw [e3]; exact hp)
      obtain ⟨b, G, a1, a2, a3, a4⟩ := ih d lo m x g H r (by omega) h2 hB hb hg pg (by omega) hS hsv
      rw [hO] at a1
      have cl : CLy xt ct O N a (z + 8) x2 (Int32.ofNat row) H = C152 xt ct O N a (z + 8) x2 (Int32.ofNat row) H := by
        simp only [CLy, gC_of h7, Option.bind_some]
        rw [if_neg (by decide), if_neg (by decide), if_neg (by decide), if_neg (by decide), if_pos trivial]
      have n0 : narrow .boolean (.int 0) = .int 0 := by decide
      have n1 : narrow .boolean (.int 1) = .int 1 := by decide
      have eq0 : mj_c1 .eq 0 = true := by decide
      have eq1 : mj_c1 .eq 1 = false := by decide
      rcases a4 with ⟨L, L', q1, q2, q3, q4, q5⟩ | ⟨q1, q2, sp, q3, q4, q5⟩
      · subst q2
        obtain ⟨gA1, gP1, -⟩ := room_one hg q5 fl2.2.1.1 pg hn
        have nG := a2.2.1
        have dm := lyF_dsm a2 hA hB
        have h7' := dsm_at dm h01 h02 h7 (by decide)
        obtain ⟨b2, G2, d1, d2, d3, d4⟩ := ih d (m + 1) j y h G (L' :: r) (by omega) (exT_dc dm _ _ _ _ _ h3) (by omega) q3 gA1 (by
          show tot L' * ppS r * h ≤ _
          rw [q5.2.2.2, Nat.mul_comm g, e3]
          exact hp) (by rw [List.length_cons]; omega) a3 (sv_fr hsv (lyF_sv a2 hz))
        rw [hO] at d1
        rcases d4 with ⟨M, M', s1, s2, s3, s4, s5⟩ | ⟨s1, s2, sp, s3, s4, s5⟩
        · subst s2
          have gA2 : gdA (M' :: L' :: r) := fun q hq => by
            rcases List.mem_cons.mp hq with e | e
            · rw [e, s5.2.2.2]; exact ⟨s5, fl3.2.1.1⟩
            · exact gA1 q e
          have pp : ppS (M' :: L' :: r) ≤ 2147483648 := by
            show tot M' * (tot L' * ppS r) ≤ _
            rw [s5.2.2.2, q5.2.2.2, Nat.mul_comm, Nat.mul_comm g, e3]
            exact hp
          obtain ⟨K, R, b3, u1, u2, u3, u4, u5⟩ := bst_cmb (xt := xt) (ct := ct) (O := O) (N := N) (c := c) hN s3 gA2 pp (by omega)
          have h7'' := dsm_at (lyF_dsm (lyF_trans a2 d2) hA hB) h01 h02 h7 (by decide)
          have gg := gA_of (n := 1) h7 rfl
          have gg2 := gA_of (n := 2) h7' rfl
          have gc : gI G2 a 10 0 = some c := gI_of h7'' rfl
          have kk : gK G2 (z + 8) 3 = some () := gK_of s3.1
          have cv : cmb c L M = if badW c L' M' = 0 then some (rowS (wAt c L M) 1999) else none := by
            rw [cmb_congr (fun f => (q4 f).symm) (fun f => (s4 f).symm)]
            unfold cmb
            have : wAt c L' M' = wAt c L M := by funext i; exact pW_congr q4 s4 _
            rw [this]
          by_cases bz : badW c L' M' = 0
          · obtain ⟨w1, w2, w3⟩ := u4 bz
            subst w1
            rw [if_pos bz] at cv
            refine ⟨1, K, ?_, lyF_trans a2 (lyF_trans d2 (lyF_b u3 hD)), lyS_b d3 u3, Or.inl ⟨_, R, by rw [ev, q1, s1]; exact cv, rfl, u2, fun φ => ?_, ?_⟩⟩
            · rw [cl]
              simp only [C152, gg, a1, eq1, cond_false, gg2, d1, gc, kk, u1, J152_42, if_pos n1, Option.bind_some]
            · have gL := fev _ (show evT nds fcs st (n + 1) (j + 1) = some (rowS (wAt c L M) 1999) by rw [ev, q1, s1]; exact cv)
              have bz' : badW c L M = 0 := by unfold badW; rw [← pW_congr q4 s4]; exact bz
              have pL : posS L := ((evT_gd hst hnl hfc n lo m x g h2 (by have := fl2.2.1; have : g ≤ f := by rw [ef]; exact Nat.le_mul_of_pos_right _ fl3.2.1.1
                                                                         omega)).2 L q1).1
              have pM : posS M := ((evT_gd hst hnl hfc n (m + 1) j y h h3 (by have : h ≤ f := by rw [ef]; exact Nat.le_mul_of_pos_left _ fl2.2.1.1
                                                                              omega)).2 M s1).1
              rw [w3, cmb_sum pL pM bz', pW_congr q4 s4]
            · rw [ef]
              rw [q5.2.2.2, s5.2.2.2] at w2
              exact w2
          · obtain ⟨w1, w2⟩ := u5 bz
            subst w1
            rw [if_neg bz] at cv
            refine ⟨0, K, ?_, lyF_trans a2 (lyF_trans d2 (lyF_b u3 hD)), lyS_b d3 u3, Or.inr ⟨by rw [ev, q1, s1]; exact cv, rfl, _, u2, by rw [List.length_cons]; omega, w2⟩⟩
            rw [cl]
            simp only [C152, gg, a1, eq1, cond_false, gg2, d1, gc, kk, u1, eq0, cond_true, J152_41, J152_42, if_pos n0, Option.bind_some]
        · subst s2
          refine ⟨0, G2, ?_, lyF_trans a2 d2, d3, Or.inr ⟨by rw [ev, q1, s1]; rfl, rfl, sp, s3, s4, s5⟩⟩
          have gg := gA_of (n := 1) h7 rfl
          have gg2 := gA_of (n := 2) h7' rfl
          rw [cl]
          simp only [C152, gg, a1, eq1, cond_false, gg2, d1, eq0, cond_true, J152_41, J152_42, if_pos n0, Option.bind_some]
      · subst q2
        refine ⟨0, G, ?_, a2, a3, Or.inr ⟨by rw [ev, q1]; rfl, rfl, sp, q3, q4, q5⟩⟩
        have gg := gA_of (n := 1) h7 rfl
        rw [cl]
        simp only [C152, gg, a1, eq0, cond_true, J152_41, J152_42, if_pos n0, Option.bind_some]
end LAY
