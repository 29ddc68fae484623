/-! READING LEAVES, THE CLASS -/
/-- the parser's row for faces -/
def fz (z : Nat) (H : mj_H) : Prop := ∃ fc : List Value, H.1 (z + 7) = some (.inl (.int, fc)) ∧ fc.length = 8 ∧ (fc.all (fun v => fits .int v)) = true
/-- if it is dice, they are among D, and their ways are not counted yet -/
def dcN (D : List Nat) (q : Nat) (e : Option mj_E) : Prop := ∀ l : List Value, e = some (.inr (8, l)) → l[4]? = some .null ∧ q ∈ D
def nDc (e : mj_E) : Prop := ∀ l : List Value, e ≠ .inr (8, l)
/-- what reading k characters does to the heap -/
def xfr (z : Nat) (H G : mj_H) (k : Nat) : Prop := (∀ q, q < H.2.1 → q ≠ z + 5 → q ≠ z + 7 → G.1 q = H.1 q) ∧ H.2.1 ≤ G.2.1 ∧ G.2.1 ≤ H.2.1 + k ∧ G.2.2 ≤ H.2.2 + 10 * k ∧ ∃ D : List Nat, 2 * D.length ≤ k ∧ ∀ q, H.2.1 ≤ q → q < G.2.1 → q ≠ z + 5 → q ≠ z + 7 → dcN D q (G.1 q)
/-- thrown, w the place -/
def rthr (z : Nat) (tx : List Int32) (w p : Nat) (H : mj_H) {α : Type} (x : Option ((α ⊕ Nat) × mj_H)) : Prop := ∃ (F : mj_H) (pt st lv : Nat), x = some (.inr F.2.1, mj_new F 6 (.inr (13, []))) ∧ pst z F tx pt st lv (Int32.ofNat w) ∧ fz z F ∧ p ≤ pt ∧ xfr z H F (pt - p)
def dcOK (n m : Nat) (how keep pick : Int32) (k : Nat) : Prop := (1 ≤ n ∧ n ≤ 6) ∧ (2 ≤ m ∧ m ≤ 20) ∧ ((how = 32 ∧ keep = 0 ∧ pick = 97 ∧ k = n) ∨ (how = 101 ∧ pick = 101 ∧ n = 1 ∧ (1 ≤ k ∧ k ≤ 3) ∧ keep = Int32.ofNat k) ∨ ((how = 104 ∨ how = 108) ∧ pick = how ∧ (1 ≤ k ∧ k ≤ n) ∧ keep = Int32.ofNat k))
/-- a leaf on the heap (from A to B) and its node; b: where its faces begin, fl: its faces -/
def lfT (H : mj_H) (A B : Nat) (nd : Nd) (b : Nat) (fl : List Int32) (a f : Nat) : Prop := A ≤ a ∧ a < B ∧ ((∃ v, v ≤ 999 ∧ nd = (0, Int32.ofNat v, 0, 0, 0, -1, -1) ∧ fl = [] ∧ H.1 a = some (.inr (7, [.int (-1000), .int (Int32.ofNat v), .long 1])) ∧ f = 1) ∨ (∃ k, k < 6 ∧ nd = (1, Int32.ofNat k, 0, 0, 0, -1, -1) ∧ fl = [] ∧ H.1 a = some (.inr (7, [.int (Int32.ofNat k), .int 0, .long 1])) ∧ f = 1) ∨ (∃ (n m : Nat) (how keep pick : Int32) (k : Nat) (w : Value), dcOK n m how keep pick k ∧ nd = (4, Int32.ofNat n, Int32.ofNat m, how, keep, -1, -1) ∧ fl = [] ∧ H.1 a = some (.inr (8, [.int (Int32.ofNat n), .int (Int32.ofNat m), .int pick, .int (Int32.ofNat k), w, .long (Int64.ofNat f)])) ∧ f = pwN m (if pick = 101 then k + 1 else n) 1) ∨ (∃ r, nd = (5, Int32.ofNat b, Int32.ofNat fl.length, 0, 0, -1, -1) ∧ (1 ≤ fl.length ∧ fl.length ≤ 8) ∧ (∀ x ∈ fl, 0 ≤ x.toInt ∧ x.toInt ≤ 999) ∧ A ≤ r ∧ r < B ∧ H.1 a = some (.inr (9, [.ref r, .long (Int64.ofNat fl.length)])) ∧ H.1 r = some (.inl (.int, fl.map Value.int)) ∧ f = fl.length))
theorem xfr_refl {z : Nat} {H : mj_H} {k : Nat} : xfr z H H k := ⟨fun _ _ _ _ => rfl, Nat.le_refl _, by omega, by omega, [], Nat.zero_le _, fun q h1 h2 _ _ => absurd h2 (by omega)⟩
theorem xfr_trans {z : Nat} {H G K : mj_H} {k l m : Nat} (x : xfr z H G k) (y : xfr z G K l) (h : k + l ≤ m) : xfr z H K m := by
  obtain ⟨x1, x2, x3, x4, D, x6, x5⟩ := x
  obtain ⟨y1, y2, y3, y4, E, y6, y5⟩ := y
  refine ⟨fun q h1 h2 h3 => (y1 q (by omega) h2 h3).trans (x1 q h1 h2 h3), by omega, by omega, by omega, D ++ E, by rw [List.length_append]; omega, fun q h1 h2 h3 h4 l hl => ?_⟩
  by_cases c : q < G.2.1
  · rw [y1 q c h3 h4] at hl
    have := x5 q h1 c h3 h4 l hl
    exact ⟨this.1, List.mem_append.mpr (Or.inl this.2)⟩
  · have := y5 q (by omega) h2 h3 h4 l hl
    exact ⟨this.1, List.mem_append.mpr (Or.inr this.2)⟩
theorem xfr_of {z : Nat} {H G : mj_H} {k : Nat} (h : ∀ q, q ≠ z + 5 → G.1 q = H.1 q) (h2 : G.2 = H.2) : xfr z H G k := ⟨fun q _ h3 _ => h q h3, by rw [h2]; exact Nat.le_refl _, by rw [h2]; omega, by rw [h2]; omega, [], Nat.zero_le _, fun q h1 h3 _ _ => by rw [h2] at h3; omega⟩
theorem xfr_new {z : Nat} {H : mj_H} {n k : Nat} {e : mj_E} (hn : n ≤ 10 * k) (hk : 1 ≤ k) (hd : nDc e := by intro l h; cases h) : xfr z H (mj_new H n e) k := by
  refine ⟨fun q h1 _ _ => ?_, by show H.2.1 ≤ H.2.1 + 1; omega, by show H.2.1 + 1 ≤ _; omega, by show H.2.2 + n ≤ _; omega, [], Nat.zero_le _, fun q h1 h2 _ _ l hl => ?_⟩
  · show (if q = H.2.1 then some e else H.1 q) = _
    rw [if_neg (by omega)]
  · have h3 : q < H.2.1 + 1 := h2
    have hl' : (if q = H.2.1 then some e else H.1 q) = some (.inr (8, l)) := hl
    rw [if_pos (by omega)] at hl'
    exact absurd (Option.some.inj hl') (hd l)
theorem xfr_newd {z : Nat} {H : mj_H} {n k : Nat} {l : List Value} (hn : n ≤ 10 * k) (hk : 2 ≤ k) (hd : l[4]? = some .null) : xfr z H (mj_new H n (.inr (8, l))) k := by
  refine ⟨fun q h1 _ _ => ?_, by show H.2.1 ≤ H.2.1 + 1; omega, by show H.2.1 + 1 ≤ _; omega, by show H.2.2 + n ≤ _; omega, [H.2.1], by show 2 * 1 ≤ k; omega, fun q h1 h2 _ _ l' hl => ?_⟩
  · show (if q = H.2.1 then _ else H.1 q) = _
    rw [if_neg (by omega)]
  · have h3 : q < H.2.1 + 1 := h2
    have hq : q = H.2.1 := by omega
    have hl' : (if q = H.2.1 then some (.inr (8, l)) else H.1 q) = some (.inr (8, l')) := hl
    rw [if_pos hq] at hl'
    cases hl'
    exact ⟨hd, by rw [hq]; exact List.mem_singleton.mpr rfl⟩
theorem xfr_put {z : Nat} {H G : mj_H} {k a : Nat} {e : mj_E} (x : xfr z H G k) (ha : H.2.1 ≤ a) (hd : nDc e := by intro l h; cases h) : xfr z H (mj_put G a e) k := by
  obtain ⟨x1, x2, x3, x4, D, x6, x5⟩ := x
  refine ⟨fun q h1 h2 h3 => (mj_put_ne (by omega)).trans (x1 q h1 h2 h3), x2, x3, x4, D, x6, fun q h1 h2 h3 h4 l hl => ?_⟩
  by_cases c : q = a
  · rw [c, mj_put_eq] at hl
    exact absurd (Option.some.inj hl) (hd l)
  · rw [mj_put_ne c] at hl
    exact x5 q h1 h2 h3 h4 l hl
theorem xfr_putd {z : Nat} {H G : mj_H} {k a : Nat} {l l0 : List Value} (x : xfr z H G k) (ha : H.2.1 ≤ a) (hb : a < G.2.1) (h0 : G.1 a = some (.inr (8, l0))) (hd : l[4]? = some .null) : xfr z H (mj_put G a (.inr (8, l))) k := by
  obtain ⟨x1, x2, x3, x4, D, x6, x5⟩ := x
  refine ⟨fun q h1 h2 h3 => (mj_put_ne (by omega)).trans (x1 q h1 h2 h3), x2, x3, x4, D, x6, fun q h1 h2 h3 h4 l' hl => ?_⟩
  by_cases c : q = a
  · rw [c, mj_put_eq] at hl
    cases hl
    exact ⟨hd, c ▸ (x5 q h1 h2 h3 h4 l0 (c ▸ h0)).2⟩
  · rw [mj_put_ne c] at hl
    exact x5 q h1 h2 h3 h4 l' hl
theorem fz_fr {z : Nat} {H G : mj_H} (h : fz z H) (e : G.1 (z + 7) = H.1 (z + 7)) : fz z G := by
  obtain ⟨fc, h1, h2⟩ := h
  exact ⟨fc, e.trans h1, h2⟩
section LFC
variable {xt : mj_X} {ct : Nat → Value} {O : OR} {N z : Nat} {tx : List Int32}
theorem pst_fr {H G : mj_H} {p st lv : Nat} {wp : Int32} (h : pst z H tx p st lv wp) (e5 : G.1 (z + 5) = H.1 (z + 5)) (e6 : G.1 (z + 6) = H.1 (z + 6)) (e7 : G.1 (z + 7) = H.1 (z + 7)) : pst z G tx p st lv wp := by
  obtain ⟨h1, ⟨cs, h2, h3⟩, ⟨fc, h5, h5'⟩, h6⟩ := h
  exact ⟨e5.trans h1, ⟨cs, e6.trans h2, h3⟩, ⟨fc, e7.trans h5, h5'⟩, h6⟩
theorem pst_new {H : mj_H} {p st lv n : Nat} {wp : Int32} {e : mj_E} (h : pst z H tx p st lv wp) (hz : z + 107 ≤ H.2.1) : pst z (mj_new H n e) tx p st lv wp := pst_fr h (mj_new_ne (by omega)) (mj_new_ne (by omega)) (mj_new_ne (by omega))
theorem pst_put {H : mj_H} {p st lv a : Nat} {wp : Int32} {e : mj_E} (h : pst z H tx p st lv wp) (ha : z + 107 ≤ a) : pst z (mj_put H a e) tx p st lv wp := pst_fr h (mj_put_ne (by omega)) (mj_put_ne (by omega)) (mj_put_ne (by omega))
/-- number, in the plain function's words -/
theorem C99_r (hN : 2000 ≤ N) {H : mj_H} {p st lv : Nat} {wp lo hi : Int32} (h : pst z H tx p st lv wp) (hf : fz z H) : (∀ q, rNum tx p lo hi = .inr q → ∃ G, C99 xt ct O N (z + 5) lo hi H = some (.inl (Int32.ofNat q.2), G) ∧ pst z G tx q.1 st lv wp ∧ fz z G ∧ (∀ q, q ≠ z + 5 → G.1 q = H.1 q) ∧ G.2 = H.2) ∧ (∀ w, rNum tx p lo hi = .inl w → rthr z tx w p H (C99 xt ct O N (z + 5) lo hi H)) := by
  obtain ⟨G, a1, a2, a3, a4⟩ := C99_do (xt := xt) (ct := ct) (O := O) (N := N) (lo := lo) (hi := hi) hN h
  constructor
  · intro q hq
    obtain ⟨rfl, o⟩ := rNum_ok hq
    rcases a4 with ⟨-, b2⟩ | ⟨b1, -⟩
    · exact ⟨G, b2, a1, fz_fr hf (a2 _ (by omega)), a2, a3⟩
    · exact absurd o b1
  · intro w hw
    obtain ⟨rfl, o⟩ := rNum_no hw
    rcases a4 with ⟨b1, -⟩ | ⟨-, F, b2, b3, b4, b5⟩
    · exact absurd b1 o
    · have := scn_end (tx := tx) (tx.length - w) w 0 (by have := h.2.2.2.2; omega)
      exact ⟨F, _, st, lv, by rw [b5]; exact b2, b3, fz_fr hf ((b4 _ (by omega)).trans (a2 _ (by omega))), this.2, xfr_of (fun q hq => (b4 q hq).trans (a2 q hq)) (b5.trans a3)⟩
theorem rthr_fr {α : Type} {H G : mj_H} {w p p' : Nat} {x : Option ((α ⊕ Nat) × mj_H)} {k : Nat} (h : rthr z tx w p' G x) (hx : xfr z H G k) (hk : p + k ≤ p') : rthr z tx w p H x := by
  obtain ⟨F, pt, st, lv, a1, a2, a3, a4, a5⟩ := h
  exact ⟨F, pt, st, lv, a1, a2, a3, by omega, xfr_trans hx a5 (by omega)⟩
theorem rthr_tc {α β : Type} {H : mj_H} {w p : Nat} {x : Option ((α ⊕ Nat) × mj_H)} (h : rthr z tx w p H x) {f : (α ⊕ Nat) × mj_H → α → Option ((β ⊕ Nat) × mj_H)} : rthr z tx w p H (x.bind fun r => tc (fun q => q) r (f r)) := by
  obtain ⟨F, pt, st, lv, a1, a2⟩ := h
  rw [a1]
  exact ⟨F, pt, st, lv, rfl, a2⟩
/-- a character that must be there -/
theorem C94_r {H : mj_H} {p st lv : Nat} {wp c : Int32} (h : pst z H tx p st lv wp) (hf : fz z H) (hc : c ≠ 0) : (pk tx p = c → ∃ G, C94 xt ct O N (z + 5) c H = some (.inl (), G) ∧ pst z G tx (p + 1) st lv wp ∧ fz z G ∧ (∀ q, q ≠ z + 5 → G.1 q = H.1 q) ∧ G.2 = H.2) ∧ (pk tx p ≠ c → rthr z tx p p H (C94 xt ct O N (z + 5) c H)) := by
  rcases C94_do (xt := xt) (ct := ct) (O := O) (N := N) h hc with ⟨a1, a2, G, a3, a4, a5, a6⟩ | ⟨a1, F, b2, b3, b4, b5⟩
  · exact ⟨fun _ => ⟨G, a3, a4, fz_fr hf (a5 _ (by omega)), a5, a6⟩, fun q => absurd a1 q⟩
  · exact ⟨fun q => absurd q a1, fun _ => ⟨F, p, st, lv, by rw [b5]; exact b2, b3, fz_fr hf (b4 _ (by omega)), Nat.le_refl _, xfr_of b4 b5⟩⟩
/-- a demand that is not met -/
theorem C87_r {H : mj_H} {p st lv : Nat} {wp : Int32} (h : pst z H tx p st lv wp) (hf : fz z H) (w : Nat) : rthr z tx w p H (C87 xt ct O N (z + 5) 0 (Int32.ofNat w) H) := by
  obtain ⟨G, a1, a2, a3, a4⟩ := C87_no (xt := xt) (ct := ct) (O := O) (N := N) h (Int32.ofNat w)
  exact ⟨G, p, st, lv, by rw [a4]; exact a1, a2, fz_fr hf (a3 _ (by omega)), Nat.le_refl _, xfr_of a3 a4⟩
end LFC
