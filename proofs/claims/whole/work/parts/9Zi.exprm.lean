section EXO
variable {N : Nat} {tx : List Int32} {x1 : Int32}
/-- an operand -/
def OPc (N : Nat) (tx : List Int32) (x1 : Int32) (n : Nat) : Prop := ∀ (d : Nat) (r : Rd) (D : List Nat) (K : Ks) (sn : Int32) (S : mS), xmu 4 d < n → tbc K ≤ d → rf tx S r D K d sn → (∀ w, rX tx n 4 d r = .inl w → ∃ S', RA N x1 r.1 S (0, S') ∧ S'.1 3 = Int32.ofNat w ∧ pfx S S') ∧ (∀ q, rX tx n 4 d r = .inr q → ∃ S', rf tx S' (q.1, q.2.1, tbN K q.2.2.1, q.2.2.2) (D ++ [(tbN K q.2.2.1).length - 1]) (tbK K) (d - tbc K) sn ∧ pf S S' ∧ ∀ res, RS N x1 q.1 S' res → RA N x1 r.1 S res)
/-- an expression whose operations bind at least so tightly as b -/
def EXc (N : Nat) (tx : List Int32) (x1 : Int32) (n b : Nat) : Prop := ∀ (d : Nat) (r : Rd) (D : List Nat) (K : Ks) (sn : Int32) (S : mS), xmu b d < n → okK b K → (b = 0 → sn = 0) → rf tx S r D K d sn → (∀ w, rX tx n b d r = .inl w → ∃ S', RA N x1 r.1 S (0, S') ∧ S'.1 3 = Int32.ofNat w ∧ pfx S S') ∧ (∀ q, rX tx n b d r = .inr q → ∃ S' sn', pend tx b S' q D K d sn' ∧ (1 ≤ b → sn' = sn) ∧ nxOK b sn' (pk tx q.1) ∧ pf S S' ∧ ∀ res, RS N x1 q.1 S' res → RA N x1 r.1 S res)
theorem okK_mono {b b' : Nat} {K : Ks} (h : okK b K) (hb : b ≤ b') : okK b' K := fun k hk => (h k hk).elim Or.inl (fun q => Or.inr ⟨q.1, by omega⟩)
theorem okK_tb {b : Nat} {K : Ks} (h : okK b K) (nds : List Nd) : tbK K = K ∧ tbN K nds = nds ∧ tbc K = 0 := by
  cases K with
  | nil => exact ⟨rfl, rfl, rfl⟩
  | cons k K =>
    have : k.1 ≠ 21 := by
      rcases h k rfl with q | ⟨q, -⟩
      · rw [q]; decide
      · intro e
        rw [e] at q
        exact absurd q (by unfold isOp; decide)
    exact ⟨by rw [tbK, if_neg this], by rw [tbN, if_neg this], by rw [tbc, if_neg this]⟩
theorem nx_up {b : Nat} {sn c : Int32} (hb : b < 3) (h : nxOK (b + 1) sn c) (hc : bd c ≠ Int32.ofNat b ∨ (b = 0 ∧ sn = 1)) : nxOK b sn c := by
  obtain ⟨h1, h2, h3⟩ := h
  have e : b = 0 ∨ b = 1 ∨ b = 2 := by omega
  rcases e with rfl | rfl | rfl
  · refine ⟨fun _ => h1 (by omega), fun _ => h2 (by omega), fun _ => ?_⟩
    rcases hc with q | q
    · exact Or.inl q
    · exact Or.inr q.2
  · refine ⟨fun _ => h1 (by omega), fun _ => ?_, fun q => absurd q (by omega)⟩
    rcases hc with q | q
    · exact q
    · exact absurd q.1 (by omega)
  · refine ⟨fun _ => ?_, fun q => absurd q (by omega), fun q => absurd q (by omega)⟩
    rcases hc with q | q
    · exact q
    · exact absurd q.1 (by omega)
/-- operations of one binding -/
theorem LP_do (hN : 2000 ≤ N) {n b d : Nat} (hb : b < 3) (hmu : xmu (b + 1) d < n) (hE : EXc N tx x1 n (b + 1)) {D : List Nat} {K : Ks} (hK : okK b K) {sn0 : Int32} : ∀ (m : Nat) (r : Rd) (sn : Int32) (S : mS), pend tx b S r D K d sn → (1 ≤ b → sn = sn0) → nxOK (b + 1) sn (pk tx r.1) → (1 ≤ b → 41 ≤ m + r.2.1) → (b = 0 → (m = 1 ∧ sn = 0) ∨ (m = 0 ∧ sn = 1)) → (∀ w, rLp tx b (rX tx n (b + 1) d) m r = .inl w → ∃ S', RS N x1 r.1 S (0, S') ∧ S'.1 3 = Int32.ofNat w ∧ pfx S S') ∧ (∀ q, rLp tx b (rX tx n (b + 1) d) m r = .inr q → ∃ S' sn', pend tx b S' q D K d sn' ∧ (1 ≤ b → sn' = sn0) ∧ nxOK b sn' (pk tx q.1) ∧ pf S S' ∧ ∀ res, RS N x1 q.1 S' res → RS N x1 r.1 S res) := by
  intro m
  induction m with
  | zero =>
    intro r sn S h hs hx hm1 hm0
    obtain ⟨m1, m2, m3, m4⟩ := pend_st h
    have hb0 : b = 0 := by
      rcases Nat.eq_zero_or_pos b with q | q
      · exact q
      · have := hm1 q
        omega
    refine ⟨fun w hw => (by cases hw), fun q hq => ?_⟩
    cases hq
    refine ⟨S, sn, h, hs, nx_up hb hx (Or.inr ⟨hb0, ?_⟩), pf_refl, fun res k => k⟩
    rcases hm0 hb0 with q | q
    · exact absurd q.1 (by omega)
    · exact q.2
  | succ m ih =>
    intro r sn S h hs hx hm1 hm0
    obtain ⟨m1, m2, m3, m4⟩ := pend_st h
    have hl := m1.1.2.1
    have hp := m1.2.2
    by_cases hc : bd (pk tx r.1) = Int32.ofNat b
    · have sn00 : b = 0 → sn = 0 := fun q => by
        rcases hm0 q with k | k
        · exact k.2
        · exact absurd k.1 (by omega)
      obtain ⟨S1, sn1, a1, a2, a3, a4, a5, a6⟩ := sign_do hN h hb hK hc sn00
      obtain ⟨o1, o2⟩ := sg_of hb hc
      obtain ⟨e1, e2⟩ := hE d (r.1 + 1, r.2) (D ++ [r.2.2.1.length - 1]) ((sg (pk tx r.1), sn1) :: K) sn1 S1 hmu (fun k hk => by cases hk; exact Or.inr ⟨o1, by dsimp only; omega⟩) (fun q => absurd q (by omega)) a3
      rw [rLp, if_pos hc]
      cases es : rX tx n (b + 1) d (r.1 + 1, r.2) with
      | inl w =>
        refine ⟨fun w' hw => ?_, fun q hq => (by cases hq)⟩
        cases hw
        obtain ⟨S', b1, b2, b3⟩ := e1 w es
        exact ⟨S', RS_sign hN (by omega) a1 a2 b1, b2, pfx_trans a6 b3⟩
      | inr q =>
        dsimp only
        obtain ⟨S2, sn2, c1, c2, c3, c4, c5⟩ := e2 q es
        have c2' := c2 (by omega)
        have lq := rX_ok n (b + 1) d (r.1 + 1, r.2) q a3.1.2.2 m4 es
        have lq2 := lq.2.2.2
        dsimp only at lq2
        -- one more operation waits
        have p2 : pend tx b S2 (q.1, q.2.1, q.2.2.1 ++ [opN (pk tx r.1) (r.2.2.1.length - 1) (q.2.2.1.length - 1)], q.2.2.2) D K d sn2 := by
          obtain ⟨P, xs, nds0, f1, f2, f3, f4, f5, f6⟩ := c1
          refine ⟨P ++ [(sg (pk tx r.1), sn1)], xs ++ [r.2.2.1.length - 1], nds0, ?_, ?_, ?_, ?_, f5, ?_⟩
          · rw [List.reverse_append, List.append_assoc]
            rw [List.append_assoc] at f1
            exact f1
          · intro k hk
            rcases List.mem_append.mp hk with k1 | k1
            · have := f2 k k1
              exact ⟨this.1, by omega⟩
            · rw [List.mem_singleton] at k1
              rw [k1]
              exact ⟨o1, by dsimp only; omega⟩
          · rw [List.length_append, List.length_append, List.length_singleton, List.length_singleton, f3]
          · cases xs with
            | nil => cases f4
            | cons y ys => exact f4
          · rw [clN_snoc P xs nds0 f3 f4 f5, f6]
            rfl
        obtain ⟨i1, i2⟩ := ih (q.1, q.2.1, q.2.2.1 ++ [opN (pk tx r.1) (r.2.2.1.length - 1) (q.2.2.1.length - 1)], q.2.2.2) sn2 S2 p2 (fun k => by rw [c2', a4 k]; exact hs k) (by rw [c2'] at c3 ⊢; exact c3) (fun k => by have := hm1 k; dsimp only; omega) (fun k => Or.inr ⟨by rcases hm0 k with z | z <;> omega, by rw [c2']; exact a5 k⟩)
        refine ⟨fun w hw => ?_, fun q' hq => ?_⟩
        · obtain ⟨S', b1, b2, b3⟩ := i1 w hw
          exact ⟨S', RS_sign hN (by omega) a1 a2 (c5 _ b1), b2, pfx_trans a6 (pfx_trans c4 b3)⟩
        · obtain ⟨S', sn', b1, b2, b3, b4, b5⟩ := i2 q' hq
          exact ⟨S', sn', b1, b2, b3, pf_trans a6 (pf_trans c4 b4), fun res k => RS_sign hN (by omega) a1 a2 (c5 _ (b5 res k))⟩
    · rw [rLp, if_neg hc]
      refine ⟨fun w hw => (by cases hw), fun q hq => ?_⟩
      cases hq
      exact ⟨S, sn, h, hs, nx_up hb hx (Or.inl hc), pf_refl, fun res k => k⟩
theorem RX_do (hN : 2000 ≤ N) : ∀ n, OPc N tx x1 n ∧ ∀ b, b ≤ 3 → EXc N tx x1 n b := by
  intro n
  induction n with
  | zero => exact ⟨fun d r D K sn S h => absurd h (by omega), fun b _ d r D K sn S h => absurd h (by omega)⟩
  | succ n ih =>
    obtain ⟨ihO, ihE⟩ := ih
    constructor
    · intro d r D K sn S hmu hd h
      have hl := h.1.1.2.1
      have hp := h.1.2.2
      rw [rX, if_neg (by decide), if_neg (by decide)]
      by_cases k45 : pk tx r.1 = 45
      · rw [if_pos k45]
        obtain ⟨y1, y2⟩ := push_do hN h (Or.inl k45)
        by_cases h5 : d < 5
        · rw [if_pos h5]
          obtain ⟨S1, a1, a2, a3, -⟩ := y1 h5
          have hlt := pkz_is k45 (by decide)
          have ec : tbc ((21, sn) :: K) = tbc K + 1 := by rw [tbc, if_pos rfl]
          have eK : tbK ((21, sn) :: K) = tbK K := by rw [tbK, if_pos rfl]
          obtain ⟨e1, e2⟩ := ihO (d + 1) (r.1 + 1, r.2) D ((21, sn) :: K) sn S1 (by unfold xmu at hmu ⊢; omega) (by omega) (a3 k45)
          cases es : rX tx n 4 (d + 1) (r.1 + 1, r.2) with
          | inl w =>
            refine ⟨fun w' hw => ?_, fun q hq => (by cases hq)⟩
            cases hw
            obtain ⟨S', b1, b2, b3⟩ := e1 w es
            exact ⟨S', RA_push (by omega) a1 b1, b2, pfx_trans a2 b3⟩
          | inr q =>
            refine ⟨fun w hw => (by cases hw), fun q' hq => ?_⟩
            cases hq
            obtain ⟨S', b1, b2, b3⟩ := e2 q es
            rw [ec, eK, show d + 1 - (tbc K + 1) = d - tbc K by omega, show tbN ((21, sn) :: K) q.2.2.1 = tbN K (q.2.2.1 ++ [ngN (q.2.2.1.length - 1)]) by rw [tbN, if_pos rfl]] at b1
            exact ⟨S', b1, pf_trans a2 b2, fun res k => RA_push (by omega) a1 (b3 res k)⟩
        · rw [if_neg h5]
          refine ⟨fun w hw => ?_, fun q hq => (by cases hq)⟩
          cases hw
          obtain ⟨S', b1, b2, b3⟩ := y2 h5
          exact ⟨S', RA_fail (by omega) b1, b2, b3⟩
      · rw [if_neg k45]
        by_cases k40 : pk tx r.1 = 40
        · rw [if_pos k40]
          obtain ⟨y1, y2⟩ := push_do hN h (Or.inr k40)
          by_cases h5 : d < 5
          · rw [if_pos h5]
            obtain ⟨S1, a1, a2, -, a3⟩ := y1 h5
            have hlt := pkz_is k40 (by decide)
            obtain ⟨e1, e2⟩ := ihE 0 (by decide) (d + 1) (r.1 + 1, r.2) D ((20, sn) :: K) 0 S1 (by unfold xmu at hmu ⊢; omega) (fun k hk => by cases hk; exact Or.inl rfl) (fun _ => rfl) (a3 k40)
            cases es : rX tx n 0 (d + 1) (r.1 + 1, r.2) with
            | inl w =>
              refine ⟨fun w' hw => ?_, fun q hq => (by cases hq)⟩
              cases hw
              obtain ⟨S', b1, b2, b3⟩ := e1 w es
              exact ⟨S', RA_push (by omega) a1 b1, b2, pfx_trans a2 b3⟩
            | inr q =>
              dsimp only
              obtain ⟨S2, sn2, c1, c2, c3, c4, c5⟩ := e2 q es
              have hq2 := (pend_st c1).1.2.2
              obtain ⟨z1, z2⟩ := brk_do hN c1 c3 hd
              by_cases h41 : pk tx q.1 = 41
              · rw [if_pos h41]
                refine ⟨fun w hw => (by cases hw), fun q' hq => ?_⟩
                cases hq
                obtain ⟨S3, b1, b2, b3⟩ := z1 h41
                exact ⟨S3, b2, pf_trans a2 (pf_trans c4 b3), fun res k => RA_push (by omega) a1 (c5 _ (RS_close (by omega) b1 k))⟩
              · rw [if_neg h41]
                refine ⟨fun w hw => ?_, fun q' hq => (by cases hq)⟩
                cases hw
                obtain ⟨S3, b1, b2, b3⟩ := z2 h41
                exact ⟨S3, RA_push (by omega) a1 (c5 _ (RS_fail (by omega) b1)), b2, pfx_trans a2 (pfx_trans c4 b3)⟩
          · rw [if_neg h5]
            refine ⟨fun w hw => ?_, fun q hq => (by cases hq)⟩
            cases hw
            obtain ⟨S', b1, b2, b3⟩ := y2 h5
            exact ⟨S', RA_fail (by omega) b1, b2, b3⟩
        · rw [if_neg k40]
          obtain ⟨y1, y2⟩ := item_do hN h k45 k40 hd
          cases es : rIt tx r.1 r.2.1 r.2.2.2.length with
          | inl w =>
            refine ⟨fun w' hw => ?_, fun q hq => (by cases hq)⟩
            cases hw
            obtain ⟨S', b1, b2, b3⟩ := y1 w es
            exact ⟨S', RA_fail (by omega) b1, b2, b3⟩
          | inr q =>
            refine ⟨fun w hw => (by cases hw), fun q' hq => ?_⟩
            cases hq
            obtain ⟨S', b1, b2, b3⟩ := y2 q es
            have := (rIt_ok h.2.2.2.2.2.2.2.1 es).1.1
            dsimp only at this
            exact ⟨S', b3, b2, fun res k => RA_item hN (by omega) this b1 k⟩
    · intro b hb d r D K sn S hmu hK hs h
      have hl := h.1.1.2.1
      have hp := h.1.2.2
      have h40 := h.2.2.2.2.2.2.2.1
      rw [rX]
      by_cases hb3 : b < 3
      · rw [if_pos hb3]
        have m1 : xmu (b + 1) d < n := by unfold xmu at hmu ⊢; omega
        obtain ⟨e1, e2⟩ := ihE (b + 1) (by omega) d r D K sn S m1 (okK_mono hK (by omega)) (fun q => absurd q (by omega)) h
        cases es : rX tx n (b + 1) d r with
        | inl w =>
          refine ⟨fun w' hw => ?_, fun q hq => (by cases hq)⟩
          cases hw
          exact e1 w es
        | inr q =>
          dsimp only
          obtain ⟨S1, sn1, c1, c2, c3, c4, c5⟩ := e2 q es
          have c2' := c2 (by omega)
          have lq := rX_ok n (b + 1) d r q hp h40 es
          have lq2 := lq.2.2.2
          obtain ⟨i1, i2⟩ := LP_do (x1 := x1) hN hb3 m1 (ihE (b + 1) (by omega)) hK (sn0 := sn) (if b = 0 then 1 else 40) q sn1 S1 (pend_mono c1 (by omega)) (fun _ => c2') c3 (fun k => by rw [if_neg (by omega)]; omega) (fun k => Or.inl ⟨by rw [if_pos k], by rw [c2']; exact hs k⟩)
          refine ⟨fun w hw => ?_, fun q' hq => ?_⟩
          · obtain ⟨S', b1, b2, b3⟩ := i1 w hw
            exact ⟨S', c5 _ b1, b2, pfx_trans c4 b3⟩
          · obtain ⟨S', sn', b1, b2, b3, b4, b5⟩ := i2 q' hq
            exact ⟨S', sn', b1, b2, b3, pf_trans c4 b4, fun res k => c5 _ (b5 res k)⟩
      · have b3 : b = 3 := by omega
        subst b3
        rw [if_neg hb3, if_pos rfl]
        have t0 := (okK_tb hK []).2.2
        obtain ⟨e1, e2⟩ := ihO d r D K sn S (by unfold xmu at hmu ⊢; omega) (by omega) h
        refine ⟨e1, fun q hq => ?_⟩
        obtain ⟨S', b1, b2, b3⟩ := e2 q hq
        obtain ⟨t1, t2, t3⟩ := okK_tb hK q.2.2.1
        rw [t1, t2, t3, Nat.sub_zero] at b1
        have lq := rX_ok n 4 d r q hp h40 hq
        refine ⟨S', sn, ⟨[], [q.2.2.1.length - 1], q.2.2.1, b1, fun k hk => absurd hk List.not_mem_nil, rfl, rfl, by have := lq.2.2.1; omega, rfl⟩, fun _ => rfl, ⟨fun q => absurd q (by omega), fun q => absurd q (by omega), fun q => absurd q (by omega)⟩, b2, b3⟩
end EXO
