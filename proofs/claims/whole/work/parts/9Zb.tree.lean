/-! A TREE ON THE HEAP AND ITS NODES, in the order in which they were made (lo to i, the root last) -/
def exT (H : mj_H) (A B : Nat) (nds : List Nd) (fcs : List Int32) : Nat → Nat → Nat → Nat → Nat → Prop
  | 0, _, _, _, _ => False
  | n + 1, lo, i, a, f => (lo = i ∧ ∃ (nd : Nd) (b : Nat) (fl : List Int32), nds[i]? = some nd ∧ lfT H A B nd b fl a f ∧ ∀ (k : Nat) (x : Int32), fl[k]? = some x → fcs[b + k]? = some x) ∨ (∃ j x, i = j + 1 ∧ A ≤ a ∧ a < B ∧ exT H A B nds fcs n lo j x f ∧ nds[i]? = some (ngN j) ∧ H.1 a = some (.inr (6, [.ref x, .long (Int64.ofNat f)]))) ∨ (∃ j m x y g h c, i = j + 1 ∧ A ≤ a ∧ a < B ∧ exT H A B nds fcs n lo m x g ∧ exT H A B nds fcs n (m + 1) j y h ∧ bd c ≠ -1000 ∧ nds[i]? = some (opN c m j) ∧ f = prN g h ∧ H.1 a = some (.inr (10, [.int c, .ref x, .ref y, .long (Int64.ofNat f)])))
theorem lfT_mono {H G : mj_H} {A B A' B' b a f : Nat} {nd : Nd} {fl : List Int32} (h : lfT H A B nd b fl a f) (hA : A' ≤ A) (hB : B ≤ B') (hG : ∀ q, A ≤ q → q < B → G.1 q = H.1 q) : lfT G A' B' nd b fl a f := by
  obtain ⟨h1, h2, h3⟩ := h
  refine ⟨by omega, by omega, ?_⟩
  rcases h3 with ⟨v, c1, c2, c3, c4, c5⟩ | ⟨v, c1, c2, c3, c4, c5⟩ | ⟨n, m, how, keep, pick, k, w, c1, c2, c3, c4, c5⟩ | ⟨r, c1, c2, c3, c4, c5, c6, c7, c8⟩
  · exact Or.inl ⟨v, c1, c2, c3, (hG a h1 h2).trans c4, c5⟩
  · exact Or.inr (Or.inl ⟨v, c1, c2, c3, (hG a h1 h2).trans c4, c5⟩)
  · exact Or.inr (Or.inr (Or.inl ⟨n, m, how, keep, pick, k, w, c1, c2, c3, (hG a h1 h2).trans c4, c5⟩))
  · exact Or.inr (Or.inr (Or.inr ⟨r, c1, c2, c3, by omega, by omega, (hG a h1 h2).trans c6, (hG r c4 c5).trans c7, c8⟩))
theorem ap_g {α : Type} {l m : List α} {i : Nat} {x : α} (h : l[i]? = some x) : (l ++ m)[i]? = some x := by
  rw [List.getElem?_append_left (List.getElem?_eq_some_iff.mp h).1]
  exact h
theorem exT_mono {H G : mj_H} {A B A' B' : Nat} {nds nds' : List Nd} {fcs fcs' : List Int32} (hA : A' ≤ A) (hB : B ≤ B') (hG : ∀ q, A ≤ q → q < B → G.1 q = H.1 q) : ∀ (n n' lo i a f : Nat), n ≤ n' → exT H A B nds fcs n lo i a f → exT G A' B' (nds ++ nds') (fcs ++ fcs') n' lo i a f := by
  intro n
  induction n with
  | zero => intro n' lo i a f _ h; exact h.elim
  | succ n ih =>
    intro n' lo i a f hn h
    obtain ⟨n', rfl⟩ : ∃ k, n' = k + 1 := ⟨n' - 1, by omega⟩
    rcases h with ⟨e, nd, b, fl, h1, h2, h3⟩ | ⟨j, x, e, h1, h2, h3, h4, h5⟩ | ⟨j, m, x, y, g, h, c, e, h1, h2, h3, h4, h5, h6, h7, h8⟩
    · exact Or.inl ⟨e, nd, b, fl, ap_g h1, lfT_mono h2 hA hB hG, fun k x hx => ap_g (h3 k x hx)⟩
    · exact Or.inr (Or.inl ⟨j, x, e, by omega, by omega, ih n' _ _ _ _ (by omega) h3, ap_g h4, (hG a h1 h2).trans h5⟩)
    · exact Or.inr (Or.inr ⟨j, m, x, y, g, h, c, e, by omega, by omega, ih n' _ _ _ _ (by omega) h3, ih n' _ _ _ _ (by omega) h4, h5, ap_g h6, h7, (hG a h1 h2).trans h8⟩)
theorem exT_mono0 {H G : mj_H} {A B A' B' : Nat} {nds : List Nd} {fcs : List Int32} (hA : A' ≤ A) (hB : B ≤ B') (hG : ∀ q, A ≤ q → q < B → G.1 q = H.1 q) {n lo i a f : Nat} (h : exT H A B nds fcs n lo i a f) : exT G A' B' nds fcs n lo i a f := by
  have := exT_mono (nds' := []) (fcs' := []) hA hB hG n n lo i a f (Nat.le_refl _) h
  rw [List.append_nil, List.append_nil] at this
  exact this
theorem pwN_bd {m : Nat} (hm : 1 ≤ m) : ∀ (t acc : Nat), 1 ≤ acc → acc ≤ 2147483649 → 1 ≤ pwN m t acc ∧ pwN m t acc ≤ 2147483649 := by
  intro t
  induction t with
  | zero => intro acc h1 h2; exact ⟨h1, h2⟩
  | succ t ih =>
    intro acc h1 h2
    rw [pwN]
    exact ih _ (prN_pos h1 hm) prN_le
theorem lfT_fal {H : mj_H} {A B b a f : Nat} {nd : Nd} {fl : List Int32} (h : lfT H A B nd b fl a f) : fal H a f ∧ 1 ≤ f ∧ f ≤ 2147483649 := by
  obtain ⟨h1, h2, h3⟩ := h
  rcases h3 with ⟨v, c1, c2, c3, c4, rfl⟩ | ⟨v, c1, c2, c3, c4, rfl⟩ | ⟨n, m, how, keep, pick, k, w, c1, c2, c3, c4, c5⟩ | ⟨r, c1, c2, c3, c4, c5, c6, c7, rfl⟩
  · exact ⟨⟨7, 2, _, c4, rfl, rfl⟩, by decide, by decide⟩
  · exact ⟨⟨7, 2, _, c4, rfl, rfl⟩, by decide, by decide⟩
  · refine ⟨⟨8, 5, _, c4, rfl, rfl⟩, ?_⟩
    rw [c5]
    exact pwN_bd (by have := c1.2.1; omega) _ _ (by decide) (by decide)
  · exact ⟨⟨9, 1, _, c6, rfl, rfl⟩, by omega, by omega⟩
theorem exT_fal {H : mj_H} {A B : Nat} {nds : List Nd} {fcs : List Int32} : ∀ (n lo i a f : Nat), exT H A B nds fcs n lo i a f → fal H a f ∧ (1 ≤ f ∧ f ≤ 2147483649) ∧ lo ≤ i ∧ i < nds.length ∧ A ≤ a ∧ a < B := by
  intro n
  induction n with
  | zero => intro lo i a f h; exact h.elim
  | succ n ih =>
    intro lo i a f h
    rcases h with ⟨e, nd, b, fl, h1, h2, h3⟩ | ⟨j, x, e, h1, h2, h3, h4, h5⟩ | ⟨j, m, x, y, g, h, c, e, h1, h2, h3, h4, h5, h6, h7, h8⟩
    · have := lfT_fal h2
      exact ⟨this.1, this.2, by omega, (List.getElem?_eq_some_iff.mp h1).1, h2.1, h2.2.1⟩
    · have := ih _ _ _ _ h3
      exact ⟨⟨6, 1, _, h5, rfl, rfl⟩, this.2.1, by omega, (List.getElem?_eq_some_iff.mp h4).1, h1, h2⟩
    · have k1 := ih _ _ _ _ h3
      have k2 := ih _ _ _ _ h4
      refine ⟨⟨10, 3, _, h8, rfl, rfl⟩, ?_, by omega, (List.getElem?_eq_some_iff.mp h6).1, h1, h2⟩
      rw [h7]
      exact ⟨prN_pos k1.2.1.1 k2.2.1.1, prN_le⟩
