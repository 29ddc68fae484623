/-! ONE CALL ON FRESH OBJECTS: paths, each a run with symbols that the kernel does -/
def p1_chk (T : ms_T) (C : ms_C) (S : List Value) : Bool := match ms_x T C kZ (xt0 S) ct0 30000 20 300 23 kLoc [] hT with
  | some (.inl (some (.int v)), h) => decide (v = 1) && (decide (h.2.1 ≤ 1000) && decide (h.2.2 ≤ 100000))
  | _ => false
/-- what is wanted of the pure machine -/
def p1_G (b base : Nat) (xt : mj_X) (ct : Nat → Value) : Prop := ∃ (f : Nat) (h : mj_H), mj_x kY xt ct f 1000 300 0 [(0, .ref b)] [] (k_h0 base) = some (.inl (some (.int 1)), h) ∧ h.2.1 ≤ base + 600002 ∧ h.2.2 ≤ 7302232
theorem kdf_n : ∀ l ∈ kdf, ∀ v ∈ l, v = .int 0 ∨ v = .long 0 ∨ v = .null := by decide +kernel
theorem kT_nf : ∀ e ∈ kT, 1 ≤ e.1 ∧ (match e.2 with | .inl r => r.1 ≠ .float ∧ r.1 ≠ .double | .inr _ => True) := by
  intro e he
  have h1 : kT.all (fun e => decide (1 ≤ e.1) && (match e.2 with | .inl r => decide (r.1 ≠ .float ∧ r.1 ≠ .double) | .inr _ => true)) = true := by decide +kernel
  have := List.all_eq_true.mp h1 e he
  simp only [Bool.and_eq_true, decide_eq_true_eq] at this
  refine ⟨this.1, ?_⟩
  have h2 := this.2
  split at h2
  · rename_i r hr
    exact of_decide_eq_true h2
  · trivial
theorem mj_lkE {l : List (Nat × mj_E)} {a : Nat} {e : mj_E} (h : l.lookup a = some e) : (a, e) ∈ l := by
  induction l with
  | nil => cases h
  | cons q r ih =>
    obtain ⟨x, y⟩ := q
    rw [List.lookup_cons] at h
    cases e1 : a == x with
    | true =>
      rw [e1] at h
      have e2 : a = x := by simpa using e1
      subst e2
      cases h
      exact List.mem_cons_self
    | false =>
      rw [e1] at h
      exact List.mem_cons_of_mem _ (ih h)
theorem p1_df {b base : Nat} {ri : Nat → Int32} {rj : Nat → Int64} {k idx : Nat} {q : Nat × Nat × List Value} (hq : ky_nw k idx = some q) : me_s b base ri rj q.2.2 = q.2.2 := by
  unfold ky_nw at hq
  obtain ⟨w, hw, rfl⟩ := Option.map_eq_some_iff.mp hq
  show (kdf.getD w.1 []).map (me_v b base ri rj) = kdf.getD w.1 []
  have hall : ∀ v ∈ kdf.getD w.1 [], me_v b base ri rj v = v := by
    intro v hv
    by_cases hlt : w.1 < kdf.length
    · rw [List.getD_eq_getElem?_getD, List.getElem?_eq_getElem hlt] at hv
      rcases kdf_n _ (List.getElem_mem hlt) v hv with rfl | rfl | rfl <;> rfl
    · rw [List.getD_eq_getElem?_getD, List.getElem?_eq_none (by omega)] at hv
      cases hv
  conv => rhs; rw [← List.map_id (kdf.getD w.1 [])]
  exact List.map_congr_left fun v hv => hall v hv
theorem p1_sc {b base : Nat} {ri : Nat → Int32} {rj : Nat → Int64} {ct : Nat → Value} (h0 : ct 0 = .int 1) : ∀ k idx m, sc0 k idx = some m → ky_sc k idx = some m ∧ ct m = me_v b base ri rj (ct0 m) := by
  intro k idx m hm
  unfold sc0 at hm
  split at hm
  · rename_i hs
    cases hm
    exact ⟨hs, by rw [h0]; rfl⟩
  · cases hm
set_option maxRecDepth 10000 in
theorem p1_use {b base n : Nat} {xs : Nat → Int32} {xt : mj_X} {ct : Nat → Value} (hk : kX b n xs base xt ct) (ri : Nat → Int32) (rj : Nat → Int64) {T : ms_T} {C : ms_C} {S : List Value} (hp : p1_chk T C S = true) (hS : me_s b base ri rj S = (List.range n).map (fun j => .int (xs j))) (hT0 : ms_okT b base ri rj T) (hC : ms_okC b base ri rj C) : p1_G b base xt ct := by
  obtain ⟨k1, k2, k3, -⟩ := hk
  unfold p1_chk at hp
  split at hp
  case h_2 => cases hp
  rename_i v h hx
  simp only [Bool.and_eq_true, decide_eq_true_eq] at hp
  obtain ⟨rfl, h1, h2⟩ := hp
  have hC0 := kCr_ok
  cases hcr : kCr with
  | none => rw [hcr] at hC0; cases hC0
  | some q =>
    rw [hcr] at hC0
    dsimp only at hC0
    simp only [Bool.and_eq_true, decide_eq_true_eq] at hC0
    obtain ⟨c1, c2, c3, c4⟩ := hC0
    have hm0 : me_h b base ri rj h00 (k_h0 base) := ⟨(fun a e h => by have h' : (none : Option mj_E) = some e := h; cases h'), Nat.le_refl _, (by show base = me_sg b base 1; unfold me_sg; simp), rfl, rfl, k1, (fun a ty xs h => by have h' : (none : Option mj_E) = some (.inl (ty, xs)) := h; cases h')⟩
    obtain ⟨g0, e1, e2⟩ := me_to (b := b) (B := base) (ri := ri) (rj := rj) (sc := sc0) (sc' := ky_sc) (hd := ky_hd) (xt := xtn) (xt' := xt) (ct := ct0) (ct' := ct) (fun a e he => by cases he) (p1_sc k3) (fun k idx q hq => p1_df hq) _ _ _ _ _ _ _ _ _ hm0 hcr
    have hT1 : me_h b base ri rj hT g0 := by
      refine ⟨fun a e he => ?_, by decide, ?_, ?_, e2.2.2.2.2.1, k1, fun a ty ys he => ?_⟩
      · have hm := mj_lkE (show kT.lookup a = some e from he)
        have := kE_ok (List.all_eq_true.mp c4 _ hm)
        exact ⟨(kT_nf _ hm).1, (e2.1 a e this).2⟩
      · have := e2.2.2.1
        rw [show q.2.2.2.1 = 107 by rw [c3]] at this
        exact this
      · have := e2.2.2.2.1
        rw [show q.2.2.2.2 = 47714 by rw [c3]] at this
        exact this
      · have hm := mj_lkE (show kT.lookup a = some (.inl (ty, ys)) from he)
        exact (kT_nf _ hm).2
    obtain ⟨g, e3, e4⟩ := ms_x_ok (b := b) (B := base) (ri := ri) (rj := rj) (sc := sc0) (sc' := ky_sc) (hd := ky_hd) (xt := xt0 S) (xt' := xt) (ct := ct0) (ct' := ct) hT0 hC (fun a e he => by
        unfold xt0 at he
        split at he
        · rename_i ha
          cases he
          refine ⟨ha, ?_⟩
          rw [k2, ← hS]
        · cases he) (p1_sc k3) (fun k idx q hq => p1_df hq) _ _ _ _ _ _ _ _ _ hT1 hx
    have e5 : g.2.1 = me_sg b base h.2.1 := e4.2.2.1
    have e6 : g.2.2 = h.2.2 := e4.2.2.2.1
    have e7 : me_sg b base h.2.1 ≤ base + 1000 := by
      have e8 : 1 ≤ h.2.1 := e4.2.1
      rw [me_sg1 e8]
      have : h.2.1 ≤ 1000 := h1
      omega
    have hrun : mj_Run kY xt ct 20 300 0 [(0, .ref b)] [] (k_h0 base) (.inl (some (.int 1)), g) := by
      refine mr_to _ _ e1 ?_
      rw [c1, c2]
      exact ⟨_, e3⟩
    obtain ⟨f, hf⟩ := mj_Run_deep (d' := 1000) (by decide) hrun
    exact ⟨f, g, hf, by omega, by omega⟩
theorem p1_t0 : p1_chk [] [] [] = true := by decide +kernel
theorem p1_t1 : p1_chk [] [] [.float 0] = true := by decide +kernel
theorem p1_t2 : p1_chk [] [] [.float 0, .float 1] = true := by decide +kernel
theorem p1_t3 : p1_chk [] [] [.float 0, .float 1, .float 2] = true := by decide +kernel
theorem p1_okT0 {b B : Nat} {ri : Nat → Int32} {rj : Nat → Int64} : ms_okT b B ri rj [] := fun _ h => absurd h List.not_mem_nil
theorem p1_okC0 {b B : Nat} {ri : Nat → Int32} {rj : Nat → Int64} : ms_okC b B ri rj [] := fun _ h => absurd h List.not_mem_nil
theorem p1_okT1 {b B : Nat} {ri : Nat → Int32} {rj : Nat → Int64} {e : Nat × Value × Value × Value} {T : ms_T} (h : ms_den e.1 (me_v b B ri rj e.2.1) (me_v b B ri rj e.2.2.1) = some (me_v b B ri rj e.2.2.2)) (hT : ms_okT b B ri rj T) : ms_okT b B ri rj (e :: T) := List.forall_mem_cons.mpr ⟨h, hT⟩
theorem p1_okC1 {b B : Nat} {ri : Nat → Int32} {rj : Nat → Int64} {e : Nat × Value × Value × Bool} {C : ms_C} (h : ms_cden e.1 (me_v b B ri rj e.2.1) (me_v b B ri rj e.2.2.1) = some e.2.2.2) (hC : ms_okC b B ri rj C) : ms_okC b B ri rj (e :: C) := List.forall_mem_cons.mpr ⟨h, hC⟩
theorem q_0 : (0 : Int32).toInt = 0 := rfl
theorem q_1 : (1 : Int32).toInt = 1 := rfl
theorem q_2 : (2 : Int32).toInt = 2 := rfl
theorem q_3 : (3 : Int32).toInt = 3 := rfl
theorem q_8 : (8 : Int32).toInt = 8 := rfl
theorem q_m1 : (-1 : Int32).toInt = -1 := rfl
theorem q_1000 : (1000 : Int32).toInt = 1000 := rfl
theorem p1_three {x : Int32} (h1 : 0 ≤ x.toInt) (h2 : x.toInt < 3) : x = 0 ∨ x = 1 ∨ x = 2 := by
  rcases (show x.toInt = 0 ∨ x.toInt = 1 ∨ x.toInt = 2 by omega) with h | h | h
  · exact Or.inl (Int32.toInt_inj.mp h)
  · exact Or.inr (Or.inl (Int32.toInt_inj.mp h))
  · exact Or.inr (Or.inr (Int32.toInt_inj.mp h))
