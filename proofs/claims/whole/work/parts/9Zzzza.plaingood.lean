/-! WHAT A RUN COMES TO IS GOOD -/
def rgd (L : Ss) (mo f : Nat) (r : Rn) : Prop := mo ≤ r.2 ∧ r.2 ≤ 64 ∧ match r.1 with
  | .inl v => v = -1 ∨ v = -2
  | .inr L' => gds L' ∧ L'.length ≤ r.2 ∧ toF L' ≤ toF L * f
theorem rgd_bi {L : Ss} {mo f g : Nat} {r : Rn} {F : Ss → Nat → Rn} (h : rgd L mo f r) (k : ∀ L' mo', gds L' → L'.length ≤ mo' → mo ≤ mo' → mo' ≤ 64 → rgd L' mo' g (F L' mo')) : rgd L mo (f * g) (rbi r F) := by
  obtain ⟨x, m⟩ := r
  obtain ⟨h1, h2, h3⟩ := h
  cases x with
  | inl v => exact ⟨h1, h2, h3⟩
  | inr L' =>
    obtain ⟨h4, h5, h6⟩ := h3
    have k1 := k L' m h4 h5 h1 h2
    show rgd L mo (f * g) (F L' m)
    generalize F L' m = q at k1 ⊢
    obtain ⟨y, m2⟩ := q
    obtain ⟨k2, k3, k4⟩ := k1
    refine ⟨Nat.le_trans h1 k2, k3, ?_⟩
    cases y with
    | inl v => exact k4
    | inr L2 =>
      obtain ⟨k5, k6, k7⟩ := k4
      refine ⟨k5, k6, Nat.le_trans k7 ?_⟩
      rw [← Nat.mul_assoc]
      exact Nat.mul_le_mul_right _ h6
theorem rgd_fin {L U : Ss} {mo f : Nat} (hU : gds U) (hm : mo ≤ 64) (ht : toF U ≤ toF L * f) : rgd L mo f (fin1 U mo) := by
  unfold fin1
  split
  · exact ⟨Nat.le_refl _, hm, Or.inr rfl⟩
  · rename_i c
    refine ⟨Nat.le_max_left _ _, by show max mo U.length ≤ 64; omega, hU, Nat.le_max_right _ _, ht⟩
theorem rgd_mo {L : Ss} {mo f : Nat} {r : Rn} {mo' : Nat} (h : rgd L mo' f r) (hm : mo ≤ mo') : rgd L mo f r := ⟨Nat.le_trans hm h.1, h.2⟩
theorem toF_ins {X : Ss} : toF (insA X []) = toF X := by
  unfold toF
  rw [insA_sF]
  exact Nat.zero_add _
theorem eqs_ins {X : Ss} : eqs (insA X []) X := fun f => by
  rw [insA_sF]
  exact Nat.zero_add _
section GDR
variable {H : mj_H} {sts : List St} {nds : List Nd} {fcs : List Int32}
theorem ev_gd (hn : nds.length ≤ 160) (hfc : fcs.length ≤ 160) {A B lo i a f : Nat} (hx : exT H A B nds fcs 45 lo i a f) (hf : f ≤ 2147483648) : ∀ p, gdk p → ∀ s, evK nds fcs i p.1 = some s → gdS s f := fun _ hp s hs => (evT_gd (stf_in hp) hn hfc 45 lo i a f hx hf).2 s hs
theorem all_le {ev : Vs → Option Sp} {g : Vs × Nat → Sp → Ss} {G : Vs → Int32 → (Vs → Nat) → Nat} (hc : cnt g G) (h1 : ∀ k v, G k v (fun _ => 1) ≤ 1) {f : Nat} {L X : Ss} (he : ∀ p, gdk p → ∀ s, ev p.1 = some s → gdS s f) (hL : ∀ p ∈ L, gdk p) (h : allS ev g L = some X) : toF X ≤ toF L * f := by
  unfold toF
  rw [allS_sF hc L X h]
  refine sF_le f L (fun p hp => ?_)
  show sS ((ev p.1).getD []) (fun v => G p.1 v (fun _ => 1)) ≤ f
  cases e : ev p.1 with
  | none => exact Nat.zero_le _
  | some s =>
    have g1 := he p (hL p hp) s e
    have := sS_le (f := fun v => G p.1 v (fun _ => 1)) 1 s (fun q _ => h1 p.1 q.1)
    rw [Nat.mul_one, g1.2.2.2] at this
    exact this
theorem As_1 {n : Nat} : ∀ (k : Vs) (v : Int32), (fun (k : Vs) (v : Int32) (f : Vs → Nat) => f (k.set n v)) k v (fun _ => 1) ≤ 1 := fun _ _ => Nat.le_refl _
theorem Ys_1 : ∀ (k : Vs) (v : Int32), (fun (k : Vs) (v : Int32) (f : Vs → Nat) => (if v = 0 then 0 else 1) * f k) k v (fun _ => 1) ≤ 1 := fun _ v => by
  try dsimp only
  split <;> omega
theorem No_1 : ∀ (k : Vs) (v : Int32), (fun (k : Vs) (v : Int32) (f : Vs → Nat) => (if v = 0 then 1 else 0) * f k) k v (fun _ => 1) ≤ 1 := fun _ v => by
  try dsimp only
  split <;> omega
/-- the two sides of a choice together -/
theorem both_le {ev : Vs → Option Sp} {f : Nat} {L X Y : Ss} (he : ∀ p, gdk p → ∀ s, ev p.1 = some s → gdS s f) (hL : ∀ p ∈ L, gdk p) (hX : allS ev gYs L = some X) (hY : allS ev gNo L = some Y) : toF X + toF Y ≤ toF L * f := by
  unfold toF
  rw [allS_sF cnt_Ys L X hX, allS_sF cnt_No L Y hY, ← sF_add]
  refine sF_le f L (fun p hp => ?_)
  show sS ((ev p.1).getD []) (fun v => (if v = 0 then 0 else 1) * 1) + sS ((ev p.1).getD []) (fun v => (if v = 0 then 1 else 0) * 1) ≤ f
  cases e : ev p.1 with
  | none => exact Nat.zero_le _
  | some s =>
    have g1 := he p (hL p hp) s e
    have := yes_no s
    unfold yesW noW at this
    have c1 : (fun v : Int32 => (if v = 0 then 0 else 1) * 1) = fun v => if v = 0 then 0 else 1 := by funext v; rw [Nat.mul_one]
    have c2 : (fun v : Int32 => (if v = 0 then 1 else 0) * 1) = fun v => if v = 0 then 1 else 0 := by funext v; rw [Nat.mul_one]
    show sS s _ + sS s _ ≤ f
    rw [c1, c2, this, g1.2.2.2]
    exact Nat.le_refl _
theorem ins_short {ev : Vs → Option Sp} {g : Vs × Nat → Sp → Ss} {L X : Ss} (hk : ∀ p s x, x ∈ g p s → x.1 = p.1) (h : allS ev g L = some X) (hX : ∀ x ∈ X, gdk x) : (insA X []).length ≤ L.length := by
  have gi := gds_insA X [] gds_nil hX
  have := nd_sub ((insA X []).map Prod.fst) (L.map Prod.fst) gi.1 (fun a ha => by
    obtain ⟨p, hp, e⟩ := List.mem_map.mp ha
    obtain ⟨q, hq, e2⟩ := eqs_mem eqs_ins (fun p hp => (gi.2 p hp).1) p hp
    obtain ⟨y, hy, e3⟩ := allS_keys hk L X h q hq
    rw [← e, ← e2, ← e3]
    exact List.mem_map_of_mem hy)
  rw [List.length_map, List.length_map] at this
  exact this
theorem both_some {ev : Vs → Option Sp} {g g' : Vs × Nat → Sp → Ss} {L X : Ss} (h : allS ev g L = some X) : ∃ Y, allS ev g' L = some Y := by
  cases e : allS ev g' L with
  | none =>
    rw [(allS_none L).mpr ((allS_none L).mp e)] at h
    cases h
  | some Y => exact ⟨Y, rfl⟩
/-- a choice's factors -/
theorem ch_fac {fe : Nat} {l1 l2 : List (Nat × Nat)} {o1 o2 : Option Nat} {t6 : Nat} (hfe : 1 ≤ fe) (h1 : chn H l1 o1) (h2 : chn H l2 o2) (e : t6 = prN fe (mlN (fold_ l1 1) (fold_ l2 1))) (h : t6 ≤ 2147483648) : t6 = fe * mlN (fold_ l1 1) (fold_ l2 1) ∧ fe ≤ 2147483648 ∧ mlN (fold_ l1 1) (fold_ l2 1) ≤ 2147483648 ∧ 1 ≤ fold_ l1 1 ∧ 1 ≤ fold_ l2 1 ∧ fold_ l1 1 ≤ 2147483648 ∧ fold_ l2 1 ≤ 2147483648 := by
  have p1 := fold_pos l1 1 (Nat.le_refl _) (fun x hx => (chn_pos l1 o1 h1 x hx).1)
  have p2 := fold_pos l2 1 (Nat.le_refl _) (fun x hx => (chn_pos l2 o2 h2 x hx).1)
  have b1 := fold_bd l1 1 (by decide)
  have b2 := fold_bd l2 1 (by decide)
  have m1 : 1 ≤ mlN (fold_ l1 1) (fold_ l2 1) := by
    unfold mlN
    exact prN_pos (mlN_do _ _ ⟨p1, b1⟩ ⟨p2, b2⟩).2.2.1 p2
  rw [e] at h ⊢
  obtain ⟨k1, k2, k3⟩ := pr_two hfe m1 h
  obtain ⟨-, ⟨-, -, k4⟩, ⟨-, -, k5⟩⟩ := ml_ok p1 p2 k3
  exact ⟨k1, k2, k3, p1, p2, by omega, by omega⟩
theorem rnT_gd {F : Ss → Nat → Rn} {a : Nat} (hF : ∀ L mo, gds L → L.length ≤ mo → mo ≤ 64 → rgd L mo a (F L mo)) : ∀ (n : Nat) (L : Ss) (mo : Nat), gds L → L.length ≤ mo → mo ≤ 64 → rgd L mo (a ^ n) (rnT F n L mo) := by
  intro n
  induction n with
  | zero => intro L mo h1 h2 h3; exact ⟨Nat.le_refl _, h3, h1, h2, by rw [Nat.pow_zero, Nat.mul_one]; exact Nat.le_refl _⟩
  | succ n ih =>
    intro L mo h1 h2 h3
    rw [Nat.pow_succ, Nat.mul_comm, rnT]
    exact rgd_bi (hF L mo h1 h2 h3) (fun L' mo' k1 k2 _ k4 => ih L' mo' k1 k2 k4)
theorem rn_good (hn : nds.length ≤ 160) (hfc : fcs.length ≤ 160) (h24 : sts.length ≤ 24) : ∀ m : Nat, (∀ (A B s : Nat) (t : St) (a : Nat) (L : Ss) (mo : Nat), sts[s]? = some t → t.2.2.2.2.2.1 ≤ sts.length → sT H sts nds fcs m A B s t a → t.2.2.2.2.2.2 ≤ 2147483648 → gds L → L.length ≤ mo → mo ≤ 64 → rgd L mo t.2.2.2.2.2.2 (rnS sts nds fcs m s L mo)) ∧ (∀ (A B : Nat) (l : List (Nat × Nat)) (o : Option Nat) (lo hi j : Nat) (L : Ss) (mo : Nat), hi ≤ sts.length → hi - lo ≤ j → chn H l o → bk (sT H sts nds fcs m A B) sts l lo hi → fold_ l 1 ≤ 2147483648 → gds L → L.length ≤ mo → mo ≤ 64 → rgd L mo (fold_ l 1) (rnB sts (rnS sts nds fcs m) j lo hi L mo)) := by
  have same : ∀ {L : Ss} {mo : Nat}, gds L → L.length ≤ mo → mo ≤ 64 → rgd L mo 1 (.inr L, mo) := fun h1 h2 h3 => ⟨Nat.le_refl _, h3, h1, h2, by rw [Nat.mul_one]; exact Nat.le_refl _⟩
  have stop : ∀ (f : Nat → Ss → Nat → Rn) (j lo : Nat) (L : Ss) (mo : Nat), rnB sts f j lo lo L mo = (.inr L, mo) := by
    intro f j lo L mo
    cases j with
    | zero => rfl
    | succ j => rw [rnB, if_neg (fun q => absurd q.1 (by omega))]
  intro m
  induction m with
  | zero =>
    refine ⟨fun A B s t a L mo _ _ h => h.elim, fun A B l o lo hi j L mo _ _ _ hb _ h1 h2 h3 => ?_⟩
    cases l with
    | nil =>
      have e : lo = hi := hb
      rw [e, stop]
      exact same h1 h2 h3
    | cons x r =>
      obtain ⟨t, -, -, h, -⟩ := hb
      exact h.elim
  | succ m ih =>
    have stm : ∀ (A B s : Nat) (t : St) (a : Nat) (L : Ss) (mo : Nat), sts[s]? = some t → t.2.2.2.2.2.1 ≤ sts.length → sT H sts nds fcs (m + 1) A B s t a → t.2.2.2.2.2.2 ≤ 2147483648 → gds L → L.length ≤ mo → mo ≤ 64 → rgd L mo t.2.2.2.2.2.2 (rnS sts nds fcs (m + 1) s L mo) := by
      intro A B s t a L mo hst hend h hf gL hL hmo
      obtain ⟨a1, a2, a3, c, e, tm, o1, o2, nx, s1, s2, A1, B1, k1, k2, k3, k4, k5⟩ := h
      rcases k5 with ⟨q1, q2, q3, q4, q5, q6, q7⟩ | ⟨q1, q2, fe, l1, l2, q3, q4, q5, q6, q7, q8, q9, q10⟩ | ⟨q1, q2, q3, q4, q5, q6, q7, q8, l1, q9, q10, q11⟩
      · have ge := ev_gd hn hfc q7 hf
        rcases (show t.1 = 0 ∨ t.1 = 1 by omega) with h0 | h0
        · rw [rnS_0 hst h0]
          cases eX : allS (evK nds fcs t.2.2.2.1) (gAs t.2.1) L with
          | none => exact ⟨Nat.le_refl _, hmo, Or.inl rfl⟩
          | some X =>
            refine rgd_fin (gds_insA X [] gds_nil (allS_gd ge (fun p s => gd_As p s _) L X gL.2 eX)) hmo ?_
            rw [toF_ins]
            exact all_le cnt_As (As_1 (n := t.2.1)) ge gL.2 eX
        · rw [rnS_1 hst h0]
          cases eX : allS (evK nds fcs t.2.2.2.1) gYs L with
          | none => exact ⟨Nat.le_refl _, hmo, Or.inl rfl⟩
          | some X =>
            refine rgd_fin (gds_insA X [] gds_nil (allS_gd ge (fun p s => gd_Ys p s _) L X gL.2 eX)) hmo ?_
            rw [toF_ins]
            exact all_le cnt_Ys Ys_1 ge gL.2 eX
      · obtain ⟨c1, c2, c3, c4, c5, c6, c7⟩ := ch_fac (exT_fal _ _ _ _ _ q3).2.1.1 q4 q6 q8 hf
        have ge := ev_gd hn hfc q3 c2
        have m1 := bk_le (fun s t a x => sT_end x) _ _ _ q5
        have m2 := bk_le (fun s t a x => sT_end x) _ _ _ q7
        rw [rnS_2 hst q1, bk_bf (fun s t a x => sT_end x) l1 25 _ _ 1 (by omega) q5, bk_bf (fun s t a x => sT_end x) l2 25 _ _ 1 (by omega) q7]
        cases eX : allS (evK nds fcs t.2.2.2.1) gYs L with
        | none => exact ⟨Nat.le_refl _, hmo, Or.inl rfl⟩
        | some X =>
          obtain ⟨Y, eY⟩ := both_some (g' := gNo) eX
          rw [eY]
          have gX := allS_gd ge (fun p s => gd_Ys p s _) L X gL.2 eX
          have gY := allS_gd ge (fun p s => gd_No p s _) L Y gL.2 eY
          have lX := ins_short ky_Ys eX gX
          have lY := ins_short ky_No eY gY
          obtain ⟨-, ⟨d1, d2, -⟩, ⟨d3, d4, -⟩⟩ := ml_ok c4 c5 c3
          have bl := both_le ge gL.2 eX eY
          have r1 := ih.2 A1 B1 l1 o1 (s + 1) t.2.2.2.2.1 25 (insA X []) mo (by omega) (by omega) q4 q5 c6 (gds_insA X [] gds_nil gX) (by omega) hmo
          show rgd L mo _ (rnC _ _ _ _ _ _ X Y mo)
          unfold rnC
          obtain ⟨⟨x1, mo1⟩, hr1⟩ : ∃ q, rnB sts (rnS sts nds fcs m) 25 (s + 1) t.2.2.2.2.1 (insA X []) mo = q := ⟨_, rfl⟩
          rw [hr1] at r1 ⊢
          obtain ⟨u1, u2, u3⟩ := r1
          cases x1 with
          | inl v => exact ⟨u1, u2, u3⟩
          | inr Y1 =>
            obtain ⟨u4, u5, u6⟩ := u3
            have u1' : mo ≤ mo1 := u1
            have u2' : mo1 ≤ 64 := u2
            have r2 := ih.2 A1 B1 l2 o2 t.2.2.2.2.1 t.2.2.2.2.2.1 25 (insA Y []) mo1 hend (by omega) q6 q7 c7 (gds_insA Y [] gds_nil gY) (by omega) u2'
            show rgd L mo _ (rbi (rnB sts (rnS sts nds fcs m) 25 t.2.2.2.2.1 t.2.2.2.2.2.1 (insA Y []) mo1) _)
            obtain ⟨⟨x2, mo2⟩, hr2⟩ : ∃ q, rnB sts (rnS sts nds fcs m) 25 t.2.2.2.2.1 t.2.2.2.2.2.1 (insA Y []) mo1 = q := ⟨_, rfl⟩
            rw [hr2] at r2 ⊢
            obtain ⟨v1, v2, v3⟩ := r2
            have v1' : mo1 ≤ mo2 := v1
            cases x2 with
            | inl v => exact ⟨Nat.le_trans u1' v1', v2, v3⟩
            | inr N1 =>
              obtain ⟨v4, v5, v6⟩ := v3
              show rgd L mo _ (fin1 _ mo2)
              refine rgd_mo (rgd_fin (gds_insA _ [] gds_nil (fun p hp => ?_)) v2 ?_) (Nat.le_trans u1' v1')
              · rcases List.mem_append.mp hp with q | q
                · exact scl_gd d1 u4.2 p q
                · exact scl_gd d3 v4.2 p q
              · rw [toF_ins]
                unfold toF
                rw [sF_app, scl_sF, scl_sF]
                show toF Y1 * _ + toF N1 * _ ≤ _
                rw [toF_ins] at u6 v6
                have w1 := Nat.mul_le_mul_right (mlN (fold_ l1 1) (fold_ l2 1) / fold_ l1 1) u6
                have w2 := Nat.mul_le_mul_right (mlN (fold_ l1 1) (fold_ l2 1) / fold_ l2 1) v6
                rw [Nat.mul_assoc, d2] at w1
                rw [Nat.mul_assoc, d4] at w2
                have w3 := Nat.mul_le_mul_right (mlN (fold_ l1 1) (fold_ l2 1)) bl
                rw [Nat.add_mul, Nat.mul_assoc, ← c1] at w3
                show _ ≤ toF L * t.2.2.2.2.2.2
                omega
      · rw [rnS_3 hst q1]
        have p1 := fold_pos l1 1 (Nat.le_refl _) (fun x hx => (chn_pos l1 o1 q9 x hx).1)
        have m1 := bk_le (fun s t a x => sT_end x) _ _ _ q10
        rw [q11] at hf ⊢
        obtain ⟨w1, w2⟩ := pw_ok p1 t.2.1 1 (Nat.le_refl _) hf
        rw [w1, Nat.one_mul]
        by_cases z : t.2.1 = 0
        · rw [z, Nat.pow_zero]
          exact same gL hL hmo
        · exact rnT_gd (fun L mo g1 g2 g3 => ih.2 A1 B1 l1 o1 (s + 1) t.2.2.2.2.2.1 25 L mo hend (by omega) q9 q10 (w2 (by omega)) g1 g2 g3) t.2.1 L mo gL hL hmo
    refine ⟨stm, fun A B l => ?_⟩
    induction l with
    | nil =>
      intro o lo hi j L mo _ _ _ hb _ h1 h2 h3
      have e : lo = hi := hb
      rw [e, stop]
      exact same h1 h2 h3
    | cons x r ihl =>
      intro o lo hi j L mo hh hj hc hb hf gL hL hmo
      obtain ⟨-, hbd, s0, e0, t0, u0, v0, p0, q0, nx, hc1, hc2⟩ := hc
      obtain ⟨t, t1, t2, t3, t4⟩ := hb
      have l1 := sT_end t3
      have l2 := bk_le (fun s t a x => sT_end x) _ _ _ t4
      obtain ⟨j, rfl⟩ : ∃ j', j = j' + 1 := ⟨j - 1, by omega⟩
      obtain ⟨f1, f2⟩ := fold_cons hbd (fun y hy => (chn_pos r nx hc2 y hy).1)
      rw [f1] at hf ⊢
      obtain ⟨f3, f4, f5⟩ := pr_two hbd.1 f2 hf
      have en : enS sts lo = t.2.2.2.2.2.1 := by unfold enS; rw [t1]
      rw [rnB, en, f3]
      by_cases c : lo < hi ∧ L ≠ []
      · rw [if_pos c, ← t2]
        exact rgd_bi (stm A B lo t x.1 L mo t1 (by omega) t3 (by omega) gL hL hmo) (fun L' mo' k1 k2 _ k4 => ihl nx t.2.2.2.2.2.1 hi j L' mo' hh (by omega) hc2 t4 f5 k1 k2 k4)
      · rw [if_neg c]
        have e : L = [] := Classical.byContradiction (fun q => c ⟨by omega, q⟩)
        rw [e]
        exact ⟨Nat.le_refl _, hmo, gds_nil, Nat.zero_le _, Nat.zero_le _⟩
end GDR
