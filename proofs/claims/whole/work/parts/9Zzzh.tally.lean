/-! DICE, THE CLASS: sums counted face by face -/
/-- the table when the faces F are gone through -/
def TF (n k : Nat) (F : List Nat) (p s : Nat) : Nat := U n (Kc n) (Gm k) F 0 p (dlt s)
def trm (n k f : Nat) (T : Nat → Nat → Nat) (r q s : Nat) : Nat := bn (n - r) (q - r) * (if f * Gm k r q ≤ s then T r (s - f * Gm k r q) else 0)
theorem TF_step {n k f : Nat} {F : List Nat} {q s : Nat} (hq : q ≤ n) : TF n k (F ++ [f]) q s = TF n k F q s + sm q (fun r => trm n k f (TF n k F) r q s) := by
  unfold TF
  rw [U_app f F 0 q (dlt s) (by omega) hq]
  have e : n + 1 = q + (1 + (n - q)) := by omega
  rw [e, sm_split, sm_split, Nat.add_comm]
  have shift : ∀ (r g : Nat), U n (Kc n) (Gm k) F 0 r (fun x => dlt s (x + g)) = if g ≤ s then U n (Kc n) (Gm k) F 0 r (dlt (s - g)) else 0 := by
    intro r g
    by_cases c : g ≤ s
    · rw [if_pos c]
      congr 1
      funext x
      unfold dlt
      by_cases d : x + g = s
      · rw [if_pos d, if_pos (by omega)]
      · rw [if_neg d, if_neg (by omega)]
    · rw [if_neg c]
      have z : (fun x => dlt s (x + g)) = (fun _ => 0) := funext (fun x => if_neg (by omega))
      rw [z]
      have zz : ∀ (F : List Nat) (p q : Nat), U n (Kc n) (Gm k) F p q (fun _ => 0) = 0 := by
        intro F
        induction F with
        | nil => intro p q; show (if p = q then 0 else 0) = 0; split <;> rfl
        | cons f F ih => intro p q; exact sm_zero _ (fun r _ => by rw [ih]; rfl)
      exact zz F 0 r
  have a1 : sm 1 (fun i => Kc n (q + i) q * U n (Kc n) (Gm k) F 0 (q + i) (fun x => dlt s (x + f * Gm k (q + i) q))) = U n (Kc n) (Gm k) F 0 q (dlt s) := by
    show 0 + Kc n (q + 0) q * _ = _
    have g0 : Gm k q q = 0 := by unfold Gm; omega
    unfold Kc
    rw [Nat.add_zero, if_pos (Nat.le_refl _), Nat.sub_self, bn_0, g0, Nat.mul_zero, Nat.zero_add, Nat.one_mul]
    rfl
  have a2 : sm (n - q) (fun i => Kc n (q + (1 + i)) q * U n (Kc n) (Gm k) F 0 (q + (1 + i)) (fun x => dlt s (x + f * Gm k (q + (1 + i)) q))) = 0 := sm_zero _ (fun i _ => by unfold Kc; rw [if_neg (by omega), Nat.zero_mul])
  rw [a1, a2, Nat.add_zero]
  congr 1
  refine sm_congr _ (fun r hr => ?_)
  have kc : Kc n r q = bn (n - r) (q - r) := if_pos (by omega)
  unfold trm
  rw [kc, shift]
theorem TF_far {n m k q s : Nat} {F : List Nat} (hF : ∀ f ∈ F, f ≤ m) (hq : q ≤ n) (hs : m * min q k < s) : TF n k F q s = 0 := by
  unfold TF
  have e : U n (Kc n) (Gm k) F 0 q (dlt s) = U n (Kc n) (Gm k) F 0 q (fun _ => 0) := by
    refine U_bd (M := m) (fun p r q h1 h2 _ => Gm_add p r q h1 h2) (fun p q h => Kc_no p q h) F 0 q _ _ hF hq (fun x hx => ?_)
    have : Gm k 0 q = min q k := by unfold Gm; omega
    rw [this] at hx
    exact if_neg (by omega)
  rw [e]
  have z : ∀ (F : List Nat) (p q : Nat), U n (Kc n) (Gm k) F p q (fun _ => 0) = 0 := by
    intro F
    induction F with
    | nil => intro p q; show (if p = q then 0 else 0) = 0; split <;> rfl
    | cons f F ih => intro p q; exact sm_zero _ (fun r _ => by rw [ih]; rfl)
  exact z F 0 q
/-- the table when of the face f those placed behind j, and at j e more, are gone through -/
def Mm (n k f : Nat) (T : Nat → Nat → Nat) (j e q s : Nat) : Nat := T q s + sm q (fun r => if j < r ∨ (r = j ∧ q ≤ j + e) then trm n k f T r q s else 0)
theorem Mm_row {n k f j e s : Nat} {T : Nat → Nat → Nat} : Mm n k f T j e j s = T j s := by
  unfold Mm
  rw [sm_zero j (fun r hr => if_neg (by omega)), Nat.add_zero]
theorem Mm_next {n k f j e q s : Nat} {T : Nat → Nat → Nat} : Mm n k f T j (e + 1) q s = Mm n k f T j e q s + (if q = j + (e + 1) then trm n k f T j q s else 0) := by
  unfold Mm
  rw [Nat.add_assoc]
  congr 1
  by_cases c : q = j + (e + 1)
  · rw [if_pos c]
    have x : sm q (fun r => if j < r ∨ (r = j ∧ q ≤ j + (e + 1)) then trm n k f T r q s else 0) = sm q (fun r => (if j < r ∨ (r = j ∧ q ≤ j + e) then trm n k f T r q s else 0) + (if r = j then trm n k f T r q s else 0)) := by
      refine sm_congr _ (fun r _ => ?_)
      by_cases d : r = j
      · rw [if_pos (Or.inr ⟨d, by omega⟩), if_neg (by omega), if_pos d, Nat.zero_add]
      · rw [if_neg d]
        by_cases d2 : j < r
        · rw [if_pos (Or.inl d2), if_pos (Or.inl d2), Nat.add_zero]
        · rw [if_neg (by omega), if_neg (by omega)]
    rw [x, sm_add, sm_one (f := fun r => if r = j then trm n k f T r q s else 0) j q (by omega) (fun i _ hi => if_neg hi)]
    rw [if_pos rfl]
  · rw [if_neg c, Nat.add_zero]
    refine sm_congr _ (fun r hr => ?_)
    by_cases d : j < r ∨ (r = j ∧ q ≤ j + e)
    · rw [if_pos d, if_pos (by omega)]
    · rw [if_neg d, if_neg (by omega)]
theorem Mm_down {n k f j q s : Nat} {T : Nat → Nat → Nat} (hj : j + 1 ≤ n) (hq : q ≤ n) : Mm n k f T (j + 1) (n - (j + 1)) q s = Mm n k f T j 0 q s := by
  unfold Mm
  congr 1
  refine sm_congr _ (fun r hr => ?_)
  by_cases d : j < r
  · rw [if_pos (by omega), if_pos (Or.inl d)]
  · rw [if_neg (by omega), if_neg (by omega)]
theorem Mm_first {n k f q s : Nat} {T : Nat → Nat → Nat} (hn : 1 ≤ n) (hq : q ≤ n) : Mm n k f T (n - 1) 0 q s = T q s := by
  unfold Mm
  rw [sm_zero q (fun r hr => if_neg (by omega)), Nat.add_zero]
theorem Mm_last {n k f q s : Nat} {F : List Nat} (hq : q ≤ n) : Mm n k f (TF n k F) 0 n q s = TF n k (F ++ [f]) q s := by
  rw [TF_step hq]
  unfold Mm
  congr 1
  refine sm_congr _ (fun r hr => ?_)
  rw [if_pos (by omega)]
section TAL
variable {xt : mj_X} {ct : Nat → Value} {O : OR} {N z : Nat}
def tly (z : Nat) (H : mj_H) : Prop := H.1 (z + 14) = some (.inl (.array .long, [.ref (z + 15), .ref (z + 16), .ref (z + 17), .ref (z + 18), .ref (z + 19), .ref (z + 20), .ref (z + 21)])) ∧ ∀ p, p < 7 → ∃ X, LR H (z + 15 + p) 121 X
def TL (z : Nat) (H : mj_H) (n : Nat) (T : Nat → Nat → Nat) : Prop := tly z H ∧ ∀ p, p ≤ n → LR H (z + 15 + p) 121 (fun s => Int64.ofNat (T p s))
def f15 (z : Nat) (H G : mj_H) : Prop := (∀ q, ¬ (z + 15 ≤ q ∧ q ≤ z + 21) → G.1 q = H.1 q) ∧ G.2 = H.2
theorem f15_refl {H : mj_H} : f15 z H H := ⟨fun _ _ => rfl, rfl⟩
theorem f15_trans {H G K : mj_H} (x : f15 z H G) (y : f15 z G K) : f15 z H K := ⟨fun q h => (y.1 q h).trans (x.1 q h), y.2.trans x.2⟩
theorem f15_of {H G : mj_H} {p : Nat} (hp : p < 7) (x : only (z + 15 + p) H G) : f15 z H G := ⟨fun q h => x.1 q (by omega), x.2⟩
theorem tly_set {H G : mj_H} {p : Nat} (hp : p < 7) (h : tly z H) (x : only (z + 15 + p) H G) (hg : ∃ X, LR G (z + 15 + p) 121 X) : tly z G := by
  refine ⟨(x.1 _ (by omega)).trans h.1, fun p' hp' => ?_⟩
  by_cases e : p' = p
  · rw [e]; exact hg
  · obtain ⟨X, hX⟩ := h.2 p' hp'
    exact ⟨X, LR_fr hX (x.1 _ (by omega))⟩
theorem tly_at {H : mj_H} {p : Nat} (h : tly z H) (hp : p < 7) : aA xt H (z + 14) (Int32.ofNat p) = some (z + 15 + p) := by
  refine aA_of h.1 rfl (by rw [i_nat (by omega)]; omega) ?_
  rw [n_t (by omega)]
  have : p = 0 ∨ p = 1 ∨ p = 2 ∨ p = 3 ∨ p = 4 ∨ p = 5 ∨ p = 6 := by omega
  rcases this with rfl | rfl | rfl | rfl | rfl | rfl | rfl <;> rfl
theorem TL_ext {H : mj_H} {n : Nat} {T T' : Nat → Nat → Nat} (h : TL z H n T) (e : ∀ p s, p ≤ n → s < 121 → T p s = T' p s) : TL z H n T' := ⟨h.1, fun p hp => LR_ext (h.2 p hp) (fun s hs => by rw [e p s hp hs])⟩
/-- a dice object -/
def dcO (H : mj_H) (a n m : Nat) (pick : Int32) (k : Nat) (w f : Value) : Prop := H.1 a = some (.inr (8, [.int (Int32.ofNat n), .int (Int32.ofNat m), .int pick, .int (Int32.ofNat k), w, f]))
theorem C146_do (hN : 2000 ≤ N) {H : mj_H} {a n m k j e f : Nat} {pick : Int32} {w fl : Value} {T : Nat → Nat → Nat} (ha : z + 107 ≤ a) (hd : dcO H a n m pick k w fl) (hn : n ≤ 6) (hm : m ≤ 20) (hk : k ≤ n) (hf : f ≤ m) (h : TL z H n T) (he : j + (e + 1) ≤ n) (hz : ∀ s, m * min j k < s → T j s = 0) : ∃ G, C146 xt ct O N a (z + 14) (Int32.ofNat j) (Int32.ofNat (e + 1)) (Int32.ofNat f) (Int64.ofNat (bn (n - j) (e + 1))) H = some G ∧ TL z G n (fun q s => T q s + if q = j + (e + 1) then trm n k f T j q s else 0) ∧ f15 z H G := by
  obtain ⟨bf, hbf⟩ : ∃ bf, min j k = bf := ⟨_, rfl⟩
  obtain ⟨gn, hgn⟩ : ∃ gn, f * Gm k j (j + (e + 1)) = gn := ⟨_, rfl⟩
  obtain ⟨cc, hcc⟩ : ∃ cc, bn (n - j) (e + 1) = cc := ⟨_, rfl⟩
  have gm : Gm k j (j + (e + 1)) = min (j + (e + 1)) k - bf := by rw [← hbf]; rfl
  have gb : gn ≤ m * (min (j + (e + 1)) k - bf) := by rw [← hgn, gm]; exact Nat.mul_le_mul_right _ hf
  have tot : m * bf + m * (min (j + (e + 1)) k - bf) ≤ 20 * 6 := by
    rw [← Nat.mul_add]
    exact Nat.mul_le_mul hm (by omega)
  have row0 := h.2 j (by omega)
  have key : ∀ (d i : Nat) (H1 : mj_H) (X : Nat → Int64), i + d = m * bf + 1 → dcO H1 a n m pick k w fl → LR H1 (z + 15 + j) 121 (fun s => Int64.ofNat (T j s)) → LR H1 (z + 15 + (j + (e + 1))) 121 X → (∀ s, s < 121 → X s = Int64.ofNat (T (j + (e + 1)) s + if gn ≤ s ∧ s - gn < i then cc * T j (s - gn) else 0)) → only (z + 15 + (j + (e + 1))) H H1 → ∃ G, t_lp (B146_43 xt ct O N) (d + 1) (a, Int64.ofNat cc, Int32.ofNat bf, Int32.ofNat gn, z + 15 + j, z + 15 + (j + (e + 1)), Int32.ofNat i, H1) = some G ∧ LR G (z + 15 + (j + (e + 1))) 121 (fun s => Int64.ofNat (T (j + (e + 1)) s + if gn ≤ s ∧ s - gn < m * bf + 1 then cc * T j (s - gn) else 0)) ∧ only (z + 15 + (j + (e + 1))) H G := by
    intro d
    induction d with
    | zero =>
      intro i H1 X hi hd1 hr hX hv ho
      have g1 : gI H1 a 8 1 = some (Int32.ofNat m) := gI_of hd1 rfl
      have c : mj_c2 .gt (Int32.ofNat i) (Int32.ofNat (bf * m)) = true := (c_gt (by omega) (by rw [Nat.mul_comm]; omega)).trans (decide_eq_true (by rw [Nat.mul_comm]; omega))
      have : i = m * bf + 1 := by omega
      subst this
      refine ⟨H1, t_end ?_ _, LR_ext hX hv, ho⟩
      simp only [B146_43, g1, n_mul, c, cond_true, Option.bind_some]
    | succ d ih =>
      intro i H1 X hi hd1 hr hX hv ho
      have g1 : gI H1 a 8 1 = some (Int32.ofNat m) := gI_of hd1 rfl
      have c : mj_c2 .gt (Int32.ofNat i) (Int32.ofNat (bf * m)) = false := (c_gt (by omega) (by rw [Nat.mul_comm]; omega)).trans (decide_eq_false (by rw [Nat.mul_comm]; omega))
      have r1 := LR_get (xt := xt) hX (show i + gn < 121 by omega) (by omega)
      have r2 := LR_get (xt := xt) hr (show i < 121 by omega) (by omega)
      have xv := hv (i + gn) (by omega)
      rw [if_neg (by omega), Nat.add_zero] at xv
      obtain ⟨H2, s1, s2, s3⟩ := LR_set (x := X (i + gn) + Int64.ofNat cc * Int64.ofNat (T j i)) hX (show i + gn < 121 by omega) (by omega)
      obtain ⟨G, b1, b2, b3⟩ := ih (i + 1) H2 _ (by omega) ((s3.1 a (by omega)).trans hd1) (LR_fr hr (s3.1 _ (by omega))) s2 (fun s hs => by
        by_cases q : s = i + gn
        · rw [if_pos q, xv, l_mul, l_add, q, if_pos (by omega), show i + gn - gn = i by omega]
        · rw [if_neg q, hv s hs]
          congr 2
          by_cases q2 : gn ≤ s ∧ s - gn < i
          · rw [if_pos q2, if_pos (by omega)]
          · rw [if_neg q2, if_neg (by omega)]) (only_trans ho s3)
      refine ⟨G, ?_, b2, b3⟩
      have st : B146_43 xt ct O N (a, Int64.ofNat cc, Int32.ofNat bf, Int32.ofNat gn, z + 15 + j, z + 15 + (j + (e + 1)), Int32.ofNat i, H1) = some (.inl (a, Int64.ofNat cc, Int32.ofNat bf, Int32.ofNat gn, z + 15 + j, z + 15 + (j + (e + 1)), Int32.ofNat (i + 1), H2)) := by
        rw [← i_inc (k := i) (by omega)]
        simp only [B146_43, g1, n_mul, c, cond_false, n_add, r1, r2, s1, Option.bind_some]
      rw [t_one st]
      exact b1
  obtain ⟨G, a1, a2, a3⟩ := key (m * bf + 1) 0 H (fun s => Int64.ofNat (T (j + (e + 1)) s)) (by omega) hd row0 (h.2 (j + (e + 1)) he) (fun s hs => by rw [if_neg (by omega)]; rfl) only_refl
  have p7 : j + (e + 1) < 7 := by omega
  refine ⟨G, ?_, ⟨tly_set p7 h.1 a3 ⟨_, a2⟩, fun p hp => ?_⟩, f15_of p7 a3⟩
  · have g3 : gI H a 8 3 = some (Int32.ofNat k) := gI_of hd rfl
    have m1 := C21_do (xt := xt) (ct := ct) (O := O) (N := N) (H := H) (a := j) (b := k) (by omega) (by omega)
    have m2 := C21_do (xt := xt) (ct := ct) (O := O) (N := N) (H := H) (a := j + (e + 1)) (b := k) (by omega) (by omega)
    have t1 := tly_at (xt := xt) h.1 (p := j) (by omega)
    have t2 := tly_at (xt := xt) h.1 (p := j + (e + 1)) p7
    have gv : Int32.ofNat f * (Int32.ofNat (min (j + (e + 1)) k) - Int32.ofNat bf) = Int32.ofNat gn := by
      rw [n_sub (by omega) (by omega), n_mul, ← gm, hgn]
    rw [hbf] at m1
    simp only [C146, g3, m1, n_add, m2, t1, t2, gv, hcc, Option.bind_some]
    exact t_lp_more _ _ _ (by omega) a1
  · by_cases q : p = j + (e + 1)
    · subst q
      refine LR_ext a2 (fun s hs => ?_)
      dsimp only
      rw [if_pos rfl]
      refine congrArg (fun x => Int64.ofNat (T (j + (e + 1)) s + x)) ?_
      unfold trm
      rw [show j + (e + 1) - j = e + 1 by omega, hcc, hgn]
      by_cases q1 : gn ≤ s
      · rw [if_pos q1]
        by_cases q2 : s - gn < m * bf + 1
        · rw [if_pos ⟨q1, q2⟩]
        · rw [if_neg (fun w => q2 w.2), hz (s - gn) (by rw [hbf]; omega), Nat.mul_zero]
      · rw [if_neg q1, if_neg (fun w => q1 w.1), Nat.mul_zero]
    · refine LR_ext (LR_fr (h.2 p hp) (a3.1 _ (by omega))) (fun s hs => ?_)
      dsimp only
      rw [if_neg q]
      rfl
end TAL
