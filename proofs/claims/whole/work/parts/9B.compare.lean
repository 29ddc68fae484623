/-! COMPARE -/
def sgv (x : Int32) : Int32 := (x >>> (31 &&& 31)) ||| (((-x) : Int32).toUInt32 >>> ((31 : Int32).toUInt32 &&& Int32.toUInt32 31)).toInt32
theorem sg_ck : ∀ a : Nat, a < 63 → ∀ b : Nat, b < 64 → sgv (Int32.ofInt (((64 * a + b : Nat) : Int) - 1998)) = (if 64 * a + b < 1998 then -1 else if 64 * a + b = 1998 then 0 else 1) := by decide +kernel
theorem sg_all (n : Nat) (h : n < 3997) : sgv (Int32.ofInt ((n : Int) - 1998)) = (if n < 1998 then -1 else if n = 1998 then 0 else 1) := by
  have := sg_ck (n / 64) (by omega) (n % 64) (by omega)
  rw [show 64 * (n / 64) + n % 64 = n by omega] at this
  exact this
def sgn (x y : Int32) : Int32 := if x.toInt < y.toInt then -1 else if x.toInt ≠ y.toInt then 1 else 0
theorem sg_do {x y : Int32} (hx : -999 ≤ x.toInt ∧ x.toInt ≤ 999) (hy : -999 ≤ y.toInt ∧ y.toInt ≤ 999) : sgv (x - y) = sgn x y := by
  have e : (x - y).toInt = x.toInt - y.toInt := i_sub (by omega) (by omega)
  have h := sg_all (x.toInt - y.toInt + 1998).toNat (by omega)
  have e2 : Int32.ofInt (((x.toInt - y.toInt + 1998).toNat : Int) - 1998) = x - y := by
    rw [show (((x.toInt - y.toInt + 1998).toNat : Int) - 1998) = (x - y).toInt by rw [e]; omega]
    exact Int32.ofInt_toInt _
  rw [e2] at h
  rw [h]
  unfold sgn
  by_cases h1 : x.toInt < y.toInt
  · rw [if_pos h1, if_pos (by omega)]
  · rw [if_neg h1, if_neg (by omega)]
    by_cases h2 : x.toInt = y.toInt
    · rw [if_pos (by omega), if_neg (fun q => q h2)]
    · rw [if_neg (by omega), if_pos h2]
def cin (g : Int32) (a b : Nat) (S : mS) : Nat → Nat → Int64 → Int64
  | 0, _, acc => acc
  | n + 1, i, acc => cin g a b S n (i + 1) (if sgn (S.2.1 59 a) (S.2.1 59 (64 * b + i)) = g then acc + S.2.2 60 a * S.2.2 60 (64 * b + i) else acc)
def cou (g : Int32) (j b oc : Nat) (S : mS) : Nat → Nat → Int64 → Int64
  | 0, _, acc => acc
  | n + 1, i, acc => cou g j b oc S n (i + 1) (cin g (64 * j + i) b S oc 0 acc)
section CMP
variable {xt : mj_X} {ct : Nat → Value} {O : OR} {N z : Nat} {H : mj_H} {S : mS}
theorem L200_65_do {j oc : Nat} {hp : Int32} {fs : Option Nat} {tot : Int64} {os ws : List Value} {b oc2 : Nat} {hp2 : Int32} {fs2 : Option Nat} {tot2 : Int64} {os2 ws2 : List Value} {g : Int32} (r1 : slR z j H hp fs oc tot os ws) (r2 : rsV j oc tot os ws S) (rn : rsN j oc tot S) (s1 : slR z b H hp2 fs2 oc2 tot2 os2 ws2) (s2 : rsV b oc2 tot2 os2 ws2 S) (sn : rsN b oc2 tot2 S) {k : Nat} (hk : k < oc) : ∀ (n i : Nat) (acc : Int64), i + n = oc2 → t_lp (B200_65 xt ct O N) (n + 1) (g, z + 54 + 3 * j, z + 54 + 3 * b, acc, Int32.ofNat k, Int32.ofNat i, H) = some (.inl (g, z + 54 + 3 * j, z + 54 + 3 * b, cin g (64 * j + k) b S n i acc, Int32.ofNat (k + 1), H)) := by
  have hoc := r1.2.2.2.2.2
  have hoc2 := s1.2.2.2.2.2
  have g4 : gI H (z + 54 + 3 * b) 4 4 = some (Int32.ofNat oc2) := gI_of s1.1 rfl
  have g0 : gA H (z + 54 + 3 * j) 4 0 = some (z + 55 + 3 * j) := gA_of r1.1 rfl
  have g1 : gA H (z + 54 + 3 * j) 4 1 = some (z + 56 + 3 * j) := gA_of r1.1 rfl
  have f0 : gA H (z + 54 + 3 * b) 4 0 = some (z + 55 + 3 * b) := gA_of s1.1 rfl
  have f1 : gA H (z + 54 + 3 * b) 4 1 = some (z + 56 + 3 * b) := gA_of s1.1 rfl
  have e0 : ∀ i, i ≤ 64 → (Int32.ofNat i).toInt = i := fun i hi => i_nat (by omega)
  have kn : (Int32.ofNat k).toInt.toNat = k := by rw [e0 k (by omega)]; omega
  have k0 : 0 ≤ (Int32.ofNat k).toInt := by rw [e0 k (by omega)]; omega
  have a1 : aI xt H (z + 55 + 3 * j) (Int32.ofNat k) = some (S.2.1 59 (64 * j + k)) := aI_of r1.2.1 k0 (by rw [kn]; exact (r2.2.2.2.2 k hk).1)
  have a2 : aL xt H (z + 56 + 3 * j) (Int32.ofNat k) = some (S.2.2 60 (64 * j + k)) := aL_of r1.2.2.1 k0 (by rw [kn]; exact (r2.2.2.2.2 k hk).2)
  intro n
  induction n with
  | zero =>
    intro i acc hi
    have b : mj_c2 .ge (Int32.ofNat i) (Int32.ofNat oc2) = true := i_c2 (by show decide _ = true; apply decide_eq_true; rw [e0 i (by omega), e0 oc2 hoc2]; omega)
    rw [t_lp]
    simp only [B200_65, g4, b, cond_true, i_inc (k := k) (by omega), Option.bind_some, cin]
  | succ n ih =>
    intro i acc hi
    have bb : mj_c2 .ge (Int32.ofNat i) (Int32.ofNat oc2) = false := i_c2 (by show decide _ = false; apply decide_eq_false; rw [e0 i (by omega), e0 oc2 hoc2]; omega)
    have inn : (Int32.ofNat i).toInt.toNat = i := by rw [e0 i (by omega)]; omega
    have i0 : 0 ≤ (Int32.ofNat i).toInt := by rw [e0 i (by omega)]; omega
    have c1 : aI xt H (z + 55 + 3 * b) (Int32.ofNat i) = some (S.2.1 59 (64 * b + i)) := aI_of s1.2.1 i0 (by rw [inn]; exact (s2.2.2.2.2 i (by omega)).1)
    have c2 : aL xt H (z + 56 + 3 * b) (Int32.ofNat i) = some (S.2.2 60 (64 * b + i)) := aL_of s1.2.2.1 i0 (by rw [inn]; exact (s2.2.2.2.2 i (by omega)).2)
    have sg : C201 xt ct O N (S.2.1 59 (64 * j + k) - S.2.1 59 (64 * b + i)) H = some (sgn (S.2.1 59 (64 * j + k)) (S.2.1 59 (64 * b + i)), H) := by
      rw [← sg_do (rn.2.2.2 k hk) (sn.2.2.2 i (by omega))]
      rfl
    have fB : B200_65 xt ct O N (g, z + 54 + 3 * j, z + 54 + 3 * b, acc, Int32.ofNat k, Int32.ofNat i, H) = some (.inl (g, z + 54 + 3 * j, z + 54 + 3 * b, (if sgn (S.2.1 59 (64 * j + k)) (S.2.1 59 (64 * b + i)) = g then acc + S.2.2 60 (64 * j + k) * S.2.2 60 (64 * b + i) else acc), Int32.ofNat k, Int32.ofNat (i + 1), H)) := by
      by_cases hg : sgn (S.2.1 59 (64 * j + k)) (S.2.1 59 (64 * b + i)) = g
      · have bk : mj_c2 .ne (sgn (S.2.1 59 (64 * j + k)) (S.2.1 59 (64 * b + i))) g = false := decide_eq_false (fun z => z hg)
        simp only [B200_65, g4, bb, cond_false, g0, g1, f0, f1, a1, a2, c1, c2, sg, bk, if_pos hg, J200_121, i_inc (k := i) (by omega), Option.bind_some]
      · have bk : mj_c2 .ne (sgn (S.2.1 59 (64 * j + k)) (S.2.1 59 (64 * b + i))) g = true := decide_eq_true hg
        simp only [B200_65, g4, bb, cond_false, g0, f0, a1, c1, sg, bk, cond_true, if_neg hg, J200_121, i_inc (k := i) (by omega), Option.bind_some]
    rw [t_lp, fB]
    exact ih (i + 1) _ (by omega)
theorem L200_52_do (hN : 100 ≤ N) {j oc : Nat} {hp : Int32} {fs : Option Nat} {tot : Int64} {os ws : List Value} {b oc2 : Nat} {hp2 : Int32} {fs2 : Option Nat} {tot2 : Int64} {os2 ws2 : List Value} {g : Int32} (r1 : slR z j H hp fs oc tot os ws) (r2 : rsV j oc tot os ws S) (rn : rsN j oc tot S) (s1 : slR z b H hp2 fs2 oc2 tot2 os2 ws2) (s2 : rsV b oc2 tot2 os2 ws2 S) (sn : rsN b oc2 tot2 S) : ∀ (n i : Nat) (acc : Int64), i + n = oc → t_lp (B200_52 xt ct O N) (n + 1) (g, z + 54 + 3 * j, z + 54 + 3 * b, acc, Int32.ofNat i, H) = some (.inl (cou g j b oc2 S n i acc), H) := by
  have hoc := r1.2.2.2.2.2
  have hoc2 := s1.2.2.2.2.2
  have g4 : gI H (z + 54 + 3 * j) 4 4 = some (Int32.ofNat oc) := gI_of r1.1 rfl
  have e0 : ∀ i, i ≤ 64 → (Int32.ofNat i).toInt = i := fun i hi => i_nat (by omega)
  intro n
  induction n with
  | zero =>
    intro i acc hi
    have b : mj_c2 .ge (Int32.ofNat i) (Int32.ofNat oc) = true := i_c2 (by show decide _ = true; apply decide_eq_true; rw [e0 i (by omega), e0 oc hoc]; omega)
    rw [t_lp]
    simp only [B200_52, g4, b, cond_true, Option.bind_some, cou]
  | succ n ih =>
    intro i acc hi
    have bb : mj_c2 .ge (Int32.ofNat i) (Int32.ofNat oc) = false := i_c2 (by show decide _ = false; apply decide_eq_false; rw [e0 i (by omega), e0 oc hoc]; omega)
    have l : L200_65 xt ct O N (g, z + 54 + 3 * j, z + 54 + 3 * b, acc, Int32.ofNat i, 0, H) = some (.inl (g, z + 54 + 3 * j, z + 54 + 3 * b, cin g (64 * j + i) b S oc2 0 acc, Int32.ofNat (i + 1), H)) := t_lp_more _ _ _ (by omega) (L200_65_do (xt := xt) (ct := ct) (O := O) (N := N) r1 r2 rn s1 s2 sn (show i < oc by omega) oc2 0 acc (by omega))
    have fB : B200_52 xt ct O N (g, z + 54 + 3 * j, z + 54 + 3 * b, acc, Int32.ofNat i, H) = some (.inl (g, z + 54 + 3 * j, z + 54 + 3 * b, cin g (64 * j + i) b S oc2 0 acc, Int32.ofNat (i + 1), H)) := by
      simp only [B200_52, g4, bb, cond_false, l, Option.bind_some]
    rw [t_lp, fB]
    exact ih (i + 1) _ (by omega)
end CMP
