/-! CONSTRUCTORS OF EXPRESSIONS -/
section CTO
variable {xt : mj_X} {ct : Nat → Value} {O : OR} {N : Nat} {H : mj_H} {a : Nat}
theorem uFp_of {c n : Nat} {fs : List Value} {x : Int64} (h : H.1 a = some (.inr (c, fs))) (hd : df c = some n) : uFp H a df x = some (mj_put H a (.inr (c, fs.set n (.long x)))) := by
  unfold uFp
  rw [h]
  dsimp only
  rw [hd]
  rfl
theorem gFp_of {c n : Nat} {fs : List Value} {x : Int64} (h : H.1 a = some (.inr (c, fs))) (hd : df c = some n) (hv : fs[n]? = some (.long x)) : gFp H a df = some x := by
  unfold gFp
  rw [h]
  dsimp only
  rw [hd]
  show (fs[n]?).bind vtL = _
  rw [hv]
  rfl
theorem put_put {e e' : mj_E} : mj_put (mj_put H a e) a e' = mj_put H a e' := by
  unfold mj_put mj_up
  congr 1
  funext q
  by_cases h : q = a
  · rw [if_pos h, if_pos h]
  · rw [if_neg h, if_neg h]
    exact if_neg h
theorem ch_fit {c : Int32} (h : 0 ≤ c.toInt ∧ c.toInt ≤ 65535) : narrow .char (.int c) = .int c ∧ fits .char (.int c) = true := by
  refine ⟨n_char h, ?_⟩
  show (decide (0 ≤ c) && decide (c ≤ 65535)) = true
  rw [decide_eq_true (Int32.le_iff_toInt_le.mpr (by rw [q_0]; omega)), decide_eq_true (Int32.le_iff_toInt_le.mpr (by rw [show (65535 : Int32).toInt = 65535 from rfl]; omega))]
  rfl
/-- a name or a number -/
theorem C97_do {x y z : Value} {n m : Int32} (h : H.1 a = some (.inr (7, [x, y, z]))) : C97 xt ct O N a n m H = some (mj_put H a (.inr (7, [.int n, .int m, .long 1]))) := by
  have u1 : uFp H a df 1 = some (mj_put H a (.inr (7, [x, y, .long 1]))) := by rw [uFp_of h rfl]; rfl
  have u2 : uF (mj_put H a (.inr (7, [x, y, .long 1]))) a 7 0 (.int n) = some (mj_put H a (.inr (7, [.int n, y, .long 1]))) := by rw [uF_of mj_put_eq, put_put]; rfl
  have u3 : uF (mj_put H a (.inr (7, [.int n, y, .long 1]))) a 7 1 (.int m) = some (mj_put H a (.inr (7, [.int n, .int m, .long 1]))) := by rw [uF_of mj_put_eq, put_put]; rfl
  simp only [C97, C92, gC_of h, u1, u2, u3, Option.bind_some]
/-- dice -/
theorem C100_do (hN : 2000 ≤ N) {n m k : Nat} {pick : Int32} (hm : 1 ≤ m ∧ m ≤ 20) (hn : n ≤ 6) (hk : k ≤ 6) (hp : 0 ≤ pick.toInt ∧ pick.toInt ≤ 65535) (h : H.1 a = some (.inr (8, [.int 0, .int 0, .int 0, .int 0, .null, .long 0]))) : C100 xt ct O N a (Int32.ofNat n) (Int32.ofNat m) pick (Int32.ofNat k) H = some (mj_put H a (.inr (8, [.int (Int32.ofNat n), .int (Int32.ofNat m), .int pick, .int (Int32.ofNat k), .null, .long (Int64.ofNat (pwN m (if pick = 101 then k + 1 else n) 1))]))) := by
  have em : (Int32.ofNat m : Int32).toInt64 = Int64.ofNat m := j_eq (by rw [Int32.toInt_toInt64]; exact i_nat (by omega))
  have main : ∀ t : Nat, t ≤ 7 → J100_17 xt ct O N a (Int32.ofNat n) (Int32.ofNat m) pick (Int32.ofNat k) (Int32.ofNat t) (Int64.ofNat m) a H = some (mj_put H a (.inr (8, [.int (Int32.ofNat n), .int (Int32.ofNat m), .int pick, .int (Int32.ofNat k), .null, .long (Int64.ofNat (pwN m t 1))]))) := by
    intro t ht
    obtain ⟨W, hW⟩ : ∃ W, Int64.ofNat (pwN m t 1) = W := ⟨_, rfl⟩
    have c101 := C101_do (xt := xt) (ct := ct) (O := O) (N := N) (H := H) hN (a := m) (t := t) (by omega) (by omega)
    rw [hW] at c101 ⊢
    have u0 : uFp H a df W = some (mj_put H a (.inr (8, [.int 0, .int 0, .int 0, .int 0, .null, .long W]))) := by rw [uFp_of h rfl]; rfl
    have u1 : uF (mj_put H a (.inr (8, [.int 0, .int 0, .int 0, .int 0, .null, .long W]))) a 8 4 (rv none) = some (mj_put H a (.inr (8, [.int 0, .int 0, .int 0, .int 0, .null, .long W]))) := by rw [uF_of mj_put_eq, put_put]; rfl
    have u2 : uF (mj_put H a (.inr (8, [.int 0, .int 0, .int 0, .int 0, .null, .long W]))) a 8 0 (.int (Int32.ofNat n)) = some (mj_put H a (.inr (8, [.int (Int32.ofNat n), .int 0, .int 0, .int 0, .null, .long W]))) := by rw [uF_of mj_put_eq, put_put]; rfl
    have u3 : uF (mj_put H a (.inr (8, [.int (Int32.ofNat n), .int 0, .int 0, .int 0, .null, .long W]))) a 8 1 (.int (Int32.ofNat m)) = some (mj_put H a (.inr (8, [.int (Int32.ofNat n), .int (Int32.ofNat m), .int 0, .int 0, .null, .long W]))) := by rw [uF_of mj_put_eq, put_put]; rfl
    have u4 : uF (mj_put H a (.inr (8, [.int (Int32.ofNat n), .int (Int32.ofNat m), .int 0, .int 0, .null, .long W]))) a 8 2 (.int pick) = some (mj_put H a (.inr (8, [.int (Int32.ofNat n), .int (Int32.ofNat m), .int pick, .int 0, .null, .long W]))) := by rw [uF_of mj_put_eq, put_put]; rfl
    have u5 : uF (mj_put H a (.inr (8, [.int (Int32.ofNat n), .int (Int32.ofNat m), .int pick, .int 0, .null, .long W]))) a 8 3 (.int (Int32.ofNat k)) = some (mj_put H a (.inr (8, [.int (Int32.ofNat n), .int (Int32.ofNat m), .int pick, .int (Int32.ofNat k), .null, .long W]))) := by rw [uF_of mj_put_eq, put_put]; rfl
    simp only [J100_17, C92, c101, gC_of h, u0, u1, u2, u3, if_pos (ch_fit hp), u4, u5, Option.bind_some]
  by_cases e : pick = 101
  · have b : mj_c2 .ne pick 101 = false := decide_eq_false (fun q => q e)
    rw [if_pos e, ← main (k + 1) (by omega)]
    simp only [C100, b, cond_false, em, i_inc (k := k) (by omega)]
  · have b : mj_c2 .ne pick 101 = true := decide_eq_true e
    rw [if_neg e, ← main n (by omega)]
    simp only [C100, b, cond_true, em]
end CTO
