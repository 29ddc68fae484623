section CTP
variable {xt : mj_X} {ct : Nat → Value} {O : OR} {N : Nat} {H : mj_H} {a : Nat}
/-- an expression on the heap, with its factor -/
def fal (H : mj_H) (x f : Nat) : Prop := ∃ c n fs, H.1 x = some (.inr (c, fs)) ∧ df c = some n ∧ fs[n]? = some (.long (Int64.ofNat f))
theorem fal_g {x f : Nat} (h : fal H x f) : gFp H x df = some (Int64.ofNat f) := by
  obtain ⟨c, n, fs, h1, h2, h3⟩ := h
  exact gFp_of h1 h2 h3
/-- a minus sign -/
theorem C91_do {x f : Nat} {u w : Value} (hx : fal H x f) (h : H.1 a = some (.inr (6, [u, w]))) : C91 xt ct O N a x H = some (mj_put H a (.inr (6, [.ref x, .long (Int64.ofNat f)]))) := by
  have u0 : uFp H a df (Int64.ofNat f) = some (mj_put H a (.inr (6, [u, .long (Int64.ofNat f)]))) := by rw [uFp_of h rfl]; rfl
  have u1 : uF (mj_put H a (.inr (6, [u, .long (Int64.ofNat f)]))) a 6 0 (.ref x) = some (mj_put H a (.inr (6, [.ref x, .long (Int64.ofNat f)]))) := by rw [uF_of mj_put_eq, put_put]; rfl
  simp only [C91, C92, fal_g hx, gC_of h, u0, u1, Option.bind_some]
/-- an operation -/
theorem C109_do {x y f g : Nat} {s : Int32} {u v w t : Value} (hs : 0 ≤ s.toInt ∧ s.toInt ≤ 65535) (hx : fal H x f) (hy : fal H y g) (hf : f ≤ 2147483649) (hg : g ≤ 2147483649) (h : H.1 a = some (.inr (10, [u, v, w, t]))) : C109 xt ct O N a s x y H = some (mj_put H a (.inr (10, [.int s, .ref x, .ref y, .long (Int64.ofNat (prN f g))]))) := by
  have u0 : uFp H a df (Int64.ofNat (prN f g)) = some (mj_put H a (.inr (10, [u, v, w, .long (Int64.ofNat (prN f g))]))) := by rw [uFp_of h rfl]; rfl
  have u1 : uF (mj_put H a (.inr (10, [u, v, w, .long (Int64.ofNat (prN f g))]))) a 10 0 (.int s) = some (mj_put H a (.inr (10, [.int s, v, w, .long (Int64.ofNat (prN f g))]))) := by rw [uF_of mj_put_eq, put_put]; rfl
  have u2 : uF (mj_put H a (.inr (10, [.int s, v, w, .long (Int64.ofNat (prN f g))]))) a 10 1 (.ref x) = some (mj_put H a (.inr (10, [.int s, .ref x, w, .long (Int64.ofNat (prN f g))]))) := by rw [uF_of mj_put_eq, put_put]; rfl
  have u3 : uF (mj_put H a (.inr (10, [.int s, .ref x, w, .long (Int64.ofNat (prN f g))]))) a 10 2 (.ref y) = some (mj_put H a (.inr (10, [.int s, .ref x, .ref y, .long (Int64.ofNat (prN f g))]))) := by rw [uF_of mj_put_eq, put_put]; rfl
  simp only [C109, C92, fal_g hx, fal_g hy, C102_do hf hg, gC_of h, u0, if_pos (ch_fit hs), u1, u2, u3, Option.bind_some]
/-- a row of faces -/
theorem C106_do {x : Nat} {xs : List Value} {u w : Value} (hx : H.1 x = some (.inl (.int, xs))) (hl : xs.length ≤ 8) (h : H.1 a = some (.inr (9, [u, w]))) : C106 xt ct O N a x H = some (mj_put H a (.inr (9, [.ref x, .long (Int64.ofNat xs.length)]))) := by
  have el : (Int32.ofNat xs.length : Int32).toInt64 = Int64.ofNat xs.length := j_eq (by rw [Int32.toInt_toInt64]; exact i_nat (by omega))
  have u0 : uFp H a df (Int64.ofNat xs.length) = some (mj_put H a (.inr (9, [u, .long (Int64.ofNat xs.length)]))) := by rw [uFp_of h rfl]; rfl
  have u1 : uF (mj_put H a (.inr (9, [u, .long (Int64.ofNat xs.length)]))) a 9 0 (.ref x) = some (mj_put H a (.inr (9, [.ref x, .long (Int64.ofNat xs.length)]))) := by rw [uF_of mj_put_eq, put_put]; rfl
  simp only [C106, C92, aN_of hx, el, gC_of h, u0, u1, Option.bind_some]
end CTP
