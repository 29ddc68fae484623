/-! A STATEMENT'S CONSTRUCTOR -/
theorem chn_pos {H : mj_H} : ∀ (l : List (Nat × Nat)) (o : Option Nat), chn H l o → ∀ x ∈ l, 1 ≤ x.2 ∧ x.2 ≤ 2147483649 := by
  intro l
  induction l with
  | nil => intro o _ x hx; exact absurd hx List.not_mem_nil
  | cons y r ih =>
    intro o h x hx
    obtain ⟨-, hb, s, e, t, u, v, p, q, nx, h1, h2⟩ := h
    rcases List.mem_cons.mp hx with k | k
    · rw [k]; exact hb
    · exact ih nx h2 x k
theorem fold_pos : ∀ (l : List (Nat × Nat)) (acc : Nat), 1 ≤ acc → (∀ x ∈ l, 1 ≤ x.2) → 1 ≤ fold_ l acc
  | [], acc, h, _ => h
  | x :: r, acc, h, k => fold_pos r _ (prN_pos h (k x List.mem_cons_self)) (fun y hy => k y (List.mem_cons_of_mem _ hy))
section STC
variable {xt : mj_X} {ct : Nat → Value} {O : OR} {N : Nat}
theorem C111_do (hN : 2000 ≤ N) {H : mj_H} {a e fe tm : Nat} {c : Int32} {o1 o2 : Option Nat} {l1 l2 : List (Nat × Nat)} {v0 v1 v2 v3 v4 v5 v6 v7 v8 : Value} (hc : 0 ≤ c.toInt ∧ c.toInt ≤ 65535) (h : H.1 a = some (.inr (11, [v0, v1, v2, v3, v4, v5, v6, v7, v8]))) (h1 : chn H l1 o1) (h2 : chn H l2 o2) (n1 : ∀ x ∈ l1, x.1 ≠ a) (n2 : ∀ x ∈ l2, x.1 ≠ a) (hl1 : l1.length ≤ 1000) (hl2 : l2.length ≤ 1000) (he : fal H e fe) (hfe : fe ≤ 2147483649) (hea : e ≠ a) (htm : tm ≤ 1000) : C111 xt ct O N a c e (Int32.ofNat tm) o1 o2 H = some (mj_put H a (.inr (11, [.int c, .ref e, .int (Int32.ofNat tm), rv o1, rv o2, .long (Int64.ofNat (if c = 42 then pwN (fold_ l1 1) tm 1 else prN fe (mlN (fold_ l1 1) (fold_ l2 1)))), .long (Int64.ofNat (mlN (fold_ l1 1) (fold_ l2 1) / fold_ l1 1)), .long (Int64.ofNat (mlN (fold_ l1 1) (fold_ l2 1) / fold_ l2 1)), rv none]))) := by
  have p1 : 1 ≤ fold_ l1 1 := fold_pos l1 1 (by decide) (fun x hx => (chn_pos l1 o1 h1 x hx).1)
  have p2 : 1 ≤ fold_ l2 1 := fold_pos l2 1 (by decide) (fun x hx => (chn_pos l2 o2 h2 x hx).1)
  have b1 : fold_ l1 1 ≤ 2147483649 := fold_bd l1 1 (by decide)
  have b2 : fold_ l2 1 ≤ 2147483649 := fold_bd l2 1 (by decide)
  obtain ⟨f1, hf1⟩ : ∃ f, fold_ l1 1 = f := ⟨_, rfl⟩
  obtain ⟨f2, hf2⟩ : ∃ f, fold_ l2 1 = f := ⟨_, rfl⟩
  obtain ⟨both, hb⟩ : ∃ f, mlN f1 f2 = f := ⟨_, rfl⟩
  have hbb : both ≤ 2147483649 := by rw [← hb]; exact prN_le
  have ch1 : ∀ ev, chn (mj_put H a ev) l1 o1 := fun ev => chn_fr l1 o1 (fun x hx => mj_put_ne (n1 x hx)) h1
  have ch2 : ∀ ev, chn (mj_put H a ev) l2 o2 := fun ev => chn_fr l2 o2 (fun x hx => mj_put_ne (n2 x hx)) h2
  have fe' : ∀ ev, gFp (mj_put H a ev) e df = some (Int64.ofNat fe) := by
    intro ev
    obtain ⟨cc, n, fs, k1, k2, k3⟩ := he
    exact gFp_of ((mj_put_ne hea).trans k1) k2 k3
  rw [hf1, hf2, hb]
  have u0 : uF H a 11 8 (rv none) = some (mj_put H a (.inr (11, [v0, v1, v2, v3, v4, v5, v6, v7, rv none]))) := by rw [uF_of h]; rfl
  have u1 : uF (mj_put H a (.inr (11, [v0, v1, v2, v3, v4, v5, v6, v7, rv none]))) a 11 0 (.int c) = some (mj_put H a (.inr (11, [.int c, v1, v2, v3, v4, v5, v6, v7, rv none]))) := by rw [uF_of mj_put_eq, put_put]; rfl
  have u2 : uF (mj_put H a (.inr (11, [.int c, v1, v2, v3, v4, v5, v6, v7, rv none]))) a 11 1 (.ref e) = some (mj_put H a (.inr (11, [.int c, .ref e, v2, v3, v4, v5, v6, v7, rv none]))) := by rw [uF_of mj_put_eq, put_put]; rfl
  have u3 : uF (mj_put H a (.inr (11, [.int c, .ref e, v2, v3, v4, v5, v6, v7, rv none]))) a 11 2 (.int (Int32.ofNat tm)) = some (mj_put H a (.inr (11, [.int c, .ref e, .int (Int32.ofNat tm), v3, v4, v5, v6, v7, rv none]))) := by rw [uF_of mj_put_eq, put_put]; rfl
  have u4 : uF (mj_put H a (.inr (11, [.int c, .ref e, .int (Int32.ofNat tm), v3, v4, v5, v6, v7, rv none]))) a 11 3 (rv o1) = some (mj_put H a (.inr (11, [.int c, .ref e, .int (Int32.ofNat tm), rv o1, v4, v5, v6, v7, rv none]))) := by rw [uF_of mj_put_eq, put_put]; rfl
  have u5 : uF (mj_put H a (.inr (11, [.int c, .ref e, .int (Int32.ofNat tm), rv o1, v4, v5, v6, v7, rv none]))) a 11 4 (rv o2) = some (mj_put H a (.inr (11, [.int c, .ref e, .int (Int32.ofNat tm), rv o1, rv o2, v5, v6, v7, rv none]))) := by rw [uF_of mj_put_eq, put_put]; rfl
  have c1 := C112_do (xt := xt) (ct := ct) (O := O) (N := N) hN (ch1 (.inr (11, [.int c, .ref e, .int (Int32.ofNat tm), rv o1, rv o2, v5, v6, v7, rv none]))) hl1
  have c2 := C112_do (xt := xt) (ct := ct) (O := O) (N := N) hN (ch2 (.inr (11, [.int c, .ref e, .int (Int32.ofNat tm), rv o1, rv o2, v5, v6, v7, rv none]))) hl2
  rw [hf1] at c1 p1 b1
  rw [hf2] at c2 p2 b2
  have c3 := C113_do (xt := xt) (ct := ct) (O := O) (N := N) (H := mj_put H a (.inr (11, [.int c, .ref e, .int (Int32.ofNat tm), rv o1, rv o2, v5, v6, v7, rv none]))) hN ⟨p1, b1⟩ ⟨p2, b2⟩
  rw [hb] at c3
  have c4 := C115_do (xt := xt) (ct := ct) (O := O) (N := N) (H := mj_put H a (.inr (11, [.int c, .ref e, .int (Int32.ofNat tm), rv o1, rv o2, v5, v6, v7, rv none]))) (x := both) (y := f1) (by omega) p1 (by omega)
  have u6 : uF (mj_put H a (.inr (11, [.int c, .ref e, .int (Int32.ofNat tm), rv o1, rv o2, v5, v6, v7, rv none]))) a 11 6 (.long (Int64.ofNat (both / f1))) = some (mj_put H a (.inr (11, [.int c, .ref e, .int (Int32.ofNat tm), rv o1, rv o2, v5, .long (Int64.ofNat (both / f1)), v7, rv none]))) := by rw [uF_of mj_put_eq, put_put]; rfl
  have c5 := C115_do (xt := xt) (ct := ct) (O := O) (N := N) (H := mj_put H a (.inr (11, [.int c, .ref e, .int (Int32.ofNat tm), rv o1, rv o2, v5, .long (Int64.ofNat (both / f1)), v7, rv none]))) (x := both) (y := f2) (by omega) p2 (by omega)
  have u7 : uF (mj_put H a (.inr (11, [.int c, .ref e, .int (Int32.ofNat tm), rv o1, rv o2, v5, .long (Int64.ofNat (both / f1)), v7, rv none]))) a 11 7 (.long (Int64.ofNat (both / f2))) = some (mj_put H a (.inr (11, [.int c, .ref e, .int (Int32.ofNat tm), rv o1, rv o2, v5, .long (Int64.ofNat (both / f1)), .long (Int64.ofNat (both / f2)), rv none]))) := by rw [uF_of mj_put_eq, put_put]; rfl
  have u8 : ∀ x : Int64, uF (mj_put H a (.inr (11, [.int c, .ref e, .int (Int32.ofNat tm), rv o1, rv o2, v5, .long (Int64.ofNat (both / f1)), .long (Int64.ofNat (both / f2)), rv none]))) a 11 5 (.long x) = some (mj_put H a (.inr (11, [.int c, .ref e, .int (Int32.ofNat tm), rv o1, rv o2, .long x, .long (Int64.ofNat (both / f1)), .long (Int64.ofNat (both / f2)), rv none]))) := by
    intro x
    rw [uF_of mj_put_eq, put_put]
    rfl
  by_cases h42 : c = 42
  · have d : mj_c2 .ne c 42 = false := decide_eq_false (fun q => q h42)
    have c6 := C101_do (xt := xt) (ct := ct) (O := O) (N := N) (H := mj_put H a (.inr (11, [.int c, .ref e, .int (Int32.ofNat tm), rv o1, rv o2, v5, .long (Int64.ofNat (both / f1)), .long (Int64.ofNat (both / f2)), rv none]))) hN (a := f1) (t := tm) ⟨p1, b1⟩ htm
    rw [if_pos h42]
    simp only [C111, u0, if_pos (ch_fit hc), u1, u2, u3, u4, u5, c1, c2, c3, c4, u6, c5, u7, d, cond_false, c6, J111_106, u8, Option.bind_some]
  · have d : mj_c2 .ne c 42 = true := decide_eq_true h42
    have c6 := C102_do (xt := xt) (ct := ct) (O := O) (N := N) (H := mj_put H a (.inr (11, [.int c, .ref e, .int (Int32.ofNat tm), rv o1, rv o2, v5, .long (Int64.ofNat (both / f1)), .long (Int64.ofNat (both / f2)), rv none]))) hfe hbb
    rw [if_neg h42]
    simp only [C111, u0, if_pos (ch_fit hc), u1, u2, u3, u4, u5, c1, c2, c3, c4, u6, c5, u7, d, cond_true, fe', c6, J111_106, u8, Option.bind_some]
end STC
