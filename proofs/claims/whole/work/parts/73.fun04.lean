def LG264_3 (xt : mj_X) (ct : Nat → Value) (a : Nat) (ra : Nat → Nat) (d : Nat) (q : mS) (x1 : Int32) (x2 : Int32) (x3 : Int32) (x4 : Int32) (x5 : Int32) (S : mS) : Prop := ∀ l, mj_ld l 0 = some (.ref a) → mj_ld l 1 = some (.int x1) → mj_ld l 2 = some (.int x2) → mj_ld l 3 = some (.int x3) → mj_ld l 4 = some (.int x4) → mj_ld l 5 = some (.int x5) → MR xt ct a ra (d + 2) 264 3 l [] S (.inl none) q
def GG264_3 (xt : mj_X) (ct : Nat → Value) (a : Nat) (ra : Nat → Nat) (d : Nat) (q : mS) (o : (Int32 × Int32 × Int32 × Int32 × Int32 × mS) ⊕ (mS)) : Prop := match o with
  | .inl (x1, x2, x3, x4, x5, S) => LG264_3 xt ct a ra d q x1 x2 x3 x4 x5 S
  | .inr r => r = q
def LG264_26 (xt : mj_X) (ct : Nat → Value) (a : Nat) (ra : Nat → Nat) (d : Nat) (q : mS) (x1 : Int32) (x3 : Int32) (x4 : Int32) (x5 : Int32) (S : mS) : Prop := ∀ l, mj_ld l 0 = some (.ref a) → mj_ld l 1 = some (.int x1) → mj_ld l 3 = some (.int x3) → mj_ld l 4 = some (.int x4) → mj_ld l 5 = some (.int x5) → MR xt ct a ra (d + 2) 264 26 l [] S (.inl none) q
def GG264_26 (xt : mj_X) (ct : Nat → Value) (a : Nat) (ra : Nat → Nat) (d : Nat) (q : mS) (o : (Int32 × Int32 × Int32 × Int32 × mS) ⊕ (mS)) : Prop := match o with
  | .inl (x1, x3, x4, x5, S) => LG264_26 xt ct a ra d q x1 x3 x4 x5 S
  | .inr r => r = q
def LG264_37 (xt : mj_X) (ct : Nat → Value) (a : Nat) (ra : Nat → Nat) (d : Nat) (q : mS) (x1 : Int32) (x3 : Int32) (x4 : Int32) (x6 : Int32) (x7 : Int32) (S : mS) : Prop := ∀ l, mj_ld l 0 = some (.ref a) → mj_ld l 1 = some (.int x1) → mj_ld l 3 = some (.int x3) → mj_ld l 4 = some (.int x4) → mj_ld l 6 = some (.int x6) → mj_ld l 7 = some (.int x7) → MR xt ct a ra (d + 2) 264 37 l [] S (.inl none) q
def GG264_37 (xt : mj_X) (ct : Nat → Value) (a : Nat) (ra : Nat → Nat) (d : Nat) (q : mS) (o : (Int32 × Int32 × Int32 × Int32 × Int32 × mS) ⊕ ((Int32 × Int32 × Int32 × Int32 × mS) ⊕ (mS))) : Prop := match o with
  | .inl (x1, x3, x4, x6, x7, S) => LG264_37 xt ct a ra d q x1 x3 x4 x6 x7 S
  | .inr r => GG264_26 xt ct a ra d q r
def LG264_131 (xt : mj_X) (ct : Nat → Value) (a : Nat) (ra : Nat → Nat) (d : Nat) (q : mS) (x1 : Int32) (x3 : Int32) (x4 : Int32) (x7 : Int32) (S : mS) : Prop := ∀ l, mj_ld l 0 = some (.ref a) → mj_ld l 1 = some (.int x1) → mj_ld l 3 = some (.int x3) → mj_ld l 4 = some (.int x4) → mj_ld l 7 = some (.int x7) → MR xt ct a ra (d + 2) 264 131 l [] S (.inl none) q
def GG264_131 (xt : mj_X) (ct : Nat → Value) (a : Nat) (ra : Nat → Nat) (d : Nat) (q : mS) (o : (Int32 × Int32 × Int32 × Int32 × mS) ⊕ ((Int32 × Int32 × Int32 × Int32 × mS) ⊕ (mS))) : Prop := match o with
  | .inl (x1, x3, x4, x7, S) => LG264_131 xt ct a ra d q x1 x3 x4 x7 S
  | .inr r => GG264_26 xt ct a ra d q r
def J264_206 (N : Nat) (x1 : Int32) (x3 : Int32) (x4 : Int32) (x5 : Int32)  (S : mS) : Option ((Int32 × Int32 × Int32 × Int32 × mS) ⊕ (mS)) :=
  some (.inl (x1, x3, x4, x5, S))
theorem J264_206_ok {xt : mj_X} {ct : Nat → Value} {a : Nat} {ra : Nat → Nat} {d N : Nat} {l : mj_L} {x1 : Int32} {x3 : Int32} {x4 : Int32} {x5 : Int32}  {S : mS} {o : (Int32 × Int32 × Int32 × Int32 × mS) ⊕ (mS)} {q : mS} (h0 : mj_ld l 0 = some (.ref a)) (h1 : mj_ld l 1 = some (.int x1)) (h3 : mj_ld l 3 = some (.int x3)) (h4 : mj_ld l 4 = some (.int x4)) (h5 : mj_ld l 5 = some (.int x5)) (e : J264_206 N x1 x3 x4 x5  S = some o) (g : GG264_26 xt ct a ra d q o) : MR xt ct a ra (d + 2) 264 206 l [] S (.inl none) q := by
  unfold J264_206 at e
  exact (
  M_of (fun _ _ H => r_goto c264_206 <| H) <|
  t_rg e g (fun (e : LG264_26 xt ct a ra d q x1 x3 x4 x5 S) => e _ h0 h1 h3 h4 h5))
def LG264_185 (xt : mj_X) (ct : Nat → Value) (a : Nat) (ra : Nat → Nat) (d : Nat) (q : mS) (x1 : Int32) (x3 : Int32) (x4 : Int32) (x5 : Int32) (x8 : Int32) (x9 : Int32) (S : mS) : Prop := ∀ l, mj_ld l 0 = some (.ref a) → mj_ld l 1 = some (.int x1) → mj_ld l 3 = some (.int x3) → mj_ld l 4 = some (.int x4) → mj_ld l 5 = some (.int x5) → mj_ld l 8 = some (.int x8) → mj_ld l 9 = some (.int x9) → MR xt ct a ra (d + 2) 264 185 l [] S (.inl none) q
def GG264_185 (xt : mj_X) (ct : Nat → Value) (a : Nat) (ra : Nat → Nat) (d : Nat) (q : mS) (o : (Int32 × Int32 × Int32 × Int32 × Int32 × Int32 × mS) ⊕ ((Int32 × Int32 × Int32 × Int32 × mS) ⊕ (mS))) : Prop := match o with
  | .inl (x1, x3, x4, x5, x8, x9, S) => LG264_185 xt ct a ra d q x1 x3 x4 x5 x8 x9 S
  | .inr r => GG264_26 xt ct a ra d q r
def B264_185 (N : Nat) (s : Int32 × Int32 × Int32 × Int32 × Int32 × Int32 × mS) : Option ((Int32 × Int32 × Int32 × Int32 × Int32 × Int32 × mS) ⊕ ((Int32 × Int32 × Int32 × Int32 × mS) ⊕ (mS))) :=
  bif mj_c2 .ge s.2.2.2.2.2.1 s.1 then
    (J264_206 N s.1 s.2.1 s.2.2.1 s.2.2.2.1 s.2.2.2.2.2.2).map Sum.inr
  else
  if 0 ≤ (s.2.2.2.2.2.1).toInt ∧ (s.2.2.2.2.2.1).toInt < mN 37 then
  some (.inl (s.1, s.2.1, s.2.2.1, s.2.2.2.1, s.2.2.2.2.1, (s.2.2.2.2.2.1 + 1), (m_sA s.2.2.2.2.2.2 37 (s.2.2.2.2.2.1).toInt.toNat s.2.2.2.2.1)))
  else none
def L264_185 (N : Nat) (s : Int32 × Int32 × Int32 × Int32 × Int32 × Int32 × mS) : Option ((Int32 × Int32 × Int32 × Int32 × mS) ⊕ (mS)) := t_lp (B264_185 N) N s
theorem B264_185_ok {xt : mj_X} {ct : Nat → Value} {a : Nat} {ra : Nat → Nat} {d N : Nat} {s : Int32 × Int32 × Int32 × Int32 × Int32 × Int32 × mS} {o : (Int32 × Int32 × Int32 × Int32 × Int32 × Int32 × mS) ⊕ ((Int32 × Int32 × Int32 × Int32 × mS) ⊕ (mS))} {q : mS} (e : B264_185 N s = some o) (g : GG264_185 xt ct a ra d q o) : LG264_185 xt ct a ra d q s.1 s.2.1 s.2.2.1 s.2.2.2.1 s.2.2.2.2.1 s.2.2.2.2.2.1 s.2.2.2.2.2.2 := by
  unfold B264_185 at e
  exact (fun l h0 h1 h3 h4 h5 h8 h9 =>
  M_of (fun _ _ H => r_iload c264_185 h9 <| r_iloadn c264_187 h1 <| H) <|
  t_if e (fun b22 e23 =>
    M_of (fun _ _ H => r_icmpT c264_188 b22 <| H) <|
    t_up e23 fun o24 e25 u26 =>
    (fun (g27 : GG264_26 xt ct a ra d q o24) =>
    J264_206_ok h0 h1 h3 h4 h5 e25 g27
    ) (by have := g; rw [u26] at this; exact this)
  ) (fun b22 e23 =>
    M_of (fun _ _ H => r_icmpF c264_188 b22 <| H) <|
    M_of (fun _ _ H => r_aloadn c264_191 h0 <| H) <|
    M_geta (j := 37) c264_192 (by decide) <|
    M_of (fun _ _ H => r_iload c264_195 h9 <| r_iload c264_197 h8 <| H) <|
    t_ck e23 fun i28 e29 =>
    M_iast (j := 37) c264_199 (by decide) i28 <|
    M_of (fun _ _ H => r_iinc c264_200 h9 <| r_goto c264_203 <| H) <|
    t_rg e29 g (fun (e : LG264_185 xt ct a ra d q s.1 s.2.1 s.2.2.1 s.2.2.2.1 s.2.2.2.2.1 (s.2.2.2.2.2.1 + 1) (m_sA s.2.2.2.2.2.2 37 (s.2.2.2.2.2.1).toInt.toNat s.2.2.2.2.1)) => e _ (ld1_ne h0 (by decide) (Or.inl (by decide))) (ld1_ne h1 (by decide) (Or.inl (by decide))) (ld1_ne h3 (by decide) (Or.inl (by decide))) (ld1_ne h4 (by decide) (Or.inl (by decide))) (ld1_ne h5 (by decide) (Or.inl (by decide))) (ld1_ne h8 (by decide) (Or.inr rfl)) ld1_eq)
  ))
theorem L264_185_ok {xt : mj_X} {ct : Nat → Value} {a : Nat} {ra : Nat → Nat} {d N : Nat} {x1 : Int32} {x3 : Int32} {x4 : Int32} {x5 : Int32} {x8 : Int32} {x9 : Int32} {S : mS} {o : (Int32 × Int32 × Int32 × Int32 × mS) ⊕ (mS)} {q : mS} (e : L264_185 N (x1, x3, x4, x5, x8, x9, S) = some o) (g : GG264_26 xt ct a ra d q o) : LG264_185 xt ct a ra d q x1 x3 x4 x5 x8 x9 S :=
  t_lp_ok (G := fun s => LG264_185 xt ct a ra d q s.1 s.2.1 s.2.2.1 s.2.2.2.1 s.2.2.2.2.1 s.2.2.2.2.2.1 s.2.2.2.2.2.2) (fun s s' e g => B264_185_ok e (by obtain ⟨_, _, _, _, _, _, _⟩ := s'; exact g)) (fun s e => B264_185_ok e g) N (x1, x3, x4, x5, x8, x9, S) e
def J264_163 (N : Nat) (x1 : Int32) (x3 : Int32) (x4 : Int32) (x7 : Int32) (s0 : Int32) (S : mS) : Option ((Int32 × Int32 × Int32 × Int32 × mS) ⊕ (mS)) :=
  bif mj_c1 .eq s0 then
    J264_206 N x1 x3 x4 s0 S
  else
  if 0 ≤ (x7).toInt ∧ (x7).toInt < mN 37 then
  L264_185 N (x1, x3, x4, s0, ((S.2.1 37 (x7).toInt.toNat) - 1), x7, S)
  else none
theorem J264_163_ok {xt : mj_X} {ct : Nat → Value} {a : Nat} {ra : Nat → Nat} {d N : Nat} {l : mj_L} {x1 : Int32} {x3 : Int32} {x4 : Int32} {x7 : Int32} {s0 : Int32} {S : mS} {o : (Int32 × Int32 × Int32 × Int32 × mS) ⊕ (mS)} {q : mS} (h0 : mj_ld l 0 = some (.ref a)) (h1 : mj_ld l 1 = some (.int x1)) (h3 : mj_ld l 3 = some (.int x3)) (h4 : mj_ld l 4 = some (.int x4)) (h7 : mj_ld l 7 = some (.int x7)) (e : J264_163 N x1 x3 x4 x7 s0 S = some o) (g : GG264_26 xt ct a ra d q o) : MR xt ct a ra (d + 2) 264 163 l [.int s0] S (.inl none) q := by
  unfold J264_163 at e
  exact (
  M_of (fun _ _ H => r_istore c264_163 <| r_iload c264_165 ld1_eq <| H) <|
  t_if e (fun b18 e19 =>
    M_of (fun _ _ H => r_ifT c264_167 b18 <| H) <|
    J264_206_ok (ld1_ne h0 (by decide) (Or.inl (by decide))) (ld1_ne h1 (by decide) (Or.inl (by decide))) (ld1_ne h3 (by decide) (Or.inl (by decide))) (ld1_ne h4 (by decide) (Or.inr rfl)) ld1_eq e19 g
  ) (fun b18 e19 =>
    M_of (fun _ _ H => r_ifF c264_167 b18 <| H) <|
    M_of (fun _ _ H => r_aloadn c264_170 (ld1_ne h0 (by decide) (Or.inl (by decide))) <| H) <|
    M_geta (j := 37) c264_171 (by decide) <|
    M_of (fun _ _ H => r_iload c264_174 (ld1_ne h7 (by decide) (Or.inl (by decide))) <| H) <|
    t_ck e19 fun i20 e21 =>
    M_iald (j := 37) (v := (S.2.1 37 (x7).toInt.toNat)) c264_176 (by decide) i20 rfl <|
    M_of (fun _ _ H => r_iconst c264_177 <| r_isub c264_178 rfl <| r_istore c264_179 <| r_iload c264_181 (ld1_ne (ld1_ne h7 (by decide) (Or.inl (by decide))) (by decide) (Or.inr rfl)) <| r_istore c264_183 <| H) <|
    L264_185_ok e21 g _ (ld1_ne (ld1_ne (ld1_ne h0 (by decide) (Or.inl (by decide))) (by decide) (Or.inl (by decide))) (by decide) (Or.inl (by decide))) (ld1_ne (ld1_ne (ld1_ne h1 (by decide) (Or.inl (by decide))) (by decide) (Or.inl (by decide))) (by decide) (Or.inl (by decide))) (ld1_ne (ld1_ne (ld1_ne h3 (by decide) (Or.inl (by decide))) (by decide) (Or.inl (by decide))) (by decide) (Or.inl (by decide))) (ld1_ne (ld1_ne (ld1_ne h4 (by decide) (Or.inr rfl)) (by decide) (Or.inl (by decide))) (by decide) (Or.inl (by decide))) (ld1_ne (ld1_ne ld1_eq (by decide) (Or.inl (by decide))) (by decide) (Or.inl (by decide))) (ld1_ne ld1_eq (by decide) (Or.inr rfl)) ld1_eq
  ))
def J264_153 (N : Nat) (x1 : Int32) (x3 : Int32) (x4 : Int32) (x7 : Int32)  (S : mS) : Option ((Int32 × Int32 × Int32 × Int32 × mS) ⊕ (mS)) :=
  bif mj_c1 .lt x7 then
    J264_163 N x1 x3 x4 x7 0 S
  else
  J264_163 N x1 x3 x4 x7 1 S
theorem J264_153_ok {xt : mj_X} {ct : Nat → Value} {a : Nat} {ra : Nat → Nat} {d N : Nat} {l : mj_L} {x1 : Int32} {x3 : Int32} {x4 : Int32} {x7 : Int32}  {S : mS} {o : (Int32 × Int32 × Int32 × Int32 × mS) ⊕ (mS)} {q : mS} (h0 : mj_ld l 0 = some (.ref a)) (h1 : mj_ld l 1 = some (.int x1)) (h3 : mj_ld l 3 = some (.int x3)) (h4 : mj_ld l 4 = some (.int x4)) (h7 : mj_ld l 7 = some (.int x7)) (e : J264_153 N x1 x3 x4 x7  S = some o) (g : GG264_26 xt ct a ra d q o) : MR xt ct a ra (d + 2) 264 153 l [] S (.inl none) q := by
  unfold J264_153 at e
  exact (
  M_of (fun _ _ H => r_iload c264_153 h7 <| H) <|
  t_if e (fun b16 e17 =>
    M_of (fun _ _ H => r_ifT c264_155 b16 <| H) <|
    M_of (fun _ _ H => r_iconst c264_162 <| H) <|
    J264_163_ok h0 h1 h3 h4 h7 e17 g
  ) (fun b16 e17 =>
    M_of (fun _ _ H => r_ifF c264_155 b16 <| H) <|
    M_of (fun _ _ H => r_iconst c264_158 <| r_goto c264_159 <| H) <|
    J264_163_ok h0 h1 h3 h4 h7 e17 g
  ))
def B264_131 (N : Nat) (s : Int32 × Int32 × Int32 × Int32 × mS) : Option ((Int32 × Int32 × Int32 × Int32 × mS) ⊕ ((Int32 × Int32 × Int32 × Int32 × mS) ⊕ (mS))) :=
  bif mj_c1 .lt s.2.2.2.1 then
    (J264_153 N s.1 s.2.1 s.2.2.1 s.2.2.2.1 s.2.2.2.2).map Sum.inr
  else
  if 0 ≤ (s.2.2.2.1).toInt ∧ (s.2.2.2.1).toInt < mN 37 then
  bif mj_c2 .ne (s.2.2.2.2.2.1 37 (s.2.2.2.1).toInt.toNat) 1 then
    (J264_153 N s.1 s.2.1 s.2.2.1 s.2.2.2.1 s.2.2.2.2).map Sum.inr
  else
  some (.inl (s.1, s.2.1, s.2.2.1, (s.2.2.2.1 + (-1)), s.2.2.2.2))
  else none
def L264_131 (N : Nat) (s : Int32 × Int32 × Int32 × Int32 × mS) : Option ((Int32 × Int32 × Int32 × Int32 × mS) ⊕ (mS)) := t_lp (B264_131 N) N s
theorem B264_131_ok {xt : mj_X} {ct : Nat → Value} {a : Nat} {ra : Nat → Nat} {d N : Nat} {s : Int32 × Int32 × Int32 × Int32 × mS} {o : (Int32 × Int32 × Int32 × Int32 × mS) ⊕ ((Int32 × Int32 × Int32 × Int32 × mS) ⊕ (mS))} {q : mS} (e : B264_131 N s = some o) (g : GG264_131 xt ct a ra d q o) : LG264_131 xt ct a ra d q s.1 s.2.1 s.2.2.1 s.2.2.2.1 s.2.2.2.2 := by
  unfold B264_131 at e
  exact (fun l h0 h1 h3 h4 h7 =>
  M_of (fun _ _ H => r_iload c264_131 h7 <| H) <|
  t_if e (fun b14 e15 =>
    M_of (fun _ _ H => r_ifT c264_133 b14 <| H) <|
    t_up e15 fun o30 e31 u32 =>
    (fun (g33 : GG264_26 xt ct a ra d q o30) =>
    J264_153_ok h0 h1 h3 h4 h7 e31 g33
    ) (by have := g; rw [u32] at this; exact this)
  ) (fun b14 e15 =>
    M_of (fun _ _ H => r_ifF c264_133 b14 <| H) <|
    M_of (fun _ _ H => r_aloadn c264_136 h0 <| H) <|
    M_geta (j := 37) c264_137 (by decide) <|
    M_of (fun _ _ H => r_iload c264_140 h7 <| H) <|
    t_ck e15 fun i34 e35 =>
    M_iald (j := 37) (v := (s.2.2.2.2.2.1 37 (s.2.2.2.1).toInt.toNat)) c264_142 (by decide) i34 rfl <|
    M_of (fun _ _ H => r_iconst c264_143 <| H) <|
    t_if e35 (fun b36 e37 =>
      M_of (fun _ _ H => r_icmpT c264_144 b36 <| H) <|
      t_up e37 fun o38 e39 u40 =>
      (fun (g41 : GG264_26 xt ct a ra d q o38) =>
      J264_153_ok h0 h1 h3 h4 h7 e39 g41
      ) (by have := g; rw [u40] at this; exact this)
    ) (fun b36 e37 =>
      M_of (fun _ _ H => r_icmpF c264_144 b36 <| H) <|
      M_of (fun _ _ H => r_iinc c264_147 h7 <| r_goto c264_150 <| H) <|
      t_rg e37 g (fun (e : LG264_131 xt ct a ra d q s.1 s.2.1 s.2.2.1 (s.2.2.2.1 + (-1)) s.2.2.2.2) => e _ (ld1_ne h0 (by decide) (Or.inl (by decide))) (ld1_ne h1 (by decide) (Or.inl (by decide))) (ld1_ne h3 (by decide) (Or.inl (by decide))) (ld1_ne h4 (by decide) (Or.inl (by decide))) ld1_eq)
    )
  ))
theorem L264_131_ok {xt : mj_X} {ct : Nat → Value} {a : Nat} {ra : Nat → Nat} {d N : Nat} {x1 : Int32} {x3 : Int32} {x4 : Int32} {x7 : Int32} {S : mS} {o : (Int32 × Int32 × Int32 × Int32 × mS) ⊕ (mS)} {q : mS} (e : L264_131 N (x1, x3, x4, x7, S) = some o) (g : GG264_26 xt ct a ra d q o) : LG264_131 xt ct a ra d q x1 x3 x4 x7 S :=
  t_lp_ok (G := fun s => LG264_131 xt ct a ra d q s.1 s.2.1 s.2.2.1 s.2.2.2.1 s.2.2.2.2) (fun s s' e g => B264_131_ok e (by obtain ⟨_, _, _, _, _⟩ := s'; exact g)) (fun s e => B264_131_ok e g) N (x1, x3, x4, x7, S) e
def J264_98 (N : Nat) (x1 : Int32) (x3 : Int32) (x4 : Int32) (x7 : Int32) (s0 : Int32) (S : mS) : Option ((Int32 × Int32 × Int32 × Int32 × Int32 × mS) ⊕ ((Int32 × Int32 × Int32 × Int32 × mS) ⊕ (mS))) :=
  some (.inl (x1, x3, x4, s0, (x7 + 1), S))
theorem J264_98_ok {xt : mj_X} {ct : Nat → Value} {a : Nat} {ra : Nat → Nat} {d N : Nat} {l : mj_L} {x1 : Int32} {x3 : Int32} {x4 : Int32} {x7 : Int32} {s0 : Int32} {S : mS} {o : (Int32 × Int32 × Int32 × Int32 × Int32 × mS) ⊕ ((Int32 × Int32 × Int32 × Int32 × mS) ⊕ (mS))} {q : mS} (h0 : mj_ld l 0 = some (.ref a)) (h1 : mj_ld l 1 = some (.int x1)) (h3 : mj_ld l 3 = some (.int x3)) (h4 : mj_ld l 4 = some (.int x4)) (h7 : mj_ld l 7 = some (.int x7)) (e : J264_98 N x1 x3 x4 x7 s0 S = some o) (g : GG264_37 xt ct a ra d q o) : MR xt ct a ra (d + 2) 264 98 l [.int s0] S (.inl none) q := by
  unfold J264_98 at e
  exact (
  M_of (fun _ _ H => r_istore c264_98 <| r_iinc c264_100 (ld1_ne h7 (by decide) (Or.inl (by decide))) <| r_goto c264_103 <| H) <|
  t_rg e g (fun (e : LG264_37 xt ct a ra d q x1 x3 x4 s0 (x7 + 1) S) => e _ (ld1_ne (ld1_ne h0 (by decide) (Or.inl (by decide))) (by decide) (Or.inl (by decide))) (ld1_ne (ld1_ne h1 (by decide) (Or.inl (by decide))) (by decide) (Or.inl (by decide))) (ld1_ne (ld1_ne h3 (by decide) (Or.inl (by decide))) (by decide) (Or.inl (by decide))) (ld1_ne (ld1_ne h4 (by decide) (Or.inl (by decide))) (by decide) (Or.inl (by decide))) (ld1_ne ld1_eq (by decide) (Or.inr rfl)) ld1_eq))
def J264_76 (N : Nat) (x1 : Int32) (x3 : Int32) (x4 : Int32) (x6 : Int32) (x7 : Int32) (s0 : Int32) (S : mS) : Option ((Int32 × Int32 × Int32 × Int32 × Int32 × mS) ⊕ ((Int32 × Int32 × Int32 × Int32 × mS) ⊕ (mS))) :=
  bif mj_c1 .eq s0 then
    J264_98 N x1 x3 x4 x7 x6 S
  else
  if 0 ≤ (x7).toInt ∧ (x7).toInt < mN 37 then
  J264_98 N x1 x3 x4 x7 (x6 + (S.2.1 37 (x7).toInt.toNat)) S
  else none
theorem J264_76_ok {xt : mj_X} {ct : Nat → Value} {a : Nat} {ra : Nat → Nat} {d N : Nat} {l : mj_L} {x1 : Int32} {x3 : Int32} {x4 : Int32} {x6 : Int32} {x7 : Int32} {s0 : Int32} {S : mS} {o : (Int32 × Int32 × Int32 × Int32 × Int32 × mS) ⊕ ((Int32 × Int32 × Int32 × Int32 × mS) ⊕ (mS))} {q : mS} (h0 : mj_ld l 0 = some (.ref a)) (h1 : mj_ld l 1 = some (.int x1)) (h3 : mj_ld l 3 = some (.int x3)) (h4 : mj_ld l 4 = some (.int x4)) (h6 : mj_ld l 6 = some (.int x6)) (h7 : mj_ld l 7 = some (.int x7)) (e : J264_76 N x1 x3 x4 x6 x7 s0 S = some o) (g : GG264_37 xt ct a ra d q o) : MR xt ct a ra (d + 2) 264 76 l [.int s0] S (.inl none) q := by
  unfold J264_76 at e
  exact (
  M_of (fun _ _ H => r_istore c264_76 <| r_iload c264_78 ld1_eq <| H) <|
  t_if e (fun b50 e51 =>
    M_of (fun _ _ H => r_ifT c264_80 b50 <| H) <|
    M_of (fun _ _ H => r_iload c264_96 (ld1_ne h6 (by decide) (Or.inl (by decide))) <| H) <|
    J264_98_ok (ld1_ne h0 (by decide) (Or.inl (by decide))) (ld1_ne h1 (by decide) (Or.inl (by decide))) (ld1_ne h3 (by decide) (Or.inl (by decide))) (ld1_ne h4 (by decide) (Or.inl (by decide))) (ld1_ne h7 (by decide) (Or.inr rfl)) e51 g
  ) (fun b50 e51 =>
    M_of (fun _ _ H => r_ifF c264_80 b50 <| H) <|
    M_of (fun _ _ H => r_iload c264_83 (ld1_ne h6 (by decide) (Or.inl (by decide))) <| r_aloadn c264_85 (ld1_ne h0 (by decide) (Or.inl (by decide))) <| H) <|
    M_geta (j := 37) c264_86 (by decide) <|
    M_of (fun _ _ H => r_iload c264_89 (ld1_ne h7 (by decide) (Or.inr rfl)) <| H) <|
    t_ck e51 fun i52 e53 =>
    M_iald (j := 37) (v := (S.2.1 37 (x7).toInt.toNat)) c264_91 (by decide) i52 rfl <|
    M_of (fun _ _ H => r_iadd c264_92 rfl <| r_goto c264_93 <| H) <|
    J264_98_ok (ld1_ne h0 (by decide) (Or.inl (by decide))) (ld1_ne h1 (by decide) (Or.inl (by decide))) (ld1_ne h3 (by decide) (Or.inl (by decide))) (ld1_ne h4 (by decide) (Or.inl (by decide))) (ld1_ne h7 (by decide) (Or.inr rfl)) e53 g
  ))
def B264_37 (N : Nat) (s : Int32 × Int32 × Int32 × Int32 × Int32 × mS) : Option ((Int32 × Int32 × Int32 × Int32 × Int32 × mS) ⊕ ((Int32 × Int32 × Int32 × Int32 × mS) ⊕ (mS))) :=
  bif mj_c2 .ge s.2.2.2.2.1 s.1 then
    if 0 ≤ (s.2.2.2.1).toInt ∧ (s.2.2.2.1).toInt < mN 38 then
    (M265 N s.1 s.2.2.2.2.2).bind fun r9 =>
    if 0 ≤ (s.2.2.2.1).toInt ∧ (s.2.2.2.1).toInt < mN 38 then
    (L264_131 N (s.1, s.2.1, s.2.2.1, (s.1 - 1), (m_sB r9.2 38 (s.2.2.2.1).toInt.toNat ((s.2.2.2.2.2.2.2 38 (s.2.2.2.1).toInt.toNat) + r9.1)))).map Sum.inr
    else none
    else none
  else
  bif mj_c1 .eq s.2.1 then
    bif mj_c2 .ge s.2.2.2.2.1 s.2.2.1 then
      J264_76 N s.1 s.2.1 s.2.2.1 s.2.2.2.1 s.2.2.2.2.1 0 s.2.2.2.2.2
    else
    J264_76 N s.1 s.2.1 s.2.2.1 s.2.2.2.1 s.2.2.2.2.1 1 s.2.2.2.2.2
  else
  bif mj_c2 .lt s.2.2.2.2.1 (s.1 - s.2.2.1) then
    J264_76 N s.1 s.2.1 s.2.2.1 s.2.2.2.1 s.2.2.2.2.1 0 s.2.2.2.2.2
  else
  J264_76 N s.1 s.2.1 s.2.2.1 s.2.2.2.1 s.2.2.2.2.1 1 s.2.2.2.2.2
def L264_37 (N : Nat) (s : Int32 × Int32 × Int32 × Int32 × Int32 × mS) : Option ((Int32 × Int32 × Int32 × Int32 × mS) ⊕ (mS)) := t_lp (B264_37 N) N s
theorem B264_37_ok {xt : mj_X} {ct : Nat → Value} {a : Nat} {ra : Nat → Nat} {d N : Nat} {s : Int32 × Int32 × Int32 × Int32 × Int32 × mS} {o : (Int32 × Int32 × Int32 × Int32 × Int32 × mS) ⊕ ((Int32 × Int32 × Int32 × Int32 × mS) ⊕ (mS))} {q : mS} (e : B264_37 N s = some o) (g : GG264_37 xt ct a ra d q o) : LG264_37 xt ct a ra d q s.1 s.2.1 s.2.2.1 s.2.2.2.1 s.2.2.2.2.1 s.2.2.2.2.2 := by
  unfold B264_37 at e
  exact (fun l h0 h1 h3 h4 h6 h7 =>
  M_of (fun _ _ H => r_iload c264_37 h7 <| r_iloadn c264_39 h1 <| H) <|
  t_if e (fun b5 e6 =>
    M_of (fun _ _ H => r_icmpT c264_40 b5 <| H) <|
    M_of (fun _ _ H => r_aloadn c264_106 h0 <| H) <|
    M_geta (j := 38) c264_107 (by decide) <|
    M_of (fun _ _ H => r_iload c264_110 h6 <| r_aloadn c264_112 h0 <| H) <|
    M_geta (j := 38) c264_113 (by decide) <|
    M_of (fun _ _ H => r_iload c264_116 h6 <| H) <|
    t_ck e6 fun i7 e8 =>
    M_lald (j := 38) (v := (s.2.2.2.2.2.2.2 38 (s.2.2.2.1).toInt.toNat)) c264_118 (by decide) i7 rfl <|
    M_of (fun _ _ H => r_aloadn c264_119 h0 <| r_iloadn c264_120 h1 <| H) <|
    t_bd e8 fun r9 c10 e11 =>
    M_cv (as := [.ref a, .int s.1]) (st' := [.long r9.1, .long (s.2.2.2.2.2.2.2 38 (s.2.2.2.1).toInt.toNat), .int s.2.2.2.1, .ref (ra 38)]) (v := (some (.long r9.1))) c264_121 rfl ⟨Nat.le_of_ble_eq_true rfl, Nat.le_of_ble_eq_true rfl, Nat.le_of_ble_eq_true rfl⟩ rfl rfl (M265_ok (d := d) c10) (Nat.add_lt_add_left (by decide) d) <|
    M_of (fun _ _ H => r_ladd c264_124 rfl <| H) <|
    t_ck e11 fun i12 e13 =>
    M_last (j := 38) c264_125 (by decide) i12 <|
    M_of (fun _ _ H => r_iloadn c264_126 h1 <| r_iconst c264_127 <| r_isub c264_128 rfl <| r_istore c264_129 <| H) <|
    t_up e13 fun o42 e43 u44 =>
    (fun (g45 : GG264_26 xt ct a ra d q o42) =>
    L264_131_ok e43 g45 _ (ld1_ne h0 (by decide) (Or.inl (by decide))) (ld1_ne h1 (by decide) (Or.inl (by decide))) (ld1_ne h3 (by decide) (Or.inl (by decide))) (ld1_ne h4 (by decide) (Or.inl (by decide))) ld1_eq
    ) (by have := g; rw [u44] at this; exact this)
  ) (fun b5 e6 =>
    M_of (fun _ _ H => r_icmpF c264_40 b5 <| H) <|
    M_of (fun _ _ H => r_iloadn c264_43 h3 <| H) <|
    t_if e6 (fun b46 e47 =>
      M_of (fun _ _ H => r_ifT c264_44 b46 <| H) <|
      M_of (fun _ _ H => r_iload c264_64 h7 <| r_iload c264_66 h4 <| H) <|
      t_if e47 (fun b48 e49 =>
        M_of (fun _ _ H => r_icmpT c264_68 b48 <| H) <|
        M_of (fun _ _ H => r_iconst c264_75 <| H) <|
        J264_76_ok h0 h1 h3 h4 h6 h7 e49 g
      ) (fun b48 e49 =>
        M_of (fun _ _ H => r_icmpF c264_68 b48 <| H) <|
        M_of (fun _ _ H => r_iconst c264_71 <| r_goto c264_72 <| H) <|
        J264_76_ok h0 h1 h3 h4 h6 h7 e49 g
      )
    ) (fun b46 e47 =>
      M_of (fun _ _ H => r_ifF c264_44 b46 <| H) <|
      M_of (fun _ _ H => r_iload c264_47 h7 <| r_iloadn c264_49 h1 <| r_iload c264_50 h4 <| r_isub c264_52 rfl <| H) <|
      t_if e47 (fun b54 e55 =>
        M_of (fun _ _ H => r_icmpT c264_53 b54 <| H) <|
        M_of (fun _ _ H => r_iconst c264_60 <| r_goto c264_61 <| H) <|
        J264_76_ok h0 h1 h3 h4 h6 h7 e55 g
      ) (fun b54 e55 =>
        M_of (fun _ _ H => r_icmpF c264_53 b54 <| H) <|
        M_of (fun _ _ H => r_iconst c264_56 <| r_goto c264_57 <| H) <|
        J264_76_ok h0 h1 h3 h4 h6 h7 e55 g
      )
    )
  ))
theorem L264_37_ok {xt : mj_X} {ct : Nat → Value} {a : Nat} {ra : Nat → Nat} {d N : Nat} {x1 : Int32} {x3 : Int32} {x4 : Int32} {x6 : Int32} {x7 : Int32} {S : mS} {o : (Int32 × Int32 × Int32 × Int32 × mS) ⊕ (mS)} {q : mS} (e : L264_37 N (x1, x3, x4, x6, x7, S) = some o) (g : GG264_26 xt ct a ra d q o) : LG264_37 xt ct a ra d q x1 x3 x4 x6 x7 S :=
  t_lp_ok (G := fun s => LG264_37 xt ct a ra d q s.1 s.2.1 s.2.2.1 s.2.2.2.1 s.2.2.2.2.1 s.2.2.2.2.2) (fun s s' e g => B264_37_ok e (by obtain ⟨_, _, _, _, _, _⟩ := s'; exact g)) (fun s e => B264_37_ok e g) N (x1, x3, x4, x6, x7, S) e
def B264_26 (N : Nat) (s : Int32 × Int32 × Int32 × Int32 × mS) : Option ((Int32 × Int32 × Int32 × Int32 × mS) ⊕ (mS)) :=
  bif mj_c1 .eq s.2.2.2.1 then
    some (.inr s.2.2.2.2)
  else
  L264_37 N (s.1, s.2.1, s.2.2.1, 0, 0, s.2.2.2.2)
def L264_26 (N : Nat) (s : Int32 × Int32 × Int32 × Int32 × mS) : Option (mS) := t_lp (B264_26 N) N s
theorem B264_26_ok {xt : mj_X} {ct : Nat → Value} {a : Nat} {ra : Nat → Nat} {d N : Nat} {s : Int32 × Int32 × Int32 × Int32 × mS} {o : (Int32 × Int32 × Int32 × Int32 × mS) ⊕ (mS)} {q : mS} (e : B264_26 N s = some o) (g : GG264_26 xt ct a ra d q o) : LG264_26 xt ct a ra d q s.1 s.2.1 s.2.2.1 s.2.2.2.1 s.2.2.2.2 := by
  unfold B264_26 at e
  exact (fun l h0 h1 h3 h4 h5 =>
  M_of (fun _ _ H => r_iload c264_26 h5 <| H) <|
  t_if e (fun b3 e4 =>
    M_of (fun _ _ H => r_ifT c264_28 b3 <| H) <|
    t_rg e4 g (fun (e : s.2.2.2.2 = q) => M_rv (e) (fun _ => r_ret c264_209))
  ) (fun b3 e4 =>
    M_of (fun _ _ H => r_ifF c264_28 b3 <| H) <|
    M_of (fun _ _ H => r_iconst c264_31 <| r_istore c264_32 <| r_iconst c264_34 <| r_istore c264_35 <| H) <|
    L264_37_ok e4 g _ (ld1_ne (ld1_ne h0 (by decide) (Or.inl (by decide))) (by decide) (Or.inl (by decide))) (ld1_ne (ld1_ne h1 (by decide) (Or.inl (by decide))) (by decide) (Or.inl (by decide))) (ld1_ne (ld1_ne h3 (by decide) (Or.inl (by decide))) (by decide) (Or.inl (by decide))) (ld1_ne (ld1_ne h4 (by decide) (Or.inl (by decide))) (by decide) (Or.inl (by decide))) (ld1_ne ld1_eq (by decide) (Or.inr rfl)) ld1_eq
  ))
theorem L264_26_ok {xt : mj_X} {ct : Nat → Value} {a : Nat} {ra : Nat → Nat} {d N : Nat} {x1 : Int32} {x3 : Int32} {x4 : Int32} {x5 : Int32} {S : mS} {q : mS} (e : L264_26 N (x1, x3, x4, x5, S) = some q) : LG264_26 xt ct a ra d q x1 x3 x4 x5 S :=
  t_lp_ok (G := fun s => LG264_26 xt ct a ra d q s.1 s.2.1 s.2.2.1 s.2.2.2.1 s.2.2.2.2) (fun s s' e g => B264_26_ok e (by obtain ⟨_, _, _, _, _⟩ := s'; exact g)) (fun s e => B264_26_ok e rfl) N (x1, x3, x4, x5, S) e
def B264_3 (N : Nat) (s : Int32 × Int32 × Int32 × Int32 × Int32 × mS) : Option ((Int32 × Int32 × Int32 × Int32 × Int32 × mS) ⊕ (mS)) :=
  bif mj_c2 .ge s.2.2.2.2.1 s.1 then
    (L264_26 N (s.1, s.2.2.1, s.2.2.2.1, 1, s.2.2.2.2.2)).map Sum.inr
  else
  if 0 ≤ (s.2.2.2.2.1).toInt ∧ (s.2.2.2.2.1).toInt < mN 37 then
  some (.inl (s.1, s.2.1, s.2.2.1, s.2.2.2.1, (s.2.2.2.2.1 + 1), (m_sA s.2.2.2.2.2 37 (s.2.2.2.2.1).toInt.toNat s.2.1)))
  else none
def L264_3 (N : Nat) (s : Int32 × Int32 × Int32 × Int32 × Int32 × mS) : Option (mS) := t_lp (B264_3 N) N s
theorem B264_3_ok {xt : mj_X} {ct : Nat → Value} {a : Nat} {ra : Nat → Nat} {d N : Nat} {s : Int32 × Int32 × Int32 × Int32 × Int32 × mS} {o : (Int32 × Int32 × Int32 × Int32 × Int32 × mS) ⊕ (mS)} {q : mS} (e : B264_3 N s = some o) (g : GG264_3 xt ct a ra d q o) : LG264_3 xt ct a ra d q s.1 s.2.1 s.2.2.1 s.2.2.2.1 s.2.2.2.2.1 s.2.2.2.2.2 := by
  unfold B264_3 at e
  exact (fun l h0 h1 h2 h3 h4 h5 =>
  M_of (fun _ _ H => r_iload c264_3 h5 <| r_iloadn c264_5 h1 <| H) <|
  t_if e (fun b1 e2 =>
    M_of (fun _ _ H => r_icmpT c264_6 b1 <| H) <|
    M_of (fun _ _ H => r_iconst c264_23 <| r_istore c264_24 <| H) <|
    t_up e2 fun o56 e57 u58 =>
    (fun (g59 : o56 = q) =>
    by subst g59; exact (L264_26_ok e57 _ (ld1_ne h0 (by decide) (Or.inl (by decide))) (ld1_ne h1 (by decide) (Or.inl (by decide))) (ld1_ne h3 (by decide) (Or.inl (by decide))) (ld1_ne h4 (by decide) (Or.inr rfl)) ld1_eq)
    ) (by have := g; rw [u58] at this; exact this)
  ) (fun b1 e2 =>
    M_of (fun _ _ H => r_icmpF c264_6 b1 <| H) <|
    M_of (fun _ _ H => r_aloadn c264_9 h0 <| H) <|
    M_geta (j := 37) c264_10 (by decide) <|
    M_of (fun _ _ H => r_iload c264_13 h5 <| r_iloadn c264_15 h2 <| H) <|
    t_ck e2 fun i60 e61 =>
    M_iast (j := 37) c264_16 (by decide) i60 <|
    M_of (fun _ _ H => r_iinc c264_17 h5 <| r_goto c264_20 <| H) <|
    t_rg e61 g (fun (e : LG264_3 xt ct a ra d q s.1 s.2.1 s.2.2.1 s.2.2.2.1 (s.2.2.2.2.1 + 1) (m_sA s.2.2.2.2.2 37 (s.2.2.2.2.1).toInt.toNat s.2.1)) => e _ (ld1_ne h0 (by decide) (Or.inl (by decide))) (ld1_ne h1 (by decide) (Or.inl (by decide))) (ld1_ne h2 (by decide) (Or.inl (by decide))) (ld1_ne h3 (by decide) (Or.inl (by decide))) (ld1_ne h4 (by decide) (Or.inr rfl)) ld1_eq)
  ))
theorem L264_3_ok {xt : mj_X} {ct : Nat → Value} {a : Nat} {ra : Nat → Nat} {d N : Nat} {x1 : Int32} {x2 : Int32} {x3 : Int32} {x4 : Int32} {x5 : Int32} {S : mS} {q : mS} (e : L264_3 N (x1, x2, x3, x4, x5, S) = some q) : LG264_3 xt ct a ra d q x1 x2 x3 x4 x5 S :=
  t_lp_ok (G := fun s => LG264_3 xt ct a ra d q s.1 s.2.1 s.2.2.1 s.2.2.2.1 s.2.2.2.2.1 s.2.2.2.2.2) (fun s s' e g => B264_3_ok e (by obtain ⟨_, _, _, _, _, _⟩ := s'; exact g)) (fun s e => B264_3_ok e rfl) N (x1, x2, x3, x4, x5, S) e
/-- keepDice(IIZI)V -/
def M264 (N : Nat) (x1 : Int32) (x2 : Int32) (x3 : Int32) (x4 : Int32) (S : mS) : Option (mS) :=
  L264_3 N (x1, x2, x3, x4, 0, S)
theorem M264_ok {xt : mj_X} {ct : Nat → Value} {a : Nat} {ra : Nat → Nat} {d N : Nat} {x1 : Int32} {x2 : Int32} {x3 : Int32} {x4 : Int32} {S : mS} {q : mS} (e : M264 N x1 x2 x3 x4 S = some q) : MR xt ct a ra (d + 2) 264 0 (lv_args 0 [.ref a, .int x1, .int x2, .int x3, .int x4]) [] S (.inl none) q := by
  unfold M264 at e
  exact (
  M_of (fun _ _ H => r_iconst c264_0 <| r_istore c264_1 <| H) <|
  L264_3_ok e _ (ld1_ne rfl (by decide) (Or.inl (by decide))) (ld1_ne rfl (by decide) (Or.inl (by decide))) (ld1_ne rfl (by decide) (Or.inl (by decide))) (ld1_ne rfl (by decide) (Or.inl (by decide))) (ld1_ne rfl (by decide) (Or.inr rfl)) ld1_eq)
def LG261_22 (xt : mj_X) (ct : Nat → Value) (a : Nat) (ra : Nat → Nat) (d : Nat) (q : Int32 × mS) (x1 : Int32) (x2 : Int32) (x4 : Int32) (x5 : Int32) (S : mS) : Prop := ∀ l, mj_ld l 0 = some (.ref a) → mj_ld l 1 = some (.int x1) → mj_ld l 2 = some (.int x2) → mj_ld l 4 = some (.int x4) → mj_ld l 5 = some (.int x5) → MR xt ct a ra (d + 4) 261 22 l [] S (.inl (some (.int q.1))) q.2
def GG261_22 (xt : mj_X) (ct : Nat → Value) (a : Nat) (ra : Nat → Nat) (d : Nat) (q : Int32 × mS) (o : (Int32 × Int32 × Int32 × Int32 × mS) ⊕ (Int32 × mS)) : Prop := match o with
  | .inl (x1, x2, x4, x5, S) => LG261_22 xt ct a ra d q x1 x2 x4 x5 S
  | .inr r => r = q
def J261_235 (N : Nat) (x1 : Int32) (x2 : Int32) (x4 : Int32) (x5 : Int32)  (S : mS) : Option ((Int32 × Int32 × Int32 × Int32 × mS) ⊕ (Int32 × mS)) :=
  some (.inl (x1, x2, x4, (x5 + 1), S))
theorem J261_235_ok {xt : mj_X} {ct : Nat → Value} {a : Nat} {ra : Nat → Nat} {d N : Nat} {l : mj_L} {x1 : Int32} {x2 : Int32} {x4 : Int32} {x5 : Int32}  {S : mS} {o : (Int32 × Int32 × Int32 × Int32 × mS) ⊕ (Int32 × mS)} {q : Int32 × mS} (h0 : mj_ld l 0 = some (.ref a)) (h1 : mj_ld l 1 = some (.int x1)) (h2 : mj_ld l 2 = some (.int x2)) (h4 : mj_ld l 4 = some (.int x4)) (h5 : mj_ld l 5 = some (.int x5)) (e : J261_235 N x1 x2 x4 x5  S = some o) (g : GG261_22 xt ct a ra d q o) : MR xt ct a ra (d + 4) 261 235 l [] S (.inl (some (.int q.1))) q.2 := by
  unfold J261_235 at e
  exact (
  M_of (fun _ _ H => r_iinc c261_235 h5 <| r_goto c261_238 <| H) <|
  t_rg e g (fun (e : LG261_22 xt ct a ra d q x1 x2 x4 (x5 + 1) S) => e _ (ld1_ne h0 (by decide) (Or.inl (by decide))) (ld1_ne h1 (by decide) (Or.inl (by decide))) (ld1_ne h2 (by decide) (Or.inl (by decide))) (ld1_ne h4 (by decide) (Or.inr rfl)) ld1_eq))
def LG261_58 (xt : mj_X) (ct : Nat → Value) (a : Nat) (ra : Nat → Nat) (d : Nat) (q : Int32 × mS) (x1 : Int32) (x2 : Int32) (x4 : Int32) (x5 : Int32) (x6 : Int32) (S : mS) : Prop := ∀ l, mj_ld l 0 = some (.ref a) → mj_ld l 1 = some (.int x1) → mj_ld l 2 = some (.int x2) → mj_ld l 4 = some (.int x4) → mj_ld l 5 = some (.int x5) → mj_ld l 6 = some (.int x6) → MR xt ct a ra (d + 4) 261 58 l [] S (.inl (some (.int q.1))) q.2
def GG261_58 (xt : mj_X) (ct : Nat → Value) (a : Nat) (ra : Nat → Nat) (d : Nat) (q : Int32 × mS) (o : (Int32 × Int32 × Int32 × Int32 × Int32 × mS) ⊕ ((Int32 × Int32 × Int32 × Int32 × mS) ⊕ (Int32 × mS))) : Prop := match o with
  | .inl (x1, x2, x4, x5, x6, S) => LG261_58 xt ct a ra d q x1 x2 x4 x5 x6 S
  | .inr r => GG261_22 xt ct a ra d q r
def LG261_199 (xt : mj_X) (ct : Nat → Value) (a : Nat) (ra : Nat → Nat) (d : Nat) (q : Int32 × mS) (x1 : Int32) (x2 : Int32) (x4 : Int32) (x5 : Int32) (x6 : Int32) (S : mS) : Prop := ∀ l, mj_ld l 0 = some (.ref a) → mj_ld l 1 = some (.int x1) → mj_ld l 2 = some (.int x2) → mj_ld l 4 = some (.int x4) → mj_ld l 5 = some (.int x5) → mj_ld l 6 = some (.int x6) → MR xt ct a ra (d + 4) 261 199 l [] S (.inl (some (.int q.1))) q.2
def GG261_199 (xt : mj_X) (ct : Nat → Value) (a : Nat) (ra : Nat → Nat) (d : Nat) (q : Int32 × mS) (o : (Int32 × Int32 × Int32 × Int32 × Int32 × mS) ⊕ ((Int32 × Int32 × Int32 × Int32 × mS) ⊕ (Int32 × mS))) : Prop := match o with
  | .inl (x1, x2, x4, x5, x6, S) => LG261_199 xt ct a ra d q x1 x2 x4 x5 x6 S
  | .inr r => GG261_22 xt ct a ra d q r
def B261_199 (N : Nat) (s : Int32 × Int32 × Int32 × Int32 × Int32 × mS) : Option ((Int32 × Int32 × Int32 × Int32 × Int32 × mS) ⊕ ((Int32 × Int32 × Int32 × Int32 × mS) ⊕ (Int32 × mS))) :=
  bif mj_c2 .ge s.2.2.2.2.1 121 then
    (J261_235 N s.1 s.2.1 (s.2.2.1 + 1) s.2.2.2.1 s.2.2.2.2.2).map Sum.inr
  else
  if 0 ≤ (s.2.2.2.2.1).toInt ∧ (s.2.2.2.2.1).toInt < mN 38 then
  if 0 ≤ (((121 * s.2.2.1) + s.2.2.2.2.1)).toInt ∧ (((121 * s.2.2.1) + s.2.2.2.2.1)).toInt < mN 21 then
  some (.inl (s.1, s.2.1, s.2.2.1, s.2.2.2.1, (s.2.2.2.2.1 + 1), (m_sB s.2.2.2.2.2 21 (((121 * s.2.2.1) + s.2.2.2.2.1)).toInt.toNat (s.2.2.2.2.2.2.2 38 (s.2.2.2.2.1).toInt.toNat))))
  else none
  else none
def L261_199 (N : Nat) (s : Int32 × Int32 × Int32 × Int32 × Int32 × mS) : Option ((Int32 × Int32 × Int32 × Int32 × mS) ⊕ (Int32 × mS)) := t_lp (B261_199 N) N s
theorem B261_199_ok {xt : mj_X} {ct : Nat → Value} {a : Nat} {ra : Nat → Nat} {d N : Nat} {s : Int32 × Int32 × Int32 × Int32 × Int32 × mS} {o : (Int32 × Int32 × Int32 × Int32 × Int32 × mS) ⊕ ((Int32 × Int32 × Int32 × Int32 × mS) ⊕ (Int32 × mS))} {q : Int32 × mS} (e : B261_199 N s = some o) (g : GG261_199 xt ct a ra d q o) : LG261_199 xt ct a ra d q s.1 s.2.1 s.2.2.1 s.2.2.2.1 s.2.2.2.2.1 s.2.2.2.2.2 := by
  unfold B261_199 at e
  exact (fun l h0 h1 h2 h4 h5 h6 =>
  M_of (fun _ _ H => r_iload c261_199 h6 <| r_bipush c261_201 <| H) <|
  t_if e (fun b36 e37 =>
    M_of (fun _ _ H => r_icmpT c261_203 b36 <| H) <|
    M_of (fun _ _ H => r_iinc c261_232 h4 <| H) <|
    t_up e37 fun o38 e39 u40 =>
    (fun (g41 : GG261_22 xt ct a ra d q o38) =>
    J261_235_ok (ld1_ne h0 (by decide) (Or.inl (by decide))) (ld1_ne h1 (by decide) (Or.inl (by decide))) (ld1_ne h2 (by decide) (Or.inl (by decide))) ld1_eq (ld1_ne h5 (by decide) (Or.inl (by decide))) e39 g41
    ) (by have := g; rw [u40] at this; exact this)
  ) (fun b36 e37 =>
    M_of (fun _ _ H => r_icmpF c261_203 b36 <| H) <|
    M_of (fun _ _ H => r_aloadn c261_206 h0 <| H) <|
    M_geta (j := 21) c261_207 (by decide) <|
    M_of (fun _ _ H => r_bipush c261_210 <| r_iload c261_212 h4 <| r_imul c261_214 rfl <| r_iload c261_215 h6 <| r_iadd c261_217 rfl <| r_aloadn c261_218 h0 <| H) <|
    M_geta (j := 38) c261_219 (by decide) <|
    M_of (fun _ _ H => r_iload c261_222 h6 <| H) <|
    t_ck e37 fun i42 e43 =>
    M_lald (j := 38) (v := (s.2.2.2.2.2.2.2 38 (s.2.2.2.2.1).toInt.toNat)) c261_224 (by decide) i42 rfl <|
    t_ck e43 fun i44 e45 =>
    M_last (j := 21) c261_225 (by decide) i44 <|
    M_of (fun _ _ H => r_iinc c261_226 h6 <| r_goto c261_229 <| H) <|
    t_rg e45 g (fun (e : LG261_199 xt ct a ra d q s.1 s.2.1 s.2.2.1 s.2.2.2.1 (s.2.2.2.2.1 + 1) (m_sB s.2.2.2.2.2 21 (((121 * s.2.2.1) + s.2.2.2.2.1)).toInt.toNat (s.2.2.2.2.2.2.2 38 (s.2.2.2.2.1).toInt.toNat))) => e _ (ld1_ne h0 (by decide) (Or.inl (by decide))) (ld1_ne h1 (by decide) (Or.inl (by decide))) (ld1_ne h2 (by decide) (Or.inl (by decide))) (ld1_ne h4 (by decide) (Or.inl (by decide))) (ld1_ne h5 (by decide) (Or.inr rfl)) ld1_eq)
  ))
theorem L261_199_ok {xt : mj_X} {ct : Nat → Value} {a : Nat} {ra : Nat → Nat} {d N : Nat} {x1 : Int32} {x2 : Int32} {x4 : Int32} {x5 : Int32} {x6 : Int32} {S : mS} {o : (Int32 × Int32 × Int32 × Int32 × mS) ⊕ (Int32 × mS)} {q : Int32 × mS} (e : L261_199 N (x1, x2, x4, x5, x6, S) = some o) (g : GG261_22 xt ct a ra d q o) : LG261_199 xt ct a ra d q x1 x2 x4 x5 x6 S :=
  t_lp_ok (G := fun s => LG261_199 xt ct a ra d q s.1 s.2.1 s.2.2.1 s.2.2.2.1 s.2.2.2.2.1 s.2.2.2.2.2) (fun s s' e g => B261_199_ok e (by obtain ⟨_, _, _, _, _, _⟩ := s'; exact g)) (fun s e => B261_199_ok e g) N (x1, x2, x4, x5, x6, S) e
def J261_187 (N : Nat) (x1 : Int32) (x2 : Int32) (x4 : Int32) (x5 : Int32)  (S : mS) : Option ((Int32 × Int32 × Int32 × Int32 × mS) ⊕ (Int32 × mS)) :=
  if 0 ≤ (x5).toInt ∧ (x5).toInt < mN 18 then
  L261_199 N (x1, x2, x4, x5, 0, (m_sA S 18 (x5).toInt.toNat x4))
  else none
theorem J261_187_ok {xt : mj_X} {ct : Nat → Value} {a : Nat} {ra : Nat → Nat} {d N : Nat} {l : mj_L} {x1 : Int32} {x2 : Int32} {x4 : Int32} {x5 : Int32}  {S : mS} {o : (Int32 × Int32 × Int32 × Int32 × mS) ⊕ (Int32 × mS)} {q : Int32 × mS} (h0 : mj_ld l 0 = some (.ref a)) (h1 : mj_ld l 1 = some (.int x1)) (h2 : mj_ld l 2 = some (.int x2)) (h4 : mj_ld l 4 = some (.int x4)) (h5 : mj_ld l 5 = some (.int x5)) (e : J261_187 N x1 x2 x4 x5  S = some o) (g : GG261_22 xt ct a ra d q o) : MR xt ct a ra (d + 4) 261 187 l [] S (.inl (some (.int q.1))) q.2 := by
  unfold J261_187 at e
  exact (
  M_of (fun _ _ H => r_aloadn c261_187 h0 <| H) <|
  M_geta (j := 18) c261_188 (by decide) <|
  M_of (fun _ _ H => r_iload c261_191 h5 <| r_iload c261_193 h4 <| H) <|
  t_ck e fun i34 e35 =>
  M_iast (j := 18) c261_195 (by decide) i34 <|
  M_of (fun _ _ H => r_iconst c261_196 <| r_istore c261_197 <| H) <|
  L261_199_ok e35 g _ (ld1_ne h0 (by decide) (Or.inl (by decide))) (ld1_ne h1 (by decide) (Or.inl (by decide))) (ld1_ne h2 (by decide) (Or.inl (by decide))) (ld1_ne h4 (by decide) (Or.inl (by decide))) (ld1_ne h5 (by decide) (Or.inr rfl)) ld1_eq)
def J261_177 (N : Nat) (x1 : Int32) (x2 : Int32) (x4 : Int32) (x5 : Int32) (s0 : Int32) (s1 : Int32) (s2 : Int32) (S : mS) : Option ((Int32 × Int32 × Int32 × Int32 × mS) ⊕ (Int32 × mS)) :=
  if 0 ≤ (x5).toInt ∧ (x5).toInt < mN 17 then
  (M264 N s2 s1 s0 (S.2.1 17 (x5).toInt.toNat) S).bind fun r31 =>
  J261_187 N x1 x2 x4 x5 r31
  else none
theorem J261_177_ok {xt : mj_X} {ct : Nat → Value} {a : Nat} {ra : Nat → Nat} {d N : Nat} {l : mj_L} {x1 : Int32} {x2 : Int32} {x4 : Int32} {x5 : Int32} {s0 : Int32} {s1 : Int32} {s2 : Int32} {S : mS} {o : (Int32 × Int32 × Int32 × Int32 × mS) ⊕ (Int32 × mS)} {q : Int32 × mS} (h0 : mj_ld l 0 = some (.ref a)) (h1 : mj_ld l 1 = some (.int x1)) (h2 : mj_ld l 2 = some (.int x2)) (h4 : mj_ld l 4 = some (.int x4)) (h5 : mj_ld l 5 = some (.int x5)) (e : J261_177 N x1 x2 x4 x5 s0 s1 s2 S = some o) (g : GG261_22 xt ct a ra d q o) : MR xt ct a ra (d + 4) 261 177 l [.int s0, .int s1, .int s2, .ref a] S (.inl (some (.int q.1))) q.2 := by
  unfold J261_177 at e
  exact (
  M_of (fun _ _ H => r_aloadn c261_177 h0 <| H) <|
  M_geta (j := 17) c261_178 (by decide) <|
  M_of (fun _ _ H => r_iload c261_181 h5 <| H) <|
  t_ck e fun i29 e30 =>
  M_iald (j := 17) (v := (S.2.1 17 (x5).toInt.toNat)) c261_183 (by decide) i29 rfl <|
  t_bd e30 fun r31 c32 e33 =>
  M_cv (as := [.ref a, .int s2, .int s1, .int s0, .int (S.2.1 17 (x5).toInt.toNat)]) (st' := []) (v := none) c261_184 rfl ⟨Nat.le_of_ble_eq_true rfl, Nat.le_of_ble_eq_true rfl, Nat.le_of_ble_eq_true rfl⟩ rfl rfl (M264_ok (d := d) c32) (Nat.add_lt_add_left (by decide) d) <|
  J261_187_ok h0 h1 h2 h4 h5 e33 g)
def B261_58 (N : Nat) (s : Int32 × Int32 × Int32 × Int32 × Int32 × mS) : Option ((Int32 × Int32 × Int32 × Int32 × Int32 × mS) ⊕ ((Int32 × Int32 × Int32 × Int32 × mS) ⊕ (Int32 × mS))) :=
  bif mj_c2 .ge s.2.2.2.2.1 121 then
    if 0 ≤ (s.2.2.2.1).toInt ∧ (s.2.2.2.1).toInt < mN 16 then
    bif mj_c2 .ne (s.2.2.2.2.2.2.1 16 (s.2.2.2.1).toInt.toNat) 101 then
      if 0 ≤ (s.2.2.2.1).toInt ∧ (s.2.2.2.1).toInt < mN 16 then
      bif mj_c2 .ne (s.2.2.2.2.2.2.1 16 (s.2.2.2.1).toInt.toNat) 32 then
        if 0 ≤ (s.2.2.2.1).toInt ∧ (s.2.2.2.1).toInt < mN 14 then
        if 0 ≤ (s.2.2.2.1).toInt ∧ (s.2.2.2.1).toInt < mN 15 then
        if 0 ≤ (s.2.2.2.1).toInt ∧ (s.2.2.2.1).toInt < mN 16 then
        bif mj_c2 .ne (s.2.2.2.2.2.2.1 16 (s.2.2.2.1).toInt.toNat) 108 then
          (J261_177 N s.1 s.2.1 s.2.2.1 s.2.2.2.1 0 (s.2.2.2.2.2.2.1 15 (s.2.2.2.1).toInt.toNat) (s.2.2.2.2.2.2.1 14 (s.2.2.2.1).toInt.toNat) s.2.2.2.2.2).map Sum.inr
        else
        (J261_177 N s.1 s.2.1 s.2.2.1 s.2.2.2.1 1 (s.2.2.2.2.2.2.1 15 (s.2.2.2.1).toInt.toNat) (s.2.2.2.2.2.2.1 14 (s.2.2.2.1).toInt.toNat) s.2.2.2.2.2).map Sum.inr
        else none
        else none
        else none
      else
      if 0 ≤ (s.2.2.2.1).toInt ∧ (s.2.2.2.1).toInt < mN 14 then
      if 0 ≤ (s.2.2.2.1).toInt ∧ (s.2.2.2.1).toInt < mN 15 then
      (M263 N (s.2.2.2.2.2.2.1 14 (s.2.2.2.1).toInt.toNat) (s.2.2.2.2.2.2.1 15 (s.2.2.2.1).toInt.toNat) s.2.2.2.2.2).bind fun r58 =>
      (J261_187 N s.1 s.2.1 s.2.2.1 s.2.2.2.1 r58).map Sum.inr
      else none
      else none
      else none
    else
    if 0 ≤ (s.2.2.2.1).toInt ∧ (s.2.2.2.1).toInt < mN 15 then
    if 0 ≤ (s.2.2.2.1).toInt ∧ (s.2.2.2.1).toInt < mN 17 then
    (M262 N (s.2.2.2.2.2.2.1 15 (s.2.2.2.1).toInt.toNat) (s.2.2.2.2.2.2.1 17 (s.2.2.2.1).toInt.toNat) s.2.2.2.2.2).bind fun r69 =>
    (J261_187 N s.1 s.2.1 s.2.2.1 s.2.2.2.1 r69).map Sum.inr
    else none
    else none
    else none
  else
  if 0 ≤ (s.2.2.2.2.1).toInt ∧ (s.2.2.2.2.1).toInt < mN 38 then
  some (.inl (s.1, s.2.1, s.2.2.1, s.2.2.2.1, (s.2.2.2.2.1 + 1), (m_sB s.2.2.2.2.2 38 (s.2.2.2.2.1).toInt.toNat 0)))
  else none
def L261_58 (N : Nat) (s : Int32 × Int32 × Int32 × Int32 × Int32 × mS) : Option ((Int32 × Int32 × Int32 × Int32 × mS) ⊕ (Int32 × mS)) := t_lp (B261_58 N) N s
theorem B261_58_ok {xt : mj_X} {ct : Nat → Value} {a : Nat} {ra : Nat → Nat} {d N : Nat} {s : Int32 × Int32 × Int32 × Int32 × Int32 × mS} {o : (Int32 × Int32 × Int32 × Int32 × Int32 × mS) ⊕ ((Int32 × Int32 × Int32 × Int32 × mS) ⊕ (Int32 × mS))} {q : Int32 × mS} (e : B261_58 N s = some o) (g : GG261_58 xt ct a ra d q o) : LG261_58 xt ct a ra d q s.1 s.2.1 s.2.2.1 s.2.2.2.1 s.2.2.2.2.1 s.2.2.2.2.2 := by
  unfold B261_58 at e
  exact (fun l h0 h1 h2 h4 h5 h6 =>
  M_of (fun _ _ H => r_iload c261_58 h6 <| r_bipush c261_60 <| H) <|
  t_if e (fun b11 e12 =>
    M_of (fun _ _ H => r_icmpT c261_62 b11 <| H) <|
    M_of (fun _ _ H => r_aloadn c261_79 h0 <| H) <|
    M_geta (j := 16) c261_80 (by decide) <|
    M_of (fun _ _ H => r_iload c261_83 h5 <| H) <|
    t_ck e12 fun i13 e14 =>
    M_iald (j := 16) (v := (s.2.2.2.2.2.2.1 16 (s.2.2.2.1).toInt.toNat)) c261_85 (by decide) i13 rfl <|
    M_of (fun _ _ H => r_bipush c261_86 <| H) <|
    t_if e14 (fun b15 e16 =>
      M_of (fun _ _ H => r_icmpT c261_88 b15 <| H) <|
      M_of (fun _ _ H => r_aloadn c261_112 h0 <| H) <|
      M_geta (j := 16) c261_113 (by decide) <|
      M_of (fun _ _ H => r_iload c261_116 h5 <| H) <|
      t_ck e16 fun i17 e18 =>
      M_iald (j := 16) (v := (s.2.2.2.2.2.2.1 16 (s.2.2.2.1).toInt.toNat)) c261_118 (by decide) i17 rfl <|
      M_of (fun _ _ H => r_bipush c261_119 <| H) <|
      t_if e18 (fun b19 e20 =>
        M_of (fun _ _ H => r_icmpT c261_121 b19 <| H) <|
        M_of (fun _ _ H => r_aloadn c261_145 h0 <| r_aloadn c261_146 h0 <| H) <|
        M_geta (j := 14) c261_147 (by decide) <|
        M_of (fun _ _ H => r_iload c261_150 h5 <| H) <|
        t_ck e20 fun i21 e22 =>
        M_iald (j := 14) (v := (s.2.2.2.2.2.2.1 14 (s.2.2.2.1).toInt.toNat)) c261_152 (by decide) i21 rfl <|
        M_of (fun _ _ H => r_aloadn c261_153 h0 <| H) <|
        M_geta (j := 15) c261_154 (by decide) <|
        M_of (fun _ _ H => r_iload c261_157 h5 <| H) <|
        t_ck e22 fun i23 e24 =>
        M_iald (j := 15) (v := (s.2.2.2.2.2.2.1 15 (s.2.2.2.1).toInt.toNat)) c261_159 (by decide) i23 rfl <|
        M_of (fun _ _ H => r_aloadn c261_160 h0 <| H) <|
        M_geta (j := 16) c261_161 (by decide) <|
        M_of (fun _ _ H => r_iload c261_164 h5 <| H) <|
        t_ck e24 fun i25 e26 =>
        M_iald (j := 16) (v := (s.2.2.2.2.2.2.1 16 (s.2.2.2.1).toInt.toNat)) c261_166 (by decide) i25 rfl <|
        M_of (fun _ _ H => r_bipush c261_167 <| H) <|
        t_if e26 (fun b27 e28 =>
          M_of (fun _ _ H => r_icmpT c261_169 b27 <| H) <|
          M_of (fun _ _ H => r_iconst c261_176 <| H) <|
          t_up e28 fun o46 e47 u48 =>
          (fun (g49 : GG261_22 xt ct a ra d q o46) =>
          J261_177_ok h0 h1 h2 h4 h5 e47 g49
          ) (by have := g; rw [u48] at this; exact this)
        ) (fun b27 e28 =>
          M_of (fun _ _ H => r_icmpF c261_169 b27 <| H) <|
          M_of (fun _ _ H => r_iconst c261_172 <| r_goto c261_173 <| H) <|
          t_up e28 fun o50 e51 u52 =>
          (fun (g53 : GG261_22 xt ct a ra d q o50) =>
          J261_177_ok h0 h1 h2 h4 h5 e51 g53
          ) (by have := g; rw [u52] at this; exact this)
        )
      ) (fun b19 e20 =>
        M_of (fun _ _ H => r_icmpF c261_121 b19 <| H) <|
        M_of (fun _ _ H => r_aloadn c261_124 h0 <| r_aloadn c261_125 h0 <| H) <|
        M_geta (j := 14) c261_126 (by decide) <|
        M_of (fun _ _ H => r_iload c261_129 h5 <| H) <|
        t_ck e20 fun i54 e55 =>
        M_iald (j := 14) (v := (s.2.2.2.2.2.2.1 14 (s.2.2.2.1).toInt.toNat)) c261_131 (by decide) i54 rfl <|
        M_of (fun _ _ H => r_aloadn c261_132 h0 <| H) <|
        M_geta (j := 15) c261_133 (by decide) <|
        M_of (fun _ _ H => r_iload c261_136 h5 <| H) <|
        t_ck e55 fun i56 e57 =>
        M_iald (j := 15) (v := (s.2.2.2.2.2.2.1 15 (s.2.2.2.1).toInt.toNat)) c261_138 (by decide) i56 rfl <|
        t_bd e57 fun r58 c59 e60 =>
        M_cv (as := [.ref a, .int (s.2.2.2.2.2.2.1 14 (s.2.2.2.1).toInt.toNat), .int (s.2.2.2.2.2.2.1 15 (s.2.2.2.1).toInt.toNat)]) (st' := []) (v := none) c261_139 rfl ⟨Nat.le_of_ble_eq_true rfl, Nat.le_of_ble_eq_true rfl, Nat.le_of_ble_eq_true rfl⟩ rfl rfl (M263_ok (d := d) c59) (Nat.add_lt_add_left (by decide) d) <|
        M_of (fun _ _ H => r_goto c261_142 <| H) <|
        t_up e60 fun o61 e62 u63 =>
        (fun (g64 : GG261_22 xt ct a ra d q o61) =>
        J261_187_ok h0 h1 h2 h4 h5 e62 g64
        ) (by have := g; rw [u63] at this; exact this)
      )
    ) (fun b15 e16 =>
      M_of (fun _ _ H => r_icmpF c261_88 b15 <| H) <|
      M_of (fun _ _ H => r_aloadn c261_91 h0 <| r_aloadn c261_92 h0 <| H) <|
      M_geta (j := 15) c261_93 (by decide) <|
      M_of (fun _ _ H => r_iload c261_96 h5 <| H) <|
      t_ck e16 fun i65 e66 =>
      M_iald (j := 15) (v := (s.2.2.2.2.2.2.1 15 (s.2.2.2.1).toInt.toNat)) c261_98 (by decide) i65 rfl <|
      M_of (fun _ _ H => r_aloadn c261_99 h0 <| H) <|
      M_geta (j := 17) c261_100 (by decide) <|
      M_of (fun _ _ H => r_iload c261_103 h5 <| H) <|
      t_ck e66 fun i67 e68 =>
      M_iald (j := 17) (v := (s.2.2.2.2.2.2.1 17 (s.2.2.2.1).toInt.toNat)) c261_105 (by decide) i67 rfl <|
      t_bd e68 fun r69 c70 e71 =>
      M_cv (as := [.ref a, .int (s.2.2.2.2.2.2.1 15 (s.2.2.2.1).toInt.toNat), .int (s.2.2.2.2.2.2.1 17 (s.2.2.2.1).toInt.toNat)]) (st' := []) (v := none) c261_106 rfl ⟨Nat.le_of_ble_eq_true rfl, Nat.le_of_ble_eq_true rfl, Nat.le_of_ble_eq_true rfl⟩ rfl rfl (M262_ok (d := d) c70) (Nat.add_lt_add_left (by decide) d) <|
      M_of (fun _ _ H => r_goto c261_109 <| H) <|
      t_up e71 fun o72 e73 u74 =>
      (fun (g75 : GG261_22 xt ct a ra d q o72) =>
      J261_187_ok h0 h1 h2 h4 h5 e73 g75
      ) (by have := g; rw [u74] at this; exact this)
    )
  ) (fun b11 e12 =>
    M_of (fun _ _ H => r_icmpF c261_62 b11 <| H) <|
    M_of (fun _ _ H => r_aloadn c261_65 h0 <| H) <|
    M_geta (j := 38) c261_66 (by decide) <|
    M_of (fun _ _ H => r_iload c261_69 h6 <| r_lconst c261_71 <| H) <|
    t_ck e12 fun i76 e77 =>
    M_last (j := 38) c261_72 (by decide) i76 <|
    M_of (fun _ _ H => r_iinc c261_73 h6 <| r_goto c261_76 <| H) <|
    t_rg e77 g (fun (e : LG261_58 xt ct a ra d q s.1 s.2.1 s.2.2.1 s.2.2.2.1 (s.2.2.2.2.1 + 1) (m_sB s.2.2.2.2.2 38 (s.2.2.2.2.1).toInt.toNat 0)) => e _ (ld1_ne h0 (by decide) (Or.inl (by decide))) (ld1_ne h1 (by decide) (Or.inl (by decide))) (ld1_ne h2 (by decide) (Or.inl (by decide))) (ld1_ne h4 (by decide) (Or.inl (by decide))) (ld1_ne h5 (by decide) (Or.inr rfl)) ld1_eq)
  ))
theorem L261_58_ok {xt : mj_X} {ct : Nat → Value} {a : Nat} {ra : Nat → Nat} {d N : Nat} {x1 : Int32} {x2 : Int32} {x4 : Int32} {x5 : Int32} {x6 : Int32} {S : mS} {o : (Int32 × Int32 × Int32 × Int32 × mS) ⊕ (Int32 × mS)} {q : Int32 × mS} (e : L261_58 N (x1, x2, x4, x5, x6, S) = some o) (g : GG261_22 xt ct a ra d q o) : LG261_58 xt ct a ra d q x1 x2 x4 x5 x6 S :=
  t_lp_ok (G := fun s => LG261_58 xt ct a ra d q s.1 s.2.1 s.2.2.1 s.2.2.2.1 s.2.2.2.2.1 s.2.2.2.2.2) (fun s s' e g => B261_58_ok e (by obtain ⟨_, _, _, _, _, _⟩ := s'; exact g)) (fun s e => B261_58_ok e g) N (x1, x2, x4, x5, x6, S) e
def B261_22 (N : Nat) (s : Int32 × Int32 × Int32 × Int32 × mS) : Option ((Int32 × Int32 × Int32 × Int32 × mS) ⊕ (Int32 × mS)) :=
  if 0 ≤ (((24 * s.1) + s.2.1)).toInt ∧ (((24 * s.1) + s.2.1)).toInt < mN 9 then
  bif mj_c2 .gt s.2.2.2.1 ((160 * s.1) + (s.2.2.2.2.2.1 9 (((24 * s.1) + s.2.1)).toInt.toNat)) then
    some (.inr (s.2.2.1, s.2.2.2.2))
  else
  if 0 ≤ (s.2.2.2.1).toInt ∧ (s.2.2.2.1).toInt < mN 13 then
  bif mj_c2 .ne (s.2.2.2.2.2.1 13 (s.2.2.2.1).toInt.toNat) 4 then
    J261_235 N s.1 s.2.1 s.2.2.1 s.2.2.2.1 s.2.2.2.2
  else
  L261_58 N (s.1, s.2.1, s.2.2.1, s.2.2.2.1, 0, s.2.2.2.2)
  else none
  else none
def L261_22 (N : Nat) (s : Int32 × Int32 × Int32 × Int32 × mS) : Option (Int32 × mS) := t_lp (B261_22 N) N s
theorem B261_22_ok {xt : mj_X} {ct : Nat → Value} {a : Nat} {ra : Nat → Nat} {d N : Nat} {s : Int32 × Int32 × Int32 × Int32 × mS} {o : (Int32 × Int32 × Int32 × Int32 × mS) ⊕ (Int32 × mS)} {q : Int32 × mS} (e : B261_22 N s = some o) (g : GG261_22 xt ct a ra d q o) : LG261_22 xt ct a ra d q s.1 s.2.1 s.2.2.1 s.2.2.2.1 s.2.2.2.2 := by
  unfold B261_22 at e
  exact (fun l h0 h1 h2 h4 h5 =>
  M_of (fun _ _ H => r_iload c261_22 h5 <| r_sipush c261_24 <| r_iloadn c261_27 h1 <| r_imul c261_28 rfl <| r_aloadn c261_29 h0 <| H) <|
  M_geta (j := 9) c261_30 (by decide) <|
  M_of (fun _ _ H => r_bipush c261_33 <| r_iloadn c261_35 h1 <| r_imul c261_36 rfl <| r_iloadn c261_37 h2 <| r_iadd c261_38 rfl <| H) <|
  t_ck e fun i3 e4 =>
  M_iald (j := 9) (v := (s.2.2.2.2.2.1 9 (((24 * s.1) + s.2.1)).toInt.toNat)) c261_39 (by decide) i3 rfl <|
  M_of (fun _ _ H => r_iadd c261_40 rfl <| H) <|
  t_if e4 (fun b5 e6 =>
    M_of (fun _ _ H => r_icmpT c261_41 b5 <| H) <|
    M_of (fun _ _ H => r_iload c261_241 h4 <| H) <|
    t_rg e6 g (fun (e : (s.2.2.1, s.2.2.2.2) = q) => M_ri (e) (fun _ => r_iret c261_243 rfl))
  ) (fun b5 e6 =>
    M_of (fun _ _ H => r_icmpF c261_41 b5 <| H) <|
    M_of (fun _ _ H => r_aloadn c261_44 h0 <| H) <|
    M_geta (j := 13) c261_45 (by decide) <|
    M_of (fun _ _ H => r_iload c261_48 h5 <| H) <|
    t_ck e6 fun i7 e8 =>
    M_iald (j := 13) (v := (s.2.2.2.2.2.1 13 (s.2.2.2.1).toInt.toNat)) c261_50 (by decide) i7 rfl <|
    M_of (fun _ _ H => r_iconst c261_51 <| H) <|
    t_if e8 (fun b9 e10 =>
      M_of (fun _ _ H => r_icmpT c261_52 b9 <| H) <|
      J261_235_ok h0 h1 h2 h4 h5 e10 g
    ) (fun b9 e10 =>
      M_of (fun _ _ H => r_icmpF c261_52 b9 <| H) <|
      M_of (fun _ _ H => r_iconst c261_55 <| r_istore c261_56 <| H) <|
      L261_58_ok e10 g _ (ld1_ne h0 (by decide) (Or.inl (by decide))) (ld1_ne h1 (by decide) (Or.inl (by decide))) (ld1_ne h2 (by decide) (Or.inl (by decide))) (ld1_ne h4 (by decide) (Or.inl (by decide))) (ld1_ne h5 (by decide) (Or.inr rfl)) ld1_eq
    )
  ))
theorem L261_22_ok {xt : mj_X} {ct : Nat → Value} {a : Nat} {ra : Nat → Nat} {d N : Nat} {x1 : Int32} {x2 : Int32} {x4 : Int32} {x5 : Int32} {S : mS} {q : Int32 × mS} (e : L261_22 N (x1, x2, x4, x5, S) = some q) : LG261_22 xt ct a ra d q x1 x2 x4 x5 S :=
  t_lp_ok (G := fun s => LG261_22 xt ct a ra d q s.1 s.2.1 s.2.2.1 s.2.2.2.1 s.2.2.2.2) (fun s s' e g => B261_22_ok e (by obtain ⟨_, _, _, _, _⟩ := s'; exact g)) (fun s e => B261_22_ok e rfl) N (x1, x2, x4, x5, S) e
/-- fallAll(III)I -/
def M261 (N : Nat) (x1 : Int32) (x2 : Int32) (x3 : Int32) (S : mS) : Option (Int32 × mS) :=
  if 0 ≤ (((24 * x1) + x2)).toInt ∧ (((24 * x1) + x2)).toInt < mN 8 then
  L261_22 N (x1, x2, x3, ((160 * x1) + (S.2.1 8 (((24 * x1) + x2)).toInt.toNat)), S)
  else none
theorem M261_ok {xt : mj_X} {ct : Nat → Value} {a : Nat} {ra : Nat → Nat} {d N : Nat} {x1 : Int32} {x2 : Int32} {x3 : Int32} {S : mS} {q : Int32 × mS} (e : M261 N x1 x2 x3 S = some q) : MR xt ct a ra (d + 4) 261 0 (lv_args 0 [.ref a, .int x1, .int x2, .int x3]) [] S (.inl (some (.int q.1))) q.2 := by
  unfold M261 at e
  exact (
  M_of (fun _ _ H => r_iloadn c261_0 rfl <| r_istore c261_1 <| r_sipush c261_3 <| r_iloadn c261_6 (ld1_ne rfl (by decide) (Or.inl (by decide))) <| r_imul c261_7 rfl <| r_aloadn c261_8 (ld1_ne rfl (by decide) (Or.inl (by decide))) <| H) <|
  M_geta (j := 8) c261_9 (by decide) <|
  M_of (fun _ _ H => r_bipush c261_12 <| r_iloadn c261_14 (ld1_ne rfl (by decide) (Or.inl (by decide))) <| r_imul c261_15 rfl <| r_iloadn c261_16 (ld1_ne rfl (by decide) (Or.inl (by decide))) <| r_iadd c261_17 rfl <| H) <|
  t_ck e fun i1 e2 =>
  M_iald (j := 8) (v := (S.2.1 8 (((24 * x1) + x2)).toInt.toNat)) c261_18 (by decide) i1 rfl <|
  M_of (fun _ _ H => r_iadd c261_19 rfl <| r_istore c261_20 <| H) <|
  L261_22_ok e2 _ (ld1_ne (ld1_ne rfl (by decide) (Or.inl (by decide))) (by decide) (Or.inl (by decide))) (ld1_ne (ld1_ne rfl (by decide) (Or.inl (by decide))) (by decide) (Or.inl (by decide))) (ld1_ne (ld1_ne rfl (by decide) (Or.inl (by decide))) (by decide) (Or.inl (by decide))) (ld1_ne ld1_eq (by decide) (Or.inr rfl)) ld1_eq)
def J266_71 (N : Nat)  (s0 : Int32) (S : mS) : Option (Int32 × mS) :=
  some (s0, S)
theorem J266_71_ok {xt : mj_X} {ct : Nat → Value} {a : Nat} {ra : Nat → Nat} {d N : Nat} {l : mj_L}  {s0 : Int32} {S : mS} {q : Int32 × mS} (h0 : mj_ld l 0 = some (.ref a)) (e : J266_71 N  s0 S = some q) : MR xt ct a ra (d + 1) 266 71 l [.int s0] S (.inl (some (.int q.1))) q.2 := by
  unfold J266_71 at e
  exact (
  M_ri (Option.some.inj e) (fun _ => r_iret c266_71 rfl))
def J266_65 (N : Nat) (x2 : Int32)  (S : mS) : Option (Int32 × mS) :=
  if 0 ≤ (x2).toInt ∧ (x2).toInt < mN 11 then
  J266_71 N (S.2.1 11 (x2).toInt.toNat) S
  else none
theorem J266_65_ok {xt : mj_X} {ct : Nat → Value} {a : Nat} {ra : Nat → Nat} {d N : Nat} {l : mj_L} {x2 : Int32}  {S : mS} {q : Int32 × mS} (h0 : mj_ld l 0 = some (.ref a)) (h2 : mj_ld l 2 = some (.int x2)) (e : J266_65 N x2  S = some q) : MR xt ct a ra (d + 1) 266 65 l [] S (.inl (some (.int q.1))) q.2 := by
  unfold J266_65 at e
  exact (
  M_of (fun _ _ H => r_aloadn c266_65 h0 <| H) <|
  M_geta (j := 11) c266_66 (by decide) <|
  M_of (fun _ _ H => r_iloadn c266_69 h2 <| H) <|
  t_ck e fun i9 e10 =>
  M_iald (j := 11) (v := (S.2.1 11 (x2).toInt.toNat)) c266_70 (by decide) i9 rfl <|
  J266_71_ok h0 e10)
/-- blockEnd(I)I -/
def M266 (N : Nat) (x1 : Int32) (S : mS) : Option (Int32 × mS) :=
  bif mj_c1 .ne (S.1 56) then
    if 0 ≤ (((S.1 56) - 1)).toInt ∧ (((S.1 56) - 1)).toInt < mN 53 then
    if 0 ≤ (((24 * x1) + (S.2.1 53 (((S.1 56) - 1)).toInt.toNat))).toInt ∧ (((24 * x1) + (S.2.1 53 (((S.1 56) - 1)).toInt.toNat))).toInt < mN 6 then
    bif mj_c2 .ne (S.2.1 6 (((24 * x1) + (S.2.1 53 (((S.1 56) - 1)).toInt.toNat))).toInt.toNat) 2 then
      J266_65 N ((24 * x1) + (S.2.1 53 (((S.1 56) - 1)).toInt.toNat)) S
    else
    if 0 ≤ (((S.1 56) - 1)).toInt ∧ (((S.1 56) - 1)).toInt < mN 55 then
    bif mj_c2 .ne (S.2.1 55 (((S.1 56) - 1)).toInt.toNat) 1 then
      J266_65 N ((24 * x1) + (S.2.1 53 (((S.1 56) - 1)).toInt.toNat)) S
    else
    if 0 ≤ (((24 * x1) + (S.2.1 53 (((S.1 56) - 1)).toInt.toNat))).toInt ∧ (((24 * x1) + (S.2.1 53 (((S.1 56) - 1)).toInt.toNat))).toInt < mN 10 then
    J266_71 N (S.2.1 10 (((24 * x1) + (S.2.1 53 (((S.1 56) - 1)).toInt.toNat))).toInt.toNat) S
    else none
    else none
    else none
    else none
  else
  if 0 ≤ (x1).toInt ∧ (x1).toInt < mN 5 then
  some ((S.2.1 5 (x1).toInt.toNat), S)
  else none
theorem M266_ok {xt : mj_X} {ct : Nat → Value} {a : Nat} {ra : Nat → Nat} {d N : Nat} {x1 : Int32} {S : mS} {q : Int32 × mS} (e : M266 N x1 S = some q) : MR xt ct a ra (d + 1) 266 0 (lv_args 0 [.ref a, .int x1]) [] S (.inl (some (.int q.1))) q.2 := by
  unfold M266 at e
  exact (
  M_of (fun _ _ H => r_aloadn c266_0 rfl <| H) <|
  M_get (v := (S.1 56)) c266_1 (by decide) rfl <|
  t_if e (fun b1 e2 =>
    M_of (fun _ _ H => r_ifT c266_4 b1 <| H) <|
    M_of (fun _ _ H => r_bipush c266_14 <| r_iloadn c266_16 rfl <| r_imul c266_17 rfl <| r_aloadn c266_18 rfl <| H) <|
    M_geta (j := 53) c266_19 (by decide) <|
    M_of (fun _ _ H => r_aloadn c266_22 rfl <| H) <|
    M_get (v := (S.1 56)) c266_23 (by decide) rfl <|
    M_of (fun _ _ H => r_iconst c266_26 <| r_isub c266_27 rfl <| H) <|
    t_ck e2 fun i3 e4 =>
    M_iald (j := 53) (v := (S.2.1 53 (((S.1 56) - 1)).toInt.toNat)) c266_28 (by decide) i3 rfl <|
    M_of (fun _ _ H => r_iadd c266_29 rfl <| r_istoren c266_30 <| r_aloadn c266_31 (ld1_ne rfl (by decide) (Or.inl (by decide))) <| H) <|
    M_geta (j := 6) c266_32 (by decide) <|
    M_of (fun _ _ H => r_iloadn c266_35 ld1_eq <| H) <|
    t_ck e4 fun i5 e6 =>
    M_iald (j := 6) (v := (S.2.1 6 (((24 * x1) + (S.2.1 53 (((S.1 56) - 1)).toInt.toNat))).toInt.toNat)) c266_36 (by decide) i5 rfl <|
    M_of (fun _ _ H => r_iconst c266_37 <| H) <|
    t_if e6 (fun b7 e8 =>
      M_of (fun _ _ H => r_icmpT c266_38 b7 <| H) <|
      J266_65_ok (ld1_ne rfl (by decide) (Or.inl (by decide))) ld1_eq e8
    ) (fun b7 e8 =>
      M_of (fun _ _ H => r_icmpF c266_38 b7 <| H) <|
      M_of (fun _ _ H => r_aloadn c266_41 (ld1_ne rfl (by decide) (Or.inl (by decide))) <| H) <|
      M_geta (j := 55) c266_42 (by decide) <|
      M_of (fun _ _ H => r_aloadn c266_45 (ld1_ne rfl (by decide) (Or.inl (by decide))) <| H) <|
      M_get (v := (S.1 56)) c266_46 (by decide) rfl <|
      M_of (fun _ _ H => r_iconst c266_49 <| r_isub c266_50 rfl <| H) <|
      t_ck e8 fun i11 e12 =>
      M_iald (j := 55) (v := (S.2.1 55 (((S.1 56) - 1)).toInt.toNat)) c266_51 (by decide) i11 rfl <|
      M_of (fun _ _ H => r_iconst c266_52 <| H) <|
      t_if e12 (fun b13 e14 =>
        M_of (fun _ _ H => r_icmpT c266_53 b13 <| H) <|
        J266_65_ok (ld1_ne rfl (by decide) (Or.inl (by decide))) ld1_eq e14
      ) (fun b13 e14 =>
        M_of (fun _ _ H => r_icmpF c266_53 b13 <| H) <|
        M_of (fun _ _ H => r_aloadn c266_56 (ld1_ne rfl (by decide) (Or.inl (by decide))) <| H) <|
        M_geta (j := 10) c266_57 (by decide) <|
        M_of (fun _ _ H => r_iloadn c266_60 ld1_eq <| H) <|
        t_ck e14 fun i15 e16 =>
        M_iald (j := 10) (v := (S.2.1 10 (((24 * x1) + (S.2.1 53 (((S.1 56) - 1)).toInt.toNat))).toInt.toNat)) c266_61 (by decide) i15 rfl <|
        M_of (fun _ _ H => r_goto c266_62 <| H) <|
        J266_71_ok (ld1_ne rfl (by decide) (Or.inl (by decide))) e16
      )
    )
  ) (fun b1 e2 =>
    M_of (fun _ _ H => r_ifF c266_4 b1 <| H) <|
    M_of (fun _ _ H => r_aloadn c266_7 rfl <| H) <|
    M_geta (j := 5) c266_8 (by decide) <|
    M_of (fun _ _ H => r_iloadn c266_11 rfl <| H) <|
    t_ck e2 fun i17 e18 =>
    M_iald (j := 5) (v := (S.2.1 5 (x1).toInt.toNat)) c266_12 (by decide) i17 rfl <|
    M_ri (Option.some.inj e18) (fun _ => r_iret c266_13 rfl)
  ))
def LG271_6 (xt : mj_X) (ct : Nat → Value) (a : Nat) (ra : Nat → Nat) (d : Nat) (q : Int32 × mS) (x1 : Int32) (x2 : Int32) (x3 : Int32) (x4 : Int32) (x5 : Int32) (x6 : Int32) (x7 : Int32) (x8 : Int32) (S : mS) : Prop := ∀ l, mj_ld l 0 = some (.ref a) → mj_ld l 1 = some (.int x1) → mj_ld l 2 = some (.int x2) → mj_ld l 3 = some (.int x3) → mj_ld l 4 = some (.int x4) → mj_ld l 5 = some (.int x5) → mj_ld l 6 = some (.int x6) → mj_ld l 7 = some (.int x7) → mj_ld l 8 = some (.int x8) → MR xt ct a ra (d + 1) 271 6 l [] S (.inl (some (.int q.1))) q.2
def GG271_6 (xt : mj_X) (ct : Nat → Value) (a : Nat) (ra : Nat → Nat) (d : Nat) (q : Int32 × mS) (o : (Int32 × Int32 × Int32 × Int32 × Int32 × Int32 × Int32 × Int32 × mS) ⊕ (Int32 × mS)) : Prop := match o with
  | .inl (x1, x2, x3, x4, x5, x6, x7, x8, S) => LG271_6 xt ct a ra d q x1 x2 x3 x4 x5 x6 x7 x8 S
  | .inr r => r = q
def J271_79 (N : Nat) (x1 : Int32) (x2 : Int32) (x3 : Int32) (x4 : Int32) (x5 : Int32) (x6 : Int32) (x8 : Int32) (s0 : Int32) (S : mS) : Option ((Int32 × Int32 × Int32 × Int32 × Int32 × Int32 × Int32 × Int32 × mS) ⊕ (Int32 × mS)) :=
  some (.inl (x1, x2, x3, x4, x5, x6, s0, (x8 + 1), S))
theorem J271_79_ok {xt : mj_X} {ct : Nat → Value} {a : Nat} {ra : Nat → Nat} {d N : Nat} {l : mj_L} {x1 : Int32} {x2 : Int32} {x3 : Int32} {x4 : Int32} {x5 : Int32} {x6 : Int32} {x8 : Int32} {s0 : Int32} {S : mS} {o : (Int32 × Int32 × Int32 × Int32 × Int32 × Int32 × Int32 × Int32 × mS) ⊕ (Int32 × mS)} {q : Int32 × mS} (h0 : mj_ld l 0 = some (.ref a)) (h1 : mj_ld l 1 = some (.int x1)) (h2 : mj_ld l 2 = some (.int x2)) (h3 : mj_ld l 3 = some (.int x3)) (h4 : mj_ld l 4 = some (.int x4)) (h5 : mj_ld l 5 = some (.int x5)) (h6 : mj_ld l 6 = some (.int x6)) (h8 : mj_ld l 8 = some (.int x8)) (e : J271_79 N x1 x2 x3 x4 x5 x6 x8 s0 S = some o) (g : GG271_6 xt ct a ra d q o) : MR xt ct a ra (d + 1) 271 79 l [.int s0] S (.inl (some (.int q.1))) q.2 := by
  unfold J271_79 at e
  exact (
  M_of (fun _ _ H => r_istore c271_79 <| r_iinc c271_81 (ld1_ne h8 (by decide) (Or.inl (by decide))) <| r_goto c271_84 <| H) <|
  t_rg e g (fun (e : LG271_6 xt ct a ra d q x1 x2 x3 x4 x5 x6 s0 (x8 + 1) S) => e _ (ld1_ne (ld1_ne h0 (by decide) (Or.inl (by decide))) (by decide) (Or.inl (by decide))) (ld1_ne (ld1_ne h1 (by decide) (Or.inl (by decide))) (by decide) (Or.inl (by decide))) (ld1_ne (ld1_ne h2 (by decide) (Or.inl (by decide))) (by decide) (Or.inl (by decide))) (ld1_ne (ld1_ne h3 (by decide) (Or.inl (by decide))) (by decide) (Or.inl (by decide))) (ld1_ne (ld1_ne h4 (by decide) (Or.inl (by decide))) (by decide) (Or.inl (by decide))) (ld1_ne (ld1_ne h5 (by decide) (Or.inl (by decide))) (by decide) (Or.inl (by decide))) (ld1_ne (ld1_ne h6 (by decide) (Or.inr rfl)) (by decide) (Or.inl (by decide))) (ld1_ne ld1_eq (by decide) (Or.inr rfl)) ld1_eq))
def J271_78 (N : Nat) (x1 : Int32) (x2 : Int32) (x3 : Int32) (x4 : Int32) (x5 : Int32) (x6 : Int32) (x8 : Int32)  (S : mS) : Option ((Int32 × Int32 × Int32 × Int32 × Int32 × Int32 × Int32 × Int32 × mS) ⊕ (Int32 × mS)) :=
  J271_79 N x1 x2 x3 x4 x5 x6 x8 0 S
theorem J271_78_ok {xt : mj_X} {ct : Nat → Value} {a : Nat} {ra : Nat → Nat} {d N : Nat} {l : mj_L} {x1 : Int32} {x2 : Int32} {x3 : Int32} {x4 : Int32} {x5 : Int32} {x6 : Int32} {x8 : Int32}  {S : mS} {o : (Int32 × Int32 × Int32 × Int32 × Int32 × Int32 × Int32 × Int32 × mS) ⊕ (Int32 × mS)} {q : Int32 × mS} (h0 : mj_ld l 0 = some (.ref a)) (h1 : mj_ld l 1 = some (.int x1)) (h2 : mj_ld l 2 = some (.int x2)) (h3 : mj_ld l 3 = some (.int x3)) (h4 : mj_ld l 4 = some (.int x4)) (h5 : mj_ld l 5 = some (.int x5)) (h6 : mj_ld l 6 = some (.int x6)) (h8 : mj_ld l 8 = some (.int x8)) (e : J271_78 N x1 x2 x3 x4 x5 x6 x8  S = some o) (g : GG271_6 xt ct a ra d q o) : MR xt ct a ra (d + 1) 271 78 l [] S (.inl (some (.int q.1))) q.2 := by
  unfold J271_78 at e
  exact (
  M_of (fun _ _ H => r_iconst c271_78 <| H) <|
  J271_79_ok h0 h1 h2 h3 h4 h5 h6 h8 e g)
def J271_44 (N : Nat) (x1 : Int32) (x2 : Int32) (x3 : Int32) (x4 : Int32) (x5 : Int32) (x6 : Int32) (x7 : Int32) (x8 : Int32) (s0 : Int32) (S : mS) : Option ((Int32 × Int32 × Int32 × Int32 × Int32 × Int32 × Int32 × Int32 × mS) ⊕ (Int32 × mS)) :=
  bif mj_c1 .eq x7 then
    J271_78 N x1 x2 x3 x4 x5 x6 x8 S
  else
  if 0 ≤ ((((384 * x1) + (6 * x2)) + x8)).toInt ∧ ((((384 * x1) + (6 * x2)) + x8)).toInt < mN 47 then
  bif mj_c2 .ne (S.2.1 47 ((((384 * x1) + (6 * x2)) + x8)).toInt.toNat) s0 then
    J271_78 N x1 x2 x3 x4 x5 x6 x8 S
  else
  J271_79 N x1 x2 x3 x4 x5 x6 x8 1 S
  else none
theorem J271_44_ok {xt : mj_X} {ct : Nat → Value} {a : Nat} {ra : Nat → Nat} {d N : Nat} {l : mj_L} {x1 : Int32} {x2 : Int32} {x3 : Int32} {x4 : Int32} {x5 : Int32} {x6 : Int32} {x7 : Int32} {x8 : Int32} {s0 : Int32} {S : mS} {o : (Int32 × Int32 × Int32 × Int32 × Int32 × Int32 × Int32 × Int32 × mS) ⊕ (Int32 × mS)} {q : Int32 × mS} (h0 : mj_ld l 0 = some (.ref a)) (h1 : mj_ld l 1 = some (.int x1)) (h2 : mj_ld l 2 = some (.int x2)) (h3 : mj_ld l 3 = some (.int x3)) (h4 : mj_ld l 4 = some (.int x4)) (h5 : mj_ld l 5 = some (.int x5)) (h6 : mj_ld l 6 = some (.int x6)) (h7 : mj_ld l 7 = some (.int x7)) (h8 : mj_ld l 8 = some (.int x8)) (e : J271_44 N x1 x2 x3 x4 x5 x6 x7 x8 s0 S = some o) (g : GG271_6 xt ct a ra d q o) : MR xt ct a ra (d + 1) 271 44 l [.int s0] S (.inl (some (.int q.1))) q.2 := by
  unfold J271_44 at e
  exact (
  M_of (fun _ _ H => r_istore c271_44 <| r_iload c271_46 (ld1_ne h7 (by decide) (Or.inl (by decide))) <| H) <|
  t_if e (fun b9 e10 =>
    M_of (fun _ _ H => r_ifT c271_48 b9 <| H) <|
    J271_78_ok (ld1_ne h0 (by decide) (Or.inl (by decide))) (ld1_ne h1 (by decide) (Or.inl (by decide))) (ld1_ne h2 (by decide) (Or.inl (by decide))) (ld1_ne h3 (by decide) (Or.inl (by decide))) (ld1_ne h4 (by decide) (Or.inl (by decide))) (ld1_ne h5 (by decide) (Or.inl (by decide))) (ld1_ne h6 (by decide) (Or.inl (by decide))) (ld1_ne h8 (by decide) (Or.inr rfl)) e10 g
  ) (fun b9 e10 =>
    M_of (fun _ _ H => r_ifF c271_48 b9 <| H) <|
    M_of (fun _ _ H => r_aloadn c271_51 (ld1_ne h0 (by decide) (Or.inl (by decide))) <| H) <|
    M_geta (j := 47) c271_52 (by decide) <|
    M_of (fun _ _ H => r_sipush c271_55 <| r_iloadn c271_58 (ld1_ne h1 (by decide) (Or.inl (by decide))) <| r_imul c271_59 rfl <| r_bipush c271_60 <| r_iloadn c271_62 (ld1_ne h2 (by decide) (Or.inl (by decide))) <| r_imul c271_63 rfl <| r_iadd c271_64 rfl <| r_iload c271_65 (ld1_ne h8 (by decide) (Or.inr rfl)) <| r_iadd c271_67 rfl <| H) <|
    t_ck e10 fun i11 e12 =>
    M_iald (j := 47) (v := (S.2.1 47 ((((384 * x1) + (6 * x2)) + x8)).toInt.toNat)) c271_68 (by decide) i11 rfl <|
    M_of (fun _ _ H => r_iload c271_69 ld1_eq <| H) <|
    t_if e12 (fun b13 e14 =>
      M_of (fun _ _ H => r_icmpT c271_71 b13 <| H) <|
      J271_78_ok (ld1_ne h0 (by decide) (Or.inl (by decide))) (ld1_ne h1 (by decide) (Or.inl (by decide))) (ld1_ne h2 (by decide) (Or.inl (by decide))) (ld1_ne h3 (by decide) (Or.inl (by decide))) (ld1_ne h4 (by decide) (Or.inl (by decide))) (ld1_ne h5 (by decide) (Or.inl (by decide))) (ld1_ne h6 (by decide) (Or.inl (by decide))) (ld1_ne h8 (by decide) (Or.inr rfl)) e14 g
    ) (fun b13 e14 =>
      M_of (fun _ _ H => r_icmpF c271_71 b13 <| H) <|
      M_of (fun _ _ H => r_iconst c271_74 <| r_goto c271_75 <| H) <|
      J271_79_ok (ld1_ne h0 (by decide) (Or.inl (by decide))) (ld1_ne h1 (by decide) (Or.inl (by decide))) (ld1_ne h2 (by decide) (Or.inl (by decide))) (ld1_ne h3 (by decide) (Or.inl (by decide))) (ld1_ne h4 (by decide) (Or.inl (by decide))) (ld1_ne h5 (by decide) (Or.inl (by decide))) (ld1_ne h6 (by decide) (Or.inl (by decide))) (ld1_ne h8 (by decide) (Or.inr rfl)) e14 g
    )
  ))
def B271_6 (N : Nat) (s : Int32 × Int32 × Int32 × Int32 × Int32 × Int32 × Int32 × Int32 × mS) : Option ((Int32 × Int32 × Int32 × Int32 × Int32 × Int32 × Int32 × Int32 × mS) ⊕ (Int32 × mS)) :=
  bif mj_c2 .ge s.2.2.2.2.2.2.2.1 6 then
    if s.2.2.2.2.2.2.1 = 0 ∨ s.2.2.2.2.2.2.1 = 1 then
    some (.inr (s.2.2.2.2.2.2.1, s.2.2.2.2.2.2.2.2))
    else none
  else
  bif mj_c2 .ne s.2.2.2.2.2.2.2.1 s.2.2.2.2.1 then
    if 0 ≤ ((((384 * s.2.2.1) + (6 * s.2.2.2.1)) + s.2.2.2.2.2.2.2.1)).toInt ∧ ((((384 * s.2.2.1) + (6 * s.2.2.2.1)) + s.2.2.2.2.2.2.2.1)).toInt < mN 47 then
    J271_44 N s.1 s.2.1 s.2.2.1 s.2.2.2.1 s.2.2.2.2.1 s.2.2.2.2.2.1 s.2.2.2.2.2.2.1 s.2.2.2.2.2.2.2.1 (s.2.2.2.2.2.2.2.2.2.1 47 ((((384 * s.2.2.1) + (6 * s.2.2.2.1)) + s.2.2.2.2.2.2.2.1)).toInt.toNat) s.2.2.2.2.2.2.2.2
    else none
  else
  J271_44 N s.1 s.2.1 s.2.2.1 s.2.2.2.1 s.2.2.2.2.1 s.2.2.2.2.2.1 s.2.2.2.2.2.2.1 s.2.2.2.2.2.2.2.1 s.2.2.2.2.2.1 s.2.2.2.2.2.2.2.2
def L271_6 (N : Nat) (s : Int32 × Int32 × Int32 × Int32 × Int32 × Int32 × Int32 × Int32 × mS) : Option (Int32 × mS) := t_lp (B271_6 N) N s
theorem B271_6_ok {xt : mj_X} {ct : Nat → Value} {a : Nat} {ra : Nat → Nat} {d N : Nat} {s : Int32 × Int32 × Int32 × Int32 × Int32 × Int32 × Int32 × Int32 × mS} {o : (Int32 × Int32 × Int32 × Int32 × Int32 × Int32 × Int32 × Int32 × mS) ⊕ (Int32 × mS)} {q : Int32 × mS} (e : B271_6 N s = some o) (g : GG271_6 xt ct a ra d q o) : LG271_6 xt ct a ra d q s.1 s.2.1 s.2.2.1 s.2.2.2.1 s.2.2.2.2.1 s.2.2.2.2.2.1 s.2.2.2.2.2.2.1 s.2.2.2.2.2.2.2.1 s.2.2.2.2.2.2.2.2 := by
  unfold B271_6 at e
  exact (fun l h0 h1 h2 h3 h4 h5 h6 h7 h8 =>
  M_of (fun _ _ H => r_iload c271_6 h8 <| r_bipush c271_8 <| H) <|
  t_if e (fun b1 e2 =>
    M_of (fun _ _ H => r_icmpT c271_10 b1 <| H) <|
    M_of (fun _ _ H => r_iload c271_87 h7 <| H) <|
    t_ck e2 fun z3 e4 =>
    t_rg e4 g (fun (e : (s.2.2.2.2.2.2.1, s.2.2.2.2.2.2.2.2) = q) => M_ri (e) (fun _ => r_iret c271_89 (m_z1 z3)))
  ) (fun b1 e2 =>
    M_of (fun _ _ H => r_icmpF c271_10 b1 <| H) <|
    M_of (fun _ _ H => r_iload c271_13 h8 <| r_iload c271_15 h5 <| H) <|
    t_if e2 (fun b5 e6 =>
      M_of (fun _ _ H => r_icmpT c271_17 b5 <| H) <|
      M_of (fun _ _ H => r_aloadn c271_25 h0 <| H) <|
      M_geta (j := 47) c271_26 (by decide) <|
      M_of (fun _ _ H => r_sipush c271_29 <| r_iloadn c271_32 h3 <| r_imul c271_33 rfl <| r_bipush c271_34 <| r_iload c271_36 h4 <| r_imul c271_38 rfl <| r_iadd c271_39 rfl <| r_iload c271_40 h8 <| r_iadd c271_42 rfl <| H) <|
      t_ck e6 fun i7 e8 =>
      M_iald (j := 47) (v := (s.2.2.2.2.2.2.2.2.2.1 47 ((((384 * s.2.2.1) + (6 * s.2.2.2.1)) + s.2.2.2.2.2.2.2.1)).toInt.toNat)) c271_43 (by decide) i7 rfl <|
      J271_44_ok h0 h1 h2 h3 h4 h5 h6 h7 h8 e8 g
    ) (fun b5 e6 =>
      M_of (fun _ _ H => r_icmpF c271_17 b5 <| H) <|
      M_of (fun _ _ H => r_iload c271_20 h6 <| r_goto c271_22 <| H) <|
      J271_44_ok h0 h1 h2 h3 h4 h5 h6 h7 h8 e6 g
    )
  ))
theorem L271_6_ok {xt : mj_X} {ct : Nat → Value} {a : Nat} {ra : Nat → Nat} {d N : Nat} {x1 : Int32} {x2 : Int32} {x3 : Int32} {x4 : Int32} {x5 : Int32} {x6 : Int32} {x7 : Int32} {x8 : Int32} {S : mS} {q : Int32 × mS} (e : L271_6 N (x1, x2, x3, x4, x5, x6, x7, x8, S) = some q) : LG271_6 xt ct a ra d q x1 x2 x3 x4 x5 x6 x7 x8 S :=
  t_lp_ok (G := fun s => LG271_6 xt ct a ra d q s.1 s.2.1 s.2.2.1 s.2.2.2.1 s.2.2.2.2.1 s.2.2.2.2.2.1 s.2.2.2.2.2.2.1 s.2.2.2.2.2.2.2.1 s.2.2.2.2.2.2.2.2) (fun s s' e g => B271_6_ok e (by obtain ⟨_, _, _, _, _, _, _, _, _⟩ := s'; exact g)) (fun s e => B271_6_ok e rfl) N (x1, x2, x3, x4, x5, x6, x7, x8, S) e
/-- isSame(IIIIII)Z -/
def M271 (N : Nat) (x1 : Int32) (x2 : Int32) (x3 : Int32) (x4 : Int32) (x5 : Int32) (x6 : Int32) (S : mS) : Option (Int32 × mS) :=
  L271_6 N (x1, x2, x3, x4, x5, x6, 1, 0, S)
theorem M271_ok {xt : mj_X} {ct : Nat → Value} {a : Nat} {ra : Nat → Nat} {d N : Nat} {x1 : Int32} {x2 : Int32} {x3 : Int32} {x4 : Int32} {x5 : Int32} {x6 : Int32} {S : mS} {q : Int32 × mS} (e : M271 N x1 x2 x3 x4 x5 x6 S = some q) : MR xt ct a ra (d + 1) 271 0 (lv_args 0 [.ref a, .int x1, .int x2, .int x3, .int x4, .int x5, .int x6]) [] S (.inl (some (.int q.1))) q.2 := by
  unfold M271 at e
  exact (
  M_of (fun _ _ H => r_iconst c271_0 <| r_istore c271_1 <| r_iconst c271_3 <| r_istore c271_4 <| H) <|
  L271_6_ok e _ (ld1_ne (ld1_ne rfl (by decide) (Or.inl (by decide))) (by decide) (Or.inl (by decide))) (ld1_ne (ld1_ne rfl (by decide) (Or.inl (by decide))) (by decide) (Or.inl (by decide))) (ld1_ne (ld1_ne rfl (by decide) (Or.inl (by decide))) (by decide) (Or.inl (by decide))) (ld1_ne (ld1_ne rfl (by decide) (Or.inl (by decide))) (by decide) (Or.inl (by decide))) (ld1_ne (ld1_ne rfl (by decide) (Or.inl (by decide))) (by decide) (Or.inl (by decide))) (ld1_ne (ld1_ne rfl (by decide) (Or.inl (by decide))) (by decide) (Or.inl (by decide))) (ld1_ne (ld1_ne rfl (by decide) (Or.inr rfl)) (by decide) (Or.inl (by decide))) (ld1_ne ld1_eq (by decide) (Or.inr rfl)) ld1_eq)
def LG270_3 (xt : mj_X) (ct : Nat → Value) (a : Nat) (ra : Nat → Nat) (d : Nat) (q : mS) (x1 : Int32) (x2 : Int32) (x3 : Int32) (x4 : Int32) (x5 : Int32) (x6 : Int64) (x8 : Int32) (S : mS) : Prop := ∀ l, mj_ld l 0 = some (.ref a) → mj_ld l 1 = some (.int x1) → mj_ld l 2 = some (.int x2) → mj_ld l 3 = some (.int x3) → mj_ld l 4 = some (.int x4) → mj_ld l 5 = some (.int x5) → mj_ld l 6 = some (.long x6) → mj_ld l 8 = some (.int x8) → MR xt ct a ra (d + 2) 270 3 l [] S (.inl none) q
def GG270_3 (xt : mj_X) (ct : Nat → Value) (a : Nat) (ra : Nat → Nat) (d : Nat) (q : mS) (o : (Int32 × Int32 × Int32 × Int32 × Int32 × Int64 × Int32 × mS) ⊕ (mS)) : Prop := match o with
  | .inl (x1, x2, x3, x4, x5, x6, x8, S) => LG270_3 xt ct a ra d q x1 x2 x3 x4 x5 x6 x8 S
  | .inr r => r = q
def J270_148 (N : Nat) (x1 : Int32) (x6 : Int64) (x8 : Int32)  (S : mS) : Option (mS) :=
  if 0 ≤ (((64 * x1) + x8)).toInt ∧ (((64 * x1) + x8)).toInt < mN 48 then
  if 0 ≤ (((64 * x1) + x8)).toInt ∧ (((64 * x1) + x8)).toInt < mN 48 then
  some (m_sB S 48 (((64 * x1) + x8)).toInt.toNat ((S.2.2 48 (((64 * x1) + x8)).toInt.toNat) + x6))
  else none
  else none
theorem J270_148_ok {xt : mj_X} {ct : Nat → Value} {a : Nat} {ra : Nat → Nat} {d N : Nat} {l : mj_L} {x1 : Int32} {x6 : Int64} {x8 : Int32}  {S : mS} {q : mS} (h0 : mj_ld l 0 = some (.ref a)) (h1 : mj_ld l 1 = some (.int x1)) (h6 : mj_ld l 6 = some (.long x6)) (h8 : mj_ld l 8 = some (.int x8)) (e : J270_148 N x1 x6 x8  S = some q) : MR xt ct a ra (d + 2) 270 148 l [] S (.inl none) q := by
  unfold J270_148 at e
  exact (
  M_of (fun _ _ H => r_aloadn c270_148 h0 <| H) <|
  M_geta (j := 48) c270_149 (by decide) <|
  M_of (fun _ _ H => r_bipush c270_152 <| r_iloadn c270_154 h1 <| r_imul c270_155 rfl <| r_iload c270_156 h8 <| r_iadd c270_158 rfl <| r_aloadn c270_159 h0 <| H) <|
  M_geta (j := 48) c270_160 (by decide) <|
  M_of (fun _ _ H => r_bipush c270_163 <| r_iloadn c270_165 h1 <| r_imul c270_166 rfl <| r_iload c270_167 h8 <| r_iadd c270_169 rfl <| H) <|
  t_ck e fun i11 e12 =>
  M_lald (j := 48) (v := (S.2.2 48 (((64 * x1) + x8)).toInt.toNat)) c270_170 (by decide) i11 rfl <|
  M_of (fun _ _ H => r_lload c270_171 h6 <| r_ladd c270_173 rfl <| H) <|
  t_ck e12 fun i13 e14 =>
  M_last (j := 48) c270_174 (by decide) i13 <|
  M_rv (Option.some.inj e14) (fun _ => r_ret c270_175))
def LG270_86 (xt : mj_X) (ct : Nat → Value) (a : Nat) (ra : Nat → Nat) (d : Nat) (q : mS) (x1 : Int32) (x2 : Int32) (x3 : Int32) (x4 : Int32) (x5 : Int32) (x6 : Int64) (x8 : Int32) (x9 : Int32) (S : mS) : Prop := ∀ l, mj_ld l 0 = some (.ref a) → mj_ld l 1 = some (.int x1) → mj_ld l 2 = some (.int x2) → mj_ld l 3 = some (.int x3) → mj_ld l 4 = some (.int x4) → mj_ld l 5 = some (.int x5) → mj_ld l 6 = some (.long x6) → mj_ld l 8 = some (.int x8) → mj_ld l 9 = some (.int x9) → MR xt ct a ra (d + 2) 270 86 l [] S (.inl none) q
def GG270_86 (xt : mj_X) (ct : Nat → Value) (a : Nat) (ra : Nat → Nat) (d : Nat) (q : mS) (o : (Int32 × Int32 × Int32 × Int32 × Int32 × Int64 × Int32 × Int32 × mS) ⊕ (mS)) : Prop := match o with
  | .inl (x1, x2, x3, x4, x5, x6, x8, x9, S) => LG270_86 xt ct a ra d q x1 x2 x3 x4 x5 x6 x8 x9 S
  | .inr r => r = q
def J270_141 (N : Nat) (x1 : Int32) (x2 : Int32) (x3 : Int32) (x4 : Int32) (x5 : Int32) (x6 : Int64) (x8 : Int32) (x9 : Int32) (s0 : Int32) (s1 : Int32) (S : mS) : Option ((Int32 × Int32 × Int32 × Int32 × Int32 × Int64 × Int32 × Int32 × mS) ⊕ (mS)) :=
  if 0 ≤ (s1).toInt ∧ (s1).toInt < mN 47 then
  some (.inl (x1, x2, x3, x4, x5, x6, x8, (x9 + 1), (m_sA S 47 (s1).toInt.toNat s0)))
  else none
theorem J270_141_ok {xt : mj_X} {ct : Nat → Value} {a : Nat} {ra : Nat → Nat} {d N : Nat} {l : mj_L} {x1 : Int32} {x2 : Int32} {x3 : Int32} {x4 : Int32} {x5 : Int32} {x6 : Int64} {x8 : Int32} {x9 : Int32} {s0 : Int32} {s1 : Int32} {S : mS} {o : (Int32 × Int32 × Int32 × Int32 × Int32 × Int64 × Int32 × Int32 × mS) ⊕ (mS)} {q : mS} (h0 : mj_ld l 0 = some (.ref a)) (h1 : mj_ld l 1 = some (.int x1)) (h2 : mj_ld l 2 = some (.int x2)) (h3 : mj_ld l 3 = some (.int x3)) (h4 : mj_ld l 4 = some (.int x4)) (h5 : mj_ld l 5 = some (.int x5)) (h6 : mj_ld l 6 = some (.long x6)) (h8 : mj_ld l 8 = some (.int x8)) (h9 : mj_ld l 9 = some (.int x9)) (e : J270_141 N x1 x2 x3 x4 x5 x6 x8 x9 s0 s1 S = some o) (g : GG270_86 xt ct a ra d q o) : MR xt ct a ra (d + 2) 270 141 l [.int s0, .int s1, .ref (ra 47)] S (.inl none) q := by
  unfold J270_141 at e
  exact (
  t_ck e fun i31 e32 =>
  M_iast (j := 47) c270_141 (by decide) i31 <|
  M_of (fun _ _ H => r_iinc c270_142 h9 <| r_goto c270_145 <| H) <|
  t_rg e32 g (fun (e : LG270_86 xt ct a ra d q x1 x2 x3 x4 x5 x6 x8 (x9 + 1) (m_sA S 47 (s1).toInt.toNat s0)) => e _ (ld1_ne h0 (by decide) (Or.inl (by decide))) (ld1_ne h1 (by decide) (Or.inl (by decide))) (ld1_ne h2 (by decide) (Or.inl (by decide))) (ld1_ne h3 (by decide) (Or.inl (by decide))) (ld1_ne h4 (by decide) (Or.inl (by decide))) (ld1_ne h5 (by decide) (Or.inl (by decide))) (ld1_ne h6 (by decide) (Or.inl (by decide))) (ld1_ne h8 (by decide) (Or.inr rfl)) ld1_eq))
def B270_86 (N : Nat) (s : Int32 × Int32 × Int32 × Int32 × Int32 × Int64 × Int32 × Int32 × mS) : Option ((Int32 × Int32 × Int32 × Int32 × Int32 × Int64 × Int32 × Int32 × mS) ⊕ (mS)) :=
  bif mj_c2 .ge s.2.2.2.2.2.2.2.1 6 then
    (J270_148 N s.1 s.2.2.2.2.2.1 s.2.2.2.2.2.2.1 s.2.2.2.2.2.2.2.2).map Sum.inr
  else
  bif mj_c2 .ne s.2.2.2.2.2.2.2.1 s.2.2.2.1 then
    if 0 ≤ ((((384 * s.2.1) + (6 * s.2.2.1)) + s.2.2.2.2.2.2.2.1)).toInt ∧ ((((384 * s.2.1) + (6 * s.2.2.1)) + s.2.2.2.2.2.2.2.1)).toInt < mN 47 then
    J270_141 N s.1 s.2.1 s.2.2.1 s.2.2.2.1 s.2.2.2.2.1 s.2.2.2.2.2.1 s.2.2.2.2.2.2.1 s.2.2.2.2.2.2.2.1 (s.2.2.2.2.2.2.2.2.2.1 47 ((((384 * s.2.1) + (6 * s.2.2.1)) + s.2.2.2.2.2.2.2.1)).toInt.toNat) (((384 * s.1) + (6 * s.2.2.2.2.2.2.1)) + s.2.2.2.2.2.2.2.1) s.2.2.2.2.2.2.2.2
    else none
  else
  J270_141 N s.1 s.2.1 s.2.2.1 s.2.2.2.1 s.2.2.2.2.1 s.2.2.2.2.2.1 s.2.2.2.2.2.2.1 s.2.2.2.2.2.2.2.1 s.2.2.2.2.1 (((384 * s.1) + (6 * s.2.2.2.2.2.2.1)) + s.2.2.2.2.2.2.2.1) s.2.2.2.2.2.2.2.2
def L270_86 (N : Nat) (s : Int32 × Int32 × Int32 × Int32 × Int32 × Int64 × Int32 × Int32 × mS) : Option (mS) := t_lp (B270_86 N) N s
theorem B270_86_ok {xt : mj_X} {ct : Nat → Value} {a : Nat} {ra : Nat → Nat} {d N : Nat} {s : Int32 × Int32 × Int32 × Int32 × Int32 × Int64 × Int32 × Int32 × mS} {o : (Int32 × Int32 × Int32 × Int32 × Int32 × Int64 × Int32 × Int32 × mS) ⊕ (mS)} {q : mS} (e : B270_86 N s = some o) (g : GG270_86 xt ct a ra d q o) : LG270_86 xt ct a ra d q s.1 s.2.1 s.2.2.1 s.2.2.2.1 s.2.2.2.2.1 s.2.2.2.2.2.1 s.2.2.2.2.2.2.1 s.2.2.2.2.2.2.2.1 s.2.2.2.2.2.2.2.2 := by
  unfold B270_86 at e
  exact (fun l h0 h1 h2 h3 h4 h5 h6 h8 h9 =>
  M_of (fun _ _ H => r_iload c270_86 h9 <| r_bipush c270_88 <| H) <|
  t_if e (fun b21 e22 =>
    M_of (fun _ _ H => r_icmpT c270_90 b21 <| H) <|
    t_up e22 fun o23 e24 u25 =>
    (fun (g26 : o23 = q) =>
    by subst g26; exact (J270_148_ok h0 h1 h6 h8 e24)
    ) (by have := g; rw [u25] at this; exact this)
  ) (fun b21 e22 =>
    M_of (fun _ _ H => r_icmpF c270_90 b21 <| H) <|
    M_of (fun _ _ H => r_aloadn c270_93 h0 <| H) <|
    M_geta (j := 47) c270_94 (by decide) <|
    M_of (fun _ _ H => r_sipush c270_97 <| r_iloadn c270_100 h1 <| r_imul c270_101 rfl <| r_bipush c270_102 <| r_iload c270_104 h8 <| r_imul c270_106 rfl <| r_iadd c270_107 rfl <| r_iload c270_108 h9 <| r_iadd c270_110 rfl <| r_iload c270_111 h9 <| r_iload c270_113 h4 <| H) <|
    t_if e22 (fun b27 e28 =>
      M_of (fun _ _ H => r_icmpT c270_115 b27 <| H) <|
      M_of (fun _ _ H => r_aloadn c270_123 h0 <| H) <|
      M_geta (j := 47) c270_124 (by decide) <|
      M_of (fun _ _ H => r_sipush c270_127 <| r_iloadn c270_130 h2 <| r_imul c270_131 rfl <| r_bipush c270_132 <| r_iloadn c270_134 h3 <| r_imul c270_135 rfl <| r_iadd c270_136 rfl <| r_iload c270_137 h9 <| r_iadd c270_139 rfl <| H) <|
      t_ck e28 fun i29 e30 =>
      M_iald (j := 47) (v := (s.2.2.2.2.2.2.2.2.2.1 47 ((((384 * s.2.1) + (6 * s.2.2.1)) + s.2.2.2.2.2.2.2.1)).toInt.toNat)) c270_140 (by decide) i29 rfl <|
      J270_141_ok h0 h1 h2 h3 h4 h5 h6 h8 h9 e30 g
    ) (fun b27 e28 =>
      M_of (fun _ _ H => r_icmpF c270_115 b27 <| H) <|
      M_of (fun _ _ H => r_iload c270_118 h5 <| r_goto c270_120 <| H) <|
      J270_141_ok h0 h1 h2 h3 h4 h5 h6 h8 h9 e28 g
    )
  ))
theorem L270_86_ok {xt : mj_X} {ct : Nat → Value} {a : Nat} {ra : Nat → Nat} {d N : Nat} {x1 : Int32} {x2 : Int32} {x3 : Int32} {x4 : Int32} {x5 : Int32} {x6 : Int64} {x8 : Int32} {x9 : Int32} {S : mS} {q : mS} (e : L270_86 N (x1, x2, x3, x4, x5, x6, x8, x9, S) = some q) : LG270_86 xt ct a ra d q x1 x2 x3 x4 x5 x6 x8 x9 S :=
  t_lp_ok (G := fun s => LG270_86 xt ct a ra d q s.1 s.2.1 s.2.2.1 s.2.2.2.1 s.2.2.2.2.1 s.2.2.2.2.2.1 s.2.2.2.2.2.2.1 s.2.2.2.2.2.2.2.1 s.2.2.2.2.2.2.2.2) (fun s s' e g => B270_86_ok e (by obtain ⟨_, _, _, _, _, _, _, _, _⟩ := s'; exact g)) (fun s e => B270_86_ok e rfl) N (x1, x2, x3, x4, x5, x6, x8, x9, S) e
def J270_36 (N : Nat) (x1 : Int32) (x2 : Int32) (x3 : Int32) (x4 : Int32) (x5 : Int32) (x6 : Int64) (x8 : Int32)  (S : mS) : Option (mS) :=
  bif mj_c2 .ne x8 64 then
    if 0 ≤ (x1).toInt ∧ (x1).toInt < mN 49 then
    bif mj_c2 .ne x8 (S.2.1 49 (x1).toInt.toNat) then
      J270_148 N x1 x6 x8 S
    else
    if 0 ≤ (x1).toInt ∧ (x1).toInt < mN 49 then
    if 0 ≤ (x1).toInt ∧ (x1).toInt < mN 49 then
    if 0 ≤ (((64 * x1) + x8)).toInt ∧ (((64 * x1) + x8)).toInt < mN 48 then
    L270_86 N (x1, x2, x3, x4, x5, x6, x8, 0, (m_sB (m_sA S 49 (x1).toInt.toNat ((S.2.1 49 (x1).toInt.toNat) + 1)) 48 (((64 * x1) + x8)).toInt.toNat 0))
    else none
    else none
    else none
    else none
  else
  some (m_sV S 50 1)
theorem J270_36_ok {xt : mj_X} {ct : Nat → Value} {a : Nat} {ra : Nat → Nat} {d N : Nat} {l : mj_L} {x1 : Int32} {x2 : Int32} {x3 : Int32} {x4 : Int32} {x5 : Int32} {x6 : Int64} {x8 : Int32}  {S : mS} {q : mS} (h0 : mj_ld l 0 = some (.ref a)) (h1 : mj_ld l 1 = some (.int x1)) (h2 : mj_ld l 2 = some (.int x2)) (h3 : mj_ld l 3 = some (.int x3)) (h4 : mj_ld l 4 = some (.int x4)) (h5 : mj_ld l 5 = some (.int x5)) (h6 : mj_ld l 6 = some (.long x6)) (h8 : mj_ld l 8 = some (.int x8)) (e : J270_36 N x1 x2 x3 x4 x5 x6 x8  S = some q) : MR xt ct a ra (d + 2) 270 36 l [] S (.inl none) q := by
  unfold J270_36 at e
  exact (
  M_of (fun _ _ H => r_iload c270_36 h8 <| r_bipush c270_38 <| H) <|
  t_if e (fun b5 e6 =>
    M_of (fun _ _ H => r_icmpT c270_40 b5 <| H) <|
    M_of (fun _ _ H => r_iload c270_49 h8 <| r_aloadn c270_51 h0 <| H) <|
    M_geta (j := 49) c270_52 (by decide) <|
    M_of (fun _ _ H => r_iloadn c270_55 h1 <| H) <|
    t_ck e6 fun i7 e8 =>
    M_iald (j := 49) (v := (S.2.1 49 (x1).toInt.toNat)) c270_56 (by decide) i7 rfl <|
    t_if e8 (fun b9 e10 =>
      M_of (fun _ _ H => r_icmpT c270_57 b9 <| H) <|
      J270_148_ok h0 h1 h6 h8 e10
    ) (fun b9 e10 =>
      M_of (fun _ _ H => r_icmpF c270_57 b9 <| H) <|
      M_of (fun _ _ H => r_aloadn c270_60 h0 <| H) <|
      M_geta (j := 49) c270_61 (by decide) <|
      M_of (fun _ _ H => r_iloadn c270_64 h1 <| r_dup2ia c270_65 <| H) <|
      t_ck e10 fun i15 e16 =>
      M_iald (j := 49) (v := (S.2.1 49 (x1).toInt.toNat)) c270_66 (by decide) i15 rfl <|
      M_of (fun _ _ H => r_iconst c270_67 <| r_iadd c270_68 rfl <| H) <|
      t_ck e16 fun i17 e18 =>
      M_iast (j := 49) c270_69 (by decide) i17 <|
      M_of (fun _ _ H => r_aloadn c270_70 h0 <| H) <|
      M_geta (j := 48) c270_71 (by decide) <|
      M_of (fun _ _ H => r_bipush c270_74 <| r_iloadn c270_76 h1 <| r_imul c270_77 rfl <| r_iload c270_78 h8 <| r_iadd c270_80 rfl <| r_lconst c270_81 <| H) <|
      t_ck e18 fun i19 e20 =>
      M_last (j := 48) c270_82 (by decide) i19 <|
      M_of (fun _ _ H => r_iconst c270_83 <| r_istore c270_84 <| H) <|
      L270_86_ok e20 _ (ld1_ne h0 (by decide) (Or.inl (by decide))) (ld1_ne h1 (by decide) (Or.inl (by decide))) (ld1_ne h2 (by decide) (Or.inl (by decide))) (ld1_ne h3 (by decide) (Or.inl (by decide))) (ld1_ne h4 (by decide) (Or.inl (by decide))) (ld1_ne h5 (by decide) (Or.inl (by decide))) (ld1_ne h6 (by decide) (Or.inl (by decide))) (ld1_ne h8 (by decide) (Or.inr rfl)) ld1_eq
    )
  ) (fun b5 e6 =>
    M_of (fun _ _ H => r_icmpF c270_40 b5 <| H) <|
    M_of (fun _ _ H => r_aloadn c270_43 h0 <| r_iconst c270_44 <| H) <|
    M_putz c270_45 (by decide) (by decide) <|
    M_rv (Option.some.inj e6) (fun _ => r_ret c270_48)
  ))
def B270_3 (N : Nat) (s : Int32 × Int32 × Int32 × Int32 × Int32 × Int64 × Int32 × mS) : Option ((Int32 × Int32 × Int32 × Int32 × Int32 × Int64 × Int32 × mS) ⊕ (mS)) :=
  if 0 ≤ (s.1).toInt ∧ (s.1).toInt < mN 49 then
  bif mj_c2 .ge s.2.2.2.2.2.2.1 (s.2.2.2.2.2.2.2.2.1 49 (s.1).toInt.toNat) then
    (J270_36 N s.1 s.2.1 s.2.2.1 s.2.2.2.1 s.2.2.2.2.1 s.2.2.2.2.2.1 s.2.2.2.2.2.2.1 s.2.2.2.2.2.2.2).map Sum.inr
  else
  (M271 N s.1 s.2.2.2.2.2.2.1 s.2.1 s.2.2.1 s.2.2.2.1 s.2.2.2.2.1 s.2.2.2.2.2.2.2).bind fun r37 =>
  bif mj_c1 .ne r37.1 then
    (J270_36 N s.1 s.2.1 s.2.2.1 s.2.2.2.1 s.2.2.2.2.1 s.2.2.2.2.2.1 s.2.2.2.2.2.2.1 r37.2).map Sum.inr
  else
  some (.inl (s.1, s.2.1, s.2.2.1, s.2.2.2.1, s.2.2.2.2.1, s.2.2.2.2.2.1, (s.2.2.2.2.2.2.1 + 1), r37.2))
  else none
def L270_3 (N : Nat) (s : Int32 × Int32 × Int32 × Int32 × Int32 × Int64 × Int32 × mS) : Option (mS) := t_lp (B270_3 N) N s
theorem B270_3_ok {xt : mj_X} {ct : Nat → Value} {a : Nat} {ra : Nat → Nat} {d N : Nat} {s : Int32 × Int32 × Int32 × Int32 × Int32 × Int64 × Int32 × mS} {o : (Int32 × Int32 × Int32 × Int32 × Int32 × Int64 × Int32 × mS) ⊕ (mS)} {q : mS} (e : B270_3 N s = some o) (g : GG270_3 xt ct a ra d q o) : LG270_3 xt ct a ra d q s.1 s.2.1 s.2.2.1 s.2.2.2.1 s.2.2.2.2.1 s.2.2.2.2.2.1 s.2.2.2.2.2.2.1 s.2.2.2.2.2.2.2 := by
  unfold B270_3 at e
  exact (fun l h0 h1 h2 h3 h4 h5 h6 h8 =>
  M_of (fun _ _ H => r_iload c270_3 h8 <| r_aloadn c270_5 h0 <| H) <|
  M_geta (j := 49) c270_6 (by decide) <|
  M_of (fun _ _ H => r_iloadn c270_9 h1 <| H) <|
  t_ck e fun i1 e2 =>
  M_iald (j := 49) (v := (s.2.2.2.2.2.2.2.2.1 49 (s.1).toInt.toNat)) c270_10 (by decide) i1 rfl <|
  t_if e2 (fun b3 e4 =>
    M_of (fun _ _ H => r_icmpT c270_11 b3 <| H) <|
    t_up e4 fun o33 e34 u35 =>
    (fun (g36 : o33 = q) =>
    by subst g36; exact (J270_36_ok h0 h1 h2 h3 h4 h5 h6 h8 e34)
    ) (by have := g; rw [u35] at this; exact this)
  ) (fun b3 e4 =>
    M_of (fun _ _ H => r_icmpF c270_11 b3 <| H) <|
    M_of (fun _ _ H => r_aloadn c270_14 h0 <| r_iloadn c270_15 h1 <| r_iload c270_16 h8 <| r_iloadn c270_18 h2 <| r_iloadn c270_19 h3 <| r_iload c270_20 h4 <| r_iload c270_22 h5 <| H) <|
    t_bd e4 fun r37 c38 e39 =>
    M_cv (as := [.ref a, .int s.1, .int s.2.2.2.2.2.2.1, .int s.2.1, .int s.2.2.1, .int s.2.2.2.1, .int s.2.2.2.2.1]) (st' := [.int r37.1]) (v := (some (.int r37.1))) c270_24 rfl ⟨Nat.le_of_ble_eq_true rfl, Nat.le_of_ble_eq_true rfl, Nat.le_of_ble_eq_true rfl⟩ rfl rfl (M271_ok (d := d) c38) (Nat.add_lt_add_left (by decide) d) <|
    t_if e39 (fun b40 e41 =>
      M_of (fun _ _ H => r_ifT c270_27 b40 <| H) <|
      t_up e41 fun o42 e43 u44 =>
      (fun (g45 : o42 = q) =>
      by subst g45; exact (J270_36_ok h0 h1 h2 h3 h4 h5 h6 h8 e43)
      ) (by have := g; rw [u44] at this; exact this)
    ) (fun b40 e41 =>
      M_of (fun _ _ H => r_ifF c270_27 b40 <| H) <|
      M_of (fun _ _ H => r_iinc c270_30 h8 <| r_goto c270_33 <| H) <|
      t_rg e41 g (fun (e : LG270_3 xt ct a ra d q s.1 s.2.1 s.2.2.1 s.2.2.2.1 s.2.2.2.2.1 s.2.2.2.2.2.1 (s.2.2.2.2.2.2.1 + 1) r37.2) => e _ (ld1_ne h0 (by decide) (Or.inl (by decide))) (ld1_ne h1 (by decide) (Or.inl (by decide))) (ld1_ne h2 (by decide) (Or.inl (by decide))) (ld1_ne h3 (by decide) (Or.inl (by decide))) (ld1_ne h4 (by decide) (Or.inl (by decide))) (ld1_ne h5 (by decide) (Or.inl (by decide))) (ld1_ne h6 (by decide) (Or.inl (by decide))) ld1_eq)
    )
  ))
theorem L270_3_ok {xt : mj_X} {ct : Nat → Value} {a : Nat} {ra : Nat → Nat} {d N : Nat} {x1 : Int32} {x2 : Int32} {x3 : Int32} {x4 : Int32} {x5 : Int32} {x6 : Int64} {x8 : Int32} {S : mS} {q : mS} (e : L270_3 N (x1, x2, x3, x4, x5, x6, x8, S) = some q) : LG270_3 xt ct a ra d q x1 x2 x3 x4 x5 x6 x8 S :=
  t_lp_ok (G := fun s => LG270_3 xt ct a ra d q s.1 s.2.1 s.2.2.1 s.2.2.2.1 s.2.2.2.2.1 s.2.2.2.2.2.1 s.2.2.2.2.2.2.1 s.2.2.2.2.2.2.2) (fun s s' e g => B270_3_ok e (by obtain ⟨_, _, _, _, _, _, _, _⟩ := s'; exact g)) (fun s e => B270_3_ok e rfl) N (x1, x2, x3, x4, x5, x6, x8, S) e
/-- join(IIIIIJ)V -/
def M270 (N : Nat) (x1 : Int32) (x2 : Int32) (x3 : Int32) (x4 : Int32) (x5 : Int32) (x6 : Int64) (S : mS) : Option (mS) :=
  L270_3 N (x1, x2, x3, x4, x5, x6, 0, S)
theorem M270_ok {xt : mj_X} {ct : Nat → Value} {a : Nat} {ra : Nat → Nat} {d N : Nat} {x1 : Int32} {x2 : Int32} {x3 : Int32} {x4 : Int32} {x5 : Int32} {x6 : Int64} {S : mS} {q : mS} (e : M270 N x1 x2 x3 x4 x5 x6 S = some q) : MR xt ct a ra (d + 2) 270 0 (lv_args 0 [.ref a, .int x1, .int x2, .int x3, .int x4, .int x5, .long x6]) [] S (.inl none) q := by
  unfold M270 at e
  exact (
  M_of (fun _ _ H => r_iconst c270_0 <| r_istore c270_1 <| H) <|
  L270_3_ok e _ (ld1_ne rfl (by decide) (Or.inl (by decide))) (ld1_ne rfl (by decide) (Or.inl (by decide))) (ld1_ne rfl (by decide) (Or.inl (by decide))) (ld1_ne rfl (by decide) (Or.inl (by decide))) (ld1_ne rfl (by decide) (Or.inl (by decide))) (ld1_ne rfl (by decide) (Or.inl (by decide))) (ld1_ne rfl (by decide) (Or.inl (by decide))) ld1_eq)
def LG269_3 (xt : mj_X) (ct : Nat → Value) (a : Nat) (ra : Nat → Nat) (d : Nat) (q : mS) (x1 : Int32) (x2 : Int32) (x3 : Int64) (x5 : Int32) (S : mS) : Prop := ∀ l, mj_ld l 0 = some (.ref a) → mj_ld l 1 = some (.int x1) → mj_ld l 2 = some (.int x2) → mj_ld l 3 = some (.long x3) → mj_ld l 5 = some (.int x5) → MR xt ct a ra (d + 3) 269 3 l [] S (.inl none) q
def GG269_3 (xt : mj_X) (ct : Nat → Value) (a : Nat) (ra : Nat → Nat) (d : Nat) (q : mS) (o : (Int32 × Int32 × Int64 × Int32 × mS) ⊕ (mS)) : Prop := match o with
  | .inl (x1, x2, x3, x5, S) => LG269_3 xt ct a ra d q x1 x2 x3 x5 S
  | .inr r => r = q
def B269_3 (N : Nat) (s : Int32 × Int32 × Int64 × Int32 × mS) : Option ((Int32 × Int32 × Int64 × Int32 × mS) ⊕ (mS)) :=
  if 0 ≤ (s.2.1).toInt ∧ (s.2.1).toInt < mN 49 then
  bif mj_c2 .ge s.2.2.2.1 (s.2.2.2.2.2.1 49 (s.2.1).toInt.toNat) then
    some (.inr s.2.2.2.2)
  else
  if 0 ≤ (((64 * s.2.1) + s.2.2.2.1)).toInt ∧ (((64 * s.2.1) + s.2.2.2.1)).toInt < mN 48 then
  (M270 N s.1 s.2.1 s.2.2.2.1 (-1) 0 ((s.2.2.2.2.2.2 48 (((64 * s.2.1) + s.2.2.2.1)).toInt.toNat) * s.2.2.1) s.2.2.2.2).bind fun r7 =>
  some (.inl (s.1, s.2.1, s.2.2.1, (s.2.2.2.1 + 1), r7))
  else none
  else none
def L269_3 (N : Nat) (s : Int32 × Int32 × Int64 × Int32 × mS) : Option (mS) := t_lp (B269_3 N) N s
theorem B269_3_ok {xt : mj_X} {ct : Nat → Value} {a : Nat} {ra : Nat → Nat} {d N : Nat} {s : Int32 × Int32 × Int64 × Int32 × mS} {o : (Int32 × Int32 × Int64 × Int32 × mS) ⊕ (mS)} {q : mS} (e : B269_3 N s = some o) (g : GG269_3 xt ct a ra d q o) : LG269_3 xt ct a ra d q s.1 s.2.1 s.2.2.1 s.2.2.2.1 s.2.2.2.2 := by
  unfold B269_3 at e
  exact (fun l h0 h1 h2 h3 h5 =>
  M_of (fun _ _ H => r_iload c269_3 h5 <| r_aloadn c269_5 h0 <| H) <|
  M_geta (j := 49) c269_6 (by decide) <|
  M_of (fun _ _ H => r_iloadn c269_9 h2 <| H) <|
  t_ck e fun i1 e2 =>
  M_iald (j := 49) (v := (s.2.2.2.2.2.1 49 (s.2.1).toInt.toNat)) c269_10 (by decide) i1 rfl <|
  t_if e2 (fun b3 e4 =>
    M_of (fun _ _ H => r_icmpT c269_11 b3 <| H) <|
    t_rg e4 g (fun (e : s.2.2.2.2 = q) => M_rv (e) (fun _ => r_ret c269_44))
  ) (fun b3 e4 =>
    M_of (fun _ _ H => r_icmpF c269_11 b3 <| H) <|
    M_of (fun _ _ H => r_aloadn c269_14 h0 <| r_iloadn c269_15 h1 <| r_iloadn c269_16 h2 <| r_iload c269_17 h5 <| r_iconst c269_19 <| r_iconst c269_20 <| r_aloadn c269_21 h0 <| H) <|
    M_geta (j := 48) c269_22 (by decide) <|
    M_of (fun _ _ H => r_bipush c269_25 <| r_iloadn c269_27 h2 <| r_imul c269_28 rfl <| r_iload c269_29 h5 <| r_iadd c269_31 rfl <| H) <|
    t_ck e4 fun i5 e6 =>
    M_lald (j := 48) (v := (s.2.2.2.2.2.2 48 (((64 * s.2.1) + s.2.2.2.1)).toInt.toNat)) c269_32 (by decide) i5 rfl <|
    M_of (fun _ _ H => r_lloadn c269_33 h3 <| r_lmul c269_34 rfl <| H) <|
    t_bd e6 fun r7 c8 e9 =>
    M_cv (as := [.ref a, .int s.1, .int s.2.1, .int s.2.2.2.1, .int (-1), .int 0, .long ((s.2.2.2.2.2.2 48 (((64 * s.2.1) + s.2.2.2.1)).toInt.toNat) * s.2.2.1)]) (st' := []) (v := none) c269_35 rfl ⟨Nat.le_of_ble_eq_true rfl, Nat.le_of_ble_eq_true rfl, Nat.le_of_ble_eq_true rfl⟩ rfl rfl (M270_ok (d := d) c8) (Nat.add_lt_add_left (by decide) d) <|
    M_of (fun _ _ H => r_iinc c269_38 h5 <| r_goto c269_41 <| H) <|
    t_rg e9 g (fun (e : LG269_3 xt ct a ra d q s.1 s.2.1 s.2.2.1 (s.2.2.2.1 + 1) r7) => e _ (ld1_ne h0 (by decide) (Or.inl (by decide))) (ld1_ne h1 (by decide) (Or.inl (by decide))) (ld1_ne h2 (by decide) (Or.inl (by decide))) (ld1_ne h3 (by decide) (Or.inl (by decide))) ld1_eq)
  ))
theorem L269_3_ok {xt : mj_X} {ct : Nat → Value} {a : Nat} {ra : Nat → Nat} {d N : Nat} {x1 : Int32} {x2 : Int32} {x3 : Int64} {x5 : Int32} {S : mS} {q : mS} (e : L269_3 N (x1, x2, x3, x5, S) = some q) : LG269_3 xt ct a ra d q x1 x2 x3 x5 S :=
  t_lp_ok (G := fun s => LG269_3 xt ct a ra d q s.1 s.2.1 s.2.2.1 s.2.2.2.1 s.2.2.2.2) (fun s s' e g => B269_3_ok e (by obtain ⟨_, _, _, _, _⟩ := s'; exact g)) (fun s e => B269_3_ok e rfl) N (x1, x2, x3, x5, S) e
/-- pour(IIJ)V -/
def M269 (N : Nat) (x1 : Int32) (x2 : Int32) (x3 : Int64) (S : mS) : Option (mS) :=
  L269_3 N (x1, x2, x3, 0, S)
theorem M269_ok {xt : mj_X} {ct : Nat → Value} {a : Nat} {ra : Nat → Nat} {d N : Nat} {x1 : Int32} {x2 : Int32} {x3 : Int64} {S : mS} {q : mS} (e : M269 N x1 x2 x3 S = some q) : MR xt ct a ra (d + 3) 269 0 (lv_args 0 [.ref a, .int x1, .int x2, .long x3]) [] S (.inl none) q := by
  unfold M269 at e
  exact (
  M_of (fun _ _ H => r_iconst c269_0 <| r_istore c269_1 <| H) <|
  L269_3_ok e _ (ld1_ne rfl (by decide) (Or.inl (by decide))) (ld1_ne rfl (by decide) (Or.inl (by decide))) (ld1_ne rfl (by decide) (Or.inl (by decide))) (ld1_ne rfl (by decide) (Or.inl (by decide))) ld1_eq)
