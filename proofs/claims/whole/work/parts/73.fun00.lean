/-- thrown()I -/
def M203 (N : Nat)  (S : mS) : Option (Int32 × mS) :=
  some ((S.1 0), S)
theorem M203_ok {xt : mj_X} {ct : Nat → Value} {a : Nat} {ra : Nat → Nat} {d N : Nat}  {S : mS} {q : Int32 × mS} (e : M203 N  S = some q) : MR xt ct a ra (d + 1) 203 0 (lv_args 0 [.ref a]) [] S (.inl (some (.int q.1))) q.2 := by
  unfold M203 at e
  exact (
  M_of (fun _ _ H => r_aloadn c203_0 rfl <| H) <|
  M_get (v := (S.1 0)) c203_1 (by decide) rfl <|
  M_ri (Option.some.inj e) (fun _ => r_iret c203_4 rfl))
def J205_15 (N : Nat)  (s0 : Int32) (S : mS) : Option (Int32 × mS) :=
  if s0 = 0 ∨ s0 = 1 then
  some (s0, S)
  else none
theorem J205_15_ok {xt : mj_X} {ct : Nat → Value} {a : Nat} {ra : Nat → Nat} {d N : Nat} {l : mj_L}  {s0 : Int32} {S : mS} {q : Int32 × mS}  (e : J205_15 N  s0 S = some q) : MR xt ct a ra (d + 1) 205 15 l [.int s0] S (.inl (some (.int q.1))) q.2 := by
  unfold J205_15 at e
  exact (
  t_ck e fun z3 e4 =>
  M_ri (Option.some.inj e4) (fun _ => r_iret c205_15 (m_z1 z3)))
def J205_14 (N : Nat)   (S : mS) : Option (Int32 × mS) :=
  J205_15 N 0 S
theorem J205_14_ok {xt : mj_X} {ct : Nat → Value} {a : Nat} {ra : Nat → Nat} {d N : Nat} {l : mj_L}   {S : mS} {q : Int32 × mS}  (e : J205_14 N   S = some q) : MR xt ct a ra (d + 1) 205 14 l [] S (.inl (some (.int q.1))) q.2 := by
  unfold J205_14 at e
  exact (
  M_of (fun _ _ H => r_iconst c205_14 <| H) <|
  J205_15_ok  e)
/-- within(III)Z -/
def M205 (N : Nat) (x0 : Int32) (x1 : Int32) (x2 : Int32) (S : mS) : Option (Int32 × mS) :=
  bif mj_c2 .lt x0 x1 then
    J205_14 N S
  else
  bif mj_c2 .gt x0 x2 then
    J205_14 N S
  else
  J205_15 N 1 S
theorem M205_ok {xt : mj_X} {ct : Nat → Value} {a : Nat} {ra : Nat → Nat} {d N : Nat} {x0 : Int32} {x1 : Int32} {x2 : Int32} {S : mS} {q : Int32 × mS} (e : M205 N x0 x1 x2 S = some q) : MR xt ct a ra (d + 1) 205 0 (lv_args 0 [.int x0, .int x1, .int x2]) [] S (.inl (some (.int q.1))) q.2 := by
  unfold M205 at e
  exact (
  M_of (fun _ _ H => r_iloadn c205_0 rfl <| r_iloadn c205_1 rfl <| H) <|
  t_if e (fun b1 e2 =>
    M_of (fun _ _ H => r_icmpT c205_2 b1 <| H) <|
    J205_14_ok  e2
  ) (fun b1 e2 =>
    M_of (fun _ _ H => r_icmpF c205_2 b1 <| H) <|
    M_of (fun _ _ H => r_iloadn c205_5 rfl <| r_iloadn c205_6 rfl <| H) <|
    t_if e2 (fun b5 e6 =>
      M_of (fun _ _ H => r_icmpT c205_7 b5 <| H) <|
      J205_14_ok  e6
    ) (fun b5 e6 =>
      M_of (fun _ _ H => r_icmpF c205_7 b5 <| H) <|
      M_of (fun _ _ H => r_iconst c205_10 <| r_goto c205_11 <| H) <|
      J205_15_ok  e6
    )
  ))
/-- say(I)V -/
def M206 (N : Nat) (x1 : Int32) (S : mS) : Option (mS) :=
  if 0 ≤ ((S.1 2)).toInt ∧ ((S.1 2)).toInt < mN 1 then
  some (m_sV (m_sA S 1 ((S.1 2)).toInt.toNat x1) 2 ((S.1 2) + 1))
  else none
theorem M206_ok {xt : mj_X} {ct : Nat → Value} {a : Nat} {ra : Nat → Nat} {d N : Nat} {x1 : Int32} {S : mS} {q : mS} (e : M206 N x1 S = some q) : MR xt ct a ra (d + 1) 206 0 (lv_args 0 [.ref a, .int x1]) [] S (.inl none) q := by
  unfold M206 at e
  exact (
  M_of (fun _ _ H => r_aloadn c206_0 rfl <| H) <|
  M_geta (j := 1) c206_1 (by decide) <|
  M_of (fun _ _ H => r_aloadn c206_4 rfl <| H) <|
  M_get (v := (S.1 2)) c206_5 (by decide) rfl <|
  M_of (fun _ _ H => r_iloadn c206_8 rfl <| H) <|
  t_ck e fun i1 e2 =>
  M_iast (j := 1) c206_9 (by decide) i1 <|
  M_of (fun _ _ H => r_aloadn c206_10 rfl <| r_dup c206_11 rfl <| H) <|
  M_get (v := (S.1 2)) c206_12 (by decide) rfl <|
  M_of (fun _ _ H => r_iconst c206_15 <| r_iadd c206_16 rfl <| H) <|
  M_put c206_17 (by decide) <|
  M_rv (Option.some.inj e2) (fun _ => r_ret c206_20))
def J204_27 (N : Nat)   (S : mS) : Option (Int32 × mS) :=
  some ((-1000), S)
theorem J204_27_ok {xt : mj_X} {ct : Nat → Value} {a : Nat} {ra : Nat → Nat} {d N : Nat} {l : mj_L}   {S : mS} {q : Int32 × mS} (h0 : mj_ld l 0 = some (.ref a)) (e : J204_27 N   S = some q) : MR xt ct a ra (d + 2) 204 27 l [] S (.inl (some (.int q.1))) q.2 := by
  unfold J204_27 at e
  exact (
  M_of (fun _ _ H => r_sipush c204_27 <| H) <|
  M_ri (Option.some.inj e) (fun _ => r_iret c204_30 rfl))
def LG204_34 (xt : mj_X) (ct : Nat → Value) (a : Nat) (ra : Nat → Nat) (d : Nat) (q : Int32 × mS) (x1 : Int64) (x3 : Int32) (x4 : Int32) (S : mS) : Prop := ∀ l, mj_ld l 0 = some (.ref a) → mj_ld l 1 = some (.long x1) → mj_ld l 3 = some (.int x3) → mj_ld l 4 = some (.int x4) → MR xt ct a ra (d + 2) 204 34 l [] S (.inl (some (.int q.1))) q.2
def GG204_34 (xt : mj_X) (ct : Nat → Value) (a : Nat) (ra : Nat → Nat) (d : Nat) (q : Int32 × mS) (o : (Int64 × Int32 × Int32 × mS) ⊕ (Int32 × mS)) : Prop := match o with
  | .inl (x1, x3, x4, S) => LG204_34 xt ct a ra d q x1 x3 x4 S
  | .inr r => r = q
def LG204_86 (xt : mj_X) (ct : Nat → Value) (a : Nat) (ra : Nat → Nat) (d : Nat) (q : Int32 × mS) (x1 : Int64) (x4 : Int32) (S : mS) : Prop := ∀ l, mj_ld l 0 = some (.ref a) → mj_ld l 1 = some (.long x1) → mj_ld l 4 = some (.int x4) → MR xt ct a ra (d + 2) 204 86 l [] S (.inl (some (.int q.1))) q.2
def GG204_86 (xt : mj_X) (ct : Nat → Value) (a : Nat) (ra : Nat → Nat) (d : Nat) (q : Int32 × mS) (o : (Int64 × Int32 × mS) ⊕ (Int32 × mS)) : Prop := match o with
  | .inl (x1, x4, S) => LG204_86 xt ct a ra d q x1 x4 S
  | .inr r => r = q
def B204_86 (N : Nat) (s : Int64 × Int32 × mS) : Option ((Int64 × Int32 × mS) ⊕ (Int32 × mS)) :=
  bif mj_c1 .lt s.2.1 then
    some (.inr ((s.2.2.1 2), s.2.2))
  else
  (M206 N ((s.1 >>> (((8 * s.2.1) : Int32).toInt64 &&& 63)) &&& 255).toInt32 s.2.2).bind fun r12 =>
  some (.inl (s.1, (s.2.1 + (-1)), r12))
def L204_86 (N : Nat) (s : Int64 × Int32 × mS) : Option (Int32 × mS) := t_lp (B204_86 N) N s
theorem B204_86_ok {xt : mj_X} {ct : Nat → Value} {a : Nat} {ra : Nat → Nat} {d N : Nat} {s : Int64 × Int32 × mS} {o : (Int64 × Int32 × mS) ⊕ (Int32 × mS)} {q : Int32 × mS} (e : B204_86 N s = some o) (g : GG204_86 xt ct a ra d q o) : LG204_86 xt ct a ra d q s.1 s.2.1 s.2.2 := by
  unfold B204_86 at e
  exact (fun l h0 h1 h4 =>
  M_of (fun _ _ H => r_iload c204_86 h4 <| H) <|
  t_if e (fun b10 e11 =>
    M_of (fun _ _ H => r_ifT c204_88 b10 <| H) <|
    M_of (fun _ _ H => r_aloadn c204_113 h0 <| H) <|
    M_get (v := (s.2.2.1 2)) c204_114 (by decide) rfl <|
    t_rg e11 g (fun (e : ((s.2.2.1 2), s.2.2) = q) => M_ri (e) (fun _ => r_iret c204_117 rfl))
  ) (fun b10 e11 =>
    M_of (fun _ _ H => r_ifF c204_88 b10 <| H) <|
    M_of (fun _ _ H => r_aloadn c204_91 h0 <| r_lloadn c204_92 h1 <| r_bipush c204_93 <| r_iload c204_95 h4 <| r_imul c204_97 rfl <| r_lshr c204_98 rfl <| r_ldc2 c204_99 <| r_land c204_102 rfl <| r_l2i c204_103 rfl <| H) <|
    t_bd e11 fun r12 c13 e14 =>
    M_cv (as := [.ref a, .int ((s.1 >>> (((8 * s.2.1) : Int32).toInt64 &&& 63)) &&& 255).toInt32]) (st' := []) (v := none) c204_104 rfl ⟨Nat.le_of_ble_eq_true rfl, Nat.le_of_ble_eq_true rfl, Nat.le_of_ble_eq_true rfl⟩ rfl rfl (M206_ok (d := d) c13) (Nat.add_lt_add_left (by decide) d) <|
    M_of (fun _ _ H => r_iinc c204_107 h4 <| r_goto c204_110 <| H) <|
    t_rg e14 g (fun (e : LG204_86 xt ct a ra d q s.1 (s.2.1 + (-1)) r12) => e _ (ld1_ne h0 (by decide) (Or.inl (by decide))) (ld1_ne h1 (by decide) (Or.inl (by decide))) ld1_eq)
  ))
theorem L204_86_ok {xt : mj_X} {ct : Nat → Value} {a : Nat} {ra : Nat → Nat} {d N : Nat} {x1 : Int64} {x4 : Int32} {S : mS} {q : Int32 × mS} (e : L204_86 N (x1, x4, S) = some q) : LG204_86 xt ct a ra d q x1 x4 S :=
  t_lp_ok (G := fun s => LG204_86 xt ct a ra d q s.1 s.2.1 s.2.2) (fun s s' e g => B204_86_ok e (by obtain ⟨_, _, _⟩ := s'; exact g)) (fun s e => B204_86_ok e rfl) N (x1, x4, S) e
def J204_71 (N : Nat)   (S : mS) : Option (Int32 × mS) :=
  some ((-1000), S)
theorem J204_71_ok {xt : mj_X} {ct : Nat → Value} {a : Nat} {ra : Nat → Nat} {d N : Nat} {l : mj_L}   {S : mS} {q : Int32 × mS} (h0 : mj_ld l 0 = some (.ref a)) (e : J204_71 N   S = some q) : MR xt ct a ra (d + 2) 204 71 l [] S (.inl (some (.int q.1))) q.2 := by
  unfold J204_71 at e
  exact (
  M_of (fun _ _ H => r_sipush c204_71 <| H) <|
  M_ri (Option.some.inj e) (fun _ => r_iret c204_74 rfl))
def B204_34 (N : Nat) (s : Int64 × Int32 × Int32 × mS) : Option ((Int64 × Int32 × Int32 × mS) ⊕ (Int32 × mS)) :=
  bif mj_c2 .ge s.2.2.1 s.2.1 then
    (L204_86 N (s.1, (s.2.1 - 1), s.2.2.2)).map Sum.inr
  else
  bif mj_c1 .lt (lg_cmp ((s.1 >>> (((8 * s.2.2.1) : Int32).toInt64 &&& 63)) &&& 255) 33) then
    (J204_71 N s.2.2.2).map Sum.inr
  else
  bif mj_c1 .le (lg_cmp ((s.1 >>> (((8 * s.2.2.1) : Int32).toInt64 &&& 63)) &&& 255) 126) then
    some (.inl (s.1, s.2.1, (s.2.2.1 + 1), s.2.2.2))
  else
  (J204_71 N s.2.2.2).map Sum.inr
def L204_34 (N : Nat) (s : Int64 × Int32 × Int32 × mS) : Option (Int32 × mS) := t_lp (B204_34 N) N s
theorem B204_34_ok {xt : mj_X} {ct : Nat → Value} {a : Nat} {ra : Nat → Nat} {d N : Nat} {s : Int64 × Int32 × Int32 × mS} {o : (Int64 × Int32 × Int32 × mS) ⊕ (Int32 × mS)} {q : Int32 × mS} (e : B204_34 N s = some o) (g : GG204_34 xt ct a ra d q o) : LG204_34 xt ct a ra d q s.1 s.2.1 s.2.2.1 s.2.2.2 := by
  unfold B204_34 at e
  exact (fun l h0 h1 h3 h4 =>
  M_of (fun _ _ H => r_iload c204_34 h4 <| r_iloadn c204_36 h3 <| H) <|
  t_if e (fun b8 e9 =>
    M_of (fun _ _ H => r_icmpT c204_37 b8 <| H) <|
    M_of (fun _ _ H => r_iloadn c204_81 h3 <| r_iconst c204_82 <| r_isub c204_83 rfl <| r_istore c204_84 <| H) <|
    t_up e9 fun o15 e16 u17 =>
    (fun (g18 : o15 = q) =>
    by subst g18; exact (L204_86_ok e16 _ (ld1_ne h0 (by decide) (Or.inl (by decide))) (ld1_ne h1 (by decide) (Or.inl (by decide))) ld1_eq)
    ) (by have := g; rw [u17] at this; exact this)
  ) (fun b8 e9 =>
    M_of (fun _ _ H => r_icmpF c204_37 b8 <| H) <|
    M_of (fun _ _ H => r_lloadn c204_40 h1 <| r_bipush c204_41 <| r_iload c204_43 h4 <| r_imul c204_45 rfl <| r_lshr c204_46 rfl <| r_ldc2 c204_47 <| r_land c204_50 rfl <| r_lstore c204_51 <| r_lload c204_53 ld2_eq <| r_ldc2 c204_55 <| r_lcmp c204_58 rfl <| H) <|
    t_if e9 (fun b19 e20 =>
      M_of (fun _ _ H => r_ifT c204_59 b19 <| H) <|
      t_up e20 fun o21 e22 u23 =>
      (fun (g24 : o21 = q) =>
      by subst g24; exact (J204_71_ok (ld2_ne h0 (by decide) (Or.inl (by decide))) e22)
      ) (by have := g; rw [u23] at this; exact this)
    ) (fun b19 e20 =>
      M_of (fun _ _ H => r_ifF c204_59 b19 <| H) <|
      M_of (fun _ _ H => r_lload c204_62 ld2_eq <| r_ldc2 c204_64 <| r_lcmp c204_67 rfl <| H) <|
      t_if e20 (fun b25 e26 =>
        M_of (fun _ _ H => r_ifT c204_68 b25 <| H) <|
        M_of (fun _ _ H => r_iinc c204_75 (ld2_ne h4 (by decide) (Or.inr rfl)) <| r_goto c204_78 <| H) <|
        t_rg e26 g (fun (e : LG204_34 xt ct a ra d q s.1 s.2.1 (s.2.2.1 + 1) s.2.2.2) => e _ (ld1_ne (ld2_ne h0 (by decide) (Or.inl (by decide))) (by decide) (Or.inl (by decide))) (ld1_ne (ld2_ne h1 (by decide) (Or.inl (by decide))) (by decide) (Or.inl (by decide))) (ld1_ne (ld2_ne h3 (by decide) (Or.inl (by decide))) (by decide) (Or.inr rfl)) ld1_eq)
      ) (fun b25 e26 =>
        M_of (fun _ _ H => r_ifF c204_68 b25 <| H) <|
        t_up e26 fun o27 e28 u29 =>
        (fun (g30 : o27 = q) =>
        by subst g30; exact (J204_71_ok (ld2_ne h0 (by decide) (Or.inl (by decide))) e28)
        ) (by have := g; rw [u29] at this; exact this)
      )
    )
  ))
theorem L204_34_ok {xt : mj_X} {ct : Nat → Value} {a : Nat} {ra : Nat → Nat} {d N : Nat} {x1 : Int64} {x3 : Int32} {x4 : Int32} {S : mS} {q : Int32 × mS} (e : L204_34 N (x1, x3, x4, S) = some q) : LG204_34 xt ct a ra d q x1 x3 x4 S :=
  t_lp_ok (G := fun s => LG204_34 xt ct a ra d q s.1 s.2.1 s.2.2.1 s.2.2.2) (fun s s' e g => B204_34_ok e (by obtain ⟨_, _, _, _⟩ := s'; exact g)) (fun s e => B204_34_ok e rfl) N (x1, x3, x4, S) e
/-- type(JI)I -/
def M204 (N : Nat) (x1 : Int64) (x3 : Int32) (S : mS) : Option (Int32 × mS) :=
  (M205 N x3 1 8 (m_sV S 0 0)).bind fun r1 =>
  bif mj_c1 .eq r1.1 then
    J204_27 N r1.2
  else
  bif mj_c2 .le ((r1.2.1 2) + x3) 160 then
    L204_34 N (x1, x3, 0, r1.2)
  else
  J204_27 N r1.2
theorem M204_ok {xt : mj_X} {ct : Nat → Value} {a : Nat} {ra : Nat → Nat} {d N : Nat} {x1 : Int64} {x3 : Int32} {S : mS} {q : Int32 × mS} (e : M204 N x1 x3 S = some q) : MR xt ct a ra (d + 2) 204 0 (lv_args 0 [.ref a, .long x1, .int x3]) [] S (.inl (some (.int q.1))) q.2 := by
  unfold M204 at e
  exact (
  M_of (fun _ _ H => r_aloadn c204_0 rfl <| r_iconst c204_1 <| H) <|
  M_put c204_2 (by decide) <|
  M_of (fun _ _ H => r_iloadn c204_5 rfl <| r_iconst c204_6 <| r_bipush c204_7 <| H) <|
  t_bd e fun r1 c2 e3 =>
  M_cs (as := [.int x3, .int 1, .int 8]) (st' := [.int r1.1]) (v := (some (.int r1.1))) c204_9 ⟨Nat.le_of_ble_eq_true rfl, Nat.le_of_ble_eq_true rfl, Nat.le_of_ble_eq_true rfl⟩ rfl rfl (M205_ok (d := d) c2) (Nat.add_lt_add_left (by decide) d) <|
  t_if e3 (fun b4 e5 =>
    M_of (fun _ _ H => r_ifT c204_12 b4 <| H) <|
    J204_27_ok rfl e5
  ) (fun b4 e5 =>
    M_of (fun _ _ H => r_ifF c204_12 b4 <| H) <|
    M_of (fun _ _ H => r_aloadn c204_15 rfl <| H) <|
    M_get (v := (r1.2.1 2)) c204_16 (by decide) rfl <|
    M_of (fun _ _ H => r_iloadn c204_19 rfl <| r_iadd c204_20 rfl <| r_sipush c204_21 <| H) <|
    t_if e5 (fun b6 e7 =>
      M_of (fun _ _ H => r_icmpT c204_24 b6 <| H) <|
      M_of (fun _ _ H => r_iconst c204_31 <| r_istore c204_32 <| H) <|
      L204_34_ok e7 _ (ld1_ne rfl (by decide) (Or.inl (by decide))) (ld1_ne rfl (by decide) (Or.inl (by decide))) (ld1_ne rfl (by decide) (Or.inr rfl)) ld1_eq
    ) (fun b6 e7 =>
      M_of (fun _ _ H => r_icmpF c204_24 b6 <| H) <|
      J204_27_ok rfl e7
    )
  ))
/-- wipe()I -/
def M207 (N : Nat)  (S : mS) : Option (Int32 × mS) :=
  some ((S.1 2), (m_sV (m_sV S 0 0) 2 0))
theorem M207_ok {xt : mj_X} {ct : Nat → Value} {a : Nat} {ra : Nat → Nat} {d N : Nat}  {S : mS} {q : Int32 × mS} (e : M207 N  S = some q) : MR xt ct a ra (d + 1) 207 0 (lv_args 0 [.ref a]) [] S (.inl (some (.int q.1))) q.2 := by
  unfold M207 at e
  exact (
  M_of (fun _ _ H => r_aloadn c207_0 rfl <| r_iconst c207_1 <| H) <|
  M_put c207_2 (by decide) <|
  M_of (fun _ _ H => r_aloadn c207_5 rfl <| H) <|
  M_get (v := (S.1 2)) c207_6 (by decide) rfl <|
  M_of (fun _ _ H => r_istoren c207_9 <| r_aloadn c207_10 (ld1_ne rfl (by decide) (Or.inr rfl)) <| r_iconst c207_11 <| H) <|
  M_put c207_12 (by decide) <|
  M_of (fun _ _ H => r_iloadn c207_15 ld1_eq <| H) <|
  M_ri (Option.some.inj e) (fun _ => r_iret c207_16 rfl))
def J208_29 (N : Nat)  (s0 : Int32) (S : mS) : Option (Int32 × mS) :=
  some (s0, S)
theorem J208_29_ok {xt : mj_X} {ct : Nat → Value} {a : Nat} {ra : Nat → Nat} {d N : Nat} {l : mj_L}  {s0 : Int32} {S : mS} {q : Int32 × mS} (h0 : mj_ld l 0 = some (.ref a)) (e : J208_29 N  s0 S = some q) : MR xt ct a ra (d + 1) 208 29 l [.int s0] S (.inl (some (.int q.1))) q.2 := by
  unfold J208_29 at e
  exact (
  M_ri (Option.some.inj e) (fun _ => r_iret c208_29 rfl))
def J208_26 (N : Nat)   (S : mS) : Option (Int32 × mS) :=
  J208_29 N (-1000) S
theorem J208_26_ok {xt : mj_X} {ct : Nat → Value} {a : Nat} {ra : Nat → Nat} {d N : Nat} {l : mj_L}   {S : mS} {q : Int32 × mS} (h0 : mj_ld l 0 = some (.ref a)) (e : J208_26 N   S = some q) : MR xt ct a ra (d + 1) 208 26 l [] S (.inl (some (.int q.1))) q.2 := by
  unfold J208_26 at e
  exact (
  M_of (fun _ _ H => r_sipush c208_26 <| H) <|
  J208_29_ok h0 e)
/-- character(I)I -/
def M208 (N : Nat) (x1 : Int32) (S : mS) : Option (Int32 × mS) :=
  bif mj_c1 .lt x1 then
    J208_26 N (m_sV S 0 0)
  else
  bif mj_c2 .ge x1 (S.1 2) then
    J208_26 N (m_sV S 0 0)
  else
  if 0 ≤ (x1).toInt ∧ (x1).toInt < mN 1 then
  J208_29 N (S.2.1 1 (x1).toInt.toNat) (m_sV S 0 0)
  else none
theorem M208_ok {xt : mj_X} {ct : Nat → Value} {a : Nat} {ra : Nat → Nat} {d N : Nat} {x1 : Int32} {S : mS} {q : Int32 × mS} (e : M208 N x1 S = some q) : MR xt ct a ra (d + 1) 208 0 (lv_args 0 [.ref a, .int x1]) [] S (.inl (some (.int q.1))) q.2 := by
  unfold M208 at e
  exact (
  M_of (fun _ _ H => r_aloadn c208_0 rfl <| r_iconst c208_1 <| H) <|
  M_put c208_2 (by decide) <|
  M_of (fun _ _ H => r_iloadn c208_5 rfl <| H) <|
  t_if e (fun b1 e2 =>
    M_of (fun _ _ H => r_ifT c208_6 b1 <| H) <|
    J208_26_ok rfl e2
  ) (fun b1 e2 =>
    M_of (fun _ _ H => r_ifF c208_6 b1 <| H) <|
    M_of (fun _ _ H => r_iloadn c208_9 rfl <| r_aloadn c208_10 rfl <| H) <|
    M_get (v := (S.1 2)) c208_11 (by decide) rfl <|
    t_if e2 (fun b3 e4 =>
      M_of (fun _ _ H => r_icmpT c208_14 b3 <| H) <|
      J208_26_ok rfl e4
    ) (fun b3 e4 =>
      M_of (fun _ _ H => r_icmpF c208_14 b3 <| H) <|
      M_of (fun _ _ H => r_aloadn c208_17 rfl <| H) <|
      M_geta (j := 1) c208_18 (by decide) <|
      M_of (fun _ _ H => r_iloadn c208_21 rfl <| H) <|
      t_ck e4 fun i5 e6 =>
      M_iald (j := 1) (v := (S.2.1 1 (x1).toInt.toNat)) c208_22 (by decide) i5 rfl <|
      M_of (fun _ _ H => r_goto c208_23 <| H) <|
      J208_29_ok rfl e6
    )
  ))
/-- isSlot(I)Z -/
def M210 (N : Nat) (x0 : Int32) (S : mS) : Option (Int32 × mS) :=
  (M205 N x0 0 2 S).bind fun r1 =>
  if r1.1 = 0 ∨ r1.1 = 1 then
  some (r1.1, r1.2)
  else none
theorem M210_ok {xt : mj_X} {ct : Nat → Value} {a : Nat} {ra : Nat → Nat} {d N : Nat} {x0 : Int32} {S : mS} {q : Int32 × mS} (e : M210 N x0 S = some q) : MR xt ct a ra (d + 2) 210 0 (lv_args 0 [.int x0]) [] S (.inl (some (.int q.1))) q.2 := by
  unfold M210 at e
  exact (
  M_of (fun _ _ H => r_iloadn c210_0 rfl <| r_iconst c210_1 <| r_iconst c210_2 <| H) <|
  t_bd e fun r1 c2 e3 =>
  M_cs (as := [.int x0, .int 0, .int 2]) (st' := [.int r1.1]) (v := (some (.int r1.1))) c210_3 ⟨Nat.le_of_ble_eq_true rfl, Nat.le_of_ble_eq_true rfl, Nat.le_of_ble_eq_true rfl⟩ rfl rfl (M205_ok (d := d) c2) (Nat.add_lt_add_left (by decide) d) <|
  t_ck e3 fun z4 e5 =>
  M_ri (Option.some.inj e5) (fun _ => r_iret c210_6 (m_z1 z4)))
def J212_24 (N : Nat)  (s0 : Int32) (S : mS) : Option (Int32 × mS) :=
  some (s0, S)
theorem J212_24_ok {xt : mj_X} {ct : Nat → Value} {a : Nat} {ra : Nat → Nat} {d N : Nat} {l : mj_L}  {s0 : Int32} {S : mS} {q : Int32 × mS} (h0 : mj_ld l 0 = some (.ref a)) (e : J212_24 N  s0 S = some q) : MR xt ct a ra (d + 1) 212 24 l [.int s0] S (.inl (some (.int q.1))) q.2 := by
  unfold J212_24 at e
  exact (
  M_ri (Option.some.inj e) (fun _ => r_iret c212_24 rfl))
/-- here()I -/
def M212 (N : Nat)  (S : mS) : Option (Int32 × mS) :=
  bif mj_c2 .ge (S.1 22) (S.1 2) then
    J212_24 N 0 S
  else
  if 0 ≤ ((S.1 22)).toInt ∧ ((S.1 22)).toInt < mN 1 then
  J212_24 N (S.2.1 1 ((S.1 22)).toInt.toNat) S
  else none
theorem M212_ok {xt : mj_X} {ct : Nat → Value} {a : Nat} {ra : Nat → Nat} {d N : Nat}  {S : mS} {q : Int32 × mS} (e : M212 N  S = some q) : MR xt ct a ra (d + 1) 212 0 (lv_args 0 [.ref a]) [] S (.inl (some (.int q.1))) q.2 := by
  unfold M212 at e
  exact (
  M_of (fun _ _ H => r_aloadn c212_0 rfl <| H) <|
  M_get (v := (S.1 22)) c212_1 (by decide) rfl <|
  M_of (fun _ _ H => r_aloadn c212_4 rfl <| H) <|
  M_get (v := (S.1 2)) c212_5 (by decide) rfl <|
  t_if e (fun b1 e2 =>
    M_of (fun _ _ H => r_icmpT c212_8 b1 <| H) <|
    M_of (fun _ _ H => r_iconst c212_23 <| H) <|
    J212_24_ok rfl e2
  ) (fun b1 e2 =>
    M_of (fun _ _ H => r_icmpF c212_8 b1 <| H) <|
    M_of (fun _ _ H => r_aloadn c212_11 rfl <| H) <|
    M_geta (j := 1) c212_12 (by decide) <|
    M_of (fun _ _ H => r_aloadn c212_15 rfl <| H) <|
    M_get (v := (S.1 22)) c212_16 (by decide) rfl <|
    t_ck e2 fun i3 e4 =>
    M_iald (j := 1) (v := (S.2.1 1 ((S.1 22)).toInt.toNat)) c212_19 (by decide) i3 rfl <|
    M_of (fun _ _ H => r_goto c212_20 <| H) <|
    J212_24_ok rfl e4
  ))
/-- fail(I)Z -/
def M213 (N : Nat) (x1 : Int32) (S : mS) : Option (Int32 × mS) :=
  some (0, (m_sV S 3 x1))
theorem M213_ok {xt : mj_X} {ct : Nat → Value} {a : Nat} {ra : Nat → Nat} {d N : Nat} {x1 : Int32} {S : mS} {q : Int32 × mS} (e : M213 N x1 S = some q) : MR xt ct a ra (d + 1) 213 0 (lv_args 0 [.ref a, .int x1]) [] S (.inl (some (.int q.1))) q.2 := by
  unfold M213 at e
  exact (
  M_of (fun _ _ H => r_aloadn c213_0 rfl <| r_iloadn c213_1 rfl <| H) <|
  M_put c213_2 (by decide) <|
  M_of (fun _ _ H => r_iconst c213_5 <| H) <|
  M_ri (Option.some.inj e) (fun _ => r_iret c213_6 rfl))
def J215_23 (N : Nat)  (s0 : Int32) (S : mS) : Option (Int32 × mS) :=
  if s0 = 0 ∨ s0 = 1 then
  some (s0, S)
  else none
theorem J215_23_ok {xt : mj_X} {ct : Nat → Value} {a : Nat} {ra : Nat → Nat} {d N : Nat} {l : mj_L}  {s0 : Int32} {S : mS} {q : Int32 × mS} (h0 : mj_ld l 0 = some (.ref a)) (e : J215_23 N  s0 S = some q) : MR xt ct a ra (d + 2) 215 23 l [.int s0] S (.inl (some (.int q.1))) q.2 := by
  unfold J215_23 at e
  exact (
  t_ck e fun z6 e7 =>
  M_ri (Option.some.inj e7) (fun _ => r_iret c215_23 (m_z1 z6)))
def J215_22 (N : Nat)   (S : mS) : Option (Int32 × mS) :=
  J215_23 N 0 S
theorem J215_22_ok {xt : mj_X} {ct : Nat → Value} {a : Nat} {ra : Nat → Nat} {d N : Nat} {l : mj_L}   {S : mS} {q : Int32 × mS} (h0 : mj_ld l 0 = some (.ref a)) (e : J215_22 N   S = some q) : MR xt ct a ra (d + 2) 215 22 l [] S (.inl (some (.int q.1))) q.2 := by
  unfold J215_22 at e
  exact (
  M_of (fun _ _ H => r_iconst c215_22 <| H) <|
  J215_23_ok h0 e)
/-- isName()Z -/
def M215 (N : Nat)  (S : mS) : Option (Int32 × mS) :=
  (M212 N S).bind fun r1 =>
  bif mj_c2 .lt r1.1 65 then
    J215_22 N r1.2
  else
  (M212 N r1.2).bind fun r8 =>
  bif mj_c2 .gt r8.1 70 then
    J215_22 N r8.2
  else
  J215_23 N 1 r8.2
theorem M215_ok {xt : mj_X} {ct : Nat → Value} {a : Nat} {ra : Nat → Nat} {d N : Nat}  {S : mS} {q : Int32 × mS} (e : M215 N  S = some q) : MR xt ct a ra (d + 2) 215 0 (lv_args 0 [.ref a]) [] S (.inl (some (.int q.1))) q.2 := by
  unfold M215 at e
  exact (
  M_of (fun _ _ H => r_aloadn c215_0 rfl <| H) <|
  t_bd e fun r1 c2 e3 =>
  M_cv (as := [.ref a]) (st' := [.int r1.1]) (v := (some (.int r1.1))) c215_1 rfl ⟨Nat.le_of_ble_eq_true rfl, Nat.le_of_ble_eq_true rfl, Nat.le_of_ble_eq_true rfl⟩ rfl rfl (M212_ok (d := d) c2) (Nat.add_lt_add_left (by decide) d) <|
  M_of (fun _ _ H => r_bipush c215_4 <| H) <|
  t_if e3 (fun b4 e5 =>
    M_of (fun _ _ H => r_icmpT c215_6 b4 <| H) <|
    J215_22_ok rfl e5
  ) (fun b4 e5 =>
    M_of (fun _ _ H => r_icmpF c215_6 b4 <| H) <|
    M_of (fun _ _ H => r_aloadn c215_9 rfl <| H) <|
    t_bd e5 fun r8 c9 e10 =>
    M_cv (as := [.ref a]) (st' := [.int r8.1]) (v := (some (.int r8.1))) c215_10 rfl ⟨Nat.le_of_ble_eq_true rfl, Nat.le_of_ble_eq_true rfl, Nat.le_of_ble_eq_true rfl⟩ rfl rfl (M212_ok (d := d) c9) (Nat.add_lt_add_left (by decide) d) <|
    M_of (fun _ _ H => r_bipush c215_13 <| H) <|
    t_if e10 (fun b11 e12 =>
      M_of (fun _ _ H => r_icmpT c215_15 b11 <| H) <|
      J215_22_ok rfl e12
    ) (fun b11 e12 =>
      M_of (fun _ _ H => r_icmpF c215_15 b11 <| H) <|
      M_of (fun _ _ H => r_iconst c215_18 <| r_goto c215_19 <| H) <|
      J215_23_ok rfl e12
    )
  ))
def J217_23 (N : Nat)  (s0 : Int32) (S : mS) : Option (Int32 × mS) :=
  if s0 = 0 ∨ s0 = 1 then
  some (s0, S)
  else none
theorem J217_23_ok {xt : mj_X} {ct : Nat → Value} {a : Nat} {ra : Nat → Nat} {d N : Nat} {l : mj_L}  {s0 : Int32} {S : mS} {q : Int32 × mS} (h0 : mj_ld l 0 = some (.ref a)) (e : J217_23 N  s0 S = some q) : MR xt ct a ra (d + 2) 217 23 l [.int s0] S (.inl (some (.int q.1))) q.2 := by
  unfold J217_23 at e
  exact (
  t_ck e fun z6 e7 =>
  M_ri (Option.some.inj e7) (fun _ => r_iret c217_23 (m_z1 z6)))
def J217_22 (N : Nat)   (S : mS) : Option (Int32 × mS) :=
  J217_23 N 0 S
theorem J217_22_ok {xt : mj_X} {ct : Nat → Value} {a : Nat} {ra : Nat → Nat} {d N : Nat} {l : mj_L}   {S : mS} {q : Int32 × mS} (h0 : mj_ld l 0 = some (.ref a)) (e : J217_22 N   S = some q) : MR xt ct a ra (d + 2) 217 22 l [] S (.inl (some (.int q.1))) q.2 := by
  unfold J217_22 at e
  exact (
  M_of (fun _ _ H => r_iconst c217_22 <| H) <|
  J217_23_ok h0 e)
/-- isDigit()Z -/
def M217 (N : Nat)  (S : mS) : Option (Int32 × mS) :=
  (M212 N S).bind fun r1 =>
  bif mj_c2 .lt r1.1 48 then
    J217_22 N r1.2
  else
  (M212 N r1.2).bind fun r8 =>
  bif mj_c2 .gt r8.1 57 then
    J217_22 N r8.2
  else
  J217_23 N 1 r8.2
theorem M217_ok {xt : mj_X} {ct : Nat → Value} {a : Nat} {ra : Nat → Nat} {d N : Nat}  {S : mS} {q : Int32 × mS} (e : M217 N  S = some q) : MR xt ct a ra (d + 2) 217 0 (lv_args 0 [.ref a]) [] S (.inl (some (.int q.1))) q.2 := by
  unfold M217 at e
  exact (
  M_of (fun _ _ H => r_aloadn c217_0 rfl <| H) <|
  t_bd e fun r1 c2 e3 =>
  M_cv (as := [.ref a]) (st' := [.int r1.1]) (v := (some (.int r1.1))) c217_1 rfl ⟨Nat.le_of_ble_eq_true rfl, Nat.le_of_ble_eq_true rfl, Nat.le_of_ble_eq_true rfl⟩ rfl rfl (M212_ok (d := d) c2) (Nat.add_lt_add_left (by decide) d) <|
  M_of (fun _ _ H => r_bipush c217_4 <| H) <|
  t_if e3 (fun b4 e5 =>
    M_of (fun _ _ H => r_icmpT c217_6 b4 <| H) <|
    J217_22_ok rfl e5
  ) (fun b4 e5 =>
    M_of (fun _ _ H => r_icmpF c217_6 b4 <| H) <|
    M_of (fun _ _ H => r_aloadn c217_9 rfl <| H) <|
    t_bd e5 fun r8 c9 e10 =>
    M_cv (as := [.ref a]) (st' := [.int r8.1]) (v := (some (.int r8.1))) c217_10 rfl ⟨Nat.le_of_ble_eq_true rfl, Nat.le_of_ble_eq_true rfl, Nat.le_of_ble_eq_true rfl⟩ rfl rfl (M212_ok (d := d) c9) (Nat.add_lt_add_left (by decide) d) <|
    M_of (fun _ _ H => r_bipush c217_13 <| H) <|
    t_if e10 (fun b11 e12 =>
      M_of (fun _ _ H => r_icmpT c217_15 b11 <| H) <|
      J217_22_ok rfl e12
    ) (fun b11 e12 =>
      M_of (fun _ _ H => r_icmpF c217_15 b11 <| H) <|
      M_of (fun _ _ H => r_iconst c217_18 <| r_goto c217_19 <| H) <|
      J217_23_ok rfl e12
    )
  ))
def LG216_26 (xt : mj_X) (ct : Nat → Value) (a : Nat) (ra : Nat → Nat) (d : Nat) (q : Int32 × mS) (x1 : Int32) (x2 : Int32) (x3 : Int32) (S : mS) : Prop := ∀ l, mj_ld l 0 = some (.ref a) → mj_ld l 1 = some (.int x1) → mj_ld l 2 = some (.int x2) → mj_ld l 3 = some (.int x3) → MR xt ct a ra (d + 3) 216 26 l [] S (.inl (some (.int q.1))) q.2
def GG216_26 (xt : mj_X) (ct : Nat → Value) (a : Nat) (ra : Nat → Nat) (d : Nat) (q : Int32 × mS) (o : (Int32 × Int32 × Int32 × mS) ⊕ (Int32 × mS)) : Prop := match o with
  | .inl (x1, x2, x3, S) => LG216_26 xt ct a ra d q x1 x2 x3 S
  | .inr r => r = q
def J216_147 (N : Nat)  (s0 : Int32) (S : mS) : Option (Int32 × mS) :=
  if s0 = 0 ∨ s0 = 1 then
  some (s0, S)
  else none
theorem J216_147_ok {xt : mj_X} {ct : Nat → Value} {a : Nat} {ra : Nat → Nat} {d N : Nat} {l : mj_L}  {s0 : Int32} {S : mS} {q : Int32 × mS} (h0 : mj_ld l 0 = some (.ref a)) (e : J216_147 N  s0 S = some q) : MR xt ct a ra (d + 3) 216 147 l [.int s0] S (.inl (some (.int q.1))) q.2 := by
  unfold J216_147 at e
  exact (
  t_ck e fun z22 e23 =>
  M_ri (Option.some.inj e23) (fun _ => r_iret c216_147 (m_z1 z22)))
def J216_142 (N : Nat)   (S : mS) : Option (Int32 × mS) :=
  J216_147 N 1 S
theorem J216_142_ok {xt : mj_X} {ct : Nat → Value} {a : Nat} {ra : Nat → Nat} {d N : Nat} {l : mj_L}   {S : mS} {q : Int32 × mS} (h0 : mj_ld l 0 = some (.ref a)) (e : J216_142 N   S = some q) : MR xt ct a ra (d + 3) 216 142 l [] S (.inl (some (.int q.1))) q.2 := by
  unfold J216_142 at e
  exact (
  M_of (fun _ _ H => r_iconst c216_142 <| r_goto c216_143 <| H) <|
  J216_147_ok h0 e)
def J216_134 (N : Nat) (x3 : Int32)  (S : mS) : Option (Int32 × mS) :=
  (M213 N x3 S).bind fun r17 =>
  bif mj_c1 .eq r17.1 then
    J216_147 N 0 r17.2
  else
  J216_142 N r17.2
theorem J216_134_ok {xt : mj_X} {ct : Nat → Value} {a : Nat} {ra : Nat → Nat} {d N : Nat} {l : mj_L} {x3 : Int32}  {S : mS} {q : Int32 × mS} (h0 : mj_ld l 0 = some (.ref a)) (h3 : mj_ld l 3 = some (.int x3)) (e : J216_134 N x3  S = some q) : MR xt ct a ra (d + 3) 216 134 l [] S (.inl (some (.int q.1))) q.2 := by
  unfold J216_134 at e
  exact (
  M_of (fun _ _ H => r_aloadn c216_134 h0 <| r_iloadn c216_135 h3 <| H) <|
  t_bd e fun r17 c18 e19 =>
  M_cv (as := [.ref a, .int x3]) (st' := [.int r17.1]) (v := (some (.int r17.1))) c216_136 rfl ⟨Nat.le_of_ble_eq_true rfl, Nat.le_of_ble_eq_true rfl, Nat.le_of_ble_eq_true rfl⟩ rfl rfl (M213_ok (d := d) c18) (Nat.add_lt_add_left (by decide) d) <|
  t_if e19 (fun b20 e21 =>
    M_of (fun _ _ H => r_ifT c216_139 b20 <| H) <|
    M_of (fun _ _ H => r_iconst c216_146 <| H) <|
    J216_147_ok h0 e21
  ) (fun b20 e21 =>
    M_of (fun _ _ H => r_ifF c216_139 b20 <| H) <|
    J216_142_ok h0 e21
  ))
def J216_115 (N : Nat) (x1 : Int32) (x2 : Int32) (x3 : Int32) (s0 : Int32) (S : mS) : Option (Int32 × mS) :=
  bif mj_c1 .ne s0 then
    J216_134 N x3 S
  else
  (M205 N (S.1 26) x1 x2 S).bind fun r24 =>
  bif mj_c1 .ne r24.1 then
    J216_142 N r24.2
  else
  J216_134 N x3 r24.2
theorem J216_115_ok {xt : mj_X} {ct : Nat → Value} {a : Nat} {ra : Nat → Nat} {d N : Nat} {l : mj_L} {x1 : Int32} {x2 : Int32} {x3 : Int32} {s0 : Int32} {S : mS} {q : Int32 × mS} (h0 : mj_ld l 0 = some (.ref a)) (h1 : mj_ld l 1 = some (.int x1)) (h2 : mj_ld l 2 = some (.int x2)) (h3 : mj_ld l 3 = some (.int x3)) (e : J216_115 N x1 x2 x3 s0 S = some q) : MR xt ct a ra (d + 3) 216 115 l [.int s0] S (.inl (some (.int q.1))) q.2 := by
  unfold J216_115 at e
  exact (
  M_of (fun _ _ H => r_istore c216_115 <| r_iload c216_117 ld1_eq <| H) <|
  t_if e (fun b15 e16 =>
    M_of (fun _ _ H => r_ifT c216_119 b15 <| H) <|
    J216_134_ok (ld1_ne h0 (by decide) (Or.inl (by decide))) (ld1_ne h3 (by decide) (Or.inr rfl)) e16
  ) (fun b15 e16 =>
    M_of (fun _ _ H => r_ifF c216_119 b15 <| H) <|
    M_of (fun _ _ H => r_aloadn c216_122 (ld1_ne h0 (by decide) (Or.inl (by decide))) <| H) <|
    M_get (v := (S.1 26)) c216_123 (by decide) rfl <|
    M_of (fun _ _ H => r_iloadn c216_126 (ld1_ne h1 (by decide) (Or.inl (by decide))) <| r_iloadn c216_127 (ld1_ne h2 (by decide) (Or.inl (by decide))) <| H) <|
    t_bd e16 fun r24 c25 e26 =>
    M_cs (as := [.int (S.1 26), .int x1, .int x2]) (st' := [.int r24.1]) (v := (some (.int r24.1))) c216_128 ⟨Nat.le_of_ble_eq_true rfl, Nat.le_of_ble_eq_true rfl, Nat.le_of_ble_eq_true rfl⟩ rfl rfl (M205_ok (d := d) c25) (Nat.add_lt_add_left (by decide) d) <|
    t_if e26 (fun b27 e28 =>
      M_of (fun _ _ H => r_ifT c216_131 b27 <| H) <|
      J216_142_ok (ld1_ne h0 (by decide) (Or.inl (by decide))) e28
    ) (fun b27 e28 =>
      M_of (fun _ _ H => r_ifF c216_131 b27 <| H) <|
      J216_134_ok (ld1_ne h0 (by decide) (Or.inl (by decide))) (ld1_ne h3 (by decide) (Or.inr rfl)) e28
    )
  ))
def J216_114 (N : Nat) (x1 : Int32) (x2 : Int32) (x3 : Int32)  (S : mS) : Option (Int32 × mS) :=
  J216_115 N x1 x2 x3 0 S
theorem J216_114_ok {xt : mj_X} {ct : Nat → Value} {a : Nat} {ra : Nat → Nat} {d N : Nat} {l : mj_L} {x1 : Int32} {x2 : Int32} {x3 : Int32}  {S : mS} {q : Int32 × mS} (h0 : mj_ld l 0 = some (.ref a)) (h1 : mj_ld l 1 = some (.int x1)) (h2 : mj_ld l 2 = some (.int x2)) (h3 : mj_ld l 3 = some (.int x3)) (e : J216_114 N x1 x2 x3  S = some q) : MR xt ct a ra (d + 3) 216 114 l [] S (.inl (some (.int q.1))) q.2 := by
  unfold J216_114 at e
  exact (
  M_of (fun _ _ H => r_iconst c216_114 <| H) <|
  J216_115_ok h0 h1 h2 h3 e)
def J216_73 (N : Nat) (x1 : Int32) (x2 : Int32) (x3 : Int32) (s0 : Int32) (S : mS) : Option ((Int32 × Int32 × Int32 × mS) ⊕ (Int32 × mS)) :=
  some (.inl (x1, x2, x3, (m_sV (m_sV S 26 s0) 22 ((S.1 22) + 1))))
theorem J216_73_ok {xt : mj_X} {ct : Nat → Value} {a : Nat} {ra : Nat → Nat} {d N : Nat} {l : mj_L} {x1 : Int32} {x2 : Int32} {x3 : Int32} {s0 : Int32} {S : mS} {o : (Int32 × Int32 × Int32 × mS) ⊕ (Int32 × mS)} {q : Int32 × mS} (h0 : mj_ld l 0 = some (.ref a)) (h1 : mj_ld l 1 = some (.int x1)) (h2 : mj_ld l 2 = some (.int x2)) (h3 : mj_ld l 3 = some (.int x3)) (e : J216_73 N x1 x2 x3 s0 S = some o) (g : GG216_26 xt ct a ra d q o) : MR xt ct a ra (d + 3) 216 73 l [.int s0, .ref a] S (.inl (some (.int q.1))) q.2 := by
  unfold J216_73 at e
  exact (
  M_put c216_73 (by decide) <|
  M_of (fun _ _ H => r_aloadn c216_76 h0 <| r_dup c216_77 rfl <| H) <|
  M_get (v := (S.1 22)) c216_78 (by decide) rfl <|
  M_of (fun _ _ H => r_iconst c216_81 <| r_iadd c216_82 rfl <| H) <|
  M_put c216_83 (by decide) <|
  M_of (fun _ _ H => r_goto c216_86 <| H) <|
  t_rg e g (fun (e : LG216_26 xt ct a ra d q x1 x2 x3 (m_sV (m_sV S 26 s0) 22 ((S.1 22) + 1))) => e _ h0 h1 h2 h3))
def B216_26 (N : Nat) (s : Int32 × Int32 × Int32 × mS) : Option ((Int32 × Int32 × Int32 × mS) ⊕ (Int32 × mS)) :=
  (M217 N s.2.2.2).bind fun r6 =>
  bif mj_c1 .eq r6.1 then
    if 0 ≤ (s.2.2.1).toInt ∧ (s.2.2.1).toInt < mN 1 then
    bif mj_c2 .ne (r6.2.2.1 1 (s.2.2.1).toInt.toNat) 48 then
      (J216_114 N s.1 s.2.1 s.2.2.1 r6.2).map Sum.inr
    else
    bif mj_c2 .le ((r6.2.1 22) - s.2.2.1) 1 then
      (J216_114 N s.1 s.2.1 s.2.2.1 r6.2).map Sum.inr
    else
    (J216_115 N s.1 s.2.1 s.2.2.1 1 r6.2).map Sum.inr
    else none
  else
  (M212 N r6.2).bind fun r43 =>
  bif mj_c2 .le (((10 * (r6.2.1 26)) + r43.1) - 48) 1000 then
    J216_73 N s.1 s.2.1 s.2.2.1 (((10 * (r6.2.1 26)) + r43.1) - 48) (m_sV r43.2 26 (((10 * (r6.2.1 26)) + r43.1) - 48))
  else
  J216_73 N s.1 s.2.1 s.2.2.1 1000 (m_sV r43.2 26 (((10 * (r6.2.1 26)) + r43.1) - 48))
def L216_26 (N : Nat) (s : Int32 × Int32 × Int32 × mS) : Option (Int32 × mS) := t_lp (B216_26 N) N s
theorem B216_26_ok {xt : mj_X} {ct : Nat → Value} {a : Nat} {ra : Nat → Nat} {d N : Nat} {s : Int32 × Int32 × Int32 × mS} {o : (Int32 × Int32 × Int32 × mS) ⊕ (Int32 × mS)} {q : Int32 × mS} (e : B216_26 N s = some o) (g : GG216_26 xt ct a ra d q o) : LG216_26 xt ct a ra d q s.1 s.2.1 s.2.2.1 s.2.2.2 := by
  unfold B216_26 at e
  exact (fun l h0 h1 h2 h3 =>
  M_of (fun _ _ H => r_aloadn c216_26 h0 <| H) <|
  t_bd e fun r6 c7 e8 =>
  M_cv (as := [.ref a]) (st' := [.int r6.1]) (v := (some (.int r6.1))) c216_27 rfl ⟨Nat.le_of_ble_eq_true rfl, Nat.le_of_ble_eq_true rfl, Nat.le_of_ble_eq_true rfl⟩ rfl rfl (M217_ok (d := d) c7) (Nat.add_lt_add_left (by decide) d) <|
  t_if e8 (fun b9 e10 =>
    M_of (fun _ _ H => r_ifT c216_30 b9 <| H) <|
    M_of (fun _ _ H => r_aloadn c216_89 h0 <| H) <|
    M_geta (j := 1) c216_90 (by decide) <|
    M_of (fun _ _ H => r_iloadn c216_93 h3 <| H) <|
    t_ck e10 fun i11 e12 =>
    M_iald (j := 1) (v := (r6.2.2.1 1 (s.2.2.1).toInt.toNat)) c216_94 (by decide) i11 rfl <|
    M_of (fun _ _ H => r_bipush c216_95 <| H) <|
    t_if e12 (fun b13 e14 =>
      M_of (fun _ _ H => r_icmpT c216_97 b13 <| H) <|
      t_up e14 fun o29 e30 u31 =>
      (fun (g32 : o29 = q) =>
      by subst g32; exact (J216_114_ok h0 h1 h2 h3 e30)
      ) (by have := g; rw [u31] at this; exact this)
    ) (fun b13 e14 =>
      M_of (fun _ _ H => r_icmpF c216_97 b13 <| H) <|
      M_of (fun _ _ H => r_aloadn c216_100 h0 <| H) <|
      M_get (v := (r6.2.1 22)) c216_101 (by decide) rfl <|
      M_of (fun _ _ H => r_iloadn c216_104 h3 <| r_isub c216_105 rfl <| r_iconst c216_106 <| H) <|
      t_if e14 (fun b33 e34 =>
        M_of (fun _ _ H => r_icmpT c216_107 b33 <| H) <|
        t_up e34 fun o35 e36 u37 =>
        (fun (g38 : o35 = q) =>
        by subst g38; exact (J216_114_ok h0 h1 h2 h3 e36)
        ) (by have := g; rw [u37] at this; exact this)
      ) (fun b33 e34 =>
        M_of (fun _ _ H => r_icmpF c216_107 b33 <| H) <|
        M_of (fun _ _ H => r_iconst c216_110 <| r_goto c216_111 <| H) <|
        t_up e34 fun o39 e40 u41 =>
        (fun (g42 : o39 = q) =>
        by subst g42; exact (J216_115_ok h0 h1 h2 h3 e40)
        ) (by have := g; rw [u41] at this; exact this)
      )
    )
  ) (fun b9 e10 =>
    M_of (fun _ _ H => r_ifF c216_30 b9 <| H) <|
    M_of (fun _ _ H => r_aloadn c216_33 h0 <| r_bipush c216_34 <| r_aloadn c216_36 h0 <| H) <|
    M_get (v := (r6.2.1 26)) c216_37 (by decide) rfl <|
    M_of (fun _ _ H => r_imul c216_40 rfl <| r_aloadn c216_41 h0 <| H) <|
    t_bd e10 fun r43 c44 e45 =>
    M_cv (as := [.ref a]) (st' := [.int r43.1, .int (10 * (r6.2.1 26)), .ref a]) (v := (some (.int r43.1))) c216_42 rfl ⟨Nat.le_of_ble_eq_true rfl, Nat.le_of_ble_eq_true rfl, Nat.le_of_ble_eq_true rfl⟩ rfl rfl (M212_ok (d := d) c44) (Nat.add_lt_add_left (by decide) d) <|
    M_of (fun _ _ H => r_iadd c216_45 rfl <| r_bipush c216_46 <| r_isub c216_48 rfl <| H) <|
    M_put c216_49 (by decide) <|
    M_of (fun _ _ H => r_aloadn c216_52 h0 <| r_aloadn c216_53 h0 <| H) <|
    M_get (v := (((10 * (r6.2.1 26)) + r43.1) - 48)) c216_54 (by decide) rfl <|
    M_of (fun _ _ H => r_sipush c216_57 <| H) <|
    t_if e45 (fun b46 e47 =>
      M_of (fun _ _ H => r_icmpT c216_60 b46 <| H) <|
      M_of (fun _ _ H => r_aloadn c216_69 h0 <| H) <|
      M_get (v := (((10 * (r6.2.1 26)) + r43.1) - 48)) c216_70 (by decide) rfl <|
      J216_73_ok h0 h1 h2 h3 e47 g
    ) (fun b46 e47 =>
      M_of (fun _ _ H => r_icmpF c216_60 b46 <| H) <|
      M_of (fun _ _ H => r_sipush c216_63 <| r_goto c216_66 <| H) <|
      J216_73_ok h0 h1 h2 h3 e47 g
    )
  ))
theorem L216_26_ok {xt : mj_X} {ct : Nat → Value} {a : Nat} {ra : Nat → Nat} {d N : Nat} {x1 : Int32} {x2 : Int32} {x3 : Int32} {S : mS} {q : Int32 × mS} (e : L216_26 N (x1, x2, x3, S) = some q) : LG216_26 xt ct a ra d q x1 x2 x3 S :=
  t_lp_ok (G := fun s => LG216_26 xt ct a ra d q s.1 s.2.1 s.2.2.1 s.2.2.2) (fun s s' e g => B216_26_ok e (by obtain ⟨_, _, _, _⟩ := s'; exact g)) (fun s e => B216_26_ok e rfl) N (x1, x2, x3, S) e
/-- number(II)Z -/
def M216 (N : Nat) (x1 : Int32) (x2 : Int32) (S : mS) : Option (Int32 × mS) :=
  (M217 N S).bind fun r1 =>
  bif mj_c1 .ne r1.1 then
    L216_26 N (x1, x2, (S.1 22), (m_sV r1.2 26 0))
  else
  (M213 N (r1.2.1 22) r1.2).bind fun r48 =>
  if r48.1 = 0 ∨ r48.1 = 1 then
  some (r48.1, r48.2)
  else none
theorem M216_ok {xt : mj_X} {ct : Nat → Value} {a : Nat} {ra : Nat → Nat} {d N : Nat} {x1 : Int32} {x2 : Int32} {S : mS} {q : Int32 × mS} (e : M216 N x1 x2 S = some q) : MR xt ct a ra (d + 3) 216 0 (lv_args 0 [.ref a, .int x1, .int x2]) [] S (.inl (some (.int q.1))) q.2 := by
  unfold M216 at e
  exact (
  M_of (fun _ _ H => r_aloadn c216_0 rfl <| H) <|
  M_get (v := (S.1 22)) c216_1 (by decide) rfl <|
  M_of (fun _ _ H => r_istoren c216_4 <| r_aloadn c216_5 (ld1_ne rfl (by decide) (Or.inl (by decide))) <| H) <|
  t_bd e fun r1 c2 e3 =>
  M_cv (as := [.ref a]) (st' := [.int r1.1]) (v := (some (.int r1.1))) c216_6 rfl ⟨Nat.le_of_ble_eq_true rfl, Nat.le_of_ble_eq_true rfl, Nat.le_of_ble_eq_true rfl⟩ rfl rfl (M217_ok (d := d) c2) (Nat.add_lt_add_left (by decide) d) <|
  t_if e3 (fun b4 e5 =>
    M_of (fun _ _ H => r_ifT c216_9 b4 <| H) <|
    M_of (fun _ _ H => r_aloadn c216_21 (ld1_ne rfl (by decide) (Or.inl (by decide))) <| r_iconst c216_22 <| H) <|
    M_put c216_23 (by decide) <|
    L216_26_ok e5 _ (ld1_ne rfl (by decide) (Or.inl (by decide))) (ld1_ne rfl (by decide) (Or.inl (by decide))) (ld1_ne rfl (by decide) (Or.inr rfl)) ld1_eq
  ) (fun b4 e5 =>
    M_of (fun _ _ H => r_ifF c216_9 b4 <| H) <|
    M_of (fun _ _ H => r_aloadn c216_12 (ld1_ne rfl (by decide) (Or.inl (by decide))) <| r_aloadn c216_13 (ld1_ne rfl (by decide) (Or.inl (by decide))) <| H) <|
    M_get (v := (r1.2.1 22)) c216_14 (by decide) rfl <|
    t_bd e5 fun r48 c49 e50 =>
    M_cv (as := [.ref a, .int (r1.2.1 22)]) (st' := [.int r48.1]) (v := (some (.int r48.1))) c216_17 rfl ⟨Nat.le_of_ble_eq_true rfl, Nat.le_of_ble_eq_true rfl, Nat.le_of_ble_eq_true rfl⟩ rfl rfl (M213_ok (d := d) c49) (Nat.add_lt_add_left (by decide) d) <|
    t_ck e50 fun z51 e52 =>
    M_ri (Option.some.inj e52) (fun _ => r_iret c216_20 (m_z1 z51))
  ))
def J218_17 (N : Nat)   (S : mS) : Option (Int32 × mS) :=
  (M213 N (S.1 22) S).bind fun r6 =>
  if r6.1 = 0 ∨ r6.1 = 1 then
  some (r6.1, r6.2)
  else none
theorem J218_17_ok {xt : mj_X} {ct : Nat → Value} {a : Nat} {ra : Nat → Nat} {d N : Nat} {l : mj_L}   {S : mS} {q : Int32 × mS} (h0 : mj_ld l 0 = some (.ref a)) (e : J218_17 N   S = some q) : MR xt ct a ra (d + 2) 218 17 l [] S (.inl (some (.int q.1))) q.2 := by
  unfold J218_17 at e
  exact (
  M_of (fun _ _ H => r_aloadn c218_17 h0 <| r_aloadn c218_18 h0 <| H) <|
  M_get (v := (S.1 22)) c218_19 (by decide) rfl <|
  t_bd e fun r6 c7 e8 =>
  M_cv (as := [.ref a, .int (S.1 22)]) (st' := [.int r6.1]) (v := (some (.int r6.1))) c218_22 rfl ⟨Nat.le_of_ble_eq_true rfl, Nat.le_of_ble_eq_true rfl, Nat.le_of_ble_eq_true rfl⟩ rfl rfl (M213_ok (d := d) c7) (Nat.add_lt_add_left (by decide) d) <|
  t_ck e8 fun z9 e10 =>
  M_ri (Option.some.inj e10) (fun _ => r_iret c218_25 (m_z1 z9)))
/-- enter(IZ)Z -/
def M218 (N : Nat) (x1 : Int32) (x2 : Int32) (S : mS) : Option (Int32 × mS) :=
  (M212 N S).bind fun r1 =>
  bif mj_c2 .ne r1.1 123 then
    J218_17 N r1.2
  else
  bif mj_c2 .ne (r1.2.1 36) 4 then
    if 0 ≤ ((r1.2.1 36)).toInt ∧ ((r1.2.1 36)).toInt < mN 34 then
    if 0 ≤ ((r1.2.1 36)).toInt ∧ ((r1.2.1 36)).toInt < mN 35 then
    if x2 = 0 ∨ x2 = 1 then
    some (1, (m_sV (m_sA (m_sA (m_sV r1.2 22 ((r1.2.1 22) + 1)) 34 ((r1.2.1 36)).toInt.toNat x1) 35 ((r1.2.1 36)).toInt.toNat x2) 36 ((r1.2.1 36) + 1)))
    else none
    else none
    else none
  else
  J218_17 N r1.2
theorem M218_ok {xt : mj_X} {ct : Nat → Value} {a : Nat} {ra : Nat → Nat} {d N : Nat} {x1 : Int32} {x2 : Int32} {S : mS} {q : Int32 × mS} (e : M218 N x1 x2 S = some q) : MR xt ct a ra (d + 2) 218 0 (lv_args 0 [.ref a, .int x1, .int x2]) [] S (.inl (some (.int q.1))) q.2 := by
  unfold M218 at e
  exact (
  M_of (fun _ _ H => r_aloadn c218_0 rfl <| H) <|
  t_bd e fun r1 c2 e3 =>
  M_cv (as := [.ref a]) (st' := [.int r1.1]) (v := (some (.int r1.1))) c218_1 rfl ⟨Nat.le_of_ble_eq_true rfl, Nat.le_of_ble_eq_true rfl, Nat.le_of_ble_eq_true rfl⟩ rfl rfl (M212_ok (d := d) c2) (Nat.add_lt_add_left (by decide) d) <|
  M_of (fun _ _ H => r_bipush c218_4 <| H) <|
  t_if e3 (fun b4 e5 =>
    M_of (fun _ _ H => r_icmpT c218_6 b4 <| H) <|
    J218_17_ok rfl e5
  ) (fun b4 e5 =>
    M_of (fun _ _ H => r_icmpF c218_6 b4 <| H) <|
    M_of (fun _ _ H => r_aloadn c218_9 rfl <| H) <|
    M_get (v := (r1.2.1 36)) c218_10 (by decide) rfl <|
    M_of (fun _ _ H => r_iconst c218_13 <| H) <|
    t_if e5 (fun b11 e12 =>
      M_of (fun _ _ H => r_icmpT c218_14 b11 <| H) <|
      M_of (fun _ _ H => r_aloadn c218_26 rfl <| r_dup c218_27 rfl <| H) <|
      M_get (v := (r1.2.1 22)) c218_28 (by decide) rfl <|
      M_of (fun _ _ H => r_iconst c218_31 <| r_iadd c218_32 rfl <| H) <|
      M_put c218_33 (by decide) <|
      M_of (fun _ _ H => r_aloadn c218_36 rfl <| H) <|
      M_geta (j := 34) c218_37 (by decide) <|
      M_of (fun _ _ H => r_aloadn c218_40 rfl <| H) <|
      M_get (v := (r1.2.1 36)) c218_41 (by decide) rfl <|
      M_of (fun _ _ H => r_iloadn c218_44 rfl <| H) <|
      t_ck e12 fun i13 e14 =>
      M_iast (j := 34) c218_45 (by decide) i13 <|
      M_of (fun _ _ H => r_aloadn c218_46 rfl <| H) <|
      M_geta (j := 35) c218_47 (by decide) <|
      M_of (fun _ _ H => r_aloadn c218_50 rfl <| H) <|
      M_get (v := (r1.2.1 36)) c218_51 (by decide) rfl <|
      M_of (fun _ _ H => r_iloadn c218_54 rfl <| H) <|
      t_ck e14 fun i15 e16 =>
      t_ck e16 fun i17 e18 =>
      M_zast (j := 35) c218_55 (by decide) i15 i17 <|
      M_of (fun _ _ H => r_aloadn c218_56 rfl <| r_dup c218_57 rfl <| H) <|
      M_get (v := (r1.2.1 36)) c218_58 (by decide) rfl <|
      M_of (fun _ _ H => r_iconst c218_61 <| r_iadd c218_62 rfl <| H) <|
      M_put c218_63 (by decide) <|
      M_of (fun _ _ H => r_iconst c218_66 <| H) <|
      M_ri (Option.some.inj e18) (fun _ => r_iret c218_67 rfl)
    ) (fun b11 e12 =>
      M_of (fun _ _ H => r_icmpF c218_14 b11 <| H) <|
      J218_17_ok rfl e12
    )
  ))
/-- want(I)Z -/
def M219 (N : Nat) (x1 : Int32) (S : mS) : Option (Int32 × mS) :=
  (M212 N S).bind fun r1 =>
  bif mj_c2 .eq r1.1 x1 then
    some (1, (m_sV r1.2 22 ((r1.2.1 22) + 1)))
  else
  (M213 N (r1.2.1 22) r1.2).bind fun r6 =>
  if r6.1 = 0 ∨ r6.1 = 1 then
  some (r6.1, r6.2)
  else none
theorem M219_ok {xt : mj_X} {ct : Nat → Value} {a : Nat} {ra : Nat → Nat} {d N : Nat} {x1 : Int32} {S : mS} {q : Int32 × mS} (e : M219 N x1 S = some q) : MR xt ct a ra (d + 2) 219 0 (lv_args 0 [.ref a, .int x1]) [] S (.inl (some (.int q.1))) q.2 := by
  unfold M219 at e
  exact (
  M_of (fun _ _ H => r_aloadn c219_0 rfl <| H) <|
  t_bd e fun r1 c2 e3 =>
  M_cv (as := [.ref a]) (st' := [.int r1.1]) (v := (some (.int r1.1))) c219_1 rfl ⟨Nat.le_of_ble_eq_true rfl, Nat.le_of_ble_eq_true rfl, Nat.le_of_ble_eq_true rfl⟩ rfl rfl (M212_ok (d := d) c2) (Nat.add_lt_add_left (by decide) d) <|
  M_of (fun _ _ H => r_iloadn c219_4 rfl <| H) <|
  t_if e3 (fun b4 e5 =>
    M_of (fun _ _ H => r_icmpT c219_5 b4 <| H) <|
    M_of (fun _ _ H => r_aloadn c219_17 rfl <| r_dup c219_18 rfl <| H) <|
    M_get (v := (r1.2.1 22)) c219_19 (by decide) rfl <|
    M_of (fun _ _ H => r_iconst c219_22 <| r_iadd c219_23 rfl <| H) <|
    M_put c219_24 (by decide) <|
    M_of (fun _ _ H => r_iconst c219_27 <| H) <|
    M_ri (Option.some.inj e5) (fun _ => r_iret c219_28 rfl)
  ) (fun b4 e5 =>
    M_of (fun _ _ H => r_icmpF c219_5 b4 <| H) <|
    M_of (fun _ _ H => r_aloadn c219_8 rfl <| r_aloadn c219_9 rfl <| H) <|
    M_get (v := (r1.2.1 22)) c219_10 (by decide) rfl <|
    t_bd e5 fun r6 c7 e8 =>
    M_cv (as := [.ref a, .int (r1.2.1 22)]) (st' := [.int r6.1]) (v := (some (.int r6.1))) c219_13 rfl ⟨Nat.le_of_ble_eq_true rfl, Nat.le_of_ble_eq_true rfl, Nat.le_of_ble_eq_true rfl⟩ rfl rfl (M213_ok (d := d) c7) (Nat.add_lt_add_left (by decide) d) <|
    t_ck e8 fun z9 e10 =>
    M_ri (Option.some.inj e10) (fun _ => r_iret c219_16 (m_z1 z9))
  ))
/-- push(I)V -/
def M222 (N : Nat) (x1 : Int32) (S : mS) : Option (mS) :=
  if 0 ≤ ((S.1 29)).toInt ∧ ((S.1 29)).toInt < mN 27 then
  if 0 ≤ ((S.1 29)).toInt ∧ ((S.1 29)).toInt < mN 28 then
  if (S.1 31) = 0 ∨ (S.1 31) = 1 then
  some (m_sV (m_sA (m_sA S 27 ((S.1 29)).toInt.toNat x1) 28 ((S.1 29)).toInt.toNat (S.1 31)) 29 ((S.1 29) + 1))
  else none
  else none
  else none
theorem M222_ok {xt : mj_X} {ct : Nat → Value} {a : Nat} {ra : Nat → Nat} {d N : Nat} {x1 : Int32} {S : mS} {q : mS} (e : M222 N x1 S = some q) : MR xt ct a ra (d + 1) 222 0 (lv_args 0 [.ref a, .int x1]) [] S (.inl none) q := by
  unfold M222 at e
  exact (
  M_of (fun _ _ H => r_aloadn c222_0 rfl <| H) <|
  M_geta (j := 27) c222_1 (by decide) <|
  M_of (fun _ _ H => r_aloadn c222_4 rfl <| H) <|
  M_get (v := (S.1 29)) c222_5 (by decide) rfl <|
  M_of (fun _ _ H => r_iloadn c222_8 rfl <| H) <|
  t_ck e fun i1 e2 =>
  M_iast (j := 27) c222_9 (by decide) i1 <|
  M_of (fun _ _ H => r_aloadn c222_10 rfl <| H) <|
  M_geta (j := 28) c222_11 (by decide) <|
  M_of (fun _ _ H => r_aloadn c222_14 rfl <| H) <|
  M_get (v := (S.1 29)) c222_15 (by decide) rfl <|
  M_of (fun _ _ H => r_aloadn c222_18 rfl <| H) <|
  M_get (v := (S.1 31)) c222_19 (by decide) rfl <|
  t_ck e2 fun i3 e4 =>
  t_ck e4 fun i5 e6 =>
  M_zast (j := 28) c222_22 (by decide) i3 i5 <|
  M_of (fun _ _ H => r_aloadn c222_23 rfl <| r_dup c222_24 rfl <| H) <|
  M_get (v := (S.1 29)) c222_25 (by decide) rfl <|
  M_of (fun _ _ H => r_iconst c222_28 <| r_iadd c222_29 rfl <| H) <|
  M_put c222_30 (by decide) <|
  M_rv (Option.some.inj e6) (fun _ => r_ret c222_33))
/-- node(IIIII)V -/
def M224 (N : Nat) (x1 : Int32) (x2 : Int32) (x3 : Int32) (x4 : Int32) (x5 : Int32) (S : mS) : Option (mS) :=
  if 0 ≤ ((480 + (S.1 23))).toInt ∧ ((480 + (S.1 23))).toInt < mN 13 then
  if 0 ≤ ((480 + (S.1 23))).toInt ∧ ((480 + (S.1 23))).toInt < mN 14 then
  if 0 ≤ ((480 + (S.1 23))).toInt ∧ ((480 + (S.1 23))).toInt < mN 15 then
  if 0 ≤ ((480 + (S.1 23))).toInt ∧ ((480 + (S.1 23))).toInt < mN 16 then
  if 0 ≤ ((480 + (S.1 23))).toInt ∧ ((480 + (S.1 23))).toInt < mN 17 then
  if 0 ≤ ((480 + (S.1 23))).toInt ∧ ((480 + (S.1 23))).toInt < mN 18 then
  if 0 ≤ ((480 + (S.1 23))).toInt ∧ ((480 + (S.1 23))).toInt < mN 19 then
  if 0 ≤ ((S.1 33)).toInt ∧ ((S.1 33)).toInt < mN 32 then
  some (m_sV (m_sV (m_sA (m_sA (m_sA (m_sA (m_sA (m_sA (m_sA (m_sA S 13 ((480 + (S.1 23))).toInt.toNat x1) 14 ((480 + (S.1 23))).toInt.toNat x2) 15 ((480 + (S.1 23))).toInt.toNat x3) 16 ((480 + (S.1 23))).toInt.toNat x4) 17 ((480 + (S.1 23))).toInt.toNat x5) 18 ((480 + (S.1 23))).toInt.toNat (-1)) 19 ((480 + (S.1 23))).toInt.toNat (-1)) 32 ((S.1 33)).toInt.toNat (S.1 23)) 33 ((S.1 33) + 1)) 23 ((S.1 23) + 1))
  else none
  else none
  else none
  else none
  else none
  else none
  else none
  else none
theorem M224_ok {xt : mj_X} {ct : Nat → Value} {a : Nat} {ra : Nat → Nat} {d N : Nat} {x1 : Int32} {x2 : Int32} {x3 : Int32} {x4 : Int32} {x5 : Int32} {S : mS} {q : mS} (e : M224 N x1 x2 x3 x4 x5 S = some q) : MR xt ct a ra (d + 1) 224 0 (lv_args 0 [.ref a, .int x1, .int x2, .int x3, .int x4, .int x5]) [] S (.inl none) q := by
  unfold M224 at e
  exact (
  M_of (fun _ _ H => r_sipush c224_0 <| r_aloadn c224_3 rfl <| H) <|
  M_get (v := (S.1 23)) c224_4 (by decide) rfl <|
  M_of (fun _ _ H => r_iadd c224_7 rfl <| r_istore c224_8 <| r_aloadn c224_10 (ld1_ne rfl (by decide) (Or.inl (by decide))) <| H) <|
  M_geta (j := 13) c224_11 (by decide) <|
  M_of (fun _ _ H => r_iload c224_14 ld1_eq <| r_iloadn c224_16 (ld1_ne rfl (by decide) (Or.inl (by decide))) <| H) <|
  t_ck e fun i1 e2 =>
  M_iast (j := 13) c224_17 (by decide) i1 <|
  M_of (fun _ _ H => r_aloadn c224_18 (ld1_ne rfl (by decide) (Or.inl (by decide))) <| H) <|
  M_geta (j := 14) c224_19 (by decide) <|
  M_of (fun _ _ H => r_iload c224_22 ld1_eq <| r_iloadn c224_24 (ld1_ne rfl (by decide) (Or.inl (by decide))) <| H) <|
  t_ck e2 fun i3 e4 =>
  M_iast (j := 14) c224_25 (by decide) i3 <|
  M_of (fun _ _ H => r_aloadn c224_26 (ld1_ne rfl (by decide) (Or.inl (by decide))) <| H) <|
  M_geta (j := 15) c224_27 (by decide) <|
  M_of (fun _ _ H => r_iload c224_30 ld1_eq <| r_iloadn c224_32 (ld1_ne rfl (by decide) (Or.inl (by decide))) <| H) <|
  t_ck e4 fun i5 e6 =>
  M_iast (j := 15) c224_33 (by decide) i5 <|
  M_of (fun _ _ H => r_aloadn c224_34 (ld1_ne rfl (by decide) (Or.inl (by decide))) <| H) <|
  M_geta (j := 16) c224_35 (by decide) <|
  M_of (fun _ _ H => r_iload c224_38 ld1_eq <| r_iload c224_40 (ld1_ne rfl (by decide) (Or.inl (by decide))) <| H) <|
  t_ck e6 fun i7 e8 =>
  M_iast (j := 16) c224_42 (by decide) i7 <|
  M_of (fun _ _ H => r_aloadn c224_43 (ld1_ne rfl (by decide) (Or.inl (by decide))) <| H) <|
  M_geta (j := 17) c224_44 (by decide) <|
  M_of (fun _ _ H => r_iload c224_47 ld1_eq <| r_iload c224_49 (ld1_ne rfl (by decide) (Or.inr rfl)) <| H) <|
  t_ck e8 fun i9 e10 =>
  M_iast (j := 17) c224_51 (by decide) i9 <|
  M_of (fun _ _ H => r_aloadn c224_52 (ld1_ne rfl (by decide) (Or.inl (by decide))) <| H) <|
  M_geta (j := 18) c224_53 (by decide) <|
  M_of (fun _ _ H => r_iload c224_56 ld1_eq <| r_iconst c224_58 <| H) <|
  t_ck e10 fun i11 e12 =>
  M_iast (j := 18) c224_59 (by decide) i11 <|
  M_of (fun _ _ H => r_aloadn c224_60 (ld1_ne rfl (by decide) (Or.inl (by decide))) <| H) <|
  M_geta (j := 19) c224_61 (by decide) <|
  M_of (fun _ _ H => r_iload c224_64 ld1_eq <| r_iconst c224_66 <| H) <|
  t_ck e12 fun i13 e14 =>
  M_iast (j := 19) c224_67 (by decide) i13 <|
  M_of (fun _ _ H => r_aloadn c224_68 (ld1_ne rfl (by decide) (Or.inl (by decide))) <| H) <|
  M_geta (j := 32) c224_69 (by decide) <|
  M_of (fun _ _ H => r_aloadn c224_72 (ld1_ne rfl (by decide) (Or.inl (by decide))) <| H) <|
  M_get (v := (S.1 33)) c224_73 (by decide) rfl <|
  M_of (fun _ _ H => r_aloadn c224_76 (ld1_ne rfl (by decide) (Or.inl (by decide))) <| H) <|
  M_get (v := (S.1 23)) c224_77 (by decide) rfl <|
  t_ck e14 fun i15 e16 =>
  M_iast (j := 32) c224_80 (by decide) i15 <|
  M_of (fun _ _ H => r_aloadn c224_81 (ld1_ne rfl (by decide) (Or.inl (by decide))) <| r_dup c224_82 rfl <| H) <|
  M_get (v := (S.1 33)) c224_83 (by decide) rfl <|
  M_of (fun _ _ H => r_iconst c224_86 <| r_iadd c224_87 rfl <| H) <|
  M_put c224_88 (by decide) <|
  M_of (fun _ _ H => r_aloadn c224_91 (ld1_ne rfl (by decide) (Or.inl (by decide))) <| r_dup c224_92 rfl <| H) <|
  M_get (v := (S.1 23)) c224_93 (by decide) rfl <|
  M_of (fun _ _ H => r_iconst c224_96 <| r_iadd c224_97 rfl <| H) <|
  M_put c224_98 (by decide) <|
  M_rv (Option.some.inj e16) (fun _ => r_ret c224_101))
def LG225_7 (xt : mj_X) (ct : Nat → Value) (a : Nat) (ra : Nat → Nat) (d : Nat) (q : Int32 × mS) (x1 : Int32) (x2 : Int32) (S : mS) : Prop := ∀ l, mj_ld l 0 = some (.ref a) → mj_ld l 1 = some (.int x1) → mj_ld l 2 = some (.int x2) → MR xt ct a ra (d + 4) 225 7 l [] S (.inl (some (.int q.1))) q.2
def GG225_7 (xt : mj_X) (ct : Nat → Value) (a : Nat) (ra : Nat → Nat) (d : Nat) (q : Int32 × mS) (o : (Int32 × Int32 × mS) ⊕ (Int32 × mS)) : Prop := match o with
  | .inl (x1, x2, S) => LG225_7 xt ct a ra d q x1 x2 S
  | .inr r => r = q
def J225_95 (N : Nat) (x1 : Int32) (s0 : Int32) (S : mS) : Option ((Int32 × Int32 × mS) ⊕ (Int32 × mS)) :=
  some (.inl (x1, s0, S))
theorem J225_95_ok {xt : mj_X} {ct : Nat → Value} {a : Nat} {ra : Nat → Nat} {d N : Nat} {l : mj_L} {x1 : Int32} {s0 : Int32} {S : mS} {o : (Int32 × Int32 × mS) ⊕ (Int32 × mS)} {q : Int32 × mS} (h0 : mj_ld l 0 = some (.ref a)) (h1 : mj_ld l 1 = some (.int x1)) (e : J225_95 N x1 s0 S = some o) (g : GG225_7 xt ct a ra d q o) : MR xt ct a ra (d + 4) 225 95 l [.int s0] S (.inl (some (.int q.1))) q.2 := by
  unfold J225_95 at e
  exact (
  M_of (fun _ _ H => r_istoren c225_95 <| r_goto c225_96 <| H) <|
  t_rg e g (fun (e : LG225_7 xt ct a ra d q x1 s0 S) => e _ (ld1_ne h0 (by decide) (Or.inl (by decide))) (ld1_ne h1 (by decide) (Or.inr rfl)) ld1_eq))
def B225_7 (N : Nat) (s : Int32 × Int32 × mS) : Option ((Int32 × Int32 × mS) ⊕ (Int32 × mS)) :=
  bif mj_c1 .eq s.2.1 then
    (M224 N 5 s.1 ((s.2.2.1 25) - s.1) 0 0 s.2.2).bind fun r3 =>
    (M219 N 93 r3).bind fun r6 =>
    if r6.1 = 0 ∨ r6.1 = 1 then
    some (.inr (r6.1, r6.2))
    else none
  else
  bif mj_c2 .ne ((s.2.2.1 25) - s.1) 8 then
    (M216 N 0 999 (m_sV s.2.2 22 ((s.2.2.1 22) + 1))).bind fun r13 =>
    bif mj_c1 .ne r13.1 then
      if 0 ≤ ((480 + (r13.2.1 25))).toInt ∧ ((480 + (r13.2.1 25))).toInt < mN 20 then
      (M212 N (m_sV (m_sA r13.2 20 ((480 + (r13.2.1 25))).toInt.toNat (r13.2.1 26)) 25 ((r13.2.1 25) + 1))).bind fun r20 =>
      bif mj_c2 .ne r20.1 44 then
        J225_95 N s.1 0 r20.2
      else
      J225_95 N s.1 1 r20.2
      else none
    else
    some (.inr (0, r13.2))
  else
  (M213 N (s.2.2.1 22) s.2.2).bind fun r25 =>
  if r25.1 = 0 ∨ r25.1 = 1 then
  some (.inr (r25.1, r25.2))
  else none
def L225_7 (N : Nat) (s : Int32 × Int32 × mS) : Option (Int32 × mS) := t_lp (B225_7 N) N s
theorem B225_7_ok {xt : mj_X} {ct : Nat → Value} {a : Nat} {ra : Nat → Nat} {d N : Nat} {s : Int32 × Int32 × mS} {o : (Int32 × Int32 × mS) ⊕ (Int32 × mS)} {q : Int32 × mS} (e : B225_7 N s = some o) (g : GG225_7 xt ct a ra d q o) : LG225_7 xt ct a ra d q s.1 s.2.1 s.2.2 := by
  unfold B225_7 at e
  exact (fun l h0 h1 h2 =>
  M_of (fun _ _ H => r_iloadn c225_7 h2 <| H) <|
  t_if e (fun b1 e2 =>
    M_of (fun _ _ H => r_ifT c225_8 b1 <| H) <|
    M_of (fun _ _ H => r_aloadn c225_99 h0 <| r_iconst c225_100 <| r_iloadn c225_101 h1 <| r_aloadn c225_102 h0 <| H) <|
    M_get (v := (s.2.2.1 25)) c225_103 (by decide) rfl <|
    M_of (fun _ _ H => r_iloadn c225_106 h1 <| r_isub c225_107 rfl <| r_iconst c225_108 <| r_iconst c225_109 <| H) <|
    t_bd e2 fun r3 c4 e5 =>
    M_cv (as := [.ref a, .int 5, .int s.1, .int ((s.2.2.1 25) - s.1), .int 0, .int 0]) (st' := []) (v := none) c225_110 rfl ⟨Nat.le_of_ble_eq_true rfl, Nat.le_of_ble_eq_true rfl, Nat.le_of_ble_eq_true rfl⟩ rfl rfl (M224_ok (d := d) c4) (Nat.add_lt_add_left (by decide) d) <|
    M_of (fun _ _ H => r_aloadn c225_113 h0 <| r_bipush c225_114 <| H) <|
    t_bd e5 fun r6 c7 e8 =>
    M_cv (as := [.ref a, .int 93]) (st' := [.int r6.1]) (v := (some (.int r6.1))) c225_116 rfl ⟨Nat.le_of_ble_eq_true rfl, Nat.le_of_ble_eq_true rfl, Nat.le_of_ble_eq_true rfl⟩ rfl rfl (M219_ok (d := d) c7) (Nat.add_lt_add_left (by decide) d) <|
    t_ck e8 fun z9 e10 =>
    t_rg e10 g (fun (e : (r6.1, r6.2) = q) => M_ri (e) (fun _ => r_iret c225_119 (m_z1 z9)))
  ) (fun b1 e2 =>
    M_of (fun _ _ H => r_ifF c225_8 b1 <| H) <|
    M_of (fun _ _ H => r_aloadn c225_11 h0 <| H) <|
    M_get (v := (s.2.2.1 25)) c225_12 (by decide) rfl <|
    M_of (fun _ _ H => r_iloadn c225_15 h1 <| r_isub c225_16 rfl <| r_bipush c225_17 <| H) <|
    t_if e2 (fun b11 e12 =>
      M_of (fun _ _ H => r_icmpT c225_19 b11 <| H) <|
      M_of (fun _ _ H => r_aloadn c225_31 h0 <| r_dup c225_32 rfl <| H) <|
      M_get (v := (s.2.2.1 22)) c225_33 (by decide) rfl <|
      M_of (fun _ _ H => r_iconst c225_36 <| r_iadd c225_37 rfl <| H) <|
      M_put c225_38 (by decide) <|
      M_of (fun _ _ H => r_aloadn c225_41 h0 <| r_iconst c225_42 <| r_sipush c225_43 <| H) <|
      t_bd e12 fun r13 c14 e15 =>
      M_cv (as := [.ref a, .int 0, .int 999]) (st' := [.int r13.1]) (v := (some (.int r13.1))) c225_46 rfl ⟨Nat.le_of_ble_eq_true rfl, Nat.le_of_ble_eq_true rfl, Nat.le_of_ble_eq_true rfl⟩ rfl rfl (M216_ok (d := d) c14) (Nat.add_lt_add_left (by decide) d) <|
      t_if e15 (fun b16 e17 =>
        M_of (fun _ _ H => r_ifT c225_49 b16 <| H) <|
        M_of (fun _ _ H => r_aloadn c225_54 h0 <| H) <|
        M_geta (j := 20) c225_55 (by decide) <|
        M_of (fun _ _ H => r_sipush c225_58 <| r_aloadn c225_61 h0 <| H) <|
        M_get (v := (r13.2.1 25)) c225_62 (by decide) rfl <|
        M_of (fun _ _ H => r_iadd c225_65 rfl <| r_aloadn c225_66 h0 <| H) <|
        M_get (v := (r13.2.1 26)) c225_67 (by decide) rfl <|
        t_ck e17 fun i18 e19 =>
        M_iast (j := 20) c225_70 (by decide) i18 <|
        M_of (fun _ _ H => r_aloadn c225_71 h0 <| r_dup c225_72 rfl <| H) <|
        M_get (v := (r13.2.1 25)) c225_73 (by decide) rfl <|
        M_of (fun _ _ H => r_iconst c225_76 <| r_iadd c225_77 rfl <| H) <|
        M_put c225_78 (by decide) <|
        M_of (fun _ _ H => r_aloadn c225_81 h0 <| H) <|
        t_bd e19 fun r20 c21 e22 =>
        M_cv (as := [.ref a]) (st' := [.int r20.1]) (v := (some (.int r20.1))) c225_82 rfl ⟨Nat.le_of_ble_eq_true rfl, Nat.le_of_ble_eq_true rfl, Nat.le_of_ble_eq_true rfl⟩ rfl rfl (M212_ok (d := d) c21) (Nat.add_lt_add_left (by decide) d) <|
        M_of (fun _ _ H => r_bipush c225_85 <| H) <|
        t_if e22 (fun b23 e24 =>
          M_of (fun _ _ H => r_icmpT c225_87 b23 <| H) <|
          M_of (fun _ _ H => r_iconst c225_94 <| H) <|
          J225_95_ok h0 h1 e24 g
        ) (fun b23 e24 =>
          M_of (fun _ _ H => r_icmpF c225_87 b23 <| H) <|
          M_of (fun _ _ H => r_iconst c225_90 <| r_goto c225_91 <| H) <|
          J225_95_ok h0 h1 e24 g
        )
      ) (fun b16 e17 =>
        M_of (fun _ _ H => r_ifF c225_49 b16 <| H) <|
        M_of (fun _ _ H => r_iconst c225_52 <| H) <|
        t_rg e17 g (fun (e : (0, r13.2) = q) => M_ri (e) (fun _ => r_iret c225_53 rfl))
      )
    ) (fun b11 e12 =>
      M_of (fun _ _ H => r_icmpF c225_19 b11 <| H) <|
      M_of (fun _ _ H => r_aloadn c225_22 h0 <| r_aloadn c225_23 h0 <| H) <|
      M_get (v := (s.2.2.1 22)) c225_24 (by decide) rfl <|
      t_bd e12 fun r25 c26 e27 =>
      M_cv (as := [.ref a, .int (s.2.2.1 22)]) (st' := [.int r25.1]) (v := (some (.int r25.1))) c225_27 rfl ⟨Nat.le_of_ble_eq_true rfl, Nat.le_of_ble_eq_true rfl, Nat.le_of_ble_eq_true rfl⟩ rfl rfl (M213_ok (d := d) c26) (Nat.add_lt_add_left (by decide) d) <|
      t_ck e27 fun z28 e29 =>
      t_rg e29 g (fun (e : (r25.1, r25.2) = q) => M_ri (e) (fun _ => r_iret c225_30 (m_z1 z28)))
    )
  ))
theorem L225_7_ok {xt : mj_X} {ct : Nat → Value} {a : Nat} {ra : Nat → Nat} {d N : Nat} {x1 : Int32} {x2 : Int32} {S : mS} {q : Int32 × mS} (e : L225_7 N (x1, x2, S) = some q) : LG225_7 xt ct a ra d q x1 x2 S :=
  t_lp_ok (G := fun s => LG225_7 xt ct a ra d q s.1 s.2.1 s.2.2) (fun s s' e g => B225_7_ok e (by obtain ⟨_, _, _⟩ := s'; exact g)) (fun s e => B225_7_ok e rfl) N (x1, x2, S) e
/-- readFaces()Z -/
def M225 (N : Nat)  (S : mS) : Option (Int32 × mS) :=
  L225_7 N ((S.1 25), 1, S)
theorem M225_ok {xt : mj_X} {ct : Nat → Value} {a : Nat} {ra : Nat → Nat} {d N : Nat}  {S : mS} {q : Int32 × mS} (e : M225 N  S = some q) : MR xt ct a ra (d + 4) 225 0 (lv_args 0 [.ref a]) [] S (.inl (some (.int q.1))) q.2 := by
  unfold M225 at e
  exact (
  M_of (fun _ _ H => r_aloadn c225_0 rfl <| H) <|
  M_get (v := (S.1 25)) c225_1 (by decide) rfl <|
  M_of (fun _ _ H => r_istoren c225_4 <| r_iconst c225_5 <| r_istoren c225_6 <| H) <|
  L225_7_ok e _ (ld1_ne (ld1_ne rfl (by decide) (Or.inr rfl)) (by decide) (Or.inl (by decide))) (ld1_ne ld1_eq (by decide) (Or.inr rfl)) ld1_eq)
def J226_19 (N : Nat)   (S : mS) : Option (Int32 × mS) :=
  some (0, S)
theorem J226_19_ok {xt : mj_X} {ct : Nat → Value} {a : Nat} {ra : Nat → Nat} {d N : Nat} {l : mj_L}   {S : mS} {q : Int32 × mS} (h0 : mj_ld l 0 = some (.ref a)) (e : J226_19 N   S = some q) : MR xt ct a ra (d + 4) 226 19 l [] S (.inl (some (.int q.1))) q.2 := by
  unfold J226_19 at e
  exact (
  M_of (fun _ _ H => r_iconst c226_19 <| H) <|
  M_ri (Option.some.inj e) (fun _ => r_iret c226_20 rfl))
def J226_115 (N : Nat) (x1 : Int32) (x2 : Int32) (x3 : Int32) (x4 : Int32)  (S : mS) : Option (Int32 × mS) :=
  (M224 N 4 x1 x2 x3 x4 S).bind fun r25 =>
  some (1, r25)
theorem J226_115_ok {xt : mj_X} {ct : Nat → Value} {a : Nat} {ra : Nat → Nat} {d N : Nat} {l : mj_L} {x1 : Int32} {x2 : Int32} {x3 : Int32} {x4 : Int32}  {S : mS} {q : Int32 × mS} (h0 : mj_ld l 0 = some (.ref a)) (h1 : mj_ld l 1 = some (.int x1)) (h2 : mj_ld l 2 = some (.int x2)) (h3 : mj_ld l 3 = some (.int x3)) (h4 : mj_ld l 4 = some (.int x4)) (e : J226_115 N x1 x2 x3 x4  S = some q) : MR xt ct a ra (d + 4) 226 115 l [] S (.inl (some (.int q.1))) q.2 := by
  unfold J226_115 at e
  exact (
  M_of (fun _ _ H => r_aloadn c226_115 h0 <| r_iconst c226_116 <| r_iloadn c226_117 h1 <| r_iloadn c226_118 h2 <| r_iloadn c226_119 h3 <| r_iload c226_120 h4 <| H) <|
  t_bd e fun r25 c26 e27 =>
  M_cv (as := [.ref a, .int 4, .int x1, .int x2, .int x3, .int x4]) (st' := []) (v := none) c226_122 rfl ⟨Nat.le_of_ble_eq_true rfl, Nat.le_of_ble_eq_true rfl, Nat.le_of_ble_eq_true rfl⟩ rfl rfl (M224_ok (d := d) c26) (Nat.add_lt_add_left (by decide) d) <|
  M_of (fun _ _ H => r_iconst c226_125 <| H) <|
  M_ri (Option.some.inj e27) (fun _ => r_iret c226_126 rfl))
def J226_95 (N : Nat) (x1 : Int32) (x2 : Int32) (x3 : Int32) (s0 : Int32) (s1 : Int32) (S : mS) : Option (Int32 × mS) :=
  (M216 N s1 s0 S).bind fun r20 =>
  bif mj_c1 .ne r20.1 then
    J226_115 N x1 x2 x3 (r20.2.1 26) r20.2
  else
  some (0, r20.2)
theorem J226_95_ok {xt : mj_X} {ct : Nat → Value} {a : Nat} {ra : Nat → Nat} {d N : Nat} {l : mj_L} {x1 : Int32} {x2 : Int32} {x3 : Int32} {s0 : Int32} {s1 : Int32} {S : mS} {q : Int32 × mS} (h0 : mj_ld l 0 = some (.ref a)) (h1 : mj_ld l 1 = some (.int x1)) (h2 : mj_ld l 2 = some (.int x2)) (h3 : mj_ld l 3 = some (.int x3)) (e : J226_95 N x1 x2 x3 s0 s1 S = some q) : MR xt ct a ra (d + 4) 226 95 l [.int s0, .int s1, .ref a] S (.inl (some (.int q.1))) q.2 := by
  unfold J226_95 at e
  exact (
  t_bd e fun r20 c21 e22 =>
  M_cv (as := [.ref a, .int s1, .int s0]) (st' := [.int r20.1]) (v := (some (.int r20.1))) c226_95 rfl ⟨Nat.le_of_ble_eq_true rfl, Nat.le_of_ble_eq_true rfl, Nat.le_of_ble_eq_true rfl⟩ rfl rfl (M216_ok (d := d) c21) (Nat.add_lt_add_left (by decide) d) <|
  t_if e22 (fun b23 e24 =>
    M_of (fun _ _ H => r_ifT c226_98 b23 <| H) <|
    M_of (fun _ _ H => r_aloadn c226_103 h0 <| H) <|
    M_get (v := (r20.2.1 26)) c226_104 (by decide) rfl <|
    M_of (fun _ _ H => r_istore c226_107 <| r_goto c226_109 <| H) <|
    J226_115_ok (ld1_ne h0 (by decide) (Or.inl (by decide))) (ld1_ne h1 (by decide) (Or.inl (by decide))) (ld1_ne h2 (by decide) (Or.inl (by decide))) (ld1_ne h3 (by decide) (Or.inr rfl)) ld1_eq e24
  ) (fun b23 e24 =>
    M_of (fun _ _ H => r_ifF c226_98 b23 <| H) <|
    M_of (fun _ _ H => r_iconst c226_101 <| H) <|
    M_ri (Option.some.inj e24) (fun _ => r_iret c226_102 rfl)
  ))
def J226_72 (N : Nat) (x1 : Int32) (x2 : Int32) (x3 : Int32)  (S : mS) : Option (Int32 × mS) :=
  bif mj_c2 .ne x3 101 then
    J226_95 N x1 x2 x3 x1 1 (m_sV S 22 ((S.1 22) + 1))
  else
  J226_95 N x1 x2 x3 3 1 (m_sV S 22 ((S.1 22) + 1))
theorem J226_72_ok {xt : mj_X} {ct : Nat → Value} {a : Nat} {ra : Nat → Nat} {d N : Nat} {l : mj_L} {x1 : Int32} {x2 : Int32} {x3 : Int32}  {S : mS} {q : Int32 × mS} (h0 : mj_ld l 0 = some (.ref a)) (h1 : mj_ld l 1 = some (.int x1)) (h2 : mj_ld l 2 = some (.int x2)) (h3 : mj_ld l 3 = some (.int x3)) (e : J226_72 N x1 x2 x3  S = some q) : MR xt ct a ra (d + 4) 226 72 l [] S (.inl (some (.int q.1))) q.2 := by
  unfold J226_72 at e
  exact (
  M_of (fun _ _ H => r_aloadn c226_72 h0 <| r_dup c226_73 rfl <| H) <|
  M_get (v := (S.1 22)) c226_74 (by decide) rfl <|
  M_of (fun _ _ H => r_iconst c226_77 <| r_iadd c226_78 rfl <| H) <|
  M_put c226_79 (by decide) <|
  M_of (fun _ _ H => r_aloadn c226_82 h0 <| r_iconst c226_83 <| r_iloadn c226_84 h3 <| r_bipush c226_85 <| H) <|
  t_if e (fun b18 e19 =>
    M_of (fun _ _ H => r_icmpT c226_87 b18 <| H) <|
    M_of (fun _ _ H => r_iloadn c226_94 h1 <| H) <|
    J226_95_ok h0 h1 h2 h3 e19
  ) (fun b18 e19 =>
    M_of (fun _ _ H => r_icmpF c226_87 b18 <| H) <|
    M_of (fun _ _ H => r_iconst c226_90 <| r_goto c226_91 <| H) <|
    J226_95_ok h0 h1 h2 h3 e19
  ))
def J226_52 (N : Nat) (x1 : Int32) (x2 : Int32) (x3 : Int32)  (S : mS) : Option (Int32 × mS) :=
  bif mj_c2 .ne x3 101 then
    J226_72 N x1 x2 x3 S
  else
  bif mj_c2 .le x1 1 then
    J226_72 N x1 x2 x3 S
  else
  (M213 N (S.1 22) S).bind fun r30 =>
  if r30.1 = 0 ∨ r30.1 = 1 then
  some (r30.1, r30.2)
  else none
theorem J226_52_ok {xt : mj_X} {ct : Nat → Value} {a : Nat} {ra : Nat → Nat} {d N : Nat} {l : mj_L} {x1 : Int32} {x2 : Int32} {x3 : Int32}  {S : mS} {q : Int32 × mS} (h0 : mj_ld l 0 = some (.ref a)) (h1 : mj_ld l 1 = some (.int x1)) (h2 : mj_ld l 2 = some (.int x2)) (h3 : mj_ld l 3 = some (.int x3)) (e : J226_52 N x1 x2 x3  S = some q) : MR xt ct a ra (d + 4) 226 52 l [] S (.inl (some (.int q.1))) q.2 := by
  unfold J226_52 at e
  exact (
  M_of (fun _ _ H => r_iloadn c226_52 h3 <| r_bipush c226_53 <| H) <|
  t_if e (fun b16 e17 =>
    M_of (fun _ _ H => r_icmpT c226_55 b16 <| H) <|
    J226_72_ok h0 h1 h2 h3 e17
  ) (fun b16 e17 =>
    M_of (fun _ _ H => r_icmpF c226_55 b16 <| H) <|
    M_of (fun _ _ H => r_iloadn c226_58 h1 <| r_iconst c226_59 <| H) <|
    t_if e17 (fun b28 e29 =>
      M_of (fun _ _ H => r_icmpT c226_60 b28 <| H) <|
      J226_72_ok h0 h1 h2 h3 e29
    ) (fun b28 e29 =>
      M_of (fun _ _ H => r_icmpF c226_60 b28 <| H) <|
      M_of (fun _ _ H => r_aloadn c226_63 h0 <| r_aloadn c226_64 h0 <| H) <|
      M_get (v := (S.1 22)) c226_65 (by decide) rfl <|
      t_bd e29 fun r30 c31 e32 =>
      M_cv (as := [.ref a, .int (S.1 22)]) (st' := [.int r30.1]) (v := (some (.int r30.1))) c226_68 rfl ⟨Nat.le_of_ble_eq_true rfl, Nat.le_of_ble_eq_true rfl, Nat.le_of_ble_eq_true rfl⟩ rfl rfl (M213_ok (d := d) c31) (Nat.add_lt_add_left (by decide) d) <|
      t_ck e32 fun z33 e34 =>
      M_ri (Option.some.inj e34) (fun _ => r_iret c226_71 (m_z1 z33))
    )
  ))
/-- readDice(I)Z -/
def M226 (N : Nat) (x1 : Int32) (S : mS) : Option (Int32 × mS) :=
  (M219 N 100 S).bind fun r1 =>
  bif mj_c1 .eq r1.1 then
    J226_19 N r1.2
  else
  (M216 N 2 20 r1.2).bind fun r6 =>
  bif mj_c1 .ne r6.1 then
    (M212 N r6.2).bind fun r11 =>
    bif mj_c2 .eq r11.1 104 then
      J226_52 N x1 (r6.2.1 26) r11.1 r11.2
    else
    bif mj_c2 .eq r11.1 108 then
      J226_52 N x1 (r6.2.1 26) r11.1 r11.2
    else
    bif mj_c2 .ne r11.1 101 then
      J226_115 N x1 (r6.2.1 26) 32 0 r11.2
    else
    J226_52 N x1 (r6.2.1 26) r11.1 r11.2
  else
  J226_19 N r6.2
theorem M226_ok {xt : mj_X} {ct : Nat → Value} {a : Nat} {ra : Nat → Nat} {d N : Nat} {x1 : Int32} {S : mS} {q : Int32 × mS} (e : M226 N x1 S = some q) : MR xt ct a ra (d + 4) 226 0 (lv_args 0 [.ref a, .int x1]) [] S (.inl (some (.int q.1))) q.2 := by
  unfold M226 at e
  exact (
  M_of (fun _ _ H => r_aloadn c226_0 rfl <| r_bipush c226_1 <| H) <|
  t_bd e fun r1 c2 e3 =>
  M_cv (as := [.ref a, .int 100]) (st' := [.int r1.1]) (v := (some (.int r1.1))) c226_3 rfl ⟨Nat.le_of_ble_eq_true rfl, Nat.le_of_ble_eq_true rfl, Nat.le_of_ble_eq_true rfl⟩ rfl rfl (M219_ok (d := d) c2) (Nat.add_lt_add_left (by decide) d) <|
  t_if e3 (fun b4 e5 =>
    M_of (fun _ _ H => r_ifT c226_6 b4 <| H) <|
    J226_19_ok rfl e5
  ) (fun b4 e5 =>
    M_of (fun _ _ H => r_ifF c226_6 b4 <| H) <|
    M_of (fun _ _ H => r_aloadn c226_9 rfl <| r_iconst c226_10 <| r_bipush c226_11 <| H) <|
    t_bd e5 fun r6 c7 e8 =>
    M_cv (as := [.ref a, .int 2, .int 20]) (st' := [.int r6.1]) (v := (some (.int r6.1))) c226_13 rfl ⟨Nat.le_of_ble_eq_true rfl, Nat.le_of_ble_eq_true rfl, Nat.le_of_ble_eq_true rfl⟩ rfl rfl (M216_ok (d := d) c7) (Nat.add_lt_add_left (by decide) d) <|
    t_if e8 (fun b9 e10 =>
      M_of (fun _ _ H => r_ifT c226_16 b9 <| H) <|
      M_of (fun _ _ H => r_aloadn c226_21 rfl <| H) <|
      M_get (v := (r6.2.1 26)) c226_22 (by decide) rfl <|
      M_of (fun _ _ H => r_istoren c226_25 <| r_aloadn c226_26 (ld1_ne rfl (by decide) (Or.inl (by decide))) <| H) <|
      t_bd e10 fun r11 c12 e13 =>
      M_cv (as := [.ref a]) (st' := [.int r11.1]) (v := (some (.int r11.1))) c226_27 rfl ⟨Nat.le_of_ble_eq_true rfl, Nat.le_of_ble_eq_true rfl, Nat.le_of_ble_eq_true rfl⟩ rfl rfl (M212_ok (d := d) c12) (Nat.add_lt_add_left (by decide) d) <|
      M_of (fun _ _ H => r_istoren c226_30 <| r_iconst c226_31 <| r_istore c226_32 <| r_iloadn c226_34 (ld1_ne ld1_eq (by decide) (Or.inr rfl)) <| r_bipush c226_35 <| H) <|
      t_if e13 (fun b14 e15 =>
        M_of (fun _ _ H => r_icmpT c226_37 b14 <| H) <|
        J226_52_ok (ld1_ne (ld1_ne (ld1_ne rfl (by decide) (Or.inl (by decide))) (by decide) (Or.inl (by decide))) (by decide) (Or.inl (by decide))) (ld1_ne (ld1_ne (ld1_ne rfl (by decide) (Or.inr rfl)) (by decide) (Or.inl (by decide))) (by decide) (Or.inl (by decide))) (ld1_ne (ld1_ne ld1_eq (by decide) (Or.inr rfl)) (by decide) (Or.inl (by decide))) (ld1_ne ld1_eq (by decide) (Or.inr rfl)) e15
      ) (fun b14 e15 =>
        M_of (fun _ _ H => r_icmpF c226_37 b14 <| H) <|
        M_of (fun _ _ H => r_iloadn c226_40 (ld1_ne ld1_eq (by decide) (Or.inr rfl)) <| r_bipush c226_41 <| H) <|
        t_if e15 (fun b35 e36 =>
          M_of (fun _ _ H => r_icmpT c226_43 b35 <| H) <|
          J226_52_ok (ld1_ne (ld1_ne (ld1_ne rfl (by decide) (Or.inl (by decide))) (by decide) (Or.inl (by decide))) (by decide) (Or.inl (by decide))) (ld1_ne (ld1_ne (ld1_ne rfl (by decide) (Or.inr rfl)) (by decide) (Or.inl (by decide))) (by decide) (Or.inl (by decide))) (ld1_ne (ld1_ne ld1_eq (by decide) (Or.inr rfl)) (by decide) (Or.inl (by decide))) (ld1_ne ld1_eq (by decide) (Or.inr rfl)) e36
        ) (fun b35 e36 =>
          M_of (fun _ _ H => r_icmpF c226_43 b35 <| H) <|
          M_of (fun _ _ H => r_iloadn c226_46 (ld1_ne ld1_eq (by decide) (Or.inr rfl)) <| r_bipush c226_47 <| H) <|
          t_if e36 (fun b37 e38 =>
            M_of (fun _ _ H => r_icmpT c226_49 b37 <| H) <|
            M_of (fun _ _ H => r_bipush c226_112 <| r_istoren c226_114 <| H) <|
            J226_115_ok (ld1_ne (ld1_ne (ld1_ne (ld1_ne rfl (by decide) (Or.inl (by decide))) (by decide) (Or.inl (by decide))) (by decide) (Or.inl (by decide))) (by decide) (Or.inl (by decide))) (ld1_ne (ld1_ne (ld1_ne (ld1_ne rfl (by decide) (Or.inr rfl)) (by decide) (Or.inl (by decide))) (by decide) (Or.inl (by decide))) (by decide) (Or.inl (by decide))) (ld1_ne (ld1_ne (ld1_ne ld1_eq (by decide) (Or.inr rfl)) (by decide) (Or.inl (by decide))) (by decide) (Or.inr rfl)) ld1_eq (ld1_ne ld1_eq (by decide) (Or.inl (by decide))) e38
          ) (fun b37 e38 =>
            M_of (fun _ _ H => r_icmpF c226_49 b37 <| H) <|
            J226_52_ok (ld1_ne (ld1_ne (ld1_ne rfl (by decide) (Or.inl (by decide))) (by decide) (Or.inl (by decide))) (by decide) (Or.inl (by decide))) (ld1_ne (ld1_ne (ld1_ne rfl (by decide) (Or.inr rfl)) (by decide) (Or.inl (by decide))) (by decide) (Or.inl (by decide))) (ld1_ne (ld1_ne ld1_eq (by decide) (Or.inr rfl)) (by decide) (Or.inl (by decide))) (ld1_ne ld1_eq (by decide) (Or.inr rfl)) e38
          )
        )
      )
    ) (fun b9 e10 =>
      M_of (fun _ _ H => r_ifF c226_16 b9 <| H) <|
      J226_19_ok rfl e10
    )
  ))
def J223_177 (N : Nat)  (s0 : Int32) (S : mS) : Option (Int32 × mS) :=
  if s0 = 0 ∨ s0 = 1 then
  some (s0, S)
  else none
theorem J223_177_ok {xt : mj_X} {ct : Nat → Value} {a : Nat} {ra : Nat → Nat} {d N : Nat} {l : mj_L}  {s0 : Int32} {S : mS} {q : Int32 × mS} (h0 : mj_ld l 0 = some (.ref a)) (e : J223_177 N  s0 S = some q) : MR xt ct a ra (d + 5) 223 177 l [.int s0] S (.inl (some (.int q.1))) q.2 := by
  unfold J223_177 at e
  exact (
  t_ck e fun z44 e45 =>
  M_ri (Option.some.inj e45) (fun _ => r_iret c223_177 (m_z1 z44)))
def J223_41 (N : Nat)   (S : mS) : Option (Int32 × mS) :=
  (M213 N (S.1 22) S).bind fun r65 =>
  if r65.1 = 0 ∨ r65.1 = 1 then
  some (r65.1, r65.2)
  else none
theorem J223_41_ok {xt : mj_X} {ct : Nat → Value} {a : Nat} {ra : Nat → Nat} {d N : Nat} {l : mj_L}   {S : mS} {q : Int32 × mS} (h0 : mj_ld l 0 = some (.ref a)) (e : J223_41 N   S = some q) : MR xt ct a ra (d + 5) 223 41 l [] S (.inl (some (.int q.1))) q.2 := by
  unfold J223_41 at e
  exact (
  M_of (fun _ _ H => r_aloadn c223_41 h0 <| r_aloadn c223_42 h0 <| H) <|
  M_get (v := (S.1 22)) c223_43 (by decide) rfl <|
  t_bd e fun r65 c66 e67 =>
  M_cv (as := [.ref a, .int (S.1 22)]) (st' := [.int r65.1]) (v := (some (.int r65.1))) c223_46 rfl ⟨Nat.le_of_ble_eq_true rfl, Nat.le_of_ble_eq_true rfl, Nat.le_of_ble_eq_true rfl⟩ rfl rfl (M213_ok (d := d) c66) (Nat.add_lt_add_left (by decide) d) <|
  t_ck e67 fun z68 e69 =>
  M_ri (Option.some.inj e69) (fun _ => r_iret c223_49 (m_z1 z68)))
def J223_32 (N : Nat)   (S : mS) : Option (Int32 × mS) :=
  bif mj_c2 .ne (S.1 24) 40 then
    (M215 N (m_sV S 24 ((S.1 24) + 1))).bind fun r8 =>
    bif mj_c1 .eq r8.1 then
      (M212 N r8.2).bind fun r13 =>
      bif mj_c2 .ne r13.1 91 then
        (M217 N r13.2).bind fun r18 =>
        bif mj_c1 .ne r18.1 then
          (M216 N 0 999 r18.2).bind fun r23 =>
          bif mj_c1 .ne r23.1 then
            (M212 N r23.2).bind fun r28 =>
            bif mj_c2 .ne r28.1 100 then
              (M224 N 0 (r28.2.1 26) 0 0 0 r28.2).bind fun r33 =>
              some (1, r33)
            else
            (M205 N (r28.2.1 26) 1 6 r28.2).bind fun r36 =>
            bif mj_c1 .eq r36.1 then
              (M213 N (r18.2.1 22) r36.2).bind fun r41 =>
              J223_177 N r41.1 r41.2
            else
            (M226 N (r36.2.1 26) r36.2).bind fun r46 =>
            J223_177 N r46.1 r46.2
          else
          some (0, r23.2)
        else
        (M226 N 1 r18.2).bind fun r49 =>
        if r49.1 = 0 ∨ r49.1 = 1 then
        some (r49.1, r49.2)
        else none
      else
      (M225 N r13.2).bind fun r54 =>
      if r54.1 = 0 ∨ r54.1 = 1 then
      some (r54.1, r54.2)
      else none
    else
    (M212 N r8.2).bind fun r59 =>
    (M224 N 1 (r59.1 - 65) 0 0 0 r59.2).bind fun r62 =>
    some (1, (m_sV r62 22 ((r62.1 22) + 1)))
  else
  J223_41 N S
theorem J223_32_ok {xt : mj_X} {ct : Nat → Value} {a : Nat} {ra : Nat → Nat} {d N : Nat} {l : mj_L}   {S : mS} {q : Int32 × mS} (h0 : mj_ld l 0 = some (.ref a)) (e : J223_32 N   S = some q) : MR xt ct a ra (d + 5) 223 32 l [] S (.inl (some (.int q.1))) q.2 := by
  unfold J223_32 at e
  exact (
  M_of (fun _ _ H => r_aloadn c223_32 h0 <| H) <|
  M_get (v := (S.1 24)) c223_33 (by decide) rfl <|
  M_of (fun _ _ H => r_bipush c223_36 <| H) <|
  t_if e (fun b6 e7 =>
    M_of (fun _ _ H => r_icmpT c223_38 b6 <| H) <|
    M_of (fun _ _ H => r_aloadn c223_50 h0 <| r_dup c223_51 rfl <| H) <|
    M_get (v := (S.1 24)) c223_52 (by decide) rfl <|
    M_of (fun _ _ H => r_iconst c223_55 <| r_iadd c223_56 rfl <| H) <|
    M_put c223_57 (by decide) <|
    M_of (fun _ _ H => r_aloadn c223_60 h0 <| H) <|
    t_bd e7 fun r8 c9 e10 =>
    M_cv (as := [.ref a]) (st' := [.int r8.1]) (v := (some (.int r8.1))) c223_61 rfl ⟨Nat.le_of_ble_eq_true rfl, Nat.le_of_ble_eq_true rfl, Nat.le_of_ble_eq_true rfl⟩ rfl rfl (M215_ok (d := d) c9) (Nat.add_lt_add_left (by decide) d) <|
    t_if e10 (fun b11 e12 =>
      M_of (fun _ _ H => r_ifT c223_64 b11 <| H) <|
      M_of (fun _ _ H => r_aloadn c223_94 h0 <| H) <|
      t_bd e12 fun r13 c14 e15 =>
      M_cv (as := [.ref a]) (st' := [.int r13.1]) (v := (some (.int r13.1))) c223_95 rfl ⟨Nat.le_of_ble_eq_true rfl, Nat.le_of_ble_eq_true rfl, Nat.le_of_ble_eq_true rfl⟩ rfl rfl (M212_ok (d := d) c14) (Nat.add_lt_add_left (by decide) d) <|
      M_of (fun _ _ H => r_bipush c223_98 <| H) <|
      t_if e15 (fun b16 e17 =>
        M_of (fun _ _ H => r_icmpT c223_100 b16 <| H) <|
        M_of (fun _ _ H => r_aloadn c223_108 h0 <| H) <|
        t_bd e17 fun r18 c19 e20 =>
        M_cv (as := [.ref a]) (st' := [.int r18.1]) (v := (some (.int r18.1))) c223_109 rfl ⟨Nat.le_of_ble_eq_true rfl, Nat.le_of_ble_eq_true rfl, Nat.le_of_ble_eq_true rfl⟩ rfl rfl (M217_ok (d := d) c19) (Nat.add_lt_add_left (by decide) d) <|
        t_if e20 (fun b21 e22 =>
          M_of (fun _ _ H => r_ifT c223_112 b21 <| H) <|
          M_of (fun _ _ H => r_aloadn c223_121 h0 <| H) <|
          M_get (v := (r18.2.1 22)) c223_122 (by decide) rfl <|
          M_of (fun _ _ H => r_istoren c223_125 <| r_aloadn c223_126 (ld1_ne h0 (by decide) (Or.inr rfl)) <| r_iconst c223_127 <| r_sipush c223_128 <| H) <|
          t_bd e22 fun r23 c24 e25 =>
          M_cv (as := [.ref a, .int 0, .int 999]) (st' := [.int r23.1]) (v := (some (.int r23.1))) c223_131 rfl ⟨Nat.le_of_ble_eq_true rfl, Nat.le_of_ble_eq_true rfl, Nat.le_of_ble_eq_true rfl⟩ rfl rfl (M216_ok (d := d) c24) (Nat.add_lt_add_left (by decide) d) <|
          t_if e25 (fun b26 e27 =>
            M_of (fun _ _ H => r_ifT c223_134 b26 <| H) <|
            M_of (fun _ _ H => r_aloadn c223_139 (ld1_ne h0 (by decide) (Or.inr rfl)) <| H) <|
            t_bd e27 fun r28 c29 e30 =>
            M_cv (as := [.ref a]) (st' := [.int r28.1]) (v := (some (.int r28.1))) c223_140 rfl ⟨Nat.le_of_ble_eq_true rfl, Nat.le_of_ble_eq_true rfl, Nat.le_of_ble_eq_true rfl⟩ rfl rfl (M212_ok (d := d) c29) (Nat.add_lt_add_left (by decide) d) <|
            M_of (fun _ _ H => r_bipush c223_143 <| H) <|
            t_if e30 (fun b31 e32 =>
              M_of (fun _ _ H => r_icmpT c223_145 b31 <| H) <|
              M_of (fun _ _ H => r_aloadn c223_178 (ld1_ne h0 (by decide) (Or.inr rfl)) <| r_iconst c223_179 <| r_aloadn c223_180 (ld1_ne h0 (by decide) (Or.inr rfl)) <| H) <|
              M_get (v := (r28.2.1 26)) c223_181 (by decide) rfl <|
              M_of (fun _ _ H => r_iconst c223_184 <| r_iconst c223_185 <| r_iconst c223_186 <| H) <|
              t_bd e32 fun r33 c34 e35 =>
              M_cv (as := [.ref a, .int 0, .int (r28.2.1 26), .int 0, .int 0, .int 0]) (st' := []) (v := none) c223_187 rfl ⟨Nat.le_of_ble_eq_true rfl, Nat.le_of_ble_eq_true rfl, Nat.le_of_ble_eq_true rfl⟩ rfl rfl (M224_ok (d := d) c34) (Nat.add_lt_add_left (by decide) d) <|
              M_of (fun _ _ H => r_iconst c223_190 <| H) <|
              M_ri (Option.some.inj e35) (fun _ => r_iret c223_191 rfl)
            ) (fun b31 e32 =>
              M_of (fun _ _ H => r_icmpF c223_145 b31 <| H) <|
              M_of (fun _ _ H => r_aloadn c223_148 (ld1_ne h0 (by decide) (Or.inr rfl)) <| H) <|
              M_get (v := (r28.2.1 26)) c223_149 (by decide) rfl <|
              M_of (fun _ _ H => r_iconst c223_152 <| r_bipush c223_153 <| H) <|
              t_bd e32 fun r36 c37 e38 =>
              M_cs (as := [.int (r28.2.1 26), .int 1, .int 6]) (st' := [.int r36.1]) (v := (some (.int r36.1))) c223_155 ⟨Nat.le_of_ble_eq_true rfl, Nat.le_of_ble_eq_true rfl, Nat.le_of_ble_eq_true rfl⟩ rfl rfl (M205_ok (d := d) c37) (Nat.add_lt_add_left (by decide) d) <|
              t_if e38 (fun b39 e40 =>
                M_of (fun _ _ H => r_ifT c223_158 b39 <| H) <|
                M_of (fun _ _ H => r_aloadn c223_172 (ld1_ne h0 (by decide) (Or.inr rfl)) <| r_iloadn c223_173 ld1_eq <| H) <|
                t_bd e40 fun r41 c42 e43 =>
                M_cv (as := [.ref a, .int (r18.2.1 22)]) (st' := [.int r41.1]) (v := (some (.int r41.1))) c223_174 rfl ⟨Nat.le_of_ble_eq_true rfl, Nat.le_of_ble_eq_true rfl, Nat.le_of_ble_eq_true rfl⟩ rfl rfl (M213_ok (d := d) c42) (Nat.add_lt_add_left (by decide) d) <|
                J223_177_ok (ld1_ne h0 (by decide) (Or.inr rfl)) e43
              ) (fun b39 e40 =>
                M_of (fun _ _ H => r_ifF c223_158 b39 <| H) <|
                M_of (fun _ _ H => r_aloadn c223_161 (ld1_ne h0 (by decide) (Or.inr rfl)) <| r_aloadn c223_162 (ld1_ne h0 (by decide) (Or.inr rfl)) <| H) <|
                M_get (v := (r36.2.1 26)) c223_163 (by decide) rfl <|
                t_bd e40 fun r46 c47 e48 =>
                M_cv (as := [.ref a, .int (r36.2.1 26)]) (st' := [.int r46.1]) (v := (some (.int r46.1))) c223_166 rfl ⟨Nat.le_of_ble_eq_true rfl, Nat.le_of_ble_eq_true rfl, Nat.le_of_ble_eq_true rfl⟩ rfl rfl (M226_ok (d := d) c47) (Nat.add_lt_add_left (by decide) d) <|
                M_of (fun _ _ H => r_goto c223_169 <| H) <|
                J223_177_ok (ld1_ne h0 (by decide) (Or.inr rfl)) e48
              )
            )
          ) (fun b26 e27 =>
            M_of (fun _ _ H => r_ifF c223_134 b26 <| H) <|
            M_of (fun _ _ H => r_iconst c223_137 <| H) <|
            M_ri (Option.some.inj e27) (fun _ => r_iret c223_138 rfl)
          )
        ) (fun b21 e22 =>
          M_of (fun _ _ H => r_ifF c223_112 b21 <| H) <|
          M_of (fun _ _ H => r_aloadn c223_115 h0 <| r_iconst c223_116 <| H) <|
          t_bd e22 fun r49 c50 e51 =>
          M_cv (as := [.ref a, .int 1]) (st' := [.int r49.1]) (v := (some (.int r49.1))) c223_117 rfl ⟨Nat.le_of_ble_eq_true rfl, Nat.le_of_ble_eq_true rfl, Nat.le_of_ble_eq_true rfl⟩ rfl rfl (M226_ok (d := d) c50) (Nat.add_lt_add_left (by decide) d) <|
          t_ck e51 fun z52 e53 =>
          M_ri (Option.some.inj e53) (fun _ => r_iret c223_120 (m_z1 z52))
        )
      ) (fun b16 e17 =>
        M_of (fun _ _ H => r_icmpF c223_100 b16 <| H) <|
        M_of (fun _ _ H => r_aloadn c223_103 h0 <| H) <|
        t_bd e17 fun r54 c55 e56 =>
        M_cv (as := [.ref a]) (st' := [.int r54.1]) (v := (some (.int r54.1))) c223_104 rfl ⟨Nat.le_of_ble_eq_true rfl, Nat.le_of_ble_eq_true rfl, Nat.le_of_ble_eq_true rfl⟩ rfl rfl (M225_ok (d := d) c55) (Nat.add_lt_add_left (by decide) d) <|
        t_ck e56 fun z57 e58 =>
        M_ri (Option.some.inj e58) (fun _ => r_iret c223_107 (m_z1 z57))
      )
    ) (fun b11 e12 =>
      M_of (fun _ _ H => r_ifF c223_64 b11 <| H) <|
      M_of (fun _ _ H => r_aloadn c223_67 h0 <| r_iconst c223_68 <| r_aloadn c223_69 h0 <| H) <|
      t_bd e12 fun r59 c60 e61 =>
      M_cv (as := [.ref a]) (st' := [.int r59.1, .int 1, .ref a]) (v := (some (.int r59.1))) c223_70 rfl ⟨Nat.le_of_ble_eq_true rfl, Nat.le_of_ble_eq_true rfl, Nat.le_of_ble_eq_true rfl⟩ rfl rfl (M212_ok (d := d) c60) (Nat.add_lt_add_left (by decide) d) <|
      M_of (fun _ _ H => r_bipush c223_73 <| r_isub c223_75 rfl <| r_iconst c223_76 <| r_iconst c223_77 <| r_iconst c223_78 <| H) <|
      t_bd e61 fun r62 c63 e64 =>
      M_cv (as := [.ref a, .int 1, .int (r59.1 - 65), .int 0, .int 0, .int 0]) (st' := []) (v := none) c223_79 rfl ⟨Nat.le_of_ble_eq_true rfl, Nat.le_of_ble_eq_true rfl, Nat.le_of_ble_eq_true rfl⟩ rfl rfl (M224_ok (d := d) c63) (Nat.add_lt_add_left (by decide) d) <|
      M_of (fun _ _ H => r_aloadn c223_82 h0 <| r_dup c223_83 rfl <| H) <|
      M_get (v := (r62.1 22)) c223_84 (by decide) rfl <|
      M_of (fun _ _ H => r_iconst c223_87 <| r_iadd c223_88 rfl <| H) <|
      M_put c223_89 (by decide) <|
      M_of (fun _ _ H => r_iconst c223_92 <| H) <|
      M_ri (Option.some.inj e64) (fun _ => r_iret c223_93 rfl)
    )
  ) (fun b6 e7 =>
    M_of (fun _ _ H => r_icmpF c223_38 b6 <| H) <|
    J223_41_ok h0 e7
  ))
/-- readItem()Z -/
def M223 (N : Nat)  (S : mS) : Option (Int32 × mS) :=
  (M215 N S).bind fun r1 =>
  bif mj_c1 .ne r1.1 then
    J223_32 N r1.2
  else
  (M217 N r1.2).bind fun r70 =>
  bif mj_c1 .ne r70.1 then
    J223_32 N r70.2
  else
  (M212 N r70.2).bind fun r75 =>
  bif mj_c2 .eq r75.1 100 then
    J223_32 N r75.2
  else
  (M212 N r75.2).bind fun r80 =>
  bif mj_c2 .ne r80.1 91 then
    J223_41 N r80.2
  else
  J223_32 N r80.2
theorem M223_ok {xt : mj_X} {ct : Nat → Value} {a : Nat} {ra : Nat → Nat} {d N : Nat}  {S : mS} {q : Int32 × mS} (e : M223 N  S = some q) : MR xt ct a ra (d + 5) 223 0 (lv_args 0 [.ref a]) [] S (.inl (some (.int q.1))) q.2 := by
  unfold M223 at e
  exact (
  M_of (fun _ _ H => r_aloadn c223_0 rfl <| H) <|
  t_bd e fun r1 c2 e3 =>
  M_cv (as := [.ref a]) (st' := [.int r1.1]) (v := (some (.int r1.1))) c223_1 rfl ⟨Nat.le_of_ble_eq_true rfl, Nat.le_of_ble_eq_true rfl, Nat.le_of_ble_eq_true rfl⟩ rfl rfl (M215_ok (d := d) c2) (Nat.add_lt_add_left (by decide) d) <|
  t_if e3 (fun b4 e5 =>
    M_of (fun _ _ H => r_ifT c223_4 b4 <| H) <|
    J223_32_ok rfl e5
  ) (fun b4 e5 =>
    M_of (fun _ _ H => r_ifF c223_4 b4 <| H) <|
    M_of (fun _ _ H => r_aloadn c223_7 rfl <| H) <|
    t_bd e5 fun r70 c71 e72 =>
    M_cv (as := [.ref a]) (st' := [.int r70.1]) (v := (some (.int r70.1))) c223_8 rfl ⟨Nat.le_of_ble_eq_true rfl, Nat.le_of_ble_eq_true rfl, Nat.le_of_ble_eq_true rfl⟩ rfl rfl (M217_ok (d := d) c71) (Nat.add_lt_add_left (by decide) d) <|
    t_if e72 (fun b73 e74 =>
      M_of (fun _ _ H => r_ifT c223_11 b73 <| H) <|
      J223_32_ok rfl e74
    ) (fun b73 e74 =>
      M_of (fun _ _ H => r_ifF c223_11 b73 <| H) <|
      M_of (fun _ _ H => r_aloadn c223_14 rfl <| H) <|
      t_bd e74 fun r75 c76 e77 =>
      M_cv (as := [.ref a]) (st' := [.int r75.1]) (v := (some (.int r75.1))) c223_15 rfl ⟨Nat.le_of_ble_eq_true rfl, Nat.le_of_ble_eq_true rfl, Nat.le_of_ble_eq_true rfl⟩ rfl rfl (M212_ok (d := d) c76) (Nat.add_lt_add_left (by decide) d) <|
      M_of (fun _ _ H => r_bipush c223_18 <| H) <|
      t_if e77 (fun b78 e79 =>
        M_of (fun _ _ H => r_icmpT c223_20 b78 <| H) <|
        J223_32_ok rfl e79
      ) (fun b78 e79 =>
        M_of (fun _ _ H => r_icmpF c223_20 b78 <| H) <|
        M_of (fun _ _ H => r_aloadn c223_23 rfl <| H) <|
        t_bd e79 fun r80 c81 e82 =>
        M_cv (as := [.ref a]) (st' := [.int r80.1]) (v := (some (.int r80.1))) c223_24 rfl ⟨Nat.le_of_ble_eq_true rfl, Nat.le_of_ble_eq_true rfl, Nat.le_of_ble_eq_true rfl⟩ rfl rfl (M212_ok (d := d) c81) (Nat.add_lt_add_left (by decide) d) <|
        M_of (fun _ _ H => r_bipush c223_27 <| H) <|
        t_if e82 (fun b83 e84 =>
          M_of (fun _ _ H => r_icmpT c223_29 b83 <| H) <|
          J223_41_ok rfl e84
        ) (fun b83 e84 =>
          M_of (fun _ _ H => r_icmpF c223_29 b83 <| H) <|
          J223_32_ok rfl e84
        )
      )
    )
  ))
/-- makeNegative()V -/
def M228 (N : Nat)  (S : mS) : Option (mS) :=
  if 0 ≤ (((S.1 33) - 1)).toInt ∧ (((S.1 33) - 1)).toInt < mN 32 then
  (M224 N 2 0 0 0 0 (m_sV S 33 ((S.1 33) - 1))).bind fun r3 =>
  if 0 ≤ (((480 + (r3.1 23)) - 1)).toInt ∧ (((480 + (r3.1 23)) - 1)).toInt < mN 18 then
  some (m_sA r3 18 (((480 + (r3.1 23)) - 1)).toInt.toNat (S.2.1 32 (((S.1 33) - 1)).toInt.toNat))
  else none
  else none
theorem M228_ok {xt : mj_X} {ct : Nat → Value} {a : Nat} {ra : Nat → Nat} {d N : Nat}  {S : mS} {q : mS} (e : M228 N  S = some q) : MR xt ct a ra (d + 2) 228 0 (lv_args 0 [.ref a]) [] S (.inl none) q := by
  unfold M228 at e
  exact (
  M_of (fun _ _ H => r_aloadn c228_0 rfl <| H) <|
  M_geta (j := 32) c228_1 (by decide) <|
  M_of (fun _ _ H => r_aloadn c228_4 rfl <| H) <|
  M_get (v := (S.1 33)) c228_5 (by decide) rfl <|
  M_of (fun _ _ H => r_iconst c228_8 <| r_isub c228_9 rfl <| H) <|
  t_ck e fun i1 e2 =>
  M_iald (j := 32) (v := (S.2.1 32 (((S.1 33) - 1)).toInt.toNat)) c228_10 (by decide) i1 rfl <|
  M_of (fun _ _ H => r_istoren c228_11 <| r_aloadn c228_12 (ld1_ne rfl (by decide) (Or.inr rfl)) <| r_dup c228_13 rfl <| H) <|
  M_get (v := (S.1 33)) c228_14 (by decide) rfl <|
  M_of (fun _ _ H => r_iconst c228_17 <| r_isub c228_18 rfl <| H) <|
  M_put c228_19 (by decide) <|
  M_of (fun _ _ H => r_aloadn c228_22 (ld1_ne rfl (by decide) (Or.inr rfl)) <| r_iconst c228_23 <| r_iconst c228_24 <| r_iconst c228_25 <| r_iconst c228_26 <| r_iconst c228_27 <| H) <|
  t_bd e2 fun r3 c4 e5 =>
  M_cv (as := [.ref a, .int 2, .int 0, .int 0, .int 0, .int 0]) (st' := []) (v := none) c228_28 rfl ⟨Nat.le_of_ble_eq_true rfl, Nat.le_of_ble_eq_true rfl, Nat.le_of_ble_eq_true rfl⟩ rfl rfl (M224_ok (d := d) c4) (Nat.add_lt_add_left (by decide) d) <|
  M_of (fun _ _ H => r_aloadn c228_31 (ld1_ne rfl (by decide) (Or.inr rfl)) <| H) <|
  M_geta (j := 18) c228_32 (by decide) <|
  M_of (fun _ _ H => r_sipush c228_35 <| r_aloadn c228_38 (ld1_ne rfl (by decide) (Or.inr rfl)) <| H) <|
  M_get (v := (r3.1 23)) c228_39 (by decide) rfl <|
  M_of (fun _ _ H => r_iadd c228_42 rfl <| r_iconst c228_43 <| r_isub c228_44 rfl <| r_iloadn c228_45 ld1_eq <| H) <|
  t_ck e5 fun i6 e7 =>
  M_iast (j := 18) c228_46 (by decide) i6 <|
  M_rv (Option.some.inj e7) (fun _ => r_ret c228_47))
def LG227_0 (xt : mj_X) (ct : Nat → Value) (a : Nat) (ra : Nat → Nat) (d : Nat) (q : mS)  (S : mS) : Prop := ∀ l, mj_ld l 0 = some (.ref a) → MR xt ct a ra (d + 3) 227 0 l [] S (.inl none) q
def GG227_0 (xt : mj_X) (ct : Nat → Value) (a : Nat) (ra : Nat → Nat) (d : Nat) (q : mS) (o : (mS) ⊕ (mS)) : Prop := match o with
  | .inl S => LG227_0 xt ct a ra d q S
  | .inr r => r = q
def J227_50 (N : Nat)   (S : mS) : Option (mS) :=
  some S
theorem J227_50_ok {xt : mj_X} {ct : Nat → Value} {a : Nat} {ra : Nat → Nat} {d N : Nat} {l : mj_L}   {S : mS} {q : mS} (h0 : mj_ld l 0 = some (.ref a)) (e : J227_50 N   S = some q) : MR xt ct a ra (d + 3) 227 50 l [] S (.inl none) q := by
  unfold J227_50 at e
  exact (
  M_rv (Option.some.inj e) (fun _ => r_ret c227_50))
def B227_0 (N : Nat) (s : mS) : Option ((mS) ⊕ (mS)) :=
  bif mj_c1 .le (s.1 29) then
    (J227_50 N s).map Sum.inr
  else
  if 0 ≤ (((s.1 29) - 1)).toInt ∧ (((s.1 29) - 1)).toInt < mN 27 then
  bif mj_c2 .ne (s.2.1 27 (((s.1 29) - 1)).toInt.toNat) 21 then
    (J227_50 N s).map Sum.inr
  else
  (M228 N (m_sV (m_sV s 29 ((s.1 29) - 1)) 30 ((s.1 30) - 1))).bind fun r15 =>
  some (.inl r15)
  else none
def L227_0 (N : Nat) (s : mS) : Option (mS) := t_lp (B227_0 N) N s
theorem B227_0_ok {xt : mj_X} {ct : Nat → Value} {a : Nat} {ra : Nat → Nat} {d N : Nat} {s : mS} {o : (mS) ⊕ (mS)} {q : mS} (e : B227_0 N s = some o) (g : GG227_0 xt ct a ra d q o) : LG227_0 xt ct a ra d q s := by
  unfold B227_0 at e
  exact (fun l h0 =>
  M_of (fun _ _ H => r_aloadn c227_0 h0 <| H) <|
  M_get (v := (s.1 29)) c227_1 (by decide) rfl <|
  t_if e (fun b1 e2 =>
    M_of (fun _ _ H => r_ifT c227_4 b1 <| H) <|
    t_up e2 fun o3 e4 u5 =>
    (fun (g6 : o3 = q) =>
    by subst g6; exact (J227_50_ok h0 e4)
    ) (by have := g; rw [u5] at this; exact this)
  ) (fun b1 e2 =>
    M_of (fun _ _ H => r_ifF c227_4 b1 <| H) <|
    M_of (fun _ _ H => r_aloadn c227_7 h0 <| H) <|
    M_geta (j := 27) c227_8 (by decide) <|
    M_of (fun _ _ H => r_aloadn c227_11 h0 <| H) <|
    M_get (v := (s.1 29)) c227_12 (by decide) rfl <|
    M_of (fun _ _ H => r_iconst c227_15 <| r_isub c227_16 rfl <| H) <|
    t_ck e2 fun i7 e8 =>
    M_iald (j := 27) (v := (s.2.1 27 (((s.1 29) - 1)).toInt.toNat)) c227_17 (by decide) i7 rfl <|
    M_of (fun _ _ H => r_bipush c227_18 <| H) <|
    t_if e8 (fun b9 e10 =>
      M_of (fun _ _ H => r_icmpT c227_20 b9 <| H) <|
      t_up e10 fun o11 e12 u13 =>
      (fun (g14 : o11 = q) =>
      by subst g14; exact (J227_50_ok h0 e12)
      ) (by have := g; rw [u13] at this; exact this)
    ) (fun b9 e10 =>
      M_of (fun _ _ H => r_icmpF c227_20 b9 <| H) <|
      M_of (fun _ _ H => r_aloadn c227_23 h0 <| r_dup c227_24 rfl <| H) <|
      M_get (v := (s.1 29)) c227_25 (by decide) rfl <|
      M_of (fun _ _ H => r_iconst c227_28 <| r_isub c227_29 rfl <| H) <|
      M_put c227_30 (by decide) <|
      M_of (fun _ _ H => r_aloadn c227_33 h0 <| r_dup c227_34 rfl <| H) <|
      M_get (v := (s.1 30)) c227_35 (by decide) rfl <|
      M_of (fun _ _ H => r_iconst c227_38 <| r_isub c227_39 rfl <| H) <|
      M_put c227_40 (by decide) <|
      M_of (fun _ _ H => r_aloadn c227_43 h0 <| H) <|
      t_bd e10 fun r15 c16 e17 =>
      M_cv (as := [.ref a]) (st' := []) (v := none) c227_44 rfl ⟨Nat.le_of_ble_eq_true rfl, Nat.le_of_ble_eq_true rfl, Nat.le_of_ble_eq_true rfl⟩ rfl rfl (M228_ok (d := d) c16) (Nat.add_lt_add_left (by decide) d) <|
      M_of (fun _ _ H => r_goto c227_47 <| H) <|
      t_rg e17 g (fun (e : LG227_0 xt ct a ra d q r15) => e _ h0)
    )
  ))
theorem L227_0_ok {xt : mj_X} {ct : Nat → Value} {a : Nat} {ra : Nat → Nat} {d N : Nat}  {S : mS} {q : mS} (e : L227_0 N S = some q) : LG227_0 xt ct a ra d q S :=
  t_lp_ok (G := fun s => LG227_0 xt ct a ra d q s) (fun s s' e g => B227_0_ok e (by exact g)) (fun s e => B227_0_ok e rfl) N S e
/-- turnBack()V -/
def M227 (N : Nat)  (S : mS) : Option (mS) :=
  L227_0 N S
theorem M227_ok {xt : mj_X} {ct : Nat → Value} {a : Nat} {ra : Nat → Nat} {d N : Nat}  {S : mS} {q : mS} (e : M227 N  S = some q) : MR xt ct a ra (d + 3) 227 0 (lv_args 0 [.ref a]) [] S (.inl none) q := by
  unfold M227 at e
  exact (
  L227_0_ok e _ rfl)
