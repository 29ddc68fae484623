def LG278_21 (xt : mj_X) (ct : Nat → Value) (a : Nat) (ra : Nat → Nat) (d : Nat) (q : Int32 × mS) (x1 : Int32) (x2 : Int32) (x3 : Int32) (x4 : Int32) (S : mS) : Prop := ∀ l, mj_ld l 0 = some (.ref a) → mj_ld l 1 = some (.int x1) → mj_ld l 2 = some (.int x2) → mj_ld l 3 = some (.int x3) → mj_ld l 4 = some (.int x4) → MR xt ct a ra (d + 6) 278 21 l [] S (.inl (some (.int q.1))) q.2
def GG278_21 (xt : mj_X) (ct : Nat → Value) (a : Nat) (ra : Nat → Nat) (d : Nat) (q : Int32 × mS) (o : (Int32 × Int32 × Int32 × Int32 × mS) ⊕ (Int32 × mS)) : Prop := match o with
  | .inl (x1, x2, x3, x4, S) => LG278_21 xt ct a ra d q x1 x2 x3 x4 S
  | .inr r => r = q
def LG278_49 (xt : mj_X) (ct : Nat → Value) (a : Nat) (ra : Nat → Nat) (d : Nat) (q : Int32 × mS) (x1 : Int32) (x2 : Int32) (x3 : Int32) (x4 : Int32) (x5 : Int32) (S : mS) : Prop := ∀ l, mj_ld l 0 = some (.ref a) → mj_ld l 1 = some (.int x1) → mj_ld l 2 = some (.int x2) → mj_ld l 3 = some (.int x3) → mj_ld l 4 = some (.int x4) → mj_ld l 5 = some (.int x5) → MR xt ct a ra (d + 6) 278 49 l [] S (.inl (some (.int q.1))) q.2
def GG278_49 (xt : mj_X) (ct : Nat → Value) (a : Nat) (ra : Nat → Nat) (d : Nat) (q : Int32 × mS) (o : (Int32 × Int32 × Int32 × Int32 × Int32 × mS) ⊕ ((Int32 × Int32 × Int32 × Int32 × mS) ⊕ (Int32 × mS))) : Prop := match o with
  | .inl (x1, x2, x3, x4, x5, S) => LG278_49 xt ct a ra d q x1 x2 x3 x4 x5 S
  | .inr r => GG278_21 xt ct a ra d q r
def J278_78 (N : Nat) (x1 : Int32) (x2 : Int32) (x3 : Int32) (x4 : Int32) (x5 : Int32) (s0 : Int32) (S : mS) : Option ((Int32 × Int32 × Int32 × Int32 × Int32 × mS) ⊕ ((Int32 × Int32 × Int32 × Int32 × mS) ⊕ (Int32 × mS))) :=
  if 0 ≤ (((64 * x3) + x4)).toInt ∧ (((64 * x3) + x4)).toInt < mN 48 then
  if 0 ≤ (x5).toInt ∧ (x5).toInt < mN 42 then
  (M270 N s0 x3 x4 (-1) 0 ((S.2.2 48 (((64 * x3) + x4)).toInt.toNat) * (S.2.2 42 (x5).toInt.toNat)) S).bind fun r27 =>
  some (.inl (x1, x2, x3, x4, (x5 + 1), r27))
  else none
  else none
theorem J278_78_ok {xt : mj_X} {ct : Nat → Value} {a : Nat} {ra : Nat → Nat} {d N : Nat} {l : mj_L} {x1 : Int32} {x2 : Int32} {x3 : Int32} {x4 : Int32} {x5 : Int32} {s0 : Int32} {S : mS} {o : (Int32 × Int32 × Int32 × Int32 × Int32 × mS) ⊕ ((Int32 × Int32 × Int32 × Int32 × mS) ⊕ (Int32 × mS))} {q : Int32 × mS} (h0 : mj_ld l 0 = some (.ref a)) (h1 : mj_ld l 1 = some (.int x1)) (h2 : mj_ld l 2 = some (.int x2)) (h3 : mj_ld l 3 = some (.int x3)) (h4 : mj_ld l 4 = some (.int x4)) (h5 : mj_ld l 5 = some (.int x5)) (e : J278_78 N x1 x2 x3 x4 x5 s0 S = some o) (g : GG278_49 xt ct a ra d q o) : MR xt ct a ra (d + 6) 278 78 l [.int s0, .ref a] S (.inl (some (.int q.1))) q.2 := by
  unfold J278_78 at e
  exact (
  M_of (fun _ _ H => r_iloadn c278_78 h3 <| r_iload c278_79 h4 <| r_iconst c278_81 <| r_iconst c278_82 <| r_aloadn c278_83 h0 <| H) <|
  M_geta (j := 48) c278_84 (by decide) <|
  M_of (fun _ _ H => r_bipush c278_87 <| r_iloadn c278_89 h3 <| r_imul c278_90 rfl <| r_iload c278_91 h4 <| r_iadd c278_93 rfl <| H) <|
  t_ck e fun i23 e24 =>
  M_lald (j := 48) (v := (S.2.2 48 (((64 * x3) + x4)).toInt.toNat)) c278_94 (by decide) i23 rfl <|
  M_of (fun _ _ H => r_aloadn c278_95 h0 <| H) <|
  M_geta (j := 42) c278_96 (by decide) <|
  M_of (fun _ _ H => r_iload c278_99 h5 <| H) <|
  t_ck e24 fun i25 e26 =>
  M_lald (j := 42) (v := (S.2.2 42 (x5).toInt.toNat)) c278_101 (by decide) i25 rfl <|
  M_of (fun _ _ H => r_lmul c278_102 rfl <| H) <|
  t_bd e26 fun r27 c28 e29 =>
  M_cv (as := [.ref a, .int s0, .int x3, .int x4, .int (-1), .int 0, .long ((S.2.2 48 (((64 * x3) + x4)).toInt.toNat) * (S.2.2 42 (x5).toInt.toNat))]) (st' := []) (v := none) c278_103 rfl ⟨Nat.le_of_ble_eq_true rfl, Nat.le_of_ble_eq_true rfl, Nat.le_of_ble_eq_true rfl⟩ rfl rfl (M270_ok (d := d) c28) (Nat.add_lt_add_left (by decide) d) <|
  M_of (fun _ _ H => r_iinc c278_106 h5 <| r_goto c278_109 <| H) <|
  t_rg e29 g (fun (e : LG278_49 xt ct a ra d q x1 x2 x3 x4 (x5 + 1) r27) => e _ (ld1_ne h0 (by decide) (Or.inl (by decide))) (ld1_ne h1 (by decide) (Or.inl (by decide))) (ld1_ne h2 (by decide) (Or.inl (by decide))) (ld1_ne h3 (by decide) (Or.inl (by decide))) (ld1_ne h4 (by decide) (Or.inr rfl)) ld1_eq))
def B278_49 (N : Nat) (s : Int32 × Int32 × Int32 × Int32 × Int32 × mS) : Option ((Int32 × Int32 × Int32 × Int32 × Int32 × mS) ⊕ ((Int32 × Int32 × Int32 × Int32 × mS) ⊕ (Int32 × mS))) :=
  bif mj_c2 .ge s.2.2.2.2.1 (s.2.2.2.2.2.1 45) then
    some (.inr (.inl (s.1, s.2.1, s.2.2.1, (s.2.2.2.1 + 1), s.2.2.2.2.2)))
  else
  if 0 ≤ (s.2.2.2.2.1).toInt ∧ (s.2.2.2.2.1).toInt < mN 41 then
  bif mj_c1 .eq (s.2.2.2.2.2.2.1 41 (s.2.2.2.2.1).toInt.toNat) then
    J278_78 N s.1 s.2.1 s.2.2.1 s.2.2.2.1 s.2.2.2.2.1 (s.2.2.1 + 2) s.2.2.2.2.2
  else
  J278_78 N s.1 s.2.1 s.2.2.1 s.2.2.2.1 s.2.2.2.2.1 (s.2.2.1 + 1) s.2.2.2.2.2
  else none
def L278_49 (N : Nat) (s : Int32 × Int32 × Int32 × Int32 × Int32 × mS) : Option ((Int32 × Int32 × Int32 × Int32 × mS) ⊕ (Int32 × mS)) := t_lp (B278_49 N) N s
theorem B278_49_ok {xt : mj_X} {ct : Nat → Value} {a : Nat} {ra : Nat → Nat} {d N : Nat} {s : Int32 × Int32 × Int32 × Int32 × Int32 × mS} {o : (Int32 × Int32 × Int32 × Int32 × Int32 × mS) ⊕ ((Int32 × Int32 × Int32 × Int32 × mS) ⊕ (Int32 × mS))} {q : Int32 × mS} (e : B278_49 N s = some o) (g : GG278_49 xt ct a ra d q o) : LG278_49 xt ct a ra d q s.1 s.2.1 s.2.2.1 s.2.2.2.1 s.2.2.2.2.1 s.2.2.2.2.2 := by
  unfold B278_49 at e
  exact (fun l h0 h1 h2 h3 h4 h5 =>
  M_of (fun _ _ H => r_iload c278_49 h5 <| r_aloadn c278_51 h0 <| H) <|
  M_get (v := (s.2.2.2.2.2.1 45)) c278_52 (by decide) rfl <|
  t_if e (fun b17 e18 =>
    M_of (fun _ _ H => r_icmpT c278_55 b17 <| H) <|
    M_of (fun _ _ H => r_iinc c278_112 h4 <| r_goto c278_115 <| H) <|
    t_rg e18 g (fun (e : LG278_21 xt ct a ra d q s.1 s.2.1 s.2.2.1 (s.2.2.2.1 + 1) s.2.2.2.2.2) => e _ (ld1_ne h0 (by decide) (Or.inl (by decide))) (ld1_ne h1 (by decide) (Or.inl (by decide))) (ld1_ne h2 (by decide) (Or.inl (by decide))) (ld1_ne h3 (by decide) (Or.inr rfl)) ld1_eq)
  ) (fun b17 e18 =>
    M_of (fun _ _ H => r_icmpF c278_55 b17 <| H) <|
    M_of (fun _ _ H => r_aloadn c278_58 h0 <| r_aloadn c278_59 h0 <| H) <|
    M_geta (j := 41) c278_60 (by decide) <|
    M_of (fun _ _ H => r_iload c278_63 h5 <| H) <|
    t_ck e18 fun i19 e20 =>
    M_iald (j := 41) (v := (s.2.2.2.2.2.2.1 41 (s.2.2.2.2.1).toInt.toNat)) c278_65 (by decide) i19 rfl <|
    t_if e20 (fun b21 e22 =>
      M_of (fun _ _ H => r_ifT c278_66 b21 <| H) <|
      M_of (fun _ _ H => r_iloadn c278_75 h3 <| r_iconst c278_76 <| r_iadd c278_77 rfl <| H) <|
      J278_78_ok h0 h1 h2 h3 h4 h5 e22 g
    ) (fun b21 e22 =>
      M_of (fun _ _ H => r_ifF c278_66 b21 <| H) <|
      M_of (fun _ _ H => r_iloadn c278_69 h3 <| r_iconst c278_70 <| r_iadd c278_71 rfl <| r_goto c278_72 <| H) <|
      J278_78_ok h0 h1 h2 h3 h4 h5 e22 g
    )
  ))
theorem L278_49_ok {xt : mj_X} {ct : Nat → Value} {a : Nat} {ra : Nat → Nat} {d N : Nat} {x1 : Int32} {x2 : Int32} {x3 : Int32} {x4 : Int32} {x5 : Int32} {S : mS} {o : (Int32 × Int32 × Int32 × Int32 × mS) ⊕ (Int32 × mS)} {q : Int32 × mS} (e : L278_49 N (x1, x2, x3, x4, x5, S) = some o) (g : GG278_21 xt ct a ra d q o) : LG278_49 xt ct a ra d q x1 x2 x3 x4 x5 S :=
  t_lp_ok (G := fun s => LG278_49 xt ct a ra d q s.1 s.2.1 s.2.2.1 s.2.2.2.1 s.2.2.2.2.1 s.2.2.2.2.2) (fun s s' e g => B278_49_ok e (by obtain ⟨_, _, _, _, _, _⟩ := s'; exact g)) (fun s e => B278_49_ok e g) N (x1, x2, x3, x4, x5, S) e
def B278_21 (N : Nat) (s : Int32 × Int32 × Int32 × Int32 × mS) : Option ((Int32 × Int32 × Int32 × Int32 × mS) ⊕ (Int32 × mS)) :=
  if 0 ≤ (s.2.2.1).toInt ∧ (s.2.2.1).toInt < mN 49 then
  bif mj_c2 .ge s.2.2.2.1 (s.2.2.2.2.2.1 49 (s.2.2.1).toInt.toNat) then
    (M268 N s.2.2.1 (s.2.2.1 + 2) s.2.2.2.2).bind fun r9 =>
    some (.inr (1, r9))
  else
  (M279 N s.1 s.2.1 s.2.2.1 s.2.2.2.1 s.2.2.2.2).bind fun r12 =>
  bif mj_c1 .ne r12.1 then
    L278_49 N (s.1, s.2.1, s.2.2.1, s.2.2.2.1, 0, r12.2)
  else
  some (.inr (0, r12.2))
  else none
def L278_21 (N : Nat) (s : Int32 × Int32 × Int32 × Int32 × mS) : Option (Int32 × mS) := t_lp (B278_21 N) N s
theorem B278_21_ok {xt : mj_X} {ct : Nat → Value} {a : Nat} {ra : Nat → Nat} {d N : Nat} {s : Int32 × Int32 × Int32 × Int32 × mS} {o : (Int32 × Int32 × Int32 × Int32 × mS) ⊕ (Int32 × mS)} {q : Int32 × mS} (e : B278_21 N s = some o) (g : GG278_21 xt ct a ra d q o) : LG278_21 xt ct a ra d q s.1 s.2.1 s.2.2.1 s.2.2.2.1 s.2.2.2.2 := by
  unfold B278_21 at e
  exact (fun l h0 h1 h2 h3 h4 =>
  M_of (fun _ _ H => r_iload c278_21 h4 <| r_aloadn c278_23 h0 <| H) <|
  M_geta (j := 49) c278_24 (by decide) <|
  M_of (fun _ _ H => r_iloadn c278_27 h3 <| H) <|
  t_ck e fun i5 e6 =>
  M_iald (j := 49) (v := (s.2.2.2.2.2.1 49 (s.2.2.1).toInt.toNat)) c278_28 (by decide) i5 rfl <|
  t_if e6 (fun b7 e8 =>
    M_of (fun _ _ H => r_icmpT c278_29 b7 <| H) <|
    M_of (fun _ _ H => r_aloadn c278_118 h0 <| r_iloadn c278_119 h3 <| r_iloadn c278_120 h3 <| r_iconst c278_121 <| r_iadd c278_122 rfl <| H) <|
    t_bd e8 fun r9 c10 e11 =>
    M_cv (as := [.ref a, .int s.2.2.1, .int (s.2.2.1 + 2)]) (st' := []) (v := none) c278_123 rfl ⟨Nat.le_of_ble_eq_true rfl, Nat.le_of_ble_eq_true rfl, Nat.le_of_ble_eq_true rfl⟩ rfl rfl (M268_ok (d := d) c10) (Nat.add_lt_add_left (by decide) d) <|
    M_of (fun _ _ H => r_iconst c278_126 <| H) <|
    t_rg e11 g (fun (e : (1, r9) = q) => M_ri (e) (fun _ => r_iret c278_127 rfl))
  ) (fun b7 e8 =>
    M_of (fun _ _ H => r_icmpF c278_29 b7 <| H) <|
    M_of (fun _ _ H => r_aloadn c278_32 h0 <| r_iloadn c278_33 h1 <| r_iloadn c278_34 h2 <| r_iloadn c278_35 h3 <| r_iload c278_36 h4 <| H) <|
    t_bd e8 fun r12 c13 e14 =>
    M_cv (as := [.ref a, .int s.1, .int s.2.1, .int s.2.2.1, .int s.2.2.2.1]) (st' := [.int r12.1]) (v := (some (.int r12.1))) c278_38 rfl ⟨Nat.le_of_ble_eq_true rfl, Nat.le_of_ble_eq_true rfl, Nat.le_of_ble_eq_true rfl⟩ rfl rfl (M279_ok (d := d) c13) (Nat.add_lt_add_left (by decide) d) <|
    t_if e14 (fun b15 e16 =>
      M_of (fun _ _ H => r_ifT c278_41 b15 <| H) <|
      M_of (fun _ _ H => r_iconst c278_46 <| r_istore c278_47 <| H) <|
      L278_49_ok e16 g _ (ld1_ne h0 (by decide) (Or.inl (by decide))) (ld1_ne h1 (by decide) (Or.inl (by decide))) (ld1_ne h2 (by decide) (Or.inl (by decide))) (ld1_ne h3 (by decide) (Or.inl (by decide))) (ld1_ne h4 (by decide) (Or.inr rfl)) ld1_eq
    ) (fun b15 e16 =>
      M_of (fun _ _ H => r_ifF c278_41 b15 <| H) <|
      M_of (fun _ _ H => r_iconst c278_44 <| H) <|
      t_rg e16 g (fun (e : (0, r12.2) = q) => M_ri (e) (fun _ => r_iret c278_45 rfl))
    )
  ))
theorem L278_21_ok {xt : mj_X} {ct : Nat → Value} {a : Nat} {ra : Nat → Nat} {d N : Nat} {x1 : Int32} {x2 : Int32} {x3 : Int32} {x4 : Int32} {S : mS} {q : Int32 × mS} (e : L278_21 N (x1, x2, x3, x4, S) = some q) : LG278_21 xt ct a ra d q x1 x2 x3 x4 S :=
  t_lp_ok (G := fun s => LG278_21 xt ct a ra d q s.1 s.2.1 s.2.2.1 s.2.2.2.1 s.2.2.2.2) (fun s s' e g => B278_21_ok e (by obtain ⟨_, _, _, _, _⟩ := s'; exact g)) (fun s e => B278_21_ok e rfl) N (x1, x2, x3, x4, S) e
/-- part(III)Z -/
def M278 (N : Nat) (x1 : Int32) (x2 : Int32) (x3 : Int32) (S : mS) : Option (Int32 × mS) :=
  if 0 ≤ ((x3 + 1)).toInt ∧ ((x3 + 1)).toInt < mN 49 then
  if 0 ≤ ((x3 + 2)).toInt ∧ ((x3 + 2)).toInt < mN 49 then
  L278_21 N (x1, x2, x3, 0, (m_sA (m_sA S 49 ((x3 + 1)).toInt.toNat 0) 49 ((x3 + 2)).toInt.toNat 0))
  else none
  else none
theorem M278_ok {xt : mj_X} {ct : Nat → Value} {a : Nat} {ra : Nat → Nat} {d N : Nat} {x1 : Int32} {x2 : Int32} {x3 : Int32} {S : mS} {q : Int32 × mS} (e : M278 N x1 x2 x3 S = some q) : MR xt ct a ra (d + 6) 278 0 (lv_args 0 [.ref a, .int x1, .int x2, .int x3]) [] S (.inl (some (.int q.1))) q.2 := by
  unfold M278 at e
  exact (
  M_of (fun _ _ H => r_aloadn c278_0 rfl <| H) <|
  M_geta (j := 49) c278_1 (by decide) <|
  M_of (fun _ _ H => r_iloadn c278_4 rfl <| r_iconst c278_5 <| r_iadd c278_6 rfl <| r_iconst c278_7 <| H) <|
  t_ck e fun i1 e2 =>
  M_iast (j := 49) c278_8 (by decide) i1 <|
  M_of (fun _ _ H => r_aloadn c278_9 rfl <| H) <|
  M_geta (j := 49) c278_10 (by decide) <|
  M_of (fun _ _ H => r_iloadn c278_13 rfl <| r_iconst c278_14 <| r_iadd c278_15 rfl <| r_iconst c278_16 <| H) <|
  t_ck e2 fun i3 e4 =>
  M_iast (j := 49) c278_17 (by decide) i3 <|
  M_of (fun _ _ H => r_iconst c278_18 <| r_istore c278_19 <| H) <|
  L278_21_ok e4 _ (ld1_ne rfl (by decide) (Or.inl (by decide))) (ld1_ne rfl (by decide) (Or.inl (by decide))) (ld1_ne rfl (by decide) (Or.inl (by decide))) (ld1_ne rfl (by decide) (Or.inr rfl)) ld1_eq)
def LG286_15 (xt : mj_X) (ct : Nat → Value) (a : Nat) (ra : Nat → Nat) (d : Nat) (q : Int32 × mS) (x1 : Int32) (x2 : Int32) (x3 : Int32) (x4 : Int32) (x5 : Int32) (S : mS) : Prop := ∀ l, mj_ld l 0 = some (.ref a) → mj_ld l 1 = some (.int x1) → mj_ld l 2 = some (.int x2) → mj_ld l 3 = some (.int x3) → mj_ld l 4 = some (.int x4) → mj_ld l 5 = some (.int x5) → MR xt ct a ra (d + 6) 286 15 l [] S (.inl (some (.int q.1))) q.2
def GG286_15 (xt : mj_X) (ct : Nat → Value) (a : Nat) (ra : Nat → Nat) (d : Nat) (q : Int32 × mS) (o : (Int32 × Int32 × Int32 × Int32 × Int32 × mS) ⊕ (Int32 × mS)) : Prop := match o with
  | .inl (x1, x2, x3, x4, x5, S) => LG286_15 xt ct a ra d q x1 x2 x3 x4 x5 S
  | .inr r => r = q
def LG286_43 (xt : mj_X) (ct : Nat → Value) (a : Nat) (ra : Nat → Nat) (d : Nat) (q : Int32 × mS) (x1 : Int32) (x2 : Int32) (x3 : Int32) (x4 : Int32) (x5 : Int32) (x6 : Int32) (S : mS) : Prop := ∀ l, mj_ld l 0 = some (.ref a) → mj_ld l 1 = some (.int x1) → mj_ld l 2 = some (.int x2) → mj_ld l 3 = some (.int x3) → mj_ld l 4 = some (.int x4) → mj_ld l 5 = some (.int x5) → mj_ld l 6 = some (.int x6) → MR xt ct a ra (d + 6) 286 43 l [] S (.inl (some (.int q.1))) q.2
def GG286_43 (xt : mj_X) (ct : Nat → Value) (a : Nat) (ra : Nat → Nat) (d : Nat) (q : Int32 × mS) (o : (Int32 × Int32 × Int32 × Int32 × Int32 × Int32 × mS) ⊕ ((Int32 × Int32 × Int32 × Int32 × Int32 × mS) ⊕ (Int32 × mS))) : Prop := match o with
  | .inl (x1, x2, x3, x4, x5, x6, S) => LG286_43 xt ct a ra d q x1 x2 x3 x4 x5 x6 S
  | .inr r => GG286_15 xt ct a ra d q r
def J286_141 (N : Nat) (x1 : Int32) (x2 : Int32) (x3 : Int32) (x4 : Int32) (x5 : Int32) (x6 : Int32)  (S : mS) : Option ((Int32 × Int32 × Int32 × Int32 × Int32 × Int32 × mS) ⊕ ((Int32 × Int32 × Int32 × Int32 × Int32 × mS) ⊕ (Int32 × mS))) :=
  some (.inl (x1, x2, x3, x4, x5, (x6 + 1), S))
theorem J286_141_ok {xt : mj_X} {ct : Nat → Value} {a : Nat} {ra : Nat → Nat} {d N : Nat} {l : mj_L} {x1 : Int32} {x2 : Int32} {x3 : Int32} {x4 : Int32} {x5 : Int32} {x6 : Int32}  {S : mS} {o : (Int32 × Int32 × Int32 × Int32 × Int32 × Int32 × mS) ⊕ ((Int32 × Int32 × Int32 × Int32 × Int32 × mS) ⊕ (Int32 × mS))} {q : Int32 × mS} (h0 : mj_ld l 0 = some (.ref a)) (h1 : mj_ld l 1 = some (.int x1)) (h2 : mj_ld l 2 = some (.int x2)) (h3 : mj_ld l 3 = some (.int x3)) (h4 : mj_ld l 4 = some (.int x4)) (h5 : mj_ld l 5 = some (.int x5)) (h6 : mj_ld l 6 = some (.int x6)) (e : J286_141 N x1 x2 x3 x4 x5 x6  S = some o) (g : GG286_43 xt ct a ra d q o) : MR xt ct a ra (d + 6) 286 141 l [] S (.inl (some (.int q.1))) q.2 := by
  unfold J286_141 at e
  exact (
  M_of (fun _ _ H => r_iinc c286_141 h6 <| r_goto c286_144 <| H) <|
  t_rg e g (fun (e : LG286_43 xt ct a ra d q x1 x2 x3 x4 x5 (x6 + 1) S) => e _ (ld1_ne h0 (by decide) (Or.inl (by decide))) (ld1_ne h1 (by decide) (Or.inl (by decide))) (ld1_ne h2 (by decide) (Or.inl (by decide))) (ld1_ne h3 (by decide) (Or.inl (by decide))) (ld1_ne h4 (by decide) (Or.inl (by decide))) (ld1_ne h5 (by decide) (Or.inr rfl)) ld1_eq))
def J286_111 (N : Nat) (x1 : Int32) (x2 : Int32) (x3 : Int32) (x4 : Int32) (x5 : Int32) (x6 : Int32) (s0 : Int32) (s1 : Int32) (s2 : Int32) (s3 : Int32) (S : mS) : Option ((Int32 × Int32 × Int32 × Int32 × Int32 × Int32 × mS) ⊕ ((Int32 × Int32 × Int32 × Int32 × Int32 × mS) ⊕ (Int32 × mS))) :=
  if 0 ≤ (x6).toInt ∧ (x6).toInt < mN 41 then
  if 0 ≤ (((64 * x3) + x5)).toInt ∧ (((64 * x3) + x5)).toInt < mN 48 then
  if 0 ≤ (x6).toInt ∧ (x6).toInt < mN 42 then
  (M270 N s3 s2 s1 s0 (S.2.1 41 (x6).toInt.toNat) ((S.2.2 48 (((64 * x3) + x5)).toInt.toNat) * (S.2.2 42 (x6).toInt.toNat)) S).bind fun r36 =>
  J286_141 N x1 x2 x3 x4 x5 x6 r36
  else none
  else none
  else none
theorem J286_111_ok {xt : mj_X} {ct : Nat → Value} {a : Nat} {ra : Nat → Nat} {d N : Nat} {l : mj_L} {x1 : Int32} {x2 : Int32} {x3 : Int32} {x4 : Int32} {x5 : Int32} {x6 : Int32} {s0 : Int32} {s1 : Int32} {s2 : Int32} {s3 : Int32} {S : mS} {o : (Int32 × Int32 × Int32 × Int32 × Int32 × Int32 × mS) ⊕ ((Int32 × Int32 × Int32 × Int32 × Int32 × mS) ⊕ (Int32 × mS))} {q : Int32 × mS} (h0 : mj_ld l 0 = some (.ref a)) (h1 : mj_ld l 1 = some (.int x1)) (h2 : mj_ld l 2 = some (.int x2)) (h3 : mj_ld l 3 = some (.int x3)) (h4 : mj_ld l 4 = some (.int x4)) (h5 : mj_ld l 5 = some (.int x5)) (h6 : mj_ld l 6 = some (.int x6)) (e : J286_111 N x1 x2 x3 x4 x5 x6 s0 s1 s2 s3 S = some o) (g : GG286_43 xt ct a ra d q o) : MR xt ct a ra (d + 6) 286 111 l [.int s0, .int s1, .int s2, .int s3, .ref a] S (.inl (some (.int q.1))) q.2 := by
  unfold J286_111 at e
  exact (
  M_of (fun _ _ H => r_aloadn c286_111 h0 <| H) <|
  M_geta (j := 41) c286_112 (by decide) <|
  M_of (fun _ _ H => r_iload c286_115 h6 <| H) <|
  t_ck e fun i30 e31 =>
  M_iald (j := 41) (v := (S.2.1 41 (x6).toInt.toNat)) c286_117 (by decide) i30 rfl <|
  M_of (fun _ _ H => r_aloadn c286_118 h0 <| H) <|
  M_geta (j := 48) c286_119 (by decide) <|
  M_of (fun _ _ H => r_bipush c286_122 <| r_iloadn c286_124 h3 <| r_imul c286_125 rfl <| r_iload c286_126 h5 <| r_iadd c286_128 rfl <| H) <|
  t_ck e31 fun i32 e33 =>
  M_lald (j := 48) (v := (S.2.2 48 (((64 * x3) + x5)).toInt.toNat)) c286_129 (by decide) i32 rfl <|
  M_of (fun _ _ H => r_aloadn c286_130 h0 <| H) <|
  M_geta (j := 42) c286_131 (by decide) <|
  M_of (fun _ _ H => r_iload c286_134 h6 <| H) <|
  t_ck e33 fun i34 e35 =>
  M_lald (j := 42) (v := (S.2.2 42 (x6).toInt.toNat)) c286_136 (by decide) i34 rfl <|
  M_of (fun _ _ H => r_lmul c286_137 rfl <| H) <|
  t_bd e35 fun r36 c37 e38 =>
  M_cv (as := [.ref a, .int s3, .int s2, .int s1, .int s0, .int (S.2.1 41 (x6).toInt.toNat), .long ((S.2.2 48 (((64 * x3) + x5)).toInt.toNat) * (S.2.2 42 (x6).toInt.toNat))]) (st' := []) (v := none) c286_138 rfl ⟨Nat.le_of_ble_eq_true rfl, Nat.le_of_ble_eq_true rfl, Nat.le_of_ble_eq_true rfl⟩ rfl rfl (M270_ok (d := d) c37) (Nat.add_lt_add_left (by decide) d) <|
  J286_141_ok h0 h1 h2 h3 h4 h5 h6 e38 g)
def J286_77 (N : Nat) (x1 : Int32) (x2 : Int32) (x3 : Int32) (x4 : Int32) (x5 : Int32) (x6 : Int32) (s0 : Int32) (S : mS) : Option ((Int32 × Int32 × Int32 × Int32 × Int32 × Int32 × mS) ⊕ ((Int32 × Int32 × Int32 × Int32 × Int32 × mS) ⊕ (Int32 × mS))) :=
  bif mj_c1 .eq s0 then
    J286_141 N x1 x2 x3 x4 x5 x6 S
  else
  if 0 ≤ (x4).toInt ∧ (x4).toInt < mN 6 then
  bif mj_c1 .ne (S.2.1 6 (x4).toInt.toNat) then
    J286_111 N x1 x2 x3 x4 x5 x6 (-1) x5 x3 9 S
  else
  if 0 ≤ (x4).toInt ∧ (x4).toInt < mN 7 then
  J286_111 N x1 x2 x3 x4 x5 x6 (S.2.1 7 (x4).toInt.toNat) x5 x3 9 S
  else none
  else none
theorem J286_77_ok {xt : mj_X} {ct : Nat → Value} {a : Nat} {ra : Nat → Nat} {d N : Nat} {l : mj_L} {x1 : Int32} {x2 : Int32} {x3 : Int32} {x4 : Int32} {x5 : Int32} {x6 : Int32} {s0 : Int32} {S : mS} {o : (Int32 × Int32 × Int32 × Int32 × Int32 × Int32 × mS) ⊕ ((Int32 × Int32 × Int32 × Int32 × Int32 × mS) ⊕ (Int32 × mS))} {q : Int32 × mS} (h0 : mj_ld l 0 = some (.ref a)) (h1 : mj_ld l 1 = some (.int x1)) (h2 : mj_ld l 2 = some (.int x2)) (h3 : mj_ld l 3 = some (.int x3)) (h4 : mj_ld l 4 = some (.int x4)) (h5 : mj_ld l 5 = some (.int x5)) (h6 : mj_ld l 6 = some (.int x6)) (e : J286_77 N x1 x2 x3 x4 x5 x6 s0 S = some o) (g : GG286_43 xt ct a ra d q o) : MR xt ct a ra (d + 6) 286 77 l [.int s0] S (.inl (some (.int q.1))) q.2 := by
  unfold J286_77 at e
  exact (
  M_of (fun _ _ H => r_istore c286_77 <| r_iload c286_79 ld1_eq <| H) <|
  t_if e (fun b24 e25 =>
    M_of (fun _ _ H => r_ifT c286_81 b24 <| H) <|
    J286_141_ok (ld1_ne h0 (by decide) (Or.inl (by decide))) (ld1_ne h1 (by decide) (Or.inl (by decide))) (ld1_ne h2 (by decide) (Or.inl (by decide))) (ld1_ne h3 (by decide) (Or.inl (by decide))) (ld1_ne h4 (by decide) (Or.inl (by decide))) (ld1_ne h5 (by decide) (Or.inl (by decide))) (ld1_ne h6 (by decide) (Or.inr rfl)) e25 g
  ) (fun b24 e25 =>
    M_of (fun _ _ H => r_ifF c286_81 b24 <| H) <|
    M_of (fun _ _ H => r_aloadn c286_84 (ld1_ne h0 (by decide) (Or.inl (by decide))) <| r_bipush c286_85 <| r_iloadn c286_87 (ld1_ne h3 (by decide) (Or.inl (by decide))) <| r_iload c286_88 (ld1_ne h5 (by decide) (Or.inl (by decide))) <| r_aloadn c286_90 (ld1_ne h0 (by decide) (Or.inl (by decide))) <| H) <|
    M_geta (j := 6) c286_91 (by decide) <|
    M_of (fun _ _ H => r_iload c286_94 (ld1_ne h4 (by decide) (Or.inl (by decide))) <| H) <|
    t_ck e25 fun i26 e27 =>
    M_iald (j := 6) (v := (S.2.1 6 (x4).toInt.toNat)) c286_96 (by decide) i26 rfl <|
    t_if e27 (fun b28 e29 =>
      M_of (fun _ _ H => r_ifT c286_97 b28 <| H) <|
      M_of (fun _ _ H => r_iconst c286_110 <| H) <|
      J286_111_ok (ld1_ne h0 (by decide) (Or.inl (by decide))) (ld1_ne h1 (by decide) (Or.inl (by decide))) (ld1_ne h2 (by decide) (Or.inl (by decide))) (ld1_ne h3 (by decide) (Or.inl (by decide))) (ld1_ne h4 (by decide) (Or.inl (by decide))) (ld1_ne h5 (by decide) (Or.inl (by decide))) (ld1_ne h6 (by decide) (Or.inr rfl)) e29 g
    ) (fun b28 e29 =>
      M_of (fun _ _ H => r_ifF c286_97 b28 <| H) <|
      M_of (fun _ _ H => r_aloadn c286_100 (ld1_ne h0 (by decide) (Or.inl (by decide))) <| H) <|
      M_geta (j := 7) c286_101 (by decide) <|
      M_of (fun _ _ H => r_iload c286_104 (ld1_ne h4 (by decide) (Or.inl (by decide))) <| H) <|
      t_ck e29 fun i39 e40 =>
      M_iald (j := 7) (v := (S.2.1 7 (x4).toInt.toNat)) c286_106 (by decide) i39 rfl <|
      M_of (fun _ _ H => r_goto c286_107 <| H) <|
      J286_111_ok (ld1_ne h0 (by decide) (Or.inl (by decide))) (ld1_ne h1 (by decide) (Or.inl (by decide))) (ld1_ne h2 (by decide) (Or.inl (by decide))) (ld1_ne h3 (by decide) (Or.inl (by decide))) (ld1_ne h4 (by decide) (Or.inl (by decide))) (ld1_ne h5 (by decide) (Or.inl (by decide))) (ld1_ne h6 (by decide) (Or.inr rfl)) e40 g
    )
  ))
def J286_72 (N : Nat) (x1 : Int32) (x2 : Int32) (x3 : Int32) (x4 : Int32) (x5 : Int32) (x6 : Int32)  (S : mS) : Option ((Int32 × Int32 × Int32 × Int32 × Int32 × Int32 × mS) ⊕ ((Int32 × Int32 × Int32 × Int32 × Int32 × mS) ⊕ (Int32 × mS))) :=
  J286_77 N x1 x2 x3 x4 x5 x6 1 S
theorem J286_72_ok {xt : mj_X} {ct : Nat → Value} {a : Nat} {ra : Nat → Nat} {d N : Nat} {l : mj_L} {x1 : Int32} {x2 : Int32} {x3 : Int32} {x4 : Int32} {x5 : Int32} {x6 : Int32}  {S : mS} {o : (Int32 × Int32 × Int32 × Int32 × Int32 × Int32 × mS) ⊕ ((Int32 × Int32 × Int32 × Int32 × Int32 × mS) ⊕ (Int32 × mS))} {q : Int32 × mS} (h0 : mj_ld l 0 = some (.ref a)) (h1 : mj_ld l 1 = some (.int x1)) (h2 : mj_ld l 2 = some (.int x2)) (h3 : mj_ld l 3 = some (.int x3)) (h4 : mj_ld l 4 = some (.int x4)) (h5 : mj_ld l 5 = some (.int x5)) (h6 : mj_ld l 6 = some (.int x6)) (e : J286_72 N x1 x2 x3 x4 x5 x6  S = some o) (g : GG286_43 xt ct a ra d q o) : MR xt ct a ra (d + 6) 286 72 l [] S (.inl (some (.int q.1))) q.2 := by
  unfold J286_72 at e
  exact (
  M_of (fun _ _ H => r_iconst c286_72 <| r_goto c286_73 <| H) <|
  J286_77_ok h0 h1 h2 h3 h4 h5 h6 e g)
def B286_43 (N : Nat) (s : Int32 × Int32 × Int32 × Int32 × Int32 × Int32 × mS) : Option ((Int32 × Int32 × Int32 × Int32 × Int32 × Int32 × mS) ⊕ ((Int32 × Int32 × Int32 × Int32 × Int32 × mS) ⊕ (Int32 × mS))) :=
  bif mj_c2 .ge s.2.2.2.2.2.1 (s.2.2.2.2.2.2.1 45) then
    some (.inr (.inl (s.1, s.2.1, s.2.2.1, s.2.2.2.1, (s.2.2.2.2.1 + 1), s.2.2.2.2.2.2)))
  else
  if 0 ≤ (s.2.2.2.1).toInt ∧ (s.2.2.2.1).toInt < mN 6 then
  bif mj_c1 .eq (s.2.2.2.2.2.2.2.1 6 (s.2.2.2.1).toInt.toNat) then
    J286_72 N s.1 s.2.1 s.2.2.1 s.2.2.2.1 s.2.2.2.2.1 s.2.2.2.2.2.1 s.2.2.2.2.2.2
  else
  if 0 ≤ (s.2.2.2.2.2.1).toInt ∧ (s.2.2.2.2.2.1).toInt < mN 41 then
  bif mj_c1 .eq (s.2.2.2.2.2.2.2.1 41 (s.2.2.2.2.2.1).toInt.toNat) then
    J286_77 N s.1 s.2.1 s.2.2.1 s.2.2.2.1 s.2.2.2.2.1 s.2.2.2.2.2.1 0 s.2.2.2.2.2.2
  else
  J286_72 N s.1 s.2.1 s.2.2.1 s.2.2.2.1 s.2.2.2.2.1 s.2.2.2.2.2.1 s.2.2.2.2.2.2
  else none
  else none
def L286_43 (N : Nat) (s : Int32 × Int32 × Int32 × Int32 × Int32 × Int32 × mS) : Option ((Int32 × Int32 × Int32 × Int32 × Int32 × mS) ⊕ (Int32 × mS)) := t_lp (B286_43 N) N s
theorem B286_43_ok {xt : mj_X} {ct : Nat → Value} {a : Nat} {ra : Nat → Nat} {d N : Nat} {s : Int32 × Int32 × Int32 × Int32 × Int32 × Int32 × mS} {o : (Int32 × Int32 × Int32 × Int32 × Int32 × Int32 × mS) ⊕ ((Int32 × Int32 × Int32 × Int32 × Int32 × mS) ⊕ (Int32 × mS))} {q : Int32 × mS} (e : B286_43 N s = some o) (g : GG286_43 xt ct a ra d q o) : LG286_43 xt ct a ra d q s.1 s.2.1 s.2.2.1 s.2.2.2.1 s.2.2.2.2.1 s.2.2.2.2.2.1 s.2.2.2.2.2.2 := by
  unfold B286_43 at e
  exact (fun l h0 h1 h2 h3 h4 h5 h6 =>
  M_of (fun _ _ H => r_iload c286_43 h6 <| r_aloadn c286_45 h0 <| H) <|
  M_get (v := (s.2.2.2.2.2.2.1 45)) c286_46 (by decide) rfl <|
  t_if e (fun b18 e19 =>
    M_of (fun _ _ H => r_icmpT c286_49 b18 <| H) <|
    M_of (fun _ _ H => r_iinc c286_147 h5 <| r_goto c286_150 <| H) <|
    t_rg e19 g (fun (e : LG286_15 xt ct a ra d q s.1 s.2.1 s.2.2.1 s.2.2.2.1 (s.2.2.2.2.1 + 1) s.2.2.2.2.2.2) => e _ (ld1_ne h0 (by decide) (Or.inl (by decide))) (ld1_ne h1 (by decide) (Or.inl (by decide))) (ld1_ne h2 (by decide) (Or.inl (by decide))) (ld1_ne h3 (by decide) (Or.inl (by decide))) (ld1_ne h4 (by decide) (Or.inr rfl)) ld1_eq)
  ) (fun b18 e19 =>
    M_of (fun _ _ H => r_icmpF c286_49 b18 <| H) <|
    M_of (fun _ _ H => r_aloadn c286_52 h0 <| H) <|
    M_geta (j := 6) c286_53 (by decide) <|
    M_of (fun _ _ H => r_iload c286_56 h4 <| H) <|
    t_ck e19 fun i20 e21 =>
    M_iald (j := 6) (v := (s.2.2.2.2.2.2.2.1 6 (s.2.2.2.1).toInt.toNat)) c286_58 (by decide) i20 rfl <|
    t_if e21 (fun b22 e23 =>
      M_of (fun _ _ H => r_ifT c286_59 b22 <| H) <|
      J286_72_ok h0 h1 h2 h3 h4 h5 h6 e23 g
    ) (fun b22 e23 =>
      M_of (fun _ _ H => r_ifF c286_59 b22 <| H) <|
      M_of (fun _ _ H => r_aloadn c286_62 h0 <| H) <|
      M_geta (j := 41) c286_63 (by decide) <|
      M_of (fun _ _ H => r_iload c286_66 h6 <| H) <|
      t_ck e23 fun i41 e42 =>
      M_iald (j := 41) (v := (s.2.2.2.2.2.2.2.1 41 (s.2.2.2.2.2.1).toInt.toNat)) c286_68 (by decide) i41 rfl <|
      t_if e42 (fun b43 e44 =>
        M_of (fun _ _ H => r_ifT c286_69 b43 <| H) <|
        M_of (fun _ _ H => r_iconst c286_76 <| H) <|
        J286_77_ok h0 h1 h2 h3 h4 h5 h6 e44 g
      ) (fun b43 e44 =>
        M_of (fun _ _ H => r_ifF c286_69 b43 <| H) <|
        J286_72_ok h0 h1 h2 h3 h4 h5 h6 e44 g
      )
    )
  ))
theorem L286_43_ok {xt : mj_X} {ct : Nat → Value} {a : Nat} {ra : Nat → Nat} {d N : Nat} {x1 : Int32} {x2 : Int32} {x3 : Int32} {x4 : Int32} {x5 : Int32} {x6 : Int32} {S : mS} {o : (Int32 × Int32 × Int32 × Int32 × Int32 × mS) ⊕ (Int32 × mS)} {q : Int32 × mS} (e : L286_43 N (x1, x2, x3, x4, x5, x6, S) = some o) (g : GG286_15 xt ct a ra d q o) : LG286_43 xt ct a ra d q x1 x2 x3 x4 x5 x6 S :=
  t_lp_ok (G := fun s => LG286_43 xt ct a ra d q s.1 s.2.1 s.2.2.1 s.2.2.2.1 s.2.2.2.2.1 s.2.2.2.2.2.1 s.2.2.2.2.2.2) (fun s s' e g => B286_43_ok e (by obtain ⟨_, _, _, _, _, _, _⟩ := s'; exact g)) (fun s e => B286_43_ok e g) N (x1, x2, x3, x4, x5, x6, S) e
def B286_15 (N : Nat) (s : Int32 × Int32 × Int32 × Int32 × Int32 × mS) : Option ((Int32 × Int32 × Int32 × Int32 × Int32 × mS) ⊕ (Int32 × mS)) :=
  if 0 ≤ (s.2.2.1).toInt ∧ (s.2.2.1).toInt < mN 49 then
  bif mj_c2 .ge s.2.2.2.2.1 (s.2.2.2.2.2.2.1 49 (s.2.2.1).toInt.toNat) then
    (M274 N s.2.2.1 s.2.2.2.2.2).bind fun r8 =>
    if r8.1 = 0 ∨ r8.1 = 1 then
    some (.inr (r8.1, r8.2))
    else none
  else
  (M279 N s.1 s.2.1 s.2.2.1 s.2.2.2.2.1 s.2.2.2.2.2).bind fun r13 =>
  bif mj_c1 .ne r13.1 then
    L286_43 N (s.1, s.2.1, s.2.2.1, s.2.2.2.1, s.2.2.2.2.1, 0, r13.2)
  else
  some (.inr (0, r13.2))
  else none
def L286_15 (N : Nat) (s : Int32 × Int32 × Int32 × Int32 × Int32 × mS) : Option (Int32 × mS) := t_lp (B286_15 N) N s
theorem B286_15_ok {xt : mj_X} {ct : Nat → Value} {a : Nat} {ra : Nat → Nat} {d N : Nat} {s : Int32 × Int32 × Int32 × Int32 × Int32 × mS} {o : (Int32 × Int32 × Int32 × Int32 × Int32 × mS) ⊕ (Int32 × mS)} {q : Int32 × mS} (e : B286_15 N s = some o) (g : GG286_15 xt ct a ra d q o) : LG286_15 xt ct a ra d q s.1 s.2.1 s.2.2.1 s.2.2.2.1 s.2.2.2.2.1 s.2.2.2.2.2 := by
  unfold B286_15 at e
  exact (fun l h0 h1 h2 h3 h4 h5 =>
  M_of (fun _ _ H => r_iload c286_15 h5 <| r_aloadn c286_17 h0 <| H) <|
  M_geta (j := 49) c286_18 (by decide) <|
  M_of (fun _ _ H => r_iloadn c286_21 h3 <| H) <|
  t_ck e fun i4 e5 =>
  M_iald (j := 49) (v := (s.2.2.2.2.2.2.1 49 (s.2.2.1).toInt.toNat)) c286_22 (by decide) i4 rfl <|
  t_if e5 (fun b6 e7 =>
    M_of (fun _ _ H => r_icmpT c286_23 b6 <| H) <|
    M_of (fun _ _ H => r_aloadn c286_153 h0 <| r_iloadn c286_154 h3 <| H) <|
    t_bd e7 fun r8 c9 e10 =>
    M_cv (as := [.ref a, .int s.2.2.1]) (st' := [.int r8.1]) (v := (some (.int r8.1))) c286_155 rfl ⟨Nat.le_of_ble_eq_true rfl, Nat.le_of_ble_eq_true rfl, Nat.le_of_ble_eq_true rfl⟩ rfl rfl (M274_ok (d := d) c9) (Nat.add_lt_add_left (by decide) d) <|
    t_ck e10 fun z11 e12 =>
    t_rg e12 g (fun (e : (r8.1, r8.2) = q) => M_ri (e) (fun _ => r_iret c286_158 (m_z1 z11)))
  ) (fun b6 e7 =>
    M_of (fun _ _ H => r_icmpF c286_23 b6 <| H) <|
    M_of (fun _ _ H => r_aloadn c286_26 h0 <| r_iloadn c286_27 h1 <| r_iloadn c286_28 h2 <| r_iloadn c286_29 h3 <| r_iload c286_30 h5 <| H) <|
    t_bd e7 fun r13 c14 e15 =>
    M_cv (as := [.ref a, .int s.1, .int s.2.1, .int s.2.2.1, .int s.2.2.2.2.1]) (st' := [.int r13.1]) (v := (some (.int r13.1))) c286_32 rfl ⟨Nat.le_of_ble_eq_true rfl, Nat.le_of_ble_eq_true rfl, Nat.le_of_ble_eq_true rfl⟩ rfl rfl (M279_ok (d := d) c14) (Nat.add_lt_add_left (by decide) d) <|
    t_if e15 (fun b16 e17 =>
      M_of (fun _ _ H => r_ifT c286_35 b16 <| H) <|
      M_of (fun _ _ H => r_iconst c286_40 <| r_istore c286_41 <| H) <|
      L286_43_ok e17 g _ (ld1_ne h0 (by decide) (Or.inl (by decide))) (ld1_ne h1 (by decide) (Or.inl (by decide))) (ld1_ne h2 (by decide) (Or.inl (by decide))) (ld1_ne h3 (by decide) (Or.inl (by decide))) (ld1_ne h4 (by decide) (Or.inl (by decide))) (ld1_ne h5 (by decide) (Or.inr rfl)) ld1_eq
    ) (fun b16 e17 =>
      M_of (fun _ _ H => r_ifF c286_35 b16 <| H) <|
      M_of (fun _ _ H => r_iconst c286_38 <| H) <|
      t_rg e17 g (fun (e : (0, r13.2) = q) => M_ri (e) (fun _ => r_iret c286_39 rfl))
    )
  ))
theorem L286_15_ok {xt : mj_X} {ct : Nat → Value} {a : Nat} {ra : Nat → Nat} {d N : Nat} {x1 : Int32} {x2 : Int32} {x3 : Int32} {x4 : Int32} {x5 : Int32} {S : mS} {q : Int32 × mS} (e : L286_15 N (x1, x2, x3, x4, x5, S) = some q) : LG286_15 xt ct a ra d q x1 x2 x3 x4 x5 S :=
  t_lp_ok (G := fun s => LG286_15 xt ct a ra d q s.1 s.2.1 s.2.2.1 s.2.2.2.1 s.2.2.2.2.1 s.2.2.2.2.2) (fun s s' e g => B286_15_ok e (by obtain ⟨_, _, _, _, _, _⟩ := s'; exact g)) (fun s e => B286_15_ok e rfl) N (x1, x2, x3, x4, x5, S) e
/-- simple(III)Z -/
def M286 (N : Nat) (x1 : Int32) (x2 : Int32) (x3 : Int32) (S : mS) : Option (Int32 × mS) :=
  (M273 N S).bind fun r1 =>
  L286_15 N (x1, x2, x3, ((24 * x1) + x2), 0, r1)
theorem M286_ok {xt : mj_X} {ct : Nat → Value} {a : Nat} {ra : Nat → Nat} {d N : Nat} {x1 : Int32} {x2 : Int32} {x3 : Int32} {S : mS} {q : Int32 × mS} (e : M286 N x1 x2 x3 S = some q) : MR xt ct a ra (d + 6) 286 0 (lv_args 0 [.ref a, .int x1, .int x2, .int x3]) [] S (.inl (some (.int q.1))) q.2 := by
  unfold M286 at e
  exact (
  M_of (fun _ _ H => r_bipush c286_0 <| r_iloadn c286_2 rfl <| r_imul c286_3 rfl <| r_iloadn c286_4 rfl <| r_iadd c286_5 rfl <| r_istore c286_6 <| r_aloadn c286_8 (ld1_ne rfl (by decide) (Or.inl (by decide))) <| H) <|
  t_bd e fun r1 c2 e3 =>
  M_cv (as := [.ref a]) (st' := []) (v := none) c286_9 rfl ⟨Nat.le_of_ble_eq_true rfl, Nat.le_of_ble_eq_true rfl, Nat.le_of_ble_eq_true rfl⟩ rfl rfl (M273_ok (d := d) c2) (Nat.add_lt_add_left (by decide) d) <|
  M_of (fun _ _ H => r_iconst c286_12 <| r_istore c286_13 <| H) <|
  L286_15_ok e3 _ (ld1_ne (ld1_ne rfl (by decide) (Or.inl (by decide))) (by decide) (Or.inl (by decide))) (ld1_ne (ld1_ne rfl (by decide) (Or.inl (by decide))) (by decide) (Or.inl (by decide))) (ld1_ne (ld1_ne rfl (by decide) (Or.inl (by decide))) (by decide) (Or.inl (by decide))) (ld1_ne (ld1_ne rfl (by decide) (Or.inr rfl)) (by decide) (Or.inl (by decide))) (ld1_ne ld1_eq (by decide) (Or.inr rfl)) ld1_eq)
def J275_43 (N : Nat) (x3 : Int32)  (S : mS) : Option (Int32 × mS) :=
  if 0 ≤ (x3).toInt ∧ (x3).toInt < mN 11 then
  some ((S.2.1 11 (x3).toInt.toNat), S)
  else none
theorem J275_43_ok {xt : mj_X} {ct : Nat → Value} {a : Nat} {ra : Nat → Nat} {d N : Nat} {l : mj_L} {x3 : Int32}  {S : mS} {q : Int32 × mS} (h0 : mj_ld l 0 = some (.ref a)) (h3 : mj_ld l 3 = some (.int x3)) (e : J275_43 N x3  S = some q) : MR xt ct a ra (d + 7) 275 43 l [] S (.inl (some (.int q.1))) q.2 := by
  unfold J275_43 at e
  exact (
  M_of (fun _ _ H => r_aloadn c275_43 h0 <| H) <|
  M_geta (j := 11) c275_44 (by decide) <|
  M_of (fun _ _ H => r_iloadn c275_47 h3 <| H) <|
  t_ck e fun i8 e9 =>
  M_iald (j := 11) (v := (S.2.1 11 (x3).toInt.toNat)) c275_48 (by decide) i8 rfl <|
  M_ri (Option.some.inj e9) (fun _ => r_iret c275_49 rfl))
def J275_130 (N : Nat)  (s0 : Int32) (S : mS) : Option (Int32 × mS) :=
  some (s0, S)
theorem J275_130_ok {xt : mj_X} {ct : Nat → Value} {a : Nat} {ra : Nat → Nat} {d N : Nat} {l : mj_L}  {s0 : Int32} {S : mS} {q : Int32 × mS} (h0 : mj_ld l 0 = some (.ref a)) (e : J275_130 N  s0 S = some q) : MR xt ct a ra (d + 7) 275 130 l [.int s0] S (.inl (some (.int q.1))) q.2 := by
  unfold J275_130 at e
  exact (
  M_ri (Option.some.inj e) (fun _ => r_iret c275_130 rfl))
def J275_50 (N : Nat) (x1 : Int32) (x2 : Int32) (x3 : Int32) (x4 : Int32)  (S : mS) : Option (Int32 × mS) :=
  if 0 ≤ (x3).toInt ∧ (x3).toInt < mN 6 then
  bif mj_c2 .ne (S.2.1 6 (x3).toInt.toNat) 3 then
    if 0 ≤ (x3).toInt ∧ (x3).toInt < mN 6 then
    bif mj_c2 .ne (S.2.1 6 (x3).toInt.toNat) 2 then
      (M286 N x1 x2 x4 S).bind fun r22 =>
      bif mj_c1 .eq r22.1 then
        J275_130 N (-1) r22.2
      else
      J275_130 N (x2 + 1) r22.2
    else
    (M278 N x1 x2 x4 S).bind fun r27 =>
    bif mj_c1 .ne r27.1 then
      (M277 N x2 x4 1 r27.2).bind fun r32 =>
      some ((x2 + 1), r32)
    else
    some ((-1), r27.2)
    else none
  else
  if 0 ≤ (x3).toInt ∧ (x3).toInt < mN 7 then
  (M277 N x2 x4 (S.2.1 7 (x3).toInt.toNat) S).bind fun r37 =>
  some ((x2 + 1), r37)
  else none
  else none
theorem J275_50_ok {xt : mj_X} {ct : Nat → Value} {a : Nat} {ra : Nat → Nat} {d N : Nat} {l : mj_L} {x1 : Int32} {x2 : Int32} {x3 : Int32} {x4 : Int32}  {S : mS} {q : Int32 × mS} (h0 : mj_ld l 0 = some (.ref a)) (h1 : mj_ld l 1 = some (.int x1)) (h2 : mj_ld l 2 = some (.int x2)) (h3 : mj_ld l 3 = some (.int x3)) (h4 : mj_ld l 4 = some (.int x4)) (e : J275_50 N x1 x2 x3 x4  S = some q) : MR xt ct a ra (d + 7) 275 50 l [] S (.inl (some (.int q.1))) q.2 := by
  unfold J275_50 at e
  exact (
  M_of (fun _ _ H => r_aloadn c275_50 h0 <| H) <|
  M_geta (j := 6) c275_51 (by decide) <|
  M_of (fun _ _ H => r_iloadn c275_54 h3 <| H) <|
  t_ck e fun i14 e15 =>
  M_iald (j := 6) (v := (S.2.1 6 (x3).toInt.toNat)) c275_55 (by decide) i14 rfl <|
  M_of (fun _ _ H => r_iconst c275_56 <| H) <|
  t_if e15 (fun b16 e17 =>
    M_of (fun _ _ H => r_icmpT c275_57 b16 <| H) <|
    M_of (fun _ _ H => r_aloadn c275_77 h0 <| H) <|
    M_geta (j := 6) c275_78 (by decide) <|
    M_of (fun _ _ H => r_iloadn c275_81 h3 <| H) <|
    t_ck e17 fun i18 e19 =>
    M_iald (j := 6) (v := (S.2.1 6 (x3).toInt.toNat)) c275_82 (by decide) i18 rfl <|
    M_of (fun _ _ H => r_iconst c275_83 <| H) <|
    t_if e19 (fun b20 e21 =>
      M_of (fun _ _ H => r_icmpT c275_84 b20 <| H) <|
      M_of (fun _ _ H => r_aloadn c275_112 h0 <| r_iloadn c275_113 h1 <| r_iloadn c275_114 h2 <| r_iload c275_115 h4 <| H) <|
      t_bd e21 fun r22 c23 e24 =>
      M_cv (as := [.ref a, .int x1, .int x2, .int x4]) (st' := [.int r22.1]) (v := (some (.int r22.1))) c275_117 rfl ⟨Nat.le_of_ble_eq_true rfl, Nat.le_of_ble_eq_true rfl, Nat.le_of_ble_eq_true rfl⟩ rfl rfl (M286_ok (d := d) c23) (Nat.add_lt_add_left (by decide) d) <|
      t_if e24 (fun b25 e26 =>
        M_of (fun _ _ H => r_ifT c275_120 b25 <| H) <|
        M_of (fun _ _ H => r_iconst c275_129 <| H) <|
        J275_130_ok h0 e26
      ) (fun b25 e26 =>
        M_of (fun _ _ H => r_ifF c275_120 b25 <| H) <|
        M_of (fun _ _ H => r_iloadn c275_123 h2 <| r_iconst c275_124 <| r_iadd c275_125 rfl <| r_goto c275_126 <| H) <|
        J275_130_ok h0 e26
      )
    ) (fun b20 e21 =>
      M_of (fun _ _ H => r_icmpF c275_84 b20 <| H) <|
      M_of (fun _ _ H => r_aloadn c275_87 h0 <| r_iloadn c275_88 h1 <| r_iloadn c275_89 h2 <| r_iload c275_90 h4 <| H) <|
      t_bd e21 fun r27 c28 e29 =>
      M_cv (as := [.ref a, .int x1, .int x2, .int x4]) (st' := [.int r27.1]) (v := (some (.int r27.1))) c275_92 rfl ⟨Nat.le_of_ble_eq_true rfl, Nat.le_of_ble_eq_true rfl, Nat.le_of_ble_eq_true rfl⟩ rfl rfl (M278_ok (d := d) c28) (Nat.add_lt_add_left (by decide) d) <|
      t_if e29 (fun b30 e31 =>
        M_of (fun _ _ H => r_ifT c275_95 b30 <| H) <|
        M_of (fun _ _ H => r_aloadn c275_100 h0 <| r_iloadn c275_101 h2 <| r_iload c275_102 h4 <| r_iconst c275_104 <| H) <|
        t_bd e31 fun r32 c33 e34 =>
        M_cv (as := [.ref a, .int x2, .int x4, .int 1]) (st' := []) (v := none) c275_105 rfl ⟨Nat.le_of_ble_eq_true rfl, Nat.le_of_ble_eq_true rfl, Nat.le_of_ble_eq_true rfl⟩ rfl rfl (M277_ok (d := d) c33) (Nat.add_lt_add_left (by decide) d) <|
        M_of (fun _ _ H => r_iloadn c275_108 h2 <| r_iconst c275_109 <| r_iadd c275_110 rfl <| H) <|
        M_ri (Option.some.inj e34) (fun _ => r_iret c275_111 rfl)
      ) (fun b30 e31 =>
        M_of (fun _ _ H => r_ifF c275_95 b30 <| H) <|
        M_of (fun _ _ H => r_iconst c275_98 <| H) <|
        M_ri (Option.some.inj e31) (fun _ => r_iret c275_99 rfl)
      )
    )
  ) (fun b16 e17 =>
    M_of (fun _ _ H => r_icmpF c275_57 b16 <| H) <|
    M_of (fun _ _ H => r_aloadn c275_60 h0 <| r_iloadn c275_61 h2 <| r_iload c275_62 h4 <| r_aloadn c275_64 h0 <| H) <|
    M_geta (j := 7) c275_65 (by decide) <|
    M_of (fun _ _ H => r_iloadn c275_68 h3 <| H) <|
    t_ck e17 fun i35 e36 =>
    M_iald (j := 7) (v := (S.2.1 7 (x3).toInt.toNat)) c275_69 (by decide) i35 rfl <|
    t_bd e36 fun r37 c38 e39 =>
    M_cv (as := [.ref a, .int x2, .int x4, .int (S.2.1 7 (x3).toInt.toNat)]) (st' := []) (v := none) c275_70 rfl ⟨Nat.le_of_ble_eq_true rfl, Nat.le_of_ble_eq_true rfl, Nat.le_of_ble_eq_true rfl⟩ rfl rfl (M277_ok (d := d) c38) (Nat.add_lt_add_left (by decide) d) <|
    M_of (fun _ _ H => r_iloadn c275_73 h2 <| r_iconst c275_74 <| r_iadd c275_75 rfl <| H) <|
    M_ri (Option.some.inj e39) (fun _ => r_iret c275_76 rfl)
  ))
/-- perform(II)I -/
def M275 (N : Nat) (x1 : Int32) (x2 : Int32) (S : mS) : Option (Int32 × mS) :=
  (M276 N x1 S).bind fun r1 =>
  if 0 ≤ (r1.1).toInt ∧ (r1.1).toInt < mN 49 then
  bif mj_c1 .eq (r1.2.2.1 49 (r1.1).toInt.toNat) then
    J275_43 N ((24 * x1) + x2) r1.2
  else
  if 0 ≤ (((24 * x1) + x2)).toInt ∧ (((24 * x1) + x2)).toInt < mN 6 then
  bif mj_c2 .ne (r1.2.2.1 6 (((24 * x1) + x2)).toInt.toNat) 3 then
    J275_50 N x1 x2 ((24 * x1) + x2) r1.1 r1.2
  else
  if 0 ≤ (((24 * x1) + x2)).toInt ∧ (((24 * x1) + x2)).toInt < mN 7 then
  bif mj_c1 .ne (r1.2.2.1 7 (((24 * x1) + x2)).toInt.toNat) then
    J275_50 N x1 x2 ((24 * x1) + x2) r1.1 r1.2
  else
  J275_43 N ((24 * x1) + x2) r1.2
  else none
  else none
  else none
theorem M275_ok {xt : mj_X} {ct : Nat → Value} {a : Nat} {ra : Nat → Nat} {d N : Nat} {x1 : Int32} {x2 : Int32} {S : mS} {q : Int32 × mS} (e : M275 N x1 x2 S = some q) : MR xt ct a ra (d + 7) 275 0 (lv_args 0 [.ref a, .int x1, .int x2]) [] S (.inl (some (.int q.1))) q.2 := by
  unfold M275 at e
  exact (
  M_of (fun _ _ H => r_bipush c275_0 <| r_iloadn c275_2 rfl <| r_imul c275_3 rfl <| r_iloadn c275_4 rfl <| r_iadd c275_5 rfl <| r_istoren c275_6 <| r_aloadn c275_7 (ld1_ne rfl (by decide) (Or.inl (by decide))) <| r_iloadn c275_8 (ld1_ne rfl (by decide) (Or.inl (by decide))) <| H) <|
  t_bd e fun r1 c2 e3 =>
  M_cv (as := [.ref a, .int x1]) (st' := [.int r1.1]) (v := (some (.int r1.1))) c275_9 rfl ⟨Nat.le_of_ble_eq_true rfl, Nat.le_of_ble_eq_true rfl, Nat.le_of_ble_eq_true rfl⟩ rfl rfl (M276_ok (d := d) c2) (Nat.add_lt_add_left (by decide) d) <|
  M_of (fun _ _ H => r_istore c275_12 <| r_aloadn c275_14 (ld1_ne (ld1_ne rfl (by decide) (Or.inl (by decide))) (by decide) (Or.inl (by decide))) <| H) <|
  M_geta (j := 49) c275_15 (by decide) <|
  M_of (fun _ _ H => r_iload c275_18 ld1_eq <| H) <|
  t_ck e3 fun i4 e5 =>
  M_iald (j := 49) (v := (r1.2.2.1 49 (r1.1).toInt.toNat)) c275_20 (by decide) i4 rfl <|
  t_if e5 (fun b6 e7 =>
    M_of (fun _ _ H => r_ifT c275_21 b6 <| H) <|
    J275_43_ok (ld1_ne (ld1_ne rfl (by decide) (Or.inl (by decide))) (by decide) (Or.inl (by decide))) (ld1_ne ld1_eq (by decide) (Or.inr rfl)) e7
  ) (fun b6 e7 =>
    M_of (fun _ _ H => r_ifF c275_21 b6 <| H) <|
    M_of (fun _ _ H => r_aloadn c275_24 (ld1_ne (ld1_ne rfl (by decide) (Or.inl (by decide))) (by decide) (Or.inl (by decide))) <| H) <|
    M_geta (j := 6) c275_25 (by decide) <|
    M_of (fun _ _ H => r_iloadn c275_28 (ld1_ne ld1_eq (by decide) (Or.inr rfl)) <| H) <|
    t_ck e7 fun i10 e11 =>
    M_iald (j := 6) (v := (r1.2.2.1 6 (((24 * x1) + x2)).toInt.toNat)) c275_29 (by decide) i10 rfl <|
    M_of (fun _ _ H => r_iconst c275_30 <| H) <|
    t_if e11 (fun b12 e13 =>
      M_of (fun _ _ H => r_icmpT c275_31 b12 <| H) <|
      J275_50_ok (ld1_ne (ld1_ne rfl (by decide) (Or.inl (by decide))) (by decide) (Or.inl (by decide))) (ld1_ne (ld1_ne rfl (by decide) (Or.inl (by decide))) (by decide) (Or.inl (by decide))) (ld1_ne (ld1_ne rfl (by decide) (Or.inr rfl)) (by decide) (Or.inl (by decide))) (ld1_ne ld1_eq (by decide) (Or.inr rfl)) ld1_eq e13
    ) (fun b12 e13 =>
      M_of (fun _ _ H => r_icmpF c275_31 b12 <| H) <|
      M_of (fun _ _ H => r_aloadn c275_34 (ld1_ne (ld1_ne rfl (by decide) (Or.inl (by decide))) (by decide) (Or.inl (by decide))) <| H) <|
      M_geta (j := 7) c275_35 (by decide) <|
      M_of (fun _ _ H => r_iloadn c275_38 (ld1_ne ld1_eq (by decide) (Or.inr rfl)) <| H) <|
      t_ck e13 fun i40 e41 =>
      M_iald (j := 7) (v := (r1.2.2.1 7 (((24 * x1) + x2)).toInt.toNat)) c275_39 (by decide) i40 rfl <|
      t_if e41 (fun b42 e43 =>
        M_of (fun _ _ H => r_ifT c275_40 b42 <| H) <|
        J275_50_ok (ld1_ne (ld1_ne rfl (by decide) (Or.inl (by decide))) (by decide) (Or.inl (by decide))) (ld1_ne (ld1_ne rfl (by decide) (Or.inl (by decide))) (by decide) (Or.inl (by decide))) (ld1_ne (ld1_ne rfl (by decide) (Or.inr rfl)) (by decide) (Or.inl (by decide))) (ld1_ne ld1_eq (by decide) (Or.inr rfl)) ld1_eq e43
      ) (fun b42 e43 =>
        M_of (fun _ _ H => r_ifF c275_40 b42 <| H) <|
        J275_43_ok (ld1_ne (ld1_ne rfl (by decide) (Or.inl (by decide))) (by decide) (Or.inl (by decide))) (ld1_ne ld1_eq (by decide) (Or.inr rfl)) e43
      )
    )
  ))
def LG260_26 (xt : mj_X) (ct : Nat → Value) (a : Nat) (ra : Nat → Nat) (d : Nat) (q : Int32 × mS) (x1 : Int32) (x2 : Int32) (S : mS) : Prop := ∀ l, mj_ld l 0 = some (.ref a) → mj_ld l 1 = some (.int x1) → mj_ld l 2 = some (.int x2) → MR xt ct a ra (d + 8) 260 26 l [] S (.inl (some (.int q.1))) q.2
def GG260_26 (xt : mj_X) (ct : Nat → Value) (a : Nat) (ra : Nat → Nat) (d : Nat) (q : Int32 × mS) (o : (Int32 × Int32 × mS) ⊕ (Int32 × mS)) : Prop := match o with
  | .inl (x1, x2, S) => LG260_26 xt ct a ra d q x1 x2 S
  | .inr r => r = q
def LG260_49 (xt : mj_X) (ct : Nat → Value) (a : Nat) (ra : Nat → Nat) (d : Nat) (q : Int32 × mS) (x1 : Int32) (x2 : Int32) (x3 : Int32) (S : mS) : Prop := ∀ l, mj_ld l 0 = some (.ref a) → mj_ld l 1 = some (.int x1) → mj_ld l 2 = some (.int x2) → mj_ld l 3 = some (.int x3) → MR xt ct a ra (d + 8) 260 49 l [] S (.inl (some (.int q.1))) q.2
def GG260_49 (xt : mj_X) (ct : Nat → Value) (a : Nat) (ra : Nat → Nat) (d : Nat) (q : Int32 × mS) (o : (Int32 × Int32 × Int32 × mS) ⊕ (Int32 × mS)) : Prop := match o with
  | .inl (x1, x2, x3, S) => LG260_49 xt ct a ra d q x1 x2 x3 S
  | .inr r => r = q
def LG260_94 (xt : mj_X) (ct : Nat → Value) (a : Nat) (ra : Nat → Nat) (d : Nat) (q : Int32 × mS) (x1 : Int32) (x3 : Int32) (S : mS) : Prop := ∀ l, mj_ld l 0 = some (.ref a) → mj_ld l 1 = some (.int x1) → mj_ld l 3 = some (.int x3) → MR xt ct a ra (d + 8) 260 94 l [] S (.inl (some (.int q.1))) q.2
def GG260_94 (xt : mj_X) (ct : Nat → Value) (a : Nat) (ra : Nat → Nat) (d : Nat) (q : Int32 × mS) (o : (Int32 × Int32 × mS) ⊕ (Int32 × mS)) : Prop := match o with
  | .inl (x1, x3, S) => LG260_94 xt ct a ra d q x1 x3 S
  | .inr r => r = q
def J260_169 (N : Nat)  (s0 : Int32) (S : mS) : Option (Int32 × mS) :=
  some (s0, S)
theorem J260_169_ok {xt : mj_X} {ct : Nat → Value} {a : Nat} {ra : Nat → Nat} {d N : Nat} {l : mj_L}  {s0 : Int32} {S : mS} {q : Int32 × mS} (h0 : mj_ld l 0 = some (.ref a)) (e : J260_169 N  s0 S = some q) : MR xt ct a ra (d + 8) 260 169 l [.int s0] S (.inl (some (.int q.1))) q.2 := by
  unfold J260_169 at e
  exact (
  M_ri (Option.some.inj e) (fun _ => r_iret c260_169 rfl))
def J260_143 (N : Nat) (x3 : Int32)  (S : mS) : Option (Int32 × mS) :=
  bif mj_c1 .ge x3 then
    bif mj_c1 .ne (S.2.1 49 0) then
      J260_169 N 0 S
    else
    J260_169 N (-3) S
  else
  J260_169 N (S.1 51) S
theorem J260_143_ok {xt : mj_X} {ct : Nat → Value} {a : Nat} {ra : Nat → Nat} {d N : Nat} {l : mj_L} {x3 : Int32}  {S : mS} {q : Int32 × mS} (h0 : mj_ld l 0 = some (.ref a)) (h3 : mj_ld l 3 = some (.int x3)) (e : J260_143 N x3  S = some q) : MR xt ct a ra (d + 8) 260 143 l [] S (.inl (some (.int q.1))) q.2 := by
  unfold J260_143 at e
  exact (
  M_of (fun _ _ H => r_iloadn c260_143 h3 <| H) <|
  t_if e (fun b9 e10 =>
    M_of (fun _ _ H => r_ifT c260_144 b9 <| H) <|
    M_of (fun _ _ H => r_aloadn c260_154 h0 <| H) <|
    M_geta (j := 49) c260_155 (by decide) <|
    M_of (fun _ _ H => r_iconst c260_158 <| H) <|
    M_iald (j := 49) (v := (S.2.1 49 0)) c260_159 (by decide) (by decide) rfl <|
    t_if e10 (fun b11 e12 =>
      M_of (fun _ _ H => r_ifT c260_160 b11 <| H) <|
      M_of (fun _ _ H => r_iconst c260_168 <| H) <|
      J260_169_ok h0 e12
    ) (fun b11 e12 =>
      M_of (fun _ _ H => r_ifF c260_160 b11 <| H) <|
      M_of (fun _ _ H => r_bipush c260_163 <| r_goto c260_165 <| H) <|
      J260_169_ok h0 e12
    )
  ) (fun b9 e10 =>
    M_of (fun _ _ H => r_ifF c260_144 b9 <| H) <|
    M_of (fun _ _ H => r_aloadn c260_147 h0 <| H) <|
    M_get (v := (S.1 51)) c260_148 (by decide) rfl <|
    M_of (fun _ _ H => r_goto c260_151 <| H) <|
    J260_169_ok h0 e10
  ))
def J260_139 (N : Nat) (x1 : Int32) (s0 : Int32) (S : mS) : Option ((Int32 × Int32 × mS) ⊕ (Int32 × mS)) :=
  some (.inl (x1, s0, S))
theorem J260_139_ok {xt : mj_X} {ct : Nat → Value} {a : Nat} {ra : Nat → Nat} {d N : Nat} {l : mj_L} {x1 : Int32} {s0 : Int32} {S : mS} {o : (Int32 × Int32 × mS) ⊕ (Int32 × mS)} {q : Int32 × mS} (h0 : mj_ld l 0 = some (.ref a)) (h1 : mj_ld l 1 = some (.int x1)) (e : J260_139 N x1 s0 S = some o) (g : GG260_94 xt ct a ra d q o) : MR xt ct a ra (d + 8) 260 139 l [.int s0] S (.inl (some (.int q.1))) q.2 := by
  unfold J260_139 at e
  exact (
  M_of (fun _ _ H => r_istoren c260_139 <| r_goto c260_140 <| H) <|
  t_rg e g (fun (e : LG260_94 xt ct a ra d q x1 s0 S) => e _ (ld1_ne h0 (by decide) (Or.inl (by decide))) (ld1_ne h1 (by decide) (Or.inl (by decide))) ld1_eq))
def J260_115 (N : Nat) (x1 : Int32) (x3 : Int32)  (S : mS) : Option ((Int32 × Int32 × mS) ⊕ (Int32 × mS)) :=
  (M266 N x1 S).bind fun r19 =>
  bif mj_c2 .ne x3 r19.1 then
    (M275 N x1 x3 r19.2).bind fun r24 =>
    J260_139 N x1 r24.1 r24.2
  else
  (M267 N x1 x3 r19.2).bind fun r27 =>
  J260_139 N x1 r27.1 r27.2
theorem J260_115_ok {xt : mj_X} {ct : Nat → Value} {a : Nat} {ra : Nat → Nat} {d N : Nat} {l : mj_L} {x1 : Int32} {x3 : Int32}  {S : mS} {o : (Int32 × Int32 × mS) ⊕ (Int32 × mS)} {q : Int32 × mS} (h0 : mj_ld l 0 = some (.ref a)) (h1 : mj_ld l 1 = some (.int x1)) (h3 : mj_ld l 3 = some (.int x3)) (e : J260_115 N x1 x3  S = some o) (g : GG260_94 xt ct a ra d q o) : MR xt ct a ra (d + 8) 260 115 l [] S (.inl (some (.int q.1))) q.2 := by
  unfold J260_115 at e
  exact (
  M_of (fun _ _ H => r_iloadn c260_115 h3 <| r_aloadn c260_116 h0 <| r_iloadn c260_117 h1 <| H) <|
  t_bd e fun r19 c20 e21 =>
  M_cv (as := [.ref a, .int x1]) (st' := [.int r19.1, .int x3]) (v := (some (.int r19.1))) c260_118 rfl ⟨Nat.le_of_ble_eq_true rfl, Nat.le_of_ble_eq_true rfl, Nat.le_of_ble_eq_true rfl⟩ rfl rfl (M266_ok (d := d) c20) (Nat.add_lt_add_left (by decide) d) <|
  t_if e21 (fun b22 e23 =>
    M_of (fun _ _ H => r_icmpT c260_121 b22 <| H) <|
    M_of (fun _ _ H => r_aloadn c260_133 h0 <| r_iloadn c260_134 h1 <| r_iloadn c260_135 h3 <| H) <|
    t_bd e23 fun r24 c25 e26 =>
    M_cv (as := [.ref a, .int x1, .int x3]) (st' := [.int r24.1]) (v := (some (.int r24.1))) c260_136 rfl ⟨Nat.le_of_ble_eq_true rfl, Nat.le_of_ble_eq_true rfl, Nat.le_of_ble_eq_true rfl⟩ rfl rfl (M275_ok (d := d) c25) (Nat.add_lt_add_left (by decide) d) <|
    J260_139_ok h0 h1 e26 g
  ) (fun b22 e23 =>
    M_of (fun _ _ H => r_icmpF c260_121 b22 <| H) <|
    M_of (fun _ _ H => r_aloadn c260_124 h0 <| r_iloadn c260_125 h1 <| r_iloadn c260_126 h3 <| H) <|
    t_bd e23 fun r27 c28 e29 =>
    M_cv (as := [.ref a, .int x1, .int x3]) (st' := [.int r27.1]) (v := (some (.int r27.1))) c260_127 rfl ⟨Nat.le_of_ble_eq_true rfl, Nat.le_of_ble_eq_true rfl, Nat.le_of_ble_eq_true rfl⟩ rfl rfl (M267_ok (d := d) c28) (Nat.add_lt_add_left (by decide) d) <|
    M_of (fun _ _ H => r_goto c260_130 <| H) <|
    J260_139_ok h0 h1 e29 g
  ))
def B260_94 (N : Nat) (s : Int32 × Int32 × mS) : Option ((Int32 × Int32 × mS) ⊕ (Int32 × mS)) :=
  bif mj_c1 .lt s.2.1 then
    (J260_143 N s.2.1 s.2.2).map Sum.inr
  else
  bif mj_c1 .gt (s.2.2.1 56) then
    J260_115 N s.1 s.2.1 s.2.2
  else
  if 0 ≤ (s.1).toInt ∧ (s.1).toInt < mN 5 then
  bif mj_c2 .ge s.2.1 (s.2.2.2.1 5 (s.1).toInt.toNat) then
    (J260_143 N s.2.1 s.2.2).map Sum.inr
  else
  J260_115 N s.1 s.2.1 s.2.2
  else none
def L260_94 (N : Nat) (s : Int32 × Int32 × mS) : Option (Int32 × mS) := t_lp (B260_94 N) N s
theorem B260_94_ok {xt : mj_X} {ct : Nat → Value} {a : Nat} {ra : Nat → Nat} {d N : Nat} {s : Int32 × Int32 × mS} {o : (Int32 × Int32 × mS) ⊕ (Int32 × mS)} {q : Int32 × mS} (e : B260_94 N s = some o) (g : GG260_94 xt ct a ra d q o) : LG260_94 xt ct a ra d q s.1 s.2.1 s.2.2 := by
  unfold B260_94 at e
  exact (fun l h0 h1 h3 =>
  M_of (fun _ _ H => r_iloadn c260_94 h3 <| H) <|
  t_if e (fun b7 e8 =>
    M_of (fun _ _ H => r_ifT c260_95 b7 <| H) <|
    t_up e8 fun o13 e14 u15 =>
    (fun (g16 : o13 = q) =>
    by subst g16; exact (J260_143_ok h0 h3 e14)
    ) (by have := g; rw [u15] at this; exact this)
  ) (fun b7 e8 =>
    M_of (fun _ _ H => r_ifF c260_95 b7 <| H) <|
    M_of (fun _ _ H => r_aloadn c260_98 h0 <| H) <|
    M_get (v := (s.2.2.1 56)) c260_99 (by decide) rfl <|
    t_if e8 (fun b17 e18 =>
      M_of (fun _ _ H => r_ifT c260_102 b17 <| H) <|
      J260_115_ok h0 h1 h3 e18 g
    ) (fun b17 e18 =>
      M_of (fun _ _ H => r_ifF c260_102 b17 <| H) <|
      M_of (fun _ _ H => r_iloadn c260_105 h3 <| r_aloadn c260_106 h0 <| H) <|
      M_geta (j := 5) c260_107 (by decide) <|
      M_of (fun _ _ H => r_iloadn c260_110 h1 <| H) <|
      t_ck e18 fun i30 e31 =>
      M_iald (j := 5) (v := (s.2.2.2.1 5 (s.1).toInt.toNat)) c260_111 (by decide) i30 rfl <|
      t_if e31 (fun b32 e33 =>
        M_of (fun _ _ H => r_icmpT c260_112 b32 <| H) <|
        t_up e33 fun o34 e35 u36 =>
        (fun (g37 : o34 = q) =>
        by subst g37; exact (J260_143_ok h0 h3 e35)
        ) (by have := g; rw [u36] at this; exact this)
      ) (fun b32 e33 =>
        M_of (fun _ _ H => r_icmpF c260_112 b32 <| H) <|
        J260_115_ok h0 h1 h3 e33 g
      )
    )
  ))
theorem L260_94_ok {xt : mj_X} {ct : Nat → Value} {a : Nat} {ra : Nat → Nat} {d N : Nat} {x1 : Int32} {x3 : Int32} {S : mS} {q : Int32 × mS} (e : L260_94 N (x1, x3, S) = some q) : LG260_94 xt ct a ra d q x1 x3 S :=
  t_lp_ok (G := fun s => LG260_94 xt ct a ra d q s.1 s.2.1 s.2.2) (fun s s' e g => B260_94_ok e (by obtain ⟨_, _, _⟩ := s'; exact g)) (fun s e => B260_94_ok e rfl) N (x1, x3, S) e
def J260_85 (N : Nat) (x1 : Int32) (x3 : Int32) (s0 : Int32) (S : mS) : Option ((Int32 × Int32 × Int32 × mS) ⊕ (Int32 × mS)) :=
  some (.inl (x1, s0, (x3 + 1), S))
theorem J260_85_ok {xt : mj_X} {ct : Nat → Value} {a : Nat} {ra : Nat → Nat} {d N : Nat} {l : mj_L} {x1 : Int32} {x3 : Int32} {s0 : Int32} {S : mS} {o : (Int32 × Int32 × Int32 × mS) ⊕ (Int32 × mS)} {q : Int32 × mS} (h0 : mj_ld l 0 = some (.ref a)) (h1 : mj_ld l 1 = some (.int x1)) (h3 : mj_ld l 3 = some (.int x3)) (e : J260_85 N x1 x3 s0 S = some o) (g : GG260_49 xt ct a ra d q o) : MR xt ct a ra (d + 8) 260 85 l [.int s0] S (.inl (some (.int q.1))) q.2 := by
  unfold J260_85 at e
  exact (
  M_of (fun _ _ H => r_istoren c260_85 <| r_iinc c260_86 (ld1_ne h3 (by decide) (Or.inl (by decide))) <| r_goto c260_89 <| H) <|
  t_rg e g (fun (e : LG260_49 xt ct a ra d q x1 s0 (x3 + 1) S) => e _ (ld1_ne (ld1_ne h0 (by decide) (Or.inl (by decide))) (by decide) (Or.inl (by decide))) (ld1_ne (ld1_ne h1 (by decide) (Or.inr rfl)) (by decide) (Or.inl (by decide))) (ld1_ne ld1_eq (by decide) (Or.inr rfl)) ld1_eq))
def B260_49 (N : Nat) (s : Int32 × Int32 × Int32 × mS) : Option ((Int32 × Int32 × Int32 × mS) ⊕ (Int32 × mS)) :=
  if 0 ≤ (s.1).toInt ∧ (s.1).toInt < mN 5 then
  bif mj_c2 .ge s.2.2.1 (s.2.2.2.2.1 5 (s.1).toInt.toNat) then
    (L260_94 N (s.1, 0, s.2.2.2)).map Sum.inr
  else
  if 0 ≤ (((24 * s.1) + s.2.2.1)).toInt ∧ (((24 * s.1) + s.2.2.1)).toInt < mN 6 then
  bif mj_c2 .ne (s.2.2.2.2.1 6 (((24 * s.1) + s.2.2.1)).toInt.toNat) 3 then
    (M261 N s.1 s.2.2.1 s.2.1 s.2.2.2).bind fun r46 =>
    J260_85 N s.1 s.2.2.1 r46.1 r46.2
  else
  J260_85 N s.1 s.2.2.1 s.2.1 s.2.2.2
  else none
  else none
def L260_49 (N : Nat) (s : Int32 × Int32 × Int32 × mS) : Option (Int32 × mS) := t_lp (B260_49 N) N s
theorem B260_49_ok {xt : mj_X} {ct : Nat → Value} {a : Nat} {ra : Nat → Nat} {d N : Nat} {s : Int32 × Int32 × Int32 × mS} {o : (Int32 × Int32 × Int32 × mS) ⊕ (Int32 × mS)} {q : Int32 × mS} (e : B260_49 N s = some o) (g : GG260_49 xt ct a ra d q o) : LG260_49 xt ct a ra d q s.1 s.2.1 s.2.2.1 s.2.2.2 := by
  unfold B260_49 at e
  exact (fun l h0 h1 h2 h3 =>
  M_of (fun _ _ H => r_iloadn c260_49 h3 <| r_aloadn c260_50 h0 <| H) <|
  M_geta (j := 5) c260_51 (by decide) <|
  M_of (fun _ _ H => r_iloadn c260_54 h1 <| H) <|
  t_ck e fun i3 e4 =>
  M_iald (j := 5) (v := (s.2.2.2.2.1 5 (s.1).toInt.toNat)) c260_55 (by decide) i3 rfl <|
  t_if e4 (fun b5 e6 =>
    M_of (fun _ _ H => r_icmpT c260_56 b5 <| H) <|
    M_of (fun _ _ H => r_iconst c260_92 <| r_istoren c260_93 <| H) <|
    t_up e6 fun o38 e39 u40 =>
    (fun (g41 : o38 = q) =>
    by subst g41; exact (L260_94_ok e39 _ (ld1_ne h0 (by decide) (Or.inl (by decide))) (ld1_ne h1 (by decide) (Or.inl (by decide))) ld1_eq)
    ) (by have := g; rw [u40] at this; exact this)
  ) (fun b5 e6 =>
    M_of (fun _ _ H => r_icmpF c260_56 b5 <| H) <|
    M_of (fun _ _ H => r_aloadn c260_59 h0 <| H) <|
    M_geta (j := 6) c260_60 (by decide) <|
    M_of (fun _ _ H => r_bipush c260_63 <| r_iloadn c260_65 h1 <| r_imul c260_66 rfl <| r_iloadn c260_67 h3 <| r_iadd c260_68 rfl <| H) <|
    t_ck e6 fun i42 e43 =>
    M_iald (j := 6) (v := (s.2.2.2.2.1 6 (((24 * s.1) + s.2.2.1)).toInt.toNat)) c260_69 (by decide) i42 rfl <|
    M_of (fun _ _ H => r_iconst c260_70 <| H) <|
    t_if e43 (fun b44 e45 =>
      M_of (fun _ _ H => r_icmpT c260_71 b44 <| H) <|
      M_of (fun _ _ H => r_aloadn c260_78 h0 <| r_iloadn c260_79 h1 <| r_iloadn c260_80 h3 <| r_iloadn c260_81 h2 <| H) <|
      t_bd e45 fun r46 c47 e48 =>
      M_cv (as := [.ref a, .int s.1, .int s.2.2.1, .int s.2.1]) (st' := [.int r46.1]) (v := (some (.int r46.1))) c260_82 rfl ⟨Nat.le_of_ble_eq_true rfl, Nat.le_of_ble_eq_true rfl, Nat.le_of_ble_eq_true rfl⟩ rfl rfl (M261_ok (d := d) c47) (Nat.add_lt_add_left (by decide) d) <|
      J260_85_ok h0 h1 h3 e48 g
    ) (fun b44 e45 =>
      M_of (fun _ _ H => r_icmpF c260_71 b44 <| H) <|
      M_of (fun _ _ H => r_iloadn c260_74 h2 <| r_goto c260_75 <| H) <|
      J260_85_ok h0 h1 h3 e45 g
    )
  ))
theorem L260_49_ok {xt : mj_X} {ct : Nat → Value} {a : Nat} {ra : Nat → Nat} {d N : Nat} {x1 : Int32} {x2 : Int32} {x3 : Int32} {S : mS} {q : Int32 × mS} (e : L260_49 N (x1, x2, x3, S) = some q) : LG260_49 xt ct a ra d q x1 x2 x3 S :=
  t_lp_ok (G := fun s => LG260_49 xt ct a ra d q s.1 s.2.1 s.2.2.1 s.2.2.2) (fun s s' e g => B260_49_ok e (by obtain ⟨_, _, _, _⟩ := s'; exact g)) (fun s e => B260_49_ok e rfl) N (x1, x2, x3, S) e
def B260_26 (N : Nat) (s : Int32 × Int32 × mS) : Option ((Int32 × Int32 × mS) ⊕ (Int32 × mS)) :=
  bif mj_c2 .ge s.2.1 6 then
    (L260_49 N (s.1, 0, 0, s.2.2)).map Sum.inr
  else
  if 0 ≤ (s.2.1).toInt ∧ (s.2.1).toInt < mN 47 then
  some (.inl (s.1, (s.2.1 + 1), (m_sA s.2.2 47 (s.2.1).toInt.toNat 0)))
  else none
def L260_26 (N : Nat) (s : Int32 × Int32 × mS) : Option (Int32 × mS) := t_lp (B260_26 N) N s
theorem B260_26_ok {xt : mj_X} {ct : Nat → Value} {a : Nat} {ra : Nat → Nat} {d N : Nat} {s : Int32 × Int32 × mS} {o : (Int32 × Int32 × mS) ⊕ (Int32 × mS)} {q : Int32 × mS} (e : B260_26 N s = some o) (g : GG260_26 xt ct a ra d q o) : LG260_26 xt ct a ra d q s.1 s.2.1 s.2.2 := by
  unfold B260_26 at e
  exact (fun l h0 h1 h2 =>
  M_of (fun _ _ H => r_iloadn c260_26 h2 <| r_bipush c260_27 <| H) <|
  t_if e (fun b1 e2 =>
    M_of (fun _ _ H => r_icmpT c260_29 b1 <| H) <|
    M_of (fun _ _ H => r_iconst c260_45 <| r_istoren c260_46 <| r_iconst c260_47 <| r_istoren c260_48 <| H) <|
    t_up e2 fun o49 e50 u51 =>
    (fun (g52 : o49 = q) =>
    by subst g52; exact (L260_49_ok e50 _ (ld1_ne (ld1_ne h0 (by decide) (Or.inl (by decide))) (by decide) (Or.inl (by decide))) (ld1_ne (ld1_ne h1 (by decide) (Or.inr rfl)) (by decide) (Or.inl (by decide))) (ld1_ne ld1_eq (by decide) (Or.inr rfl)) ld1_eq)
    ) (by have := g; rw [u51] at this; exact this)
  ) (fun b1 e2 =>
    M_of (fun _ _ H => r_icmpF c260_29 b1 <| H) <|
    M_of (fun _ _ H => r_aloadn c260_32 h0 <| H) <|
    M_geta (j := 47) c260_33 (by decide) <|
    M_of (fun _ _ H => r_iloadn c260_36 h2 <| r_iconst c260_37 <| H) <|
    t_ck e2 fun i53 e54 =>
    M_iast (j := 47) c260_38 (by decide) i53 <|
    M_of (fun _ _ H => r_iinc c260_39 h2 <| r_goto c260_42 <| H) <|
    t_rg e54 g (fun (e : LG260_26 xt ct a ra d q s.1 (s.2.1 + 1) (m_sA s.2.2 47 (s.2.1).toInt.toNat 0)) => e _ (ld1_ne h0 (by decide) (Or.inl (by decide))) (ld1_ne h1 (by decide) (Or.inr rfl)) ld1_eq)
  ))
theorem L260_26_ok {xt : mj_X} {ct : Nat → Value} {a : Nat} {ra : Nat → Nat} {d N : Nat} {x1 : Int32} {x2 : Int32} {S : mS} {q : Int32 × mS} (e : L260_26 N (x1, x2, S) = some q) : LG260_26 xt ct a ra d q x1 x2 S :=
  t_lp_ok (G := fun s => LG260_26 xt ct a ra d q s.1 s.2.1 s.2.2) (fun s s' e g => B260_26_ok e (by obtain ⟨_, _, _⟩ := s'; exact g)) (fun s e => B260_26_ok e rfl) N (x1, x2, S) e
/-- runAll(I)I -/
def M260 (N : Nat) (x1 : Int32) (S : mS) : Option (Int32 × mS) :=
  L260_26 N (x1, 0, (m_sB (m_sA (m_sV (m_sV S 56 0) 52 1) 49 0 1) 48 0 1))
theorem M260_ok {xt : mj_X} {ct : Nat → Value} {a : Nat} {ra : Nat → Nat} {d N : Nat} {x1 : Int32} {S : mS} {q : Int32 × mS} (e : M260 N x1 S = some q) : MR xt ct a ra (d + 8) 260 0 (lv_args 0 [.ref a, .int x1]) [] S (.inl (some (.int q.1))) q.2 := by
  unfold M260 at e
  exact (
  M_of (fun _ _ H => r_aloadn c260_0 rfl <| r_iconst c260_1 <| H) <|
  M_put c260_2 (by decide) <|
  M_of (fun _ _ H => r_aloadn c260_5 rfl <| r_iconst c260_6 <| H) <|
  M_put c260_7 (by decide) <|
  M_of (fun _ _ H => r_aloadn c260_10 rfl <| H) <|
  M_geta (j := 49) c260_11 (by decide) <|
  M_of (fun _ _ H => r_iconst c260_14 <| r_iconst c260_15 <| H) <|
  M_iast (j := 49) c260_16 (by decide) (by decide) <|
  M_of (fun _ _ H => r_aloadn c260_17 rfl <| H) <|
  M_geta (j := 48) c260_18 (by decide) <|
  M_of (fun _ _ H => r_iconst c260_21 <| r_lconst c260_22 <| H) <|
  M_last (j := 48) c260_23 (by decide) (by decide) <|
  M_of (fun _ _ H => r_iconst c260_24 <| r_istoren c260_25 <| H) <|
  L260_26_ok e _ (ld1_ne rfl (by decide) (Or.inl (by decide))) (ld1_ne rfl (by decide) (Or.inr rfl)) ld1_eq)
def LG287_18 (xt : mj_X) (ct : Nat → Value) (a : Nat) (ra : Nat → Nat) (d : Nat) (q : mS) (x1 : Int32) (x2 : Int32) (S : mS) : Prop := ∀ l, mj_ld l 0 = some (.ref a) → mj_ld l 1 = some (.int x1) → mj_ld l 2 = some (.int x2) → MR xt ct a ra (d + 2) 287 18 l [] S (.inl none) q
def GG287_18 (xt : mj_X) (ct : Nat → Value) (a : Nat) (ra : Nat → Nat) (d : Nat) (q : mS) (o : (Int32 × Int32 × mS) ⊕ (mS)) : Prop := match o with
  | .inl (x1, x2, S) => LG287_18 xt ct a ra d q x1 x2 S
  | .inr r => r = q
def LG287_139 (xt : mj_X) (ct : Nat → Value) (a : Nat) (ra : Nat → Nat) (d : Nat) (q : mS) (x1 : Int32) (x2 : Int64) (x4 : Int32) (S : mS) : Prop := ∀ l, mj_ld l 0 = some (.ref a) → mj_ld l 1 = some (.int x1) → mj_ld l 2 = some (.long x2) → mj_ld l 4 = some (.int x4) → MR xt ct a ra (d + 2) 287 139 l [] S (.inl none) q
def GG287_139 (xt : mj_X) (ct : Nat → Value) (a : Nat) (ra : Nat → Nat) (d : Nat) (q : mS) (o : (Int32 × Int64 × Int32 × mS) ⊕ (mS)) : Prop := match o with
  | .inl (x1, x2, x4, S) => LG287_139 xt ct a ra d q x1 x2 x4 S
  | .inr r => r = q
def LG287_179 (xt : mj_X) (ct : Nat → Value) (a : Nat) (ra : Nat → Nat) (d : Nat) (q : mS) (x1 : Int32) (x2 : Int64) (x4 : Int32) (S : mS) : Prop := ∀ l, mj_ld l 0 = some (.ref a) → mj_ld l 1 = some (.int x1) → mj_ld l 2 = some (.long x2) → mj_ld l 4 = some (.int x4) → MR xt ct a ra (d + 2) 287 179 l [] S (.inl none) q
def GG287_179 (xt : mj_X) (ct : Nat → Value) (a : Nat) (ra : Nat → Nat) (d : Nat) (q : mS) (o : (Int32 × Int64 × Int32 × mS) ⊕ (mS)) : Prop := match o with
  | .inl (x1, x2, x4, S) => LG287_179 xt ct a ra d q x1 x2 x4 S
  | .inr r => r = q
def B287_179 (N : Nat) (s : Int32 × Int64 × Int32 × mS) : Option ((Int32 × Int64 × Int32 × mS) ⊕ (mS)) :=
  if 0 ≤ (s.1).toInt ∧ (s.1).toInt < mN 58 then
  bif mj_c2 .ge s.2.2.1 ((64 * s.1) + (s.2.2.2.2.1 58 (s.1).toInt.toNat)) then
    if 0 ≤ (s.1).toInt ∧ (s.1).toInt < mN 57 then
    some (.inr (m_sA s.2.2.2 57 (s.1).toInt.toNat 1))
    else none
  else
  if 0 ≤ (s.2.2.1).toInt ∧ (s.2.2.1).toInt < mN 60 then
  if s.2.1 ≠ 0 then
  if 0 ≤ (s.2.2.1).toInt ∧ (s.2.2.1).toInt < mN 60 then
  if 0 ≤ (s.1).toInt ∧ (s.1).toInt < mN 61 then
  if 0 ≤ (s.2.2.1).toInt ∧ (s.2.2.1).toInt < mN 60 then
  if 0 ≤ (s.1).toInt ∧ (s.1).toInt < mN 61 then
  some (.inl (s.1, s.2.1, (s.2.2.1 + 1), (m_sB (m_sB s.2.2.2 60 (s.2.2.1).toInt.toNat ((s.2.2.2.2.2 60 (s.2.2.1).toInt.toNat) / s.2.1)) 61 (s.1).toInt.toNat ((s.2.2.2.2.2 61 (s.1).toInt.toNat) + ((s.2.2.2.2.2 60 (s.2.2.1).toInt.toNat) / s.2.1)))))
  else none
  else none
  else none
  else none
  else none
  else none
  else none
def L287_179 (N : Nat) (s : Int32 × Int64 × Int32 × mS) : Option (mS) := t_lp (B287_179 N) N s
theorem B287_179_ok {xt : mj_X} {ct : Nat → Value} {a : Nat} {ra : Nat → Nat} {d N : Nat} {s : Int32 × Int64 × Int32 × mS} {o : (Int32 × Int64 × Int32 × mS) ⊕ (mS)} {q : mS} (e : B287_179 N s = some o) (g : GG287_179 xt ct a ra d q o) : LG287_179 xt ct a ra d q s.1 s.2.1 s.2.2.1 s.2.2.2 := by
  unfold B287_179 at e
  exact (fun l h0 h1 h2 h4 =>
  M_of (fun _ _ H => r_iload c287_179 h4 <| r_bipush c287_181 <| r_iloadn c287_183 h1 <| r_imul c287_184 rfl <| r_aloadn c287_185 h0 <| H) <|
  M_geta (j := 58) c287_186 (by decide) <|
  M_of (fun _ _ H => r_iloadn c287_189 h1 <| H) <|
  t_ck e fun i11 e12 =>
  M_iald (j := 58) (v := (s.2.2.2.2.1 58 (s.1).toInt.toNat)) c287_190 (by decide) i11 rfl <|
  M_of (fun _ _ H => r_iadd c287_191 rfl <| H) <|
  t_if e12 (fun b13 e14 =>
    M_of (fun _ _ H => r_icmpT c287_192 b13 <| H) <|
    M_of (fun _ _ H => r_aloadn c287_237 h0 <| H) <|
    M_geta (j := 57) c287_238 (by decide) <|
    M_of (fun _ _ H => r_iloadn c287_241 h1 <| r_iconst c287_242 <| H) <|
    t_ck e14 fun i15 e16 =>
    M_zast (j := 57) c287_243 (by decide) i15 (by decide) <|
    t_rg e16 g (fun (e : (m_sA s.2.2.2 57 (s.1).toInt.toNat 1) = q) => M_rv (e) (fun _ => r_ret c287_244))
  ) (fun b13 e14 =>
    M_of (fun _ _ H => r_icmpF c287_192 b13 <| H) <|
    M_of (fun _ _ H => r_aloadn c287_195 h0 <| H) <|
    M_geta (j := 60) c287_196 (by decide) <|
    M_of (fun _ _ H => r_iload c287_199 h4 <| r_aloadn c287_201 h0 <| H) <|
    M_geta (j := 60) c287_202 (by decide) <|
    M_of (fun _ _ H => r_iload c287_205 h4 <| H) <|
    t_ck e14 fun i17 e18 =>
    M_lald (j := 60) (v := (s.2.2.2.2.2 60 (s.2.2.1).toInt.toNat)) c287_207 (by decide) i17 rfl <|
    M_of (fun _ _ H => r_lloadn c287_208 h2 <| H) <|
    t_ck e18 fun y19 e20 =>
    M_of (fun _ _ H => r_ldiv c287_209 y19 rfl <| H) <|
    t_ck e20 fun i21 e22 =>
    M_last (j := 60) c287_210 (by decide) i21 <|
    M_of (fun _ _ H => r_aloadn c287_211 h0 <| H) <|
    M_geta (j := 61) c287_212 (by decide) <|
    M_of (fun _ _ H => r_iloadn c287_215 h1 <| r_aloadn c287_216 h0 <| H) <|
    M_geta (j := 61) c287_217 (by decide) <|
    M_of (fun _ _ H => r_iloadn c287_220 h1 <| H) <|
    t_ck e22 fun i23 e24 =>
    M_lald (j := 61) (v := (s.2.2.2.2.2 61 (s.1).toInt.toNat)) c287_221 (by decide) i23 rfl <|
    M_of (fun _ _ H => r_aloadn c287_222 h0 <| H) <|
    M_geta (j := 60) c287_223 (by decide) <|
    M_of (fun _ _ H => r_iload c287_226 h4 <| H) <|
    t_ck e24 fun i25 e26 =>
    M_lald (j := 60) (v := ((s.2.2.2.2.2 60 (s.2.2.1).toInt.toNat) / s.2.1)) c287_228 (by decide) i25 m_gB_eq <|
    M_of (fun _ _ H => r_ladd c287_229 rfl <| H) <|
    t_ck e26 fun i27 e28 =>
    M_last (j := 61) c287_230 (by decide) i27 <|
    M_of (fun _ _ H => r_iinc c287_231 h4 <| r_goto c287_234 <| H) <|
    t_rg e28 g (fun (e : LG287_179 xt ct a ra d q s.1 s.2.1 (s.2.2.1 + 1) (m_sB (m_sB s.2.2.2 60 (s.2.2.1).toInt.toNat ((s.2.2.2.2.2 60 (s.2.2.1).toInt.toNat) / s.2.1)) 61 (s.1).toInt.toNat ((s.2.2.2.2.2 61 (s.1).toInt.toNat) + ((s.2.2.2.2.2 60 (s.2.2.1).toInt.toNat) / s.2.1)))) => e _ (ld1_ne h0 (by decide) (Or.inl (by decide))) (ld1_ne h1 (by decide) (Or.inl (by decide))) (ld1_ne h2 (by decide) (Or.inl (by decide))) ld1_eq)
  ))
theorem L287_179_ok {xt : mj_X} {ct : Nat → Value} {a : Nat} {ra : Nat → Nat} {d N : Nat} {x1 : Int32} {x2 : Int64} {x4 : Int32} {S : mS} {q : mS} (e : L287_179 N (x1, x2, x4, S) = some q) : LG287_179 xt ct a ra d q x1 x2 x4 S :=
  t_lp_ok (G := fun s => LG287_179 xt ct a ra d q s.1 s.2.1 s.2.2.1 s.2.2.2) (fun s s' e g => B287_179_ok e (by obtain ⟨_, _, _, _⟩ := s'; exact g)) (fun s e => B287_179_ok e rfl) N (x1, x2, x4, S) e
def B287_139 (N : Nat) (s : Int32 × Int64 × Int32 × mS) : Option ((Int32 × Int64 × Int32 × mS) ⊕ (mS)) :=
  if 0 ≤ (s.1).toInt ∧ (s.1).toInt < mN 58 then
  bif mj_c2 .ge s.2.2.1 ((64 * s.1) + (s.2.2.2.2.1 58 (s.1).toInt.toNat)) then
    (L287_179 N (s.1, s.2.1, (64 * s.1), s.2.2.2)).map Sum.inr
  else
  if 0 ≤ (s.2.2.1).toInt ∧ (s.2.2.1).toInt < mN 60 then
  (M241 N (s.2.2.2.2.2 60 (s.2.2.1).toInt.toNat) s.2.1 s.2.2.2).bind fun r35 =>
  some (.inl (s.1, r35.1, (s.2.2.1 + 1), r35.2))
  else none
  else none
def L287_139 (N : Nat) (s : Int32 × Int64 × Int32 × mS) : Option (mS) := t_lp (B287_139 N) N s
theorem B287_139_ok {xt : mj_X} {ct : Nat → Value} {a : Nat} {ra : Nat → Nat} {d N : Nat} {s : Int32 × Int64 × Int32 × mS} {o : (Int32 × Int64 × Int32 × mS) ⊕ (mS)} {q : mS} (e : B287_139 N s = some o) (g : GG287_139 xt ct a ra d q o) : LG287_139 xt ct a ra d q s.1 s.2.1 s.2.2.1 s.2.2.2 := by
  unfold B287_139 at e
  exact (fun l h0 h1 h2 h4 =>
  M_of (fun _ _ H => r_iload c287_139 h4 <| r_bipush c287_141 <| r_iloadn c287_143 h1 <| r_imul c287_144 rfl <| r_aloadn c287_145 h0 <| H) <|
  M_geta (j := 58) c287_146 (by decide) <|
  M_of (fun _ _ H => r_iloadn c287_149 h1 <| H) <|
  t_ck e fun i7 e8 =>
  M_iald (j := 58) (v := (s.2.2.2.2.1 58 (s.1).toInt.toNat)) c287_150 (by decide) i7 rfl <|
  M_of (fun _ _ H => r_iadd c287_151 rfl <| H) <|
  t_if e8 (fun b9 e10 =>
    M_of (fun _ _ H => r_icmpT c287_152 b9 <| H) <|
    M_of (fun _ _ H => r_bipush c287_173 <| r_iloadn c287_175 h1 <| r_imul c287_176 rfl <| r_istore c287_177 <| H) <|
    t_up e10 fun o29 e30 u31 =>
    (fun (g32 : o29 = q) =>
    by subst g32; exact (L287_179_ok e30 _ (ld1_ne h0 (by decide) (Or.inl (by decide))) (ld1_ne h1 (by decide) (Or.inl (by decide))) (ld1_ne h2 (by decide) (Or.inl (by decide))) ld1_eq)
    ) (by have := g; rw [u31] at this; exact this)
  ) (fun b9 e10 =>
    M_of (fun _ _ H => r_icmpF c287_152 b9 <| H) <|
    M_of (fun _ _ H => r_aloadn c287_155 h0 <| H) <|
    M_geta (j := 60) c287_156 (by decide) <|
    M_of (fun _ _ H => r_iload c287_159 h4 <| H) <|
    t_ck e10 fun i33 e34 =>
    M_lald (j := 60) (v := (s.2.2.2.2.2 60 (s.2.2.1).toInt.toNat)) c287_161 (by decide) i33 rfl <|
    M_of (fun _ _ H => r_lloadn c287_162 h2 <| H) <|
    t_bd e34 fun r35 c36 e37 =>
    M_cs (as := [.long (s.2.2.2.2.2 60 (s.2.2.1).toInt.toNat), .long s.2.1]) (st' := [.long r35.1]) (v := (some (.long r35.1))) c287_163 ⟨Nat.le_of_ble_eq_true rfl, Nat.le_of_ble_eq_true rfl, Nat.le_of_ble_eq_true rfl⟩ rfl rfl (M241_ok (d := d) c36) (Nat.add_lt_add_left (by decide) d) <|
    M_of (fun _ _ H => r_lstoren c287_166 <| r_iinc c287_167 (ld2_ne h4 (by decide) (Or.inl (by decide))) <| r_goto c287_170 <| H) <|
    t_rg e37 g (fun (e : LG287_139 xt ct a ra d q s.1 r35.1 (s.2.2.1 + 1) r35.2) => e _ (ld1_ne (ld2_ne h0 (by decide) (Or.inl (by decide))) (by decide) (Or.inl (by decide))) (ld1_ne (ld2_ne h1 (by decide) (Or.inr rfl)) (by decide) (Or.inl (by decide))) (ld1_ne ld2_eq (by decide) (Or.inl (by decide))) ld1_eq)
  ))
theorem L287_139_ok {xt : mj_X} {ct : Nat → Value} {a : Nat} {ra : Nat → Nat} {d N : Nat} {x1 : Int32} {x2 : Int64} {x4 : Int32} {S : mS} {q : mS} (e : L287_139 N (x1, x2, x4, S) = some q) : LG287_139 xt ct a ra d q x1 x2 x4 S :=
  t_lp_ok (G := fun s => LG287_139 xt ct a ra d q s.1 s.2.1 s.2.2.1 s.2.2.2) (fun s s' e g => B287_139_ok e (by obtain ⟨_, _, _, _⟩ := s'; exact g)) (fun s e => B287_139_ok e rfl) N (x1, x2, x4, S) e
def LG287_30 (xt : mj_X) (ct : Nat → Value) (a : Nat) (ra : Nat → Nat) (d : Nat) (q : mS) (x1 : Int32) (x2 : Int32) (x3 : Int64) (x5 : Int32) (S : mS) : Prop := ∀ l, mj_ld l 0 = some (.ref a) → mj_ld l 1 = some (.int x1) → mj_ld l 2 = some (.int x2) → mj_ld l 3 = some (.long x3) → mj_ld l 5 = some (.int x5) → MR xt ct a ra (d + 2) 287 30 l [] S (.inl none) q
def GG287_30 (xt : mj_X) (ct : Nat → Value) (a : Nat) (ra : Nat → Nat) (d : Nat) (q : mS) (o : (Int32 × Int32 × Int64 × Int32 × mS) ⊕ ((Int32 × Int32 × mS) ⊕ (mS))) : Prop := match o with
  | .inl (x1, x2, x3, x5, S) => LG287_30 xt ct a ra d q x1 x2 x3 x5 S
  | .inr r => GG287_18 xt ct a ra d q r
def J287_125 (N : Nat) (x1 : Int32) (x2 : Int32)  (S : mS) : Option ((Int32 × Int32 × mS) ⊕ (mS)) :=
  some (.inl (x1, (x2 + 1), S))
theorem J287_125_ok {xt : mj_X} {ct : Nat → Value} {a : Nat} {ra : Nat → Nat} {d N : Nat} {l : mj_L} {x1 : Int32} {x2 : Int32}  {S : mS} {o : (Int32 × Int32 × mS) ⊕ (mS)} {q : mS} (h0 : mj_ld l 0 = some (.ref a)) (h1 : mj_ld l 1 = some (.int x1)) (h2 : mj_ld l 2 = some (.int x2)) (e : J287_125 N x1 x2  S = some o) (g : GG287_18 xt ct a ra d q o) : MR xt ct a ra (d + 2) 287 125 l [] S (.inl none) q := by
  unfold J287_125 at e
  exact (
  M_of (fun _ _ H => r_iinc c287_125 h2 <| r_goto c287_128 <| H) <|
  t_rg e g (fun (e : LG287_18 xt ct a ra d q x1 (x2 + 1) S) => e _ (ld1_ne h0 (by decide) (Or.inl (by decide))) (ld1_ne h1 (by decide) (Or.inr rfl)) ld1_eq))
def J287_68 (N : Nat) (x1 : Int32) (x2 : Int32) (x5 : Int32) (s0 : Int64) (S : mS) : Option ((Int32 × Int32 × Int64 × Int32 × mS) ⊕ ((Int32 × Int32 × mS) ⊕ (mS))) :=
  some (.inl (x1, x2, s0, (x5 + 1), S))
theorem J287_68_ok {xt : mj_X} {ct : Nat → Value} {a : Nat} {ra : Nat → Nat} {d N : Nat} {l : mj_L} {x1 : Int32} {x2 : Int32} {x5 : Int32} {s0 : Int64} {S : mS} {o : (Int32 × Int32 × Int64 × Int32 × mS) ⊕ ((Int32 × Int32 × mS) ⊕ (mS))} {q : mS} (h0 : mj_ld l 0 = some (.ref a)) (h1 : mj_ld l 1 = some (.int x1)) (h2 : mj_ld l 2 = some (.int x2)) (h5 : mj_ld l 5 = some (.int x5)) (e : J287_68 N x1 x2 x5 s0 S = some o) (g : GG287_30 xt ct a ra d q o) : MR xt ct a ra (d + 2) 287 68 l [.long s0] S (.inl none) q := by
  unfold J287_68 at e
  exact (
  M_of (fun _ _ H => r_lstoren c287_68 <| r_iinc c287_69 (ld2_ne h5 (by decide) (Or.inl (by decide))) <| r_goto c287_72 <| H) <|
  t_rg e g (fun (e : LG287_30 xt ct a ra d q x1 x2 s0 (x5 + 1) S) => e _ (ld1_ne (ld2_ne h0 (by decide) (Or.inl (by decide))) (by decide) (Or.inl (by decide))) (ld1_ne (ld2_ne h1 (by decide) (Or.inl (by decide))) (by decide) (Or.inl (by decide))) (ld1_ne (ld2_ne h2 (by decide) (Or.inr rfl)) (by decide) (Or.inl (by decide))) (ld1_ne ld2_eq (by decide) (Or.inl (by decide))) ld1_eq))
def B287_30 (N : Nat) (s : Int32 × Int32 × Int64 × Int32 × mS) : Option ((Int32 × Int32 × Int64 × Int32 × mS) ⊕ ((Int32 × Int32 × mS) ⊕ (mS))) :=
  bif mj_c2 .ge s.2.2.2.1 (s.2.2.2.2.2.1 49 0) then
    bif mj_c1 .le (lg_cmp s.2.2.1 0) then
      (J287_125 N s.1 s.2.1 s.2.2.2.2).map Sum.inr
    else
    if 0 ≤ (s.1).toInt ∧ (s.1).toInt < mN 58 then
    if 0 ≤ (((64 * s.1) + (s.2.2.2.2.2.1 58 (s.1).toInt.toNat))).toInt ∧ (((64 * s.1) + (s.2.2.2.2.2.1 58 (s.1).toInt.toNat))).toInt < mN 59 then
    if 0 ≤ (s.1).toInt ∧ (s.1).toInt < mN 58 then
    if 0 ≤ (((64 * s.1) + (s.2.2.2.2.2.1 58 (s.1).toInt.toNat))).toInt ∧ (((64 * s.1) + (s.2.2.2.2.2.1 58 (s.1).toInt.toNat))).toInt < mN 60 then
    if 0 ≤ (s.1).toInt ∧ (s.1).toInt < mN 58 then
    if 0 ≤ (s.1).toInt ∧ (s.1).toInt < mN 58 then
    (J287_125 N s.1 s.2.1 (m_sA (m_sB (m_sA s.2.2.2.2 59 (((64 * s.1) + (s.2.2.2.2.2.1 58 (s.1).toInt.toNat))).toInt.toNat s.2.1) 60 (((64 * s.1) + (s.2.2.2.2.2.1 58 (s.1).toInt.toNat))).toInt.toNat s.2.2.1) 58 (s.1).toInt.toNat ((s.2.2.2.2.2.1 58 (s.1).toInt.toNat) + 1))).map Sum.inr
    else none
    else none
    else none
    else none
    else none
    else none
  else
  if 0 ≤ ((6 * s.2.2.2.1)).toInt ∧ ((6 * s.2.2.2.1)).toInt < mN 47 then
  bif mj_c2 .ne (s.2.2.2.2.2.1 47 ((6 * s.2.2.2.1)).toInt.toNat) s.2.1 then
    J287_68 N s.1 s.2.1 s.2.2.2.1 s.2.2.1 s.2.2.2.2
  else
  if 0 ≤ (s.2.2.2.1).toInt ∧ (s.2.2.2.1).toInt < mN 48 then
  J287_68 N s.1 s.2.1 s.2.2.2.1 (s.2.2.1 + (s.2.2.2.2.2.2 48 (s.2.2.2.1).toInt.toNat)) s.2.2.2.2
  else none
  else none
def L287_30 (N : Nat) (s : Int32 × Int32 × Int64 × Int32 × mS) : Option ((Int32 × Int32 × mS) ⊕ (mS)) := t_lp (B287_30 N) N s
theorem B287_30_ok {xt : mj_X} {ct : Nat → Value} {a : Nat} {ra : Nat → Nat} {d N : Nat} {s : Int32 × Int32 × Int64 × Int32 × mS} {o : (Int32 × Int32 × Int64 × Int32 × mS) ⊕ ((Int32 × Int32 × mS) ⊕ (mS))} {q : mS} (e : B287_30 N s = some o) (g : GG287_30 xt ct a ra d q o) : LG287_30 xt ct a ra d q s.1 s.2.1 s.2.2.1 s.2.2.2.1 s.2.2.2.2 := by
  unfold B287_30 at e
  exact (fun l h0 h1 h2 h3 h5 =>
  M_of (fun _ _ H => r_iload c287_30 h5 <| r_aloadn c287_32 h0 <| H) <|
  M_geta (j := 49) c287_33 (by decide) <|
  M_of (fun _ _ H => r_iconst c287_36 <| H) <|
  M_iald (j := 49) (v := (s.2.2.2.2.2.1 49 0)) c287_37 (by decide) (by decide) rfl <|
  t_if e (fun b42 e43 =>
    M_of (fun _ _ H => r_icmpT c287_38 b42 <| H) <|
    M_of (fun _ _ H => r_lloadn c287_75 h3 <| r_lconst c287_76 <| r_lcmp c287_77 rfl <| H) <|
    t_if e43 (fun b44 e45 =>
      M_of (fun _ _ H => r_ifT c287_78 b44 <| H) <|
      t_up e45 fun o46 e47 u48 =>
      (fun (g49 : GG287_18 xt ct a ra d q o46) =>
      J287_125_ok h0 h1 h2 e47 g49
      ) (by have := g; rw [u48] at this; exact this)
    ) (fun b44 e45 =>
      M_of (fun _ _ H => r_ifF c287_78 b44 <| H) <|
      M_of (fun _ _ H => r_aloadn c287_81 h0 <| H) <|
      M_geta (j := 59) c287_82 (by decide) <|
      M_of (fun _ _ H => r_bipush c287_85 <| r_iloadn c287_87 h1 <| r_imul c287_88 rfl <| r_aloadn c287_89 h0 <| H) <|
      M_geta (j := 58) c287_90 (by decide) <|
      M_of (fun _ _ H => r_iloadn c287_93 h1 <| H) <|
      t_ck e45 fun i50 e51 =>
      M_iald (j := 58) (v := (s.2.2.2.2.2.1 58 (s.1).toInt.toNat)) c287_94 (by decide) i50 rfl <|
      M_of (fun _ _ H => r_iadd c287_95 rfl <| r_iloadn c287_96 h2 <| H) <|
      t_ck e51 fun i52 e53 =>
      M_iast (j := 59) c287_97 (by decide) i52 <|
      M_of (fun _ _ H => r_aloadn c287_98 h0 <| H) <|
      M_geta (j := 60) c287_99 (by decide) <|
      M_of (fun _ _ H => r_bipush c287_102 <| r_iloadn c287_104 h1 <| r_imul c287_105 rfl <| r_aloadn c287_106 h0 <| H) <|
      M_geta (j := 58) c287_107 (by decide) <|
      M_of (fun _ _ H => r_iloadn c287_110 h1 <| H) <|
      t_ck e53 fun i54 e55 =>
      M_iald (j := 58) (v := (s.2.2.2.2.2.1 58 (s.1).toInt.toNat)) c287_111 (by decide) i54 rfl <|
      M_of (fun _ _ H => r_iadd c287_112 rfl <| r_lloadn c287_113 h3 <| H) <|
      t_ck e55 fun i56 e57 =>
      M_last (j := 60) c287_114 (by decide) i56 <|
      M_of (fun _ _ H => r_aloadn c287_115 h0 <| H) <|
      M_geta (j := 58) c287_116 (by decide) <|
      M_of (fun _ _ H => r_iloadn c287_119 h1 <| r_dup2ia c287_120 <| H) <|
      t_ck e57 fun i58 e59 =>
      M_iald (j := 58) (v := (s.2.2.2.2.2.1 58 (s.1).toInt.toNat)) c287_121 (by decide) i58 rfl <|
      M_of (fun _ _ H => r_iconst c287_122 <| r_iadd c287_123 rfl <| H) <|
      t_ck e59 fun i60 e61 =>
      M_iast (j := 58) c287_124 (by decide) i60 <|
      t_up e61 fun o62 e63 u64 =>
      (fun (g65 : GG287_18 xt ct a ra d q o62) =>
      J287_125_ok h0 h1 h2 e63 g65
      ) (by have := g; rw [u64] at this; exact this)
    )
  ) (fun b42 e43 =>
    M_of (fun _ _ H => r_icmpF c287_38 b42 <| H) <|
    M_of (fun _ _ H => r_aloadn c287_41 h0 <| H) <|
    M_geta (j := 47) c287_42 (by decide) <|
    M_of (fun _ _ H => r_bipush c287_45 <| r_iload c287_47 h5 <| r_imul c287_49 rfl <| H) <|
    t_ck e43 fun i66 e67 =>
    M_iald (j := 47) (v := (s.2.2.2.2.2.1 47 ((6 * s.2.2.2.1)).toInt.toNat)) c287_50 (by decide) i66 rfl <|
    M_of (fun _ _ H => r_iloadn c287_51 h2 <| H) <|
    t_if e67 (fun b68 e69 =>
      M_of (fun _ _ H => r_icmpT c287_52 b68 <| H) <|
      M_of (fun _ _ H => r_lloadn c287_67 h3 <| H) <|
      J287_68_ok h0 h1 h2 h5 e69 g
    ) (fun b68 e69 =>
      M_of (fun _ _ H => r_icmpF c287_52 b68 <| H) <|
      M_of (fun _ _ H => r_lloadn c287_55 h3 <| r_aloadn c287_56 h0 <| H) <|
      M_geta (j := 48) c287_57 (by decide) <|
      M_of (fun _ _ H => r_iload c287_60 h5 <| H) <|
      t_ck e69 fun i70 e71 =>
      M_lald (j := 48) (v := (s.2.2.2.2.2.2 48 (s.2.2.2.1).toInt.toNat)) c287_62 (by decide) i70 rfl <|
      M_of (fun _ _ H => r_ladd c287_63 rfl <| r_goto c287_64 <| H) <|
      J287_68_ok h0 h1 h2 h5 e71 g
    )
  ))
theorem L287_30_ok {xt : mj_X} {ct : Nat → Value} {a : Nat} {ra : Nat → Nat} {d N : Nat} {x1 : Int32} {x2 : Int32} {x3 : Int64} {x5 : Int32} {S : mS} {o : (Int32 × Int32 × mS) ⊕ (mS)} {q : mS} (e : L287_30 N (x1, x2, x3, x5, S) = some o) (g : GG287_18 xt ct a ra d q o) : LG287_30 xt ct a ra d q x1 x2 x3 x5 S :=
  t_lp_ok (G := fun s => LG287_30 xt ct a ra d q s.1 s.2.1 s.2.2.1 s.2.2.2.1 s.2.2.2.2) (fun s s' e g => B287_30_ok e (by obtain ⟨_, _, _, _, _⟩ := s'; exact g)) (fun s e => B287_30_ok e g) N (x1, x2, x3, x5, S) e
def B287_18 (N : Nat) (s : Int32 × Int32 × mS) : Option ((Int32 × Int32 × mS) ⊕ (mS)) :=
  bif mj_c2 .gt s.2.1 999 then
    (L287_139 N (s.1, 0, (64 * s.1), s.2.2)).map Sum.inr
  else
  L287_30 N (s.1, s.2.1, 0, 0, s.2.2)
def L287_18 (N : Nat) (s : Int32 × Int32 × mS) : Option (mS) := t_lp (B287_18 N) N s
theorem B287_18_ok {xt : mj_X} {ct : Nat → Value} {a : Nat} {ra : Nat → Nat} {d N : Nat} {s : Int32 × Int32 × mS} {o : (Int32 × Int32 × mS) ⊕ (mS)} {q : mS} (e : B287_18 N s = some o) (g : GG287_18 xt ct a ra d q o) : LG287_18 xt ct a ra d q s.1 s.2.1 s.2.2 := by
  unfold B287_18 at e
  exact (fun l h0 h1 h2 =>
  M_of (fun _ _ H => r_iloadn c287_18 h2 <| r_sipush c287_19 <| H) <|
  t_if e (fun b5 e6 =>
    M_of (fun _ _ H => r_icmpT c287_22 b5 <| H) <|
    M_of (fun _ _ H => r_lconst c287_131 <| r_lstoren c287_132 <| r_bipush c287_133 <| r_iloadn c287_135 (ld2_ne h1 (by decide) (Or.inr rfl)) <| r_imul c287_136 rfl <| r_istore c287_137 <| H) <|
    t_up e6 fun o38 e39 u40 =>
    (fun (g41 : o38 = q) =>
    by subst g41; exact (L287_139_ok e39 _ (ld1_ne (ld2_ne h0 (by decide) (Or.inl (by decide))) (by decide) (Or.inl (by decide))) (ld1_ne (ld2_ne h1 (by decide) (Or.inr rfl)) (by decide) (Or.inl (by decide))) (ld1_ne ld2_eq (by decide) (Or.inl (by decide))) ld1_eq)
    ) (by have := g; rw [u40] at this; exact this)
  ) (fun b5 e6 =>
    M_of (fun _ _ H => r_icmpF c287_22 b5 <| H) <|
    M_of (fun _ _ H => r_lconst c287_25 <| r_lstoren c287_26 <| r_iconst c287_27 <| r_istore c287_28 <| H) <|
    L287_30_ok e6 g _ (ld1_ne (ld2_ne h0 (by decide) (Or.inl (by decide))) (by decide) (Or.inl (by decide))) (ld1_ne (ld2_ne h1 (by decide) (Or.inl (by decide))) (by decide) (Or.inl (by decide))) (ld1_ne (ld2_ne h2 (by decide) (Or.inr rfl)) (by decide) (Or.inl (by decide))) (ld1_ne ld2_eq (by decide) (Or.inl (by decide))) ld1_eq
  ))
theorem L287_18_ok {xt : mj_X} {ct : Nat → Value} {a : Nat} {ra : Nat → Nat} {d N : Nat} {x1 : Int32} {x2 : Int32} {S : mS} {q : mS} (e : L287_18 N (x1, x2, S) = some q) : LG287_18 xt ct a ra d q x1 x2 S :=
  t_lp_ok (G := fun s => LG287_18 xt ct a ra d q s.1 s.2.1 s.2.2) (fun s s' e g => B287_18_ok e (by obtain ⟨_, _, _⟩ := s'; exact g)) (fun s e => B287_18_ok e rfl) N (x1, x2, S) e
/-- takeResult(I)V -/
def M287 (N : Nat) (x1 : Int32) (S : mS) : Option (mS) :=
  if 0 ≤ (x1).toInt ∧ (x1).toInt < mN 58 then
  if 0 ≤ (x1).toInt ∧ (x1).toInt < mN 61 then
  L287_18 N (x1, (-999), (m_sB (m_sA S 58 (x1).toInt.toNat 0) 61 (x1).toInt.toNat 0))
  else none
  else none
theorem M287_ok {xt : mj_X} {ct : Nat → Value} {a : Nat} {ra : Nat → Nat} {d N : Nat} {x1 : Int32} {S : mS} {q : mS} (e : M287 N x1 S = some q) : MR xt ct a ra (d + 2) 287 0 (lv_args 0 [.ref a, .int x1]) [] S (.inl none) q := by
  unfold M287 at e
  exact (
  M_of (fun _ _ H => r_aloadn c287_0 rfl <| H) <|
  M_geta (j := 58) c287_1 (by decide) <|
  M_of (fun _ _ H => r_iloadn c287_4 rfl <| r_iconst c287_5 <| H) <|
  t_ck e fun i1 e2 =>
  M_iast (j := 58) c287_6 (by decide) i1 <|
  M_of (fun _ _ H => r_aloadn c287_7 rfl <| H) <|
  M_geta (j := 61) c287_8 (by decide) <|
  M_of (fun _ _ H => r_iloadn c287_11 rfl <| r_lconst c287_12 <| H) <|
  t_ck e2 fun i3 e4 =>
  M_last (j := 61) c287_13 (by decide) i3 <|
  M_of (fun _ _ H => r_sipush c287_14 <| r_istoren c287_17 <| H) <|
  L287_18_ok e4 _ (ld1_ne rfl (by decide) (Or.inl (by decide))) (ld1_ne rfl (by decide) (Or.inr rfl)) ld1_eq)
def J259_40 (N : Nat) (x2 : Int32)  (S : mS) : Option (Int32 × mS) :=
  some (x2, S)
theorem J259_40_ok {xt : mj_X} {ct : Nat → Value} {a : Nat} {ra : Nat → Nat} {d N : Nat} {l : mj_L} {x2 : Int32}  {S : mS} {q : Int32 × mS} (h0 : mj_ld l 0 = some (.ref a)) (h2 : mj_ld l 2 = some (.int x2)) (e : J259_40 N x2  S = some q) : MR xt ct a ra (d + 9) 259 40 l [] S (.inl (some (.int q.1))) q.2 := by
  unfold J259_40 at e
  exact (
  M_of (fun _ _ H => r_iloadn c259_40 h2 <| H) <|
  M_ri (Option.some.inj e) (fun _ => r_iret c259_41 rfl))
/-- run(I)I -/
def M259 (N : Nat) (x1 : Int32) (S : mS) : Option (Int32 × mS) :=
  (M246 N x1 S).bind fun r1 =>
  bif mj_c1 .le r1.1 then
    (M260 N x1 (m_sV r1.2 0 r1.1)).bind fun r6 =>
    if 0 ≤ (x1).toInt ∧ (x1).toInt < mN 57 then
    bif mj_c1 .ne r6.1 then
      J259_40 N r6.1 (m_sA r6.2 57 (x1).toInt.toNat 0)
    else
    (M287 N x1 (m_sA r6.2 57 (x1).toInt.toNat 0)).bind fun r13 =>
    J259_40 N r6.1 r13
    else none
  else
  some (0, (m_sV r1.2 0 r1.1))
theorem M259_ok {xt : mj_X} {ct : Nat → Value} {a : Nat} {ra : Nat → Nat} {d N : Nat} {x1 : Int32} {S : mS} {q : Int32 × mS} (e : M259 N x1 S = some q) : MR xt ct a ra (d + 9) 259 0 (lv_args 0 [.ref a, .int x1]) [] S (.inl (some (.int q.1))) q.2 := by
  unfold M259 at e
  exact (
  M_of (fun _ _ H => r_aloadn c259_0 rfl <| r_aloadn c259_1 rfl <| r_iloadn c259_2 rfl <| H) <|
  t_bd e fun r1 c2 e3 =>
  M_cv (as := [.ref a, .int x1]) (st' := [.int r1.1, .ref a]) (v := (some (.int r1.1))) c259_3 rfl ⟨Nat.le_of_ble_eq_true rfl, Nat.le_of_ble_eq_true rfl, Nat.le_of_ble_eq_true rfl⟩ rfl rfl (M246_ok (d := d) c2) (Nat.add_lt_add_left (by decide) d) <|
  M_put c259_6 (by decide) <|
  M_of (fun _ _ H => r_aloadn c259_9 rfl <| H) <|
  M_get (v := r1.1) c259_10 (by decide) rfl <|
  t_if e3 (fun b4 e5 =>
    M_of (fun _ _ H => r_ifT c259_13 b4 <| H) <|
    M_of (fun _ _ H => r_aloadn c259_18 rfl <| r_iloadn c259_19 rfl <| H) <|
    t_bd e5 fun r6 c7 e8 =>
    M_cv (as := [.ref a, .int x1]) (st' := [.int r6.1]) (v := (some (.int r6.1))) c259_20 rfl ⟨Nat.le_of_ble_eq_true rfl, Nat.le_of_ble_eq_true rfl, Nat.le_of_ble_eq_true rfl⟩ rfl rfl (M260_ok (d := d) c7) (Nat.add_lt_add_left (by decide) d) <|
    M_of (fun _ _ H => r_istoren c259_23 <| r_aloadn c259_24 (ld1_ne rfl (by decide) (Or.inl (by decide))) <| H) <|
    M_geta (j := 57) c259_25 (by decide) <|
    M_of (fun _ _ H => r_iloadn c259_28 (ld1_ne rfl (by decide) (Or.inr rfl)) <| r_iconst c259_29 <| H) <|
    t_ck e8 fun i9 e10 =>
    M_zast (j := 57) c259_30 (by decide) i9 (by decide) <|
    M_of (fun _ _ H => r_iloadn c259_31 ld1_eq <| H) <|
    t_if e10 (fun b11 e12 =>
      M_of (fun _ _ H => r_ifT c259_32 b11 <| H) <|
      J259_40_ok (ld1_ne rfl (by decide) (Or.inl (by decide))) ld1_eq e12
    ) (fun b11 e12 =>
      M_of (fun _ _ H => r_ifF c259_32 b11 <| H) <|
      M_of (fun _ _ H => r_aloadn c259_35 (ld1_ne rfl (by decide) (Or.inl (by decide))) <| r_iloadn c259_36 (ld1_ne rfl (by decide) (Or.inr rfl)) <| H) <|
      t_bd e12 fun r13 c14 e15 =>
      M_cv (as := [.ref a, .int x1]) (st' := []) (v := none) c259_37 rfl ⟨Nat.le_of_ble_eq_true rfl, Nat.le_of_ble_eq_true rfl, Nat.le_of_ble_eq_true rfl⟩ rfl rfl (M287_ok (d := d) c14) (Nat.add_lt_add_left (by decide) d) <|
      J259_40_ok (ld1_ne rfl (by decide) (Or.inl (by decide))) ld1_eq e15
    )
  ) (fun b4 e5 =>
    M_of (fun _ _ H => r_ifF c259_13 b4 <| H) <|
    M_of (fun _ _ H => r_iconst c259_16 <| H) <|
    M_ri (Option.some.inj e5) (fun _ => r_iret c259_17 rfl)
  ))
/-- states()I -/
def M288 (N : Nat)  (S : mS) : Option (Int32 × mS) :=
  some ((S.1 52), (m_sV S 0 0))
theorem M288_ok {xt : mj_X} {ct : Nat → Value} {a : Nat} {ra : Nat → Nat} {d N : Nat}  {S : mS} {q : Int32 × mS} (e : M288 N  S = some q) : MR xt ct a ra (d + 1) 288 0 (lv_args 0 [.ref a]) [] S (.inl (some (.int q.1))) q.2 := by
  unfold M288 at e
  exact (
  M_of (fun _ _ H => r_aloadn c288_0 rfl <| r_iconst c288_1 <| H) <|
  M_put c288_2 (by decide) <|
  M_of (fun _ _ H => r_aloadn c288_5 rfl <| H) <|
  M_get (v := (S.1 52)) c288_6 (by decide) rfl <|
  M_ri (Option.some.inj e) (fun _ => r_iret c288_9 rfl))
def J290_25 (N : Nat)  (s0 : Int32) (S : mS) : Option (Int32 × mS) :=
  some (s0, S)
theorem J290_25_ok {xt : mj_X} {ct : Nat → Value} {a : Nat} {ra : Nat → Nat} {d N : Nat} {l : mj_L}  {s0 : Int32} {S : mS} {q : Int32 × mS} (h0 : mj_ld l 0 = some (.ref a)) (e : J290_25 N  s0 S = some q) : MR xt ct a ra (d + 3) 290 25 l [.int s0] S (.inl (some (.int q.1))) q.2 := by
  unfold J290_25 at e
  exact (
  M_ri (Option.some.inj e) (fun _ => r_iret c290_25 rfl))
/-- wrongResult(I)I -/
def M290 (N : Nat) (x1 : Int32) (S : mS) : Option (Int32 × mS) :=
  (M210 N x1 S).bind fun r1 =>
  bif mj_c1 .ne r1.1 then
    if 0 ≤ (x1).toInt ∧ (x1).toInt < mN 57 then
    bif mj_c1 .ne (r1.2.2.1 57 (x1).toInt.toNat) then
      J290_25 N 0 r1.2
    else
    J290_25 N 2 r1.2
    else none
  else
  J290_25 N 1 r1.2
theorem M290_ok {xt : mj_X} {ct : Nat → Value} {a : Nat} {ra : Nat → Nat} {d N : Nat} {x1 : Int32} {S : mS} {q : Int32 × mS} (e : M290 N x1 S = some q) : MR xt ct a ra (d + 3) 290 0 (lv_args 0 [.ref a, .int x1]) [] S (.inl (some (.int q.1))) q.2 := by
  unfold M290 at e
  exact (
  M_of (fun _ _ H => r_iloadn c290_0 rfl <| H) <|
  t_bd e fun r1 c2 e3 =>
  M_cs (as := [.int x1]) (st' := [.int r1.1]) (v := (some (.int r1.1))) c290_1 ⟨Nat.le_of_ble_eq_true rfl, Nat.le_of_ble_eq_true rfl, Nat.le_of_ble_eq_true rfl⟩ rfl rfl (M210_ok (d := d) c2) (Nat.add_lt_add_left (by decide) d) <|
  t_if e3 (fun b4 e5 =>
    M_of (fun _ _ H => r_ifT c290_4 b4 <| H) <|
    M_of (fun _ _ H => r_aloadn c290_11 rfl <| H) <|
    M_geta (j := 57) c290_12 (by decide) <|
    M_of (fun _ _ H => r_iloadn c290_15 rfl <| H) <|
    t_ck e5 fun i6 e7 =>
    M_zald (j := 57) (v := (r1.2.2.1 57 (x1).toInt.toNat)) c290_16 (by decide) i6 rfl <|
    t_if e7 (fun b8 e9 =>
      M_of (fun _ _ H => r_ifT c290_17 b8 <| H) <|
      M_of (fun _ _ H => r_iconst c290_24 <| H) <|
      J290_25_ok rfl e9
    ) (fun b8 e9 =>
      M_of (fun _ _ H => r_ifF c290_17 b8 <| H) <|
      M_of (fun _ _ H => r_iconst c290_20 <| r_goto c290_21 <| H) <|
      J290_25_ok rfl e9
    )
  ) (fun b4 e5 =>
    M_of (fun _ _ H => r_ifF c290_4 b4 <| H) <|
    M_of (fun _ _ H => r_iconst c290_7 <| r_goto c290_8 <| H) <|
    J290_25_ok rfl e5
  ))
def J289_26 (N : Nat)  (s0 : Int32) (S : mS) : Option (Int32 × mS) :=
  some (s0, S)
theorem J289_26_ok {xt : mj_X} {ct : Nat → Value} {a : Nat} {ra : Nat → Nat} {d N : Nat} {l : mj_L}  {s0 : Int32} {S : mS} {q : Int32 × mS} (h0 : mj_ld l 0 = some (.ref a)) (e : J289_26 N  s0 S = some q) : MR xt ct a ra (d + 4) 289 26 l [.int s0] S (.inl (some (.int q.1))) q.2 := by
  unfold J289_26 at e
  exact (
  M_ri (Option.some.inj e) (fun _ => r_iret c289_26 rfl))
/-- outcomes(I)I -/
def M289 (N : Nat) (x1 : Int32) (S : mS) : Option (Int32 × mS) :=
  (M290 N x1 S).bind fun r1 =>
  bif mj_c1 .le r1.1 then
    if 0 ≤ (x1).toInt ∧ (x1).toInt < mN 58 then
    J289_26 N (r1.2.2.1 58 (x1).toInt.toNat) (m_sV r1.2 0 r1.1)
    else none
  else
  J289_26 N 0 (m_sV r1.2 0 r1.1)
theorem M289_ok {xt : mj_X} {ct : Nat → Value} {a : Nat} {ra : Nat → Nat} {d N : Nat} {x1 : Int32} {S : mS} {q : Int32 × mS} (e : M289 N x1 S = some q) : MR xt ct a ra (d + 4) 289 0 (lv_args 0 [.ref a, .int x1]) [] S (.inl (some (.int q.1))) q.2 := by
  unfold M289 at e
  exact (
  M_of (fun _ _ H => r_aloadn c289_0 rfl <| r_aloadn c289_1 rfl <| r_iloadn c289_2 rfl <| H) <|
  t_bd e fun r1 c2 e3 =>
  M_cv (as := [.ref a, .int x1]) (st' := [.int r1.1, .ref a]) (v := (some (.int r1.1))) c289_3 rfl ⟨Nat.le_of_ble_eq_true rfl, Nat.le_of_ble_eq_true rfl, Nat.le_of_ble_eq_true rfl⟩ rfl rfl (M290_ok (d := d) c2) (Nat.add_lt_add_left (by decide) d) <|
  M_put c289_6 (by decide) <|
  M_of (fun _ _ H => r_aloadn c289_9 rfl <| H) <|
  M_get (v := r1.1) c289_10 (by decide) rfl <|
  t_if e3 (fun b4 e5 =>
    M_of (fun _ _ H => r_ifT c289_13 b4 <| H) <|
    M_of (fun _ _ H => r_aloadn c289_20 rfl <| H) <|
    M_geta (j := 58) c289_21 (by decide) <|
    M_of (fun _ _ H => r_iloadn c289_24 rfl <| H) <|
    t_ck e5 fun i6 e7 =>
    M_iald (j := 58) (v := (r1.2.2.1 58 (x1).toInt.toNat)) c289_25 (by decide) i6 rfl <|
    J289_26_ok rfl e7
  ) (fun b4 e5 =>
    M_of (fun _ _ H => r_ifF c289_13 b4 <| H) <|
    M_of (fun _ _ H => r_iconst c289_16 <| r_goto c289_17 <| H) <|
    J289_26_ok rfl e5
  ))
