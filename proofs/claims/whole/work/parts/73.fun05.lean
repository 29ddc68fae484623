/-- copySet(II)V -/
def M268 (N : Nat) (x1 : Int32) (x2 : Int32) (S : mS) : Option (mS) :=
  if 0 ≤ (x1).toInt ∧ (x1).toInt < mN 49 then
  (M269 N x1 x2 1 (m_sA S 49 (x1).toInt.toNat 0)).bind fun r3 =>
  some r3
  else none
theorem M268_ok {xt : mj_X} {ct : Nat → Value} {a : Nat} {ra : Nat → Nat} {d N : Nat} {x1 : Int32} {x2 : Int32} {S : mS} {q : mS} (e : M268 N x1 x2 S = some q) : MR xt ct a ra (d + 4) 268 0 (lv_args 0 [.ref a, .int x1, .int x2]) [] S (.inl none) q := by
  unfold M268 at e
  exact (
  M_of (fun _ _ H => r_aloadn c268_0 rfl <| H) <|
  M_geta (j := 49) c268_1 (by decide) <|
  M_of (fun _ _ H => r_iloadn c268_4 rfl <| r_iconst c268_5 <| H) <|
  t_ck e fun i1 e2 =>
  M_iast (j := 49) c268_6 (by decide) i1 <|
  M_of (fun _ _ H => r_aloadn c268_7 rfl <| r_iloadn c268_8 rfl <| r_iloadn c268_9 rfl <| r_lconst c268_10 <| H) <|
  t_bd e2 fun r3 c4 e5 =>
  M_cv (as := [.ref a, .int x1, .int x2, .long 1]) (st' := []) (v := none) c268_11 rfl ⟨Nat.le_of_ble_eq_true rfl, Nat.le_of_ble_eq_true rfl, Nat.le_of_ble_eq_true rfl⟩ rfl rfl (M269_ok (d := d) c4) (Nat.add_lt_add_left (by decide) d) <|
  M_rv (Option.some.inj e5) (fun _ => r_ret c268_14))
/-- beginSpare()V -/
def M273 (N : Nat)  (S : mS) : Option (mS) :=
  some (m_sV (m_sA S 49 9 0) 50 0)
theorem M273_ok {xt : mj_X} {ct : Nat → Value} {a : Nat} {ra : Nat → Nat} {d N : Nat}  {S : mS} {q : mS} (e : M273 N  S = some q) : MR xt ct a ra (d + 1) 273 0 (lv_args 0 [.ref a]) [] S (.inl none) q := by
  unfold M273 at e
  exact (
  M_of (fun _ _ H => r_aloadn c273_0 rfl <| H) <|
  M_geta (j := 49) c273_1 (by decide) <|
  M_of (fun _ _ H => r_bipush c273_4 <| r_iconst c273_6 <| H) <|
  M_iast (j := 49) c273_7 (by decide) (by decide) <|
  M_of (fun _ _ H => r_aloadn c273_8 rfl <| r_iconst c273_9 <| H) <|
  M_putz c273_10 (by decide) (by decide) <|
  M_rv (Option.some.inj e) (fun _ => r_ret c273_13))
def J274_44 (N : Nat) (x1 : Int32) (s0 : Int32) (S : mS) : Option (Int32 × mS) :=
  (M268 N x1 9 (m_sV S 52 s0)).bind fun r5 =>
  some (1, r5)
theorem J274_44_ok {xt : mj_X} {ct : Nat → Value} {a : Nat} {ra : Nat → Nat} {d N : Nat} {l : mj_L} {x1 : Int32} {s0 : Int32} {S : mS} {q : Int32 × mS} (h0 : mj_ld l 0 = some (.ref a)) (h1 : mj_ld l 1 = some (.int x1)) (e : J274_44 N x1 s0 S = some q) : MR xt ct a ra (d + 5) 274 44 l [.int s0, .ref a] S (.inl (some (.int q.1))) q.2 := by
  unfold J274_44 at e
  exact (
  M_put c274_44 (by decide) <|
  M_of (fun _ _ H => r_aloadn c274_47 h0 <| r_iloadn c274_48 h1 <| r_bipush c274_49 <| H) <|
  t_bd e fun r5 c6 e7 =>
  M_cv (as := [.ref a, .int x1, .int 9]) (st' := []) (v := none) c274_51 rfl ⟨Nat.le_of_ble_eq_true rfl, Nat.le_of_ble_eq_true rfl, Nat.le_of_ble_eq_true rfl⟩ rfl rfl (M268_ok (d := d) c6) (Nat.add_lt_add_left (by decide) d) <|
  M_of (fun _ _ H => r_iconst c274_54 <| H) <|
  M_ri (Option.some.inj e7) (fun _ => r_iret c274_55 rfl))
/-- settle(I)Z -/
def M274 (N : Nat) (x1 : Int32) (S : mS) : Option (Int32 × mS) :=
  bif mj_c1 .eq (S.1 50) then
    bif mj_c2 .le (S.2.1 49 9) (S.1 52) then
      J274_44 N x1 (S.1 52) S
    else
    J274_44 N x1 (S.2.1 49 9) S
  else
  some (0, (m_sV S 51 (-2)))
theorem M274_ok {xt : mj_X} {ct : Nat → Value} {a : Nat} {ra : Nat → Nat} {d N : Nat} {x1 : Int32} {S : mS} {q : Int32 × mS} (e : M274 N x1 S = some q) : MR xt ct a ra (d + 5) 274 0 (lv_args 0 [.ref a, .int x1]) [] S (.inl (some (.int q.1))) q.2 := by
  unfold M274 at e
  exact (
  M_of (fun _ _ H => r_aloadn c274_0 rfl <| H) <|
  M_get (v := (S.1 50)) c274_1 (by decide) rfl <|
  t_if e (fun b1 e2 =>
    M_of (fun _ _ H => r_ifT c274_4 b1 <| H) <|
    M_of (fun _ _ H => r_aloadn c274_15 rfl <| r_aloadn c274_16 rfl <| H) <|
    M_geta (j := 49) c274_17 (by decide) <|
    M_of (fun _ _ H => r_bipush c274_20 <| H) <|
    M_iald (j := 49) (v := (S.2.1 49 9)) c274_22 (by decide) (by decide) rfl <|
    M_of (fun _ _ H => r_aloadn c274_23 rfl <| H) <|
    M_get (v := (S.1 52)) c274_24 (by decide) rfl <|
    t_if e2 (fun b3 e4 =>
      M_of (fun _ _ H => r_icmpT c274_27 b3 <| H) <|
      M_of (fun _ _ H => r_aloadn c274_40 rfl <| H) <|
      M_get (v := (S.1 52)) c274_41 (by decide) rfl <|
      J274_44_ok rfl rfl e4
    ) (fun b3 e4 =>
      M_of (fun _ _ H => r_icmpF c274_27 b3 <| H) <|
      M_of (fun _ _ H => r_aloadn c274_30 rfl <| H) <|
      M_geta (j := 49) c274_31 (by decide) <|
      M_of (fun _ _ H => r_bipush c274_34 <| H) <|
      M_iald (j := 49) (v := (S.2.1 49 9)) c274_36 (by decide) (by decide) rfl <|
      M_of (fun _ _ H => r_goto c274_37 <| H) <|
      J274_44_ok rfl rfl e4
    )
  ) (fun b1 e2 =>
    M_of (fun _ _ H => r_ifF c274_4 b1 <| H) <|
    M_of (fun _ _ H => r_aloadn c274_7 rfl <| r_bipush c274_8 <| H) <|
    M_put c274_10 (by decide) <|
    M_of (fun _ _ H => r_iconst c274_13 <| H) <|
    M_ri (Option.some.inj e2) (fun _ => r_iret c274_14 rfl)
  ))
/-- unite(III)Z -/
def M272 (N : Nat) (x1 : Int32) (x2 : Int32) (x3 : Int32) (S : mS) : Option (Int32 × mS) :=
  if 0 ≤ (((24 * x1) + x2)).toInt ∧ (((24 * x1) + x2)).toInt < mN 10 then
  (M236 N x1 (x2 + 1) (S.2.1 10 (((24 * x1) + x2)).toInt.toNat) S).bind fun r3 =>
  if 0 ≤ (((24 * x1) + x2)).toInt ∧ (((24 * x1) + x2)).toInt < mN 10 then
  if 0 ≤ (((24 * x1) + x2)).toInt ∧ (((24 * x1) + x2)).toInt < mN 11 then
  (M236 N x1 (r3.2.2.1 10 (((24 * x1) + x2)).toInt.toNat) (r3.2.2.1 11 (((24 * x1) + x2)).toInt.toNat) r3.2).bind fun r10 =>
  (M240 N r3.1 r10.1 r10.2).bind fun r13 =>
  (M273 N r13.2).bind fun r16 =>
  if r3.1 ≠ 0 then
  (M269 N 9 (x3 + 1) (r13.1 / r3.1) r16).bind fun r21 =>
  if r10.1 ≠ 0 then
  (M269 N 9 (x3 + 2) (r13.1 / r10.1) r21).bind fun r26 =>
  (M274 N x3 r26).bind fun r29 =>
  if r29.1 = 0 ∨ r29.1 = 1 then
  some (r29.1, r29.2)
  else none
  else none
  else none
  else none
  else none
  else none
theorem M272_ok {xt : mj_X} {ct : Nat → Value} {a : Nat} {ra : Nat → Nat} {d N : Nat} {x1 : Int32} {x2 : Int32} {x3 : Int32} {S : mS} {q : Int32 × mS} (e : M272 N x1 x2 x3 S = some q) : MR xt ct a ra (d + 6) 272 0 (lv_args 0 [.ref a, .int x1, .int x2, .int x3]) [] S (.inl (some (.int q.1))) q.2 := by
  unfold M272 at e
  exact (
  M_of (fun _ _ H => r_bipush c272_0 <| r_iloadn c272_2 rfl <| r_imul c272_3 rfl <| r_iloadn c272_4 rfl <| r_iadd c272_5 rfl <| r_istore c272_6 <| r_aloadn c272_8 (ld1_ne rfl (by decide) (Or.inl (by decide))) <| r_iloadn c272_9 (ld1_ne rfl (by decide) (Or.inl (by decide))) <| r_iloadn c272_10 (ld1_ne rfl (by decide) (Or.inl (by decide))) <| r_iconst c272_11 <| r_iadd c272_12 rfl <| r_aloadn c272_13 (ld1_ne rfl (by decide) (Or.inl (by decide))) <| H) <|
  M_geta (j := 10) c272_14 (by decide) <|
  M_of (fun _ _ H => r_iload c272_17 ld1_eq <| H) <|
  t_ck e fun i1 e2 =>
  M_iald (j := 10) (v := (S.2.1 10 (((24 * x1) + x2)).toInt.toNat)) c272_19 (by decide) i1 rfl <|
  t_bd e2 fun r3 c4 e5 =>
  M_cv (as := [.ref a, .int x1, .int (x2 + 1), .int (S.2.1 10 (((24 * x1) + x2)).toInt.toNat)]) (st' := [.long r3.1]) (v := (some (.long r3.1))) c272_20 rfl ⟨Nat.le_of_ble_eq_true rfl, Nat.le_of_ble_eq_true rfl, Nat.le_of_ble_eq_true rfl⟩ rfl rfl (M236_ok (d := d) c4) (Nat.add_lt_add_left (by decide) d) <|
  M_of (fun _ _ H => r_lstore c272_23 <| r_aloadn c272_25 (ld2_ne (ld1_ne rfl (by decide) (Or.inl (by decide))) (by decide) (Or.inl (by decide))) <| r_iloadn c272_26 (ld2_ne (ld1_ne rfl (by decide) (Or.inl (by decide))) (by decide) (Or.inl (by decide))) <| r_aloadn c272_27 (ld2_ne (ld1_ne rfl (by decide) (Or.inl (by decide))) (by decide) (Or.inl (by decide))) <| H) <|
  M_geta (j := 10) c272_28 (by decide) <|
  M_of (fun _ _ H => r_iload c272_31 (ld2_ne ld1_eq (by decide) (Or.inr rfl)) <| H) <|
  t_ck e5 fun i6 e7 =>
  M_iald (j := 10) (v := (r3.2.2.1 10 (((24 * x1) + x2)).toInt.toNat)) c272_33 (by decide) i6 rfl <|
  M_of (fun _ _ H => r_aloadn c272_34 (ld2_ne (ld1_ne rfl (by decide) (Or.inl (by decide))) (by decide) (Or.inl (by decide))) <| H) <|
  M_geta (j := 11) c272_35 (by decide) <|
  M_of (fun _ _ H => r_iload c272_38 (ld2_ne ld1_eq (by decide) (Or.inr rfl)) <| H) <|
  t_ck e7 fun i8 e9 =>
  M_iald (j := 11) (v := (r3.2.2.1 11 (((24 * x1) + x2)).toInt.toNat)) c272_40 (by decide) i8 rfl <|
  t_bd e9 fun r10 c11 e12 =>
  M_cv (as := [.ref a, .int x1, .int (r3.2.2.1 10 (((24 * x1) + x2)).toInt.toNat), .int (r3.2.2.1 11 (((24 * x1) + x2)).toInt.toNat)]) (st' := [.long r10.1]) (v := (some (.long r10.1))) c272_41 rfl ⟨Nat.le_of_ble_eq_true rfl, Nat.le_of_ble_eq_true rfl, Nat.le_of_ble_eq_true rfl⟩ rfl rfl (M236_ok (d := d) c11) (Nat.add_lt_add_left (by decide) d) <|
  M_of (fun _ _ H => r_lstore c272_44 <| r_lload c272_46 (ld2_ne ld2_eq (by decide) (Or.inl (by decide))) <| r_lload c272_48 ld2_eq <| H) <|
  t_bd e12 fun r13 c14 e15 =>
  M_cs (as := [.long r3.1, .long r10.1]) (st' := [.long r13.1]) (v := (some (.long r13.1))) c272_50 ⟨Nat.le_of_ble_eq_true rfl, Nat.le_of_ble_eq_true rfl, Nat.le_of_ble_eq_true rfl⟩ rfl rfl (M240_ok (d := d) c14) (Nat.add_lt_add_left (by decide) d) <|
  M_of (fun _ _ H => r_lstore c272_53 <| r_aloadn c272_55 (ld2_ne (ld2_ne (ld2_ne (ld1_ne rfl (by decide) (Or.inl (by decide))) (by decide) (Or.inl (by decide))) (by decide) (Or.inl (by decide))) (by decide) (Or.inl (by decide))) <| H) <|
  t_bd e15 fun r16 c17 e18 =>
  M_cv (as := [.ref a]) (st' := []) (v := none) c272_56 rfl ⟨Nat.le_of_ble_eq_true rfl, Nat.le_of_ble_eq_true rfl, Nat.le_of_ble_eq_true rfl⟩ rfl rfl (M273_ok (d := d) c17) (Nat.add_lt_add_left (by decide) d) <|
  M_of (fun _ _ H => r_aloadn c272_59 (ld2_ne (ld2_ne (ld2_ne (ld1_ne rfl (by decide) (Or.inl (by decide))) (by decide) (Or.inl (by decide))) (by decide) (Or.inl (by decide))) (by decide) (Or.inl (by decide))) <| r_bipush c272_60 <| r_iloadn c272_62 (ld2_ne (ld2_ne (ld2_ne (ld1_ne rfl (by decide) (Or.inr rfl)) (by decide) (Or.inl (by decide))) (by decide) (Or.inl (by decide))) (by decide) (Or.inl (by decide))) <| r_iconst c272_63 <| r_iadd c272_64 rfl <| r_lload c272_65 ld2_eq <| r_lload c272_67 (ld2_ne (ld2_ne ld2_eq (by decide) (Or.inl (by decide))) (by decide) (Or.inl (by decide))) <| H) <|
  t_ck e18 fun y19 e20 =>
  M_of (fun _ _ H => r_ldiv c272_69 y19 rfl <| H) <|
  t_bd e20 fun r21 c22 e23 =>
  M_cv (as := [.ref a, .int 9, .int (x3 + 1), .long (r13.1 / r3.1)]) (st' := []) (v := none) c272_70 rfl ⟨Nat.le_of_ble_eq_true rfl, Nat.le_of_ble_eq_true rfl, Nat.le_of_ble_eq_true rfl⟩ rfl rfl (M269_ok (d := d) c22) (Nat.add_lt_add_left (by decide) d) <|
  M_of (fun _ _ H => r_aloadn c272_73 (ld2_ne (ld2_ne (ld2_ne (ld1_ne rfl (by decide) (Or.inl (by decide))) (by decide) (Or.inl (by decide))) (by decide) (Or.inl (by decide))) (by decide) (Or.inl (by decide))) <| r_bipush c272_74 <| r_iloadn c272_76 (ld2_ne (ld2_ne (ld2_ne (ld1_ne rfl (by decide) (Or.inr rfl)) (by decide) (Or.inl (by decide))) (by decide) (Or.inl (by decide))) (by decide) (Or.inl (by decide))) <| r_iconst c272_77 <| r_iadd c272_78 rfl <| r_lload c272_79 ld2_eq <| r_lload c272_81 (ld2_ne ld2_eq (by decide) (Or.inl (by decide))) <| H) <|
  t_ck e23 fun y24 e25 =>
  M_of (fun _ _ H => r_ldiv c272_83 y24 rfl <| H) <|
  t_bd e25 fun r26 c27 e28 =>
  M_cv (as := [.ref a, .int 9, .int (x3 + 2), .long (r13.1 / r10.1)]) (st' := []) (v := none) c272_84 rfl ⟨Nat.le_of_ble_eq_true rfl, Nat.le_of_ble_eq_true rfl, Nat.le_of_ble_eq_true rfl⟩ rfl rfl (M269_ok (d := d) c27) (Nat.add_lt_add_left (by decide) d) <|
  M_of (fun _ _ H => r_aloadn c272_87 (ld2_ne (ld2_ne (ld2_ne (ld1_ne rfl (by decide) (Or.inl (by decide))) (by decide) (Or.inl (by decide))) (by decide) (Or.inl (by decide))) (by decide) (Or.inl (by decide))) <| r_iloadn c272_88 (ld2_ne (ld2_ne (ld2_ne (ld1_ne rfl (by decide) (Or.inr rfl)) (by decide) (Or.inl (by decide))) (by decide) (Or.inl (by decide))) (by decide) (Or.inl (by decide))) <| H) <|
  t_bd e28 fun r29 c30 e31 =>
  M_cv (as := [.ref a, .int x3]) (st' := [.int r29.1]) (v := (some (.int r29.1))) c272_89 rfl ⟨Nat.le_of_ble_eq_true rfl, Nat.le_of_ble_eq_true rfl, Nat.le_of_ble_eq_true rfl⟩ rfl rfl (M274_ok (d := d) c30) (Nat.add_lt_add_left (by decide) d) <|
  t_ck e31 fun z32 e33 =>
  M_ri (Option.some.inj e33) (fun _ => r_iret c272_92 (m_z1 z32)))
def J267_139 (N : Nat)  (s0 : Int32) (S : mS) : Option (Int32 × mS) :=
  some (s0, S)
theorem J267_139_ok {xt : mj_X} {ct : Nat → Value} {a : Nat} {ra : Nat → Nat} {d N : Nat} {l : mj_L}  {s0 : Int32} {S : mS} {q : Int32 × mS} (h0 : mj_ld l 0 = some (.ref a)) (e : J267_139 N  s0 S = some q) : MR xt ct a ra (d + 7) 267 139 l [.int s0] S (.inl (some (.int q.1))) q.2 := by
  unfold J267_139 at e
  exact (
  M_ri (Option.some.inj e) (fun _ => r_iret c267_139 rfl))
def J267_83 (N : Nat)  (s0 : Int32) (S : mS) : Option (Int32 × mS) :=
  some (s0, S)
theorem J267_83_ok {xt : mj_X} {ct : Nat → Value} {a : Nat} {ra : Nat → Nat} {d N : Nat} {l : mj_L}  {s0 : Int32} {S : mS} {q : Int32 × mS} (h0 : mj_ld l 0 = some (.ref a)) (e : J267_83 N  s0 S = some q) : MR xt ct a ra (d + 7) 267 83 l [.int s0] S (.inl (some (.int q.1))) q.2 := by
  unfold J267_83 at e
  exact (
  M_ri (Option.some.inj e) (fun _ => r_iret c267_83 rfl))
def J267_63 (N : Nat) (x2 : Int32) (x3 : Int32) (x4 : Int32) (s0 : Int32) (S : mS) : Option (Int32 × mS) :=
  if 0 ≤ (x3).toInt ∧ (x3).toInt < mN 55 then
  bif mj_c1 .ne (S.2.1 55 (x3).toInt.toNat) then
    J267_83 N (x4 + 1) (m_sV S 56 s0)
  else
  J267_83 N x2 (m_sV S 56 s0)
  else none
theorem J267_63_ok {xt : mj_X} {ct : Nat → Value} {a : Nat} {ra : Nat → Nat} {d N : Nat} {l : mj_L} {x2 : Int32} {x3 : Int32} {x4 : Int32} {s0 : Int32} {S : mS} {q : Int32 × mS} (h0 : mj_ld l 0 = some (.ref a)) (h2 : mj_ld l 2 = some (.int x2)) (h3 : mj_ld l 3 = some (.int x3)) (h4 : mj_ld l 4 = some (.int x4)) (e : J267_63 N x2 x3 x4 s0 S = some q) : MR xt ct a ra (d + 7) 267 63 l [.int s0, .ref a] S (.inl (some (.int q.1))) q.2 := by
  unfold J267_63 at e
  exact (
  M_put c267_63 (by decide) <|
  M_of (fun _ _ H => r_aloadn c267_66 h0 <| H) <|
  M_geta (j := 55) c267_67 (by decide) <|
  M_of (fun _ _ H => r_iloadn c267_70 h3 <| H) <|
  t_ck e fun i33 e34 =>
  M_iald (j := 55) (v := (S.2.1 55 (x3).toInt.toNat)) c267_71 (by decide) i33 rfl <|
  t_if e34 (fun b35 e36 =>
    M_of (fun _ _ H => r_ifT c267_72 b35 <| H) <|
    M_of (fun _ _ H => r_iload c267_79 h4 <| r_iconst c267_81 <| r_iadd c267_82 rfl <| H) <|
    J267_83_ok h0 e36
  ) (fun b35 e36 =>
    M_of (fun _ _ H => r_ifF c267_72 b35 <| H) <|
    M_of (fun _ _ H => r_iloadn c267_75 h2 <| r_goto c267_76 <| H) <|
    J267_83_ok h0 e36
  ))
/-- goOn(II)I -/
def M267 (N : Nat) (x1 : Int32) (x2 : Int32) (S : mS) : Option (Int32 × mS) :=
  if 0 ≤ (((S.1 56) - 1)).toInt ∧ (((S.1 56) - 1)).toInt < mN 53 then
  if 0 ≤ (((S.1 56) - 1)).toInt ∧ (((S.1 56) - 1)).toInt < mN 55 then
  if 0 ≤ (((S.1 56) - 1)).toInt ∧ (((S.1 56) - 1)).toInt < mN 55 then
  if 0 ≤ (((24 * x1) + (S.2.1 53 (((S.1 56) - 1)).toInt.toNat))).toInt ∧ (((24 * x1) + (S.2.1 53 (((S.1 56) - 1)).toInt.toNat))).toInt < mN 6 then
  bif mj_c2 .ne (S.2.1 6 (((24 * x1) + (S.2.1 53 (((S.1 56) - 1)).toInt.toNat))).toInt.toNat) 3 then
    if 0 ≤ (((S.1 56) - 1)).toInt ∧ (((S.1 56) - 1)).toInt < mN 55 then
    bif mj_c1 .ne ((S.2.1 55 (((S.1 56) - 1)).toInt.toNat) - 1) then
      if 0 ≤ (((S.1 56) - 1)).toInt ∧ (((S.1 56) - 1)).toInt < mN 54 then
      (M272 N x1 (S.2.1 53 (((S.1 56) - 1)).toInt.toNat) (S.2.1 54 (((S.1 56) - 1)).toInt.toNat) (m_sV (m_sA S 55 (((S.1 56) - 1)).toInt.toNat ((S.2.1 55 (((S.1 56) - 1)).toInt.toNat) - 1)) 56 ((S.1 56) - 1))).bind fun r17 =>
      bif mj_c1 .eq r17.1 then
        J267_139 N (-1) r17.2
      else
      J267_139 N x2 r17.2
      else none
    else
    if 0 ≤ (((S.1 56) - 1)).toInt ∧ (((S.1 56) - 1)).toInt < mN 54 then
    if 0 ≤ (((S.1 56) - 1)).toInt ∧ (((S.1 56) - 1)).toInt < mN 54 then
    (M268 N ((S.2.1 54 (((S.1 56) - 1)).toInt.toNat) + 2) (S.2.1 54 (((S.1 56) - 1)).toInt.toNat) (m_sA S 55 (((S.1 56) - 1)).toInt.toNat ((S.2.1 55 (((S.1 56) - 1)).toInt.toNat) - 1))).bind fun r26 =>
    some (x2, r26)
    else none
    else none
    else none
  else
  if 0 ≤ (((S.1 56) - 1)).toInt ∧ (((S.1 56) - 1)).toInt < mN 55 then
  bif mj_c1 .ne ((S.2.1 55 (((S.1 56) - 1)).toInt.toNat) - 1) then
    J267_63 N x2 ((S.1 56) - 1) (S.2.1 53 (((S.1 56) - 1)).toInt.toNat) (S.1 56) (m_sA S 55 (((S.1 56) - 1)).toInt.toNat ((S.2.1 55 (((S.1 56) - 1)).toInt.toNat) - 1))
  else
  J267_63 N x2 ((S.1 56) - 1) (S.2.1 53 (((S.1 56) - 1)).toInt.toNat) ((S.1 56) - 1) (m_sA S 55 (((S.1 56) - 1)).toInt.toNat ((S.2.1 55 (((S.1 56) - 1)).toInt.toNat) - 1))
  else none
  else none
  else none
  else none
  else none
theorem M267_ok {xt : mj_X} {ct : Nat → Value} {a : Nat} {ra : Nat → Nat} {d N : Nat} {x1 : Int32} {x2 : Int32} {S : mS} {q : Int32 × mS} (e : M267 N x1 x2 S = some q) : MR xt ct a ra (d + 7) 267 0 (lv_args 0 [.ref a, .int x1, .int x2]) [] S (.inl (some (.int q.1))) q.2 := by
  unfold M267 at e
  exact (
  M_of (fun _ _ H => r_aloadn c267_0 rfl <| H) <|
  M_get (v := (S.1 56)) c267_1 (by decide) rfl <|
  M_of (fun _ _ H => r_iconst c267_4 <| r_isub c267_5 rfl <| r_istoren c267_6 <| r_aloadn c267_7 (ld1_ne rfl (by decide) (Or.inl (by decide))) <| H) <|
  M_geta (j := 53) c267_8 (by decide) <|
  M_of (fun _ _ H => r_iloadn c267_11 ld1_eq <| H) <|
  t_ck e fun i1 e2 =>
  M_iald (j := 53) (v := (S.2.1 53 (((S.1 56) - 1)).toInt.toNat)) c267_12 (by decide) i1 rfl <|
  M_of (fun _ _ H => r_istore c267_13 <| r_bipush c267_15 <| r_iloadn c267_17 (ld1_ne (ld1_ne rfl (by decide) (Or.inl (by decide))) (by decide) (Or.inl (by decide))) <| r_imul c267_18 rfl <| r_iload c267_19 ld1_eq <| r_iadd c267_21 rfl <| r_istore c267_22 <| r_aloadn c267_24 (ld1_ne (ld1_ne (ld1_ne rfl (by decide) (Or.inl (by decide))) (by decide) (Or.inl (by decide))) (by decide) (Or.inl (by decide))) <| H) <|
  M_geta (j := 55) c267_25 (by decide) <|
  M_of (fun _ _ H => r_iloadn c267_28 (ld1_ne (ld1_ne ld1_eq (by decide) (Or.inr rfl)) (by decide) (Or.inl (by decide))) <| r_dup2ia c267_29 <| H) <|
  t_ck e2 fun i3 e4 =>
  M_iald (j := 55) (v := (S.2.1 55 (((S.1 56) - 1)).toInt.toNat)) c267_30 (by decide) i3 rfl <|
  M_of (fun _ _ H => r_iconst c267_31 <| r_isub c267_32 rfl <| H) <|
  t_ck e4 fun i5 e6 =>
  M_iast (j := 55) c267_33 (by decide) i5 <|
  M_of (fun _ _ H => r_aloadn c267_34 (ld1_ne (ld1_ne (ld1_ne rfl (by decide) (Or.inl (by decide))) (by decide) (Or.inl (by decide))) (by decide) (Or.inl (by decide))) <| H) <|
  M_geta (j := 6) c267_35 (by decide) <|
  M_of (fun _ _ H => r_iload c267_38 ld1_eq <| H) <|
  t_ck e6 fun i7 e8 =>
  M_iald (j := 6) (v := (S.2.1 6 (((24 * x1) + (S.2.1 53 (((S.1 56) - 1)).toInt.toNat))).toInt.toNat)) c267_40 (by decide) i7 rfl <|
  M_of (fun _ _ H => r_iconst c267_41 <| H) <|
  t_if e8 (fun b9 e10 =>
    M_of (fun _ _ H => r_icmpT c267_42 b9 <| H) <|
    M_of (fun _ _ H => r_aloadn c267_84 (ld1_ne (ld1_ne (ld1_ne rfl (by decide) (Or.inl (by decide))) (by decide) (Or.inl (by decide))) (by decide) (Or.inl (by decide))) <| H) <|
    M_geta (j := 55) c267_85 (by decide) <|
    M_of (fun _ _ H => r_iloadn c267_88 (ld1_ne (ld1_ne ld1_eq (by decide) (Or.inr rfl)) (by decide) (Or.inl (by decide))) <| H) <|
    t_ck e10 fun i11 e12 =>
    M_iald (j := 55) (v := ((S.2.1 55 (((S.1 56) - 1)).toInt.toNat) - 1)) c267_89 (by decide) i11 m_gA_eq <|
    t_if e12 (fun b13 e14 =>
      M_of (fun _ _ H => r_ifT c267_90 b13 <| H) <|
      M_of (fun _ _ H => r_aloadn c267_113 (ld1_ne (ld1_ne (ld1_ne rfl (by decide) (Or.inl (by decide))) (by decide) (Or.inl (by decide))) (by decide) (Or.inl (by decide))) <| r_iloadn c267_114 (ld1_ne (ld1_ne ld1_eq (by decide) (Or.inr rfl)) (by decide) (Or.inl (by decide))) <| H) <|
      M_put c267_115 (by decide) <|
      M_of (fun _ _ H => r_aloadn c267_118 (ld1_ne (ld1_ne (ld1_ne rfl (by decide) (Or.inl (by decide))) (by decide) (Or.inl (by decide))) (by decide) (Or.inl (by decide))) <| r_iloadn c267_119 (ld1_ne (ld1_ne (ld1_ne rfl (by decide) (Or.inl (by decide))) (by decide) (Or.inl (by decide))) (by decide) (Or.inl (by decide))) <| r_iload c267_120 (ld1_ne ld1_eq (by decide) (Or.inr rfl)) <| r_aloadn c267_122 (ld1_ne (ld1_ne (ld1_ne rfl (by decide) (Or.inl (by decide))) (by decide) (Or.inl (by decide))) (by decide) (Or.inl (by decide))) <| H) <|
      M_geta (j := 54) c267_123 (by decide) <|
      M_of (fun _ _ H => r_iloadn c267_126 (ld1_ne (ld1_ne ld1_eq (by decide) (Or.inr rfl)) (by decide) (Or.inl (by decide))) <| H) <|
      t_ck e14 fun i15 e16 =>
      M_iald (j := 54) (v := (S.2.1 54 (((S.1 56) - 1)).toInt.toNat)) c267_127 (by decide) i15 rfl <|
      t_bd e16 fun r17 c18 e19 =>
      M_cv (as := [.ref a, .int x1, .int (S.2.1 53 (((S.1 56) - 1)).toInt.toNat), .int (S.2.1 54 (((S.1 56) - 1)).toInt.toNat)]) (st' := [.int r17.1]) (v := (some (.int r17.1))) c267_128 rfl ⟨Nat.le_of_ble_eq_true rfl, Nat.le_of_ble_eq_true rfl, Nat.le_of_ble_eq_true rfl⟩ rfl rfl (M272_ok (d := d) c18) (Nat.add_lt_add_left (by decide) d) <|
      t_if e19 (fun b20 e21 =>
        M_of (fun _ _ H => r_ifT c267_131 b20 <| H) <|
        M_of (fun _ _ H => r_iconst c267_138 <| H) <|
        J267_139_ok (ld1_ne (ld1_ne (ld1_ne rfl (by decide) (Or.inl (by decide))) (by decide) (Or.inl (by decide))) (by decide) (Or.inl (by decide))) e21
      ) (fun b20 e21 =>
        M_of (fun _ _ H => r_ifF c267_131 b20 <| H) <|
        M_of (fun _ _ H => r_iloadn c267_134 (ld1_ne (ld1_ne (ld1_ne rfl (by decide) (Or.inr rfl)) (by decide) (Or.inl (by decide))) (by decide) (Or.inl (by decide))) <| r_goto c267_135 <| H) <|
        J267_139_ok (ld1_ne (ld1_ne (ld1_ne rfl (by decide) (Or.inl (by decide))) (by decide) (Or.inl (by decide))) (by decide) (Or.inl (by decide))) e21
      )
    ) (fun b13 e14 =>
      M_of (fun _ _ H => r_ifF c267_90 b13 <| H) <|
      M_of (fun _ _ H => r_aloadn c267_93 (ld1_ne (ld1_ne (ld1_ne rfl (by decide) (Or.inl (by decide))) (by decide) (Or.inl (by decide))) (by decide) (Or.inl (by decide))) <| r_aloadn c267_94 (ld1_ne (ld1_ne (ld1_ne rfl (by decide) (Or.inl (by decide))) (by decide) (Or.inl (by decide))) (by decide) (Or.inl (by decide))) <| H) <|
      M_geta (j := 54) c267_95 (by decide) <|
      M_of (fun _ _ H => r_iloadn c267_98 (ld1_ne (ld1_ne ld1_eq (by decide) (Or.inr rfl)) (by decide) (Or.inl (by decide))) <| H) <|
      t_ck e14 fun i22 e23 =>
      M_iald (j := 54) (v := (S.2.1 54 (((S.1 56) - 1)).toInt.toNat)) c267_99 (by decide) i22 rfl <|
      M_of (fun _ _ H => r_iconst c267_100 <| r_iadd c267_101 rfl <| r_aloadn c267_102 (ld1_ne (ld1_ne (ld1_ne rfl (by decide) (Or.inl (by decide))) (by decide) (Or.inl (by decide))) (by decide) (Or.inl (by decide))) <| H) <|
      M_geta (j := 54) c267_103 (by decide) <|
      M_of (fun _ _ H => r_iloadn c267_106 (ld1_ne (ld1_ne ld1_eq (by decide) (Or.inr rfl)) (by decide) (Or.inl (by decide))) <| H) <|
      t_ck e23 fun i24 e25 =>
      M_iald (j := 54) (v := (S.2.1 54 (((S.1 56) - 1)).toInt.toNat)) c267_107 (by decide) i24 rfl <|
      t_bd e25 fun r26 c27 e28 =>
      M_cv (as := [.ref a, .int ((S.2.1 54 (((S.1 56) - 1)).toInt.toNat) + 2), .int (S.2.1 54 (((S.1 56) - 1)).toInt.toNat)]) (st' := []) (v := none) c267_108 rfl ⟨Nat.le_of_ble_eq_true rfl, Nat.le_of_ble_eq_true rfl, Nat.le_of_ble_eq_true rfl⟩ rfl rfl (M268_ok (d := d) c27) (Nat.add_lt_add_left (by decide) d) <|
      M_of (fun _ _ H => r_iloadn c267_111 (ld1_ne (ld1_ne (ld1_ne rfl (by decide) (Or.inr rfl)) (by decide) (Or.inl (by decide))) (by decide) (Or.inl (by decide))) <| H) <|
      M_ri (Option.some.inj e28) (fun _ => r_iret c267_112 rfl)
    )
  ) (fun b9 e10 =>
    M_of (fun _ _ H => r_icmpF c267_42 b9 <| H) <|
    M_of (fun _ _ H => r_aloadn c267_45 (ld1_ne (ld1_ne (ld1_ne rfl (by decide) (Or.inl (by decide))) (by decide) (Or.inl (by decide))) (by decide) (Or.inl (by decide))) <| r_aloadn c267_46 (ld1_ne (ld1_ne (ld1_ne rfl (by decide) (Or.inl (by decide))) (by decide) (Or.inl (by decide))) (by decide) (Or.inl (by decide))) <| H) <|
    M_geta (j := 55) c267_47 (by decide) <|
    M_of (fun _ _ H => r_iloadn c267_50 (ld1_ne (ld1_ne ld1_eq (by decide) (Or.inr rfl)) (by decide) (Or.inl (by decide))) <| H) <|
    t_ck e10 fun i29 e30 =>
    M_iald (j := 55) (v := ((S.2.1 55 (((S.1 56) - 1)).toInt.toNat) - 1)) c267_51 (by decide) i29 m_gA_eq <|
    t_if e30 (fun b31 e32 =>
      M_of (fun _ _ H => r_ifT c267_52 b31 <| H) <|
      M_of (fun _ _ H => r_aloadn c267_59 (ld1_ne (ld1_ne (ld1_ne rfl (by decide) (Or.inl (by decide))) (by decide) (Or.inl (by decide))) (by decide) (Or.inl (by decide))) <| H) <|
      M_get (v := (S.1 56)) c267_60 (by decide) rfl <|
      J267_63_ok (ld1_ne (ld1_ne (ld1_ne rfl (by decide) (Or.inl (by decide))) (by decide) (Or.inl (by decide))) (by decide) (Or.inl (by decide))) (ld1_ne (ld1_ne (ld1_ne rfl (by decide) (Or.inr rfl)) (by decide) (Or.inl (by decide))) (by decide) (Or.inl (by decide))) (ld1_ne (ld1_ne ld1_eq (by decide) (Or.inr rfl)) (by decide) (Or.inl (by decide))) (ld1_ne ld1_eq (by decide) (Or.inr rfl)) e32
    ) (fun b31 e32 =>
      M_of (fun _ _ H => r_ifF c267_52 b31 <| H) <|
      M_of (fun _ _ H => r_iloadn c267_55 (ld1_ne (ld1_ne ld1_eq (by decide) (Or.inr rfl)) (by decide) (Or.inl (by decide))) <| r_goto c267_56 <| H) <|
      J267_63_ok (ld1_ne (ld1_ne (ld1_ne rfl (by decide) (Or.inl (by decide))) (by decide) (Or.inl (by decide))) (by decide) (Or.inl (by decide))) (ld1_ne (ld1_ne (ld1_ne rfl (by decide) (Or.inr rfl)) (by decide) (Or.inl (by decide))) (by decide) (Or.inl (by decide))) (ld1_ne (ld1_ne ld1_eq (by decide) (Or.inr rfl)) (by decide) (Or.inl (by decide))) (ld1_ne ld1_eq (by decide) (Or.inr rfl)) e32
    )
  ))
def J276_72 (N : Nat)  (s0 : Int32) (S : mS) : Option (Int32 × mS) :=
  some (s0, S)
theorem J276_72_ok {xt : mj_X} {ct : Nat → Value} {a : Nat} {ra : Nat → Nat} {d N : Nat} {l : mj_L}  {s0 : Int32} {S : mS} {q : Int32 × mS} (h0 : mj_ld l 0 = some (.ref a)) (e : J276_72 N  s0 S = some q) : MR xt ct a ra (d + 1) 276 72 l [.int s0] S (.inl (some (.int q.1))) q.2 := by
  unfold J276_72 at e
  exact (
  M_ri (Option.some.inj e) (fun _ => r_iret c276_72 rfl))
/-- currentSet(I)I -/
def M276 (N : Nat) (x1 : Int32) (S : mS) : Option (Int32 × mS) :=
  bif mj_c1 .ne (S.1 56) then
    if 0 ≤ (((S.1 56) - 1)).toInt ∧ (((S.1 56) - 1)).toInt < mN 53 then
    if 0 ≤ (((24 * x1) + (S.2.1 53 (((S.1 56) - 1)).toInt.toNat))).toInt ∧ (((24 * x1) + (S.2.1 53 (((S.1 56) - 1)).toInt.toNat))).toInt < mN 6 then
    bif mj_c2 .ne (S.2.1 6 (((24 * x1) + (S.2.1 53 (((S.1 56) - 1)).toInt.toNat))).toInt.toNat) 3 then
      if 0 ≤ (((S.1 56) - 1)).toInt ∧ (((S.1 56) - 1)).toInt < mN 55 then
      bif mj_c2 .ne (S.2.1 55 (((S.1 56) - 1)).toInt.toNat) 1 then
        if 0 ≤ (((S.1 56) - 1)).toInt ∧ (((S.1 56) - 1)).toInt < mN 54 then
        J276_72 N ((S.2.1 54 (((S.1 56) - 1)).toInt.toNat) + 2) S
        else none
      else
      if 0 ≤ (((S.1 56) - 1)).toInt ∧ (((S.1 56) - 1)).toInt < mN 54 then
      J276_72 N ((S.2.1 54 (((S.1 56) - 1)).toInt.toNat) + 1) S
      else none
      else none
    else
    if 0 ≤ (((S.1 56) - 1)).toInt ∧ (((S.1 56) - 1)).toInt < mN 54 then
    some ((S.2.1 54 (((S.1 56) - 1)).toInt.toNat), S)
    else none
    else none
    else none
  else
  some (0, S)
theorem M276_ok {xt : mj_X} {ct : Nat → Value} {a : Nat} {ra : Nat → Nat} {d N : Nat} {x1 : Int32} {S : mS} {q : Int32 × mS} (e : M276 N x1 S = some q) : MR xt ct a ra (d + 1) 276 0 (lv_args 0 [.ref a, .int x1]) [] S (.inl (some (.int q.1))) q.2 := by
  unfold M276 at e
  exact (
  M_of (fun _ _ H => r_aloadn c276_0 rfl <| H) <|
  M_get (v := (S.1 56)) c276_1 (by decide) rfl <|
  t_if e (fun b1 e2 =>
    M_of (fun _ _ H => r_ifT c276_4 b1 <| H) <|
    M_of (fun _ _ H => r_aloadn c276_9 rfl <| H) <|
    M_get (v := (S.1 56)) c276_10 (by decide) rfl <|
    M_of (fun _ _ H => r_iconst c276_13 <| r_isub c276_14 rfl <| r_istoren c276_15 <| r_aloadn c276_16 (ld1_ne rfl (by decide) (Or.inl (by decide))) <| H) <|
    M_geta (j := 6) c276_17 (by decide) <|
    M_of (fun _ _ H => r_bipush c276_20 <| r_iloadn c276_22 (ld1_ne rfl (by decide) (Or.inr rfl)) <| r_imul c276_23 rfl <| r_aloadn c276_24 (ld1_ne rfl (by decide) (Or.inl (by decide))) <| H) <|
    M_geta (j := 53) c276_25 (by decide) <|
    M_of (fun _ _ H => r_iloadn c276_28 ld1_eq <| H) <|
    t_ck e2 fun i3 e4 =>
    M_iald (j := 53) (v := (S.2.1 53 (((S.1 56) - 1)).toInt.toNat)) c276_29 (by decide) i3 rfl <|
    M_of (fun _ _ H => r_iadd c276_30 rfl <| H) <|
    t_ck e4 fun i5 e6 =>
    M_iald (j := 6) (v := (S.2.1 6 (((24 * x1) + (S.2.1 53 (((S.1 56) - 1)).toInt.toNat))).toInt.toNat)) c276_31 (by decide) i5 rfl <|
    M_of (fun _ _ H => r_iconst c276_32 <| H) <|
    t_if e6 (fun b7 e8 =>
      M_of (fun _ _ H => r_icmpT c276_33 b7 <| H) <|
      M_of (fun _ _ H => r_aloadn c276_43 (ld1_ne rfl (by decide) (Or.inl (by decide))) <| H) <|
      M_geta (j := 55) c276_44 (by decide) <|
      M_of (fun _ _ H => r_iloadn c276_47 ld1_eq <| H) <|
      t_ck e8 fun i9 e10 =>
      M_iald (j := 55) (v := (S.2.1 55 (((S.1 56) - 1)).toInt.toNat)) c276_48 (by decide) i9 rfl <|
      M_of (fun _ _ H => r_iconst c276_49 <| H) <|
      t_if e10 (fun b11 e12 =>
        M_of (fun _ _ H => r_icmpT c276_50 b11 <| H) <|
        M_of (fun _ _ H => r_aloadn c276_64 (ld1_ne rfl (by decide) (Or.inl (by decide))) <| H) <|
        M_geta (j := 54) c276_65 (by decide) <|
        M_of (fun _ _ H => r_iloadn c276_68 ld1_eq <| H) <|
        t_ck e12 fun i13 e14 =>
        M_iald (j := 54) (v := (S.2.1 54 (((S.1 56) - 1)).toInt.toNat)) c276_69 (by decide) i13 rfl <|
        M_of (fun _ _ H => r_iconst c276_70 <| r_iadd c276_71 rfl <| H) <|
        J276_72_ok (ld1_ne rfl (by decide) (Or.inl (by decide))) e14
      ) (fun b11 e12 =>
        M_of (fun _ _ H => r_icmpF c276_50 b11 <| H) <|
        M_of (fun _ _ H => r_aloadn c276_53 (ld1_ne rfl (by decide) (Or.inl (by decide))) <| H) <|
        M_geta (j := 54) c276_54 (by decide) <|
        M_of (fun _ _ H => r_iloadn c276_57 ld1_eq <| H) <|
        t_ck e12 fun i15 e16 =>
        M_iald (j := 54) (v := (S.2.1 54 (((S.1 56) - 1)).toInt.toNat)) c276_58 (by decide) i15 rfl <|
        M_of (fun _ _ H => r_iconst c276_59 <| r_iadd c276_60 rfl <| r_goto c276_61 <| H) <|
        J276_72_ok (ld1_ne rfl (by decide) (Or.inl (by decide))) e16
      )
    ) (fun b7 e8 =>
      M_of (fun _ _ H => r_icmpF c276_33 b7 <| H) <|
      M_of (fun _ _ H => r_aloadn c276_36 (ld1_ne rfl (by decide) (Or.inl (by decide))) <| H) <|
      M_geta (j := 54) c276_37 (by decide) <|
      M_of (fun _ _ H => r_iloadn c276_40 ld1_eq <| H) <|
      t_ck e8 fun i17 e18 =>
      M_iald (j := 54) (v := (S.2.1 54 (((S.1 56) - 1)).toInt.toNat)) c276_41 (by decide) i17 rfl <|
      M_ri (Option.some.inj e18) (fun _ => r_iret c276_42 rfl)
    )
  ) (fun b1 e2 =>
    M_of (fun _ _ H => r_ifF c276_4 b1 <| H) <|
    M_of (fun _ _ H => r_iconst c276_7 <| H) <|
    M_ri (Option.some.inj e2) (fun _ => r_iret c276_8 rfl)
  ))
/-- openFrame(III)V -/
def M277 (N : Nat) (x1 : Int32) (x2 : Int32) (x3 : Int32) (S : mS) : Option (mS) :=
  if 0 ≤ ((S.1 56)).toInt ∧ ((S.1 56)).toInt < mN 53 then
  if 0 ≤ ((S.1 56)).toInt ∧ ((S.1 56)).toInt < mN 54 then
  if 0 ≤ ((S.1 56)).toInt ∧ ((S.1 56)).toInt < mN 55 then
  some (m_sV (m_sA (m_sA (m_sA S 53 ((S.1 56)).toInt.toNat x1) 54 ((S.1 56)).toInt.toNat x2) 55 ((S.1 56)).toInt.toNat x3) 56 ((S.1 56) + 1))
  else none
  else none
  else none
theorem M277_ok {xt : mj_X} {ct : Nat → Value} {a : Nat} {ra : Nat → Nat} {d N : Nat} {x1 : Int32} {x2 : Int32} {x3 : Int32} {S : mS} {q : mS} (e : M277 N x1 x2 x3 S = some q) : MR xt ct a ra (d + 1) 277 0 (lv_args 0 [.ref a, .int x1, .int x2, .int x3]) [] S (.inl none) q := by
  unfold M277 at e
  exact (
  M_of (fun _ _ H => r_aloadn c277_0 rfl <| H) <|
  M_geta (j := 53) c277_1 (by decide) <|
  M_of (fun _ _ H => r_aloadn c277_4 rfl <| H) <|
  M_get (v := (S.1 56)) c277_5 (by decide) rfl <|
  M_of (fun _ _ H => r_iloadn c277_8 rfl <| H) <|
  t_ck e fun i1 e2 =>
  M_iast (j := 53) c277_9 (by decide) i1 <|
  M_of (fun _ _ H => r_aloadn c277_10 rfl <| H) <|
  M_geta (j := 54) c277_11 (by decide) <|
  M_of (fun _ _ H => r_aloadn c277_14 rfl <| H) <|
  M_get (v := (S.1 56)) c277_15 (by decide) rfl <|
  M_of (fun _ _ H => r_iloadn c277_18 rfl <| H) <|
  t_ck e2 fun i3 e4 =>
  M_iast (j := 54) c277_19 (by decide) i3 <|
  M_of (fun _ _ H => r_aloadn c277_20 rfl <| H) <|
  M_geta (j := 55) c277_21 (by decide) <|
  M_of (fun _ _ H => r_aloadn c277_24 rfl <| H) <|
  M_get (v := (S.1 56)) c277_25 (by decide) rfl <|
  M_of (fun _ _ H => r_iloadn c277_28 rfl <| H) <|
  t_ck e4 fun i5 e6 =>
  M_iast (j := 55) c277_29 (by decide) i5 <|
  M_of (fun _ _ H => r_aloadn c277_30 rfl <| r_dup c277_31 rfl <| H) <|
  M_get (v := (S.1 56)) c277_32 (by decide) rfl <|
  M_of (fun _ _ H => r_iconst c277_35 <| r_iadd c277_36 rfl <| H) <|
  M_put c277_37 (by decide) <|
  M_rv (Option.some.inj e6) (fun _ => r_ret c277_40))
/-- beginList()V -/
def M281 (N : Nat)  (S : mS) : Option (mS) :=
  if 0 ≤ ((S.1 44)).toInt ∧ ((S.1 44)).toInt < mN 43 then
  some (m_sV (m_sA S 43 ((S.1 44)).toInt.toNat (S.1 45)) 44 ((S.1 44) + 1))
  else none
theorem M281_ok {xt : mj_X} {ct : Nat → Value} {a : Nat} {ra : Nat → Nat} {d N : Nat}  {S : mS} {q : mS} (e : M281 N  S = some q) : MR xt ct a ra (d + 1) 281 0 (lv_args 0 [.ref a]) [] S (.inl none) q := by
  unfold M281 at e
  exact (
  M_of (fun _ _ H => r_aloadn c281_0 rfl <| H) <|
  M_geta (j := 43) c281_1 (by decide) <|
  M_of (fun _ _ H => r_aloadn c281_4 rfl <| H) <|
  M_get (v := (S.1 44)) c281_5 (by decide) rfl <|
  M_of (fun _ _ H => r_aloadn c281_8 rfl <| H) <|
  M_get (v := (S.1 45)) c281_9 (by decide) rfl <|
  t_ck e fun i1 e2 =>
  M_iast (j := 43) c281_12 (by decide) i1 <|
  M_of (fun _ _ H => r_aloadn c281_13 rfl <| r_dup c281_14 rfl <| H) <|
  M_get (v := (S.1 44)) c281_15 (by decide) rfl <|
  M_of (fun _ _ H => r_iconst c281_18 <| r_iadd c281_19 rfl <| H) <|
  M_put c281_20 (by decide) <|
  M_rv (Option.some.inj e2) (fun _ => r_ret c281_23))
/-- add(IJ)V -/
def M282 (N : Nat) (x1 : Int32) (x2 : Int64) (S : mS) : Option (mS) :=
  if 0 ≤ ((S.1 45)).toInt ∧ ((S.1 45)).toInt < mN 41 then
  if 0 ≤ ((S.1 45)).toInt ∧ ((S.1 45)).toInt < mN 42 then
  some (m_sV (m_sB (m_sA S 41 ((S.1 45)).toInt.toNat x1) 42 ((S.1 45)).toInt.toNat x2) 45 ((S.1 45) + 1))
  else none
  else none
theorem M282_ok {xt : mj_X} {ct : Nat → Value} {a : Nat} {ra : Nat → Nat} {d N : Nat} {x1 : Int32} {x2 : Int64} {S : mS} {q : mS} (e : M282 N x1 x2 S = some q) : MR xt ct a ra (d + 1) 282 0 (lv_args 0 [.ref a, .int x1, .long x2]) [] S (.inl none) q := by
  unfold M282 at e
  exact (
  M_of (fun _ _ H => r_aloadn c282_0 rfl <| H) <|
  M_geta (j := 41) c282_1 (by decide) <|
  M_of (fun _ _ H => r_aloadn c282_4 rfl <| H) <|
  M_get (v := (S.1 45)) c282_5 (by decide) rfl <|
  M_of (fun _ _ H => r_iloadn c282_8 rfl <| H) <|
  t_ck e fun i1 e2 =>
  M_iast (j := 41) c282_9 (by decide) i1 <|
  M_of (fun _ _ H => r_aloadn c282_10 rfl <| H) <|
  M_geta (j := 42) c282_11 (by decide) <|
  M_of (fun _ _ H => r_aloadn c282_14 rfl <| H) <|
  M_get (v := (S.1 45)) c282_15 (by decide) rfl <|
  M_of (fun _ _ H => r_lloadn c282_18 rfl <| H) <|
  t_ck e2 fun i3 e4 =>
  M_last (j := 42) c282_19 (by decide) i3 <|
  M_of (fun _ _ H => r_aloadn c282_20 rfl <| r_dup c282_21 rfl <| H) <|
  M_get (v := (S.1 45)) c282_22 (by decide) rfl <|
  M_of (fun _ _ H => r_iconst c282_25 <| r_iadd c282_26 rfl <| H) <|
  M_put c282_27 (by decide) <|
  M_rv (Option.some.inj e4) (fun _ => r_ret c282_30))
def J285_38 (N : Nat)  (s0 : Int32) (S : mS) : Option (Int32 × mS) :=
  some (s0, S)
theorem J285_38_ok {xt : mj_X} {ct : Nat → Value} {a : Nat} {ra : Nat → Nat} {d N : Nat} {l : mj_L}  {s0 : Int32} {S : mS} {q : Int32 × mS}  (e : J285_38 N  s0 S = some q) : MR xt ct a ra (d + 1) 285 38 l [.int s0] S (.inl (some (.int q.1))) q.2 := by
  unfold J285_38 at e
  exact (
  M_ri (Option.some.inj e) (fun _ => r_iret c285_38 rfl))
def J285_37 (N : Nat) (x2 : Int32)  (S : mS) : Option (Int32 × mS) :=
  J285_38 N x2 S
theorem J285_37_ok {xt : mj_X} {ct : Nat → Value} {a : Nat} {ra : Nat → Nat} {d N : Nat} {l : mj_L} {x2 : Int32}  {S : mS} {q : Int32 × mS} (h2 : mj_ld l 2 = some (.int x2)) (e : J285_37 N x2  S = some q) : MR xt ct a ra (d + 1) 285 37 l [] S (.inl (some (.int q.1))) q.2 := by
  unfold J285_37 at e
  exact (
  M_of (fun _ _ H => r_iloadn c285_37 h2 <| H) <|
  J285_38_ok  e)
def J285_28 (N : Nat) (x2 : Int32) (s0 : Int32) (s1 : Int32) (S : mS) : Option (Int32 × mS) :=
  bif mj_c2 .eq s1 s0 then
    J285_37 N x2 S
  else
  J285_38 N (x2 - 1) S
theorem J285_28_ok {xt : mj_X} {ct : Nat → Value} {a : Nat} {ra : Nat → Nat} {d N : Nat} {l : mj_L} {x2 : Int32} {s0 : Int32} {s1 : Int32} {S : mS} {q : Int32 × mS} (h2 : mj_ld l 2 = some (.int x2)) (e : J285_28 N x2 s0 s1 S = some q) : MR xt ct a ra (d + 1) 285 28 l [.int s0, .int s1] S (.inl (some (.int q.1))) q.2 := by
  unfold J285_28 at e
  exact (
  t_if e (fun b11 e12 =>
    M_of (fun _ _ H => r_icmpT c285_28 b11 <| H) <|
    J285_37_ok h2 e12
  ) (fun b11 e12 =>
    M_of (fun _ _ H => r_icmpF c285_28 b11 <| H) <|
    M_of (fun _ _ H => r_iloadn c285_31 h2 <| r_iconst c285_32 <| r_isub c285_33 rfl <| r_goto c285_34 <| H) <|
    J285_38_ok  e12
  ))
def J285_19 (N : Nat) (x1 : Int32) (x2 : Int32) (s0 : Int32) (S : mS) : Option (Int32 × mS) :=
  bif mj_c1 .ge x1 then
    J285_28 N x2 0 s0 S
  else
  J285_28 N x2 1 s0 S
theorem J285_19_ok {xt : mj_X} {ct : Nat → Value} {a : Nat} {ra : Nat → Nat} {d N : Nat} {l : mj_L} {x1 : Int32} {x2 : Int32} {s0 : Int32} {S : mS} {q : Int32 × mS} (h1 : mj_ld l 1 = some (.int x1)) (h2 : mj_ld l 2 = some (.int x2)) (e : J285_19 N x1 x2 s0 S = some q) : MR xt ct a ra (d + 1) 285 19 l [.int s0] S (.inl (some (.int q.1))) q.2 := by
  unfold J285_19 at e
  exact (
  M_of (fun _ _ H => r_iloadn c285_19 h1 <| H) <|
  t_if e (fun b9 e10 =>
    M_of (fun _ _ H => r_ifT c285_20 b9 <| H) <|
    M_of (fun _ _ H => r_iconst c285_27 <| H) <|
    J285_28_ok h2 e10
  ) (fun b9 e10 =>
    M_of (fun _ _ H => r_ifF c285_20 b9 <| H) <|
    M_of (fun _ _ H => r_iconst c285_23 <| r_goto c285_24 <| H) <|
    J285_28_ok h2 e10
  ))
/-- divided(II)I -/
def M285 (N : Nat) (x0 : Int32) (x1 : Int32) (S : mS) : Option (Int32 × mS) :=
  if x1 ≠ 0 then
  if x1 ≠ 0 then
  bif mj_c1 .eq (x0 - x0 / x1 * x1) then
    J285_37 N (x0 / x1) S
  else
  bif mj_c1 .ge x0 then
    J285_19 N x1 (x0 / x1) 0 S
  else
  J285_19 N x1 (x0 / x1) 1 S
  else none
  else none
theorem M285_ok {xt : mj_X} {ct : Nat → Value} {a : Nat} {ra : Nat → Nat} {d N : Nat} {x0 : Int32} {x1 : Int32} {S : mS} {q : Int32 × mS} (e : M285 N x0 x1 S = some q) : MR xt ct a ra (d + 1) 285 0 (lv_args 0 [.int x0, .int x1]) [] S (.inl (some (.int q.1))) q.2 := by
  unfold M285 at e
  exact (
  M_of (fun _ _ H => r_iloadn c285_0 rfl <| r_iloadn c285_1 rfl <| H) <|
  t_ck e fun y1 e2 =>
  M_of (fun _ _ H => r_idiv c285_2 y1 rfl <| H) <|
  M_of (fun _ _ H => r_istoren c285_3 <| r_iloadn c285_4 (ld1_ne rfl (by decide) (Or.inl (by decide))) <| r_iloadn c285_5 (ld1_ne rfl (by decide) (Or.inr rfl)) <| H) <|
  t_ck e2 fun y3 e4 =>
  M_of (fun _ _ H => r_irem c285_6 y3 rfl <| H) <|
  t_if e4 (fun b5 e6 =>
    M_of (fun _ _ H => r_ifT c285_7 b5 <| H) <|
    J285_37_ok ld1_eq e6
  ) (fun b5 e6 =>
    M_of (fun _ _ H => r_ifF c285_7 b5 <| H) <|
    M_of (fun _ _ H => r_iloadn c285_10 (ld1_ne rfl (by decide) (Or.inl (by decide))) <| H) <|
    t_if e6 (fun b7 e8 =>
      M_of (fun _ _ H => r_ifT c285_11 b7 <| H) <|
      M_of (fun _ _ H => r_iconst c285_18 <| H) <|
      J285_19_ok (ld1_ne rfl (by decide) (Or.inr rfl)) ld1_eq e8
    ) (fun b7 e8 =>
      M_of (fun _ _ H => r_ifF c285_11 b7 <| H) <|
      M_of (fun _ _ H => r_iconst c285_14 <| r_goto c285_15 <| H) <|
      J285_19_ok (ld1_ne rfl (by decide) (Or.inr rfl)) ld1_eq e8
    )
  ))
def J284_54 (N : Nat)  (s0 : Int32) (S : mS) : Option (Int32 × mS) :=
  some (s0, S)
theorem J284_54_ok {xt : mj_X} {ct : Nat → Value} {a : Nat} {ra : Nat → Nat} {d N : Nat} {l : mj_L}  {s0 : Int32} {S : mS} {q : Int32 × mS}  (e : J284_54 N  s0 S = some q) : MR xt ct a ra (d + 2) 284 54 l [.int s0] S (.inl (some (.int q.1))) q.2 := by
  unfold J284_54 at e
  exact (
  M_ri (Option.some.inj e) (fun _ => r_iret c284_54 rfl))
def J284_65 (N : Nat)  (s0 : Int32) (S : mS) : Option (Int32 × mS) :=
  some (s0, S)
theorem J284_65_ok {xt : mj_X} {ct : Nat → Value} {a : Nat} {ra : Nat → Nat} {d N : Nat} {l : mj_L}  {s0 : Int32} {S : mS} {q : Int32 × mS}  (e : J284_65 N  s0 S = some q) : MR xt ct a ra (d + 2) 284 65 l [.int s0] S (.inl (some (.int q.1))) q.2 := by
  unfold J284_65 at e
  exact (
  M_ri (Option.some.inj e) (fun _ => r_iret c284_65 rfl))
def J284_76 (N : Nat)  (s0 : Int32) (S : mS) : Option (Int32 × mS) :=
  some (s0, S)
theorem J284_76_ok {xt : mj_X} {ct : Nat → Value} {a : Nat} {ra : Nat → Nat} {d N : Nat} {l : mj_L}  {s0 : Int32} {S : mS} {q : Int32 × mS}  (e : J284_76 N  s0 S = some q) : MR xt ct a ra (d + 2) 284 76 l [.int s0] S (.inl (some (.int q.1))) q.2 := by
  unfold J284_76 at e
  exact (
  M_ri (Option.some.inj e) (fun _ => r_iret c284_76 rfl))
/-- result(III)I -/
def M284 (N : Nat) (x0 : Int32) (x1 : Int32) (x2 : Int32) (S : mS) : Option (Int32 × mS) :=
  bif mj_c2 .eq x0 0 then
    bif mj_c2 .ge x1 x2 then
      J284_54 N 0 S
    else
    J284_54 N 1 S
  else
  bif mj_c2 .eq x0 1 then
    bif mj_c2 .le x1 x2 then
      J284_65 N 0 S
    else
    J284_65 N 1 S
  else
  bif mj_c2 .eq x0 2 then
    bif mj_c2 .ne x1 x2 then
      J284_76 N 0 S
    else
    J284_76 N 1 S
  else
  bif mj_c2 .eq x0 3 then
    some ((x1 + x2), S)
  else
  bif mj_c2 .eq x0 4 then
    some ((x1 - x2), S)
  else
  bif mj_c2 .eq x0 5 then
    some ((x1 * x2), S)
  else
  bif mj_c2 .eq x0 6 then
    (M285 N x1 x2 S).bind fun r21 =>
    some (r21.1, r21.2)
  else
  (M285 N x1 x2 S).bind fun r24 =>
  some ((x1 - (x2 * r24.1)), r24.2)
theorem M284_ok {xt : mj_X} {ct : Nat → Value} {a : Nat} {ra : Nat → Nat} {d N : Nat} {x0 : Int32} {x1 : Int32} {x2 : Int32} {S : mS} {q : Int32 × mS} (e : M284 N x0 x1 x2 S = some q) : MR xt ct a ra (d + 2) 284 0 (lv_args 0 [.int x0, .int x1, .int x2]) [] S (.inl (some (.int q.1))) q.2 := by
  unfold M284 at e
  exact (
  M_of (fun _ _ H => r_iloadn c284_0 rfl <| H) <|
  t_if e (fun b1 e2 =>
    M_sw c284_1_0 b1 <|
    M_of (fun _ _ H => r_iloadn c284_44 rfl <| r_iloadn c284_45 rfl <| H) <|
    t_if e2 (fun b3 e4 =>
      M_of (fun _ _ H => r_icmpT c284_46 b3 <| H) <|
      M_of (fun _ _ H => r_iconst c284_53 <| H) <|
      J284_54_ok  e4
    ) (fun b3 e4 =>
      M_of (fun _ _ H => r_icmpF c284_46 b3 <| H) <|
      M_of (fun _ _ H => r_iconst c284_49 <| r_goto c284_50 <| H) <|
      J284_54_ok  e4
    )
  ) (fun b1 e2 =>
  t_if e2 (fun b5 e6 =>
    M_sw c284_1_1 b5 <|
    M_of (fun _ _ H => r_iloadn c284_55 rfl <| r_iloadn c284_56 rfl <| H) <|
    t_if e6 (fun b7 e8 =>
      M_of (fun _ _ H => r_icmpT c284_57 b7 <| H) <|
      M_of (fun _ _ H => r_iconst c284_64 <| H) <|
      J284_65_ok  e8
    ) (fun b7 e8 =>
      M_of (fun _ _ H => r_icmpF c284_57 b7 <| H) <|
      M_of (fun _ _ H => r_iconst c284_60 <| r_goto c284_61 <| H) <|
      J284_65_ok  e8
    )
  ) (fun b5 e6 =>
  t_if e6 (fun b9 e10 =>
    M_sw c284_1_2 b9 <|
    M_of (fun _ _ H => r_iloadn c284_66 rfl <| r_iloadn c284_67 rfl <| H) <|
    t_if e10 (fun b11 e12 =>
      M_of (fun _ _ H => r_icmpT c284_68 b11 <| H) <|
      M_of (fun _ _ H => r_iconst c284_75 <| H) <|
      J284_76_ok  e12
    ) (fun b11 e12 =>
      M_of (fun _ _ H => r_icmpF c284_68 b11 <| H) <|
      M_of (fun _ _ H => r_iconst c284_71 <| r_goto c284_72 <| H) <|
      J284_76_ok  e12
    )
  ) (fun b9 e10 =>
  t_if e10 (fun b13 e14 =>
    M_sw c284_1_3 b13 <|
    M_of (fun _ _ H => r_iloadn c284_77 rfl <| r_iloadn c284_78 rfl <| r_iadd c284_79 rfl <| H) <|
    M_ri (Option.some.inj e14) (fun _ => r_iret c284_80 rfl)
  ) (fun b13 e14 =>
  t_if e14 (fun b15 e16 =>
    M_sw c284_1_4 b15 <|
    M_of (fun _ _ H => r_iloadn c284_81 rfl <| r_iloadn c284_82 rfl <| r_isub c284_83 rfl <| H) <|
    M_ri (Option.some.inj e16) (fun _ => r_iret c284_84 rfl)
  ) (fun b15 e16 =>
  t_if e16 (fun b17 e18 =>
    M_sw c284_1_5 b17 <|
    M_of (fun _ _ H => r_iloadn c284_85 rfl <| r_iloadn c284_86 rfl <| r_imul c284_87 rfl <| H) <|
    M_ri (Option.some.inj e18) (fun _ => r_iret c284_88 rfl)
  ) (fun b17 e18 =>
  t_if e18 (fun b19 e20 =>
    M_sw c284_1_6 b19 <|
    M_of (fun _ _ H => r_iloadn c284_89 rfl <| r_iloadn c284_90 rfl <| H) <|
    t_bd e20 fun r21 c22 e23 =>
    M_cs (as := [.int x1, .int x2]) (st' := [.int r21.1]) (v := (some (.int r21.1))) c284_91 ⟨Nat.le_of_ble_eq_true rfl, Nat.le_of_ble_eq_true rfl, Nat.le_of_ble_eq_true rfl⟩ rfl rfl (M285_ok (d := d) c22) (Nat.add_lt_add_left (by decide) d) <|
    M_ri (Option.some.inj e23) (fun _ => r_iret c284_94 rfl)
  ) (fun b19 e20 =>
    M_of (fun _ _ H => r_sw (c284_1_d b1 b5 b9 b13 b15 b17 b19) <| H) <|
    M_of (fun _ _ H => r_iloadn c284_95 rfl <| r_iloadn c284_96 rfl <| r_iloadn c284_97 rfl <| r_iloadn c284_98 rfl <| H) <|
    t_bd e20 fun r24 c25 e26 =>
    M_cs (as := [.int x1, .int x2]) (st' := [.int r24.1, .int x2, .int x1]) (v := (some (.int r24.1))) c284_99 ⟨Nat.le_of_ble_eq_true rfl, Nat.le_of_ble_eq_true rfl, Nat.le_of_ble_eq_true rfl⟩ rfl rfl (M285_ok (d := d) c25) (Nat.add_lt_add_left (by decide) d) <|
    M_of (fun _ _ H => r_imul c284_102 rfl <| r_isub c284_103 rfl <| H) <|
    M_ri (Option.some.inj e26) (fun _ => r_iret c284_104 rfl)
  ))))))))
def LG283_27 (xt : mj_X) (ct : Nat → Value) (a : Nat) (ra : Nat → Nat) (d : Nat) (q : Int32 × mS) (x1 : Int32) (x2 : Int32) (x3 : Int32) (x4 : Int32) (S : mS) : Prop := ∀ l, mj_ld l 0 = some (.ref a) → mj_ld l 1 = some (.int x1) → mj_ld l 2 = some (.int x2) → mj_ld l 3 = some (.int x3) → mj_ld l 4 = some (.int x4) → MR xt ct a ra (d + 3) 283 27 l [] S (.inl (some (.int q.1))) q.2
def GG283_27 (xt : mj_X) (ct : Nat → Value) (a : Nat) (ra : Nat → Nat) (d : Nat) (q : Int32 × mS) (o : (Int32 × Int32 × Int32 × Int32 × mS) ⊕ (Int32 × mS)) : Prop := match o with
  | .inl (x1, x2, x3, x4, S) => LG283_27 xt ct a ra d q x1 x2 x3 x4 S
  | .inr r => r = q
def LG283_52 (xt : mj_X) (ct : Nat → Value) (a : Nat) (ra : Nat → Nat) (d : Nat) (q : Int32 × mS) (x1 : Int32) (x2 : Int32) (x3 : Int32) (x4 : Int32) (S : mS) : Prop := ∀ l, mj_ld l 0 = some (.ref a) → mj_ld l 1 = some (.int x1) → mj_ld l 2 = some (.int x2) → mj_ld l 3 = some (.int x3) → mj_ld l 4 = some (.int x4) → MR xt ct a ra (d + 3) 283 52 l [] S (.inl (some (.int q.1))) q.2
def GG283_52 (xt : mj_X) (ct : Nat → Value) (a : Nat) (ra : Nat → Nat) (d : Nat) (q : Int32 × mS) (o : (Int32 × Int32 × Int32 × Int32 × mS) ⊕ (Int32 × mS)) : Prop := match o with
  | .inl (x1, x2, x3, x4, S) => LG283_52 xt ct a ra d q x1 x2 x3 x4 S
  | .inr r => r = q
def LG283_195 (xt : mj_X) (ct : Nat → Value) (a : Nat) (ra : Nat → Nat) (d : Nat) (q : Int32 × mS) (x4 : Int32) (S : mS) : Prop := ∀ l, mj_ld l 0 = some (.ref a) → mj_ld l 4 = some (.int x4) → MR xt ct a ra (d + 3) 283 195 l [] S (.inl (some (.int q.1))) q.2
def GG283_195 (xt : mj_X) (ct : Nat → Value) (a : Nat) (ra : Nat → Nat) (d : Nat) (q : Int32 × mS) (o : (Int32 × mS) ⊕ (Int32 × mS)) : Prop := match o with
  | .inl (x4, S) => LG283_195 xt ct a ra d q x4 S
  | .inr r => r = q
def J283_232 (N : Nat) (x4 : Int32)  (S : mS) : Option ((Int32 × mS) ⊕ (Int32 × mS)) :=
  some (.inl ((x4 + 1), S))
theorem J283_232_ok {xt : mj_X} {ct : Nat → Value} {a : Nat} {ra : Nat → Nat} {d N : Nat} {l : mj_L} {x4 : Int32}  {S : mS} {o : (Int32 × mS) ⊕ (Int32 × mS)} {q : Int32 × mS} (h0 : mj_ld l 0 = some (.ref a)) (h4 : mj_ld l 4 = some (.int x4)) (e : J283_232 N x4  S = some o) (g : GG283_195 xt ct a ra d q o) : MR xt ct a ra (d + 3) 283 232 l [] S (.inl (some (.int q.1))) q.2 := by
  unfold J283_232 at e
  exact (
  M_of (fun _ _ H => r_iinc c283_232 h4 <| r_goto c283_235 <| H) <|
  t_rg e g (fun (e : LG283_195 xt ct a ra d q (x4 + 1) S) => e _ (ld1_ne h0 (by decide) (Or.inl (by decide))) ld1_eq))
def B283_195 (N : Nat) (s : Int32 × mS) : Option ((Int32 × mS) ⊕ (Int32 × mS)) :=
  bif mj_c2 .ge s.1 1999 then
    some (.inr (1, s.2))
  else
  if 0 ≤ (s.1).toInt ∧ (s.1).toInt < mN 46 then
  bif mj_c1 .le (lg_cmp (s.2.2.2 46 (s.1).toInt.toNat) 0) then
    J283_232 N s.1 s.2
  else
  if 0 ≤ (s.1).toInt ∧ (s.1).toInt < mN 46 then
  (M282 N (s.1 - 999) (s.2.2.2 46 (s.1).toInt.toNat) s.2).bind fun r20 =>
  J283_232 N s.1 r20
  else none
  else none
def L283_195 (N : Nat) (s : Int32 × mS) : Option (Int32 × mS) := t_lp (B283_195 N) N s
theorem B283_195_ok {xt : mj_X} {ct : Nat → Value} {a : Nat} {ra : Nat → Nat} {d N : Nat} {s : Int32 × mS} {o : (Int32 × mS) ⊕ (Int32 × mS)} {q : Int32 × mS} (e : B283_195 N s = some o) (g : GG283_195 xt ct a ra d q o) : LG283_195 xt ct a ra d q s.1 s.2 := by
  unfold B283_195 at e
  exact (fun l h0 h4 =>
  M_of (fun _ _ H => r_iload c283_195 h4 <| r_sipush c283_197 <| H) <|
  t_if e (fun b12 e13 =>
    M_of (fun _ _ H => r_icmpT c283_200 b12 <| H) <|
    M_of (fun _ _ H => r_iconst c283_238 <| H) <|
    t_rg e13 g (fun (e : (1, s.2) = q) => M_ri (e) (fun _ => r_iret c283_239 rfl))
  ) (fun b12 e13 =>
    M_of (fun _ _ H => r_icmpF c283_200 b12 <| H) <|
    M_of (fun _ _ H => r_aloadn c283_203 h0 <| H) <|
    M_geta (j := 46) c283_204 (by decide) <|
    M_of (fun _ _ H => r_iload c283_207 h4 <| H) <|
    t_ck e13 fun i14 e15 =>
    M_lald (j := 46) (v := (s.2.2.2 46 (s.1).toInt.toNat)) c283_209 (by decide) i14 rfl <|
    M_of (fun _ _ H => r_lconst c283_210 <| r_lcmp c283_211 rfl <| H) <|
    t_if e15 (fun b16 e17 =>
      M_of (fun _ _ H => r_ifT c283_212 b16 <| H) <|
      J283_232_ok h0 h4 e17 g
    ) (fun b16 e17 =>
      M_of (fun _ _ H => r_ifF c283_212 b16 <| H) <|
      M_of (fun _ _ H => r_aloadn c283_215 h0 <| r_iload c283_216 h4 <| r_sipush c283_218 <| r_isub c283_221 rfl <| r_aloadn c283_222 h0 <| H) <|
      M_geta (j := 46) c283_223 (by decide) <|
      M_of (fun _ _ H => r_iload c283_226 h4 <| H) <|
      t_ck e17 fun i18 e19 =>
      M_lald (j := 46) (v := (s.2.2.2 46 (s.1).toInt.toNat)) c283_228 (by decide) i18 rfl <|
      t_bd e19 fun r20 c21 e22 =>
      M_cv (as := [.ref a, .int (s.1 - 999), .long (s.2.2.2 46 (s.1).toInt.toNat)]) (st' := []) (v := none) c283_229 rfl ⟨Nat.le_of_ble_eq_true rfl, Nat.le_of_ble_eq_true rfl, Nat.le_of_ble_eq_true rfl⟩ rfl rfl (M282_ok (d := d) c21) (Nat.add_lt_add_left (by decide) d) <|
      J283_232_ok h0 h4 e22 g
    )
  ))
theorem L283_195_ok {xt : mj_X} {ct : Nat → Value} {a : Nat} {ra : Nat → Nat} {d N : Nat} {x4 : Int32} {S : mS} {q : Int32 × mS} (e : L283_195 N (x4, S) = some q) : LG283_195 xt ct a ra d q x4 S :=
  t_lp_ok (G := fun s => LG283_195 xt ct a ra d q s.1 s.2) (fun s s' e g => B283_195_ok e (by obtain ⟨_, _⟩ := s'; exact g)) (fun s e => B283_195_ok e rfl) N (x4, S) e
def LG283_61 (xt : mj_X) (ct : Nat → Value) (a : Nat) (ra : Nat → Nat) (d : Nat) (q : Int32 × mS) (x1 : Int32) (x2 : Int32) (x3 : Int32) (x4 : Int32) (x5 : Int32) (S : mS) : Prop := ∀ l, mj_ld l 0 = some (.ref a) → mj_ld l 1 = some (.int x1) → mj_ld l 2 = some (.int x2) → mj_ld l 3 = some (.int x3) → mj_ld l 4 = some (.int x4) → mj_ld l 5 = some (.int x5) → MR xt ct a ra (d + 3) 283 61 l [] S (.inl (some (.int q.1))) q.2
def GG283_61 (xt : mj_X) (ct : Nat → Value) (a : Nat) (ra : Nat → Nat) (d : Nat) (q : Int32 × mS) (o : (Int32 × Int32 × Int32 × Int32 × Int32 × mS) ⊕ ((Int32 × Int32 × Int32 × Int32 × mS) ⊕ (Int32 × mS))) : Prop := match o with
  | .inl (x1, x2, x3, x4, x5, S) => LG283_61 xt ct a ra d q x1 x2 x3 x4 x5 S
  | .inr r => GG283_52 xt ct a ra d q r
def J283_87 (N : Nat) (x1 : Int32) (x2 : Int32) (x3 : Int32) (x4 : Int32) (x5 : Int32)  (S : mS) : Option ((Int32 × Int32 × Int32 × Int32 × Int32 × mS) ⊕ ((Int32 × Int32 × Int32 × Int32 × mS) ⊕ (Int32 × mS))) :=
  if 0 ≤ (x4).toInt ∧ (x4).toInt < mN 41 then
  if 0 ≤ (x5).toInt ∧ (x5).toInt < mN 41 then
  (M284 N x1 (S.2.1 41 (x4).toInt.toNat) (S.2.1 41 (x5).toInt.toNat) S).bind fun r35 =>
  (M205 N r35.1 (-999) 999 r35.2).bind fun r38 =>
  bif mj_c1 .ne r38.1 then
    if 0 ≤ ((r35.1 + 999)).toInt ∧ ((r35.1 + 999)).toInt < mN 46 then
    if 0 ≤ (x4).toInt ∧ (x4).toInt < mN 42 then
    if 0 ≤ (x5).toInt ∧ (x5).toInt < mN 42 then
    if 0 ≤ ((r35.1 + 999)).toInt ∧ ((r35.1 + 999)).toInt < mN 46 then
    some (.inl (x1, x2, x3, x4, (x5 + 1), (m_sB r38.2 46 ((r35.1 + 999)).toInt.toNat ((r38.2.2.2 46 ((r35.1 + 999)).toInt.toNat) + ((r38.2.2.2 42 (x4).toInt.toNat) * (r38.2.2.2 42 (x5).toInt.toNat))))))
    else none
    else none
    else none
    else none
  else
  some (.inr (.inr (0, r38.2)))
  else none
  else none
theorem J283_87_ok {xt : mj_X} {ct : Nat → Value} {a : Nat} {ra : Nat → Nat} {d N : Nat} {l : mj_L} {x1 : Int32} {x2 : Int32} {x3 : Int32} {x4 : Int32} {x5 : Int32}  {S : mS} {o : (Int32 × Int32 × Int32 × Int32 × Int32 × mS) ⊕ ((Int32 × Int32 × Int32 × Int32 × mS) ⊕ (Int32 × mS))} {q : Int32 × mS} (h0 : mj_ld l 0 = some (.ref a)) (h1 : mj_ld l 1 = some (.int x1)) (h2 : mj_ld l 2 = some (.int x2)) (h3 : mj_ld l 3 = some (.int x3)) (h4 : mj_ld l 4 = some (.int x4)) (h5 : mj_ld l 5 = some (.int x5)) (e : J283_87 N x1 x2 x3 x4 x5  S = some o) (g : GG283_61 xt ct a ra d q o) : MR xt ct a ra (d + 3) 283 87 l [] S (.inl (some (.int q.1))) q.2 := by
  unfold J283_87 at e
  exact (
  M_of (fun _ _ H => r_iloadn c283_87 h1 <| r_aloadn c283_88 h0 <| H) <|
  M_geta (j := 41) c283_89 (by decide) <|
  M_of (fun _ _ H => r_iload c283_92 h4 <| H) <|
  t_ck e fun i31 e32 =>
  M_iald (j := 41) (v := (S.2.1 41 (x4).toInt.toNat)) c283_94 (by decide) i31 rfl <|
  M_of (fun _ _ H => r_aloadn c283_95 h0 <| H) <|
  M_geta (j := 41) c283_96 (by decide) <|
  M_of (fun _ _ H => r_iload c283_99 h5 <| H) <|
  t_ck e32 fun i33 e34 =>
  M_iald (j := 41) (v := (S.2.1 41 (x5).toInt.toNat)) c283_101 (by decide) i33 rfl <|
  t_bd e34 fun r35 c36 e37 =>
  M_cs (as := [.int x1, .int (S.2.1 41 (x4).toInt.toNat), .int (S.2.1 41 (x5).toInt.toNat)]) (st' := [.int r35.1]) (v := (some (.int r35.1))) c283_102 ⟨Nat.le_of_ble_eq_true rfl, Nat.le_of_ble_eq_true rfl, Nat.le_of_ble_eq_true rfl⟩ rfl rfl (M284_ok (d := d) c36) (Nat.add_lt_add_left (by decide) d) <|
  M_of (fun _ _ H => r_istore c283_105 <| r_iload c283_107 ld1_eq <| r_sipush c283_109 <| r_sipush c283_112 <| H) <|
  t_bd e37 fun r38 c39 e40 =>
  M_cs (as := [.int r35.1, .int (-999), .int 999]) (st' := [.int r38.1]) (v := (some (.int r38.1))) c283_115 ⟨Nat.le_of_ble_eq_true rfl, Nat.le_of_ble_eq_true rfl, Nat.le_of_ble_eq_true rfl⟩ rfl rfl (M205_ok (d := d) c39) (Nat.add_lt_add_left (by decide) d) <|
  t_if e40 (fun b41 e42 =>
    M_of (fun _ _ H => r_ifT c283_118 b41 <| H) <|
    M_of (fun _ _ H => r_aloadn c283_123 (ld1_ne h0 (by decide) (Or.inl (by decide))) <| H) <|
    M_geta (j := 46) c283_124 (by decide) <|
    M_of (fun _ _ H => r_iload c283_127 ld1_eq <| r_sipush c283_129 <| r_iadd c283_132 rfl <| r_aloadn c283_133 (ld1_ne h0 (by decide) (Or.inl (by decide))) <| H) <|
    M_geta (j := 46) c283_134 (by decide) <|
    M_of (fun _ _ H => r_iload c283_137 ld1_eq <| r_sipush c283_139 <| r_iadd c283_142 rfl <| H) <|
    t_ck e42 fun i43 e44 =>
    M_lald (j := 46) (v := (r38.2.2.2 46 ((r35.1 + 999)).toInt.toNat)) c283_143 (by decide) i43 rfl <|
    M_of (fun _ _ H => r_aloadn c283_144 (ld1_ne h0 (by decide) (Or.inl (by decide))) <| H) <|
    M_geta (j := 42) c283_145 (by decide) <|
    M_of (fun _ _ H => r_iload c283_148 (ld1_ne h4 (by decide) (Or.inl (by decide))) <| H) <|
    t_ck e44 fun i45 e46 =>
    M_lald (j := 42) (v := (r38.2.2.2 42 (x4).toInt.toNat)) c283_150 (by decide) i45 rfl <|
    M_of (fun _ _ H => r_aloadn c283_151 (ld1_ne h0 (by decide) (Or.inl (by decide))) <| H) <|
    M_geta (j := 42) c283_152 (by decide) <|
    M_of (fun _ _ H => r_iload c283_155 (ld1_ne h5 (by decide) (Or.inr rfl)) <| H) <|
    t_ck e46 fun i47 e48 =>
    M_lald (j := 42) (v := (r38.2.2.2 42 (x5).toInt.toNat)) c283_157 (by decide) i47 rfl <|
    M_of (fun _ _ H => r_lmul c283_158 rfl <| r_ladd c283_159 rfl <| H) <|
    t_ck e48 fun i49 e50 =>
    M_last (j := 46) c283_160 (by decide) i49 <|
    M_of (fun _ _ H => r_iinc c283_161 (ld1_ne h5 (by decide) (Or.inr rfl)) <| r_goto c283_164 <| H) <|
    t_rg e50 g (fun (e : LG283_61 xt ct a ra d q x1 x2 x3 x4 (x5 + 1) (m_sB r38.2 46 ((r35.1 + 999)).toInt.toNat ((r38.2.2.2 46 ((r35.1 + 999)).toInt.toNat) + ((r38.2.2.2 42 (x4).toInt.toNat) * (r38.2.2.2 42 (x5).toInt.toNat))))) => e _ (ld1_ne (ld1_ne h0 (by decide) (Or.inl (by decide))) (by decide) (Or.inl (by decide))) (ld1_ne (ld1_ne h1 (by decide) (Or.inl (by decide))) (by decide) (Or.inl (by decide))) (ld1_ne (ld1_ne h2 (by decide) (Or.inl (by decide))) (by decide) (Or.inl (by decide))) (ld1_ne (ld1_ne h3 (by decide) (Or.inl (by decide))) (by decide) (Or.inl (by decide))) (ld1_ne (ld1_ne h4 (by decide) (Or.inl (by decide))) (by decide) (Or.inr rfl)) ld1_eq)
  ) (fun b41 e42 =>
    M_of (fun _ _ H => r_ifF c283_118 b41 <| H) <|
    M_of (fun _ _ H => r_iconst c283_121 <| H) <|
    t_rg e42 g (fun (e : (0, r38.2) = q) => M_ri (e) (fun _ => r_iret c283_122 rfl))
  ))
def B283_61 (N : Nat) (s : Int32 × Int32 × Int32 × Int32 × Int32 × mS) : Option ((Int32 × Int32 × Int32 × Int32 × Int32 × mS) ⊕ ((Int32 × Int32 × Int32 × Int32 × mS) ⊕ (Int32 × mS))) :=
  bif mj_c2 .ge s.2.2.2.2.1 (s.2.2.2.2.2.1 45) then
    some (.inr (.inl (s.1, s.2.1, s.2.2.1, (s.2.2.2.1 + 1), s.2.2.2.2.2)))
  else
  bif mj_c2 .le s.1 5 then
    J283_87 N s.1 s.2.1 s.2.2.1 s.2.2.2.1 s.2.2.2.2.1 s.2.2.2.2.2
  else
  if 0 ≤ (s.2.2.2.2.1).toInt ∧ (s.2.2.2.2.1).toInt < mN 41 then
  bif mj_c1 .ne (s.2.2.2.2.2.2.1 41 (s.2.2.2.2.1).toInt.toNat) then
    J283_87 N s.1 s.2.1 s.2.2.1 s.2.2.2.1 s.2.2.2.2.1 s.2.2.2.2.2
  else
  some (.inr (.inr (0, s.2.2.2.2.2)))
  else none
def L283_61 (N : Nat) (s : Int32 × Int32 × Int32 × Int32 × Int32 × mS) : Option ((Int32 × Int32 × Int32 × Int32 × mS) ⊕ (Int32 × mS)) := t_lp (B283_61 N) N s
theorem B283_61_ok {xt : mj_X} {ct : Nat → Value} {a : Nat} {ra : Nat → Nat} {d N : Nat} {s : Int32 × Int32 × Int32 × Int32 × Int32 × mS} {o : (Int32 × Int32 × Int32 × Int32 × Int32 × mS) ⊕ ((Int32 × Int32 × Int32 × Int32 × mS) ⊕ (Int32 × mS))} {q : Int32 × mS} (e : B283_61 N s = some o) (g : GG283_61 xt ct a ra d q o) : LG283_61 xt ct a ra d q s.1 s.2.1 s.2.2.1 s.2.2.2.1 s.2.2.2.2.1 s.2.2.2.2.2 := by
  unfold B283_61 at e
  exact (fun l h0 h1 h2 h3 h4 h5 =>
  M_of (fun _ _ H => r_iload c283_61 h5 <| r_aloadn c283_63 h0 <| H) <|
  M_get (v := (s.2.2.2.2.2.1 45)) c283_64 (by decide) rfl <|
  t_if e (fun b27 e28 =>
    M_of (fun _ _ H => r_icmpT c283_67 b27 <| H) <|
    M_of (fun _ _ H => r_iinc c283_167 h4 <| r_goto c283_170 <| H) <|
    t_rg e28 g (fun (e : LG283_52 xt ct a ra d q s.1 s.2.1 s.2.2.1 (s.2.2.2.1 + 1) s.2.2.2.2.2) => e _ (ld1_ne h0 (by decide) (Or.inl (by decide))) (ld1_ne h1 (by decide) (Or.inl (by decide))) (ld1_ne h2 (by decide) (Or.inl (by decide))) (ld1_ne h3 (by decide) (Or.inr rfl)) ld1_eq)
  ) (fun b27 e28 =>
    M_of (fun _ _ H => r_icmpF c283_67 b27 <| H) <|
    M_of (fun _ _ H => r_iloadn c283_70 h1 <| r_iconst c283_71 <| H) <|
    t_if e28 (fun b29 e30 =>
      M_of (fun _ _ H => r_icmpT c283_72 b29 <| H) <|
      J283_87_ok h0 h1 h2 h3 h4 h5 e30 g
    ) (fun b29 e30 =>
      M_of (fun _ _ H => r_icmpF c283_72 b29 <| H) <|
      M_of (fun _ _ H => r_aloadn c283_75 h0 <| H) <|
      M_geta (j := 41) c283_76 (by decide) <|
      M_of (fun _ _ H => r_iload c283_79 h5 <| H) <|
      t_ck e30 fun i51 e52 =>
      M_iald (j := 41) (v := (s.2.2.2.2.2.2.1 41 (s.2.2.2.2.1).toInt.toNat)) c283_81 (by decide) i51 rfl <|
      t_if e52 (fun b53 e54 =>
        M_of (fun _ _ H => r_ifT c283_82 b53 <| H) <|
        J283_87_ok h0 h1 h2 h3 h4 h5 e54 g
      ) (fun b53 e54 =>
        M_of (fun _ _ H => r_ifF c283_82 b53 <| H) <|
        M_of (fun _ _ H => r_iconst c283_85 <| H) <|
        t_rg e54 g (fun (e : (0, s.2.2.2.2.2) = q) => M_ri (e) (fun _ => r_iret c283_86 rfl))
      )
    )
  ))
theorem L283_61_ok {xt : mj_X} {ct : Nat → Value} {a : Nat} {ra : Nat → Nat} {d N : Nat} {x1 : Int32} {x2 : Int32} {x3 : Int32} {x4 : Int32} {x5 : Int32} {S : mS} {o : (Int32 × Int32 × Int32 × Int32 × mS) ⊕ (Int32 × mS)} {q : Int32 × mS} (e : L283_61 N (x1, x2, x3, x4, x5, S) = some o) (g : GG283_52 xt ct a ra d q o) : LG283_61 xt ct a ra d q x1 x2 x3 x4 x5 S :=
  t_lp_ok (G := fun s => LG283_61 xt ct a ra d q s.1 s.2.1 s.2.2.1 s.2.2.2.1 s.2.2.2.2.1 s.2.2.2.2.2) (fun s s' e g => B283_61_ok e (by obtain ⟨_, _, _, _, _, _⟩ := s'; exact g)) (fun s e => B283_61_ok e g) N (x1, x2, x3, x4, x5, S) e
def B283_52 (N : Nat) (s : Int32 × Int32 × Int32 × Int32 × mS) : Option ((Int32 × Int32 × Int32 × Int32 × mS) ⊕ (Int32 × mS)) :=
  bif mj_c2 .ge s.2.2.2.1 s.2.1 then
    (M281 N (m_sV (m_sV s.2.2.2.2 44 ((s.2.2.2.2.1 44) - 2)) 45 s.2.2.1)).bind fun r9 =>
    (L283_195 N (0, r9)).map Sum.inr
  else
  L283_61 N (s.1, s.2.1, s.2.2.1, s.2.2.2.1, s.2.1, s.2.2.2.2)
def L283_52 (N : Nat) (s : Int32 × Int32 × Int32 × Int32 × mS) : Option (Int32 × mS) := t_lp (B283_52 N) N s
theorem B283_52_ok {xt : mj_X} {ct : Nat → Value} {a : Nat} {ra : Nat → Nat} {d N : Nat} {s : Int32 × Int32 × Int32 × Int32 × mS} {o : (Int32 × Int32 × Int32 × Int32 × mS) ⊕ (Int32 × mS)} {q : Int32 × mS} (e : B283_52 N s = some o) (g : GG283_52 xt ct a ra d q o) : LG283_52 xt ct a ra d q s.1 s.2.1 s.2.2.1 s.2.2.2.1 s.2.2.2.2 := by
  unfold B283_52 at e
  exact (fun l h0 h1 h2 h3 h4 =>
  M_of (fun _ _ H => r_iload c283_52 h4 <| r_iloadn c283_54 h2 <| H) <|
  t_if e (fun b7 e8 =>
    M_of (fun _ _ H => r_icmpT c283_55 b7 <| H) <|
    M_of (fun _ _ H => r_aloadn c283_173 h0 <| r_aloadn c283_174 h0 <| H) <|
    M_get (v := (s.2.2.2.2.1 44)) c283_175 (by decide) rfl <|
    M_of (fun _ _ H => r_iconst c283_178 <| r_isub c283_179 rfl <| H) <|
    M_put c283_180 (by decide) <|
    M_of (fun _ _ H => r_aloadn c283_183 h0 <| r_iloadn c283_184 h3 <| H) <|
    M_put c283_185 (by decide) <|
    M_of (fun _ _ H => r_aloadn c283_188 h0 <| H) <|
    t_bd e8 fun r9 c10 e11 =>
    M_cv (as := [.ref a]) (st' := []) (v := none) c283_189 rfl ⟨Nat.le_of_ble_eq_true rfl, Nat.le_of_ble_eq_true rfl, Nat.le_of_ble_eq_true rfl⟩ rfl rfl (M281_ok (d := d) c10) (Nat.add_lt_add_left (by decide) d) <|
    M_of (fun _ _ H => r_iconst c283_192 <| r_istore c283_193 <| H) <|
    t_up e11 fun o23 e24 u25 =>
    (fun (g26 : o23 = q) =>
    by subst g26; exact (L283_195_ok e24 _ (ld1_ne h0 (by decide) (Or.inl (by decide))) ld1_eq)
    ) (by have := g; rw [u25] at this; exact this)
  ) (fun b7 e8 =>
    M_of (fun _ _ H => r_icmpF c283_55 b7 <| H) <|
    M_of (fun _ _ H => r_iloadn c283_58 h2 <| r_istore c283_59 <| H) <|
    L283_61_ok e8 g _ (ld1_ne h0 (by decide) (Or.inl (by decide))) (ld1_ne h1 (by decide) (Or.inl (by decide))) (ld1_ne h2 (by decide) (Or.inl (by decide))) (ld1_ne h3 (by decide) (Or.inl (by decide))) (ld1_ne h4 (by decide) (Or.inr rfl)) ld1_eq
  ))
theorem L283_52_ok {xt : mj_X} {ct : Nat → Value} {a : Nat} {ra : Nat → Nat} {d N : Nat} {x1 : Int32} {x2 : Int32} {x3 : Int32} {x4 : Int32} {S : mS} {q : Int32 × mS} (e : L283_52 N (x1, x2, x3, x4, S) = some q) : LG283_52 xt ct a ra d q x1 x2 x3 x4 S :=
  t_lp_ok (G := fun s => LG283_52 xt ct a ra d q s.1 s.2.1 s.2.2.1 s.2.2.2.1 s.2.2.2.2) (fun s s' e g => B283_52_ok e (by obtain ⟨_, _, _, _, _⟩ := s'; exact g)) (fun s e => B283_52_ok e rfl) N (x1, x2, x3, x4, S) e
def B283_27 (N : Nat) (s : Int32 × Int32 × Int32 × Int32 × mS) : Option ((Int32 × Int32 × Int32 × Int32 × mS) ⊕ (Int32 × mS)) :=
  bif mj_c2 .ge s.2.2.2.1 1999 then
    (L283_52 N (s.1, s.2.1, s.2.2.1, s.2.2.1, s.2.2.2.2)).map Sum.inr
  else
  if 0 ≤ (s.2.2.2.1).toInt ∧ (s.2.2.2.1).toInt < mN 46 then
  some (.inl (s.1, s.2.1, s.2.2.1, (s.2.2.2.1 + 1), (m_sB s.2.2.2.2 46 (s.2.2.2.1).toInt.toNat 0)))
  else none
def L283_27 (N : Nat) (s : Int32 × Int32 × Int32 × Int32 × mS) : Option (Int32 × mS) := t_lp (B283_27 N) N s
theorem B283_27_ok {xt : mj_X} {ct : Nat → Value} {a : Nat} {ra : Nat → Nat} {d N : Nat} {s : Int32 × Int32 × Int32 × Int32 × mS} {o : (Int32 × Int32 × Int32 × Int32 × mS) ⊕ (Int32 × mS)} {q : Int32 × mS} (e : B283_27 N s = some o) (g : GG283_27 xt ct a ra d q o) : LG283_27 xt ct a ra d q s.1 s.2.1 s.2.2.1 s.2.2.2.1 s.2.2.2.2 := by
  unfold B283_27 at e
  exact (fun l h0 h1 h2 h3 h4 =>
  M_of (fun _ _ H => r_iload c283_27 h4 <| r_sipush c283_29 <| H) <|
  t_if e (fun b5 e6 =>
    M_of (fun _ _ H => r_icmpT c283_32 b5 <| H) <|
    M_of (fun _ _ H => r_iloadn c283_49 h3 <| r_istore c283_50 <| H) <|
    t_up e6 fun o55 e56 u57 =>
    (fun (g58 : o55 = q) =>
    by subst g58; exact (L283_52_ok e56 _ (ld1_ne h0 (by decide) (Or.inl (by decide))) (ld1_ne h1 (by decide) (Or.inl (by decide))) (ld1_ne h2 (by decide) (Or.inl (by decide))) (ld1_ne h3 (by decide) (Or.inr rfl)) ld1_eq)
    ) (by have := g; rw [u57] at this; exact this)
  ) (fun b5 e6 =>
    M_of (fun _ _ H => r_icmpF c283_32 b5 <| H) <|
    M_of (fun _ _ H => r_aloadn c283_35 h0 <| H) <|
    M_geta (j := 46) c283_36 (by decide) <|
    M_of (fun _ _ H => r_iload c283_39 h4 <| r_lconst c283_41 <| H) <|
    t_ck e6 fun i59 e60 =>
    M_last (j := 46) c283_42 (by decide) i59 <|
    M_of (fun _ _ H => r_iinc c283_43 h4 <| r_goto c283_46 <| H) <|
    t_rg e60 g (fun (e : LG283_27 xt ct a ra d q s.1 s.2.1 s.2.2.1 (s.2.2.2.1 + 1) (m_sB s.2.2.2.2 46 (s.2.2.2.1).toInt.toNat 0)) => e _ (ld1_ne h0 (by decide) (Or.inl (by decide))) (ld1_ne h1 (by decide) (Or.inl (by decide))) (ld1_ne h2 (by decide) (Or.inl (by decide))) (ld1_ne h3 (by decide) (Or.inr rfl)) ld1_eq)
  ))
theorem L283_27_ok {xt : mj_X} {ct : Nat → Value} {a : Nat} {ra : Nat → Nat} {d N : Nat} {x1 : Int32} {x2 : Int32} {x3 : Int32} {x4 : Int32} {S : mS} {q : Int32 × mS} (e : L283_27 N (x1, x2, x3, x4, S) = some q) : LG283_27 xt ct a ra d q x1 x2 x3 x4 S :=
  t_lp_ok (G := fun s => LG283_27 xt ct a ra d q s.1 s.2.1 s.2.2.1 s.2.2.2.1 s.2.2.2.2) (fun s s' e g => B283_27_ok e (by obtain ⟨_, _, _, _, _⟩ := s'; exact g)) (fun s e => B283_27_ok e rfl) N (x1, x2, x3, x4, S) e
/-- combine(I)Z -/
def M283 (N : Nat) (x1 : Int32) (S : mS) : Option (Int32 × mS) :=
  if 0 ≤ (((S.1 44) - 1)).toInt ∧ (((S.1 44) - 1)).toInt < mN 43 then
  if 0 ≤ (((S.1 44) - 2)).toInt ∧ (((S.1 44) - 2)).toInt < mN 43 then
  L283_27 N (x1, (S.2.1 43 (((S.1 44) - 1)).toInt.toNat), (S.2.1 43 (((S.1 44) - 2)).toInt.toNat), 0, S)
  else none
  else none
theorem M283_ok {xt : mj_X} {ct : Nat → Value} {a : Nat} {ra : Nat → Nat} {d N : Nat} {x1 : Int32} {S : mS} {q : Int32 × mS} (e : M283 N x1 S = some q) : MR xt ct a ra (d + 3) 283 0 (lv_args 0 [.ref a, .int x1]) [] S (.inl (some (.int q.1))) q.2 := by
  unfold M283 at e
  exact (
  M_of (fun _ _ H => r_aloadn c283_0 rfl <| H) <|
  M_geta (j := 43) c283_1 (by decide) <|
  M_of (fun _ _ H => r_aloadn c283_4 rfl <| H) <|
  M_get (v := (S.1 44)) c283_5 (by decide) rfl <|
  M_of (fun _ _ H => r_iconst c283_8 <| r_isub c283_9 rfl <| H) <|
  t_ck e fun i1 e2 =>
  M_iald (j := 43) (v := (S.2.1 43 (((S.1 44) - 1)).toInt.toNat)) c283_10 (by decide) i1 rfl <|
  M_of (fun _ _ H => r_istoren c283_11 <| r_aloadn c283_12 (ld1_ne rfl (by decide) (Or.inl (by decide))) <| H) <|
  M_geta (j := 43) c283_13 (by decide) <|
  M_of (fun _ _ H => r_aloadn c283_16 (ld1_ne rfl (by decide) (Or.inl (by decide))) <| H) <|
  M_get (v := (S.1 44)) c283_17 (by decide) rfl <|
  M_of (fun _ _ H => r_iconst c283_20 <| r_isub c283_21 rfl <| H) <|
  t_ck e2 fun i3 e4 =>
  M_iald (j := 43) (v := (S.2.1 43 (((S.1 44) - 2)).toInt.toNat)) c283_22 (by decide) i3 rfl <|
  M_of (fun _ _ H => r_istoren c283_23 <| r_iconst c283_24 <| r_istore c283_25 <| H) <|
  L283_27_ok e4 _ (ld1_ne (ld1_ne (ld1_ne rfl (by decide) (Or.inl (by decide))) (by decide) (Or.inl (by decide))) (by decide) (Or.inl (by decide))) (ld1_ne (ld1_ne (ld1_ne rfl (by decide) (Or.inr rfl)) (by decide) (Or.inl (by decide))) (by decide) (Or.inl (by decide))) (ld1_ne (ld1_ne ld1_eq (by decide) (Or.inr rfl)) (by decide) (Or.inl (by decide))) (ld1_ne ld1_eq (by decide) (Or.inr rfl)) ld1_eq)
def LG280_122 (xt : mj_X) (ct : Nat → Value) (a : Nat) (ra : Nat → Nat) (d : Nat) (q : Int32 × mS) (x6 : Int32) (S : mS) : Prop := ∀ l, mj_ld l 0 = some (.ref a) → mj_ld l 6 = some (.int x6) → MR xt ct a ra (d + 4) 280 122 l [] S (.inl (some (.int q.1))) q.2
def GG280_122 (xt : mj_X) (ct : Nat → Value) (a : Nat) (ra : Nat → Nat) (d : Nat) (q : Int32 × mS) (o : (Int32 × mS) ⊕ (Int32 × mS)) : Prop := match o with
  | .inl (x6, S) => LG280_122 xt ct a ra d q x6 S
  | .inr r => r = q
def B280_122 (N : Nat) (s : Int32 × mS) : Option ((Int32 × mS) ⊕ (Int32 × mS)) :=
  bif mj_c2 .ge s.1 (s.2.1 45) then
    some (.inr (1, s.2))
  else
  if 0 ≤ (s.1).toInt ∧ (s.1).toInt < mN 41 then
  if 0 ≤ (s.1).toInt ∧ (s.1).toInt < mN 41 then
  some (.inl ((s.1 + 1), (m_sA s.2 41 (s.1).toInt.toNat (-(s.2.2.1 41 (s.1).toInt.toNat)))))
  else none
  else none
def L280_122 (N : Nat) (s : Int32 × mS) : Option (Int32 × mS) := t_lp (B280_122 N) N s
theorem B280_122_ok {xt : mj_X} {ct : Nat → Value} {a : Nat} {ra : Nat → Nat} {d N : Nat} {s : Int32 × mS} {o : (Int32 × mS) ⊕ (Int32 × mS)} {q : Int32 × mS} (e : B280_122 N s = some o) (g : GG280_122 xt ct a ra d q o) : LG280_122 xt ct a ra d q s.1 s.2 := by
  unfold B280_122 at e
  exact (fun l h0 h6 =>
  M_of (fun _ _ H => r_iload c280_122 h6 <| r_aloadn c280_124 h0 <| H) <|
  M_get (v := (s.2.1 45)) c280_125 (by decide) rfl <|
  t_if e (fun b29 e30 =>
    M_of (fun _ _ H => r_icmpT c280_128 b29 <| H) <|
    M_of (fun _ _ H => r_iconst c280_152 <| H) <|
    t_rg e30 g (fun (e : (1, s.2) = q) => M_ri (e) (fun _ => r_iret c280_153 rfl))
  ) (fun b29 e30 =>
    M_of (fun _ _ H => r_icmpF c280_128 b29 <| H) <|
    M_of (fun _ _ H => r_aloadn c280_131 h0 <| H) <|
    M_geta (j := 41) c280_132 (by decide) <|
    M_of (fun _ _ H => r_iload c280_135 h6 <| r_aloadn c280_137 h0 <| H) <|
    M_geta (j := 41) c280_138 (by decide) <|
    M_of (fun _ _ H => r_iload c280_141 h6 <| H) <|
    t_ck e30 fun i31 e32 =>
    M_iald (j := 41) (v := (s.2.2.1 41 (s.1).toInt.toNat)) c280_143 (by decide) i31 rfl <|
    M_of (fun _ _ H => r_ineg c280_144 rfl <| H) <|
    t_ck e32 fun i33 e34 =>
    M_iast (j := 41) c280_145 (by decide) i33 <|
    M_of (fun _ _ H => r_iinc c280_146 h6 <| r_goto c280_149 <| H) <|
    t_rg e34 g (fun (e : LG280_122 xt ct a ra d q (s.1 + 1) (m_sA s.2 41 (s.1).toInt.toNat (-(s.2.2.1 41 (s.1).toInt.toNat)))) => e _ (ld1_ne h0 (by decide) (Or.inl (by decide))) ld1_eq)
  ))
theorem L280_122_ok {xt : mj_X} {ct : Nat → Value} {a : Nat} {ra : Nat → Nat} {d N : Nat} {x6 : Int32} {S : mS} {q : Int32 × mS} (e : L280_122 N (x6, S) = some q) : LG280_122 xt ct a ra d q x6 S :=
  t_lp_ok (G := fun s => LG280_122 xt ct a ra d q s.1 s.2) (fun s s' e g => B280_122_ok e (by obtain ⟨_, _⟩ := s'; exact g)) (fun s e => B280_122_ok e rfl) N (x6, S) e
def LG280_161 (xt : mj_X) (ct : Nat → Value) (a : Nat) (ra : Nat → Nat) (d : Nat) (q : Int32 × mS) (x5 : Int32) (x6 : Int32) (S : mS) : Prop := ∀ l, mj_ld l 0 = some (.ref a) → mj_ld l 5 = some (.int x5) → mj_ld l 6 = some (.int x6) → MR xt ct a ra (d + 4) 280 161 l [] S (.inl (some (.int q.1))) q.2
def GG280_161 (xt : mj_X) (ct : Nat → Value) (a : Nat) (ra : Nat → Nat) (d : Nat) (q : Int32 × mS) (o : (Int32 × Int32 × mS) ⊕ (Int32 × mS)) : Prop := match o with
  | .inl (x5, x6, S) => LG280_161 xt ct a ra d q x5 x6 S
  | .inr r => r = q
def J280_203 (N : Nat) (x5 : Int32) (x6 : Int32)  (S : mS) : Option ((Int32 × Int32 × mS) ⊕ (Int32 × mS)) :=
  some (.inl (x5, (x6 + 1), S))
theorem J280_203_ok {xt : mj_X} {ct : Nat → Value} {a : Nat} {ra : Nat → Nat} {d N : Nat} {l : mj_L} {x5 : Int32} {x6 : Int32}  {S : mS} {o : (Int32 × Int32 × mS) ⊕ (Int32 × mS)} {q : Int32 × mS} (h0 : mj_ld l 0 = some (.ref a)) (h5 : mj_ld l 5 = some (.int x5)) (h6 : mj_ld l 6 = some (.int x6)) (e : J280_203 N x5 x6  S = some o) (g : GG280_161 xt ct a ra d q o) : MR xt ct a ra (d + 4) 280 203 l [] S (.inl (some (.int q.1))) q.2 := by
  unfold J280_203 at e
  exact (
  M_of (fun _ _ H => r_iinc c280_203 h6 <| r_goto c280_206 <| H) <|
  t_rg e g (fun (e : LG280_161 xt ct a ra d q x5 (x6 + 1) S) => e _ (ld1_ne h0 (by decide) (Or.inl (by decide))) (ld1_ne h5 (by decide) (Or.inr rfl)) ld1_eq))
def B280_161 (N : Nat) (s : Int32 × Int32 × mS) : Option ((Int32 × Int32 × mS) ⊕ (Int32 × mS)) :=
  bif mj_c2 .ge s.2.1 121 then
    some (.inr (1, s.2.2))
  else
  if 0 ≤ (s.1).toInt ∧ (s.1).toInt < mN 18 then
  if 0 ≤ (((121 * (s.2.2.2.1 18 (s.1).toInt.toNat)) + s.2.1)).toInt ∧ (((121 * (s.2.2.2.1 18 (s.1).toInt.toNat)) + s.2.1)).toInt < mN 21 then
  bif mj_c1 .le (lg_cmp (s.2.2.2.2 21 (((121 * (s.2.2.2.1 18 (s.1).toInt.toNat)) + s.2.1)).toInt.toNat) 0) then
    J280_203 N s.1 s.2.1 s.2.2
  else
  (M282 N s.2.1 (s.2.2.2.2 21 (((121 * (s.2.2.2.1 18 (s.1).toInt.toNat)) + s.2.1)).toInt.toNat) s.2.2).bind fun r48 =>
  J280_203 N s.1 s.2.1 r48
  else none
  else none
def L280_161 (N : Nat) (s : Int32 × Int32 × mS) : Option (Int32 × mS) := t_lp (B280_161 N) N s
theorem B280_161_ok {xt : mj_X} {ct : Nat → Value} {a : Nat} {ra : Nat → Nat} {d N : Nat} {s : Int32 × Int32 × mS} {o : (Int32 × Int32 × mS) ⊕ (Int32 × mS)} {q : Int32 × mS} (e : B280_161 N s = some o) (g : GG280_161 xt ct a ra d q o) : LG280_161 xt ct a ra d q s.1 s.2.1 s.2.2 := by
  unfold B280_161 at e
  exact (fun l h0 h5 h6 =>
  M_of (fun _ _ H => r_iload c280_161 h6 <| r_bipush c280_163 <| H) <|
  t_if e (fun b40 e41 =>
    M_of (fun _ _ H => r_icmpT c280_165 b40 <| H) <|
    M_of (fun _ _ H => r_iconst c280_209 <| H) <|
    t_rg e41 g (fun (e : (1, s.2.2) = q) => M_ri (e) (fun _ => r_iret c280_210 rfl))
  ) (fun b40 e41 =>
    M_of (fun _ _ H => r_icmpF c280_165 b40 <| H) <|
    M_of (fun _ _ H => r_aloadn c280_168 h0 <| H) <|
    M_geta (j := 21) c280_169 (by decide) <|
    M_of (fun _ _ H => r_bipush c280_172 <| r_aloadn c280_174 h0 <| H) <|
    M_geta (j := 18) c280_175 (by decide) <|
    M_of (fun _ _ H => r_iload c280_178 h5 <| H) <|
    t_ck e41 fun i42 e43 =>
    M_iald (j := 18) (v := (s.2.2.2.1 18 (s.1).toInt.toNat)) c280_180 (by decide) i42 rfl <|
    M_of (fun _ _ H => r_imul c280_181 rfl <| r_iload c280_182 h6 <| r_iadd c280_184 rfl <| H) <|
    t_ck e43 fun i44 e45 =>
    M_lald (j := 21) (v := (s.2.2.2.2 21 (((121 * (s.2.2.2.1 18 (s.1).toInt.toNat)) + s.2.1)).toInt.toNat)) c280_185 (by decide) i44 rfl <|
    M_of (fun _ _ H => r_lstore c280_186 <| r_lload c280_188 ld2_eq <| r_lconst c280_190 <| r_lcmp c280_191 rfl <| H) <|
    t_if e45 (fun b46 e47 =>
      M_of (fun _ _ H => r_ifT c280_192 b46 <| H) <|
      J280_203_ok (ld2_ne h0 (by decide) (Or.inl (by decide))) (ld2_ne h5 (by decide) (Or.inl (by decide))) (ld2_ne h6 (by decide) (Or.inr rfl)) e47 g
    ) (fun b46 e47 =>
      M_of (fun _ _ H => r_ifF c280_192 b46 <| H) <|
      M_of (fun _ _ H => r_aloadn c280_195 (ld2_ne h0 (by decide) (Or.inl (by decide))) <| r_iload c280_196 (ld2_ne h6 (by decide) (Or.inr rfl)) <| r_lload c280_198 ld2_eq <| H) <|
      t_bd e47 fun r48 c49 e50 =>
      M_cv (as := [.ref a, .int s.2.1, .long (s.2.2.2.2 21 (((121 * (s.2.2.2.1 18 (s.1).toInt.toNat)) + s.2.1)).toInt.toNat)]) (st' := []) (v := none) c280_200 rfl ⟨Nat.le_of_ble_eq_true rfl, Nat.le_of_ble_eq_true rfl, Nat.le_of_ble_eq_true rfl⟩ rfl rfl (M282_ok (d := d) c49) (Nat.add_lt_add_left (by decide) d) <|
      J280_203_ok (ld2_ne h0 (by decide) (Or.inl (by decide))) (ld2_ne h5 (by decide) (Or.inl (by decide))) (ld2_ne h6 (by decide) (Or.inr rfl)) e50 g
    )
  ))
theorem L280_161_ok {xt : mj_X} {ct : Nat → Value} {a : Nat} {ra : Nat → Nat} {d N : Nat} {x5 : Int32} {x6 : Int32} {S : mS} {q : Int32 × mS} (e : L280_161 N (x5, x6, S) = some q) : LG280_161 xt ct a ra d q x5 x6 S :=
  t_lp_ok (G := fun s => LG280_161 xt ct a ra d q s.1 s.2.1 s.2.2) (fun s s' e g => B280_161_ok e (by obtain ⟨_, _, _⟩ := s'; exact g)) (fun s e => B280_161_ok e rfl) N (x5, x6, S) e
def LG280_218 (xt : mj_X) (ct : Nat → Value) (a : Nat) (ra : Nat → Nat) (d : Nat) (q : Int32 × mS) (x1 : Int32) (x5 : Int32) (x6 : Int32) (S : mS) : Prop := ∀ l, mj_ld l 0 = some (.ref a) → mj_ld l 1 = some (.int x1) → mj_ld l 5 = some (.int x5) → mj_ld l 6 = some (.int x6) → MR xt ct a ra (d + 4) 280 218 l [] S (.inl (some (.int q.1))) q.2
def GG280_218 (xt : mj_X) (ct : Nat → Value) (a : Nat) (ra : Nat → Nat) (d : Nat) (q : Int32 × mS) (o : (Int32 × Int32 × Int32 × mS) ⊕ (Int32 × mS)) : Prop := match o with
  | .inl (x1, x5, x6, S) => LG280_218 xt ct a ra d q x1 x5 x6 S
  | .inr r => r = q
def B280_218 (N : Nat) (s : Int32 × Int32 × Int32 × mS) : Option ((Int32 × Int32 × Int32 × mS) ⊕ (Int32 × mS)) :=
  if 0 ≤ (s.2.1).toInt ∧ (s.2.1).toInt < mN 15 then
  bif mj_c2 .ge s.2.2.1 (s.2.2.2.2.1 15 (s.2.1).toInt.toNat) then
    some (.inr (1, s.2.2.2))
  else
  if 0 ≤ (s.2.1).toInt ∧ (s.2.1).toInt < mN 14 then
  if 0 ≤ ((((160 * s.1) + (s.2.2.2.2.1 14 (s.2.1).toInt.toNat)) + s.2.2.1)).toInt ∧ ((((160 * s.1) + (s.2.2.2.2.1 14 (s.2.1).toInt.toNat)) + s.2.2.1)).toInt < mN 20 then
  (M282 N (s.2.2.2.2.1 20 ((((160 * s.1) + (s.2.2.2.2.1 14 (s.2.1).toInt.toNat)) + s.2.2.1)).toInt.toNat) 1 s.2.2.2).bind fun r64 =>
  some (.inl (s.1, s.2.1, (s.2.2.1 + 1), r64))
  else none
  else none
  else none
def L280_218 (N : Nat) (s : Int32 × Int32 × Int32 × mS) : Option (Int32 × mS) := t_lp (B280_218 N) N s
theorem B280_218_ok {xt : mj_X} {ct : Nat → Value} {a : Nat} {ra : Nat → Nat} {d N : Nat} {s : Int32 × Int32 × Int32 × mS} {o : (Int32 × Int32 × Int32 × mS) ⊕ (Int32 × mS)} {q : Int32 × mS} (e : B280_218 N s = some o) (g : GG280_218 xt ct a ra d q o) : LG280_218 xt ct a ra d q s.1 s.2.1 s.2.2.1 s.2.2.2 := by
  unfold B280_218 at e
  exact (fun l h0 h1 h5 h6 =>
  M_of (fun _ _ H => r_iload c280_218 h6 <| r_aloadn c280_220 h0 <| H) <|
  M_geta (j := 15) c280_221 (by decide) <|
  M_of (fun _ _ H => r_iload c280_224 h5 <| H) <|
  t_ck e fun i56 e57 =>
  M_iald (j := 15) (v := (s.2.2.2.2.1 15 (s.2.1).toInt.toNat)) c280_226 (by decide) i56 rfl <|
  t_if e57 (fun b58 e59 =>
    M_of (fun _ _ H => r_icmpT c280_227 b58 <| H) <|
    M_of (fun _ _ H => r_iconst c280_262 <| H) <|
    t_rg e59 g (fun (e : (1, s.2.2.2) = q) => M_ri (e) (fun _ => r_iret c280_263 rfl))
  ) (fun b58 e59 =>
    M_of (fun _ _ H => r_icmpF c280_227 b58 <| H) <|
    M_of (fun _ _ H => r_aloadn c280_230 h0 <| r_aloadn c280_231 h0 <| H) <|
    M_geta (j := 20) c280_232 (by decide) <|
    M_of (fun _ _ H => r_sipush c280_235 <| r_iloadn c280_238 h1 <| r_imul c280_239 rfl <| r_aloadn c280_240 h0 <| H) <|
    M_geta (j := 14) c280_241 (by decide) <|
    M_of (fun _ _ H => r_iload c280_244 h5 <| H) <|
    t_ck e59 fun i60 e61 =>
    M_iald (j := 14) (v := (s.2.2.2.2.1 14 (s.2.1).toInt.toNat)) c280_246 (by decide) i60 rfl <|
    M_of (fun _ _ H => r_iadd c280_247 rfl <| r_iload c280_248 h6 <| r_iadd c280_250 rfl <| H) <|
    t_ck e61 fun i62 e63 =>
    M_iald (j := 20) (v := (s.2.2.2.2.1 20 ((((160 * s.1) + (s.2.2.2.2.1 14 (s.2.1).toInt.toNat)) + s.2.2.1)).toInt.toNat)) c280_251 (by decide) i62 rfl <|
    M_of (fun _ _ H => r_lconst c280_252 <| H) <|
    t_bd e63 fun r64 c65 e66 =>
    M_cv (as := [.ref a, .int (s.2.2.2.2.1 20 ((((160 * s.1) + (s.2.2.2.2.1 14 (s.2.1).toInt.toNat)) + s.2.2.1)).toInt.toNat), .long 1]) (st' := []) (v := none) c280_253 rfl ⟨Nat.le_of_ble_eq_true rfl, Nat.le_of_ble_eq_true rfl, Nat.le_of_ble_eq_true rfl⟩ rfl rfl (M282_ok (d := d) c65) (Nat.add_lt_add_left (by decide) d) <|
    M_of (fun _ _ H => r_iinc c280_256 h6 <| r_goto c280_259 <| H) <|
    t_rg e66 g (fun (e : LG280_218 xt ct a ra d q s.1 s.2.1 (s.2.2.1 + 1) r64) => e _ (ld1_ne h0 (by decide) (Or.inl (by decide))) (ld1_ne h1 (by decide) (Or.inl (by decide))) (ld1_ne h5 (by decide) (Or.inr rfl)) ld1_eq)
  ))
theorem L280_218_ok {xt : mj_X} {ct : Nat → Value} {a : Nat} {ra : Nat → Nat} {d N : Nat} {x1 : Int32} {x5 : Int32} {x6 : Int32} {S : mS} {q : Int32 × mS} (e : L280_218 N (x1, x5, x6, S) = some q) : LG280_218 xt ct a ra d q x1 x5 x6 S :=
  t_lp_ok (G := fun s => LG280_218 xt ct a ra d q s.1 s.2.1 s.2.2.1 s.2.2.2) (fun s s' e g => B280_218_ok e (by obtain ⟨_, _, _, _⟩ := s'; exact g)) (fun s e => B280_218_ok e rfl) N (x1, x5, x6, S) e
/-- lay(IIII)Z -/
def M280 (N : Nat) (x1 : Int32) (x2 : Int32) (x3 : Int32) (x4 : Int32) (S : mS) : Option (Int32 × mS) :=
  if 0 ≤ (((160 * x1) + x2)).toInt ∧ (((160 * x1) + x2)).toInt < mN 13 then
  bif mj_c2 .eq (S.2.1 13 (((160 * x1) + x2)).toInt.toNat) 0 then
    (M281 N S).bind fun r5 =>
    if 0 ≤ (((160 * x1) + x2)).toInt ∧ (((160 * x1) + x2)).toInt < mN 14 then
    (M282 N (r5.2.1 14 (((160 * x1) + x2)).toInt.toNat) 1 r5).bind fun r10 =>
    some (1, r10)
    else none
  else
  bif mj_c2 .eq (S.2.1 13 (((160 * x1) + x2)).toInt.toNat) 1 then
    (M281 N S).bind fun r15 =>
    if 0 ≤ (((160 * x1) + x2)).toInt ∧ (((160 * x1) + x2)).toInt < mN 14 then
    if 0 ≤ ((((384 * x3) + (6 * x4)) + (r15.2.1 14 (((160 * x1) + x2)).toInt.toNat))).toInt ∧ ((((384 * x3) + (6 * x4)) + (r15.2.1 14 (((160 * x1) + x2)).toInt.toNat))).toInt < mN 47 then
    (M282 N (r15.2.1 47 ((((384 * x3) + (6 * x4)) + (r15.2.1 14 (((160 * x1) + x2)).toInt.toNat))).toInt.toNat) 1 r15).bind fun r22 =>
    some (1, r22)
    else none
    else none
  else
  bif mj_c2 .eq (S.2.1 13 (((160 * x1) + x2)).toInt.toNat) 2 then
    if 0 ≤ (((S.1 44) - 1)).toInt ∧ (((S.1 44) - 1)).toInt < mN 43 then
    L280_122 N ((S.2.1 43 (((S.1 44) - 1)).toInt.toNat), S)
    else none
  else
  bif mj_c2 .eq (S.2.1 13 (((160 * x1) + x2)).toInt.toNat) 4 then
    (M281 N S).bind fun r37 =>
    L280_161 N (((160 * x1) + x2), 0, r37)
  else
  bif mj_c2 .eq (S.2.1 13 (((160 * x1) + x2)).toInt.toNat) 5 then
    (M281 N S).bind fun r53 =>
    L280_218 N (x1, ((160 * x1) + x2), 0, r53)
  else
  if 0 ≤ (((160 * x1) + x2)).toInt ∧ (((160 * x1) + x2)).toInt < mN 14 then
  (M283 N (S.2.1 14 (((160 * x1) + x2)).toInt.toNat) S).bind fun r69 =>
  if r69.1 = 0 ∨ r69.1 = 1 then
  some (r69.1, r69.2)
  else none
  else none
  else none
theorem M280_ok {xt : mj_X} {ct : Nat → Value} {a : Nat} {ra : Nat → Nat} {d N : Nat} {x1 : Int32} {x2 : Int32} {x3 : Int32} {x4 : Int32} {S : mS} {q : Int32 × mS} (e : M280 N x1 x2 x3 x4 S = some q) : MR xt ct a ra (d + 4) 280 0 (lv_args 0 [.ref a, .int x1, .int x2, .int x3, .int x4]) [] S (.inl (some (.int q.1))) q.2 := by
  unfold M280 at e
  exact (
  M_of (fun _ _ H => r_sipush c280_0 <| r_iloadn c280_3 rfl <| r_imul c280_4 rfl <| r_iloadn c280_5 rfl <| r_iadd c280_6 rfl <| r_istore c280_7 <| r_aloadn c280_9 (ld1_ne rfl (by decide) (Or.inl (by decide))) <| H) <|
  M_geta (j := 13) c280_10 (by decide) <|
  M_of (fun _ _ H => r_iload c280_13 ld1_eq <| H) <|
  t_ck e fun i1 e2 =>
  M_iald (j := 13) (v := (S.2.1 13 (((160 * x1) + x2)).toInt.toNat)) c280_15 (by decide) i1 rfl <|
  t_if e2 (fun b3 e4 =>
    M_sw c280_16_0 b3 <|
    M_of (fun _ _ H => r_aloadn c280_56 (ld1_ne rfl (by decide) (Or.inl (by decide))) <| H) <|
    t_bd e4 fun r5 c6 e7 =>
    M_cv (as := [.ref a]) (st' := []) (v := none) c280_57 rfl ⟨Nat.le_of_ble_eq_true rfl, Nat.le_of_ble_eq_true rfl, Nat.le_of_ble_eq_true rfl⟩ rfl rfl (M281_ok (d := d) c6) (Nat.add_lt_add_left (by decide) d) <|
    M_of (fun _ _ H => r_aloadn c280_60 (ld1_ne rfl (by decide) (Or.inl (by decide))) <| r_aloadn c280_61 (ld1_ne rfl (by decide) (Or.inl (by decide))) <| H) <|
    M_geta (j := 14) c280_62 (by decide) <|
    M_of (fun _ _ H => r_iload c280_65 ld1_eq <| H) <|
    t_ck e7 fun i8 e9 =>
    M_iald (j := 14) (v := (r5.2.1 14 (((160 * x1) + x2)).toInt.toNat)) c280_67 (by decide) i8 rfl <|
    M_of (fun _ _ H => r_lconst c280_68 <| H) <|
    t_bd e9 fun r10 c11 e12 =>
    M_cv (as := [.ref a, .int (r5.2.1 14 (((160 * x1) + x2)).toInt.toNat), .long 1]) (st' := []) (v := none) c280_69 rfl ⟨Nat.le_of_ble_eq_true rfl, Nat.le_of_ble_eq_true rfl, Nat.le_of_ble_eq_true rfl⟩ rfl rfl (M282_ok (d := d) c11) (Nat.add_lt_add_left (by decide) d) <|
    M_of (fun _ _ H => r_iconst c280_72 <| H) <|
    M_ri (Option.some.inj e12) (fun _ => r_iret c280_73 rfl)
  ) (fun b3 e4 =>
  t_if e4 (fun b13 e14 =>
    M_sw c280_16_1 b13 <|
    M_of (fun _ _ H => r_aloadn c280_74 (ld1_ne rfl (by decide) (Or.inl (by decide))) <| H) <|
    t_bd e14 fun r15 c16 e17 =>
    M_cv (as := [.ref a]) (st' := []) (v := none) c280_75 rfl ⟨Nat.le_of_ble_eq_true rfl, Nat.le_of_ble_eq_true rfl, Nat.le_of_ble_eq_true rfl⟩ rfl rfl (M281_ok (d := d) c16) (Nat.add_lt_add_left (by decide) d) <|
    M_of (fun _ _ H => r_aloadn c280_78 (ld1_ne rfl (by decide) (Or.inl (by decide))) <| r_aloadn c280_79 (ld1_ne rfl (by decide) (Or.inl (by decide))) <| H) <|
    M_geta (j := 47) c280_80 (by decide) <|
    M_of (fun _ _ H => r_sipush c280_83 <| r_iloadn c280_86 (ld1_ne rfl (by decide) (Or.inl (by decide))) <| r_imul c280_87 rfl <| r_bipush c280_88 <| r_iload c280_90 (ld1_ne rfl (by decide) (Or.inr rfl)) <| r_imul c280_92 rfl <| r_iadd c280_93 rfl <| r_aloadn c280_94 (ld1_ne rfl (by decide) (Or.inl (by decide))) <| H) <|
    M_geta (j := 14) c280_95 (by decide) <|
    M_of (fun _ _ H => r_iload c280_98 ld1_eq <| H) <|
    t_ck e17 fun i18 e19 =>
    M_iald (j := 14) (v := (r15.2.1 14 (((160 * x1) + x2)).toInt.toNat)) c280_100 (by decide) i18 rfl <|
    M_of (fun _ _ H => r_iadd c280_101 rfl <| H) <|
    t_ck e19 fun i20 e21 =>
    M_iald (j := 47) (v := (r15.2.1 47 ((((384 * x3) + (6 * x4)) + (r15.2.1 14 (((160 * x1) + x2)).toInt.toNat))).toInt.toNat)) c280_102 (by decide) i20 rfl <|
    M_of (fun _ _ H => r_lconst c280_103 <| H) <|
    t_bd e21 fun r22 c23 e24 =>
    M_cv (as := [.ref a, .int (r15.2.1 47 ((((384 * x3) + (6 * x4)) + (r15.2.1 14 (((160 * x1) + x2)).toInt.toNat))).toInt.toNat), .long 1]) (st' := []) (v := none) c280_104 rfl ⟨Nat.le_of_ble_eq_true rfl, Nat.le_of_ble_eq_true rfl, Nat.le_of_ble_eq_true rfl⟩ rfl rfl (M282_ok (d := d) c23) (Nat.add_lt_add_left (by decide) d) <|
    M_of (fun _ _ H => r_iconst c280_107 <| H) <|
    M_ri (Option.some.inj e24) (fun _ => r_iret c280_108 rfl)
  ) (fun b13 e14 =>
  t_if e14 (fun b25 e26 =>
    M_sw c280_16_2 b25 <|
    M_of (fun _ _ H => r_aloadn c280_109 (ld1_ne rfl (by decide) (Or.inl (by decide))) <| H) <|
    M_geta (j := 43) c280_110 (by decide) <|
    M_of (fun _ _ H => r_aloadn c280_113 (ld1_ne rfl (by decide) (Or.inl (by decide))) <| H) <|
    M_get (v := (S.1 44)) c280_114 (by decide) rfl <|
    M_of (fun _ _ H => r_iconst c280_117 <| r_isub c280_118 rfl <| H) <|
    t_ck e26 fun i27 e28 =>
    M_iald (j := 43) (v := (S.2.1 43 (((S.1 44) - 1)).toInt.toNat)) c280_119 (by decide) i27 rfl <|
    M_of (fun _ _ H => r_istore c280_120 <| H) <|
    L280_122_ok e28 _ (ld1_ne (ld1_ne rfl (by decide) (Or.inl (by decide))) (by decide) (Or.inl (by decide))) ld1_eq
  ) (fun b25 e26 =>
  t_if e26 (fun b35 e36 =>
    M_sw c280_16_4 b35 <|
    M_of (fun _ _ H => r_aloadn c280_154 (ld1_ne rfl (by decide) (Or.inl (by decide))) <| H) <|
    t_bd e36 fun r37 c38 e39 =>
    M_cv (as := [.ref a]) (st' := []) (v := none) c280_155 rfl ⟨Nat.le_of_ble_eq_true rfl, Nat.le_of_ble_eq_true rfl, Nat.le_of_ble_eq_true rfl⟩ rfl rfl (M281_ok (d := d) c38) (Nat.add_lt_add_left (by decide) d) <|
    M_of (fun _ _ H => r_iconst c280_158 <| r_istore c280_159 <| H) <|
    L280_161_ok e39 _ (ld1_ne (ld1_ne rfl (by decide) (Or.inl (by decide))) (by decide) (Or.inl (by decide))) (ld1_ne ld1_eq (by decide) (Or.inr rfl)) ld1_eq
  ) (fun b35 e36 =>
  t_if e36 (fun b51 e52 =>
    M_sw c280_16_5 b51 <|
    M_of (fun _ _ H => r_aloadn c280_211 (ld1_ne rfl (by decide) (Or.inl (by decide))) <| H) <|
    t_bd e52 fun r53 c54 e55 =>
    M_cv (as := [.ref a]) (st' := []) (v := none) c280_212 rfl ⟨Nat.le_of_ble_eq_true rfl, Nat.le_of_ble_eq_true rfl, Nat.le_of_ble_eq_true rfl⟩ rfl rfl (M281_ok (d := d) c54) (Nat.add_lt_add_left (by decide) d) <|
    M_of (fun _ _ H => r_iconst c280_215 <| r_istore c280_216 <| H) <|
    L280_218_ok e55 _ (ld1_ne (ld1_ne rfl (by decide) (Or.inl (by decide))) (by decide) (Or.inl (by decide))) (ld1_ne (ld1_ne rfl (by decide) (Or.inl (by decide))) (by decide) (Or.inl (by decide))) (ld1_ne ld1_eq (by decide) (Or.inr rfl)) ld1_eq
  ) (fun b51 e52 =>
    M_of (fun _ _ H => r_sw (c280_16_d b3 b13 b25 b35 b51) <| H) <|
    M_of (fun _ _ H => r_aloadn c280_264 (ld1_ne rfl (by decide) (Or.inl (by decide))) <| r_aloadn c280_265 (ld1_ne rfl (by decide) (Or.inl (by decide))) <| H) <|
    M_geta (j := 14) c280_266 (by decide) <|
    M_of (fun _ _ H => r_iload c280_269 ld1_eq <| H) <|
    t_ck e52 fun i67 e68 =>
    M_iald (j := 14) (v := (S.2.1 14 (((160 * x1) + x2)).toInt.toNat)) c280_271 (by decide) i67 rfl <|
    t_bd e68 fun r69 c70 e71 =>
    M_cv (as := [.ref a, .int (S.2.1 14 (((160 * x1) + x2)).toInt.toNat)]) (st' := [.int r69.1]) (v := (some (.int r69.1))) c280_272 rfl ⟨Nat.le_of_ble_eq_true rfl, Nat.le_of_ble_eq_true rfl, Nat.le_of_ble_eq_true rfl⟩ rfl rfl (M283_ok (d := d) c70) (Nat.add_lt_add_left (by decide) d) <|
    t_ck e71 fun z72 e73 =>
    M_ri (Option.some.inj e73) (fun _ => r_iret c280_275 (m_z1 z72))
  ))))))
def LG279_26 (xt : mj_X) (ct : Nat → Value) (a : Nat) (ra : Nat → Nat) (d : Nat) (q : Int32 × mS) (x1 : Int32) (x2 : Int32) (x3 : Int32) (x4 : Int32) (x5 : Int32) (x6 : Int32) (S : mS) : Prop := ∀ l, mj_ld l 0 = some (.ref a) → mj_ld l 1 = some (.int x1) → mj_ld l 2 = some (.int x2) → mj_ld l 3 = some (.int x3) → mj_ld l 4 = some (.int x4) → mj_ld l 5 = some (.int x5) → mj_ld l 6 = some (.int x6) → MR xt ct a ra (d + 5) 279 26 l [] S (.inl (some (.int q.1))) q.2
def GG279_26 (xt : mj_X) (ct : Nat → Value) (a : Nat) (ra : Nat → Nat) (d : Nat) (q : Int32 × mS) (o : (Int32 × Int32 × Int32 × Int32 × Int32 × Int32 × mS) ⊕ (Int32 × mS)) : Prop := match o with
  | .inl (x1, x2, x3, x4, x5, x6, S) => LG279_26 xt ct a ra d q x1 x2 x3 x4 x5 x6 S
  | .inr r => r = q
def J279_75 (N : Nat) (x5 : Int32)  (S : mS) : Option (Int32 × mS) :=
  if x5 = 0 ∨ x5 = 1 then
  some (x5, S)
  else none
theorem J279_75_ok {xt : mj_X} {ct : Nat → Value} {a : Nat} {ra : Nat → Nat} {d N : Nat} {l : mj_L} {x5 : Int32}  {S : mS} {q : Int32 × mS} (h0 : mj_ld l 0 = some (.ref a)) (h5 : mj_ld l 5 = some (.int x5)) (e : J279_75 N x5  S = some q) : MR xt ct a ra (d + 5) 279 75 l [] S (.inl (some (.int q.1))) q.2 := by
  unfold J279_75 at e
  exact (
  M_of (fun _ _ H => r_iload c279_75 h5 <| H) <|
  t_ck e fun z9 e10 =>
  M_ri (Option.some.inj e10) (fun _ => r_iret c279_77 (m_z1 z9)))
def J279_65 (N : Nat) (x5 : Int32)  (S : mS) : Option (Int32 × mS) :=
  bif mj_c1 .ne x5 then
    J279_75 N x5 S
  else
  J279_75 N x5 (m_sV S 51 (-1))
theorem J279_65_ok {xt : mj_X} {ct : Nat → Value} {a : Nat} {ra : Nat → Nat} {d N : Nat} {l : mj_L} {x5 : Int32}  {S : mS} {q : Int32 × mS} (h0 : mj_ld l 0 = some (.ref a)) (h5 : mj_ld l 5 = some (.int x5)) (e : J279_65 N x5  S = some q) : MR xt ct a ra (d + 5) 279 65 l [] S (.inl (some (.int q.1))) q.2 := by
  unfold J279_65 at e
  exact (
  M_of (fun _ _ H => r_iload c279_65 h5 <| H) <|
  t_if e (fun b7 e8 =>
    M_of (fun _ _ H => r_ifT c279_67 b7 <| H) <|
    J279_75_ok h0 h5 e8
  ) (fun b7 e8 =>
    M_of (fun _ _ H => r_ifF c279_67 b7 <| H) <|
    M_of (fun _ _ H => r_aloadn c279_70 h0 <| r_iconst c279_71 <| H) <|
    M_put c279_72 (by decide) <|
    J279_75_ok h0 h5 e8
  ))
def B279_26 (N : Nat) (s : Int32 × Int32 × Int32 × Int32 × Int32 × Int32 × mS) : Option ((Int32 × Int32 × Int32 × Int32 × Int32 × Int32 × mS) ⊕ (Int32 × mS)) :=
  if 0 ≤ (((24 * s.1) + s.2.1)).toInt ∧ (((24 * s.1) + s.2.1)).toInt < mN 9 then
  bif mj_c2 .gt s.2.2.2.2.2.1 (s.2.2.2.2.2.2.2.1 9 (((24 * s.1) + s.2.1)).toInt.toNat) then
    (J279_65 N s.2.2.2.2.1 s.2.2.2.2.2.2).map Sum.inr
  else
  bif mj_c1 .eq s.2.2.2.2.1 then
    (J279_65 N s.2.2.2.2.1 s.2.2.2.2.2.2).map Sum.inr
  else
  (M280 N s.1 s.2.2.2.2.2.1 s.2.2.1 s.2.2.2.1 s.2.2.2.2.2.2).bind fun r21 =>
  some (.inl (s.1, s.2.1, s.2.2.1, s.2.2.2.1, r21.1, (s.2.2.2.2.2.1 + 1), r21.2))
  else none
def L279_26 (N : Nat) (s : Int32 × Int32 × Int32 × Int32 × Int32 × Int32 × mS) : Option (Int32 × mS) := t_lp (B279_26 N) N s
theorem B279_26_ok {xt : mj_X} {ct : Nat → Value} {a : Nat} {ra : Nat → Nat} {d N : Nat} {s : Int32 × Int32 × Int32 × Int32 × Int32 × Int32 × mS} {o : (Int32 × Int32 × Int32 × Int32 × Int32 × Int32 × mS) ⊕ (Int32 × mS)} {q : Int32 × mS} (e : B279_26 N s = some o) (g : GG279_26 xt ct a ra d q o) : LG279_26 xt ct a ra d q s.1 s.2.1 s.2.2.1 s.2.2.2.1 s.2.2.2.2.1 s.2.2.2.2.2.1 s.2.2.2.2.2.2 := by
  unfold B279_26 at e
  exact (fun l h0 h1 h2 h3 h4 h5 h6 =>
  M_of (fun _ _ H => r_iload c279_26 h6 <| r_aloadn c279_28 h0 <| H) <|
  M_geta (j := 9) c279_29 (by decide) <|
  M_of (fun _ _ H => r_bipush c279_32 <| r_iloadn c279_34 h1 <| r_imul c279_35 rfl <| r_iloadn c279_36 h2 <| r_iadd c279_37 rfl <| H) <|
  t_ck e fun i3 e4 =>
  M_iald (j := 9) (v := (s.2.2.2.2.2.2.2.1 9 (((24 * s.1) + s.2.1)).toInt.toNat)) c279_38 (by decide) i3 rfl <|
  t_if e4 (fun b5 e6 =>
    M_of (fun _ _ H => r_icmpT c279_39 b5 <| H) <|
    t_up e6 fun o11 e12 u13 =>
    (fun (g14 : o11 = q) =>
    by subst g14; exact (J279_65_ok h0 h5 e12)
    ) (by have := g; rw [u13] at this; exact this)
  ) (fun b5 e6 =>
    M_of (fun _ _ H => r_icmpF c279_39 b5 <| H) <|
    M_of (fun _ _ H => r_iload c279_42 h5 <| H) <|
    t_if e6 (fun b15 e16 =>
      M_of (fun _ _ H => r_ifT c279_44 b15 <| H) <|
      t_up e16 fun o17 e18 u19 =>
      (fun (g20 : o17 = q) =>
      by subst g20; exact (J279_65_ok h0 h5 e18)
      ) (by have := g; rw [u19] at this; exact this)
    ) (fun b15 e16 =>
      M_of (fun _ _ H => r_ifF c279_44 b15 <| H) <|
      M_of (fun _ _ H => r_aloadn c279_47 h0 <| r_iloadn c279_48 h1 <| r_iload c279_49 h6 <| r_iloadn c279_51 h3 <| r_iload c279_52 h4 <| H) <|
      t_bd e16 fun r21 c22 e23 =>
      M_cv (as := [.ref a, .int s.1, .int s.2.2.2.2.2.1, .int s.2.2.1, .int s.2.2.2.1]) (st' := [.int r21.1]) (v := (some (.int r21.1))) c279_54 rfl ⟨Nat.le_of_ble_eq_true rfl, Nat.le_of_ble_eq_true rfl, Nat.le_of_ble_eq_true rfl⟩ rfl rfl (M280_ok (d := d) c22) (Nat.add_lt_add_left (by decide) d) <|
      M_of (fun _ _ H => r_istore c279_57 <| r_iinc c279_59 (ld1_ne h6 (by decide) (Or.inl (by decide))) <| r_goto c279_62 <| H) <|
      t_rg e23 g (fun (e : LG279_26 xt ct a ra d q s.1 s.2.1 s.2.2.1 s.2.2.2.1 r21.1 (s.2.2.2.2.2.1 + 1) r21.2) => e _ (ld1_ne (ld1_ne h0 (by decide) (Or.inl (by decide))) (by decide) (Or.inl (by decide))) (ld1_ne (ld1_ne h1 (by decide) (Or.inl (by decide))) (by decide) (Or.inl (by decide))) (ld1_ne (ld1_ne h2 (by decide) (Or.inl (by decide))) (by decide) (Or.inl (by decide))) (ld1_ne (ld1_ne h3 (by decide) (Or.inl (by decide))) (by decide) (Or.inl (by decide))) (ld1_ne (ld1_ne h4 (by decide) (Or.inr rfl)) (by decide) (Or.inl (by decide))) (ld1_ne ld1_eq (by decide) (Or.inr rfl)) ld1_eq)
    )
  ))
theorem L279_26_ok {xt : mj_X} {ct : Nat → Value} {a : Nat} {ra : Nat → Nat} {d N : Nat} {x1 : Int32} {x2 : Int32} {x3 : Int32} {x4 : Int32} {x5 : Int32} {x6 : Int32} {S : mS} {q : Int32 × mS} (e : L279_26 N (x1, x2, x3, x4, x5, x6, S) = some q) : LG279_26 xt ct a ra d q x1 x2 x3 x4 x5 x6 S :=
  t_lp_ok (G := fun s => LG279_26 xt ct a ra d q s.1 s.2.1 s.2.2.1 s.2.2.2.1 s.2.2.2.2.1 s.2.2.2.2.2.1 s.2.2.2.2.2.2) (fun s s' e g => B279_26_ok e (by obtain ⟨_, _, _, _, _, _, _⟩ := s'; exact g)) (fun s e => B279_26_ok e rfl) N (x1, x2, x3, x4, x5, x6, S) e
/-- work(IIII)Z -/
def M279 (N : Nat) (x1 : Int32) (x2 : Int32) (x3 : Int32) (x4 : Int32) (S : mS) : Option (Int32 × mS) :=
  if 0 ≤ (((24 * x1) + x2)).toInt ∧ (((24 * x1) + x2)).toInt < mN 8 then
  L279_26 N (x1, x2, x3, x4, 1, (S.2.1 8 (((24 * x1) + x2)).toInt.toNat), (m_sV (m_sV S 44 0) 45 0))
  else none
theorem M279_ok {xt : mj_X} {ct : Nat → Value} {a : Nat} {ra : Nat → Nat} {d N : Nat} {x1 : Int32} {x2 : Int32} {x3 : Int32} {x4 : Int32} {S : mS} {q : Int32 × mS} (e : M279 N x1 x2 x3 x4 S = some q) : MR xt ct a ra (d + 5) 279 0 (lv_args 0 [.ref a, .int x1, .int x2, .int x3, .int x4]) [] S (.inl (some (.int q.1))) q.2 := by
  unfold M279 at e
  exact (
  M_of (fun _ _ H => r_aloadn c279_0 rfl <| r_iconst c279_1 <| H) <|
  M_put c279_2 (by decide) <|
  M_of (fun _ _ H => r_aloadn c279_5 rfl <| r_iconst c279_6 <| H) <|
  M_put c279_7 (by decide) <|
  M_of (fun _ _ H => r_iconst c279_10 <| r_istore c279_11 <| r_aloadn c279_13 (ld1_ne rfl (by decide) (Or.inl (by decide))) <| H) <|
  M_geta (j := 8) c279_14 (by decide) <|
  M_of (fun _ _ H => r_bipush c279_17 <| r_iloadn c279_19 (ld1_ne rfl (by decide) (Or.inl (by decide))) <| r_imul c279_20 rfl <| r_iloadn c279_21 (ld1_ne rfl (by decide) (Or.inl (by decide))) <| r_iadd c279_22 rfl <| H) <|
  t_ck e fun i1 e2 =>
  M_iald (j := 8) (v := (S.2.1 8 (((24 * x1) + x2)).toInt.toNat)) c279_23 (by decide) i1 rfl <|
  M_of (fun _ _ H => r_istore c279_24 <| H) <|
  L279_26_ok e2 _ (ld1_ne (ld1_ne rfl (by decide) (Or.inl (by decide))) (by decide) (Or.inl (by decide))) (ld1_ne (ld1_ne rfl (by decide) (Or.inl (by decide))) (by decide) (Or.inl (by decide))) (ld1_ne (ld1_ne rfl (by decide) (Or.inl (by decide))) (by decide) (Or.inl (by decide))) (ld1_ne (ld1_ne rfl (by decide) (Or.inl (by decide))) (by decide) (Or.inl (by decide))) (ld1_ne (ld1_ne rfl (by decide) (Or.inr rfl)) (by decide) (Or.inl (by decide))) (ld1_ne ld1_eq (by decide) (Or.inr rfl)) ld1_eq)
