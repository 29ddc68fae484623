/-- DiceOdds$Minus.<init>(LDiceOdds$Expression;)V -/
def C91 (xt : mj_X) (ct : Nat → Value) (O : OR) (N : Nat) (x0 : Nat) (x1 : Nat) (H : mj_H) : Option (mj_H) :=
  (gFp H x1 df).bind fun r1 =>
  (gC H x0).bind fun k4 =>
  (C92 xt ct O N x0 r1 H).bind fun r7 =>
  (uF r7 x0 6 0 (.ref x1)).bind fun H10 =>
  some H10
theorem C91_ok {xt : mj_X} {ct : Nat → Value} {O : OR} {d N : Nat} (hct : ct 0 = .int 1) (hO : oOK xt ct d O) {x0 : Nat} {x1 : Nat} {H : mj_H} {q : mj_H} (e : C91 xt ct O N x0 x1 H = some q) : mj_Run kY xt ct (d + 2) 91 0 (lv_args 0 [.ref x0, .ref x1]) [] H (.inl none, q) := by
  unfold C91 at e
  exact (
  r_aloadn c91_0 rfl <|
  r_aloadn c91_1 rfl <|
  t_bd e fun r1 c2 e3 =>
  c_gFp (ty := .long) (w := false) c91_2 c91_2_t c2 <|
  t_bd e3 fun k4 c5 e6 =>
  t_bd e6 fun r7 c8 e9 =>
  c_cal (st2 := []) (s_cp (as := [.ref x0, .long r1]) (st' := []) c91_5 rfl c5 ⟨Nat.le_of_ble_eq_true rfl, Nat.le_of_ble_eq_true rfl, Nat.le_of_ble_eq_true rfl⟩ rfl rfl) (C92_ok hct hO c8) (Nat.add_lt_add_left (by decide) d) rfl <|
  r_aloadn c91_8 rfl <|
  r_aloadn c91_9 rfl <|
  t_bd e9 fun H10 c11 e12 =>
  c_uF c91_10 ⟨rfl, rfl⟩ c11 <|
  (by cases e12; exact (r_ret c91_13)))
/-- DiceOdds$Parser.inBrackets(I)LDiceOdds$Expression; -/
def C93 (xt : mj_X) (ct : Nat → Value) (O : OR) (N : Nat) (x0 : Nat) (x1 : Int32) (H : mj_H) : Option (((Nat) ⊕ Nat) × mj_H) :=
  (gK H x0 1).bind fun k1 =>
  (O.2.1 x0 0 x1 H).bind fun r4 =>
  tc (fun z => z) r4 fun v7 =>
  (gK r4.2 x0 1).bind fun k11 =>
  (C94 xt ct O N x0 41 r4.2).bind fun r14 =>
  tc (fun z => z) r14 fun v17 =>
  some (.inl v7, r14.2)
theorem C93_ok {xt : mj_X} {ct : Nat → Value} {O : OR} {d N : Nat} (hct : ct 0 = .int 1) (hO : oOK xt ct d O) {x0 : Nat} {x1 : Int32} {H : mj_H} {q : ((Nat) ⊕ Nat) × mj_H} (e : C93 xt ct O N x0 x1 H = some q) : mj_Run kY xt ct (d + 3) 93 0 (lv_args 0 [.ref x0, .int x1]) [] H (tT vA q.1, q.2) := by
  unfold C93 at e
  exact (
  r_aloadn c93_0 rfl <|
  r_iconst c93_1 <|
  r_iloadn c93_2 rfl <|
  t_bd e fun k1 c2 e3 =>
  t_bd e3 fun r4 c5 e6 =>
  t_tc e6 (fun v7 p8 e9 =>
    c_calT (f := vA) (p := r4) (st2 := [.ref v7]) (s_cv (as := [.ref x0, .int 0, .int x1]) (st' := []) c93_3 rfl (gK_ok c2) ⟨Nat.le_of_ble_eq_true rfl, Nat.le_of_ble_eq_true rfl, Nat.le_of_ble_eq_true rfl⟩ rfl rfl) (hO.2.1 _ _ _ _ _ c5) p8 (Nat.lt_add_of_pos_right (by decide)) rfl <|
    r_astoren c93_6 <|
    r_aloadn c93_7 (ld1_ne rfl (by decide) (Or.inl (by decide))) <|
    r_bipush c93_8 <|
    t_bd e9 fun k11 c12 e13 =>
    t_bd e13 fun r14 c15 e16 =>
    t_tc e16 (fun v17 p18 e19 =>
      c_calT (f := vU) (p := r14) (st2 := []) (s_cv (as := [.ref x0, .int 41]) (st' := []) c93_10 rfl (gK_ok c12) ⟨Nat.le_of_ble_eq_true rfl, Nat.le_of_ble_eq_true rfl, Nat.le_of_ble_eq_true rfl⟩ rfl rfl) (C94_ok hct hO c15) p18 (Nat.add_lt_add_left (by decide) d) rfl <|
      r_aloadn c93_13 ld1_eq <|
      (by cases e19; exact (r_aret c93_14))
    ) (fun x20 p18 e19 =>
      (by cases e19; exact (c_thrT (f := vU) (p := r14) (s_cv (as := [.ref x0, .int 41]) (st' := []) c93_10 rfl (gK_ok c12) ⟨Nat.le_of_ble_eq_true rfl, Nat.le_of_ble_eq_true rfl, Nat.le_of_ble_eq_true rfl⟩ rfl rfl) (C94_ok hct hO c15) p18 (Nat.add_lt_add_left (by decide) d) nh93))
    )
  ) (fun x10 p8 e9 =>
    (by cases e9; exact (c_thrT (f := vA) (p := r4) (s_cv (as := [.ref x0, .int 0, .int x1]) (st' := []) c93_3 rfl (gK_ok c2) ⟨Nat.le_of_ble_eq_true rfl, Nat.le_of_ble_eq_true rfl, Nat.le_of_ble_eq_true rfl⟩ rfl rfl) (hO.2.1 _ _ _ _ _ c5) p8 (Nat.lt_add_of_pos_right (by decide)) nh93))
  ))
def J100_17 (xt : mj_X) (ct : Nat → Value) (O : OR) (N : Nat) (x0 : Nat) (x1 : Int32) (x2 : Int32) (x3 : Int32) (x4 : Int32) (s0 : Int32) (s1 : Int64) (s2 : Nat) (H : mj_H) : Option (mj_H) :=
  (C101 xt ct O N s1 s0 H).bind fun r3 =>
  (gC r3.2 s2).bind fun k6 =>
  (C92 xt ct O N s2 r3.1 r3.2).bind fun r9 =>
  (uF r9 x0 8 4 (rv none)).bind fun H12 =>
  (uF H12 x0 8 0 (.int x1)).bind fun H15 =>
  (uF H15 x0 8 1 (.int x2)).bind fun H18 =>
  if narrow .char (.int x3) = .int x3 ∧ fits .char (.int x3) = true then
  (uF H18 x0 8 2 (.int x3)).bind fun H23 =>
  (uF H23 x0 8 3 (.int x4)).bind fun H26 =>
  some H26
  else none
theorem J100_17_ok {xt : mj_X} {ct : Nat → Value} {O : OR} {d N : Nat} (hct : ct 0 = .int 1) (hO : oOK xt ct d O) {l : mj_L} {x0 : Nat} {x1 : Int32} {x2 : Int32} {x3 : Int32} {x4 : Int32} {s0 : Int32} {s1 : Int64} {s2 : Nat} {H : mj_H} {q : mj_H} (f0 : mj_ld l 0 = some (.ref x0)) (f1 : mj_ld l 1 = some (.int x1)) (f2 : mj_ld l 2 = some (.int x2)) (f3 : mj_ld l 3 = some (.int x3)) (f4 : mj_ld l 4 = some (.int x4)) (e : J100_17 xt ct O N x0 x1 x2 x3 x4 s0 s1 s2 H = some q) : mj_Run kY xt ct (d + 3) 100 17 l [.int s0, .long s1, .ref s2] H (.inl none, q) := by
  unfold J100_17 at e
  exact (
  t_bd e fun r3 c4 e5 =>
  c_cal (st2 := [.long r3.1, .ref s2]) (s_cs (as := [.long s1, .int s0]) (st' := [.ref s2]) c100_17 ⟨Nat.le_of_ble_eq_true rfl, Nat.le_of_ble_eq_true rfl, Nat.le_of_ble_eq_true rfl⟩ rfl rfl) (C101_ok hct hO c4) (Nat.add_lt_add_left (by decide) d) rfl <|
  t_bd e5 fun k6 c7 e8 =>
  t_bd e8 fun r9 c10 e11 =>
  c_cal (st2 := []) (s_cp (as := [.ref s2, .long r3.1]) (st' := []) c100_20 rfl c7 ⟨Nat.le_of_ble_eq_true rfl, Nat.le_of_ble_eq_true rfl, Nat.le_of_ble_eq_true rfl⟩ rfl rfl) (C92_ok hct hO c10) (Nat.add_lt_add_left (by decide) d) rfl <|
  r_aloadn c100_23 f0 <|
  c_nll c100_24 <|
  t_bd e11 fun H12 c13 e14 =>
  c_uF c100_25 (rv_fa _ _) c13 <|
  r_aloadn c100_28 f0 <|
  r_iloadn c100_29 f1 <|
  t_bd e14 fun H15 c16 e17 =>
  c_uF c100_30 ⟨rfl, rfl⟩ c16 <|
  r_aloadn c100_33 f0 <|
  r_iloadn c100_34 f2 <|
  t_bd e17 fun H18 c19 e20 =>
  c_uF c100_35 ⟨rfl, rfl⟩ c19 <|
  r_aloadn c100_38 f0 <|
  r_iloadn c100_39 f3 <|
  t_ck e20 fun z21 e22 =>
  t_bd e22 fun H23 c24 e25 =>
  c_uF c100_40 z21 c24 <|
  r_aloadn c100_43 f0 <|
  r_iload c100_44 f4 <|
  t_bd e25 fun H26 c27 e28 =>
  c_uF c100_46 ⟨rfl, rfl⟩ c27 <|
  (by cases e28; exact (r_ret c100_49)))
/-- DiceOdds$Dice.<init>(IICI)V -/
def C100 (xt : mj_X) (ct : Nat → Value) (O : OR) (N : Nat) (x0 : Nat) (x1 : Int32) (x2 : Int32) (x3 : Int32) (x4 : Int32) (H : mj_H) : Option (mj_H) :=
  bif mj_c2 .ne x3 101 then
    J100_17 xt ct O N x0 x1 x2 x3 x4 x1 (x2 : Int32).toInt64 x0 H
  else
  J100_17 xt ct O N x0 x1 x2 x3 x4 (x4 + 1) (x2 : Int32).toInt64 x0 H
theorem C100_ok {xt : mj_X} {ct : Nat → Value} {O : OR} {d N : Nat} (hct : ct 0 = .int 1) (hO : oOK xt ct d O) {x0 : Nat} {x1 : Int32} {x2 : Int32} {x3 : Int32} {x4 : Int32} {H : mj_H} {q : mj_H} (e : C100 xt ct O N x0 x1 x2 x3 x4 H = some q) : mj_Run kY xt ct (d + 3) 100 0 (lv_args 0 [.ref x0, .int x1, .int x2, .int x3, .int x4]) [] H (.inl none, q) := by
  unfold C100 at e
  exact (
  r_aloadn c100_0 rfl <|
  r_iloadn c100_1 rfl <|
  r_i2l c100_2 rfl <|
  r_iloadn c100_3 rfl <|
  r_bipush c100_4 <|
  t_if e (fun b1 e2 =>
    r_icmpT c100_6 b1 <|
    r_iloadn c100_16 rfl <|
    J100_17_ok hct hO rfl rfl rfl rfl rfl e2
  ) (fun b1 e2 =>
    r_icmpF c100_6 b1 <|
    r_iload c100_9 rfl <|
    r_iconst c100_11 <|
    r_iadd c100_12 rfl <|
    r_goto c100_13 <|
    J100_17_ok hct hO rfl rfl rfl rfl rfl e2
  ))
def J98_82 (xt : mj_X) (ct : Nat → Value) (O : OR) (N : Nat) (x0 : Nat) (x1 : Int32) (x2 : Int32) (x3 : Int32) (H : mj_H) : Option (((Nat) ⊕ Nat) × mj_H) :=
  (gI H x0 1 3).bind fun r31 =>
  (uF H x0 1 3 (.int (r31 + 1))).bind fun H34 =>
  (nO H34 8 6 [.int 0, .int 0, .int 0, .int 0, .null, .long 0]).bind fun r37 =>
  (gK r37.2 x0 1).bind fun k40 =>
  (C99 xt ct O N x0 1 x1 r37.2).bind fun r43 =>
  tc (fun z => z) r43 fun v46 =>
  (gC r43.2 r37.1).bind fun k50 =>
  (C100 xt ct O N r37.1 x1 x2 x3 v46 r43.2).bind fun r53 =>
  some (.inl r37.1, r53)
theorem J98_82_ok {xt : mj_X} {ct : Nat → Value} {O : OR} {d N : Nat} (hct : ct 0 = .int 1) (hO : oOK xt ct d O) {l : mj_L} {x0 : Nat} {x1 : Int32} {x2 : Int32} {x3 : Int32} {H : mj_H} {q : ((Nat) ⊕ Nat) × mj_H} (f0 : mj_ld l 0 = some (.ref x0)) (f1 : mj_ld l 1 = some (.int x1)) (f2 : mj_ld l 2 = some (.int x2)) (f3 : mj_ld l 3 = some (.int x3)) (e : J98_82 xt ct O N x0 x1 x2 x3 H = some q) : mj_Run kY xt ct (d + 4) 98 82 l [] H (tT vA q.1, q.2) := by
  unfold J98_82 at e
  exact (
  r_aloadn c98_82 f0 <|
  r_dup c98_83 rfl <|
  t_bd e fun r31 c32 e33 =>
  c_gI c98_84 c32 <|
  r_iconst c98_87 <|
  r_iadd c98_88 rfl <|
  t_bd e33 fun H34 c35 e36 =>
  c_uF c98_89 ⟨rfl, rfl⟩ c35 <|
  t_bd e36 fun r37 c38 e39 =>
  c_new c98_92 c38 <|
  r_dup c98_95 rfl <|
  r_iloadn c98_96 f1 <|
  r_iloadn c98_97 f2 <|
  r_iloadn c98_98 f3 <|
  r_aloadn c98_99 f0 <|
  r_iconst c98_100 <|
  r_iloadn c98_101 f1 <|
  t_bd e39 fun k40 c41 e42 =>
  t_bd e42 fun r43 c44 e45 =>
  t_tc e45 (fun v46 p47 e48 =>
    c_calT (f := vI) (p := r43) (st2 := [.int v46, .int x3, .int x2, .int x1, .ref r37.1, .ref r37.1]) (s_cv (as := [.ref x0, .int 1, .int x1]) (st' := [.int x3, .int x2, .int x1, .ref r37.1, .ref r37.1]) c98_102 rfl (gK_ok c41) ⟨Nat.le_of_ble_eq_true rfl, Nat.le_of_ble_eq_true rfl, Nat.le_of_ble_eq_true rfl⟩ rfl rfl) (C99_ok hct hO c44) p47 (Nat.add_lt_add_left (by decide) d) rfl <|
    t_bd e48 fun k50 c51 e52 =>
    t_bd e52 fun r53 c54 e55 =>
    c_cal (st2 := [.ref r37.1]) (s_cp (as := [.ref r37.1, .int x1, .int x2, .int x3, .int v46]) (st' := [.ref r37.1]) c98_105 rfl c51 ⟨Nat.le_of_ble_eq_true rfl, Nat.le_of_ble_eq_true rfl, Nat.le_of_ble_eq_true rfl⟩ rfl rfl) (C100_ok hct hO c54) (Nat.add_lt_add_left (by decide) d) rfl <|
    (by cases e55; exact (r_aret c98_108))
  ) (fun x49 p47 e48 =>
    (by cases e48; exact (c_thrT (f := vI) (p := r43) (s_cv (as := [.ref x0, .int 1, .int x1]) (st' := [.int x3, .int x2, .int x1, .ref r37.1, .ref r37.1]) c98_102 rfl (gK_ok c41) ⟨Nat.le_of_ble_eq_true rfl, Nat.le_of_ble_eq_true rfl, Nat.le_of_ble_eq_true rfl⟩ rfl rfl) (C99_ok hct hO c44) p47 (Nat.add_lt_add_left (by decide) d) nh98))
  ))
def J98_36 (xt : mj_X) (ct : Nat → Value) (O : OR) (N : Nat) (x0 : Nat) (x1 : Int32) (x2 : Int32) (x3 : Int32) (s0 : Int32) (s1 : Nat) (H : mj_H) : Option (((Nat) ⊕ Nat) × mj_H) :=
  (gI H x0 1 3).bind fun r69 =>
  (gK H s1 1).bind fun k72 =>
  (C87 xt ct O N s1 s0 r69 H).bind fun r75 =>
  tc (fun z => z) r75 fun v78 =>
  (gI r75.2 x0 1 3).bind fun r82 =>
  (uF r75.2 x0 1 3 (.int (r82 + 1))).bind fun H85 =>
  (nO H85 8 6 [.int 0, .int 0, .int 0, .int 0, .null, .long 0]).bind fun r88 =>
  (gK r88.2 x0 1).bind fun k91 =>
  (C99 xt ct O N x0 1 3 r88.2).bind fun r94 =>
  tc (fun z => z) r94 fun v97 =>
  (gC r94.2 r88.1).bind fun k101 =>
  (C100 xt ct O N r88.1 x1 x2 x3 v97 r94.2).bind fun r104 =>
  some (.inl r88.1, r104)
theorem J98_36_ok {xt : mj_X} {ct : Nat → Value} {O : OR} {d N : Nat} (hct : ct 0 = .int 1) (hO : oOK xt ct d O) {l : mj_L} {x0 : Nat} {x1 : Int32} {x2 : Int32} {x3 : Int32} {s0 : Int32} {s1 : Nat} {H : mj_H} {q : ((Nat) ⊕ Nat) × mj_H} (f0 : mj_ld l 0 = some (.ref x0)) (f1 : mj_ld l 1 = some (.int x1)) (f2 : mj_ld l 2 = some (.int x2)) (f3 : mj_ld l 3 = some (.int x3)) (e : J98_36 xt ct O N x0 x1 x2 x3 s0 s1 H = some q) : mj_Run kY xt ct (d + 4) 98 36 l [.int s0, .ref s1] H (tT vA q.1, q.2) := by
  unfold J98_36 at e
  exact (
  r_aloadn c98_36 f0 <|
  t_bd e fun r69 c70 e71 =>
  c_gI c98_37 c70 <|
  t_bd e71 fun k72 c73 e74 =>
  t_bd e74 fun r75 c76 e77 =>
  t_tc e77 (fun v78 p79 e80 =>
    c_calT (f := vU) (p := r75) (st2 := []) (s_cv (as := [.ref s1, .int s0, .int r69]) (st' := []) c98_40 rfl (gK_ok c73) ⟨Nat.le_of_ble_eq_true rfl, Nat.le_of_ble_eq_true rfl, Nat.le_of_ble_eq_true rfl⟩ rfl rfl) (C87_ok hct hO c76) p79 (Nat.add_lt_add_left (by decide) d) rfl <|
    r_aloadn c98_43 f0 <|
    r_dup c98_44 rfl <|
    t_bd e80 fun r82 c83 e84 =>
    c_gI c98_45 c83 <|
    r_iconst c98_48 <|
    r_iadd c98_49 rfl <|
    t_bd e84 fun H85 c86 e87 =>
    c_uF c98_50 ⟨rfl, rfl⟩ c86 <|
    t_bd e87 fun r88 c89 e90 =>
    c_new c98_53 c89 <|
    r_dup c98_56 rfl <|
    r_iloadn c98_57 f1 <|
    r_iloadn c98_58 f2 <|
    r_iloadn c98_59 f3 <|
    r_aloadn c98_60 f0 <|
    r_iconst c98_61 <|
    r_iconst c98_62 <|
    t_bd e90 fun k91 c92 e93 =>
    t_bd e93 fun r94 c95 e96 =>
    t_tc e96 (fun v97 p98 e99 =>
      c_calT (f := vI) (p := r94) (st2 := [.int v97, .int x3, .int x2, .int x1, .ref r88.1, .ref r88.1]) (s_cv (as := [.ref x0, .int 1, .int 3]) (st' := [.int x3, .int x2, .int x1, .ref r88.1, .ref r88.1]) c98_63 rfl (gK_ok c92) ⟨Nat.le_of_ble_eq_true rfl, Nat.le_of_ble_eq_true rfl, Nat.le_of_ble_eq_true rfl⟩ rfl rfl) (C99_ok hct hO c95) p98 (Nat.add_lt_add_left (by decide) d) rfl <|
      t_bd e99 fun k101 c102 e103 =>
      t_bd e103 fun r104 c105 e106 =>
      c_cal (st2 := [.ref r88.1]) (s_cp (as := [.ref r88.1, .int x1, .int x2, .int x3, .int v97]) (st' := [.ref r88.1]) c98_66 rfl c102 ⟨Nat.le_of_ble_eq_true rfl, Nat.le_of_ble_eq_true rfl, Nat.le_of_ble_eq_true rfl⟩ rfl rfl) (C100_ok hct hO c105) (Nat.add_lt_add_left (by decide) d) rfl <|
      (by cases e106; exact (r_aret c98_69))
    ) (fun x100 p98 e99 =>
      (by cases e99; exact (c_thrT (f := vI) (p := r94) (s_cv (as := [.ref x0, .int 1, .int 3]) (st' := [.int x3, .int x2, .int x1, .ref r88.1, .ref r88.1]) c98_63 rfl (gK_ok c92) ⟨Nat.le_of_ble_eq_true rfl, Nat.le_of_ble_eq_true rfl, Nat.le_of_ble_eq_true rfl⟩ rfl rfl) (C99_ok hct hO c95) p98 (Nat.add_lt_add_left (by decide) d) nh98))
    )
  ) (fun x81 p79 e80 =>
    (by cases e80; exact (c_thrT (f := vU) (p := r75) (s_cv (as := [.ref s1, .int s0, .int r69]) (st' := []) c98_40 rfl (gK_ok c73) ⟨Nat.le_of_ble_eq_true rfl, Nat.le_of_ble_eq_true rfl, Nat.le_of_ble_eq_true rfl⟩ rfl rfl) (C87_ok hct hO c76) p79 (Nat.add_lt_add_left (by decide) d) nh98))
  ))
/-- DiceOdds$Parser.dice(I)LDiceOdds$Expression; -/
def C98 (xt : mj_X) (ct : Nat → Value) (O : OR) (N : Nat) (x0 : Nat) (x1 : Int32) (H : mj_H) : Option (((Nat) ⊕ Nat) × mj_H) :=
  (gK H x0 1).bind fun k1 =>
  (C94 xt ct O N x0 100 H).bind fun r4 =>
  tc (fun z => z) r4 fun v7 =>
  (gK r4.2 x0 1).bind fun k11 =>
  (C99 xt ct O N x0 2 20 r4.2).bind fun r14 =>
  tc (fun z => z) r14 fun v17 =>
  (gK r14.2 x0 1).bind fun k21 =>
  (C84 xt ct O N x0 r14.2).bind fun r24 =>
  bif mj_c2 .ne r24.1 101 then
    bif mj_c2 .eq r24.1 104 then
      J98_82 xt ct O N x0 x1 v17 r24.1 r24.2
    else
    bif mj_c2 .ne r24.1 108 then
      (nO r24.2 8 6 [.int 0, .int 0, .int 0, .int 0, .null, .long 0]).bind fun r58 =>
      (gC r58.2 r58.1).bind fun k61 =>
      (C100 xt ct O N r58.1 x1 v17 97 x1 r58.2).bind fun r64 =>
      some (.inl r58.1, r64)
    else
    J98_82 xt ct O N x0 x1 v17 r24.1 r24.2
  else
  bif mj_c2 .ne x1 1 then
    J98_36 xt ct O N x0 x1 v17 r24.1 0 x0 r24.2
  else
  J98_36 xt ct O N x0 x1 v17 r24.1 1 x0 r24.2
theorem C98_ok {xt : mj_X} {ct : Nat → Value} {O : OR} {d N : Nat} (hct : ct 0 = .int 1) (hO : oOK xt ct d O) {x0 : Nat} {x1 : Int32} {H : mj_H} {q : ((Nat) ⊕ Nat) × mj_H} (e : C98 xt ct O N x0 x1 H = some q) : mj_Run kY xt ct (d + 4) 98 0 (lv_args 0 [.ref x0, .int x1]) [] H (tT vA q.1, q.2) := by
  unfold C98 at e
  exact (
  r_aloadn c98_0 rfl <|
  r_bipush c98_1 <|
  t_bd e fun k1 c2 e3 =>
  t_bd e3 fun r4 c5 e6 =>
  t_tc e6 (fun v7 p8 e9 =>
    c_calT (f := vU) (p := r4) (st2 := []) (s_cv (as := [.ref x0, .int 100]) (st' := []) c98_3 rfl (gK_ok c2) ⟨Nat.le_of_ble_eq_true rfl, Nat.le_of_ble_eq_true rfl, Nat.le_of_ble_eq_true rfl⟩ rfl rfl) (C94_ok hct hO c5) p8 (Nat.add_lt_add_left (by decide) d) rfl <|
    r_aloadn c98_6 rfl <|
    r_iconst c98_7 <|
    r_bipush c98_8 <|
    t_bd e9 fun k11 c12 e13 =>
    t_bd e13 fun r14 c15 e16 =>
    t_tc e16 (fun v17 p18 e19 =>
      c_calT (f := vI) (p := r14) (st2 := [.int v17]) (s_cv (as := [.ref x0, .int 2, .int 20]) (st' := []) c98_10 rfl (gK_ok c12) ⟨Nat.le_of_ble_eq_true rfl, Nat.le_of_ble_eq_true rfl, Nat.le_of_ble_eq_true rfl⟩ rfl rfl) (C99_ok hct hO c15) p18 (Nat.add_lt_add_left (by decide) d) rfl <|
      r_istoren c98_13 <|
      r_aloadn c98_14 (ld1_ne rfl (by decide) (Or.inl (by decide))) <|
      t_bd e19 fun k21 c22 e23 =>
      t_bd e23 fun r24 c25 e26 =>
      c_cal (st2 := [.int r24.1]) (s_cv (as := [.ref x0]) (st' := []) c98_15 rfl (gK_ok c22) ⟨Nat.le_of_ble_eq_true rfl, Nat.le_of_ble_eq_true rfl, Nat.le_of_ble_eq_true rfl⟩ rfl rfl) (C84_ok hct hO c25) (Nat.add_lt_add_left (by decide) d) rfl <|
      r_istoren c98_18 <|
      r_iloadn c98_19 ld1_eq <|
      r_bipush c98_20 <|
      t_if e26 (fun b27 e28 =>
        r_icmpT c98_22 b27 <|
        r_iloadn c98_70 ld1_eq <|
        r_bipush c98_71 <|
        t_if e28 (fun b29 e30 =>
          r_icmpT c98_73 b29 <|
          J98_82_ok hct hO (ld1_ne (ld1_ne rfl (by decide) (Or.inl (by decide))) (by decide) (Or.inl (by decide))) (ld1_ne (ld1_ne rfl (by decide) (Or.inr rfl)) (by decide) (Or.inl (by decide))) (ld1_ne ld1_eq (by decide) (Or.inr rfl)) ld1_eq e30
        ) (fun b29 e30 =>
          r_icmpF c98_73 b29 <|
          r_iloadn c98_76 ld1_eq <|
          r_bipush c98_77 <|
          t_if e30 (fun b56 e57 =>
            r_icmpT c98_79 b56 <|
            t_bd e57 fun r58 c59 e60 =>
            c_new c98_109 c59 <|
            r_dup c98_112 rfl <|
            r_iloadn c98_113 (ld1_ne (ld1_ne rfl (by decide) (Or.inr rfl)) (by decide) (Or.inl (by decide))) <|
            r_iloadn c98_114 (ld1_ne ld1_eq (by decide) (Or.inr rfl)) <|
            r_bipush c98_115 <|
            r_iloadn c98_117 (ld1_ne (ld1_ne rfl (by decide) (Or.inr rfl)) (by decide) (Or.inl (by decide))) <|
            t_bd e60 fun k61 c62 e63 =>
            t_bd e63 fun r64 c65 e66 =>
            c_cal (st2 := [.ref r58.1]) (s_cp (as := [.ref r58.1, .int x1, .int v17, .int 97, .int x1]) (st' := [.ref r58.1]) c98_118 rfl c62 ⟨Nat.le_of_ble_eq_true rfl, Nat.le_of_ble_eq_true rfl, Nat.le_of_ble_eq_true rfl⟩ rfl rfl) (C100_ok hct hO c65) (Nat.add_lt_add_left (by decide) d) rfl <|
            (by cases e66; exact (r_aret c98_121))
          ) (fun b56 e57 =>
            r_icmpF c98_79 b56 <|
            J98_82_ok hct hO (ld1_ne (ld1_ne rfl (by decide) (Or.inl (by decide))) (by decide) (Or.inl (by decide))) (ld1_ne (ld1_ne rfl (by decide) (Or.inr rfl)) (by decide) (Or.inl (by decide))) (ld1_ne ld1_eq (by decide) (Or.inr rfl)) ld1_eq e57
          )
        )
      ) (fun b27 e28 =>
        r_icmpF c98_22 b27 <|
        r_aloadn c98_25 (ld1_ne (ld1_ne rfl (by decide) (Or.inl (by decide))) (by decide) (Or.inl (by decide))) <|
        r_iloadn c98_26 (ld1_ne (ld1_ne rfl (by decide) (Or.inr rfl)) (by decide) (Or.inl (by decide))) <|
        r_iconst c98_27 <|
        t_if e28 (fun b67 e68 =>
          r_icmpT c98_28 b67 <|
          r_iconst c98_35 <|
          J98_36_ok hct hO (ld1_ne (ld1_ne rfl (by decide) (Or.inl (by decide))) (by decide) (Or.inl (by decide))) (ld1_ne (ld1_ne rfl (by decide) (Or.inr rfl)) (by decide) (Or.inl (by decide))) (ld1_ne ld1_eq (by decide) (Or.inr rfl)) ld1_eq e68
        ) (fun b67 e68 =>
          r_icmpF c98_28 b67 <|
          r_iconst c98_31 <|
          r_goto c98_32 <|
          J98_36_ok hct hO (ld1_ne (ld1_ne rfl (by decide) (Or.inl (by decide))) (by decide) (Or.inl (by decide))) (ld1_ne (ld1_ne rfl (by decide) (Or.inr rfl)) (by decide) (Or.inl (by decide))) (ld1_ne ld1_eq (by decide) (Or.inr rfl)) ld1_eq e68
        )
      )
    ) (fun x20 p18 e19 =>
      (by cases e19; exact (c_thrT (f := vI) (p := r14) (s_cv (as := [.ref x0, .int 2, .int 20]) (st' := []) c98_10 rfl (gK_ok c12) ⟨Nat.le_of_ble_eq_true rfl, Nat.le_of_ble_eq_true rfl, Nat.le_of_ble_eq_true rfl⟩ rfl rfl) (C99_ok hct hO c15) p18 (Nat.add_lt_add_left (by decide) d) nh98))
    )
  ) (fun x10 p8 e9 =>
    (by cases e9; exact (c_thrT (f := vU) (p := r4) (s_cv (as := [.ref x0, .int 100]) (st' := []) c98_3 rfl (gK_ok c2) ⟨Nat.le_of_ble_eq_true rfl, Nat.le_of_ble_eq_true rfl, Nat.le_of_ble_eq_true rfl⟩ rfl rfl) (C94_ok hct hO c5) p8 (Nat.add_lt_add_left (by decide) d) nh98))
  ))
/-- java.util.Arrays.copyOf([II)[I -/
def C105 (xt : mj_X) (ct : Nat → Value) (O : OR) (N : Nat) (x0 : Nat) (x1 : Int32) (H : mj_H) : Option ((Nat) × mj_H) :=
  (aN xt H x0).bind fun r1 =>
  bif mj_c2 .ne x1 r1 then
    (nA H .int x1).bind fun r6 =>
    (aN xt r6.2 x0).bind fun r9 =>
    (C21 xt ct O N r9 x1 r6.2).bind fun r12 =>
    (cY r12.2 x0 0 r6.1 0 r12.1).bind fun H15 =>
    some (r6.1, H15)
  else
  (cLn 7 H x0).bind fun r18 =>
  (cKc 3 r18.2 r18.1).bind fun r21 =>
  some (r18.1, r18.2)
theorem C105_ok {xt : mj_X} {ct : Nat → Value} {O : OR} {d N : Nat} (hct : ct 0 = .int 1) (hO : oOK xt ct d O) {x0 : Nat} {x1 : Int32} {H : mj_H} {q : (Nat) × mj_H} (e : C105 xt ct O N x0 x1 H = some q) : mj_Run kY xt ct (d + 2) 105 0 (lv_args 0 [.ref x0, .int x1]) [] H (.inl (vA q.1), q.2) := by
  unfold C105 at e
  exact (
  r_iloadn c105_0 rfl <|
  r_aloadn c105_1 rfl <|
  t_bd e fun r1 c2 e3 =>
  c_len c105_2 c2 <|
  t_if e3 (fun b4 e5 =>
    r_icmpT c105_3 b4 <|
    r_iloadn c105_14 rfl <|
    t_bd e5 fun r6 c7 e8 =>
    c_nA c105_15 c7 <|
    r_astoren c105_17 <|
    r_aloadn c105_18 (ld1_ne rfl (by decide) (Or.inl (by decide))) <|
    r_iconst c105_19 <|
    r_aloadn c105_20 ld1_eq <|
    r_iconst c105_21 <|
    r_aloadn c105_22 (ld1_ne rfl (by decide) (Or.inl (by decide))) <|
    t_bd e8 fun r9 c10 e11 =>
    c_len c105_23 c10 <|
    r_iloadn c105_24 (ld1_ne rfl (by decide) (Or.inr rfl)) <|
    t_bd e11 fun r12 c13 e14 =>
    c_cal (st2 := [.int r12.1, .int 0, .ref r6.1, .int 0, .ref x0]) (s_cs (as := [.int r9, .int x1]) (st' := [.int 0, .ref r6.1, .int 0, .ref x0]) c105_25 ⟨Nat.le_of_ble_eq_true rfl, Nat.le_of_ble_eq_true rfl, Nat.le_of_ble_eq_true rfl⟩ rfl rfl) (C21_ok hct hO c13) (Nat.add_lt_add_left (by decide) d) rfl <|
    t_bd e14 fun H15 c16 e17 =>
    c_cpy c105_28 (Nat.le_of_ble_eq_true rfl) c16 <|
    r_aloadn c105_31 ld1_eq <|
    (by cases e17; exact (r_aret c105_32))
  ) (fun b4 e5 =>
    r_icmpF c105_3 b4 <|
    r_aloadn c105_6 rfl <|
    t_bd e5 fun r18 c19 e20 =>
    c_cln c105_7 (Nat.le_of_ble_eq_true rfl) c19 <|
    t_bd e20 fun r21 c22 e23 =>
    c_cck c105_10 c22 <|
    (by cases e23; exact (r_aret c105_13))
  ))
/-- DiceOdds$Row.<init>([I)V -/
def C106 (xt : mj_X) (ct : Nat → Value) (O : OR) (N : Nat) (x0 : Nat) (x1 : Nat) (H : mj_H) : Option (mj_H) :=
  (aN xt H x1).bind fun r1 =>
  (gC H x0).bind fun k4 =>
  (C92 xt ct O N x0 (r1 : Int32).toInt64 H).bind fun r7 =>
  (uF r7 x0 9 0 (.ref x1)).bind fun H10 =>
  some H10
theorem C106_ok {xt : mj_X} {ct : Nat → Value} {O : OR} {d N : Nat} (hct : ct 0 = .int 1) (hO : oOK xt ct d O) {x0 : Nat} {x1 : Nat} {H : mj_H} {q : mj_H} (e : C106 xt ct O N x0 x1 H = some q) : mj_Run kY xt ct (d + 2) 106 0 (lv_args 0 [.ref x0, .ref x1]) [] H (.inl none, q) := by
  unfold C106 at e
  exact (
  r_aloadn c106_0 rfl <|
  r_aloadn c106_1 rfl <|
  t_bd e fun r1 c2 e3 =>
  c_len c106_2 c2 <|
  r_i2l c106_3 rfl <|
  t_bd e3 fun k4 c5 e6 =>
  t_bd e6 fun r7 c8 e9 =>
  c_cal (st2 := []) (s_cp (as := [.ref x0, .long (r1 : Int32).toInt64]) (st' := []) c106_4 rfl c5 ⟨Nat.le_of_ble_eq_true rfl, Nat.le_of_ble_eq_true rfl, Nat.le_of_ble_eq_true rfl⟩ rfl rfl) (C92_ok hct hO c8) (Nat.add_lt_add_left (by decide) d) rfl <|
  r_aloadn c106_7 rfl <|
  r_aloadn c106_8 rfl <|
  t_bd e9 fun H10 c11 e12 =>
  c_uF c106_9 ⟨rfl, rfl⟩ c11 <|
  (by cases e12; exact (r_ret c106_12)))
def LG104_22 (xt : mj_X) (ct : Nat → Value) (d : Nat) (q : ((Nat) ⊕ Nat) × mj_H) (x0 : Nat) (x1 : Int32) (H : mj_H) : Prop := ∀ l, mj_ld l 0 = some (.ref x0) → mj_ld l 1 = some (.int x1) → mj_Run kY xt ct (d + 3) 104 22 l [] H (tT vA q.1, q.2)
def GG104_22 (xt : mj_X) (ct : Nat → Value) (d : Nat) (q : ((Nat) ⊕ Nat) × mj_H) (o : (Nat × Int32 × mj_H) ⊕ (((Nat) ⊕ Nat) × mj_H)) : Prop := match o with
  | .inl (x0, x1, H) => LG104_22 xt ct d q x0 x1 H
  | .inr r => r = q
def J104_67 (xt : mj_X) (ct : Nat → Value) (O : OR) (N : Nat) (x0 : Nat) (x1 : Int32) (H : mj_H) : Option (((Nat) ⊕ Nat) × mj_H) :=
  (gK H x0 1).bind fun k29 =>
  (C94 xt ct O N x0 93 H).bind fun r32 =>
  tc (fun z => z) r32 fun v35 =>
  (nO r32.2 9 2 [.null, .long 0]).bind fun r39 =>
  (gA r39.2 x0 1 1).bind fun r42 =>
  (C105 xt ct O N r42 x1 r39.2).bind fun r45 =>
  (gC r45.2 r39.1).bind fun k48 =>
  (C106 xt ct O N r39.1 r45.1 r45.2).bind fun r51 =>
  some (.inl r39.1, r51)
theorem J104_67_ok {xt : mj_X} {ct : Nat → Value} {O : OR} {d N : Nat} (hct : ct 0 = .int 1) (hO : oOK xt ct d O) {l : mj_L} {x0 : Nat} {x1 : Int32} {H : mj_H} {q : ((Nat) ⊕ Nat) × mj_H} (f0 : mj_ld l 0 = some (.ref x0)) (f1 : mj_ld l 1 = some (.int x1)) (e : J104_67 xt ct O N x0 x1 H = some q) : mj_Run kY xt ct (d + 3) 104 67 l [] H (tT vA q.1, q.2) := by
  unfold J104_67 at e
  exact (
  r_aloadn c104_67 f0 <|
  r_bipush c104_68 <|
  t_bd e fun k29 c30 e31 =>
  t_bd e31 fun r32 c33 e34 =>
  t_tc e34 (fun v35 p36 e37 =>
    c_calT (f := vU) (p := r32) (st2 := []) (s_cv (as := [.ref x0, .int 93]) (st' := []) c104_70 rfl (gK_ok c30) ⟨Nat.le_of_ble_eq_true rfl, Nat.le_of_ble_eq_true rfl, Nat.le_of_ble_eq_true rfl⟩ rfl rfl) (C94_ok hct hO c33) p36 (Nat.add_lt_add_left (by decide) d) rfl <|
    t_bd e37 fun r39 c40 e41 =>
    c_new c104_73 c40 <|
    r_dup c104_76 rfl <|
    r_aloadn c104_77 f0 <|
    t_bd e41 fun r42 c43 e44 =>
    c_gA c104_78 c43 <|
    r_iloadn c104_81 f1 <|
    t_bd e44 fun r45 c46 e47 =>
    c_cal (st2 := [.ref r45.1, .ref r39.1, .ref r39.1]) (s_cs (as := [.ref r42, .int x1]) (st' := [.ref r39.1, .ref r39.1]) c104_82 ⟨Nat.le_of_ble_eq_true rfl, Nat.le_of_ble_eq_true rfl, Nat.le_of_ble_eq_true rfl⟩ rfl rfl) (C105_ok hct hO c46) (Nat.add_lt_add_left (by decide) d) rfl <|
    t_bd e47 fun k48 c49 e50 =>
    t_bd e50 fun r51 c52 e53 =>
    c_cal (st2 := [.ref r39.1]) (s_cp (as := [.ref r39.1, .ref r45.1]) (st' := [.ref r39.1]) c104_85 rfl c49 ⟨Nat.le_of_ble_eq_true rfl, Nat.le_of_ble_eq_true rfl, Nat.le_of_ble_eq_true rfl⟩ rfl rfl) (C106_ok hct hO c52) (Nat.add_lt_add_left (by decide) d) rfl <|
    (by cases e53; exact (r_aret c104_88))
  ) (fun x38 p36 e37 =>
    (by cases e37; exact (c_thrT (f := vU) (p := r32) (s_cv (as := [.ref x0, .int 93]) (st' := []) c104_70 rfl (gK_ok c30) ⟨Nat.le_of_ble_eq_true rfl, Nat.le_of_ble_eq_true rfl, Nat.le_of_ble_eq_true rfl⟩ rfl rfl) (C94_ok hct hO c33) p36 (Nat.add_lt_add_left (by decide) d) nh104))
  ))
def B104_22 (xt : mj_X) (ct : Nat → Value) (O : OR) (N : Nat) (s : Nat × Int32 × mj_H) : Option ((Nat × Int32 × mj_H) ⊕ (((Nat) ⊕ Nat) × mj_H)) :=
  bif mj_c2 .ge s.2.1 8 then
    (J104_67 xt ct O N s.1 s.2.1 s.2.2).map Sum.inr
  else
  (gK s.2.2 s.1 1).bind fun k58 =>
  (C84 xt ct O N s.1 s.2.2).bind fun r61 =>
  bif mj_c2 .ne r61.1 44 then
    (J104_67 xt ct O N s.1 s.2.1 r61.2).map Sum.inr
  else
  (gI r61.2 s.1 1 3).bind fun r70 =>
  (uF r61.2 s.1 1 3 (.int (r70 + 1))).bind fun H73 =>
  (gA H73 s.1 1 1).bind fun r76 =>
  (gK H73 s.1 1).bind fun k79 =>
  (C99 xt ct O N s.1 0 999 H73).bind fun r82 =>
  tc (fun z => (.inr z)) r82 fun v85 =>
  (sN .int r82.2 r76 s.2.1 v85).bind fun H89 =>
  some (.inl (s.1, (s.2.1 + 1), H89))
def L104_22 (xt : mj_X) (ct : Nat → Value) (O : OR) (N : Nat) (s : Nat × Int32 × mj_H) : Option (((Nat) ⊕ Nat) × mj_H) := t_lp (B104_22 xt ct O N) N s
theorem B104_22_ok {xt : mj_X} {ct : Nat → Value} {O : OR} {d N : Nat} (hct : ct 0 = .int 1) (hO : oOK xt ct d O) {s : Nat × Int32 × mj_H} {o : (Nat × Int32 × mj_H) ⊕ (((Nat) ⊕ Nat) × mj_H)} {q : ((Nat) ⊕ Nat) × mj_H} (e : B104_22 xt ct O N s = some o) (g : GG104_22 xt ct d q o) : LG104_22 xt ct d q s.1 s.2.1 s.2.2 := by
  unfold B104_22 at e
  exact (fun l f0 f1 =>
  r_iloadn c104_22 f1 <|
  r_bipush c104_23 <|
  t_if e (fun b27 e28 =>
    r_icmpT c104_25 b27 <|
    t_up e28 fun o54 e55 u56 =>
    (fun (g57 : o54 = q) =>
    by subst g57; exact (J104_67_ok hct hO f0 f1 e55)
    ) (by have := g; rw [u56] at this; exact this)
  ) (fun b27 e28 =>
    r_icmpF c104_25 b27 <|
    r_aloadn c104_28 f0 <|
    t_bd e28 fun k58 c59 e60 =>
    t_bd e60 fun r61 c62 e63 =>
    c_cal (st2 := [.int r61.1]) (s_cv (as := [.ref s.1]) (st' := []) c104_29 rfl (gK_ok c59) ⟨Nat.le_of_ble_eq_true rfl, Nat.le_of_ble_eq_true rfl, Nat.le_of_ble_eq_true rfl⟩ rfl rfl) (C84_ok hct hO c62) (Nat.add_lt_add_left (by decide) d) rfl <|
    r_bipush c104_32 <|
    t_if e63 (fun b64 e65 =>
      r_icmpT c104_34 b64 <|
      t_up e65 fun o66 e67 u68 =>
      (fun (g69 : o66 = q) =>
      by subst g69; exact (J104_67_ok hct hO f0 f1 e67)
      ) (by have := g; rw [u68] at this; exact this)
    ) (fun b64 e65 =>
      r_icmpF c104_34 b64 <|
      r_aloadn c104_37 f0 <|
      r_dup c104_38 rfl <|
      t_bd e65 fun r70 c71 e72 =>
      c_gI c104_39 c71 <|
      r_iconst c104_42 <|
      r_iadd c104_43 rfl <|
      t_bd e72 fun H73 c74 e75 =>
      c_uF c104_44 ⟨rfl, rfl⟩ c74 <|
      r_aloadn c104_47 f0 <|
      t_bd e75 fun r76 c77 e78 =>
      c_gA c104_48 c77 <|
      r_iloadn c104_51 f1 <|
      r_aloadn c104_52 f0 <|
      r_iconst c104_53 <|
      r_sipush c104_54 <|
      t_bd e78 fun k79 c80 e81 =>
      t_bd e81 fun r82 c83 e84 =>
      t_tc e84 (fun v85 p86 e87 =>
        c_calT (f := vI) (p := r82) (st2 := [.int v85, .int s.2.1, .ref r76]) (s_cv (as := [.ref s.1, .int 0, .int 999]) (st' := [.int s.2.1, .ref r76]) c104_57 rfl (gK_ok c80) ⟨Nat.le_of_ble_eq_true rfl, Nat.le_of_ble_eq_true rfl, Nat.le_of_ble_eq_true rfl⟩ rfl rfl) (C99_ok hct hO c83) p86 (Nat.add_lt_add_left (by decide) d) rfl <|
        t_bd e87 fun H89 c90 e91 =>
        c_sI c104_60 c90 <|
        r_iinc c104_61 f1 <|
        r_goto c104_64 <|
        t_rg e91 g (fun (z : LG104_22 xt ct d q s.1 (s.2.1 + 1) H89) => z _ (ld1_ne f0 (by decide) (Or.inr rfl)) ld1_eq)
      ) (fun x88 p86 e87 =>
        t_rg e87 g (fun (z : (Sum.inr x88, r82.2) = q) => (by cases z; exact (c_thrT (f := vI) (p := r82) (s_cv (as := [.ref s.1, .int 0, .int 999]) (st' := [.int s.2.1, .ref r76]) c104_57 rfl (gK_ok c80) ⟨Nat.le_of_ble_eq_true rfl, Nat.le_of_ble_eq_true rfl, Nat.le_of_ble_eq_true rfl⟩ rfl rfl) (C99_ok hct hO c83) p86 (Nat.add_lt_add_left (by decide) d) nh104)))
      )
    )
  ))
theorem L104_22_ok {xt : mj_X} {ct : Nat → Value} {O : OR} {d N : Nat} (hct : ct 0 = .int 1) (hO : oOK xt ct d O) {x0 : Nat} {x1 : Int32} {H : mj_H} {q : ((Nat) ⊕ Nat) × mj_H} (e : L104_22 xt ct O N (x0, x1, H) = some q) : LG104_22 xt ct d q x0 x1 H :=
  t_lp_ok (G := fun s => LG104_22 xt ct d q s.1 s.2.1 s.2.2) (fun s s' e g => B104_22_ok hct hO e (by obtain ⟨_, _, _⟩ := s'; exact g)) (fun s e => B104_22_ok hct hO e rfl) N (x0, x1, H) e
/-- DiceOdds$Parser.row()LDiceOdds$Expression; -/
def C104 (xt : mj_X) (ct : Nat → Value) (O : OR) (N : Nat) (x0 : Nat) (H : mj_H) : Option (((Nat) ⊕ Nat) × mj_H) :=
  (gK H x0 1).bind fun k1 =>
  (C94 xt ct O N x0 91 H).bind fun r4 =>
  tc (fun z => z) r4 fun v7 =>
  (gA r4.2 x0 1 1).bind fun r11 =>
  (gK r4.2 x0 1).bind fun k14 =>
  (C99 xt ct O N x0 0 999 r4.2).bind fun r17 =>
  tc (fun z => z) r17 fun v20 =>
  (sN .int r17.2 r11 0 v20).bind fun H24 =>
  L104_22 xt ct O N (x0, 1, H24)
theorem C104_ok {xt : mj_X} {ct : Nat → Value} {O : OR} {d N : Nat} (hct : ct 0 = .int 1) (hO : oOK xt ct d O) {x0 : Nat} {H : mj_H} {q : ((Nat) ⊕ Nat) × mj_H} (e : C104 xt ct O N x0 H = some q) : mj_Run kY xt ct (d + 3) 104 0 (lv_args 0 [.ref x0]) [] H (tT vA q.1, q.2) := by
  unfold C104 at e
  exact (
  r_aloadn c104_0 rfl <|
  r_bipush c104_1 <|
  t_bd e fun k1 c2 e3 =>
  t_bd e3 fun r4 c5 e6 =>
  t_tc e6 (fun v7 p8 e9 =>
    c_calT (f := vU) (p := r4) (st2 := []) (s_cv (as := [.ref x0, .int 91]) (st' := []) c104_3 rfl (gK_ok c2) ⟨Nat.le_of_ble_eq_true rfl, Nat.le_of_ble_eq_true rfl, Nat.le_of_ble_eq_true rfl⟩ rfl rfl) (C94_ok hct hO c5) p8 (Nat.add_lt_add_left (by decide) d) rfl <|
    r_aloadn c104_6 rfl <|
    t_bd e9 fun r11 c12 e13 =>
    c_gA c104_7 c12 <|
    r_iconst c104_10 <|
    r_aloadn c104_11 rfl <|
    r_iconst c104_12 <|
    r_sipush c104_13 <|
    t_bd e13 fun k14 c15 e16 =>
    t_bd e16 fun r17 c18 e19 =>
    t_tc e19 (fun v20 p21 e22 =>
      c_calT (f := vI) (p := r17) (st2 := [.int v20, .int 0, .ref r11]) (s_cv (as := [.ref x0, .int 0, .int 999]) (st' := [.int 0, .ref r11]) c104_16 rfl (gK_ok c15) ⟨Nat.le_of_ble_eq_true rfl, Nat.le_of_ble_eq_true rfl, Nat.le_of_ble_eq_true rfl⟩ rfl rfl) (C99_ok hct hO c18) p21 (Nat.add_lt_add_left (by decide) d) rfl <|
      t_bd e22 fun H24 c25 e26 =>
      c_sI c104_19 c25 <|
      r_iconst c104_20 <|
      r_istoren c104_21 <|
      L104_22_ok hct hO e26 _ (ld1_ne rfl (by decide) (Or.inr rfl)) ld1_eq
    ) (fun x23 p21 e22 =>
      (by cases e22; exact (c_thrT (f := vI) (p := r17) (s_cv (as := [.ref x0, .int 0, .int 999]) (st' := [.int 0, .ref r11]) c104_16 rfl (gK_ok c15) ⟨Nat.le_of_ble_eq_true rfl, Nat.le_of_ble_eq_true rfl, Nat.le_of_ble_eq_true rfl⟩ rfl rfl) (C99_ok hct hO c18) p21 (Nat.add_lt_add_left (by decide) d) nh104))
    )
  ) (fun x10 p8 e9 =>
    (by cases e9; exact (c_thrT (f := vU) (p := r4) (s_cv (as := [.ref x0, .int 91]) (st' := []) c104_3 rfl (gK_ok c2) ⟨Nat.le_of_ble_eq_true rfl, Nat.le_of_ble_eq_true rfl, Nat.le_of_ble_eq_true rfl⟩ rfl rfl) (C94_ok hct hO c5) p8 (Nat.add_lt_add_left (by decide) d) nh104))
  ))
def J107_52 (xt : mj_X) (ct : Nat → Value) (O : OR) (N : Nat) (x0 : Nat) (x1 : Int32) (x2 : Int32) (s0 : Int32) (s1 : Nat) (H : mj_H) : Option (((Nat) ⊕ Nat) × mj_H) :=
  (gK H s1 1).bind fun k24 =>
  (C87 xt ct O N s1 s0 x1 H).bind fun r27 =>
  tc (fun z => z) r27 fun v30 =>
  (gK r27.2 x0 1).bind fun k34 =>
  (C98 xt ct O N x0 x2 r27.2).bind fun r37 =>
  tc (fun z => z) r37 fun v40 =>
  some (.inl v40, r37.2)
theorem J107_52_ok {xt : mj_X} {ct : Nat → Value} {O : OR} {d N : Nat} (hct : ct 0 = .int 1) (hO : oOK xt ct d O) {l : mj_L} {x0 : Nat} {x1 : Int32} {x2 : Int32} {s0 : Int32} {s1 : Nat} {H : mj_H} {q : ((Nat) ⊕ Nat) × mj_H} (f0 : mj_ld l 0 = some (.ref x0)) (f1 : mj_ld l 1 = some (.int x1)) (f2 : mj_ld l 2 = some (.int x2)) (e : J107_52 xt ct O N x0 x1 x2 s0 s1 H = some q) : mj_Run kY xt ct (d + 5) 107 52 l [.int s0, .ref s1] H (tT vA q.1, q.2) := by
  unfold J107_52 at e
  exact (
  r_iloadn c107_52 f1 <|
  t_bd e fun k24 c25 e26 =>
  t_bd e26 fun r27 c28 e29 =>
  t_tc e29 (fun v30 p31 e32 =>
    c_calT (f := vU) (p := r27) (st2 := []) (s_cv (as := [.ref s1, .int s0, .int x1]) (st' := []) c107_53 rfl (gK_ok c25) ⟨Nat.le_of_ble_eq_true rfl, Nat.le_of_ble_eq_true rfl, Nat.le_of_ble_eq_true rfl⟩ rfl rfl) (C87_ok hct hO c28) p31 (Nat.add_lt_add_left (by decide) d) rfl <|
    r_aloadn c107_56 f0 <|
    r_iloadn c107_57 f2 <|
    t_bd e32 fun k34 c35 e36 =>
    t_bd e36 fun r37 c38 e39 =>
    t_tc e39 (fun v40 p41 e42 =>
      c_calT (f := vA) (p := r37) (st2 := [.ref v40]) (s_cv (as := [.ref x0, .int x2]) (st' := []) c107_58 rfl (gK_ok c35) ⟨Nat.le_of_ble_eq_true rfl, Nat.le_of_ble_eq_true rfl, Nat.le_of_ble_eq_true rfl⟩ rfl rfl) (C98_ok hct hO c38) p41 (Nat.add_lt_add_left (by decide) d) rfl <|
      (by cases e42; exact (r_aret c107_61))
    ) (fun x43 p41 e42 =>
      (by cases e42; exact (c_thrT (f := vA) (p := r37) (s_cv (as := [.ref x0, .int x2]) (st' := []) c107_58 rfl (gK_ok c35) ⟨Nat.le_of_ble_eq_true rfl, Nat.le_of_ble_eq_true rfl, Nat.le_of_ble_eq_true rfl⟩ rfl rfl) (C98_ok hct hO c38) p41 (Nat.add_lt_add_left (by decide) d) nh107))
    )
  ) (fun x33 p31 e32 =>
    (by cases e32; exact (c_thrT (f := vU) (p := r27) (s_cv (as := [.ref s1, .int s0, .int x1]) (st' := []) c107_53 rfl (gK_ok c25) ⟨Nat.le_of_ble_eq_true rfl, Nat.le_of_ble_eq_true rfl, Nat.le_of_ble_eq_true rfl⟩ rfl rfl) (C87_ok hct hO c28) p31 (Nat.add_lt_add_left (by decide) d) nh107))
  ))
def J107_51 (xt : mj_X) (ct : Nat → Value) (O : OR) (N : Nat) (x0 : Nat) (x1 : Int32) (x2 : Int32) (s0 : Nat) (H : mj_H) : Option (((Nat) ⊕ Nat) × mj_H) :=
  J107_52 xt ct O N x0 x1 x2 0 s0 H
theorem J107_51_ok {xt : mj_X} {ct : Nat → Value} {O : OR} {d N : Nat} (hct : ct 0 = .int 1) (hO : oOK xt ct d O) {l : mj_L} {x0 : Nat} {x1 : Int32} {x2 : Int32} {s0 : Nat} {H : mj_H} {q : ((Nat) ⊕ Nat) × mj_H} (f0 : mj_ld l 0 = some (.ref x0)) (f1 : mj_ld l 1 = some (.int x1)) (f2 : mj_ld l 2 = some (.int x2)) (e : J107_51 xt ct O N x0 x1 x2 s0 H = some q) : mj_Run kY xt ct (d + 5) 107 51 l [.ref s0] H (tT vA q.1, q.2) := by
  unfold J107_51 at e
  exact (
  r_iconst c107_51 <|
  J107_52_ok hct hO f0 f1 f2 e)
/-- DiceOdds$Parser.numberOrDice()LDiceOdds$Expression; -/
def C107 (xt : mj_X) (ct : Nat → Value) (O : OR) (N : Nat) (x0 : Nat) (H : mj_H) : Option (((Nat) ⊕ Nat) × mj_H) :=
  (gI H x0 1 3).bind fun r1 =>
  (gK H x0 1).bind fun k4 =>
  (C99 xt ct O N x0 0 999 H).bind fun r7 =>
  tc (fun z => z) r7 fun v10 =>
  (gK r7.2 x0 1).bind fun k14 =>
  (C84 xt ct O N x0 r7.2).bind fun r17 =>
  bif mj_c2 .eq r17.1 100 then
    bif mj_c2 .lt v10 1 then
      J107_51 xt ct O N x0 r1 v10 x0 r17.2
    else
    bif mj_c2 .gt v10 6 then
      J107_51 xt ct O N x0 r1 v10 x0 r17.2
    else
    J107_52 xt ct O N x0 r1 v10 1 x0 r17.2
  else
  (nO r17.2 7 3 [.int 0, .int 0, .long 0]).bind fun r46 =>
  (gC r46.2 r46.1).bind fun k49 =>
  (C97 xt ct O N r46.1 (-1000) v10 r46.2).bind fun r52 =>
  some (.inl r46.1, r52)
theorem C107_ok {xt : mj_X} {ct : Nat → Value} {O : OR} {d N : Nat} (hct : ct 0 = .int 1) (hO : oOK xt ct d O) {x0 : Nat} {H : mj_H} {q : ((Nat) ⊕ Nat) × mj_H} (e : C107 xt ct O N x0 H = some q) : mj_Run kY xt ct (d + 5) 107 0 (lv_args 0 [.ref x0]) [] H (tT vA q.1, q.2) := by
  unfold C107 at e
  exact (
  r_aloadn c107_0 rfl <|
  t_bd e fun r1 c2 e3 =>
  c_gI c107_1 c2 <|
  r_istoren c107_4 <|
  r_aloadn c107_5 (ld1_ne rfl (by decide) (Or.inr rfl)) <|
  r_iconst c107_6 <|
  r_sipush c107_7 <|
  t_bd e3 fun k4 c5 e6 =>
  t_bd e6 fun r7 c8 e9 =>
  t_tc e9 (fun v10 p11 e12 =>
    c_calT (f := vI) (p := r7) (st2 := [.int v10]) (s_cv (as := [.ref x0, .int 0, .int 999]) (st' := []) c107_10 rfl (gK_ok c5) ⟨Nat.le_of_ble_eq_true rfl, Nat.le_of_ble_eq_true rfl, Nat.le_of_ble_eq_true rfl⟩ rfl rfl) (C99_ok hct hO c8) p11 (Nat.add_lt_add_left (by decide) d) rfl <|
    r_istoren c107_13 <|
    r_aloadn c107_14 (ld1_ne (ld1_ne rfl (by decide) (Or.inr rfl)) (by decide) (Or.inl (by decide))) <|
    t_bd e12 fun k14 c15 e16 =>
    t_bd e16 fun r17 c18 e19 =>
    c_cal (st2 := [.int r17.1]) (s_cv (as := [.ref x0]) (st' := []) c107_15 rfl (gK_ok c15) ⟨Nat.le_of_ble_eq_true rfl, Nat.le_of_ble_eq_true rfl, Nat.le_of_ble_eq_true rfl⟩ rfl rfl) (C84_ok hct hO c18) (Nat.add_lt_add_left (by decide) d) rfl <|
    r_bipush c107_18 <|
    t_if e19 (fun b20 e21 =>
      r_icmpT c107_20 b20 <|
      r_aloadn c107_35 (ld1_ne (ld1_ne rfl (by decide) (Or.inr rfl)) (by decide) (Or.inl (by decide))) <|
      r_iloadn c107_36 ld1_eq <|
      r_iconst c107_37 <|
      t_if e21 (fun b22 e23 =>
        r_icmpT c107_38 b22 <|
        J107_51_ok hct hO (ld1_ne (ld1_ne rfl (by decide) (Or.inr rfl)) (by decide) (Or.inl (by decide))) (ld1_ne ld1_eq (by decide) (Or.inr rfl)) ld1_eq e23
      ) (fun b22 e23 =>
        r_icmpF c107_38 b22 <|
        r_iloadn c107_41 ld1_eq <|
        r_bipush c107_42 <|
        t_if e23 (fun b44 e45 =>
          r_icmpT c107_44 b44 <|
          J107_51_ok hct hO (ld1_ne (ld1_ne rfl (by decide) (Or.inr rfl)) (by decide) (Or.inl (by decide))) (ld1_ne ld1_eq (by decide) (Or.inr rfl)) ld1_eq e45
        ) (fun b44 e45 =>
          r_icmpF c107_44 b44 <|
          r_iconst c107_47 <|
          r_goto c107_48 <|
          J107_52_ok hct hO (ld1_ne (ld1_ne rfl (by decide) (Or.inr rfl)) (by decide) (Or.inl (by decide))) (ld1_ne ld1_eq (by decide) (Or.inr rfl)) ld1_eq e45
        )
      )
    ) (fun b20 e21 =>
      r_icmpF c107_20 b20 <|
      t_bd e21 fun r46 c47 e48 =>
      c_new c107_23 c47 <|
      r_dup c107_26 rfl <|
      r_sipush c107_27 <|
      r_iloadn c107_30 ld1_eq <|
      t_bd e48 fun k49 c50 e51 =>
      t_bd e51 fun r52 c53 e54 =>
      c_cal (st2 := [.ref r46.1]) (s_cp (as := [.ref r46.1, .int (-1000), .int v10]) (st' := [.ref r46.1]) c107_31 rfl c50 ⟨Nat.le_of_ble_eq_true rfl, Nat.le_of_ble_eq_true rfl, Nat.le_of_ble_eq_true rfl⟩ rfl rfl) (C97_ok hct hO c53) (Nat.add_lt_add_left (by decide) d) rfl <|
      (by cases e54; exact (r_aret c107_34))
    )
  ) (fun x13 p11 e12 =>
    (by cases e12; exact (c_thrT (f := vI) (p := r7) (s_cv (as := [.ref x0, .int 0, .int 999]) (st' := []) c107_10 rfl (gK_ok c5) ⟨Nat.le_of_ble_eq_true rfl, Nat.le_of_ble_eq_true rfl, Nat.le_of_ble_eq_true rfl⟩ rfl rfl) (C99_ok hct hO c8) p11 (Nat.add_lt_add_left (by decide) d) nh107))
  ))
def J90_75 (xt : mj_X) (ct : Nat → Value) (O : OR) (N : Nat) (s0 : Nat) (H : mj_H) : Option (((Nat) ⊕ Nat) × mj_H) :=
  some (.inl s0, H)
theorem J90_75_ok {xt : mj_X} {ct : Nat → Value} {O : OR} {d N : Nat} (hct : ct 0 = .int 1) (hO : oOK xt ct d O) {l : mj_L} {s0 : Nat} {H : mj_H} {q : ((Nat) ⊕ Nat) × mj_H}  (e : J90_75 xt ct O N s0 H = some q) : mj_Run kY xt ct (d + 6) 90 75 l [.ref s0] H (tT vA q.1, q.2) := by
  unfold J90_75 at e
  exact (
  (by cases e; exact (r_aret c90_75)))
def J90_28 (xt : mj_X) (ct : Nat → Value) (O : OR) (N : Nat) (x0 : Nat) (x1 : Int32) (x2 : Int32) (s0 : Int32) (s1 : Nat) (H : mj_H) : Option (((Nat) ⊕ Nat) × mj_H) :=
  (gI H x0 1 3).bind fun r11 =>
  (gK H s1 1).bind fun k14 =>
  (C87 xt ct O N s1 s0 r11 H).bind fun r17 =>
  tc (fun z => z) r17 fun v20 =>
  (gI r17.2 x0 1 3).bind fun r24 =>
  (uF r17.2 x0 1 3 (.int (r24 + 1))).bind fun H27 =>
  bif mj_c2 .ne x2 45 then
    (gK H27 x0 1).bind fun k32 =>
    (C93 xt ct O N x0 (x1 + 1) H27).bind fun r35 =>
    tc (fun z => z) r35 fun v38 =>
    J90_75 xt ct O N v38 r35.2
  else
  (nO H27 6 2 [.null, .long 0]).bind fun r42 =>
  (gK r42.2 x0 1).bind fun k45 =>
  (O.2.2.1 x0 (x1 + 1) r42.2).bind fun r48 =>
  tc (fun z => z) r48 fun v51 =>
  (gC r48.2 r42.1).bind fun k55 =>
  (C91 xt ct O N r42.1 v51 r48.2).bind fun r58 =>
  J90_75 xt ct O N r42.1 r58
theorem J90_28_ok {xt : mj_X} {ct : Nat → Value} {O : OR} {d N : Nat} (hct : ct 0 = .int 1) (hO : oOK xt ct d O) {l : mj_L} {x0 : Nat} {x1 : Int32} {x2 : Int32} {s0 : Int32} {s1 : Nat} {H : mj_H} {q : ((Nat) ⊕ Nat) × mj_H} (f0 : mj_ld l 0 = some (.ref x0)) (f1 : mj_ld l 1 = some (.int x1)) (f2 : mj_ld l 2 = some (.int x2)) (e : J90_28 xt ct O N x0 x1 x2 s0 s1 H = some q) : mj_Run kY xt ct (d + 6) 90 28 l [.int s0, .ref s1] H (tT vA q.1, q.2) := by
  unfold J90_28 at e
  exact (
  r_aloadn c90_28 f0 <|
  t_bd e fun r11 c12 e13 =>
  c_gI c90_29 c12 <|
  t_bd e13 fun k14 c15 e16 =>
  t_bd e16 fun r17 c18 e19 =>
  t_tc e19 (fun v20 p21 e22 =>
    c_calT (f := vU) (p := r17) (st2 := []) (s_cv (as := [.ref s1, .int s0, .int r11]) (st' := []) c90_32 rfl (gK_ok c15) ⟨Nat.le_of_ble_eq_true rfl, Nat.le_of_ble_eq_true rfl, Nat.le_of_ble_eq_true rfl⟩ rfl rfl) (C87_ok hct hO c18) p21 (Nat.add_lt_add_left (by decide) d) rfl <|
    r_aloadn c90_35 f0 <|
    r_dup c90_36 rfl <|
    t_bd e22 fun r24 c25 e26 =>
    c_gI c90_37 c25 <|
    r_iconst c90_40 <|
    r_iadd c90_41 rfl <|
    t_bd e26 fun H27 c28 e29 =>
    c_uF c90_42 ⟨rfl, rfl⟩ c28 <|
    r_iloadn c90_45 f2 <|
    r_bipush c90_46 <|
    t_if e29 (fun b30 e31 =>
      r_icmpT c90_48 b30 <|
      r_aloadn c90_68 f0 <|
      r_iloadn c90_69 f1 <|
      r_iconst c90_70 <|
      r_iadd c90_71 rfl <|
      t_bd e31 fun k32 c33 e34 =>
      t_bd e34 fun r35 c36 e37 =>
      t_tc e37 (fun v38 p39 e40 =>
        c_calT (f := vA) (p := r35) (st2 := [.ref v38]) (s_cv (as := [.ref x0, .int (x1 + 1)]) (st' := []) c90_72 rfl (gK_ok c33) ⟨Nat.le_of_ble_eq_true rfl, Nat.le_of_ble_eq_true rfl, Nat.le_of_ble_eq_true rfl⟩ rfl rfl) (C93_ok hct hO c36) p39 (Nat.add_lt_add_left (by decide) d) rfl <|
        J90_75_ok hct hO  e40
      ) (fun x41 p39 e40 =>
        (by cases e40; exact (c_thrT (f := vA) (p := r35) (s_cv (as := [.ref x0, .int (x1 + 1)]) (st' := []) c90_72 rfl (gK_ok c33) ⟨Nat.le_of_ble_eq_true rfl, Nat.le_of_ble_eq_true rfl, Nat.le_of_ble_eq_true rfl⟩ rfl rfl) (C93_ok hct hO c36) p39 (Nat.add_lt_add_left (by decide) d) nh90))
      )
    ) (fun b30 e31 =>
      r_icmpF c90_48 b30 <|
      t_bd e31 fun r42 c43 e44 =>
      c_new c90_51 c43 <|
      r_dup c90_54 rfl <|
      r_aloadn c90_55 f0 <|
      r_iloadn c90_56 f1 <|
      r_iconst c90_57 <|
      r_iadd c90_58 rfl <|
      t_bd e44 fun k45 c46 e47 =>
      t_bd e47 fun r48 c49 e50 =>
      t_tc e50 (fun v51 p52 e53 =>
        c_calT (f := vA) (p := r48) (st2 := [.ref v51, .ref r42.1, .ref r42.1]) (s_cv (as := [.ref x0, .int (x1 + 1)]) (st' := [.ref r42.1, .ref r42.1]) c90_59 rfl (gK_ok c46) ⟨Nat.le_of_ble_eq_true rfl, Nat.le_of_ble_eq_true rfl, Nat.le_of_ble_eq_true rfl⟩ rfl rfl) (hO.2.2.1 _ _ _ _ c49) p52 (Nat.lt_add_of_pos_right (by decide)) rfl <|
        t_bd e53 fun k55 c56 e57 =>
        t_bd e57 fun r58 c59 e60 =>
        c_cal (st2 := [.ref r42.1]) (s_cp (as := [.ref r42.1, .ref v51]) (st' := [.ref r42.1]) c90_62 rfl c56 ⟨Nat.le_of_ble_eq_true rfl, Nat.le_of_ble_eq_true rfl, Nat.le_of_ble_eq_true rfl⟩ rfl rfl) (C91_ok hct hO c59) (Nat.add_lt_add_left (by decide) d) rfl <|
        r_goto c90_65 <|
        J90_75_ok hct hO  e60
      ) (fun x54 p52 e53 =>
        (by cases e53; exact (c_thrT (f := vA) (p := r48) (s_cv (as := [.ref x0, .int (x1 + 1)]) (st' := [.ref r42.1, .ref r42.1]) c90_59 rfl (gK_ok c46) ⟨Nat.le_of_ble_eq_true rfl, Nat.le_of_ble_eq_true rfl, Nat.le_of_ble_eq_true rfl⟩ rfl rfl) (hO.2.2.1 _ _ _ _ c49) p52 (Nat.lt_add_of_pos_right (by decide)) nh90))
      )
    )
  ) (fun x23 p21 e22 =>
    (by cases e22; exact (c_thrT (f := vU) (p := r17) (s_cv (as := [.ref s1, .int s0, .int r11]) (st' := []) c90_32 rfl (gK_ok c15) ⟨Nat.le_of_ble_eq_true rfl, Nat.le_of_ble_eq_true rfl, Nat.le_of_ble_eq_true rfl⟩ rfl rfl) (C87_ok hct hO c18) p21 (Nat.add_lt_add_left (by decide) d) nh90))
  ))
def J90_17 (xt : mj_X) (ct : Nat → Value) (O : OR) (N : Nat) (x0 : Nat) (x1 : Int32) (x2 : Int32) (H : mj_H) : Option (((Nat) ⊕ Nat) × mj_H) :=
  bif mj_c2 .ge x1 5 then
    J90_28 xt ct O N x0 x1 x2 0 x0 H
  else
  J90_28 xt ct O N x0 x1 x2 1 x0 H
theorem J90_17_ok {xt : mj_X} {ct : Nat → Value} {O : OR} {d N : Nat} (hct : ct 0 = .int 1) (hO : oOK xt ct d O) {l : mj_L} {x0 : Nat} {x1 : Int32} {x2 : Int32} {H : mj_H} {q : ((Nat) ⊕ Nat) × mj_H} (f0 : mj_ld l 0 = some (.ref x0)) (f1 : mj_ld l 1 = some (.int x1)) (f2 : mj_ld l 2 = some (.int x2)) (e : J90_17 xt ct O N x0 x1 x2 H = some q) : mj_Run kY xt ct (d + 6) 90 17 l [] H (tT vA q.1, q.2) := by
  unfold J90_17 at e
  exact (
  r_aloadn c90_17 f0 <|
  r_iloadn c90_18 f1 <|
  r_iconst c90_19 <|
  t_if e (fun b9 e10 =>
    r_icmpT c90_20 b9 <|
    r_iconst c90_27 <|
    J90_28_ok hct hO f0 f1 f2 e10
  ) (fun b9 e10 =>
    r_icmpF c90_20 b9 <|
    r_iconst c90_23 <|
    r_goto c90_24 <|
    J90_28_ok hct hO f0 f1 f2 e10
  ))
def J90_207 (xt : mj_X) (ct : Nat → Value) (O : OR) (N : Nat) (s0 : Nat) (H : mj_H) : Option (((Nat) ⊕ Nat) × mj_H) :=
  some (.inl s0, H)
theorem J90_207_ok {xt : mj_X} {ct : Nat → Value} {O : OR} {d N : Nat} (hct : ct 0 = .int 1) (hO : oOK xt ct d O) {l : mj_L} {s0 : Nat} {H : mj_H} {q : ((Nat) ⊕ Nat) × mj_H}  (e : J90_207 xt ct O N s0 H = some q) : mj_Run kY xt ct (d + 6) 90 207 l [.ref s0] H (tT vA q.1, q.2) := by
  unfold J90_207 at e
  exact (
  (by cases e; exact (r_aret c90_207)))
def J90_130 (xt : mj_X) (ct : Nat → Value) (O : OR) (N : Nat) (x0 : Nat) (x2 : Int32) (s0 : Int32) (s1 : Nat) (H : mj_H) : Option (((Nat) ⊕ Nat) × mj_H) :=
  (gI H x0 1 3).bind fun r86 =>
  (gK H s1 1).bind fun k89 =>
  (C87 xt ct O N s1 s0 r86 H).bind fun r92 =>
  tc (fun z => z) r92 fun v95 =>
  (gI r92.2 x0 1 5).bind fun r99 =>
  (uF r92.2 x0 1 5 (.int (r99 + 1))).bind fun H102 =>
  (C86 xt ct O N x2 H102).bind fun r105 =>
  bif mj_c1 .eq r105.1 then
    (C95 xt ct O N x2 r105.2).bind fun r110 =>
    bif mj_c1 .eq r110.1 then
      bif mj_c2 .ne x2 100 then
        (gK r110.2 x0 1).bind fun k117 =>
        (C104 xt ct O N x0 r110.2).bind fun r120 =>
        tc (fun z => z) r120 fun v123 =>
        J90_207 xt ct O N v123 r120.2
      else
      (gK r110.2 x0 1).bind fun k127 =>
      (C98 xt ct O N x0 1 r110.2).bind fun r130 =>
      tc (fun z => z) r130 fun v133 =>
      J90_207 xt ct O N v133 r130.2
    else
    (gK r110.2 x0 1).bind fun k137 =>
    (C107 xt ct O N x0 r110.2).bind fun r140 =>
    tc (fun z => z) r140 fun v143 =>
    some (.inl v143, r140.2)
  else
  (gI r105.2 x0 1 3).bind fun r147 =>
  (uF r105.2 x0 1 3 (.int (r147 + 1))).bind fun H150 =>
  (nO H150 7 3 [.int 0, .int 0, .long 0]).bind fun r153 =>
  (gC r153.2 r153.1).bind fun k156 =>
  (C97 xt ct O N r153.1 (x2 - 65) 0 r153.2).bind fun r159 =>
  some (.inl r153.1, r159)
theorem J90_130_ok {xt : mj_X} {ct : Nat → Value} {O : OR} {d N : Nat} (hct : ct 0 = .int 1) (hO : oOK xt ct d O) {l : mj_L} {x0 : Nat} {x2 : Int32} {s0 : Int32} {s1 : Nat} {H : mj_H} {q : ((Nat) ⊕ Nat) × mj_H} (f0 : mj_ld l 0 = some (.ref x0)) (f2 : mj_ld l 2 = some (.int x2)) (e : J90_130 xt ct O N x0 x2 s0 s1 H = some q) : mj_Run kY xt ct (d + 6) 90 130 l [.int s0, .ref s1] H (tT vA q.1, q.2) := by
  unfold J90_130 at e
  exact (
  r_aloadn c90_130 f0 <|
  t_bd e fun r86 c87 e88 =>
  c_gI c90_131 c87 <|
  t_bd e88 fun k89 c90 e91 =>
  t_bd e91 fun r92 c93 e94 =>
  t_tc e94 (fun v95 p96 e97 =>
    c_calT (f := vU) (p := r92) (st2 := []) (s_cv (as := [.ref s1, .int s0, .int r86]) (st' := []) c90_134 rfl (gK_ok c90) ⟨Nat.le_of_ble_eq_true rfl, Nat.le_of_ble_eq_true rfl, Nat.le_of_ble_eq_true rfl⟩ rfl rfl) (C87_ok hct hO c93) p96 (Nat.add_lt_add_left (by decide) d) rfl <|
    r_aloadn c90_137 f0 <|
    r_dup c90_138 rfl <|
    t_bd e97 fun r99 c100 e101 =>
    c_gI c90_139 c100 <|
    r_iconst c90_142 <|
    r_iadd c90_143 rfl <|
    t_bd e101 fun H102 c103 e104 =>
    c_uF c90_144 ⟨rfl, rfl⟩ c103 <|
    r_iloadn c90_147 f2 <|
    t_bd e104 fun r105 c106 e107 =>
    c_cal (st2 := [.int r105.1]) (s_cs (as := [.int x2]) (st' := []) c90_148 ⟨Nat.le_of_ble_eq_true rfl, Nat.le_of_ble_eq_true rfl, Nat.le_of_ble_eq_true rfl⟩ rfl rfl) (C86_ok hct hO c106) (Nat.add_lt_add_left (by decide) d) rfl <|
    t_if e107 (fun b108 e109 =>
      r_ifT c90_151 b108 <|
      r_iloadn c90_177 f2 <|
      t_bd e109 fun r110 c111 e112 =>
      c_cal (st2 := [.int r110.1]) (s_cs (as := [.int x2]) (st' := []) c90_178 ⟨Nat.le_of_ble_eq_true rfl, Nat.le_of_ble_eq_true rfl, Nat.le_of_ble_eq_true rfl⟩ rfl rfl) (C95_ok hct hO c111) (Nat.add_lt_add_left (by decide) d) rfl <|
      t_if e112 (fun b113 e114 =>
        r_ifT c90_181 b113 <|
        r_iloadn c90_189 f2 <|
        r_bipush c90_190 <|
        t_if e114 (fun b115 e116 =>
          r_icmpT c90_192 b115 <|
          r_aloadn c90_203 f0 <|
          t_bd e116 fun k117 c118 e119 =>
          t_bd e119 fun r120 c121 e122 =>
          t_tc e122 (fun v123 p124 e125 =>
            c_calT (f := vA) (p := r120) (st2 := [.ref v123]) (s_cv (as := [.ref x0]) (st' := []) c90_204 rfl (gK_ok c118) ⟨Nat.le_of_ble_eq_true rfl, Nat.le_of_ble_eq_true rfl, Nat.le_of_ble_eq_true rfl⟩ rfl rfl) (C104_ok hct hO c121) p124 (Nat.add_lt_add_left (by decide) d) rfl <|
            J90_207_ok hct hO  e125
          ) (fun x126 p124 e125 =>
            (by cases e125; exact (c_thrT (f := vA) (p := r120) (s_cv (as := [.ref x0]) (st' := []) c90_204 rfl (gK_ok c118) ⟨Nat.le_of_ble_eq_true rfl, Nat.le_of_ble_eq_true rfl, Nat.le_of_ble_eq_true rfl⟩ rfl rfl) (C104_ok hct hO c121) p124 (Nat.add_lt_add_left (by decide) d) nh90))
          )
        ) (fun b115 e116 =>
          r_icmpF c90_192 b115 <|
          r_aloadn c90_195 f0 <|
          r_iconst c90_196 <|
          t_bd e116 fun k127 c128 e129 =>
          t_bd e129 fun r130 c131 e132 =>
          t_tc e132 (fun v133 p134 e135 =>
            c_calT (f := vA) (p := r130) (st2 := [.ref v133]) (s_cv (as := [.ref x0, .int 1]) (st' := []) c90_197 rfl (gK_ok c128) ⟨Nat.le_of_ble_eq_true rfl, Nat.le_of_ble_eq_true rfl, Nat.le_of_ble_eq_true rfl⟩ rfl rfl) (C98_ok hct hO c131) p134 (Nat.add_lt_add_left (by decide) d) rfl <|
            r_goto c90_200 <|
            J90_207_ok hct hO  e135
          ) (fun x136 p134 e135 =>
            (by cases e135; exact (c_thrT (f := vA) (p := r130) (s_cv (as := [.ref x0, .int 1]) (st' := []) c90_197 rfl (gK_ok c128) ⟨Nat.le_of_ble_eq_true rfl, Nat.le_of_ble_eq_true rfl, Nat.le_of_ble_eq_true rfl⟩ rfl rfl) (C98_ok hct hO c131) p134 (Nat.add_lt_add_left (by decide) d) nh90))
          )
        )
      ) (fun b113 e114 =>
        r_ifF c90_181 b113 <|
        r_aloadn c90_184 f0 <|
        t_bd e114 fun k137 c138 e139 =>
        t_bd e139 fun r140 c141 e142 =>
        t_tc e142 (fun v143 p144 e145 =>
          c_calT (f := vA) (p := r140) (st2 := [.ref v143]) (s_cv (as := [.ref x0]) (st' := []) c90_185 rfl (gK_ok c138) ⟨Nat.le_of_ble_eq_true rfl, Nat.le_of_ble_eq_true rfl, Nat.le_of_ble_eq_true rfl⟩ rfl rfl) (C107_ok hct hO c141) p144 (Nat.add_lt_add_left (by decide) d) rfl <|
          (by cases e145; exact (r_aret c90_188))
        ) (fun x146 p144 e145 =>
          (by cases e145; exact (c_thrT (f := vA) (p := r140) (s_cv (as := [.ref x0]) (st' := []) c90_185 rfl (gK_ok c138) ⟨Nat.le_of_ble_eq_true rfl, Nat.le_of_ble_eq_true rfl, Nat.le_of_ble_eq_true rfl⟩ rfl rfl) (C107_ok hct hO c141) p144 (Nat.add_lt_add_left (by decide) d) nh90))
        )
      )
    ) (fun b108 e109 =>
      r_ifF c90_151 b108 <|
      r_aloadn c90_154 f0 <|
      r_dup c90_155 rfl <|
      t_bd e109 fun r147 c148 e149 =>
      c_gI c90_156 c148 <|
      r_iconst c90_159 <|
      r_iadd c90_160 rfl <|
      t_bd e149 fun H150 c151 e152 =>
      c_uF c90_161 ⟨rfl, rfl⟩ c151 <|
      t_bd e152 fun r153 c154 e155 =>
      c_new c90_164 c154 <|
      r_dup c90_167 rfl <|
      r_iloadn c90_168 f2 <|
      r_bipush c90_169 <|
      r_isub c90_171 rfl <|
      r_iconst c90_172 <|
      t_bd e155 fun k156 c157 e158 =>
      t_bd e158 fun r159 c160 e161 =>
      c_cal (st2 := [.ref r153.1]) (s_cp (as := [.ref r153.1, .int (x2 - 65), .int 0]) (st' := [.ref r153.1]) c90_173 rfl c157 ⟨Nat.le_of_ble_eq_true rfl, Nat.le_of_ble_eq_true rfl, Nat.le_of_ble_eq_true rfl⟩ rfl rfl) (C97_ok hct hO c160) (Nat.add_lt_add_left (by decide) d) rfl <|
      (by cases e161; exact (r_aret c90_176))
    )
  ) (fun x98 p96 e97 =>
    (by cases e97; exact (c_thrT (f := vU) (p := r92) (s_cv (as := [.ref s1, .int s0, .int r86]) (st' := []) c90_134 rfl (gK_ok c90) ⟨Nat.le_of_ble_eq_true rfl, Nat.le_of_ble_eq_true rfl, Nat.le_of_ble_eq_true rfl⟩ rfl rfl) (C87_ok hct hO c93) p96 (Nat.add_lt_add_left (by decide) d) nh90))
  ))
def J90_108 (xt : mj_X) (ct : Nat → Value) (O : OR) (N : Nat) (x0 : Nat) (x2 : Int32) (s0 : Int32) (s1 : Nat) (H : mj_H) : Option (((Nat) ⊕ Nat) × mj_H) :=
  (gI H x0 1 3).bind fun r68 =>
  (gK H s1 1).bind fun k71 =>
  (C87 xt ct O N s1 s0 r68 H).bind fun r74 =>
  tc (fun z => z) r74 fun v77 =>
  (gI r74.2 x0 1 5).bind fun r81 =>
  bif mj_c2 .ge r81 40 then
    J90_130 xt ct O N x0 x2 0 x0 r74.2
  else
  J90_130 xt ct O N x0 x2 1 x0 r74.2
theorem J90_108_ok {xt : mj_X} {ct : Nat → Value} {O : OR} {d N : Nat} (hct : ct 0 = .int 1) (hO : oOK xt ct d O) {l : mj_L} {x0 : Nat} {x2 : Int32} {s0 : Int32} {s1 : Nat} {H : mj_H} {q : ((Nat) ⊕ Nat) × mj_H} (f0 : mj_ld l 0 = some (.ref x0)) (f2 : mj_ld l 2 = some (.int x2)) (e : J90_108 xt ct O N x0 x2 s0 s1 H = some q) : mj_Run kY xt ct (d + 6) 90 108 l [.int s0, .ref s1] H (tT vA q.1, q.2) := by
  unfold J90_108 at e
  exact (
  r_aloadn c90_108 f0 <|
  t_bd e fun r68 c69 e70 =>
  c_gI c90_109 c69 <|
  t_bd e70 fun k71 c72 e73 =>
  t_bd e73 fun r74 c75 e76 =>
  t_tc e76 (fun v77 p78 e79 =>
    c_calT (f := vU) (p := r74) (st2 := []) (s_cv (as := [.ref s1, .int s0, .int r68]) (st' := []) c90_112 rfl (gK_ok c72) ⟨Nat.le_of_ble_eq_true rfl, Nat.le_of_ble_eq_true rfl, Nat.le_of_ble_eq_true rfl⟩ rfl rfl) (C87_ok hct hO c75) p78 (Nat.add_lt_add_left (by decide) d) rfl <|
    r_aloadn c90_115 f0 <|
    r_aloadn c90_116 f0 <|
    t_bd e79 fun r81 c82 e83 =>
    c_gI c90_117 c82 <|
    r_bipush c90_120 <|
    t_if e83 (fun b84 e85 =>
      r_icmpT c90_122 b84 <|
      r_iconst c90_129 <|
      J90_130_ok hct hO f0 f2 e85
    ) (fun b84 e85 =>
      r_icmpF c90_122 b84 <|
      r_iconst c90_125 <|
      r_goto c90_126 <|
      J90_130_ok hct hO f0 f2 e85
    )
  ) (fun x80 p78 e79 =>
    (by cases e79; exact (c_thrT (f := vU) (p := r74) (s_cv (as := [.ref s1, .int s0, .int r68]) (st' := []) c90_112 rfl (gK_ok c72) ⟨Nat.le_of_ble_eq_true rfl, Nat.le_of_ble_eq_true rfl, Nat.le_of_ble_eq_true rfl⟩ rfl rfl) (C87_ok hct hO c75) p78 (Nat.add_lt_add_left (by decide) d) nh90))
  ))
def J90_103 (xt : mj_X) (ct : Nat → Value) (O : OR) (N : Nat) (x0 : Nat) (x2 : Int32) (s0 : Nat) (H : mj_H) : Option (((Nat) ⊕ Nat) × mj_H) :=
  J90_108 xt ct O N x0 x2 1 s0 H
theorem J90_103_ok {xt : mj_X} {ct : Nat → Value} {O : OR} {d N : Nat} (hct : ct 0 = .int 1) (hO : oOK xt ct d O) {l : mj_L} {x0 : Nat} {x2 : Int32} {s0 : Nat} {H : mj_H} {q : ((Nat) ⊕ Nat) × mj_H} (f0 : mj_ld l 0 = some (.ref x0)) (f2 : mj_ld l 2 = some (.int x2)) (e : J90_103 xt ct O N x0 x2 s0 H = some q) : mj_Run kY xt ct (d + 6) 90 103 l [.ref s0] H (tT vA q.1, q.2) := by
  unfold J90_103 at e
  exact (
  r_iconst c90_103 <|
  r_goto c90_104 <|
  J90_108_ok hct hO f0 f2 e)
/-- DiceOdds$Parser.operand(I)LDiceOdds$Expression; -/
def C90 (xt : mj_X) (ct : Nat → Value) (O : OR) (N : Nat) (x0 : Nat) (x1 : Int32) (H : mj_H) : Option (((Nat) ⊕ Nat) × mj_H) :=
  (gK H x0 1).bind fun k1 =>
  (C84 xt ct O N x0 H).bind fun r4 =>
  bif mj_c2 .eq r4.1 45 then
    J90_17 xt ct O N x0 x1 r4.1 r4.2
  else
  bif mj_c2 .ne r4.1 40 then
    (C86 xt ct O N r4.1 r4.2).bind fun r63 =>
    bif mj_c1 .ne r63.1 then
      J90_103 xt ct O N x0 r4.1 x0 r63.2
    else
    (C95 xt ct O N r4.1 r63.2).bind fun r162 =>
    bif mj_c1 .ne r162.1 then
      J90_103 xt ct O N x0 r4.1 x0 r162.2
    else
    bif mj_c2 .eq r4.1 100 then
      J90_103 xt ct O N x0 r4.1 x0 r162.2
    else
    bif mj_c2 .ne r4.1 91 then
      J90_108 xt ct O N x0 r4.1 0 x0 r162.2
    else
    J90_103 xt ct O N x0 r4.1 x0 r162.2
  else
  J90_17 xt ct O N x0 x1 r4.1 r4.2
theorem C90_ok {xt : mj_X} {ct : Nat → Value} {O : OR} {d N : Nat} (hct : ct 0 = .int 1) (hO : oOK xt ct d O) {x0 : Nat} {x1 : Int32} {H : mj_H} {q : ((Nat) ⊕ Nat) × mj_H} (e : C90 xt ct O N x0 x1 H = some q) : mj_Run kY xt ct (d + 6) 90 0 (lv_args 0 [.ref x0, .int x1]) [] H (tT vA q.1, q.2) := by
  unfold C90 at e
  exact (
  r_aloadn c90_0 rfl <|
  t_bd e fun k1 c2 e3 =>
  t_bd e3 fun r4 c5 e6 =>
  c_cal (st2 := [.int r4.1]) (s_cv (as := [.ref x0]) (st' := []) c90_1 rfl (gK_ok c2) ⟨Nat.le_of_ble_eq_true rfl, Nat.le_of_ble_eq_true rfl, Nat.le_of_ble_eq_true rfl⟩ rfl rfl) (C84_ok hct hO c5) (Nat.add_lt_add_left (by decide) d) rfl <|
  r_istoren c90_4 <|
  r_iloadn c90_5 ld1_eq <|
  r_bipush c90_6 <|
  t_if e6 (fun b7 e8 =>
    r_icmpT c90_8 b7 <|
    J90_17_ok hct hO (ld1_ne rfl (by decide) (Or.inl (by decide))) (ld1_ne rfl (by decide) (Or.inr rfl)) ld1_eq e8
  ) (fun b7 e8 =>
    r_icmpF c90_8 b7 <|
    r_iloadn c90_11 ld1_eq <|
    r_bipush c90_12 <|
    t_if e8 (fun b61 e62 =>
      r_icmpT c90_14 b61 <|
      r_aloadn c90_76 (ld1_ne rfl (by decide) (Or.inl (by decide))) <|
      r_iloadn c90_77 ld1_eq <|
      t_bd e62 fun r63 c64 e65 =>
      c_cal (st2 := [.int r63.1, .ref x0]) (s_cs (as := [.int r4.1]) (st' := [.ref x0]) c90_78 ⟨Nat.le_of_ble_eq_true rfl, Nat.le_of_ble_eq_true rfl, Nat.le_of_ble_eq_true rfl⟩ rfl rfl) (C86_ok hct hO c64) (Nat.add_lt_add_left (by decide) d) rfl <|
      t_if e65 (fun b66 e67 =>
        r_ifT c90_81 b66 <|
        J90_103_ok hct hO (ld1_ne rfl (by decide) (Or.inl (by decide))) ld1_eq e67
      ) (fun b66 e67 =>
        r_ifF c90_81 b66 <|
        r_iloadn c90_84 ld1_eq <|
        t_bd e67 fun r162 c163 e164 =>
        c_cal (st2 := [.int r162.1, .ref x0]) (s_cs (as := [.int r4.1]) (st' := [.ref x0]) c90_85 ⟨Nat.le_of_ble_eq_true rfl, Nat.le_of_ble_eq_true rfl, Nat.le_of_ble_eq_true rfl⟩ rfl rfl) (C95_ok hct hO c163) (Nat.add_lt_add_left (by decide) d) rfl <|
        t_if e164 (fun b165 e166 =>
          r_ifT c90_88 b165 <|
          J90_103_ok hct hO (ld1_ne rfl (by decide) (Or.inl (by decide))) ld1_eq e166
        ) (fun b165 e166 =>
          r_ifF c90_88 b165 <|
          r_iloadn c90_91 ld1_eq <|
          r_bipush c90_92 <|
          t_if e166 (fun b167 e168 =>
            r_icmpT c90_94 b167 <|
            J90_103_ok hct hO (ld1_ne rfl (by decide) (Or.inl (by decide))) ld1_eq e168
          ) (fun b167 e168 =>
            r_icmpF c90_94 b167 <|
            r_iloadn c90_97 ld1_eq <|
            r_bipush c90_98 <|
            t_if e168 (fun b169 e170 =>
              r_icmpT c90_100 b169 <|
              r_iconst c90_107 <|
              J90_108_ok hct hO (ld1_ne rfl (by decide) (Or.inl (by decide))) ld1_eq e170
            ) (fun b169 e170 =>
              r_icmpF c90_100 b169 <|
              J90_103_ok hct hO (ld1_ne rfl (by decide) (Or.inl (by decide))) ld1_eq e170
            )
          )
        )
      )
    ) (fun b61 e62 =>
      r_icmpF c90_14 b61 <|
      J90_17_ok hct hO (ld1_ne rfl (by decide) (Or.inl (by decide))) (ld1_ne rfl (by decide) (Or.inr rfl)) ld1_eq e62
    )
  ))
/-- DiceOdds$Statement.writeInBraces(LDiceOdds$Statement;Ljava/lang/StringBuilder;)V -/
def C132 (xt : mj_X) (ct : Nat → Value) (O : OR) (N : Nat) (x0 : Option Nat) (x1 : Nat) (H : mj_H) : Option (mj_H) :=
  (gK H x1 0).bind fun k1 =>
  (C13 xt ct O N x1 123 H).bind fun r4 =>
  (O.2.2.2.1 x0 x1 r4.2).bind fun r7 =>
  (gK r7 x1 0).bind fun k10 =>
  (C13 xt ct O N x1 125 r7).bind fun r13 =>
  some r13.2
theorem C132_ok {xt : mj_X} {ct : Nat → Value} {O : OR} {d N : Nat} (hct : ct 0 = .int 1) (hO : oOK xt ct d O) {x0 : Option Nat} {x1 : Nat} {H : mj_H} {q : mj_H} (e : C132 xt ct O N x0 x1 H = some q) : mj_Run kY xt ct (d + 7) 132 0 (lv_args 0 [rv x0, .ref x1]) [] H (.inl none, q) := by
  unfold C132 at e
  exact (
  r_aloadn c132_0 (by cases x0 <;> rfl) <|
  r_bipush c132_1 <|
  t_bd e fun k1 c2 e3 =>
  t_bd e3 fun r4 c5 e6 =>
  c_cal (st2 := [.ref r4.1]) (s_cv (as := [.ref x1, .int 123]) (st' := []) c132_3 rfl (gK_ok c2) ⟨Nat.le_of_ble_eq_true rfl, Nat.le_of_ble_eq_true rfl, Nat.le_of_ble_eq_true rfl⟩ rfl rfl) (C13_ok hct hO c5) (Nat.add_lt_add_left (by decide) d) rfl <|
  r_pop c132_6 rfl <|
  c_alvn rfl c132_7 <|
  r_aloadn c132_8 (by cases x0 <;> rfl) <|
  t_bd e6 fun r7 c8 e9 =>
  c_cal (st2 := []) (s_cs (as := [rv x0, .ref x1]) (st' := []) c132_9 (by cases (x0) <;> exact ⟨Nat.le_of_ble_eq_true rfl, Nat.le_of_ble_eq_true rfl, Nat.le_of_ble_eq_true rfl⟩) rfl rfl) (hO.2.2.2.1 _ _ _ _ c8) (Nat.lt_add_of_pos_right (by decide)) rfl <|
  r_aloadn c132_12 (by cases x0 <;> rfl) <|
  r_bipush c132_13 <|
  t_bd e9 fun k10 c11 e12 =>
  t_bd e12 fun r13 c14 e15 =>
  c_cal (st2 := [.ref r13.1]) (s_cv (as := [.ref x1, .int 125]) (st' := []) c132_15 rfl (gK_ok c11) ⟨Nat.le_of_ble_eq_true rfl, Nat.le_of_ble_eq_true rfl, Nat.le_of_ble_eq_true rfl⟩ rfl rfl) (C13_ok hct hO c14) (Nat.add_lt_add_left (by decide) d) rfl <|
  r_pop c132_18 rfl <|
  (by cases e15; exact (r_ret c132_19)))
def J123_90 (xt : mj_X) (ct : Nat → Value) (O : OR) (N : Nat)  (H : mj_H) : Option (mj_H) :=
  some H
theorem J123_90_ok {xt : mj_X} {ct : Nat → Value} {O : OR} {d N : Nat} (hct : ct 0 = .int 1) (hO : oOK xt ct d O) {l : mj_L}  {H : mj_H} {q : mj_H}  (e : J123_90 xt ct O N  H = some q) : mj_Run kY xt ct (d + 8) 123 90 l [] H (.inl none, q) := by
  unfold J123_90 at e
  exact (
  (by cases e; exact (r_ret c123_90)))
def J123_60 (xt : mj_X) (ct : Nat → Value) (O : OR) (N : Nat) (x0 : Nat) (x1 : Nat) (H : mj_H) : Option (mj_H) :=
  (gR H x0 11 3).bind fun r29 =>
  (C132 xt ct O N r29 x1 H).bind fun r32 =>
  (gR r32 x0 11 4).bind fun r35 =>
  bif Option.isNone r35 then
    J123_90 xt ct O N r32
  else
  (gK r32 x1 0).bind fun k40 =>
  (C13 xt ct O N x1 58 r32).bind fun r43 =>
  (gR r43.2 x0 11 4).bind fun r46 =>
  (C132 xt ct O N r46 x1 r43.2).bind fun r49 =>
  J123_90 xt ct O N r49
theorem J123_60_ok {xt : mj_X} {ct : Nat → Value} {O : OR} {d N : Nat} (hct : ct 0 = .int 1) (hO : oOK xt ct d O) {l : mj_L} {x0 : Nat} {x1 : Nat} {H : mj_H} {q : mj_H} (f0 : mj_ld l 0 = some (.ref x0)) (f1 : mj_ld l 1 = some (.ref x1)) (e : J123_60 xt ct O N x0 x1 H = some q) : mj_Run kY xt ct (d + 8) 123 60 l [] H (.inl none, q) := by
  unfold J123_60 at e
  exact (
  r_aloadn c123_60 f0 <|
  t_bd e fun r29 c30 e31 =>
  c_gR c123_61 c30 <|
  r_aloadn c123_64 f1 <|
  t_bd e31 fun r32 c33 e34 =>
  c_cal (st2 := []) (s_cs (as := [rv r29, .ref x1]) (st' := []) c123_65 (by cases (r29) <;> exact ⟨Nat.le_of_ble_eq_true rfl, Nat.le_of_ble_eq_true rfl, Nat.le_of_ble_eq_true rfl⟩) rfl rfl) (C132_ok hct hO c33) (Nat.add_lt_add_left (by decide) d) rfl <|
  r_aloadn c123_68 f0 <|
  t_bd e34 fun r35 c36 e37 =>
  c_gR c123_69 c36 <|
  t_if e37 (fun b38 e39 =>
    c_nul c123_72 b38 <|
    J123_90_ok hct hO  e39
  ) (fun b38 e39 =>
    c_nuf c123_72 b38 <|
    r_aloadn c123_75 f1 <|
    r_bipush c123_76 <|
    t_bd e39 fun k40 c41 e42 =>
    t_bd e42 fun r43 c44 e45 =>
    c_cal (st2 := [.ref r43.1]) (s_cv (as := [.ref x1, .int 58]) (st' := []) c123_78 rfl (gK_ok c41) ⟨Nat.le_of_ble_eq_true rfl, Nat.le_of_ble_eq_true rfl, Nat.le_of_ble_eq_true rfl⟩ rfl rfl) (C13_ok hct hO c44) (Nat.add_lt_add_left (by decide) d) rfl <|
    r_pop c123_81 rfl <|
    r_aloadn c123_82 f0 <|
    t_bd e45 fun r46 c47 e48 =>
    c_gR c123_83 c47 <|
    r_aloadn c123_86 f1 <|
    t_bd e48 fun r49 c50 e51 =>
    c_cal (st2 := []) (s_cs (as := [rv r46, .ref x1]) (st' := []) c123_87 (by cases (r46) <;> exact ⟨Nat.le_of_ble_eq_true rfl, Nat.le_of_ble_eq_true rfl, Nat.le_of_ble_eq_true rfl⟩) rfl rfl) (C132_ok hct hO c50) (Nat.add_lt_add_left (by decide) d) rfl <|
    J123_90_ok hct hO  e51
  ))
def J123_26 (xt : mj_X) (ct : Nat → Value) (O : OR) (N : Nat) (x0 : Nat) (x1 : Nat) (H : mj_H) : Option (mj_H) :=
  (gA H x0 11 1).bind fun r18 =>
  (O.2.2.2.2.2.1 r18 x1 H).bind fun r21 =>
  (gI r21 x0 11 0).bind fun r24 =>
  bif mj_c2 .eq r24 63 then
    J123_60 xt ct O N x0 x1 r21
  else
  (gI r21 x0 11 0).bind fun r52 =>
  bif mj_c2 .eq r52 42 then
    J123_60 xt ct O N x0 x1 r21
  else
  (gK r21 x1 0).bind fun k57 =>
  (C13 xt ct O N x1 59 r21).bind fun r60 =>
  some r60.2
theorem J123_26_ok {xt : mj_X} {ct : Nat → Value} {O : OR} {d N : Nat} (hct : ct 0 = .int 1) (hO : oOK xt ct d O) {l : mj_L} {x0 : Nat} {x1 : Nat} {H : mj_H} {q : mj_H} (f0 : mj_ld l 0 = some (.ref x0)) (f1 : mj_ld l 1 = some (.ref x1)) (e : J123_26 xt ct O N x0 x1 H = some q) : mj_Run kY xt ct (d + 8) 123 26 l [] H (.inl none, q) := by
  unfold J123_26 at e
  exact (
  r_aloadn c123_26 f0 <|
  t_bd e fun r18 c19 e20 =>
  c_gA c123_27 c19 <|
  r_aloadn c123_30 f1 <|
  t_bd e20 fun r21 c22 e23 =>
  c_dsp (as := [.ref r18, .ref x1]) (v := none) (st2 := []) c123_31 c123_31_t rfl ⟨Nat.le_of_ble_eq_true rfl, Nat.le_of_ble_eq_true rfl, Nat.le_of_ble_eq_true rfl⟩ rfl rfl (hO.2.2.2.2.2.1 _ _ _ _ c22) (Nat.lt_add_of_pos_right (by decide)) <|
  r_aloadn c123_34 f0 <|
  t_bd e23 fun r24 c25 e26 =>
  c_gI c123_35 c25 <|
  r_bipush c123_38 <|
  t_if e26 (fun b27 e28 =>
    r_icmpT c123_40 b27 <|
    J123_60_ok hct hO f0 f1 e28
  ) (fun b27 e28 =>
    r_icmpF c123_40 b27 <|
    r_aloadn c123_43 f0 <|
    t_bd e28 fun r52 c53 e54 =>
    c_gI c123_44 c53 <|
    r_bipush c123_47 <|
    t_if e54 (fun b55 e56 =>
      r_icmpT c123_49 b55 <|
      J123_60_ok hct hO f0 f1 e56
    ) (fun b55 e56 =>
      r_icmpF c123_49 b55 <|
      r_aloadn c123_52 f1 <|
      r_bipush c123_53 <|
      t_bd e56 fun k57 c58 e59 =>
      t_bd e59 fun r60 c61 e62 =>
      c_cal (st2 := [.ref r60.1]) (s_cv (as := [.ref x1, .int 59]) (st' := []) c123_55 rfl (gK_ok c58) ⟨Nat.le_of_ble_eq_true rfl, Nat.le_of_ble_eq_true rfl, Nat.le_of_ble_eq_true rfl⟩ rfl rfl) (C13_ok hct hO c61) (Nat.add_lt_add_left (by decide) d) rfl <|
      r_pop c123_58 rfl <|
      (by cases e62; exact (r_ret c123_59))
    )
  ))
/-- DiceOdds$Statement.write(Ljava/lang/StringBuilder;)V -/
def C123 (xt : mj_X) (ct : Nat → Value) (O : OR) (N : Nat) (x0 : Nat) (x1 : Nat) (H : mj_H) : Option (mj_H) :=
  (gI H x0 11 0).bind fun r1 =>
  (gK H x1 0).bind fun k4 =>
  (C13 xt ct O N x1 r1 H).bind fun r7 =>
  (gI r7.2 x0 11 0).bind fun r10 =>
  (C86 xt ct O N r10 r7.2).bind fun r13 =>
  bif mj_c1 .eq r13.1 then
    J123_26 xt ct O N x0 x1 r13.2
  else
  (gK r13.2 x1 0).bind fun k63 =>
  (C13 xt ct O N x1 61 r13.2).bind fun r66 =>
  J123_26 xt ct O N x0 x1 r66.2
theorem C123_ok {xt : mj_X} {ct : Nat → Value} {O : OR} {d N : Nat} (hct : ct 0 = .int 1) (hO : oOK xt ct d O) {x0 : Nat} {x1 : Nat} {H : mj_H} {q : mj_H} (e : C123 xt ct O N x0 x1 H = some q) : mj_Run kY xt ct (d + 8) 123 0 (lv_args 0 [.ref x0, .ref x1]) [] H (.inl none, q) := by
  unfold C123 at e
  exact (
  r_aloadn c123_0 rfl <|
  r_aloadn c123_1 rfl <|
  t_bd e fun r1 c2 e3 =>
  c_gI c123_2 c2 <|
  t_bd e3 fun k4 c5 e6 =>
  t_bd e6 fun r7 c8 e9 =>
  c_cal (st2 := [.ref r7.1]) (s_cv (as := [.ref x1, .int r1]) (st' := []) c123_5 rfl (gK_ok c5) ⟨Nat.le_of_ble_eq_true rfl, Nat.le_of_ble_eq_true rfl, Nat.le_of_ble_eq_true rfl⟩ rfl rfl) (C13_ok hct hO c8) (Nat.add_lt_add_left (by decide) d) rfl <|
  r_pop c123_8 rfl <|
  r_aloadn c123_9 rfl <|
  t_bd e9 fun r10 c11 e12 =>
  c_gI c123_10 c11 <|
  t_bd e12 fun r13 c14 e15 =>
  c_cal (st2 := [.int r13.1]) (s_cs (as := [.int r10]) (st' := []) c123_13 ⟨Nat.le_of_ble_eq_true rfl, Nat.le_of_ble_eq_true rfl, Nat.le_of_ble_eq_true rfl⟩ rfl rfl) (C86_ok hct hO c14) (Nat.add_lt_add_left (by decide) d) rfl <|
  t_if e15 (fun b16 e17 =>
    r_ifT c123_16 b16 <|
    J123_26_ok hct hO rfl rfl e17
  ) (fun b16 e17 =>
    r_ifF c123_16 b16 <|
    r_aloadn c123_19 rfl <|
    r_bipush c123_20 <|
    t_bd e17 fun k63 c64 e65 =>
    t_bd e65 fun r66 c67 e68 =>
    c_cal (st2 := [.ref r66.1]) (s_cv (as := [.ref x1, .int 61]) (st' := []) c123_22 rfl (gK_ok c64) ⟨Nat.le_of_ble_eq_true rfl, Nat.le_of_ble_eq_true rfl, Nat.le_of_ble_eq_true rfl⟩ rfl rfl) (C13_ok hct hO c67) (Nat.add_lt_add_left (by decide) d) rfl <|
    r_pop c123_25 rfl <|
    J123_26_ok hct hO rfl rfl e68
  ))
def LG122_2 (xt : mj_X) (ct : Nat → Value) (d : Nat) (q : mj_H) (x1 : Nat) (x2 : Option Nat) (H : mj_H) : Prop := ∀ l, mj_ld l 1 = some (.ref x1) → mj_ld l 2 = some (rv x2) → mj_Run kY xt ct (d + 9) 122 2 l [] H (.inl none, q)
def GG122_2 (xt : mj_X) (ct : Nat → Value) (d : Nat) (q : mj_H) (o : (Nat × (Option Nat) × mj_H) ⊕ (mj_H)) : Prop := match o with
  | .inl (x1, x2, H) => LG122_2 xt ct d q x1 x2 H
  | .inr r => r = q
def B122_2 (xt : mj_X) (ct : Nat → Value) (O : OR) (N : Nat) (s : Nat × (Option Nat) × mj_H) : Option ((Nat × (Option Nat) × mj_H) ⊕ (mj_H)) :=
  bif Option.isNone s.2.1 then
    some (.inr s.2.2)
  else
  (s.2.1).bind fun a3 =>
  (gK s.2.2 a3 11).bind fun k6 =>
  (C123 xt ct O N a3 s.1 s.2.2).bind fun r9 =>
  (s.2.1).bind fun a12 =>
  (gR r9 a12 11 8).bind fun r15 =>
  some (.inl (s.1, r15, r9))
def L122_2 (xt : mj_X) (ct : Nat → Value) (O : OR) (N : Nat) (s : Nat × (Option Nat) × mj_H) : Option (mj_H) := t_lp (B122_2 xt ct O N) N s
theorem B122_2_ok {xt : mj_X} {ct : Nat → Value} {O : OR} {d N : Nat} (hct : ct 0 = .int 1) (hO : oOK xt ct d O) {s : Nat × (Option Nat) × mj_H} {o : (Nat × (Option Nat) × mj_H) ⊕ (mj_H)} {q : mj_H} (e : B122_2 xt ct O N s = some o) (g : GG122_2 xt ct d q o) : LG122_2 xt ct d q s.1 s.2.1 s.2.2 := by
  unfold B122_2 at e
  exact (fun l f1 f2 =>
  c_alvn f2 c122_2 <|
  t_if e (fun b1 e2 =>
    c_nul c122_3 b1 <|
    t_rg e2 g (fun (z : s.2.2 = q) => (by cases z; exact (r_ret c122_19)))
  ) (fun b1 e2 =>
    c_nuf c122_3 b1 <|
    c_alvn f2 c122_6 <|
    r_aloadn c122_7 f1 <|
    t_bd e2 fun a3 n4 e5 =>
    c_at (st2 := [.ref s.1, .ref a3]) (by rw [n4]) <|
    t_bd e5 fun k6 c7 e8 =>
    t_bd e8 fun r9 c10 e11 =>
    c_cal (st2 := []) (s_cv (as := [.ref a3, .ref s.1]) (st' := []) c122_8 rfl (gK_ok c7) ⟨Nat.le_of_ble_eq_true rfl, Nat.le_of_ble_eq_true rfl, Nat.le_of_ble_eq_true rfl⟩ rfl rfl) (C123_ok hct hO c10) (Nat.add_lt_add_left (by decide) d) rfl <|
    c_alvn f2 c122_11 <|
    t_bd e11 fun a12 n13 e14 =>
    c_at (st2 := [.ref a12]) (by rw [n13]) <|
    t_bd e14 fun r15 c16 e17 =>
    c_gR c122_12 c16 <|
    c_asvn (o := r15) c122_15 <|
    r_goto c122_16 <|
    t_rg e17 g (fun (z : LG122_2 xt ct d q s.1 r15 r9) => z _ (ld1_ne f1 (by decide) (Or.inr rfl)) ld1_eq)
  ))
theorem L122_2_ok {xt : mj_X} {ct : Nat → Value} {O : OR} {d N : Nat} (hct : ct 0 = .int 1) (hO : oOK xt ct d O) {x1 : Nat} {x2 : Option Nat} {H : mj_H} {q : mj_H} (e : L122_2 xt ct O N (x1, x2, H) = some q) : LG122_2 xt ct d q x1 x2 H :=
  t_lp_ok (G := fun s => LG122_2 xt ct d q s.1 s.2.1 s.2.2) (fun s s' e g => B122_2_ok hct hO e (by obtain ⟨_, _, _⟩ := s'; exact g)) (fun s e => B122_2_ok hct hO e rfl) N (x1, x2, H) e
/-- DiceOdds$Statement.writeAll(LDiceOdds$Statement;Ljava/lang/StringBuilder;)V -/
def C122 (xt : mj_X) (ct : Nat → Value) (O : OR) (N : Nat) (x0 : Option Nat) (x1 : Nat) (H : mj_H) : Option (mj_H) :=
  L122_2 xt ct O N (x1, x0, H)
theorem C122_ok {xt : mj_X} {ct : Nat → Value} {O : OR} {d N : Nat} (hct : ct 0 = .int 1) (hO : oOK xt ct d O) {x0 : Option Nat} {x1 : Nat} {H : mj_H} {q : mj_H} (e : C122 xt ct O N x0 x1 H = some q) : mj_Run kY xt ct (d + 9) 122 0 (lv_args 0 [rv x0, .ref x1]) [] H (.inl none, q) := by
  unfold C122 at e
  exact (
  c_alvn rfl c122_0 <|
  c_asvn (o := x0) c122_1 <|
  L122_2_ok hct hO e _ (ld1_ne (by cases x0 <;> rfl) (by decide) (Or.inr rfl)) ld1_eq)
/-- DiceOdds$Bench.workOut(LDiceOdds$Expression;LDiceOdds$States;I)Z -/
def C141 (xt : mj_X) (ct : Nat → Value) (O : OR) (N : Nat) (x0 : Nat) (x1 : Nat) (x2 : Nat) (x3 : Int32) (H : mj_H) : Option ((Int32) × mj_H) :=
  (uF H x0 3 3 (.int 0)).bind fun H1 =>
  (O.2.2.2.2.2.2 x1 x0 x2 x3 H1).bind fun r4 =>
  if narrow .boolean (.int r4.1) = .int r4.1 then
  some (r4.1, r4.2)
  else none
theorem C141_ok {xt : mj_X} {ct : Nat → Value} {O : OR} {d N : Nat} (hct : ct 0 = .int 1) (hO : oOK xt ct d O) {x0 : Nat} {x1 : Nat} {x2 : Nat} {x3 : Int32} {H : mj_H} {q : (Int32) × mj_H} (e : C141 xt ct O N x0 x1 x2 x3 H = some q) : mj_Run kY xt ct (d + 1) 141 0 (lv_args 0 [.ref x0, .ref x1, .ref x2, .int x3]) [] H (.inl (vI q.1), q.2) := by
  unfold C141 at e
  exact (
  r_aloadn c141_0 rfl <|
  r_iconst c141_1 <|
  t_bd e fun H1 c2 e3 =>
  c_uF c141_2 ⟨rfl, rfl⟩ c2 <|
  r_aloadn c141_5 rfl <|
  r_aloadn c141_6 rfl <|
  r_aloadn c141_7 rfl <|
  r_iloadn c141_8 rfl <|
  t_bd e3 fun r4 c5 e6 =>
  c_dsp (as := [.ref x1, .ref x0, .ref x2, .int x3]) (v := (vI r4.1)) (st2 := [.int r4.1]) c141_9 c141_9_t rfl ⟨Nat.le_of_ble_eq_true rfl, Nat.le_of_ble_eq_true rfl, Nat.le_of_ble_eq_true rfl⟩ rfl rfl (hO.2.2.2.2.2.2 _ _ _ _ _ _ c5) (Nat.lt_add_of_pos_right (by decide)) <|
  t_ck e6 fun z7 e8 =>
  (by cases e8; exact (r_iret c141_12 z7)))
def LG162_4 (xt : mj_X) (ct : Nat → Value) (d : Nat) (q : (Int64) × mj_H) (x0 : Nat) (x1 : Int64) (x3 : Int32) (H : mj_H) : Prop := ∀ l, mj_ld l 0 = some (.ref x0) → mj_ld l 1 = some (.long x1) → mj_ld l 3 = some (.int x3) → mj_Run kY xt ct (d + 1) 162 4 l [] H (.inl (vL q.1), q.2)
def GG162_4 (xt : mj_X) (ct : Nat → Value) (d : Nat) (q : (Int64) × mj_H) (o : (Nat × Int64 × Int32 × mj_H) ⊕ ((Int64) × mj_H)) : Prop := match o with
  | .inl (x0, x1, x3, H) => LG162_4 xt ct d q x0 x1 x3 H
  | .inr r => r = q
def J162_34 (xt : mj_X) (ct : Nat → Value) (O : OR) (N : Nat) (x0 : Nat) (x3 : Int32) (s0 : Int64) (s1 : Int64) (H : mj_H) : Option ((Nat × Int64 × Int32 × mj_H) ⊕ ((Int64) × mj_H)) :=
  some (.inl (x0, (s1 + s0), (x3 + 1), H))
theorem J162_34_ok {xt : mj_X} {ct : Nat → Value} {O : OR} {d N : Nat} (hct : ct 0 = .int 1) (hO : oOK xt ct d O) {l : mj_L} {x0 : Nat} {x3 : Int32} {s0 : Int64} {s1 : Int64} {H : mj_H} {o : (Nat × Int64 × Int32 × mj_H) ⊕ ((Int64) × mj_H)} {q : (Int64) × mj_H} (f0 : mj_ld l 0 = some (.ref x0)) (f3 : mj_ld l 3 = some (.int x3)) (e : J162_34 xt ct O N x0 x3 s0 s1 H = some o) (g : GG162_4 xt ct d q o) : mj_Run kY xt ct (d + 1) 162 34 l [.long s0, .long s1] H (.inl (vL q.1), q.2) := by
  unfold J162_34 at e
  exact (
  r_ladd c162_34 rfl <|
  r_lstoren c162_35 <|
  r_iinc c162_36 (ld2_ne f3 (by decide) (Or.inl (by decide))) <|
  r_goto c162_39 <|
  t_rg e g (fun (z : LG162_4 xt ct d q x0 (s1 + s0) (x3 + 1) H) => z _ (ld1_ne (ld2_ne f0 (by decide) (Or.inr rfl)) (by decide) (Or.inl (by decide))) (ld1_ne ld2_eq (by decide) (Or.inl (by decide))) ld1_eq))
def B162_4 (xt : mj_X) (ct : Nat → Value) (O : OR) (N : Nat) (s : Nat × Int64 × Int32 × mj_H) : Option ((Nat × Int64 × Int32 × mj_H) ⊕ ((Int64) × mj_H)) :=
  (gA s.2.2.2 s.1 3 2).bind fun r1 =>
  (aI xt s.2.2.2 r1 1).bind fun r4 =>
  bif mj_c2 .ge s.2.2.1 r4 then
    some (.inr (s.2.1, s.2.2.2))
  else
  (gA s.2.2.2 s.1 3 0).bind fun r9 =>
  (aI xt s.2.2.2 r9 s.2.2.1).bind fun r12 =>
  bif mj_c1 .eq r12 then
    J162_34 xt ct O N s.1 s.2.2.1 0 s.2.1 s.2.2.2
  else
  (gA s.2.2.2 s.1 3 1).bind fun r17 =>
  (aL xt s.2.2.2 r17 s.2.2.1).bind fun r20 =>
  J162_34 xt ct O N s.1 s.2.2.1 r20 s.2.1 s.2.2.2
def L162_4 (xt : mj_X) (ct : Nat → Value) (O : OR) (N : Nat) (s : Nat × Int64 × Int32 × mj_H) : Option ((Int64) × mj_H) := t_lp (B162_4 xt ct O N) N s
theorem B162_4_ok {xt : mj_X} {ct : Nat → Value} {O : OR} {d N : Nat} (hct : ct 0 = .int 1) (hO : oOK xt ct d O) {s : Nat × Int64 × Int32 × mj_H} {o : (Nat × Int64 × Int32 × mj_H) ⊕ ((Int64) × mj_H)} {q : (Int64) × mj_H} (e : B162_4 xt ct O N s = some o) (g : GG162_4 xt ct d q o) : LG162_4 xt ct d q s.1 s.2.1 s.2.2.1 s.2.2.2 := by
  unfold B162_4 at e
  exact (fun l f0 f1 f3 =>
  r_iloadn c162_4 f3 <|
  r_aloadn c162_5 f0 <|
  t_bd e fun r1 c2 e3 =>
  c_gA c162_6 c2 <|
  r_iconst c162_9 <|
  t_bd e3 fun r4 c5 e6 =>
  c_aI c162_10 c5 <|
  t_if e6 (fun b7 e8 =>
    r_icmpT c162_11 b7 <|
    r_lloadn c162_42 f1 <|
    t_rg e8 g (fun (z : (s.2.1, s.2.2.2) = q) => (by cases z; exact (r_lret c162_43)))
  ) (fun b7 e8 =>
    r_icmpF c162_11 b7 <|
    r_lloadn c162_14 f1 <|
    r_aloadn c162_15 f0 <|
    t_bd e8 fun r9 c10 e11 =>
    c_gA c162_16 c10 <|
    r_iloadn c162_19 f3 <|
    t_bd e11 fun r12 c13 e14 =>
    c_aI c162_20 c13 <|
    t_if e14 (fun b15 e16 =>
      r_ifT c162_21 b15 <|
      r_lconst c162_33 <|
      J162_34_ok hct hO f0 f3 e16 g
    ) (fun b15 e16 =>
      r_ifF c162_21 b15 <|
      r_aloadn c162_24 f0 <|
      t_bd e16 fun r17 c18 e19 =>
      c_gA c162_25 c18 <|
      r_iloadn c162_28 f3 <|
      t_bd e19 fun r20 c21 e22 =>
      c_aL c162_29 c21 <|
      r_goto c162_30 <|
      J162_34_ok hct hO f0 f3 e22 g
    )
  ))
theorem L162_4_ok {xt : mj_X} {ct : Nat → Value} {O : OR} {d N : Nat} (hct : ct 0 = .int 1) (hO : oOK xt ct d O) {x0 : Nat} {x1 : Int64} {x3 : Int32} {H : mj_H} {q : (Int64) × mj_H} (e : L162_4 xt ct O N (x0, x1, x3, H) = some q) : LG162_4 xt ct d q x0 x1 x3 H :=
  t_lp_ok (G := fun s => LG162_4 xt ct d q s.1 s.2.1 s.2.2.1 s.2.2.2) (fun s s' e g => B162_4_ok hct hO e (by obtain ⟨_, _, _, _⟩ := s'; exact g)) (fun s e => B162_4_ok hct hO e rfl) N (x0, x1, x3, H) e
/-- DiceOdds$Bench.waysOfYes()J -/
def C162 (xt : mj_X) (ct : Nat → Value) (O : OR) (N : Nat) (x0 : Nat) (H : mj_H) : Option ((Int64) × mj_H) :=
  L162_4 xt ct O N (x0, 0, 0, H)
theorem C162_ok {xt : mj_X} {ct : Nat → Value} {O : OR} {d N : Nat} (hct : ct 0 = .int 1) (hO : oOK xt ct d O) {x0 : Nat} {H : mj_H} {q : (Int64) × mj_H} (e : C162 xt ct O N x0 H = some q) : mj_Run kY xt ct (d + 1) 162 0 (lv_args 0 [.ref x0]) [] H (.inl (vL q.1), q.2) := by
  unfold C162 at e
  exact (
  r_lconst c162_0 <|
  r_lstoren c162_1 <|
  r_iconst c162_2 <|
  r_istoren c162_3 <|
  L162_4_ok hct hO e _ (ld1_ne (ld2_ne rfl (by decide) (Or.inr rfl)) (by decide) (Or.inl (by decide))) (ld1_ne ld2_eq (by decide) (Or.inl (by decide))) ld1_eq)
/-- DiceOdds$States.copyBehind(LDiceOdds$States;I)V -/
def C164 (xt : mj_X) (ct : Nat → Value) (O : OR) (N : Nat) (x0 : Nat) (x1 : Nat) (x2 : Int32) (H : mj_H) : Option (mj_H) :=
  (gA H x1 2 0).bind fun r1 =>
  (gA H x0 2 0).bind fun r4 =>
  (gI H x0 2 2).bind fun r7 =>
  (cY H r1 (x2 * 6) r4 (r7 * 6) 6).bind fun H10 =>
  some H10
theorem C164_ok {xt : mj_X} {ct : Nat → Value} {O : OR} {d N : Nat} (hct : ct 0 = .int 1) (hO : oOK xt ct d O) {x0 : Nat} {x1 : Nat} {x2 : Int32} {H : mj_H} {q : mj_H} (e : C164 xt ct O N x0 x1 x2 H = some q) : mj_Run kY xt ct (d + 1) 164 0 (lv_args 0 [.ref x0, .ref x1, .int x2]) [] H (.inl none, q) := by
  unfold C164 at e
  exact (
  r_aloadn c164_0 rfl <|
  t_bd e fun r1 c2 e3 =>
  c_gA c164_1 c2 <|
  r_iloadn c164_4 rfl <|
  r_bipush c164_5 <|
  r_imul c164_7 rfl <|
  r_aloadn c164_8 rfl <|
  t_bd e3 fun r4 c5 e6 =>
  c_gA c164_9 c5 <|
  r_aloadn c164_12 rfl <|
  t_bd e6 fun r7 c8 e9 =>
  c_gI c164_13 c8 <|
  r_bipush c164_16 <|
  r_imul c164_18 rfl <|
  r_bipush c164_19 <|
  t_bd e9 fun H10 c11 e12 =>
  c_cpy c164_21 (Nat.le_of_ble_eq_true rfl) c11 <|
  (by cases e12; exact (r_ret c164_24)))
def J163_48 (xt : mj_X) (ct : Nat → Value) (O : OR) (N : Nat)  (H : mj_H) : Option (mj_H) :=
  some H
theorem J163_48_ok {xt : mj_X} {ct : Nat → Value} {O : OR} {d N : Nat} (hct : ct 0 = .int 1) (hO : oOK xt ct d O) {l : mj_L}  {H : mj_H} {q : mj_H}  (e : J163_48 xt ct O N  H = some q) : mj_Run kY xt ct (d + 2) 163 48 l [] H (.inl none, q) := by
  unfold J163_48 at e
  exact (
  (by cases e; exact (r_ret c163_48)))
/-- DiceOdds$States.append(LDiceOdds$States;IJ)V -/
def C163 (xt : mj_X) (ct : Nat → Value) (O : OR) (N : Nat) (x0 : Nat) (x1 : Nat) (x2 : Int32) (x3 : Int64) (H : mj_H) : Option (mj_H) :=
  bif mj_c1 .le (lg_cmp x3 0) then
    J163_48 xt ct O N H
  else
  (gI H x0 2 2).bind fun r3 =>
  bif mj_c2 .ge r3 64 then
    J163_48 xt ct O N H
  else
  (gK H x0 2).bind fun k8 =>
  (C164 xt ct O N x0 x1 x2 H).bind fun r11 =>
  (gA r11 x0 2 1).bind fun r14 =>
  (gI r11 x0 2 2).bind fun r17 =>
  (gA r11 x1 2 1).bind fun r20 =>
  (aL xt r11 r20 x2).bind fun r23 =>
  (sL r11 r14 r17 (r23 * x3)).bind fun H26 =>
  (gI H26 x0 2 2).bind fun r29 =>
  (uF H26 x0 2 2 (.int (r29 + 1))).bind fun H32 =>
  J163_48 xt ct O N H32
theorem C163_ok {xt : mj_X} {ct : Nat → Value} {O : OR} {d N : Nat} (hct : ct 0 = .int 1) (hO : oOK xt ct d O) {x0 : Nat} {x1 : Nat} {x2 : Int32} {x3 : Int64} {H : mj_H} {q : mj_H} (e : C163 xt ct O N x0 x1 x2 x3 H = some q) : mj_Run kY xt ct (d + 2) 163 0 (lv_args 0 [.ref x0, .ref x1, .int x2, .long x3]) [] H (.inl none, q) := by
  unfold C163 at e
  exact (
  r_lloadn c163_0 rfl <|
  r_lconst c163_1 <|
  r_lcmp c163_2 rfl <|
  t_if e (fun b1 e2 =>
    r_ifT c163_3 b1 <|
    J163_48_ok hct hO  e2
  ) (fun b1 e2 =>
    r_ifF c163_3 b1 <|
    r_aloadn c163_6 rfl <|
    t_bd e2 fun r3 c4 e5 =>
    c_gI c163_7 c4 <|
    r_bipush c163_10 <|
    t_if e5 (fun b6 e7 =>
      r_icmpT c163_12 b6 <|
      J163_48_ok hct hO  e7
    ) (fun b6 e7 =>
      r_icmpF c163_12 b6 <|
      r_aloadn c163_15 rfl <|
      r_aloadn c163_16 rfl <|
      r_iloadn c163_17 rfl <|
      t_bd e7 fun k8 c9 e10 =>
      t_bd e10 fun r11 c12 e13 =>
      c_cal (st2 := []) (s_cv (as := [.ref x0, .ref x1, .int x2]) (st' := []) c163_18 rfl (gK_ok c9) ⟨Nat.le_of_ble_eq_true rfl, Nat.le_of_ble_eq_true rfl, Nat.le_of_ble_eq_true rfl⟩ rfl rfl) (C164_ok hct hO c12) (Nat.add_lt_add_left (by decide) d) rfl <|
      r_aloadn c163_21 rfl <|
      t_bd e13 fun r14 c15 e16 =>
      c_gA c163_22 c15 <|
      r_aloadn c163_25 rfl <|
      t_bd e16 fun r17 c18 e19 =>
      c_gI c163_26 c18 <|
      r_aloadn c163_29 rfl <|
      t_bd e19 fun r20 c21 e22 =>
      c_gA c163_30 c21 <|
      r_iloadn c163_33 rfl <|
      t_bd e22 fun r23 c24 e25 =>
      c_aL c163_34 c24 <|
      r_lloadn c163_35 rfl <|
      r_lmul c163_36 rfl <|
      t_bd e25 fun H26 c27 e28 =>
      c_sL c163_37 c27 <|
      r_aloadn c163_38 rfl <|
      r_dup c163_39 rfl <|
      t_bd e28 fun r29 c30 e31 =>
      c_gI c163_40 c30 <|
      r_iconst c163_43 <|
      r_iadd c163_44 rfl <|
      t_bd e31 fun H32 c33 e34 =>
      c_uF c163_45 ⟨rfl, rfl⟩ c33 <|
      J163_48_ok hct hO  e34
    )
  ))
/-- DiceOdds$States.swapWith(LDiceOdds$States;)V -/
def C165 (xt : mj_X) (ct : Nat → Value) (O : OR) (N : Nat) (x0 : Nat) (x1 : Nat) (H : mj_H) : Option (mj_H) :=
  (gA H x1 2 0).bind fun r1 =>
  (gA H x1 2 1).bind fun r4 =>
  (gI H x1 2 2).bind fun r7 =>
  (gA H x0 2 0).bind fun r10 =>
  (uF H x1 2 0 (.ref r10)).bind fun H13 =>
  (gA H13 x0 2 1).bind fun r16 =>
  (uF H13 x1 2 1 (.ref r16)).bind fun H19 =>
  (gI H19 x0 2 2).bind fun r22 =>
  (uF H19 x1 2 2 (.int r22)).bind fun H25 =>
  (uF H25 x0 2 0 (.ref r1)).bind fun H28 =>
  (uF H28 x0 2 1 (.ref r4)).bind fun H31 =>
  (uF H31 x0 2 2 (.int r7)).bind fun H34 =>
  some H34
theorem C165_ok {xt : mj_X} {ct : Nat → Value} {O : OR} {d N : Nat} (hct : ct 0 = .int 1) (hO : oOK xt ct d O) {x0 : Nat} {x1 : Nat} {H : mj_H} {q : mj_H} (e : C165 xt ct O N x0 x1 H = some q) : mj_Run kY xt ct (d + 1) 165 0 (lv_args 0 [.ref x0, .ref x1]) [] H (.inl none, q) := by
  unfold C165 at e
  exact (
  r_aloadn c165_0 rfl <|
  t_bd e fun r1 c2 e3 =>
  c_gA c165_1 c2 <|
  r_astoren c165_4 <|
  r_aloadn c165_5 (ld1_ne rfl (by decide) (Or.inr rfl)) <|
  t_bd e3 fun r4 c5 e6 =>
  c_gA c165_6 c5 <|
  r_astoren c165_9 <|
  r_aloadn c165_10 (ld1_ne (ld1_ne rfl (by decide) (Or.inr rfl)) (by decide) (Or.inl (by decide))) <|
  t_bd e6 fun r7 c8 e9 =>
  c_gI c165_11 c8 <|
  r_istore c165_14 <|
  r_aloadn c165_16 (ld1_ne (ld1_ne (ld1_ne rfl (by decide) (Or.inr rfl)) (by decide) (Or.inl (by decide))) (by decide) (Or.inl (by decide))) <|
  r_aloadn c165_17 (ld1_ne (ld1_ne (ld1_ne rfl (by decide) (Or.inl (by decide))) (by decide) (Or.inl (by decide))) (by decide) (Or.inl (by decide))) <|
  t_bd e9 fun r10 c11 e12 =>
  c_gA c165_18 c11 <|
  t_bd e12 fun H13 c14 e15 =>
  c_uF c165_21 ⟨rfl, rfl⟩ c14 <|
  r_aloadn c165_24 (ld1_ne (ld1_ne (ld1_ne rfl (by decide) (Or.inr rfl)) (by decide) (Or.inl (by decide))) (by decide) (Or.inl (by decide))) <|
  r_aloadn c165_25 (ld1_ne (ld1_ne (ld1_ne rfl (by decide) (Or.inl (by decide))) (by decide) (Or.inl (by decide))) (by decide) (Or.inl (by decide))) <|
  t_bd e15 fun r16 c17 e18 =>
  c_gA c165_26 c17 <|
  t_bd e18 fun H19 c20 e21 =>
  c_uF c165_29 ⟨rfl, rfl⟩ c20 <|
  r_aloadn c165_32 (ld1_ne (ld1_ne (ld1_ne rfl (by decide) (Or.inr rfl)) (by decide) (Or.inl (by decide))) (by decide) (Or.inl (by decide))) <|
  r_aloadn c165_33 (ld1_ne (ld1_ne (ld1_ne rfl (by decide) (Or.inl (by decide))) (by decide) (Or.inl (by decide))) (by decide) (Or.inl (by decide))) <|
  t_bd e21 fun r22 c23 e24 =>
  c_gI c165_34 c23 <|
  t_bd e24 fun H25 c26 e27 =>
  c_uF c165_37 ⟨rfl, rfl⟩ c26 <|
  r_aloadn c165_40 (ld1_ne (ld1_ne (ld1_ne rfl (by decide) (Or.inl (by decide))) (by decide) (Or.inl (by decide))) (by decide) (Or.inl (by decide))) <|
  r_aloadn c165_41 (ld1_ne (ld1_ne ld1_eq (by decide) (Or.inr rfl)) (by decide) (Or.inl (by decide))) <|
  t_bd e27 fun H28 c29 e30 =>
  c_uF c165_42 ⟨rfl, rfl⟩ c29 <|
  r_aloadn c165_45 (ld1_ne (ld1_ne (ld1_ne rfl (by decide) (Or.inl (by decide))) (by decide) (Or.inl (by decide))) (by decide) (Or.inl (by decide))) <|
  r_aloadn c165_46 (ld1_ne ld1_eq (by decide) (Or.inr rfl)) <|
  t_bd e30 fun H31 c32 e33 =>
  c_uF c165_47 ⟨rfl, rfl⟩ c32 <|
  r_aloadn c165_50 (ld1_ne (ld1_ne (ld1_ne rfl (by decide) (Or.inl (by decide))) (by decide) (Or.inl (by decide))) (by decide) (Or.inl (by decide))) <|
  r_iload c165_51 ld1_eq <|
  t_bd e33 fun H34 c35 e36 =>
  c_uF c165_53 ⟨rfl, rfl⟩ c35 <|
  (by cases e36; exact (r_ret c165_56)))
def LG140_12 (xt : mj_X) (ct : Nat → Value) (d : Nat) (q : (Int32) × mj_H) (x0 : Nat) (x1 : Nat) (x2 : Nat) (x3 : Nat) (x4 : Int32) (H : mj_H) : Prop := ∀ l, mj_ld l 0 = some (.ref x0) → mj_ld l 1 = some (.ref x1) → mj_ld l 2 = some (.ref x2) → mj_ld l 3 = some (.ref x3) → mj_ld l 4 = some (.int x4) → mj_Run kY xt ct (d + 3) 140 12 l [] H (.inl (vI q.1), q.2)
def GG140_12 (xt : mj_X) (ct : Nat → Value) (d : Nat) (q : (Int32) × mj_H) (o : (Nat × Nat × Nat × Nat × Int32 × mj_H) ⊕ ((Int32) × mj_H)) : Prop := match o with
  | .inl (x0, x1, x2, x3, x4, H) => LG140_12 xt ct d q x0 x1 x2 x3 x4 H
  | .inr r => r = q
def B140_12 (xt : mj_X) (ct : Nat → Value) (O : OR) (N : Nat) (s : Nat × Nat × Nat × Nat × Int32 × mj_H) : Option ((Nat × Nat × Nat × Nat × Int32 × mj_H) ⊕ ((Int32) × mj_H)) :=
  (gI s.2.2.2.2.2 s.2.1 2 2).bind fun r10 =>
  bif mj_c2 .ge s.2.2.2.2.1 r10 then
    (gK s.2.2.2.2.2 s.2.1 2).bind fun k15 =>
    (C165 xt ct O N s.2.1 s.2.2.2.1 s.2.2.2.2.2).bind fun r18 =>
    some (.inr (0, r18))
  else
  (gA s.2.2.2.2.2 s.1 11 1).bind fun r21 =>
  (gK s.2.2.2.2.2 s.2.2.1 3).bind fun k24 =>
  (C141 xt ct O N s.2.2.1 r21 s.2.1 s.2.2.2.2.1 s.2.2.2.2.2).bind fun r27 =>
  bif mj_c1 .ne r27.1 then
    (gK r27.2 s.2.2.1 3).bind fun k32 =>
    (C162 xt ct O N s.2.2.1 r27.2).bind fun r35 =>
    (gK r35.2 s.2.2.2.1 2).bind fun k38 =>
    (C163 xt ct O N s.2.2.2.1 s.2.1 s.2.2.2.2.1 r35.1 r35.2).bind fun r41 =>
    some (.inl (s.1, s.2.1, s.2.2.1, s.2.2.2.1, (s.2.2.2.2.1 + 1), r41))
  else
  some (.inr ((-1), r27.2))
def L140_12 (xt : mj_X) (ct : Nat → Value) (O : OR) (N : Nat) (s : Nat × Nat × Nat × Nat × Int32 × mj_H) : Option ((Int32) × mj_H) := t_lp (B140_12 xt ct O N) N s
theorem B140_12_ok {xt : mj_X} {ct : Nat → Value} {O : OR} {d N : Nat} (hct : ct 0 = .int 1) (hO : oOK xt ct d O) {s : Nat × Nat × Nat × Nat × Int32 × mj_H} {o : (Nat × Nat × Nat × Nat × Int32 × mj_H) ⊕ ((Int32) × mj_H)} {q : (Int32) × mj_H} (e : B140_12 xt ct O N s = some o) (g : GG140_12 xt ct d q o) : LG140_12 xt ct d q s.1 s.2.1 s.2.2.1 s.2.2.2.1 s.2.2.2.2.1 s.2.2.2.2.2 := by
  unfold B140_12 at e
  exact (fun l f0 f1 f2 f3 f4 =>
  r_iload c140_12 f4 <|
  r_aloadn c140_14 f1 <|
  t_bd e fun r10 c11 e12 =>
  c_gI c140_15 c11 <|
  t_if e12 (fun b13 e14 =>
    r_icmpT c140_18 b13 <|
    r_aloadn c140_54 f1 <|
    r_aloadn c140_55 f3 <|
    t_bd e14 fun k15 c16 e17 =>
    t_bd e17 fun r18 c19 e20 =>
    c_cal (st2 := []) (s_cv (as := [.ref s.2.1, .ref s.2.2.2.1]) (st' := []) c140_56 rfl (gK_ok c16) ⟨Nat.le_of_ble_eq_true rfl, Nat.le_of_ble_eq_true rfl, Nat.le_of_ble_eq_true rfl⟩ rfl rfl) (C165_ok hct hO c19) (Nat.add_lt_add_left (by decide) d) rfl <|
    r_iconst c140_59 <|
    t_rg e20 g (fun (z : (0, r18) = q) => (by cases z; exact (r_iret c140_60 rfl)))
  ) (fun b13 e14 =>
    r_icmpF c140_18 b13 <|
    r_aloadn c140_21 f2 <|
    r_aloadn c140_22 f0 <|
    t_bd e14 fun r21 c22 e23 =>
    c_gA c140_23 c22 <|
    r_aloadn c140_26 f1 <|
    r_iload c140_27 f4 <|
    t_bd e23 fun k24 c25 e26 =>
    t_bd e26 fun r27 c28 e29 =>
    c_cal (st2 := [.int r27.1]) (s_cv (as := [.ref s.2.2.1, .ref r21, .ref s.2.1, .int s.2.2.2.2.1]) (st' := []) c140_29 rfl (gK_ok c25) ⟨Nat.le_of_ble_eq_true rfl, Nat.le_of_ble_eq_true rfl, Nat.le_of_ble_eq_true rfl⟩ rfl rfl) (C141_ok hct hO c28) (Nat.add_lt_add_left (by decide) d) rfl <|
    t_if e29 (fun b30 e31 =>
      r_ifT c140_32 b30 <|
      r_aloadn c140_37 f3 <|
      r_aloadn c140_38 f1 <|
      r_iload c140_39 f4 <|
      r_aloadn c140_41 f2 <|
      t_bd e31 fun k32 c33 e34 =>
      t_bd e34 fun r35 c36 e37 =>
      c_cal (st2 := [.long r35.1, .int s.2.2.2.2.1, .ref s.2.1, .ref s.2.2.2.1]) (s_cv (as := [.ref s.2.2.1]) (st' := [.int s.2.2.2.2.1, .ref s.2.1, .ref s.2.2.2.1]) c140_42 rfl (gK_ok c33) ⟨Nat.le_of_ble_eq_true rfl, Nat.le_of_ble_eq_true rfl, Nat.le_of_ble_eq_true rfl⟩ rfl rfl) (C162_ok hct hO c36) (Nat.add_lt_add_left (by decide) d) rfl <|
      t_bd e37 fun k38 c39 e40 =>
      t_bd e40 fun r41 c42 e43 =>
      c_cal (st2 := []) (s_cv (as := [.ref s.2.2.2.1, .ref s.2.1, .int s.2.2.2.2.1, .long r35.1]) (st' := []) c140_45 rfl (gK_ok c39) ⟨Nat.le_of_ble_eq_true rfl, Nat.le_of_ble_eq_true rfl, Nat.le_of_ble_eq_true rfl⟩ rfl rfl) (C163_ok hct hO c42) (Nat.add_lt_add_left (by decide) d) rfl <|
      r_iinc c140_48 f4 <|
      r_goto c140_51 <|
      t_rg e43 g (fun (z : LG140_12 xt ct d q s.1 s.2.1 s.2.2.1 s.2.2.2.1 (s.2.2.2.2.1 + 1) r41) => z _ (ld1_ne f0 (by decide) (Or.inl (by decide))) (ld1_ne f1 (by decide) (Or.inl (by decide))) (ld1_ne f2 (by decide) (Or.inl (by decide))) (ld1_ne f3 (by decide) (Or.inr rfl)) ld1_eq)
    ) (fun b30 e31 =>
      r_ifF c140_32 b30 <|
      r_iconst c140_35 <|
      t_rg e31 g (fun (z : ((-1), r27.2) = q) => (by cases z; exact (r_iret c140_36 rfl)))
    )
  ))
theorem L140_12_ok {xt : mj_X} {ct : Nat → Value} {O : OR} {d N : Nat} (hct : ct 0 = .int 1) (hO : oOK xt ct d O) {x0 : Nat} {x1 : Nat} {x2 : Nat} {x3 : Nat} {x4 : Int32} {H : mj_H} {q : (Int32) × mj_H} (e : L140_12 xt ct O N (x0, x1, x2, x3, x4, H) = some q) : LG140_12 xt ct d q x0 x1 x2 x3 x4 H :=
  t_lp_ok (G := fun s => LG140_12 xt ct d q s.1 s.2.1 s.2.2.1 s.2.2.2.1 s.2.2.2.2.1 s.2.2.2.2.2) (fun s s' e g => B140_12_ok hct hO e (by obtain ⟨_, _, _, _, _, _⟩ := s'; exact g)) (fun s e => B140_12_ok hct hO e rfl) N (x0, x1, x2, x3, x4, H) e
/-- DiceOdds$Statement.keep(LDiceOdds$States;LDiceOdds$Bench;)I -/
def C140 (xt : mj_X) (ct : Nat → Value) (O : OR) (N : Nat) (x0 : Nat) (x1 : Nat) (x2 : Nat) (H : mj_H) : Option ((Int32) × mj_H) :=
  (gA H x2 3 9).bind fun r1 =>
  (gK H r1 2).bind fun k4 =>
  (C136 xt ct O N r1 H).bind fun r7 =>
  L140_12 xt ct O N (x0, x1, x2, r1, 0, r7)
theorem C140_ok {xt : mj_X} {ct : Nat → Value} {O : OR} {d N : Nat} (hct : ct 0 = .int 1) (hO : oOK xt ct d O) {x0 : Nat} {x1 : Nat} {x2 : Nat} {H : mj_H} {q : (Int32) × mj_H} (e : C140 xt ct O N x0 x1 x2 H = some q) : mj_Run kY xt ct (d + 3) 140 0 (lv_args 0 [.ref x0, .ref x1, .ref x2]) [] H (.inl (vI q.1), q.2) := by
  unfold C140 at e
  exact (
  r_aloadn c140_0 rfl <|
  t_bd e fun r1 c2 e3 =>
  c_gA c140_1 c2 <|
  r_astoren c140_4 <|
  r_aloadn c140_5 ld1_eq <|
  t_bd e3 fun k4 c5 e6 =>
  t_bd e6 fun r7 c8 e9 =>
  c_cal (st2 := []) (s_cv (as := [.ref r1]) (st' := []) c140_6 rfl (gK_ok c5) ⟨Nat.le_of_ble_eq_true rfl, Nat.le_of_ble_eq_true rfl, Nat.le_of_ble_eq_true rfl⟩ rfl rfl) (C136_ok hct hO c8) (Nat.add_lt_add_left (by decide) d) rfl <|
  r_iconst c140_9 <|
  r_istore c140_10 <|
  L140_12_ok hct hO e9 _ (ld1_ne (ld1_ne rfl (by decide) (Or.inl (by decide))) (by decide) (Or.inl (by decide))) (ld1_ne (ld1_ne rfl (by decide) (Or.inl (by decide))) (by decide) (Or.inl (by decide))) (ld1_ne (ld1_ne rfl (by decide) (Or.inr rfl)) (by decide) (Or.inl (by decide))) (ld1_ne ld1_eq (by decide) (Or.inr rfl)) ld1_eq)
