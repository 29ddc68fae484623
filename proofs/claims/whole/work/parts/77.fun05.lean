/-- java.lang.StringBuilder.append(I)Ljava/lang/StringBuilder; -/
def C51 (xt : mj_X) (ct : Nat → Value) (O : OR) (N : Nat) (x0 : Nat) (x1 : Int32) (H : mj_H) : Option ((Nat) × mj_H) :=
  (gC H x0).bind fun k1 =>
  (C52 xt ct O N x0 x1 H).bind fun r4 =>
  some (x0, r4.2)
theorem C51_ok {xt : mj_X} {ct : Nat → Value} {O : OR} {d N : Nat} (hct : ct 0 = .int 1) (hO : oOK xt ct d O) {x0 : Nat} {x1 : Int32} {H : mj_H} {q : (Nat) × mj_H} (e : C51 xt ct O N x0 x1 H = some q) : mj_Run kY xt ct (d + 6) 51 0 (lv_args 0 [.ref x0, .int x1]) [] H (.inl (vA q.1), q.2) := by
  unfold C51 at e
  exact (
  r_aloadn c51_0 rfl <|
  r_iloadn c51_1 rfl <|
  t_bd e fun k1 c2 e3 =>
  t_bd e3 fun r4 c5 e6 =>
  c_cal (st2 := [.ref r4.1]) (s_cp (as := [.ref x0, .int x1]) (st' := []) c51_2 rfl c2 ⟨Nat.le_of_ble_eq_true rfl, Nat.le_of_ble_eq_true rfl, Nat.le_of_ble_eq_true rfl⟩ rfl rfl) (C52_ok hct hO c5) (Nat.add_lt_add_left (by decide) d) rfl <|
  r_pop c51_5 rfl <|
  r_aloadn c51_6 rfl <|
  (by cases e6; exact (r_aret c51_7)))
def J124_60 (xt : mj_X) (ct : Nat → Value) (O : OR) (N : Nat)  (H : mj_H) : Option (mj_H) :=
  some H
theorem J124_60_ok {xt : mj_X} {ct : Nat → Value} {O : OR} {d N : Nat} (hct : ct 0 = .int 1) (hO : oOK xt ct d O) {l : mj_L}  {H : mj_H} {q : mj_H}  (e : J124_60 xt ct O N  H = some q) : mj_Run kY xt ct (d + 7) 124 60 l [] H (.inl none, q) := by
  unfold J124_60 at e
  exact (
  (by cases e; exact (r_ret c124_60)))
def J124_17 (xt : mj_X) (ct : Nat → Value) (O : OR) (N : Nat) (x0 : Nat) (x1 : Nat) (H : mj_H) : Option (mj_H) :=
  (gK H x1 0).bind fun k6 =>
  (C13 xt ct O N x1 100 H).bind fun r9 =>
  (gI r9.2 x0 8 1).bind fun r12 =>
  (gK r9.2 x1 0).bind fun k15 =>
  (C51 xt ct O N x1 r12 r9.2).bind fun r18 =>
  (gI r18.2 x0 8 2).bind fun r21 =>
  bif mj_c2 .eq r21 97 then
    J124_60 xt ct O N r18.2
  else
  (gI r18.2 x0 8 2).bind fun r26 =>
  (gK r18.2 x1 0).bind fun k29 =>
  (C13 xt ct O N x1 r26 r18.2).bind fun r32 =>
  (gI r32.2 x0 8 3).bind fun r35 =>
  (gK r32.2 x1 0).bind fun k38 =>
  (C51 xt ct O N x1 r35 r32.2).bind fun r41 =>
  J124_60 xt ct O N r41.2
theorem J124_17_ok {xt : mj_X} {ct : Nat → Value} {O : OR} {d N : Nat} (hct : ct 0 = .int 1) (hO : oOK xt ct d O) {l : mj_L} {x0 : Nat} {x1 : Nat} {H : mj_H} {q : mj_H} (f0 : mj_ld l 0 = some (.ref x0)) (f1 : mj_ld l 1 = some (.ref x1)) (e : J124_17 xt ct O N x0 x1 H = some q) : mj_Run kY xt ct (d + 7) 124 17 l [] H (.inl none, q) := by
  unfold J124_17 at e
  exact (
  r_aloadn c124_17 f1 <|
  r_bipush c124_18 <|
  t_bd e fun k6 c7 e8 =>
  t_bd e8 fun r9 c10 e11 =>
  c_cal (st2 := [.ref r9.1]) (s_cv (as := [.ref x1, .int 100]) (st' := []) c124_20 rfl (gK_ok c7) ⟨Nat.le_of_ble_eq_true rfl, Nat.le_of_ble_eq_true rfl, Nat.le_of_ble_eq_true rfl⟩ rfl rfl) (C13_ok hct hO c10) (Nat.add_lt_add_left (by decide) d) rfl <|
  r_pop c124_23 rfl <|
  r_aloadn c124_24 f1 <|
  r_aloadn c124_25 f0 <|
  t_bd e11 fun r12 c13 e14 =>
  c_gI c124_26 c13 <|
  t_bd e14 fun k15 c16 e17 =>
  t_bd e17 fun r18 c19 e20 =>
  c_cal (st2 := [.ref r18.1]) (s_cv (as := [.ref x1, .int r12]) (st' := []) c124_29 rfl (gK_ok c16) ⟨Nat.le_of_ble_eq_true rfl, Nat.le_of_ble_eq_true rfl, Nat.le_of_ble_eq_true rfl⟩ rfl rfl) (C51_ok hct hO c19) (Nat.add_lt_add_left (by decide) d) rfl <|
  r_pop c124_32 rfl <|
  r_aloadn c124_33 f0 <|
  t_bd e20 fun r21 c22 e23 =>
  c_gI c124_34 c22 <|
  r_bipush c124_37 <|
  t_if e23 (fun b24 e25 =>
    r_icmpT c124_39 b24 <|
    J124_60_ok hct hO  e25
  ) (fun b24 e25 =>
    r_icmpF c124_39 b24 <|
    r_aloadn c124_42 f1 <|
    r_aloadn c124_43 f0 <|
    t_bd e25 fun r26 c27 e28 =>
    c_gI c124_44 c27 <|
    t_bd e28 fun k29 c30 e31 =>
    t_bd e31 fun r32 c33 e34 =>
    c_cal (st2 := [.ref r32.1]) (s_cv (as := [.ref x1, .int r26]) (st' := []) c124_47 rfl (gK_ok c30) ⟨Nat.le_of_ble_eq_true rfl, Nat.le_of_ble_eq_true rfl, Nat.le_of_ble_eq_true rfl⟩ rfl rfl) (C13_ok hct hO c33) (Nat.add_lt_add_left (by decide) d) rfl <|
    r_pop c124_50 rfl <|
    r_aloadn c124_51 f1 <|
    r_aloadn c124_52 f0 <|
    t_bd e34 fun r35 c36 e37 =>
    c_gI c124_53 c36 <|
    t_bd e37 fun k38 c39 e40 =>
    t_bd e40 fun r41 c42 e43 =>
    c_cal (st2 := [.ref r41.1]) (s_cv (as := [.ref x1, .int r35]) (st' := []) c124_56 rfl (gK_ok c39) ⟨Nat.le_of_ble_eq_true rfl, Nat.le_of_ble_eq_true rfl, Nat.le_of_ble_eq_true rfl⟩ rfl rfl) (C51_ok hct hO c42) (Nat.add_lt_add_left (by decide) d) rfl <|
    r_pop c124_59 rfl <|
    J124_60_ok hct hO  e43
  ))
/-- DiceOdds$Dice.write(Ljava/lang/StringBuilder;)V -/
def C124 (xt : mj_X) (ct : Nat → Value) (O : OR) (N : Nat) (x0 : Nat) (x1 : Nat) (H : mj_H) : Option (mj_H) :=
  (gI H x0 8 0).bind fun r1 =>
  bif mj_c2 .le r1 1 then
    J124_17 xt ct O N x0 x1 H
  else
  (gI H x0 8 0).bind fun r44 =>
  (gK H x1 0).bind fun k47 =>
  (C51 xt ct O N x1 r44 H).bind fun r50 =>
  J124_17 xt ct O N x0 x1 r50.2
theorem C124_ok {xt : mj_X} {ct : Nat → Value} {O : OR} {d N : Nat} (hct : ct 0 = .int 1) (hO : oOK xt ct d O) {x0 : Nat} {x1 : Nat} {H : mj_H} {q : mj_H} (e : C124 xt ct O N x0 x1 H = some q) : mj_Run kY xt ct (d + 7) 124 0 (lv_args 0 [.ref x0, .ref x1]) [] H (.inl none, q) := by
  unfold C124 at e
  exact (
  r_aloadn c124_0 rfl <|
  t_bd e fun r1 c2 e3 =>
  c_gI c124_1 c2 <|
  r_iconst c124_4 <|
  t_if e3 (fun b4 e5 =>
    r_icmpT c124_5 b4 <|
    J124_17_ok hct hO rfl rfl e5
  ) (fun b4 e5 =>
    r_icmpF c124_5 b4 <|
    r_aloadn c124_8 rfl <|
    r_aloadn c124_9 rfl <|
    t_bd e5 fun r44 c45 e46 =>
    c_gI c124_10 c45 <|
    t_bd e46 fun k47 c48 e49 =>
    t_bd e49 fun r50 c51 e52 =>
    c_cal (st2 := [.ref r50.1]) (s_cv (as := [.ref x1, .int r44]) (st' := []) c124_13 rfl (gK_ok c48) ⟨Nat.le_of_ble_eq_true rfl, Nat.le_of_ble_eq_true rfl, Nat.le_of_ble_eq_true rfl⟩ rfl rfl) (C51_ok hct hO c51) (Nat.add_lt_add_left (by decide) d) rfl <|
    r_pop c124_16 rfl <|
    J124_17_ok hct hO rfl rfl e52
  ))
def J128_27 (xt : mj_X) (ct : Nat → Value) (O : OR) (N : Nat)  (H : mj_H) : Option (mj_H) :=
  some H
theorem J128_27_ok {xt : mj_X} {ct : Nat → Value} {O : OR} {d N : Nat} (hct : ct 0 = .int 1) (hO : oOK xt ct d O) {l : mj_L}  {H : mj_H} {q : mj_H}  (e : J128_27 xt ct O N  H = some q) : mj_Run kY xt ct (d + 7) 128 27 l [] H (.inl none, q) := by
  unfold J128_27 at e
  exact (
  (by cases e; exact (r_ret c128_27)))
def J128_11 (xt : mj_X) (ct : Nat → Value) (O : OR) (N : Nat) (x0 : Nat) (x1 : Nat) (x2 : Int32) (H : mj_H) : Option (mj_H) :=
  (O.2.2.2.2.2.1 x0 x1 H).bind fun r3 =>
  bif mj_c1 .eq x2 then
    J128_27 xt ct O N r3
  else
  (gK r3 x1 0).bind fun k8 =>
  (C13 xt ct O N x1 41 r3).bind fun r11 =>
  J128_27 xt ct O N r11.2
theorem J128_11_ok {xt : mj_X} {ct : Nat → Value} {O : OR} {d N : Nat} (hct : ct 0 = .int 1) (hO : oOK xt ct d O) {l : mj_L} {x0 : Nat} {x1 : Nat} {x2 : Int32} {H : mj_H} {q : mj_H} (f0 : mj_ld l 0 = some (.ref x0)) (f1 : mj_ld l 1 = some (.ref x1)) (f2 : mj_ld l 2 = some (.int x2)) (e : J128_11 xt ct O N x0 x1 x2 H = some q) : mj_Run kY xt ct (d + 7) 128 11 l [] H (.inl none, q) := by
  unfold J128_11 at e
  exact (
  r_aloadn c128_11 f0 <|
  r_aloadn c128_12 f1 <|
  t_bd e fun r3 c4 e5 =>
  c_dsp (as := [.ref x0, .ref x1]) (v := none) (st2 := []) c128_13 c128_13_t rfl ⟨Nat.le_of_ble_eq_true rfl, Nat.le_of_ble_eq_true rfl, Nat.le_of_ble_eq_true rfl⟩ rfl rfl (hO.2.2.2.2.2.1 _ _ _ _ c4) (Nat.lt_add_of_pos_right (by decide)) <|
  r_iloadn c128_16 f2 <|
  t_if e5 (fun b6 e7 =>
    r_ifT c128_17 b6 <|
    J128_27_ok hct hO  e7
  ) (fun b6 e7 =>
    r_ifF c128_17 b6 <|
    r_aloadn c128_20 f1 <|
    r_bipush c128_21 <|
    t_bd e7 fun k8 c9 e10 =>
    t_bd e10 fun r11 c12 e13 =>
    c_cal (st2 := [.ref r11.1]) (s_cv (as := [.ref x1, .int 41]) (st' := []) c128_23 rfl (gK_ok c9) ⟨Nat.le_of_ble_eq_true rfl, Nat.le_of_ble_eq_true rfl, Nat.le_of_ble_eq_true rfl⟩ rfl rfl) (C13_ok hct hO c12) (Nat.add_lt_add_left (by decide) d) rfl <|
    r_pop c128_26 rfl <|
    J128_27_ok hct hO  e13
  ))
/-- DiceOdds$Expression.writeSide(Ljava/lang/StringBuilder;Z)V -/
def C128 (xt : mj_X) (ct : Nat → Value) (O : OR) (N : Nat) (x0 : Nat) (x1 : Nat) (x2 : Int32) (H : mj_H) : Option (mj_H) :=
  bif mj_c1 .eq x2 then
    J128_11 xt ct O N x0 x1 x2 H
  else
  (gK H x1 0).bind fun k14 =>
  (C13 xt ct O N x1 40 H).bind fun r17 =>
  J128_11 xt ct O N x0 x1 x2 r17.2
theorem C128_ok {xt : mj_X} {ct : Nat → Value} {O : OR} {d N : Nat} (hct : ct 0 = .int 1) (hO : oOK xt ct d O) {x0 : Nat} {x1 : Nat} {x2 : Int32} {H : mj_H} {q : mj_H} (e : C128 xt ct O N x0 x1 x2 H = some q) : mj_Run kY xt ct (d + 7) 128 0 (lv_args 0 [.ref x0, .ref x1, .int x2]) [] H (.inl none, q) := by
  unfold C128 at e
  exact (
  r_iloadn c128_0 rfl <|
  t_if e (fun b1 e2 =>
    r_ifT c128_1 b1 <|
    J128_11_ok hct hO rfl rfl rfl e2
  ) (fun b1 e2 =>
    r_ifF c128_1 b1 <|
    r_aloadn c128_4 rfl <|
    r_bipush c128_5 <|
    t_bd e2 fun k14 c15 e16 =>
    t_bd e16 fun r17 c18 e19 =>
    c_cal (st2 := [.ref r17.1]) (s_cv (as := [.ref x1, .int 40]) (st' := []) c128_7 rfl (gK_ok c15) ⟨Nat.le_of_ble_eq_true rfl, Nat.le_of_ble_eq_true rfl, Nat.le_of_ble_eq_true rfl⟩ rfl rfl) (C13_ok hct hO c18) (Nat.add_lt_add_left (by decide) d) rfl <|
    r_pop c128_10 rfl <|
    J128_11_ok hct hO rfl rfl rfl e19
  ))
def J125_28 (xt : mj_X) (ct : Nat → Value) (O : OR) (N : Nat) (s0 : Int32) (s1 : Nat) (s2 : Nat) (H : mj_H) : Option (mj_H) :=
  (gE H s2).bind fun k18 =>
  (C128 xt ct O N s2 s1 s0 H).bind fun r21 =>
  some r21
theorem J125_28_ok {xt : mj_X} {ct : Nat → Value} {O : OR} {d N : Nat} (hct : ct 0 = .int 1) (hO : oOK xt ct d O) {l : mj_L} {s0 : Int32} {s1 : Nat} {s2 : Nat} {H : mj_H} {q : mj_H}  (e : J125_28 xt ct O N s0 s1 s2 H = some q) : mj_Run kY xt ct (d + 8) 125 28 l [.int s0, .ref s1, .ref s2] H (.inl none, q) := by
  unfold J125_28 at e
  exact (
  t_bd e fun k18 c19 e20 =>
  t_bd e20 fun r21 c22 e23 =>
  c_cal (st2 := []) (s_cv (as := [.ref s2, .ref s1, .int s0]) (st' := []) ⟨c125_28.1, c125_28.2.1, c125_28_t _ (gE_ok c19).2, c125_28.2.2⟩ rfl (gE_ok c19).1 ⟨Nat.le_of_ble_eq_true rfl, Nat.le_of_ble_eq_true rfl, Nat.le_of_ble_eq_true rfl⟩ rfl rfl) (C128_ok hct hO c22) (Nat.add_lt_add_left (by decide) d) rfl <|
  (by cases e23; exact (r_ret c125_31)))
/-- DiceOdds$Minus.write(Ljava/lang/StringBuilder;)V -/
def C125 (xt : mj_X) (ct : Nat → Value) (O : OR) (N : Nat) (x0 : Nat) (x1 : Nat) (H : mj_H) : Option (mj_H) :=
  (gK H x1 0).bind fun k1 =>
  (C13 xt ct O N x1 45 H).bind fun r4 =>
  (gA r4.2 x0 6 0).bind fun r7 =>
  (gA r4.2 x0 6 0).bind fun r10 =>
  (CB xt ct O N r10 r4.2).bind fun r13 =>
  bif mj_c2 .ge r13.1 3 then
    J125_28 xt ct O N 0 x1 r7 r13.2
  else
  J125_28 xt ct O N 1 x1 r7 r13.2
theorem C125_ok {xt : mj_X} {ct : Nat → Value} {O : OR} {d N : Nat} (hct : ct 0 = .int 1) (hO : oOK xt ct d O) {x0 : Nat} {x1 : Nat} {H : mj_H} {q : mj_H} (e : C125 xt ct O N x0 x1 H = some q) : mj_Run kY xt ct (d + 8) 125 0 (lv_args 0 [.ref x0, .ref x1]) [] H (.inl none, q) := by
  unfold C125 at e
  exact (
  r_aloadn c125_0 rfl <|
  r_bipush c125_1 <|
  t_bd e fun k1 c2 e3 =>
  t_bd e3 fun r4 c5 e6 =>
  c_cal (st2 := [.ref r4.1]) (s_cv (as := [.ref x1, .int 45]) (st' := []) c125_3 rfl (gK_ok c2) ⟨Nat.le_of_ble_eq_true rfl, Nat.le_of_ble_eq_true rfl, Nat.le_of_ble_eq_true rfl⟩ rfl rfl) (C13_ok hct hO c5) (Nat.add_lt_add_left (by decide) d) rfl <|
  r_pop c125_6 rfl <|
  r_aloadn c125_7 rfl <|
  t_bd e6 fun r7 c8 e9 =>
  c_gA c125_8 c8 <|
  r_aloadn c125_11 rfl <|
  r_aloadn c125_12 rfl <|
  t_bd e9 fun r10 c11 e12 =>
  c_gA c125_13 c11 <|
  t_bd e12 fun r13 c14 e15 =>
  c_dsp (as := [.ref r10]) (v := (vI r13.1)) (st2 := [.int r13.1, .ref x1, .ref r7]) c125_16 c125_16_t rfl ⟨Nat.le_of_ble_eq_true rfl, Nat.le_of_ble_eq_true rfl, Nat.le_of_ble_eq_true rfl⟩ rfl rfl (CB_ok hct hO c14) (Nat.add_lt_add_left (by decide) d) <|
  r_iconst c125_19 <|
  t_if e15 (fun b16 e17 =>
    r_icmpT c125_20 b16 <|
    r_iconst c125_27 <|
    J125_28_ok hct hO  e17
  ) (fun b16 e17 =>
    r_icmpF c125_20 b16 <|
    r_iconst c125_23 <|
    r_goto c125_24 <|
    J125_28_ok hct hO  e17
  ))
def J129_69 (xt : mj_X) (ct : Nat → Value) (O : OR) (N : Nat) (s0 : Int32) (s1 : Nat) (s2 : Nat) (H : mj_H) : Option (mj_H) :=
  (gE H s2).bind fun k44 =>
  (C128 xt ct O N s2 s1 s0 H).bind fun r47 =>
  some r47
theorem J129_69_ok {xt : mj_X} {ct : Nat → Value} {O : OR} {d N : Nat} (hct : ct 0 = .int 1) (hO : oOK xt ct d O) {l : mj_L} {s0 : Int32} {s1 : Nat} {s2 : Nat} {H : mj_H} {q : mj_H}  (e : J129_69 xt ct O N s0 s1 s2 H = some q) : mj_Run kY xt ct (d + 8) 129 69 l [.int s0, .ref s1, .ref s2] H (.inl none, q) := by
  unfold J129_69 at e
  exact (
  t_bd e fun k44 c45 e46 =>
  t_bd e46 fun r47 c48 e49 =>
  c_cal (st2 := []) (s_cv (as := [.ref s2, .ref s1, .int s0]) (st' := []) ⟨c129_69.1, c129_69.2.1, c129_69_t _ (gE_ok c45).2, c129_69.2.2⟩ rfl (gE_ok c45).1 ⟨Nat.le_of_ble_eq_true rfl, Nat.le_of_ble_eq_true rfl, Nat.le_of_ble_eq_true rfl⟩ rfl rfl) (C128_ok hct hO c48) (Nat.add_lt_add_left (by decide) d) rfl <|
  (by cases e49; exact (r_ret c129_72)))
def J129_36 (xt : mj_X) (ct : Nat → Value) (O : OR) (N : Nat) (x0 : Nat) (x1 : Nat) (x2 : Int32) (s0 : Int32) (s1 : Nat) (s2 : Nat) (H : mj_H) : Option (mj_H) :=
  (gE H s2).bind fun k18 =>
  (C128 xt ct O N s2 s1 s0 H).bind fun r21 =>
  (gI r21 x0 10 0).bind fun r24 =>
  (gK r21 x1 0).bind fun k27 =>
  (C13 xt ct O N x1 r24 r21).bind fun r30 =>
  (gA r30.2 x0 10 2).bind fun r33 =>
  (gA r30.2 x0 10 2).bind fun r36 =>
  (CB xt ct O N r36 r30.2).bind fun r39 =>
  bif mj_c2 .gt r39.1 x2 then
    J129_69 xt ct O N 0 x1 r33 r39.2
  else
  J129_69 xt ct O N 1 x1 r33 r39.2
theorem J129_36_ok {xt : mj_X} {ct : Nat → Value} {O : OR} {d N : Nat} (hct : ct 0 = .int 1) (hO : oOK xt ct d O) {l : mj_L} {x0 : Nat} {x1 : Nat} {x2 : Int32} {s0 : Int32} {s1 : Nat} {s2 : Nat} {H : mj_H} {q : mj_H} (f0 : mj_ld l 0 = some (.ref x0)) (f1 : mj_ld l 1 = some (.ref x1)) (f2 : mj_ld l 2 = some (.int x2)) (e : J129_36 xt ct O N x0 x1 x2 s0 s1 s2 H = some q) : mj_Run kY xt ct (d + 8) 129 36 l [.int s0, .ref s1, .ref s2] H (.inl none, q) := by
  unfold J129_36 at e
  exact (
  t_bd e fun k18 c19 e20 =>
  t_bd e20 fun r21 c22 e23 =>
  c_cal (st2 := []) (s_cv (as := [.ref s2, .ref s1, .int s0]) (st' := []) ⟨c129_36.1, c129_36.2.1, c129_36_t _ (gE_ok c19).2, c129_36.2.2⟩ rfl (gE_ok c19).1 ⟨Nat.le_of_ble_eq_true rfl, Nat.le_of_ble_eq_true rfl, Nat.le_of_ble_eq_true rfl⟩ rfl rfl) (C128_ok hct hO c22) (Nat.add_lt_add_left (by decide) d) rfl <|
  r_aloadn c129_39 f1 <|
  r_aloadn c129_40 f0 <|
  t_bd e23 fun r24 c25 e26 =>
  c_gI c129_41 c25 <|
  t_bd e26 fun k27 c28 e29 =>
  t_bd e29 fun r30 c31 e32 =>
  c_cal (st2 := [.ref r30.1]) (s_cv (as := [.ref x1, .int r24]) (st' := []) c129_44 rfl (gK_ok c28) ⟨Nat.le_of_ble_eq_true rfl, Nat.le_of_ble_eq_true rfl, Nat.le_of_ble_eq_true rfl⟩ rfl rfl) (C13_ok hct hO c31) (Nat.add_lt_add_left (by decide) d) rfl <|
  r_pop c129_47 rfl <|
  r_aloadn c129_48 f0 <|
  t_bd e32 fun r33 c34 e35 =>
  c_gA c129_49 c34 <|
  r_aloadn c129_52 f1 <|
  r_aloadn c129_53 f0 <|
  t_bd e35 fun r36 c37 e38 =>
  c_gA c129_54 c37 <|
  t_bd e38 fun r39 c40 e41 =>
  c_dsp (as := [.ref r36]) (v := (vI r39.1)) (st2 := [.int r39.1, .ref x1, .ref r33]) c129_57 c129_57_t rfl ⟨Nat.le_of_ble_eq_true rfl, Nat.le_of_ble_eq_true rfl, Nat.le_of_ble_eq_true rfl⟩ rfl rfl (CB_ok hct hO c40) (Nat.add_lt_add_left (by decide) d) <|
  r_iloadn c129_60 f2 <|
  t_if e41 (fun b42 e43 =>
    r_icmpT c129_61 b42 <|
    r_iconst c129_68 <|
    J129_69_ok hct hO  e43
  ) (fun b42 e43 =>
    r_icmpF c129_61 b42 <|
    r_iconst c129_64 <|
    r_goto c129_65 <|
    J129_69_ok hct hO  e43
  ))
def J129_31 (xt : mj_X) (ct : Nat → Value) (O : OR) (N : Nat) (x0 : Nat) (x1 : Nat) (x2 : Int32) (s0 : Nat) (s1 : Nat) (H : mj_H) : Option (mj_H) :=
  J129_36 xt ct O N x0 x1 x2 1 s0 s1 H
theorem J129_31_ok {xt : mj_X} {ct : Nat → Value} {O : OR} {d N : Nat} (hct : ct 0 = .int 1) (hO : oOK xt ct d O) {l : mj_L} {x0 : Nat} {x1 : Nat} {x2 : Int32} {s0 : Nat} {s1 : Nat} {H : mj_H} {q : mj_H} (f0 : mj_ld l 0 = some (.ref x0)) (f1 : mj_ld l 1 = some (.ref x1)) (f2 : mj_ld l 2 = some (.int x2)) (e : J129_31 xt ct O N x0 x1 x2 s0 s1 H = some q) : mj_Run kY xt ct (d + 8) 129 31 l [.ref s0, .ref s1] H (.inl none, q) := by
  unfold J129_31 at e
  exact (
  r_iconst c129_31 <|
  r_goto c129_32 <|
  J129_36_ok hct hO f0 f1 f2 e)
def J129_35 (xt : mj_X) (ct : Nat → Value) (O : OR) (N : Nat) (x0 : Nat) (x1 : Nat) (x2 : Int32) (s0 : Nat) (s1 : Nat) (H : mj_H) : Option (mj_H) :=
  J129_36 xt ct O N x0 x1 x2 0 s0 s1 H
theorem J129_35_ok {xt : mj_X} {ct : Nat → Value} {O : OR} {d N : Nat} (hct : ct 0 = .int 1) (hO : oOK xt ct d O) {l : mj_L} {x0 : Nat} {x1 : Nat} {x2 : Int32} {s0 : Nat} {s1 : Nat} {H : mj_H} {q : mj_H} (f0 : mj_ld l 0 = some (.ref x0)) (f1 : mj_ld l 1 = some (.ref x1)) (f2 : mj_ld l 2 = some (.int x2)) (e : J129_35 xt ct O N x0 x1 x2 s0 s1 H = some q) : mj_Run kY xt ct (d + 8) 129 35 l [.ref s0, .ref s1] H (.inl none, q) := by
  unfold J129_35 at e
  exact (
  r_iconst c129_35 <|
  J129_36_ok hct hO f0 f1 f2 e)
/-- DiceOdds$Operation.write(Ljava/lang/StringBuilder;)V -/
def C129 (xt : mj_X) (ct : Nat → Value) (O : OR) (N : Nat) (x0 : Nat) (x1 : Nat) (H : mj_H) : Option (mj_H) :=
  (gK H x0 10).bind fun k1 =>
  (C126 xt ct O N x0 H).bind fun r4 =>
  (gA r4.2 x0 10 1).bind fun r7 =>
  (CB xt ct O N r7 r4.2).bind fun r10 =>
  (gA r10.2 x0 10 1).bind fun r13 =>
  bif mj_c2 .lt r10.1 r4.1 then
    J129_31 xt ct O N x0 x1 r4.1 x1 r13 r10.2
  else
  bif mj_c1 .ne r10.1 then
    J129_35 xt ct O N x0 x1 r4.1 x1 r13 r10.2
  else
  bif mj_c1 .ne r4.1 then
    J129_35 xt ct O N x0 x1 r4.1 x1 r13 r10.2
  else
  J129_31 xt ct O N x0 x1 r4.1 x1 r13 r10.2
theorem C129_ok {xt : mj_X} {ct : Nat → Value} {O : OR} {d N : Nat} (hct : ct 0 = .int 1) (hO : oOK xt ct d O) {x0 : Nat} {x1 : Nat} {H : mj_H} {q : mj_H} (e : C129 xt ct O N x0 x1 H = some q) : mj_Run kY xt ct (d + 8) 129 0 (lv_args 0 [.ref x0, .ref x1]) [] H (.inl none, q) := by
  unfold C129 at e
  exact (
  r_aloadn c129_0 rfl <|
  t_bd e fun k1 c2 e3 =>
  t_bd e3 fun r4 c5 e6 =>
  c_cal (st2 := [.int r4.1]) (s_cv (as := [.ref x0]) (st' := []) c129_1 rfl (gK_ok c2) ⟨Nat.le_of_ble_eq_true rfl, Nat.le_of_ble_eq_true rfl, Nat.le_of_ble_eq_true rfl⟩ rfl rfl) (C126_ok hct hO c5) (Nat.add_lt_add_left (by decide) d) rfl <|
  r_istoren c129_4 <|
  r_aloadn c129_5 (ld1_ne rfl (by decide) (Or.inl (by decide))) <|
  t_bd e6 fun r7 c8 e9 =>
  c_gA c129_6 c8 <|
  t_bd e9 fun r10 c11 e12 =>
  c_dsp (as := [.ref r7]) (v := (vI r10.1)) (st2 := [.int r10.1]) c129_9 c129_9_t rfl ⟨Nat.le_of_ble_eq_true rfl, Nat.le_of_ble_eq_true rfl, Nat.le_of_ble_eq_true rfl⟩ rfl rfl (CB_ok hct hO c11) (Nat.add_lt_add_left (by decide) d) <|
  r_istoren c129_12 <|
  r_aloadn c129_13 (ld1_ne (ld1_ne rfl (by decide) (Or.inl (by decide))) (by decide) (Or.inl (by decide))) <|
  t_bd e12 fun r13 c14 e15 =>
  c_gA c129_14 c14 <|
  r_aloadn c129_17 (ld1_ne (ld1_ne rfl (by decide) (Or.inr rfl)) (by decide) (Or.inl (by decide))) <|
  r_iloadn c129_18 ld1_eq <|
  r_iloadn c129_19 (ld1_ne ld1_eq (by decide) (Or.inr rfl)) <|
  t_if e15 (fun b16 e17 =>
    r_icmpT c129_20 b16 <|
    J129_31_ok hct hO (ld1_ne (ld1_ne rfl (by decide) (Or.inl (by decide))) (by decide) (Or.inl (by decide))) (ld1_ne (ld1_ne rfl (by decide) (Or.inr rfl)) (by decide) (Or.inl (by decide))) (ld1_ne ld1_eq (by decide) (Or.inr rfl)) e17
  ) (fun b16 e17 =>
    r_icmpF c129_20 b16 <|
    r_iloadn c129_23 ld1_eq <|
    t_if e17 (fun b50 e51 =>
      r_ifT c129_24 b50 <|
      J129_35_ok hct hO (ld1_ne (ld1_ne rfl (by decide) (Or.inl (by decide))) (by decide) (Or.inl (by decide))) (ld1_ne (ld1_ne rfl (by decide) (Or.inr rfl)) (by decide) (Or.inl (by decide))) (ld1_ne ld1_eq (by decide) (Or.inr rfl)) e51
    ) (fun b50 e51 =>
      r_ifF c129_24 b50 <|
      r_iloadn c129_27 (ld1_ne ld1_eq (by decide) (Or.inr rfl)) <|
      t_if e51 (fun b52 e53 =>
        r_ifT c129_28 b52 <|
        J129_35_ok hct hO (ld1_ne (ld1_ne rfl (by decide) (Or.inl (by decide))) (by decide) (Or.inl (by decide))) (ld1_ne (ld1_ne rfl (by decide) (Or.inr rfl)) (by decide) (Or.inl (by decide))) (ld1_ne ld1_eq (by decide) (Or.inr rfl)) e53
      ) (fun b52 e53 =>
        r_ifF c129_28 b52 <|
        J129_31_ok hct hO (ld1_ne (ld1_ne rfl (by decide) (Or.inl (by decide))) (by decide) (Or.inl (by decide))) (ld1_ne (ld1_ne rfl (by decide) (Or.inr rfl)) (by decide) (Or.inl (by decide))) (ld1_ne ld1_eq (by decide) (Or.inr rfl)) e53
      )
    )
  ))
def J130_35 (xt : mj_X) (ct : Nat → Value) (O : OR) (N : Nat)  (H : mj_H) : Option (mj_H) :=
  some H
theorem J130_35_ok {xt : mj_X} {ct : Nat → Value} {O : OR} {d N : Nat} (hct : ct 0 = .int 1) (hO : oOK xt ct d O) {l : mj_L}  {H : mj_H} {q : mj_H}  (e : J130_35 xt ct O N  H = some q) : mj_Run kY xt ct (d + 7) 130 35 l [] H (.inl none, q) := by
  unfold J130_35 at e
  exact (
  (by cases e; exact (r_ret c130_35)))
/-- DiceOdds$Plain.write(Ljava/lang/StringBuilder;)V -/
def C130 (xt : mj_X) (ct : Nat → Value) (O : OR) (N : Nat) (x0 : Nat) (x1 : Nat) (H : mj_H) : Option (mj_H) :=
  (gI H x0 7 0).bind fun r1 =>
  bif mj_c2 .ne r1 (-1000) then
    (gI H x0 7 0).bind fun r6 =>
    (gK H x1 0).bind fun k9 =>
    (C13 xt ct O N x1 (((65 + r6) : Int32).toUInt32 % 65536).toInt32 H).bind fun r12 =>
    J130_35 xt ct O N r12.2
  else
  (gI H x0 7 1).bind fun r15 =>
  (gK H x1 0).bind fun k18 =>
  (C51 xt ct O N x1 r15 H).bind fun r21 =>
  J130_35 xt ct O N r21.2
theorem C130_ok {xt : mj_X} {ct : Nat → Value} {O : OR} {d N : Nat} (hct : ct 0 = .int 1) (hO : oOK xt ct d O) {x0 : Nat} {x1 : Nat} {H : mj_H} {q : mj_H} (e : C130 xt ct O N x0 x1 H = some q) : mj_Run kY xt ct (d + 7) 130 0 (lv_args 0 [.ref x0, .ref x1]) [] H (.inl none, q) := by
  unfold C130 at e
  exact (
  r_aloadn c130_0 rfl <|
  t_bd e fun r1 c2 e3 =>
  c_gI c130_1 c2 <|
  r_sipush c130_4 <|
  t_if e3 (fun b4 e5 =>
    r_icmpT c130_7 b4 <|
    r_aloadn c130_22 rfl <|
    r_bipush c130_23 <|
    r_aloadn c130_25 rfl <|
    t_bd e5 fun r6 c7 e8 =>
    c_gI c130_26 c7 <|
    r_iadd c130_29 rfl <|
    r_i2c c130_30 rfl <|
    t_bd e8 fun k9 c10 e11 =>
    t_bd e11 fun r12 c13 e14 =>
    c_cal (st2 := [.ref r12.1]) (s_cv (as := [.ref x1, .int (((65 + r6) : Int32).toUInt32 % 65536).toInt32]) (st' := []) c130_31 rfl (gK_ok c10) ⟨Nat.le_of_ble_eq_true rfl, Nat.le_of_ble_eq_true rfl, Nat.le_of_ble_eq_true rfl⟩ rfl rfl) (C13_ok hct hO c13) (Nat.add_lt_add_left (by decide) d) rfl <|
    r_pop c130_34 rfl <|
    J130_35_ok hct hO  e14
  ) (fun b4 e5 =>
    r_icmpF c130_7 b4 <|
    r_aloadn c130_10 rfl <|
    r_aloadn c130_11 rfl <|
    t_bd e5 fun r15 c16 e17 =>
    c_gI c130_12 c16 <|
    t_bd e17 fun k18 c19 e20 =>
    t_bd e20 fun r21 c22 e23 =>
    c_cal (st2 := [.ref r21.1]) (s_cv (as := [.ref x1, .int r15]) (st' := []) c130_15 rfl (gK_ok c19) ⟨Nat.le_of_ble_eq_true rfl, Nat.le_of_ble_eq_true rfl, Nat.le_of_ble_eq_true rfl⟩ rfl rfl) (C51_ok hct hO c22) (Nat.add_lt_add_left (by decide) d) rfl <|
    r_pop c130_18 rfl <|
    r_goto c130_19 <|
    J130_35_ok hct hO  e23
  ))
def LG131_2 (xt : mj_X) (ct : Nat → Value) (d : Nat) (q : mj_H) (x0 : Nat) (x1 : Nat) (x2 : Int32) (H : mj_H) : Prop := ∀ l, mj_ld l 0 = some (.ref x0) → mj_ld l 1 = some (.ref x1) → mj_ld l 2 = some (.int x2) → mj_Run kY xt ct (d + 7) 131 2 l [] H (.inl none, q)
def GG131_2 (xt : mj_X) (ct : Nat → Value) (d : Nat) (q : mj_H) (o : (Nat × Nat × Int32 × mj_H) ⊕ (mj_H)) : Prop := match o with
  | .inl (x0, x1, x2, H) => LG131_2 xt ct d q x0 x1 x2 H
  | .inr r => r = q
def J131_23 (xt : mj_X) (ct : Nat → Value) (O : OR) (N : Nat) (x0 : Nat) (x1 : Nat) (x2 : Int32) (s0 : Int32) (s1 : Nat) (H : mj_H) : Option ((Nat × Nat × Int32 × mj_H) ⊕ (mj_H)) :=
  (gK H s1 0).bind fun k17 =>
  (C13 xt ct O N s1 s0 H).bind fun r20 =>
  (gA r20.2 x0 9 0).bind fun r23 =>
  (aI xt r20.2 r23 x2).bind fun r26 =>
  (gK r20.2 x1 0).bind fun k29 =>
  (C51 xt ct O N x1 r26 r20.2).bind fun r32 =>
  some (.inl (x0, x1, (x2 + 1), r32.2))
theorem J131_23_ok {xt : mj_X} {ct : Nat → Value} {O : OR} {d N : Nat} (hct : ct 0 = .int 1) (hO : oOK xt ct d O) {l : mj_L} {x0 : Nat} {x1 : Nat} {x2 : Int32} {s0 : Int32} {s1 : Nat} {H : mj_H} {o : (Nat × Nat × Int32 × mj_H) ⊕ (mj_H)} {q : mj_H} (f0 : mj_ld l 0 = some (.ref x0)) (f1 : mj_ld l 1 = some (.ref x1)) (f2 : mj_ld l 2 = some (.int x2)) (e : J131_23 xt ct O N x0 x1 x2 s0 s1 H = some o) (g : GG131_2 xt ct d q o) : mj_Run kY xt ct (d + 7) 131 23 l [.int s0, .ref s1] H (.inl none, q) := by
  unfold J131_23 at e
  exact (
  t_bd e fun k17 c18 e19 =>
  t_bd e19 fun r20 c21 e22 =>
  c_cal (st2 := [.ref r20.1]) (s_cv (as := [.ref s1, .int s0]) (st' := []) c131_23 rfl (gK_ok c18) ⟨Nat.le_of_ble_eq_true rfl, Nat.le_of_ble_eq_true rfl, Nat.le_of_ble_eq_true rfl⟩ rfl rfl) (C13_ok hct hO c21) (Nat.add_lt_add_left (by decide) d) rfl <|
  r_pop c131_26 rfl <|
  r_aloadn c131_27 f1 <|
  r_aloadn c131_28 f0 <|
  t_bd e22 fun r23 c24 e25 =>
  c_gA c131_29 c24 <|
  r_iloadn c131_32 f2 <|
  t_bd e25 fun r26 c27 e28 =>
  c_aI c131_33 c27 <|
  t_bd e28 fun k29 c30 e31 =>
  t_bd e31 fun r32 c33 e34 =>
  c_cal (st2 := [.ref r32.1]) (s_cv (as := [.ref x1, .int r26]) (st' := []) c131_34 rfl (gK_ok c30) ⟨Nat.le_of_ble_eq_true rfl, Nat.le_of_ble_eq_true rfl, Nat.le_of_ble_eq_true rfl⟩ rfl rfl) (C51_ok hct hO c33) (Nat.add_lt_add_left (by decide) d) rfl <|
  r_pop c131_37 rfl <|
  r_iinc c131_38 f2 <|
  r_goto c131_41 <|
  t_rg e34 g (fun (z : LG131_2 xt ct d q x0 x1 (x2 + 1) r32.2) => z _ (ld1_ne f0 (by decide) (Or.inl (by decide))) (ld1_ne f1 (by decide) (Or.inr rfl)) ld1_eq))
def B131_2 (xt : mj_X) (ct : Nat → Value) (O : OR) (N : Nat) (s : Nat × Nat × Int32 × mj_H) : Option ((Nat × Nat × Int32 × mj_H) ⊕ (mj_H)) :=
  (gA s.2.2.2 s.1 9 0).bind fun r1 =>
  (aN xt s.2.2.2 r1).bind fun r4 =>
  bif mj_c2 .ge s.2.2.1 r4 then
    (gK s.2.2.2 s.2.1 0).bind fun k9 =>
    (C13 xt ct O N s.2.1 93 s.2.2.2).bind fun r12 =>
    some (.inr r12.2)
  else
  bif mj_c1 .ne s.2.2.1 then
    J131_23 xt ct O N s.1 s.2.1 s.2.2.1 44 s.2.1 s.2.2.2
  else
  J131_23 xt ct O N s.1 s.2.1 s.2.2.1 91 s.2.1 s.2.2.2
def L131_2 (xt : mj_X) (ct : Nat → Value) (O : OR) (N : Nat) (s : Nat × Nat × Int32 × mj_H) : Option (mj_H) := t_lp (B131_2 xt ct O N) N s
theorem B131_2_ok {xt : mj_X} {ct : Nat → Value} {O : OR} {d N : Nat} (hct : ct 0 = .int 1) (hO : oOK xt ct d O) {s : Nat × Nat × Int32 × mj_H} {o : (Nat × Nat × Int32 × mj_H) ⊕ (mj_H)} {q : mj_H} (e : B131_2 xt ct O N s = some o) (g : GG131_2 xt ct d q o) : LG131_2 xt ct d q s.1 s.2.1 s.2.2.1 s.2.2.2 := by
  unfold B131_2 at e
  exact (fun l f0 f1 f2 =>
  r_iloadn c131_2 f2 <|
  r_aloadn c131_3 f0 <|
  t_bd e fun r1 c2 e3 =>
  c_gA c131_4 c2 <|
  t_bd e3 fun r4 c5 e6 =>
  c_len c131_7 c5 <|
  t_if e6 (fun b7 e8 =>
    r_icmpT c131_8 b7 <|
    r_aloadn c131_44 f1 <|
    r_bipush c131_45 <|
    t_bd e8 fun k9 c10 e11 =>
    t_bd e11 fun r12 c13 e14 =>
    c_cal (st2 := [.ref r12.1]) (s_cv (as := [.ref s.2.1, .int 93]) (st' := []) c131_47 rfl (gK_ok c10) ⟨Nat.le_of_ble_eq_true rfl, Nat.le_of_ble_eq_true rfl, Nat.le_of_ble_eq_true rfl⟩ rfl rfl) (C13_ok hct hO c13) (Nat.add_lt_add_left (by decide) d) rfl <|
    r_pop c131_50 rfl <|
    t_rg e14 g (fun (z : r12.2 = q) => (by cases z; exact (r_ret c131_51)))
  ) (fun b7 e8 =>
    r_icmpF c131_8 b7 <|
    r_aloadn c131_11 f1 <|
    r_iloadn c131_12 f2 <|
    t_if e8 (fun b15 e16 =>
      r_ifT c131_13 b15 <|
      r_bipush c131_21 <|
      J131_23_ok hct hO f0 f1 f2 e16 g
    ) (fun b15 e16 =>
      r_ifF c131_13 b15 <|
      r_bipush c131_16 <|
      r_goto c131_18 <|
      J131_23_ok hct hO f0 f1 f2 e16 g
    )
  ))
theorem L131_2_ok {xt : mj_X} {ct : Nat → Value} {O : OR} {d N : Nat} (hct : ct 0 = .int 1) (hO : oOK xt ct d O) {x0 : Nat} {x1 : Nat} {x2 : Int32} {H : mj_H} {q : mj_H} (e : L131_2 xt ct O N (x0, x1, x2, H) = some q) : LG131_2 xt ct d q x0 x1 x2 H :=
  t_lp_ok (G := fun s => LG131_2 xt ct d q s.1 s.2.1 s.2.2.1 s.2.2.2) (fun s s' e g => B131_2_ok hct hO e (by obtain ⟨_, _, _, _⟩ := s'; exact g)) (fun s e => B131_2_ok hct hO e rfl) N (x0, x1, x2, H) e
/-- DiceOdds$Row.write(Ljava/lang/StringBuilder;)V -/
def C131 (xt : mj_X) (ct : Nat → Value) (O : OR) (N : Nat) (x0 : Nat) (x1 : Nat) (H : mj_H) : Option (mj_H) :=
  L131_2 xt ct O N (x0, x1, 0, H)
theorem C131_ok {xt : mj_X} {ct : Nat → Value} {O : OR} {d N : Nat} (hct : ct 0 = .int 1) (hO : oOK xt ct d O) {x0 : Nat} {x1 : Nat} {H : mj_H} {q : mj_H} (e : C131 xt ct O N x0 x1 H = some q) : mj_Run kY xt ct (d + 7) 131 0 (lv_args 0 [.ref x0, .ref x1]) [] H (.inl none, q) := by
  unfold C131 at e
  exact (
  r_iconst c131_0 <|
  r_istoren c131_1 <|
  L131_2_ok hct hO e _ (ld1_ne rfl (by decide) (Or.inl (by decide))) (ld1_ne rfl (by decide) (Or.inr rfl)) ld1_eq)
def LG143_18 (xt : mj_X) (ct : Nat → Value) (d : Nat) (q : (Nat) × mj_H) (x0 : Nat) (x1 : Nat) (x2 : Int32) (H : mj_H) : Prop := ∀ l, mj_ld l 0 = some (.ref x0) → mj_ld l 1 = some (.ref x1) → mj_ld l 2 = some (.int x2) → mj_Run kY xt ct (d + 3) 143 18 l [] H (.inl (vA q.1), q.2)
def GG143_18 (xt : mj_X) (ct : Nat → Value) (d : Nat) (q : (Nat) × mj_H) (o : (Nat × Nat × Int32 × mj_H) ⊕ ((Nat) × mj_H)) : Prop := match o with
  | .inl (x0, x1, x2, H) => LG143_18 xt ct d q x0 x1 x2 H
  | .inr r => r = q
def LG143_44 (xt : mj_X) (ct : Nat → Value) (d : Nat) (q : (Nat) × mj_H) (x0 : Nat) (x1 : Nat) (x2 : Int32) (x3 : Int64) (x5 : Int32) (H : mj_H) : Prop := ∀ l, mj_ld l 0 = some (.ref x0) → mj_ld l 1 = some (.ref x1) → mj_ld l 2 = some (.int x2) → mj_ld l 3 = some (.long x3) → mj_ld l 5 = some (.int x5) → mj_Run kY xt ct (d + 3) 143 44 l [] H (.inl (vA q.1), q.2)
def GG143_44 (xt : mj_X) (ct : Nat → Value) (d : Nat) (q : (Nat) × mj_H) (o : (Nat × Nat × Int32 × Int64 × Int32 × mj_H) ⊕ ((Nat × Nat × Int32 × mj_H) ⊕ ((Nat) × mj_H))) : Prop := match o with
  | .inl (x0, x1, x2, x3, x5, H) => LG143_44 xt ct d q x0 x1 x2 x3 x5 H
  | .inr r => GG143_18 xt ct d q r
def B143_44 (xt : mj_X) (ct : Nat → Value) (O : OR) (N : Nat) (s : Nat × Nat × Int32 × Int64 × Int32 × mj_H) : Option ((Nat × Nat × Int32 × Int64 × Int32 × mj_H) ⊕ ((Nat × Nat × Int32 × mj_H) ⊕ ((Nat) × mj_H))) :=
  (gI s.2.2.2.2.2 s.1 8 1).bind fun r33 =>
  bif mj_c2 .ge s.2.2.2.2.1 r33 then
    some (.inr (.inl (s.1, s.2.1, (s.2.2.1 + 1), s.2.2.2.2.2)))
  else
  (gI s.2.2.2.2.2 s.1 8 1).bind fun r38 =>
  (sL s.2.2.2.2.2 s.2.1 ((s.2.2.1 * r38) + s.2.2.2.2.1) s.2.2.2.1).bind fun H41 =>
  some (.inl (s.1, s.2.1, s.2.2.1, s.2.2.2.1, (s.2.2.2.2.1 + 1), H41))
def L143_44 (xt : mj_X) (ct : Nat → Value) (O : OR) (N : Nat) (s : Nat × Nat × Int32 × Int64 × Int32 × mj_H) : Option ((Nat × Nat × Int32 × mj_H) ⊕ ((Nat) × mj_H)) := t_lp (B143_44 xt ct O N) N s
theorem B143_44_ok {xt : mj_X} {ct : Nat → Value} {O : OR} {d N : Nat} (hct : ct 0 = .int 1) (hO : oOK xt ct d O) {s : Nat × Nat × Int32 × Int64 × Int32 × mj_H} {o : (Nat × Nat × Int32 × Int64 × Int32 × mj_H) ⊕ ((Nat × Nat × Int32 × mj_H) ⊕ ((Nat) × mj_H))} {q : (Nat) × mj_H} (e : B143_44 xt ct O N s = some o) (g : GG143_44 xt ct d q o) : LG143_44 xt ct d q s.1 s.2.1 s.2.2.1 s.2.2.2.1 s.2.2.2.2.1 s.2.2.2.2.2 := by
  unfold B143_44 at e
  exact (fun l f0 f1 f2 f3 f5 =>
  r_iload c143_44 f5 <|
  r_aloadn c143_46 f0 <|
  t_bd e fun r33 c34 e35 =>
  c_gI c143_47 c34 <|
  t_if e35 (fun b36 e37 =>
    r_icmpT c143_50 b36 <|
    r_iinc c143_71 f2 <|
    r_goto c143_74 <|
    t_rg e37 g (fun (z : LG143_18 xt ct d q s.1 s.2.1 (s.2.2.1 + 1) s.2.2.2.2.2) => z _ (ld1_ne f0 (by decide) (Or.inl (by decide))) (ld1_ne f1 (by decide) (Or.inr rfl)) ld1_eq)
  ) (fun b36 e37 =>
    r_icmpF c143_50 b36 <|
    r_aloadn c143_53 f1 <|
    r_iloadn c143_54 f2 <|
    r_aloadn c143_55 f0 <|
    t_bd e37 fun r38 c39 e40 =>
    c_gI c143_56 c39 <|
    r_imul c143_59 rfl <|
    r_iload c143_60 f5 <|
    r_iadd c143_62 rfl <|
    r_lloadn c143_63 f3 <|
    t_bd e40 fun H41 c42 e43 =>
    c_sL c143_64 c42 <|
    r_iinc c143_65 f5 <|
    r_goto c143_68 <|
    t_rg e43 g (fun (z : LG143_44 xt ct d q s.1 s.2.1 s.2.2.1 s.2.2.2.1 (s.2.2.2.2.1 + 1) H41) => z _ (ld1_ne f0 (by decide) (Or.inl (by decide))) (ld1_ne f1 (by decide) (Or.inl (by decide))) (ld1_ne f2 (by decide) (Or.inl (by decide))) (ld1_ne f3 (by decide) (Or.inl (by decide))) ld1_eq)
  ))
theorem L143_44_ok {xt : mj_X} {ct : Nat → Value} {O : OR} {d N : Nat} (hct : ct 0 = .int 1) (hO : oOK xt ct d O) {x0 : Nat} {x1 : Nat} {x2 : Int32} {x3 : Int64} {x5 : Int32} {H : mj_H} {o : (Nat × Nat × Int32 × mj_H) ⊕ ((Nat) × mj_H)} {q : (Nat) × mj_H} (e : L143_44 xt ct O N (x0, x1, x2, x3, x5, H) = some o) (g : GG143_18 xt ct d q o) : LG143_44 xt ct d q x0 x1 x2 x3 x5 H :=
  t_lp_ok (G := fun s => LG143_44 xt ct d q s.1 s.2.1 s.2.2.1 s.2.2.2.1 s.2.2.2.2.1 s.2.2.2.2.2) (fun s s' e g => B143_44_ok hct hO e (by obtain ⟨_, _, _, _, _, _⟩ := s'; exact g)) (fun s e => B143_44_ok hct hO e g) N (x0, x1, x2, x3, x5, H) e
def B143_18 (xt : mj_X) (ct : Nat → Value) (O : OR) (N : Nat) (s : Nat × Nat × Int32 × mj_H) : Option ((Nat × Nat × Int32 × mj_H) ⊕ ((Nat) × mj_H)) :=
  (gI s.2.2.2 s.1 8 3).bind fun r10 =>
  bif mj_c2 .gt s.2.2.1 r10 then
    (gI s.2.2.2 s.1 8 1).bind fun r15 =>
    (gI s.2.2.2 s.1 8 3).bind fun r18 =>
    (sL s.2.2.2 s.2.1 (r15 * (r18 + 1)) 1).bind fun H21 =>
    some (.inr (s.2.1, H21))
  else
  (gI s.2.2.2 s.1 8 1).bind fun r24 =>
  (gI s.2.2.2 s.1 8 3).bind fun r27 =>
  (C101 xt ct O N (r24 : Int32).toInt64 (r27 - s.2.2.1) s.2.2.2).bind fun r30 =>
  L143_44 xt ct O N (s.1, s.2.1, s.2.2.1, r30.1, 1, r30.2)
def L143_18 (xt : mj_X) (ct : Nat → Value) (O : OR) (N : Nat) (s : Nat × Nat × Int32 × mj_H) : Option ((Nat) × mj_H) := t_lp (B143_18 xt ct O N) N s
theorem B143_18_ok {xt : mj_X} {ct : Nat → Value} {O : OR} {d N : Nat} (hct : ct 0 = .int 1) (hO : oOK xt ct d O) {s : Nat × Nat × Int32 × mj_H} {o : (Nat × Nat × Int32 × mj_H) ⊕ ((Nat) × mj_H)} {q : (Nat) × mj_H} (e : B143_18 xt ct O N s = some o) (g : GG143_18 xt ct d q o) : LG143_18 xt ct d q s.1 s.2.1 s.2.2.1 s.2.2.2 := by
  unfold B143_18 at e
  exact (fun l f0 f1 f2 =>
  r_iloadn c143_18 f2 <|
  r_aloadn c143_19 f0 <|
  t_bd e fun r10 c11 e12 =>
  c_gI c143_20 c11 <|
  t_if e12 (fun b13 e14 =>
    r_icmpT c143_23 b13 <|
    r_aloadn c143_77 f1 <|
    r_aloadn c143_78 f0 <|
    t_bd e14 fun r15 c16 e17 =>
    c_gI c143_79 c16 <|
    r_aloadn c143_82 f0 <|
    t_bd e17 fun r18 c19 e20 =>
    c_gI c143_83 c19 <|
    r_iconst c143_86 <|
    r_iadd c143_87 rfl <|
    r_imul c143_88 rfl <|
    r_lconst c143_89 <|
    t_bd e20 fun H21 c22 e23 =>
    c_sL c143_90 c22 <|
    r_aloadn c143_91 f1 <|
    t_rg e23 g (fun (z : (s.2.1, H21) = q) => (by cases z; exact (r_aret c143_92)))
  ) (fun b13 e14 =>
    r_icmpF c143_23 b13 <|
    r_aloadn c143_26 f0 <|
    t_bd e14 fun r24 c25 e26 =>
    c_gI c143_27 c25 <|
    r_i2l c143_30 rfl <|
    r_aloadn c143_31 f0 <|
    t_bd e26 fun r27 c28 e29 =>
    c_gI c143_32 c28 <|
    r_iloadn c143_35 f2 <|
    r_isub c143_36 rfl <|
    t_bd e29 fun r30 c31 e32 =>
    c_cal (st2 := [.long r30.1]) (s_cs (as := [.long (r24 : Int32).toInt64, .int (r27 - s.2.2.1)]) (st' := []) c143_37 ⟨Nat.le_of_ble_eq_true rfl, Nat.le_of_ble_eq_true rfl, Nat.le_of_ble_eq_true rfl⟩ rfl rfl) (C101_ok hct hO c31) (Nat.add_lt_add_left (by decide) d) rfl <|
    r_lstoren c143_40 <|
    r_iconst c143_41 <|
    r_istore c143_42 <|
    L143_44_ok hct hO e32 g _ (ld1_ne (ld2_ne f0 (by decide) (Or.inl (by decide))) (by decide) (Or.inl (by decide))) (ld1_ne (ld2_ne f1 (by decide) (Or.inl (by decide))) (by decide) (Or.inl (by decide))) (ld1_ne (ld2_ne f2 (by decide) (Or.inr rfl)) (by decide) (Or.inl (by decide))) (ld1_ne ld2_eq (by decide) (Or.inl (by decide))) ld1_eq
  ))
theorem L143_18_ok {xt : mj_X} {ct : Nat → Value} {O : OR} {d N : Nat} (hct : ct 0 = .int 1) (hO : oOK xt ct d O) {x0 : Nat} {x1 : Nat} {x2 : Int32} {H : mj_H} {q : (Nat) × mj_H} (e : L143_18 xt ct O N (x0, x1, x2, H) = some q) : LG143_18 xt ct d q x0 x1 x2 H :=
  t_lp_ok (G := fun s => LG143_18 xt ct d q s.1 s.2.1 s.2.2.1 s.2.2.2) (fun s s' e g => B143_18_ok hct hO e (by obtain ⟨_, _, _, _⟩ := s'; exact g)) (fun s e => B143_18_ok hct hO e rfl) N (x0, x1, x2, H) e
/-- DiceOdds$Dice.countRollsMore()[J -/
def C143 (xt : mj_X) (ct : Nat → Value) (O : OR) (N : Nat) (x0 : Nat) (H : mj_H) : Option ((Nat) × mj_H) :=
  (gI H x0 8 1).bind fun r1 =>
  (gI H x0 8 3).bind fun r4 =>
  (nA H .long ((r1 * (r4 + 1)) + 1)).bind fun r7 =>
  L143_18 xt ct O N (x0, r7.1, 0, r7.2)
theorem C143_ok {xt : mj_X} {ct : Nat → Value} {O : OR} {d N : Nat} (hct : ct 0 = .int 1) (hO : oOK xt ct d O) {x0 : Nat} {H : mj_H} {q : (Nat) × mj_H} (e : C143 xt ct O N x0 H = some q) : mj_Run kY xt ct (d + 3) 143 0 (lv_args 0 [.ref x0]) [] H (.inl (vA q.1), q.2) := by
  unfold C143 at e
  exact (
  r_aloadn c143_0 rfl <|
  t_bd e fun r1 c2 e3 =>
  c_gI c143_1 c2 <|
  r_aloadn c143_4 rfl <|
  t_bd e3 fun r4 c5 e6 =>
  c_gI c143_5 c5 <|
  r_iconst c143_8 <|
  r_iadd c143_9 rfl <|
  r_imul c143_10 rfl <|
  r_iconst c143_11 <|
  r_iadd c143_12 rfl <|
  t_bd e6 fun r7 c8 e9 =>
  c_nA c143_13 c8 <|
  r_astoren c143_15 <|
  r_iconst c143_16 <|
  r_istoren c143_17 <|
  L143_18_ok hct hO e9 _ (ld1_ne (ld1_ne rfl (by decide) (Or.inr rfl)) (by decide) (Or.inl (by decide))) (ld1_ne ld1_eq (by decide) (Or.inr rfl)) ld1_eq)
def LG145_6 (xt : mj_X) (ct : Nat → Value) (d : Nat) (q : mj_H) (x0 : Nat) (x1 : Int64) (x3 : Int32) (x4 : Int32) (H : mj_H) : Prop := ∀ l, mj_ld l 0 = some (.ref x0) → mj_ld l 1 = some (.long x1) → mj_ld l 3 = some (.int x3) → mj_ld l 4 = some (.int x4) → mj_Run kY xt ct (d + 1) 145 6 l [] H (.inl none, q)
def GG145_6 (xt : mj_X) (ct : Nat → Value) (d : Nat) (q : mj_H) (o : (Nat × Int64 × Int32 × Int32 × mj_H) ⊕ (mj_H)) : Prop := match o with
  | .inl (x0, x1, x3, x4, H) => LG145_6 xt ct d q x0 x1 x3 x4 H
  | .inr r => r = q
def B145_6 (xt : mj_X) (ct : Nat → Value) (O : OR) (N : Nat) (s : Nat × Int64 × Int32 × Int32 × mj_H) : Option ((Nat × Int64 × Int32 × Int32 × mj_H) ⊕ (mj_H)) :=
  bif mj_c2 .ge s.2.2.1 s.2.2.2.1 then
    some (.inr s.2.2.2.2)
  else
  (sL s.2.2.2.2 s.1 s.2.2.1 s.2.1).bind fun H6 =>
  some (.inl (s.1, s.2.1, (s.2.2.1 + 1), s.2.2.2.1, H6))
def L145_6 (xt : mj_X) (ct : Nat → Value) (O : OR) (N : Nat) (s : Nat × Int64 × Int32 × Int32 × mj_H) : Option (mj_H) := t_lp (B145_6 xt ct O N) N s
theorem B145_6_ok {xt : mj_X} {ct : Nat → Value} {O : OR} {d N : Nat} (hct : ct 0 = .int 1) (hO : oOK xt ct d O) {s : Nat × Int64 × Int32 × Int32 × mj_H} {o : (Nat × Int64 × Int32 × Int32 × mj_H) ⊕ (mj_H)} {q : mj_H} (e : B145_6 xt ct O N s = some o) (g : GG145_6 xt ct d q o) : LG145_6 xt ct d q s.1 s.2.1 s.2.2.1 s.2.2.2.1 s.2.2.2.2 := by
  unfold B145_6 at e
  exact (fun l f0 f1 f3 f4 =>
  r_iloadn c145_6 f3 <|
  r_iload c145_7 f4 <|
  t_if e (fun b4 e5 =>
    r_icmpT c145_9 b4 <|
    t_rg e5 g (fun (z : s.2.2.2.2 = q) => (by cases z; exact (r_ret c145_22)))
  ) (fun b4 e5 =>
    r_icmpF c145_9 b4 <|
    r_aloadn c145_12 f0 <|
    r_iloadn c145_13 f3 <|
    r_lloadn c145_14 f1 <|
    t_bd e5 fun H6 c7 e8 =>
    c_sL c145_15 c7 <|
    r_iinc c145_16 f3 <|
    r_goto c145_19 <|
    t_rg e8 g (fun (z : LG145_6 xt ct d q s.1 s.2.1 (s.2.2.1 + 1) s.2.2.2.1 H6) => z _ (ld1_ne f0 (by decide) (Or.inl (by decide))) (ld1_ne f1 (by decide) (Or.inl (by decide))) ld1_eq (ld1_ne f4 (by decide) (Or.inl (by decide))))
  ))
theorem L145_6_ok {xt : mj_X} {ct : Nat → Value} {O : OR} {d N : Nat} (hct : ct 0 = .int 1) (hO : oOK xt ct d O) {x0 : Nat} {x1 : Int64} {x3 : Int32} {x4 : Int32} {H : mj_H} {q : mj_H} (e : L145_6 xt ct O N (x0, x1, x3, x4, H) = some q) : LG145_6 xt ct d q x0 x1 x3 x4 H :=
  t_lp_ok (G := fun s => LG145_6 xt ct d q s.1 s.2.1 s.2.2.1 s.2.2.2.1 s.2.2.2.2) (fun s s' e g => B145_6_ok hct hO e (by obtain ⟨_, _, _, _, _⟩ := s'; exact g)) (fun s e => B145_6_ok hct hO e rfl) N (x0, x1, x3, x4, H) e
/-- java.util.Arrays.fill([JJ)V -/
def C145 (xt : mj_X) (ct : Nat → Value) (O : OR) (N : Nat) (x0 : Nat) (x1 : Int64) (H : mj_H) : Option (mj_H) :=
  (aN xt H x0).bind fun r1 =>
  L145_6 xt ct O N (x0, x1, 0, r1, H)
theorem C145_ok {xt : mj_X} {ct : Nat → Value} {O : OR} {d N : Nat} (hct : ct 0 = .int 1) (hO : oOK xt ct d O) {x0 : Nat} {x1 : Int64} {H : mj_H} {q : mj_H} (e : C145 xt ct O N x0 x1 H = some q) : mj_Run kY xt ct (d + 1) 145 0 (lv_args 0 [.ref x0, .long x1]) [] H (.inl none, q) := by
  unfold C145 at e
  exact (
  r_iconst c145_0 <|
  r_istoren c145_1 <|
  r_aloadn c145_2 (ld1_ne rfl (by decide) (Or.inl (by decide))) <|
  t_bd e fun r1 c2 e3 =>
  c_len c145_3 c2 <|
  r_istore c145_4 <|
  L145_6_ok hct hO e3 _ (ld1_ne (ld1_ne rfl (by decide) (Or.inl (by decide))) (by decide) (Or.inl (by decide))) (ld1_ne (ld1_ne rfl (by decide) (Or.inl (by decide))) (by decide) (Or.inl (by decide))) (ld1_ne ld1_eq (by decide) (Or.inr rfl)) ld1_eq)
def LG146_43 (xt : mj_X) (ct : Nat → Value) (d : Nat) (q : mj_H) (x0 : Nat) (x5 : Int64) (x7 : Int32) (x8 : Int32) (x9 : Nat) (x10 : Nat) (x11 : Int32) (H : mj_H) : Prop := ∀ l, mj_ld l 0 = some (.ref x0) → mj_ld l 5 = some (.long x5) → mj_ld l 7 = some (.int x7) → mj_ld l 8 = some (.int x8) → mj_ld l 9 = some (.ref x9) → mj_ld l 10 = some (.ref x10) → mj_ld l 11 = some (.int x11) → mj_Run kY xt ct (d + 2) 146 43 l [] H (.inl none, q)
def GG146_43 (xt : mj_X) (ct : Nat → Value) (d : Nat) (q : mj_H) (o : (Nat × Int64 × Int32 × Int32 × Nat × Nat × Int32 × mj_H) ⊕ (mj_H)) : Prop := match o with
  | .inl (x0, x5, x7, x8, x9, x10, x11, H) => LG146_43 xt ct d q x0 x5 x7 x8 x9 x10 x11 H
  | .inr r => r = q
def B146_43 (xt : mj_X) (ct : Nat → Value) (O : OR) (N : Nat) (s : Nat × Int64 × Int32 × Int32 × Nat × Nat × Int32 × mj_H) : Option ((Nat × Int64 × Int32 × Int32 × Nat × Nat × Int32 × mj_H) ⊕ (mj_H)) :=
  (gI s.2.2.2.2.2.2.2 s.1 8 1).bind fun r19 =>
  bif mj_c2 .gt s.2.2.2.2.2.2.1 (s.2.2.1 * r19) then
    some (.inr s.2.2.2.2.2.2.2)
  else
  (aL xt s.2.2.2.2.2.2.2 s.2.2.2.2.2.1 (s.2.2.2.2.2.2.1 + s.2.2.2.1)).bind fun r24 =>
  (aL xt s.2.2.2.2.2.2.2 s.2.2.2.2.1 s.2.2.2.2.2.2.1).bind fun r27 =>
  (sL s.2.2.2.2.2.2.2 s.2.2.2.2.2.1 (s.2.2.2.2.2.2.1 + s.2.2.2.1) (r24 + (s.2.1 * r27))).bind fun H30 =>
  some (.inl (s.1, s.2.1, s.2.2.1, s.2.2.2.1, s.2.2.2.2.1, s.2.2.2.2.2.1, (s.2.2.2.2.2.2.1 + 1), H30))
def L146_43 (xt : mj_X) (ct : Nat → Value) (O : OR) (N : Nat) (s : Nat × Int64 × Int32 × Int32 × Nat × Nat × Int32 × mj_H) : Option (mj_H) := t_lp (B146_43 xt ct O N) N s
theorem B146_43_ok {xt : mj_X} {ct : Nat → Value} {O : OR} {d N : Nat} (hct : ct 0 = .int 1) (hO : oOK xt ct d O) {s : Nat × Int64 × Int32 × Int32 × Nat × Nat × Int32 × mj_H} {o : (Nat × Int64 × Int32 × Int32 × Nat × Nat × Int32 × mj_H) ⊕ (mj_H)} {q : mj_H} (e : B146_43 xt ct O N s = some o) (g : GG146_43 xt ct d q o) : LG146_43 xt ct d q s.1 s.2.1 s.2.2.1 s.2.2.2.1 s.2.2.2.2.1 s.2.2.2.2.2.1 s.2.2.2.2.2.2.1 s.2.2.2.2.2.2.2 := by
  unfold B146_43 at e
  exact (fun l f0 f5 f7 f8 f9 f10 f11 =>
  r_iload c146_43 f11 <|
  r_iload c146_45 f7 <|
  r_aloadn c146_47 f0 <|
  t_bd e fun r19 c20 e21 =>
  c_gI c146_48 c20 <|
  r_imul c146_51 rfl <|
  t_if e21 (fun b22 e23 =>
    r_icmpT c146_52 b22 <|
    t_rg e23 g (fun (z : s.2.2.2.2.2.2.2 = q) => (by cases z; exact (r_ret c146_80)))
  ) (fun b22 e23 =>
    r_icmpF c146_52 b22 <|
    r_aload c146_55 f10 <|
    r_iload c146_57 f11 <|
    r_iload c146_59 f8 <|
    r_iadd c146_61 rfl <|
    r_dup2ia c146_62 <|
    t_bd e23 fun r24 c25 e26 =>
    c_aL c146_63 c25 <|
    r_lload c146_64 f5 <|
    r_aload c146_66 f9 <|
    r_iload c146_68 f11 <|
    t_bd e26 fun r27 c28 e29 =>
    c_aL c146_70 c28 <|
    r_lmul c146_71 rfl <|
    r_ladd c146_72 rfl <|
    t_bd e29 fun H30 c31 e32 =>
    c_sL c146_73 c31 <|
    r_iinc c146_74 f11 <|
    r_goto c146_77 <|
    t_rg e32 g (fun (z : LG146_43 xt ct d q s.1 s.2.1 s.2.2.1 s.2.2.2.1 s.2.2.2.2.1 s.2.2.2.2.2.1 (s.2.2.2.2.2.2.1 + 1) H30) => z _ (ld1_ne f0 (by decide) (Or.inl (by decide))) (ld1_ne f5 (by decide) (Or.inl (by decide))) (ld1_ne f7 (by decide) (Or.inl (by decide))) (ld1_ne f8 (by decide) (Or.inl (by decide))) (ld1_ne f9 (by decide) (Or.inl (by decide))) (ld1_ne f10 (by decide) (Or.inr rfl)) ld1_eq)
  ))
theorem L146_43_ok {xt : mj_X} {ct : Nat → Value} {O : OR} {d N : Nat} (hct : ct 0 = .int 1) (hO : oOK xt ct d O) {x0 : Nat} {x5 : Int64} {x7 : Int32} {x8 : Int32} {x9 : Nat} {x10 : Nat} {x11 : Int32} {H : mj_H} {q : mj_H} (e : L146_43 xt ct O N (x0, x5, x7, x8, x9, x10, x11, H) = some q) : LG146_43 xt ct d q x0 x5 x7 x8 x9 x10 x11 H :=
  t_lp_ok (G := fun s => LG146_43 xt ct d q s.1 s.2.1 s.2.2.1 s.2.2.2.1 s.2.2.2.2.1 s.2.2.2.2.2.1 s.2.2.2.2.2.2.1 s.2.2.2.2.2.2.2) (fun s s' e g => B146_43_ok hct hO e (by obtain ⟨_, _, _, _, _, _, _, _⟩ := s'; exact g)) (fun s e => B146_43_ok hct hO e rfl) N (x0, x5, x7, x8, x9, x10, x11, H) e
/-- DiceOdds$Dice.showFace([[JIIIJ)V -/
def C146 (xt : mj_X) (ct : Nat → Value) (O : OR) (N : Nat) (x0 : Nat) (x1 : Nat) (x2 : Int32) (x3 : Int32) (x4 : Int32) (x5 : Int64) (H : mj_H) : Option (mj_H) :=
  (gI H x0 8 3).bind fun r1 =>
  (C21 xt ct O N x2 r1 H).bind fun r4 =>
  (gI r4.2 x0 8 3).bind fun r7 =>
  (C21 xt ct O N (x2 + x3) r7 r4.2).bind fun r10 =>
  (aA xt r10.2 x1 x2).bind fun r13 =>
  (aA xt r10.2 x1 (x2 + x3)).bind fun r16 =>
  L146_43 xt ct O N (x0, x5, r4.1, (x4 * (r10.1 - r4.1)), r13, r16, 0, r10.2)
theorem C146_ok {xt : mj_X} {ct : Nat → Value} {O : OR} {d N : Nat} (hct : ct 0 = .int 1) (hO : oOK xt ct d O) {x0 : Nat} {x1 : Nat} {x2 : Int32} {x3 : Int32} {x4 : Int32} {x5 : Int64} {H : mj_H} {q : mj_H} (e : C146 xt ct O N x0 x1 x2 x3 x4 x5 H = some q) : mj_Run kY xt ct (d + 2) 146 0 (lv_args 0 [.ref x0, .ref x1, .int x2, .int x3, .int x4, .long x5]) [] H (.inl none, q) := by
  unfold C146 at e
  exact (
  r_iloadn c146_0 rfl <|
  r_aloadn c146_1 rfl <|
  t_bd e fun r1 c2 e3 =>
  c_gI c146_2 c2 <|
  t_bd e3 fun r4 c5 e6 =>
  c_cal (st2 := [.int r4.1]) (s_cs (as := [.int x2, .int r1]) (st' := []) c146_5 ⟨Nat.le_of_ble_eq_true rfl, Nat.le_of_ble_eq_true rfl, Nat.le_of_ble_eq_true rfl⟩ rfl rfl) (C21_ok hct hO c5) (Nat.add_lt_add_left (by decide) d) rfl <|
  r_istore c146_8 <|
  r_iload c146_10 (ld1_ne rfl (by decide) (Or.inl (by decide))) <|
  r_iloadn c146_12 (ld1_ne rfl (by decide) (Or.inl (by decide))) <|
  r_iloadn c146_13 (ld1_ne rfl (by decide) (Or.inl (by decide))) <|
  r_iadd c146_14 rfl <|
  r_aloadn c146_15 (ld1_ne rfl (by decide) (Or.inl (by decide))) <|
  t_bd e6 fun r7 c8 e9 =>
  c_gI c146_16 c8 <|
  t_bd e9 fun r10 c11 e12 =>
  c_cal (st2 := [.int r10.1, .int x4]) (s_cs (as := [.int (x2 + x3), .int r7]) (st' := [.int x4]) c146_19 ⟨Nat.le_of_ble_eq_true rfl, Nat.le_of_ble_eq_true rfl, Nat.le_of_ble_eq_true rfl⟩ rfl rfl) (C21_ok hct hO c11) (Nat.add_lt_add_left (by decide) d) rfl <|
  r_iload c146_22 ld1_eq <|
  r_isub c146_24 rfl <|
  r_imul c146_25 rfl <|
  r_istore c146_26 <|
  r_aloadn c146_28 (ld1_ne (ld1_ne rfl (by decide) (Or.inl (by decide))) (by decide) (Or.inl (by decide))) <|
  r_iloadn c146_29 (ld1_ne (ld1_ne rfl (by decide) (Or.inl (by decide))) (by decide) (Or.inl (by decide))) <|
  t_bd e12 fun r13 c14 e15 =>
  c_aA c146_30 c14 <|
  r_astore c146_31 <|
  r_aloadn c146_33 (ld1_ne (ld1_ne (ld1_ne rfl (by decide) (Or.inl (by decide))) (by decide) (Or.inl (by decide))) (by decide) (Or.inl (by decide))) <|
  r_iloadn c146_34 (ld1_ne (ld1_ne (ld1_ne rfl (by decide) (Or.inl (by decide))) (by decide) (Or.inl (by decide))) (by decide) (Or.inl (by decide))) <|
  r_iloadn c146_35 (ld1_ne (ld1_ne (ld1_ne rfl (by decide) (Or.inl (by decide))) (by decide) (Or.inl (by decide))) (by decide) (Or.inl (by decide))) <|
  r_iadd c146_36 rfl <|
  t_bd e15 fun r16 c17 e18 =>
  c_aA c146_37 c17 <|
  r_astore c146_38 <|
  r_iconst c146_40 <|
  r_istore c146_41 <|
  L146_43_ok hct hO e18 _ (ld1_ne (ld1_ne (ld1_ne (ld1_ne (ld1_ne rfl (by decide) (Or.inl (by decide))) (by decide) (Or.inl (by decide))) (by decide) (Or.inl (by decide))) (by decide) (Or.inl (by decide))) (by decide) (Or.inl (by decide))) (ld1_ne (ld1_ne (ld1_ne (ld1_ne (ld1_ne rfl (by decide) (Or.inl (by decide))) (by decide) (Or.inl (by decide))) (by decide) (Or.inl (by decide))) (by decide) (Or.inl (by decide))) (by decide) (Or.inl (by decide))) (ld1_ne (ld1_ne (ld1_ne (ld1_ne ld1_eq (by decide) (Or.inr rfl)) (by decide) (Or.inl (by decide))) (by decide) (Or.inl (by decide))) (by decide) (Or.inl (by decide))) (ld1_ne (ld1_ne (ld1_ne ld1_eq (by decide) (Or.inr rfl)) (by decide) (Or.inl (by decide))) (by decide) (Or.inl (by decide))) (ld1_ne (ld1_ne ld1_eq (by decide) (Or.inr rfl)) (by decide) (Or.inl (by decide))) (ld1_ne ld1_eq (by decide) (Or.inr rfl)) ld1_eq)
def LG147_5 (xt : mj_X) (ct : Nat → Value) (d : Nat) (q : (Int64) × mj_H) (x0 : Int32) (x1 : Int32) (x2 : Int64) (x4 : Int32) (H : mj_H) : Prop := ∀ l, mj_ld l 0 = some (.int x0) → mj_ld l 1 = some (.int x1) → mj_ld l 2 = some (.long x2) → mj_ld l 4 = some (.int x4) → mj_Run kY xt ct (d + 1) 147 5 l [] H (.inl (vL q.1), q.2)
def GG147_5 (xt : mj_X) (ct : Nat → Value) (d : Nat) (q : (Int64) × mj_H) (o : (Int32 × Int32 × Int64 × Int32 × mj_H) ⊕ ((Int64) × mj_H)) : Prop := match o with
  | .inl (x0, x1, x2, x4, H) => LG147_5 xt ct d q x0 x1 x2 x4 H
  | .inr r => r = q
def B147_5 (xt : mj_X) (ct : Nat → Value) (O : OR) (N : Nat) (s : Int32 × Int32 × Int64 × Int32 × mj_H) : Option ((Int32 × Int32 × Int64 × Int32 × mj_H) ⊕ ((Int64) × mj_H)) :=
  bif mj_c2 .gt s.2.2.2.1 s.1 then
    some (.inr (s.2.2.1, s.2.2.2.2))
  else
  if (s.2.2.2.1 : Int32).toInt64 ≠ 0 then
  some (.inl (s.1, s.2.1, ((s.2.2.1 * (((s.2.1 - s.1) + s.2.2.2.1) : Int32).toInt64) / (s.2.2.2.1 : Int32).toInt64), (s.2.2.2.1 + 1), s.2.2.2.2))
  else none
def L147_5 (xt : mj_X) (ct : Nat → Value) (O : OR) (N : Nat) (s : Int32 × Int32 × Int64 × Int32 × mj_H) : Option ((Int64) × mj_H) := t_lp (B147_5 xt ct O N) N s
theorem B147_5_ok {xt : mj_X} {ct : Nat → Value} {O : OR} {d N : Nat} (hct : ct 0 = .int 1) (hO : oOK xt ct d O) {s : Int32 × Int32 × Int64 × Int32 × mj_H} {o : (Int32 × Int32 × Int64 × Int32 × mj_H) ⊕ ((Int64) × mj_H)} {q : (Int64) × mj_H} (e : B147_5 xt ct O N s = some o) (g : GG147_5 xt ct d q o) : LG147_5 xt ct d q s.1 s.2.1 s.2.2.1 s.2.2.2.1 s.2.2.2.2 := by
  unfold B147_5 at e
  exact (fun l f0 f1 f2 f4 =>
  r_iload c147_5 f4 <|
  r_iloadn c147_7 f0 <|
  t_if e (fun b1 e2 =>
    r_icmpT c147_8 b1 <|
    r_lloadn c147_31 f2 <|
    t_rg e2 g (fun (z : (s.2.2.1, s.2.2.2.2) = q) => (by cases z; exact (r_lret c147_32)))
  ) (fun b1 e2 =>
    r_icmpF c147_8 b1 <|
    r_lloadn c147_11 f2 <|
    r_iloadn c147_12 f1 <|
    r_iloadn c147_13 f0 <|
    r_isub c147_14 rfl <|
    r_iload c147_15 f4 <|
    r_iadd c147_17 rfl <|
    r_i2l c147_18 rfl <|
    r_lmul c147_19 rfl <|
    r_iload c147_20 f4 <|
    r_i2l c147_22 rfl <|
    t_ck e2 fun y3 e4 =>
    r_ldiv c147_23 y3 rfl <|
    r_lstoren c147_24 <|
    r_iinc c147_25 (ld2_ne f4 (by decide) (Or.inl (by decide))) <|
    r_goto c147_28 <|
    t_rg e4 g (fun (z : LG147_5 xt ct d q s.1 s.2.1 ((s.2.2.1 * (((s.2.1 - s.1) + s.2.2.2.1) : Int32).toInt64) / (s.2.2.2.1 : Int32).toInt64) (s.2.2.2.1 + 1) s.2.2.2.2) => z _ (ld1_ne (ld2_ne f0 (by decide) (Or.inl (by decide))) (by decide) (Or.inl (by decide))) (ld1_ne (ld2_ne f1 (by decide) (Or.inr rfl)) (by decide) (Or.inl (by decide))) (ld1_ne ld2_eq (by decide) (Or.inl (by decide))) ld1_eq)
  ))
theorem L147_5_ok {xt : mj_X} {ct : Nat → Value} {O : OR} {d N : Nat} (hct : ct 0 = .int 1) (hO : oOK xt ct d O) {x0 : Int32} {x1 : Int32} {x2 : Int64} {x4 : Int32} {H : mj_H} {q : (Int64) × mj_H} (e : L147_5 xt ct O N (x0, x1, x2, x4, H) = some q) : LG147_5 xt ct d q x0 x1 x2 x4 H :=
  t_lp_ok (G := fun s => LG147_5 xt ct d q s.1 s.2.1 s.2.2.1 s.2.2.2.1 s.2.2.2.2) (fun s s' e g => B147_5_ok hct hO e (by obtain ⟨_, _, _, _, _⟩ := s'; exact g)) (fun s e => B147_5_ok hct hO e rfl) N (x0, x1, x2, x4, H) e
/-- DiceOdds$Dice.choicesOf(II)J -/
def C147 (xt : mj_X) (ct : Nat → Value) (O : OR) (N : Nat) (x0 : Int32) (x1 : Int32) (H : mj_H) : Option ((Int64) × mj_H) :=
  L147_5 xt ct O N (x0, x1, 1, 1, H)
theorem C147_ok {xt : mj_X} {ct : Nat → Value} {O : OR} {d N : Nat} (hct : ct 0 = .int 1) (hO : oOK xt ct d O) {x0 : Int32} {x1 : Int32} {H : mj_H} {q : (Int64) × mj_H} (e : C147 xt ct O N x0 x1 H = some q) : mj_Run kY xt ct (d + 1) 147 0 (lv_args 0 [.int x0, .int x1]) [] H (.inl (vL q.1), q.2) := by
  unfold C147 at e
  exact (
  r_lconst c147_0 <|
  r_lstoren c147_1 <|
  r_iconst c147_2 <|
  r_istore c147_3 <|
  L147_5_ok hct hO e _ (ld1_ne (ld2_ne rfl (by decide) (Or.inl (by decide))) (by decide) (Or.inl (by decide))) (ld1_ne (ld2_ne rfl (by decide) (Or.inr rfl)) (by decide) (Or.inl (by decide))) (ld1_ne ld2_eq (by decide) (Or.inl (by decide))) ld1_eq)
/-- java.util.Arrays.copyOf([JI)[J -/
def C148 (xt : mj_X) (ct : Nat → Value) (O : OR) (N : Nat) (x0 : Nat) (x1 : Int32) (H : mj_H) : Option ((Nat) × mj_H) :=
  (aN xt H x0).bind fun r1 =>
  bif mj_c2 .ne x1 r1 then
    (nA H .long x1).bind fun r6 =>
    (aN xt r6.2 x0).bind fun r9 =>
    (C21 xt ct O N r9 x1 r6.2).bind fun r12 =>
    (cY r12.2 x0 0 r6.1 0 r12.1).bind fun H15 =>
    some (r6.1, H15)
  else
  (cLn 8 H x0).bind fun r18 =>
  (cKc 4 r18.2 r18.1).bind fun r21 =>
  some (r18.1, r18.2)
theorem C148_ok {xt : mj_X} {ct : Nat → Value} {O : OR} {d N : Nat} (hct : ct 0 = .int 1) (hO : oOK xt ct d O) {x0 : Nat} {x1 : Int32} {H : mj_H} {q : (Nat) × mj_H} (e : C148 xt ct O N x0 x1 H = some q) : mj_Run kY xt ct (d + 2) 148 0 (lv_args 0 [.ref x0, .int x1]) [] H (.inl (vA q.1), q.2) := by
  unfold C148 at e
  exact (
  r_iloadn c148_0 rfl <|
  r_aloadn c148_1 rfl <|
  t_bd e fun r1 c2 e3 =>
  c_len c148_2 c2 <|
  t_if e3 (fun b4 e5 =>
    r_icmpT c148_3 b4 <|
    r_iloadn c148_14 rfl <|
    t_bd e5 fun r6 c7 e8 =>
    c_nA c148_15 c7 <|
    r_astoren c148_17 <|
    r_aloadn c148_18 (ld1_ne rfl (by decide) (Or.inl (by decide))) <|
    r_iconst c148_19 <|
    r_aloadn c148_20 ld1_eq <|
    r_iconst c148_21 <|
    r_aloadn c148_22 (ld1_ne rfl (by decide) (Or.inl (by decide))) <|
    t_bd e8 fun r9 c10 e11 =>
    c_len c148_23 c10 <|
    r_iloadn c148_24 (ld1_ne rfl (by decide) (Or.inr rfl)) <|
    t_bd e11 fun r12 c13 e14 =>
    c_cal (st2 := [.int r12.1, .int 0, .ref r6.1, .int 0, .ref x0]) (s_cs (as := [.int r9, .int x1]) (st' := [.int 0, .ref r6.1, .int 0, .ref x0]) c148_25 ⟨Nat.le_of_ble_eq_true rfl, Nat.le_of_ble_eq_true rfl, Nat.le_of_ble_eq_true rfl⟩ rfl rfl) (C21_ok hct hO c13) (Nat.add_lt_add_left (by decide) d) rfl <|
    t_bd e14 fun H15 c16 e17 =>
    c_cpy c148_28 (Nat.le_of_ble_eq_true rfl) c16 <|
    r_aloadn c148_31 ld1_eq <|
    (by cases e17; exact (r_aret c148_32))
  ) (fun b4 e5 =>
    r_icmpF c148_3 b4 <|
    r_aloadn c148_6 rfl <|
    t_bd e5 fun r18 c19 e20 =>
    c_cln c148_7 (Nat.le_of_ble_eq_true rfl) c19 <|
    t_bd e20 fun r21 c22 e23 =>
    c_cck c148_10 c22 <|
    (by cases e23; exact (r_aret c148_13))
  ))
def LG144_12 (xt : mj_X) (ct : Nat → Value) (d : Nat) (q : (Nat) × mj_H) (x0 : Nat) (x1 : Nat) (x2 : Int32) (x3 : Int32) (H : mj_H) : Prop := ∀ l, mj_ld l 0 = some (.ref x0) → mj_ld l 1 = some (.ref x1) → mj_ld l 2 = some (.int x2) → mj_ld l 3 = some (.int x3) → mj_Run kY xt ct (d + 3) 144 12 l [] H (.inl (vA q.1), q.2)
def GG144_12 (xt : mj_X) (ct : Nat → Value) (d : Nat) (q : (Nat) × mj_H) (o : (Nat × Nat × Int32 × Int32 × mj_H) ⊕ ((Nat) × mj_H)) : Prop := match o with
  | .inl (x0, x1, x2, x3, H) => LG144_12 xt ct d q x0 x1 x2 x3 H
  | .inr r => r = q
def LG144_41 (xt : mj_X) (ct : Nat → Value) (d : Nat) (q : (Nat) × mj_H) (x0 : Nat) (x1 : Nat) (x2 : Int32) (x3 : Int32) (H : mj_H) : Prop := ∀ l, mj_ld l 0 = some (.ref x0) → mj_ld l 1 = some (.ref x1) → mj_ld l 2 = some (.int x2) → mj_ld l 3 = some (.int x3) → mj_Run kY xt ct (d + 3) 144 41 l [] H (.inl (vA q.1), q.2)
def GG144_41 (xt : mj_X) (ct : Nat → Value) (d : Nat) (q : (Nat) × mj_H) (o : (Nat × Nat × Int32 × Int32 × mj_H) ⊕ ((Nat) × mj_H)) : Prop := match o with
  | .inl (x0, x1, x2, x3, H) => LG144_41 xt ct d q x0 x1 x2 x3 H
  | .inr r => r = q
def LG144_80 (xt : mj_X) (ct : Nat → Value) (d : Nat) (q : (Nat) × mj_H) (x0 : Nat) (x1 : Nat) (x2 : Int32) (x3 : Int32) (x4 : Int32) (x5 : Int32) (H : mj_H) : Prop := ∀ l, mj_ld l 0 = some (.ref x0) → mj_ld l 1 = some (.ref x1) → mj_ld l 2 = some (.int x2) → mj_ld l 3 = some (.int x3) → mj_ld l 4 = some (.int x4) → mj_ld l 5 = some (.int x5) → mj_Run kY xt ct (d + 3) 144 80 l [] H (.inl (vA q.1), q.2)
def GG144_80 (xt : mj_X) (ct : Nat → Value) (d : Nat) (q : (Nat) × mj_H) (o : (Nat × Nat × Int32 × Int32 × Int32 × Int32 × mj_H) ⊕ ((Nat × Nat × Int32 × Int32 × mj_H) ⊕ ((Nat) × mj_H))) : Prop := match o with
  | .inl (x0, x1, x2, x3, x4, x5, H) => LG144_80 xt ct d q x0 x1 x2 x3 x4 x5 H
  | .inr r => GG144_41 xt ct d q r
def LG144_88 (xt : mj_X) (ct : Nat → Value) (d : Nat) (q : (Nat) × mj_H) (x0 : Nat) (x1 : Nat) (x2 : Int32) (x3 : Int32) (x4 : Int32) (x5 : Int32) (x6 : Int32) (H : mj_H) : Prop := ∀ l, mj_ld l 0 = some (.ref x0) → mj_ld l 1 = some (.ref x1) → mj_ld l 2 = some (.int x2) → mj_ld l 3 = some (.int x3) → mj_ld l 4 = some (.int x4) → mj_ld l 5 = some (.int x5) → mj_ld l 6 = some (.int x6) → mj_Run kY xt ct (d + 3) 144 88 l [] H (.inl (vA q.1), q.2)
def GG144_88 (xt : mj_X) (ct : Nat → Value) (d : Nat) (q : (Nat) × mj_H) (o : (Nat × Nat × Int32 × Int32 × Int32 × Int32 × Int32 × mj_H) ⊕ ((Nat × Nat × Int32 × Int32 × Int32 × Int32 × mj_H) ⊕ ((Nat × Nat × Int32 × Int32 × mj_H) ⊕ ((Nat) × mj_H)))) : Prop := match o with
  | .inl (x0, x1, x2, x3, x4, x5, x6, H) => LG144_88 xt ct d q x0 x1 x2 x3 x4 x5 x6 H
  | .inr r => GG144_80 xt ct d q r
def B144_88 (xt : mj_X) (ct : Nat → Value) (O : OR) (N : Nat) (s : Nat × Nat × Int32 × Int32 × Int32 × Int32 × Int32 × mj_H) : Option ((Nat × Nat × Int32 × Int32 × Int32 × Int32 × Int32 × mj_H) ⊕ ((Nat × Nat × Int32 × Int32 × Int32 × Int32 × mj_H) ⊕ ((Nat × Nat × Int32 × Int32 × mj_H) ⊕ ((Nat) × mj_H)))) :=
  (gI s.2.2.2.2.2.2.2 s.1 8 0).bind fun r45 =>
  bif mj_c2 .gt s.2.2.2.2.2.2.1 (r45 - s.2.2.2.2.2.1) then
    some (.inr (.inl (s.1, s.2.1, s.2.2.1, s.2.2.2.1, s.2.2.2.2.1, (s.2.2.2.2.2.1 + (-1)), s.2.2.2.2.2.2.2)))
  else
  (gI s.2.2.2.2.2.2.2 s.1 8 0).bind fun r50 =>
  (C147 xt ct O N s.2.2.2.2.2.2.1 (r50 - s.2.2.2.2.2.1) s.2.2.2.2.2.2.2).bind fun r53 =>
  (gK r53.2 s.1 8).bind fun k56 =>
  (C146 xt ct O N s.1 s.2.1 s.2.2.2.2.2.1 s.2.2.2.2.2.2.1 s.2.2.2.2.1 r53.1 r53.2).bind fun r59 =>
  some (.inl (s.1, s.2.1, s.2.2.1, s.2.2.2.1, s.2.2.2.2.1, s.2.2.2.2.2.1, (s.2.2.2.2.2.2.1 + 1), r59))
def L144_88 (xt : mj_X) (ct : Nat → Value) (O : OR) (N : Nat) (s : Nat × Nat × Int32 × Int32 × Int32 × Int32 × Int32 × mj_H) : Option ((Nat × Nat × Int32 × Int32 × Int32 × Int32 × mj_H) ⊕ ((Nat × Nat × Int32 × Int32 × mj_H) ⊕ ((Nat) × mj_H))) := t_lp (B144_88 xt ct O N) N s
theorem B144_88_ok {xt : mj_X} {ct : Nat → Value} {O : OR} {d N : Nat} (hct : ct 0 = .int 1) (hO : oOK xt ct d O) {s : Nat × Nat × Int32 × Int32 × Int32 × Int32 × Int32 × mj_H} {o : (Nat × Nat × Int32 × Int32 × Int32 × Int32 × Int32 × mj_H) ⊕ ((Nat × Nat × Int32 × Int32 × Int32 × Int32 × mj_H) ⊕ ((Nat × Nat × Int32 × Int32 × mj_H) ⊕ ((Nat) × mj_H)))} {q : (Nat) × mj_H} (e : B144_88 xt ct O N s = some o) (g : GG144_88 xt ct d q o) : LG144_88 xt ct d q s.1 s.2.1 s.2.2.1 s.2.2.2.1 s.2.2.2.2.1 s.2.2.2.2.2.1 s.2.2.2.2.2.2.1 s.2.2.2.2.2.2.2 := by
  unfold B144_88 at e
  exact (fun l f0 f1 f2 f3 f4 f5 f6 =>
  r_iload c144_88 f6 <|
  r_aloadn c144_90 f0 <|
  t_bd e fun r45 c46 e47 =>
  c_gI c144_91 c46 <|
  r_iload c144_94 f5 <|
  r_isub c144_96 rfl <|
  t_if e47 (fun b48 e49 =>
    r_icmpT c144_97 b48 <|
    r_iinc c144_129 f5 <|
    r_goto c144_132 <|
    t_rg e49 g (fun (z : LG144_80 xt ct d q s.1 s.2.1 s.2.2.1 s.2.2.2.1 s.2.2.2.2.1 (s.2.2.2.2.2.1 + (-1)) s.2.2.2.2.2.2.2) => z _ (ld1_ne f0 (by decide) (Or.inl (by decide))) (ld1_ne f1 (by decide) (Or.inl (by decide))) (ld1_ne f2 (by decide) (Or.inl (by decide))) (ld1_ne f3 (by decide) (Or.inl (by decide))) (ld1_ne f4 (by decide) (Or.inr rfl)) ld1_eq)
  ) (fun b48 e49 =>
    r_icmpF c144_97 b48 <|
    r_aloadn c144_100 f0 <|
    r_aloadn c144_101 f1 <|
    r_iload c144_102 f5 <|
    r_iload c144_104 f6 <|
    r_iload c144_106 f4 <|
    r_iload c144_108 f6 <|
    r_aloadn c144_110 f0 <|
    t_bd e49 fun r50 c51 e52 =>
    c_gI c144_111 c51 <|
    r_iload c144_114 f5 <|
    r_isub c144_116 rfl <|
    t_bd e52 fun r53 c54 e55 =>
    c_cal (st2 := [.long r53.1, .int s.2.2.2.2.1, .int s.2.2.2.2.2.2.1, .int s.2.2.2.2.2.1, .ref s.2.1, .ref s.1]) (s_cs (as := [.int s.2.2.2.2.2.2.1, .int (r50 - s.2.2.2.2.2.1)]) (st' := [.int s.2.2.2.2.1, .int s.2.2.2.2.2.2.1, .int s.2.2.2.2.2.1, .ref s.2.1, .ref s.1]) c144_117 ⟨Nat.le_of_ble_eq_true rfl, Nat.le_of_ble_eq_true rfl, Nat.le_of_ble_eq_true rfl⟩ rfl rfl) (C147_ok hct hO c54) (Nat.add_lt_add_left (by decide) d) rfl <|
    t_bd e55 fun k56 c57 e58 =>
    t_bd e58 fun r59 c60 e61 =>
    c_cal (st2 := []) (s_cv (as := [.ref s.1, .ref s.2.1, .int s.2.2.2.2.2.1, .int s.2.2.2.2.2.2.1, .int s.2.2.2.2.1, .long r53.1]) (st' := []) c144_120 rfl (gK_ok c57) ⟨Nat.le_of_ble_eq_true rfl, Nat.le_of_ble_eq_true rfl, Nat.le_of_ble_eq_true rfl⟩ rfl rfl) (C146_ok hct hO c60) (Nat.add_lt_add_left (by decide) d) rfl <|
    r_iinc c144_123 f6 <|
    r_goto c144_126 <|
    t_rg e61 g (fun (z : LG144_88 xt ct d q s.1 s.2.1 s.2.2.1 s.2.2.2.1 s.2.2.2.2.1 s.2.2.2.2.2.1 (s.2.2.2.2.2.2.1 + 1) r59) => z _ (ld1_ne f0 (by decide) (Or.inl (by decide))) (ld1_ne f1 (by decide) (Or.inl (by decide))) (ld1_ne f2 (by decide) (Or.inl (by decide))) (ld1_ne f3 (by decide) (Or.inl (by decide))) (ld1_ne f4 (by decide) (Or.inl (by decide))) (ld1_ne f5 (by decide) (Or.inr rfl)) ld1_eq)
  ))
theorem L144_88_ok {xt : mj_X} {ct : Nat → Value} {O : OR} {d N : Nat} (hct : ct 0 = .int 1) (hO : oOK xt ct d O) {x0 : Nat} {x1 : Nat} {x2 : Int32} {x3 : Int32} {x4 : Int32} {x5 : Int32} {x6 : Int32} {H : mj_H} {o : (Nat × Nat × Int32 × Int32 × Int32 × Int32 × mj_H) ⊕ ((Nat × Nat × Int32 × Int32 × mj_H) ⊕ ((Nat) × mj_H))} {q : (Nat) × mj_H} (e : L144_88 xt ct O N (x0, x1, x2, x3, x4, x5, x6, H) = some o) (g : GG144_80 xt ct d q o) : LG144_88 xt ct d q x0 x1 x2 x3 x4 x5 x6 H :=
  t_lp_ok (G := fun s => LG144_88 xt ct d q s.1 s.2.1 s.2.2.1 s.2.2.2.1 s.2.2.2.2.1 s.2.2.2.2.2.1 s.2.2.2.2.2.2.1 s.2.2.2.2.2.2.2) (fun s s' e g => B144_88_ok hct hO e (by obtain ⟨_, _, _, _, _, _, _, _⟩ := s'; exact g)) (fun s e => B144_88_ok hct hO e g) N (x0, x1, x2, x3, x4, x5, x6, H) e
def B144_80 (xt : mj_X) (ct : Nat → Value) (O : OR) (N : Nat) (s : Nat × Nat × Int32 × Int32 × Int32 × Int32 × mj_H) : Option ((Nat × Nat × Int32 × Int32 × Int32 × Int32 × mj_H) ⊕ ((Nat × Nat × Int32 × Int32 × mj_H) ⊕ ((Nat) × mj_H))) :=
  bif mj_c1 .lt s.2.2.2.2.2.1 then
    some (.inr (.inl (s.1, s.2.1, s.2.2.1, (s.2.2.2.1 + 1), s.2.2.2.2.2.2)))
  else
  L144_88 xt ct O N (s.1, s.2.1, s.2.2.1, s.2.2.2.1, s.2.2.2.2.1, s.2.2.2.2.2.1, 1, s.2.2.2.2.2.2)
def L144_80 (xt : mj_X) (ct : Nat → Value) (O : OR) (N : Nat) (s : Nat × Nat × Int32 × Int32 × Int32 × Int32 × mj_H) : Option ((Nat × Nat × Int32 × Int32 × mj_H) ⊕ ((Nat) × mj_H)) := t_lp (B144_80 xt ct O N) N s
theorem B144_80_ok {xt : mj_X} {ct : Nat → Value} {O : OR} {d N : Nat} (hct : ct 0 = .int 1) (hO : oOK xt ct d O) {s : Nat × Nat × Int32 × Int32 × Int32 × Int32 × mj_H} {o : (Nat × Nat × Int32 × Int32 × Int32 × Int32 × mj_H) ⊕ ((Nat × Nat × Int32 × Int32 × mj_H) ⊕ ((Nat) × mj_H))} {q : (Nat) × mj_H} (e : B144_80 xt ct O N s = some o) (g : GG144_80 xt ct d q o) : LG144_80 xt ct d q s.1 s.2.1 s.2.2.1 s.2.2.2.1 s.2.2.2.2.1 s.2.2.2.2.2.1 s.2.2.2.2.2.2 := by
  unfold B144_80 at e
  exact (fun l f0 f1 f2 f3 f4 f5 =>
  r_iload c144_80 f5 <|
  t_if e (fun b43 e44 =>
    r_ifT c144_82 b43 <|
    r_iinc c144_135 f3 <|
    r_goto c144_138 <|
    t_rg e44 g (fun (z : LG144_41 xt ct d q s.1 s.2.1 s.2.2.1 (s.2.2.2.1 + 1) s.2.2.2.2.2.2) => z _ (ld1_ne f0 (by decide) (Or.inl (by decide))) (ld1_ne f1 (by decide) (Or.inl (by decide))) (ld1_ne f2 (by decide) (Or.inr rfl)) ld1_eq)
  ) (fun b43 e44 =>
    r_ifF c144_82 b43 <|
    r_iconst c144_85 <|
    r_istore c144_86 <|
    L144_88_ok hct hO e44 g _ (ld1_ne f0 (by decide) (Or.inl (by decide))) (ld1_ne f1 (by decide) (Or.inl (by decide))) (ld1_ne f2 (by decide) (Or.inl (by decide))) (ld1_ne f3 (by decide) (Or.inl (by decide))) (ld1_ne f4 (by decide) (Or.inl (by decide))) (ld1_ne f5 (by decide) (Or.inr rfl)) ld1_eq
  ))
theorem L144_80_ok {xt : mj_X} {ct : Nat → Value} {O : OR} {d N : Nat} (hct : ct 0 = .int 1) (hO : oOK xt ct d O) {x0 : Nat} {x1 : Nat} {x2 : Int32} {x3 : Int32} {x4 : Int32} {x5 : Int32} {H : mj_H} {o : (Nat × Nat × Int32 × Int32 × mj_H) ⊕ ((Nat) × mj_H)} {q : (Nat) × mj_H} (e : L144_80 xt ct O N (x0, x1, x2, x3, x4, x5, H) = some o) (g : GG144_41 xt ct d q o) : LG144_80 xt ct d q x0 x1 x2 x3 x4 x5 H :=
  t_lp_ok (G := fun s => LG144_80 xt ct d q s.1 s.2.1 s.2.2.1 s.2.2.2.1 s.2.2.2.2.1 s.2.2.2.2.2.1 s.2.2.2.2.2.2) (fun s s' e g => B144_80_ok hct hO e (by obtain ⟨_, _, _, _, _, _, _⟩ := s'; exact g)) (fun s e => B144_80_ok hct hO e g) N (x0, x1, x2, x3, x4, x5, H) e
def J144_70 (xt : mj_X) (ct : Nat → Value) (O : OR) (N : Nat) (x0 : Nat) (x1 : Nat) (x2 : Int32) (x3 : Int32) (s0 : Int32) (H : mj_H) : Option ((Nat × Nat × Int32 × Int32 × mj_H) ⊕ ((Nat) × mj_H)) :=
  (gI H x0 8 0).bind fun r40 =>
  L144_80 xt ct O N (x0, x1, x2, x3, s0, (r40 - 1), H)
theorem J144_70_ok {xt : mj_X} {ct : Nat → Value} {O : OR} {d N : Nat} (hct : ct 0 = .int 1) (hO : oOK xt ct d O) {l : mj_L} {x0 : Nat} {x1 : Nat} {x2 : Int32} {x3 : Int32} {s0 : Int32} {H : mj_H} {o : (Nat × Nat × Int32 × Int32 × mj_H) ⊕ ((Nat) × mj_H)} {q : (Nat) × mj_H} (f0 : mj_ld l 0 = some (.ref x0)) (f1 : mj_ld l 1 = some (.ref x1)) (f2 : mj_ld l 2 = some (.int x2)) (f3 : mj_ld l 3 = some (.int x3)) (e : J144_70 xt ct O N x0 x1 x2 x3 s0 H = some o) (g : GG144_41 xt ct d q o) : mj_Run kY xt ct (d + 3) 144 70 l [.int s0] H (.inl (vA q.1), q.2) := by
  unfold J144_70 at e
  exact (
  r_istore c144_70 <|
  r_aloadn c144_72 (ld1_ne f0 (by decide) (Or.inl (by decide))) <|
  t_bd e fun r40 c41 e42 =>
  c_gI c144_73 c41 <|
  r_iconst c144_76 <|
  r_isub c144_77 rfl <|
  r_istore c144_78 <|
  L144_80_ok hct hO e42 g _ (ld1_ne (ld1_ne f0 (by decide) (Or.inl (by decide))) (by decide) (Or.inl (by decide))) (ld1_ne (ld1_ne f1 (by decide) (Or.inl (by decide))) (by decide) (Or.inl (by decide))) (ld1_ne (ld1_ne f2 (by decide) (Or.inl (by decide))) (by decide) (Or.inl (by decide))) (ld1_ne (ld1_ne f3 (by decide) (Or.inr rfl)) (by decide) (Or.inl (by decide))) (ld1_ne ld1_eq (by decide) (Or.inr rfl)) ld1_eq)
def B144_41 (xt : mj_X) (ct : Nat → Value) (O : OR) (N : Nat) (s : Nat × Nat × Int32 × Int32 × mj_H) : Option ((Nat × Nat × Int32 × Int32 × mj_H) ⊕ ((Nat) × mj_H)) :=
  (gI s.2.2.2.2 s.1 8 1).bind fun r18 =>
  bif mj_c2 .gt s.2.2.2.1 r18 then
    (gI s.2.2.2.2 s.1 8 0).bind fun r23 =>
    (aA xt s.2.2.2.2 s.2.1 r23).bind fun r26 =>
    (C148 xt ct O N r26 (s.2.2.1 + 1) s.2.2.2.2).bind fun r29 =>
    some (.inr (r29.1, r29.2))
  else
  (gI s.2.2.2.2 s.1 8 2).bind fun r32 =>
  bif mj_c2 .ne r32 108 then
    (gI s.2.2.2.2 s.1 8 1).bind fun r37 =>
    J144_70 xt ct O N s.1 s.2.1 s.2.2.1 s.2.2.2.1 ((r37 + 1) - s.2.2.2.1) s.2.2.2.2
  else
  J144_70 xt ct O N s.1 s.2.1 s.2.2.1 s.2.2.2.1 s.2.2.2.1 s.2.2.2.2
def L144_41 (xt : mj_X) (ct : Nat → Value) (O : OR) (N : Nat) (s : Nat × Nat × Int32 × Int32 × mj_H) : Option ((Nat) × mj_H) := t_lp (B144_41 xt ct O N) N s
theorem B144_41_ok {xt : mj_X} {ct : Nat → Value} {O : OR} {d N : Nat} (hct : ct 0 = .int 1) (hO : oOK xt ct d O) {s : Nat × Nat × Int32 × Int32 × mj_H} {o : (Nat × Nat × Int32 × Int32 × mj_H) ⊕ ((Nat) × mj_H)} {q : (Nat) × mj_H} (e : B144_41 xt ct O N s = some o) (g : GG144_41 xt ct d q o) : LG144_41 xt ct d q s.1 s.2.1 s.2.2.1 s.2.2.2.1 s.2.2.2.2 := by
  unfold B144_41 at e
  exact (fun l f0 f1 f2 f3 =>
  r_iloadn c144_41 f3 <|
  r_aloadn c144_42 f0 <|
  t_bd e fun r18 c19 e20 =>
  c_gI c144_43 c19 <|
  t_if e20 (fun b21 e22 =>
    r_icmpT c144_46 b21 <|
    r_aloadn c144_141 f1 <|
    r_aloadn c144_142 f0 <|
    t_bd e22 fun r23 c24 e25 =>
    c_gI c144_143 c24 <|
    t_bd e25 fun r26 c27 e28 =>
    c_aA c144_146 c27 <|
    r_iloadn c144_147 f2 <|
    r_iconst c144_148 <|
    r_iadd c144_149 rfl <|
    t_bd e28 fun r29 c30 e31 =>
    c_cal (st2 := [.ref r29.1]) (s_cs (as := [.ref r26, .int (s.2.2.1 + 1)]) (st' := []) c144_150 ⟨Nat.le_of_ble_eq_true rfl, Nat.le_of_ble_eq_true rfl, Nat.le_of_ble_eq_true rfl⟩ rfl rfl) (C148_ok hct hO c30) (Nat.add_lt_add_left (by decide) d) rfl <|
    t_rg e31 g (fun (z : (r29.1, r29.2) = q) => (by cases z; exact (r_aret c144_153)))
  ) (fun b21 e22 =>
    r_icmpF c144_46 b21 <|
    r_aloadn c144_49 f0 <|
    t_bd e22 fun r32 c33 e34 =>
    c_gI c144_50 c33 <|
    r_bipush c144_53 <|
    t_if e34 (fun b35 e36 =>
      r_icmpT c144_55 b35 <|
      r_aloadn c144_62 f0 <|
      t_bd e36 fun r37 c38 e39 =>
      c_gI c144_63 c38 <|
      r_iconst c144_66 <|
      r_iadd c144_67 rfl <|
      r_iloadn c144_68 f3 <|
      r_isub c144_69 rfl <|
      J144_70_ok hct hO f0 f1 f2 f3 e39 g
    ) (fun b35 e36 =>
      r_icmpF c144_55 b35 <|
      r_iloadn c144_58 f3 <|
      r_goto c144_59 <|
      J144_70_ok hct hO f0 f1 f2 f3 e36 g
    )
  ))
theorem L144_41_ok {xt : mj_X} {ct : Nat → Value} {O : OR} {d N : Nat} (hct : ct 0 = .int 1) (hO : oOK xt ct d O) {x0 : Nat} {x1 : Nat} {x2 : Int32} {x3 : Int32} {H : mj_H} {q : (Nat) × mj_H} (e : L144_41 xt ct O N (x0, x1, x2, x3, H) = some q) : LG144_41 xt ct d q x0 x1 x2 x3 H :=
  t_lp_ok (G := fun s => LG144_41 xt ct d q s.1 s.2.1 s.2.2.1 s.2.2.2.1 s.2.2.2.2) (fun s s' e g => B144_41_ok hct hO e (by obtain ⟨_, _, _, _, _⟩ := s'; exact g)) (fun s e => B144_41_ok hct hO e rfl) N (x0, x1, x2, x3, H) e
def B144_12 (xt : mj_X) (ct : Nat → Value) (O : OR) (N : Nat) (s : Nat × Nat × Int32 × Int32 × mj_H) : Option ((Nat × Nat × Int32 × Int32 × mj_H) ⊕ ((Nat) × mj_H)) :=
  (gI s.2.2.2.2 s.1 8 0).bind fun r7 =>
  bif mj_c2 .gt s.2.2.2.1 r7 then
    (aA xt s.2.2.2.2 s.2.1 0).bind fun r12 =>
    (sL s.2.2.2.2 r12 0 1).bind fun H15 =>
    (L144_41 xt ct O N (s.1, s.2.1, s.2.2.1, 1, H15)).map Sum.inr
  else
  (aA xt s.2.2.2.2 s.2.1 s.2.2.2.1).bind fun r66 =>
  (C145 xt ct O N r66 0 s.2.2.2.2).bind fun r69 =>
  some (.inl (s.1, s.2.1, s.2.2.1, (s.2.2.2.1 + 1), r69))
def L144_12 (xt : mj_X) (ct : Nat → Value) (O : OR) (N : Nat) (s : Nat × Nat × Int32 × Int32 × mj_H) : Option ((Nat) × mj_H) := t_lp (B144_12 xt ct O N) N s
theorem B144_12_ok {xt : mj_X} {ct : Nat → Value} {O : OR} {d N : Nat} (hct : ct 0 = .int 1) (hO : oOK xt ct d O) {s : Nat × Nat × Int32 × Int32 × mj_H} {o : (Nat × Nat × Int32 × Int32 × mj_H) ⊕ ((Nat) × mj_H)} {q : (Nat) × mj_H} (e : B144_12 xt ct O N s = some o) (g : GG144_12 xt ct d q o) : LG144_12 xt ct d q s.1 s.2.1 s.2.2.1 s.2.2.2.1 s.2.2.2.2 := by
  unfold B144_12 at e
  exact (fun l f0 f1 f2 f3 =>
  r_iloadn c144_12 f3 <|
  r_aloadn c144_13 f0 <|
  t_bd e fun r7 c8 e9 =>
  c_gI c144_14 c8 <|
  t_if e9 (fun b10 e11 =>
    r_icmpT c144_17 b10 <|
    r_aloadn c144_33 f1 <|
    r_iconst c144_34 <|
    t_bd e11 fun r12 c13 e14 =>
    c_aA c144_35 c13 <|
    r_iconst c144_36 <|
    r_lconst c144_37 <|
    t_bd e14 fun H15 c16 e17 =>
    c_sL c144_38 c16 <|
    r_iconst c144_39 <|
    r_istoren c144_40 <|
    t_up e17 fun o62 e63 u64 =>
    (fun (g65 : o62 = q) =>
    by subst g65; exact (L144_41_ok hct hO e63 _ (ld1_ne f0 (by decide) (Or.inl (by decide))) (ld1_ne f1 (by decide) (Or.inl (by decide))) (ld1_ne f2 (by decide) (Or.inr rfl)) ld1_eq)
    ) (by have := g; rw [u64] at this; exact this)
  ) (fun b10 e11 =>
    r_icmpF c144_17 b10 <|
    r_aloadn c144_20 f1 <|
    r_iloadn c144_21 f3 <|
    t_bd e11 fun r66 c67 e68 =>
    c_aA c144_22 c67 <|
    r_lconst c144_23 <|
    t_bd e68 fun r69 c70 e71 =>
    c_cal (st2 := []) (s_cs (as := [.ref r66, .long 0]) (st' := []) c144_24 ⟨Nat.le_of_ble_eq_true rfl, Nat.le_of_ble_eq_true rfl, Nat.le_of_ble_eq_true rfl⟩ rfl rfl) (C145_ok hct hO c70) (Nat.add_lt_add_left (by decide) d) rfl <|
    r_iinc c144_27 f3 <|
    r_goto c144_30 <|
    t_rg e71 g (fun (z : LG144_12 xt ct d q s.1 s.2.1 s.2.2.1 (s.2.2.2.1 + 1) r69) => z _ (ld1_ne f0 (by decide) (Or.inl (by decide))) (ld1_ne f1 (by decide) (Or.inl (by decide))) (ld1_ne f2 (by decide) (Or.inr rfl)) ld1_eq)
  ))
theorem L144_12_ok {xt : mj_X} {ct : Nat → Value} {O : OR} {d N : Nat} (hct : ct 0 = .int 1) (hO : oOK xt ct d O) {x0 : Nat} {x1 : Nat} {x2 : Int32} {x3 : Int32} {H : mj_H} {q : (Nat) × mj_H} (e : L144_12 xt ct O N (x0, x1, x2, x3, H) = some q) : LG144_12 xt ct d q x0 x1 x2 x3 H :=
  t_lp_ok (G := fun s => LG144_12 xt ct d q s.1 s.2.1 s.2.2.1 s.2.2.2.1 s.2.2.2.2) (fun s s' e g => B144_12_ok hct hO e (by obtain ⟨_, _, _, _, _⟩ := s'; exact g)) (fun s e => B144_12_ok hct hO e rfl) N (x0, x1, x2, x3, H) e
/-- DiceOdds$Dice.countSums([[J)[J -/
def C144 (xt : mj_X) (ct : Nat → Value) (O : OR) (N : Nat) (x0 : Nat) (x1 : Nat) (H : mj_H) : Option ((Nat) × mj_H) :=
  (gI H x0 8 3).bind fun r1 =>
  (gI H x0 8 1).bind fun r4 =>
  L144_12 xt ct O N (x0, x1, (r1 * r4), 0, H)
theorem C144_ok {xt : mj_X} {ct : Nat → Value} {O : OR} {d N : Nat} (hct : ct 0 = .int 1) (hO : oOK xt ct d O) {x0 : Nat} {x1 : Nat} {H : mj_H} {q : (Nat) × mj_H} (e : C144 xt ct O N x0 x1 H = some q) : mj_Run kY xt ct (d + 3) 144 0 (lv_args 0 [.ref x0, .ref x1]) [] H (.inl (vA q.1), q.2) := by
  unfold C144 at e
  exact (
  r_aloadn c144_0 rfl <|
  t_bd e fun r1 c2 e3 =>
  c_gI c144_1 c2 <|
  r_aloadn c144_4 rfl <|
  t_bd e3 fun r4 c5 e6 =>
  c_gI c144_5 c5 <|
  r_imul c144_8 rfl <|
  r_istoren c144_9 <|
  r_iconst c144_10 <|
  r_istoren c144_11 <|
  L144_12_ok hct hO e6 _ (ld1_ne (ld1_ne rfl (by decide) (Or.inl (by decide))) (by decide) (Or.inl (by decide))) (ld1_ne (ld1_ne rfl (by decide) (Or.inr rfl)) (by decide) (Or.inl (by decide))) (ld1_ne ld1_eq (by decide) (Or.inr rfl)) ld1_eq)
def J149_39 (xt : mj_X) (ct : Nat → Value) (O : OR) (N : Nat)  (H : mj_H) : Option (mj_H) :=
  some H
theorem J149_39_ok {xt : mj_X} {ct : Nat → Value} {O : OR} {d N : Nat} (hct : ct 0 = .int 1) (hO : oOK xt ct d O) {l : mj_L}  {H : mj_H} {q : mj_H}  (e : J149_39 xt ct O N  H = some q) : mj_Run kY xt ct (d + 1) 149 39 l [] H (.inl none, q) := by
  unfold J149_39 at e
  exact (
  (by cases e; exact (r_ret c149_39)))
/-- DiceOdds$Bench.open()V -/
def C149 (xt : mj_X) (ct : Nat → Value) (O : OR) (N : Nat) (x0 : Nat) (H : mj_H) : Option (mj_H) :=
  (gI H x0 3 3).bind fun r1 =>
  bif mj_c2 .ge r1 40 then
    J149_39 xt ct O N H
  else
  (gA H x0 3 2).bind fun r6 =>
  (gI H x0 3 3).bind fun r9 =>
  (gA H x0 3 2).bind fun r12 =>
  (gI H x0 3 3).bind fun r15 =>
  (aI xt H r12 r15).bind fun r18 =>
  (sN .int H r6 (r9 + 1) r18).bind fun H21 =>
  (gI H21 x0 3 3).bind fun r24 =>
  (uF H21 x0 3 3 (.int (r24 + 1))).bind fun H27 =>
  J149_39 xt ct O N H27
theorem C149_ok {xt : mj_X} {ct : Nat → Value} {O : OR} {d N : Nat} (hct : ct 0 = .int 1) (hO : oOK xt ct d O) {x0 : Nat} {H : mj_H} {q : mj_H} (e : C149 xt ct O N x0 H = some q) : mj_Run kY xt ct (d + 1) 149 0 (lv_args 0 [.ref x0]) [] H (.inl none, q) := by
  unfold C149 at e
  exact (
  r_aloadn c149_0 rfl <|
  t_bd e fun r1 c2 e3 =>
  c_gI c149_1 c2 <|
  r_bipush c149_4 <|
  t_if e3 (fun b4 e5 =>
    r_icmpT c149_6 b4 <|
    J149_39_ok hct hO  e5
  ) (fun b4 e5 =>
    r_icmpF c149_6 b4 <|
    r_aloadn c149_9 rfl <|
    t_bd e5 fun r6 c7 e8 =>
    c_gA c149_10 c7 <|
    r_aloadn c149_13 rfl <|
    t_bd e8 fun r9 c10 e11 =>
    c_gI c149_14 c10 <|
    r_iconst c149_17 <|
    r_iadd c149_18 rfl <|
    r_aloadn c149_19 rfl <|
    t_bd e11 fun r12 c13 e14 =>
    c_gA c149_20 c13 <|
    r_aloadn c149_23 rfl <|
    t_bd e14 fun r15 c16 e17 =>
    c_gI c149_24 c16 <|
    t_bd e17 fun r18 c19 e20 =>
    c_aI c149_27 c19 <|
    t_bd e20 fun H21 c22 e23 =>
    c_sI c149_28 c22 <|
    r_aloadn c149_29 rfl <|
    r_dup c149_30 rfl <|
    t_bd e23 fun r24 c25 e26 =>
    c_gI c149_31 c25 <|
    r_iconst c149_34 <|
    r_iadd c149_35 rfl <|
    t_bd e26 fun H27 c28 e29 =>
    c_uF c149_36 ⟨rfl, rfl⟩ c28 <|
    J149_39_ok hct hO  e29
  ))
def J150_48 (xt : mj_X) (ct : Nat → Value) (O : OR) (N : Nat)  (H : mj_H) : Option (mj_H) :=
  some H
theorem J150_48_ok {xt : mj_X} {ct : Nat → Value} {O : OR} {d N : Nat} (hct : ct 0 = .int 1) (hO : oOK xt ct d O) {l : mj_L}  {H : mj_H} {q : mj_H}  (e : J150_48 xt ct O N  H = some q) : mj_Run kY xt ct (d + 1) 150 48 l [] H (.inl none, q) := by
  unfold J150_48 at e
  exact (
  (by cases e; exact (r_ret c150_48)))
/-- DiceOdds$Bench.put(IJ)V -/
def C150 (xt : mj_X) (ct : Nat → Value) (O : OR) (N : Nat) (x0 : Nat) (x1 : Int32) (x2 : Int64) (H : mj_H) : Option (mj_H) :=
  (gA H x0 3 2).bind fun r1 =>
  (gI H x0 3 3).bind fun r4 =>
  (aI xt H r1 r4).bind fun r7 =>
  bif mj_c2 .ge r7 4598 then
    J150_48 xt ct O N H
  else
  (gA H x0 3 0).bind fun r12 =>
  (sN .int H r12 r7 x1).bind fun H15 =>
  (gA H15 x0 3 1).bind fun r18 =>
  (sL H15 r18 r7 x2).bind fun H21 =>
  (gA H21 x0 3 2).bind fun r24 =>
  (gI H21 x0 3 3).bind fun r27 =>
  (sN .int H21 r24 r27 (r7 + 1)).bind fun H30 =>
  J150_48 xt ct O N H30
theorem C150_ok {xt : mj_X} {ct : Nat → Value} {O : OR} {d N : Nat} (hct : ct 0 = .int 1) (hO : oOK xt ct d O) {x0 : Nat} {x1 : Int32} {x2 : Int64} {H : mj_H} {q : mj_H} (e : C150 xt ct O N x0 x1 x2 H = some q) : mj_Run kY xt ct (d + 1) 150 0 (lv_args 0 [.ref x0, .int x1, .long x2]) [] H (.inl none, q) := by
  unfold C150 at e
  exact (
  r_aloadn c150_0 rfl <|
  t_bd e fun r1 c2 e3 =>
  c_gA c150_1 c2 <|
  r_aloadn c150_4 rfl <|
  t_bd e3 fun r4 c5 e6 =>
  c_gI c150_5 c5 <|
  t_bd e6 fun r7 c8 e9 =>
  c_aI c150_8 c8 <|
  r_istore c150_9 <|
  r_iload c150_11 ld1_eq <|
  r_sipush c150_13 <|
  t_if e9 (fun b10 e11 =>
    r_icmpT c150_16 b10 <|
    J150_48_ok hct hO  e11
  ) (fun b10 e11 =>
    r_icmpF c150_16 b10 <|
    r_aloadn c150_19 (ld1_ne rfl (by decide) (Or.inl (by decide))) <|
    t_bd e11 fun r12 c13 e14 =>
    c_gA c150_20 c13 <|
    r_iload c150_23 ld1_eq <|
    r_iloadn c150_25 (ld1_ne rfl (by decide) (Or.inl (by decide))) <|
    t_bd e14 fun H15 c16 e17 =>
    c_sI c150_26 c16 <|
    r_aloadn c150_27 (ld1_ne rfl (by decide) (Or.inl (by decide))) <|
    t_bd e17 fun r18 c19 e20 =>
    c_gA c150_28 c19 <|
    r_iload c150_31 ld1_eq <|
    r_lloadn c150_33 (ld1_ne rfl (by decide) (Or.inl (by decide))) <|
    t_bd e20 fun H21 c22 e23 =>
    c_sL c150_34 c22 <|
    r_aloadn c150_35 (ld1_ne rfl (by decide) (Or.inl (by decide))) <|
    t_bd e23 fun r24 c25 e26 =>
    c_gA c150_36 c25 <|
    r_aloadn c150_39 (ld1_ne rfl (by decide) (Or.inl (by decide))) <|
    t_bd e26 fun r27 c28 e29 =>
    c_gI c150_40 c28 <|
    r_iload c150_43 ld1_eq <|
    r_iconst c150_45 <|
    r_iadd c150_46 rfl <|
    t_bd e29 fun H30 c31 e32 =>
    c_sI c150_47 c31 <|
    J150_48_ok hct hO  e32
  ))
def LG142_42 (xt : mj_X) (ct : Nat → Value) (d : Nat) (q : (Int32) × mj_H) (x0 : Nat) (x1 : Nat) (x4 : Int32) (H : mj_H) : Prop := ∀ l, mj_ld l 0 = some (.ref x0) → mj_ld l 1 = some (.ref x1) → mj_ld l 4 = some (.int x4) → mj_Run kY xt ct (d + 4) 142 42 l [] H (.inl (vI q.1), q.2)
def GG142_42 (xt : mj_X) (ct : Nat → Value) (d : Nat) (q : (Int32) × mj_H) (o : (Nat × Nat × Int32 × mj_H) ⊕ ((Int32) × mj_H)) : Prop := match o with
  | .inl (x0, x1, x4, H) => LG142_42 xt ct d q x0 x1 x4 H
  | .inr r => r = q
def J142_77 (xt : mj_X) (ct : Nat → Value) (O : OR) (N : Nat) (x0 : Nat) (x1 : Nat) (x4 : Int32) (H : mj_H) : Option ((Nat × Nat × Int32 × mj_H) ⊕ ((Int32) × mj_H)) :=
  some (.inl (x0, x1, (x4 + 1), H))
theorem J142_77_ok {xt : mj_X} {ct : Nat → Value} {O : OR} {d N : Nat} (hct : ct 0 = .int 1) (hO : oOK xt ct d O) {l : mj_L} {x0 : Nat} {x1 : Nat} {x4 : Int32} {H : mj_H} {o : (Nat × Nat × Int32 × mj_H) ⊕ ((Int32) × mj_H)} {q : (Int32) × mj_H} (f0 : mj_ld l 0 = some (.ref x0)) (f1 : mj_ld l 1 = some (.ref x1)) (f4 : mj_ld l 4 = some (.int x4)) (e : J142_77 xt ct O N x0 x1 x4 H = some o) (g : GG142_42 xt ct d q o) : mj_Run kY xt ct (d + 4) 142 77 l [] H (.inl (vI q.1), q.2) := by
  unfold J142_77 at e
  exact (
  r_iinc c142_77 f4 <|
  r_goto c142_80 <|
  t_rg e g (fun (z : LG142_42 xt ct d q x0 x1 (x4 + 1) H) => z _ (ld1_ne f0 (by decide) (Or.inl (by decide))) (ld1_ne f1 (by decide) (Or.inl (by decide))) ld1_eq))
def B142_42 (xt : mj_X) (ct : Nat → Value) (O : OR) (N : Nat) (s : Nat × Nat × Int32 × mj_H) : Option ((Nat × Nat × Int32 × mj_H) ⊕ ((Int32) × mj_H)) :=
  (gR s.2.2.2 s.1 8 4).bind fun r12 =>
  (r12).bind fun a15 =>
  (aN xt s.2.2.2 a15).bind fun r18 =>
  bif mj_c2 .ge s.2.2.1 r18 then
    some (.inr (1, s.2.2.2))
  else
  (gR s.2.2.2 s.1 8 4).bind fun r23 =>
  (r23).bind fun a26 =>
  (aL xt s.2.2.2 a26 s.2.2.1).bind fun r29 =>
  bif mj_c1 .le (lg_cmp r29 0) then
    J142_77 xt ct O N s.1 s.2.1 s.2.2.1 s.2.2.2
  else
  (gR s.2.2.2 s.1 8 4).bind fun r34 =>
  (r34).bind fun a37 =>
  (aL xt s.2.2.2 a37 s.2.2.1).bind fun r40 =>
  (gK s.2.2.2 s.2.1 3).bind fun k43 =>
  (C150 xt ct O N s.2.1 s.2.2.1 r40 s.2.2.2).bind fun r46 =>
  J142_77 xt ct O N s.1 s.2.1 s.2.2.1 r46
def L142_42 (xt : mj_X) (ct : Nat → Value) (O : OR) (N : Nat) (s : Nat × Nat × Int32 × mj_H) : Option ((Int32) × mj_H) := t_lp (B142_42 xt ct O N) N s
theorem B142_42_ok {xt : mj_X} {ct : Nat → Value} {O : OR} {d N : Nat} (hct : ct 0 = .int 1) (hO : oOK xt ct d O) {s : Nat × Nat × Int32 × mj_H} {o : (Nat × Nat × Int32 × mj_H) ⊕ ((Int32) × mj_H)} {q : (Int32) × mj_H} (e : B142_42 xt ct O N s = some o) (g : GG142_42 xt ct d q o) : LG142_42 xt ct d q s.1 s.2.1 s.2.2.1 s.2.2.2 := by
  unfold B142_42 at e
  exact (fun l f0 f1 f4 =>
  r_iload c142_42 f4 <|
  r_aloadn c142_44 f0 <|
  t_bd e fun r12 c13 e14 =>
  c_gR c142_45 c13 <|
  t_bd e14 fun a15 n16 e17 =>
  c_at (st2 := [.ref a15, .int s.2.2.1]) (by rw [n16]) <|
  t_bd e17 fun r18 c19 e20 =>
  c_len c142_48 c19 <|
  t_if e20 (fun b21 e22 =>
    r_icmpT c142_49 b21 <|
    r_iconst c142_83 <|
    t_rg e22 g (fun (z : (1, s.2.2.2) = q) => (by cases z; exact (r_iret c142_84 rfl)))
  ) (fun b21 e22 =>
    r_icmpF c142_49 b21 <|
    r_aloadn c142_52 f0 <|
    t_bd e22 fun r23 c24 e25 =>
    c_gR c142_53 c24 <|
    r_iload c142_56 f4 <|
    t_bd e25 fun a26 n27 e28 =>
    c_at (st2 := [.int s.2.2.1, .ref a26]) (by rw [n27]) <|
    t_bd e28 fun r29 c30 e31 =>
    c_aL c142_58 c30 <|
    r_lconst c142_59 <|
    r_lcmp c142_60 rfl <|
    t_if e31 (fun b32 e33 =>
      r_ifT c142_61 b32 <|
      J142_77_ok hct hO f0 f1 f4 e33 g
    ) (fun b32 e33 =>
      r_ifF c142_61 b32 <|
      r_aloadn c142_64 f1 <|
      r_iload c142_65 f4 <|
      r_aloadn c142_67 f0 <|
      t_bd e33 fun r34 c35 e36 =>
      c_gR c142_68 c35 <|
      r_iload c142_71 f4 <|
      t_bd e36 fun a37 n38 e39 =>
      c_at (st2 := [.int s.2.2.1, .ref a37, .int s.2.2.1, .ref s.2.1]) (by rw [n38]) <|
      t_bd e39 fun r40 c41 e42 =>
      c_aL c142_73 c41 <|
      t_bd e42 fun k43 c44 e45 =>
      t_bd e45 fun r46 c47 e48 =>
      c_cal (st2 := []) (s_cv (as := [.ref s.2.1, .int s.2.2.1, .long r40]) (st' := []) c142_74 rfl (gK_ok c44) ⟨Nat.le_of_ble_eq_true rfl, Nat.le_of_ble_eq_true rfl, Nat.le_of_ble_eq_true rfl⟩ rfl rfl) (C150_ok hct hO c47) (Nat.add_lt_add_left (by decide) d) rfl <|
      J142_77_ok hct hO f0 f1 f4 e48 g
    )
  ))
theorem L142_42_ok {xt : mj_X} {ct : Nat → Value} {O : OR} {d N : Nat} (hct : ct 0 = .int 1) (hO : oOK xt ct d O) {x0 : Nat} {x1 : Nat} {x4 : Int32} {H : mj_H} {q : (Int32) × mj_H} (e : L142_42 xt ct O N (x0, x1, x4, H) = some q) : LG142_42 xt ct d q x0 x1 x4 H :=
  t_lp_ok (G := fun s => LG142_42 xt ct d q s.1 s.2.1 s.2.2.1 s.2.2.2) (fun s s' e g => B142_42_ok hct hO e (by obtain ⟨_, _, _, _⟩ := s'; exact g)) (fun s e => B142_42_ok hct hO e rfl) N (x0, x1, x4, H) e
def J142_35 (xt : mj_X) (ct : Nat → Value) (O : OR) (N : Nat) (x0 : Nat) (x1 : Nat) (H : mj_H) : Option ((Int32) × mj_H) :=
  (gK H x1 3).bind fun k6 =>
  (C149 xt ct O N x1 H).bind fun r9 =>
  L142_42 xt ct O N (x0, x1, 0, r9)
theorem J142_35_ok {xt : mj_X} {ct : Nat → Value} {O : OR} {d N : Nat} (hct : ct 0 = .int 1) (hO : oOK xt ct d O) {l : mj_L} {x0 : Nat} {x1 : Nat} {H : mj_H} {q : (Int32) × mj_H} (f0 : mj_ld l 0 = some (.ref x0)) (f1 : mj_ld l 1 = some (.ref x1)) (e : J142_35 xt ct O N x0 x1 H = some q) : mj_Run kY xt ct (d + 4) 142 35 l [] H (.inl (vI q.1), q.2) := by
  unfold J142_35 at e
  exact (
  r_aloadn c142_35 f1 <|
  t_bd e fun k6 c7 e8 =>
  t_bd e8 fun r9 c10 e11 =>
  c_cal (st2 := []) (s_cv (as := [.ref x1]) (st' := []) c142_36 rfl (gK_ok c7) ⟨Nat.le_of_ble_eq_true rfl, Nat.le_of_ble_eq_true rfl, Nat.le_of_ble_eq_true rfl⟩ rfl rfl) (C149_ok hct hO c10) (Nat.add_lt_add_left (by decide) d) rfl <|
  r_iconst c142_39 <|
  r_istore c142_40 <|
  L142_42_ok hct hO e11 _ (ld1_ne f0 (by decide) (Or.inl (by decide))) (ld1_ne f1 (by decide) (Or.inl (by decide))) ld1_eq)
def J142_32 (xt : mj_X) (ct : Nat → Value) (O : OR) (N : Nat) (x0 : Nat) (x1 : Nat) (s0 : Nat) (s1 : Nat) (H : mj_H) : Option ((Int32) × mj_H) :=
  (uF H s1 8 4 (.ref s0)).bind fun H63 =>
  J142_35 xt ct O N x0 x1 H63
theorem J142_32_ok {xt : mj_X} {ct : Nat → Value} {O : OR} {d N : Nat} (hct : ct 0 = .int 1) (hO : oOK xt ct d O) {l : mj_L} {x0 : Nat} {x1 : Nat} {s0 : Nat} {s1 : Nat} {H : mj_H} {q : (Int32) × mj_H} (f0 : mj_ld l 0 = some (.ref x0)) (f1 : mj_ld l 1 = some (.ref x1)) (e : J142_32 xt ct O N x0 x1 s0 s1 H = some q) : mj_Run kY xt ct (d + 4) 142 32 l [.ref s0, .ref s1] H (.inl (vI q.1), q.2) := by
  unfold J142_32 at e
  exact (
  t_bd e fun H63 c64 e65 =>
  c_uF c142_32 ⟨rfl, rfl⟩ c64 <|
  J142_35_ok hct hO f0 f1 e65)
/-- DiceOdds$Dice.lay(LDiceOdds$Bench;LDiceOdds$States;I)Z -/
def C142 (xt : mj_X) (ct : Nat → Value) (O : OR) (N : Nat) (x0 : Nat) (x1 : Nat) (x2 : Nat) (x3 : Int32) (H : mj_H) : Option ((Int32) × mj_H) :=
  (gR H x0 8 4).bind fun r1 =>
  bif !(Option.isNone r1) then
    J142_35 xt ct O N x0 x1 H
  else
  (gI H x0 8 2).bind fun r49 =>
  bif mj_c2 .ne r49 101 then
    (gA H x1 3 7).bind fun r54 =>
    (gK H x0 8).bind fun k57 =>
    (C144 xt ct O N x0 r54 H).bind fun r60 =>
    J142_32 xt ct O N x0 x1 r60.1 x0 r60.2
  else
  (gK H x0 8).bind fun k66 =>
  (C143 xt ct O N x0 H).bind fun r69 =>
  J142_32 xt ct O N x0 x1 r69.1 x0 r69.2
theorem C142_ok {xt : mj_X} {ct : Nat → Value} {O : OR} {d N : Nat} (hct : ct 0 = .int 1) (hO : oOK xt ct d O) {x0 : Nat} {x1 : Nat} {x2 : Nat} {x3 : Int32} {H : mj_H} {q : (Int32) × mj_H} (e : C142 xt ct O N x0 x1 x2 x3 H = some q) : mj_Run kY xt ct (d + 4) 142 0 (lv_args 0 [.ref x0, .ref x1, .ref x2, .int x3]) [] H (.inl (vI q.1), q.2) := by
  unfold C142 at e
  exact (
  r_aloadn c142_0 rfl <|
  t_bd e fun r1 c2 e3 =>
  c_gR c142_1 c2 <|
  t_if e3 (fun b4 e5 =>
    c_nnl c142_4 (b_nt b4) <|
    J142_35_ok hct hO rfl rfl e5
  ) (fun b4 e5 =>
    c_nnf c142_4 (b_nf b4) <|
    r_aloadn c142_7 rfl <|
    r_aloadn c142_8 rfl <|
    t_bd e5 fun r49 c50 e51 =>
    c_gI c142_9 c50 <|
    r_bipush c142_12 <|
    t_if e51 (fun b52 e53 =>
      r_icmpT c142_14 b52 <|
      r_aloadn c142_24 rfl <|
      r_aloadn c142_25 rfl <|
      t_bd e53 fun r54 c55 e56 =>
      c_gA c142_26 c55 <|
      t_bd e56 fun k57 c58 e59 =>
      t_bd e59 fun r60 c61 e62 =>
      c_cal (st2 := [.ref r60.1, .ref x0]) (s_cv (as := [.ref x0, .ref r54]) (st' := [.ref x0]) c142_29 rfl (gK_ok c58) ⟨Nat.le_of_ble_eq_true rfl, Nat.le_of_ble_eq_true rfl, Nat.le_of_ble_eq_true rfl⟩ rfl rfl) (C144_ok hct hO c61) (Nat.add_lt_add_left (by decide) d) rfl <|
      J142_32_ok hct hO rfl rfl e62
    ) (fun b52 e53 =>
      r_icmpF c142_14 b52 <|
      r_aloadn c142_17 rfl <|
      t_bd e53 fun k66 c67 e68 =>
      t_bd e68 fun r69 c70 e71 =>
      c_cal (st2 := [.ref r69.1, .ref x0]) (s_cv (as := [.ref x0]) (st' := [.ref x0]) c142_18 rfl (gK_ok c67) ⟨Nat.le_of_ble_eq_true rfl, Nat.le_of_ble_eq_true rfl, Nat.le_of_ble_eq_true rfl⟩ rfl rfl) (C143_ok hct hO c70) (Nat.add_lt_add_left (by decide) d) rfl <|
      r_goto c142_21 <|
      J142_32_ok hct hO rfl rfl e71
    )
  ))
def LG161_21 (xt : mj_X) (ct : Nat → Value) (d : Nat) (q : mj_H) (x0 : Nat) (x1 : Int32) (H : mj_H) : Prop := ∀ l, mj_ld l 0 = some (.ref x0) → mj_ld l 1 = some (.int x1) → mj_Run kY xt ct (d + 1) 161 21 l [] H (.inl none, q)
def GG161_21 (xt : mj_X) (ct : Nat → Value) (d : Nat) (q : mj_H) (o : (Nat × Int32 × mj_H) ⊕ (mj_H)) : Prop := match o with
  | .inl (x0, x1, H) => LG161_21 xt ct d q x0 x1 H
  | .inr r => r = q
def B161_21 (xt : mj_X) (ct : Nat → Value) (O : OR) (N : Nat) (s : Nat × Int32 × mj_H) : Option ((Nat × Int32 × mj_H) ⊕ (mj_H)) :=
  (gA s.2.2 s.1 3 2).bind fun r15 =>
  (gI s.2.2 s.1 3 3).bind fun r18 =>
  (aI xt s.2.2 r15 r18).bind fun r21 =>
  bif mj_c2 .ge s.2.1 r21 then
    some (.inr s.2.2)
  else
  (gA s.2.2 s.1 3 0).bind fun r26 =>
  (gA s.2.2 s.1 3 0).bind fun r29 =>
  (aI xt s.2.2 r29 s.2.1).bind fun r32 =>
  (sN .int s.2.2 r26 s.2.1 (-r32)).bind fun H35 =>
  some (.inl (s.1, (s.2.1 + 1), H35))
def L161_21 (xt : mj_X) (ct : Nat → Value) (O : OR) (N : Nat) (s : Nat × Int32 × mj_H) : Option (mj_H) := t_lp (B161_21 xt ct O N) N s
theorem B161_21_ok {xt : mj_X} {ct : Nat → Value} {O : OR} {d N : Nat} (hct : ct 0 = .int 1) (hO : oOK xt ct d O) {s : Nat × Int32 × mj_H} {o : (Nat × Int32 × mj_H) ⊕ (mj_H)} {q : mj_H} (e : B161_21 xt ct O N s = some o) (g : GG161_21 xt ct d q o) : LG161_21 xt ct d q s.1 s.2.1 s.2.2 := by
  unfold B161_21 at e
  exact (fun l f0 f1 =>
  r_iloadn c161_21 f1 <|
  r_aloadn c161_22 f0 <|
  t_bd e fun r15 c16 e17 =>
  c_gA c161_23 c16 <|
  r_aloadn c161_26 f0 <|
  t_bd e17 fun r18 c19 e20 =>
  c_gI c161_27 c19 <|
  t_bd e20 fun r21 c22 e23 =>
  c_aI c161_30 c22 <|
  t_if e23 (fun b24 e25 =>
    r_icmpT c161_31 b24 <|
    t_rg e25 g (fun (z : s.2.2 = q) => (by cases z; exact (r_ret c161_53)))
  ) (fun b24 e25 =>
    r_icmpF c161_31 b24 <|
    r_aloadn c161_34 f0 <|
    t_bd e25 fun r26 c27 e28 =>
    c_gA c161_35 c27 <|
    r_iloadn c161_38 f1 <|
    r_aloadn c161_39 f0 <|
    t_bd e28 fun r29 c30 e31 =>
    c_gA c161_40 c30 <|
    r_iloadn c161_43 f1 <|
    t_bd e31 fun r32 c33 e34 =>
    c_aI c161_44 c33 <|
    r_ineg c161_45 rfl <|
    t_bd e34 fun H35 c36 e37 =>
    c_sI c161_46 c36 <|
    r_iinc c161_47 f1 <|
    r_goto c161_50 <|
    t_rg e37 g (fun (z : LG161_21 xt ct d q s.1 (s.2.1 + 1) H35) => z _ (ld1_ne f0 (by decide) (Or.inr rfl)) ld1_eq)
  ))
theorem L161_21_ok {xt : mj_X} {ct : Nat → Value} {O : OR} {d N : Nat} (hct : ct 0 = .int 1) (hO : oOK xt ct d O) {x0 : Nat} {x1 : Int32} {H : mj_H} {q : mj_H} (e : L161_21 xt ct O N (x0, x1, H) = some q) : LG161_21 xt ct d q x0 x1 H :=
  t_lp_ok (G := fun s => LG161_21 xt ct d q s.1 s.2.1 s.2.2) (fun s s' e g => B161_21_ok hct hO e (by obtain ⟨_, _, _⟩ := s'; exact g)) (fun s e => B161_21_ok hct hO e rfl) N (x0, x1, H) e
/-- DiceOdds$Bench.negate()V -/
def C161 (xt : mj_X) (ct : Nat → Value) (O : OR) (N : Nat) (x0 : Nat) (H : mj_H) : Option (mj_H) :=
  (gI H x0 3 3).bind fun r1 =>
  bif mj_c2 .ge r1 1 then
    (gA H x0 3 2).bind fun r6 =>
    (gI H x0 3 3).bind fun r9 =>
    (aI xt H r6 (r9 - 1)).bind fun r12 =>
    L161_21 xt ct O N (x0, r12, H)
  else
  some H
theorem C161_ok {xt : mj_X} {ct : Nat → Value} {O : OR} {d N : Nat} (hct : ct 0 = .int 1) (hO : oOK xt ct d O) {x0 : Nat} {H : mj_H} {q : mj_H} (e : C161 xt ct O N x0 H = some q) : mj_Run kY xt ct (d + 1) 161 0 (lv_args 0 [.ref x0]) [] H (.inl none, q) := by
  unfold C161 at e
  exact (
  r_aloadn c161_0 rfl <|
  t_bd e fun r1 c2 e3 =>
  c_gI c161_1 c2 <|
  r_iconst c161_4 <|
  t_if e3 (fun b4 e5 =>
    r_icmpT c161_5 b4 <|
    r_aloadn c161_9 rfl <|
    t_bd e5 fun r6 c7 e8 =>
    c_gA c161_10 c7 <|
    r_aloadn c161_13 rfl <|
    t_bd e8 fun r9 c10 e11 =>
    c_gI c161_14 c10 <|
    r_iconst c161_17 <|
    r_isub c161_18 rfl <|
    t_bd e11 fun r12 c13 e14 =>
    c_aI c161_19 c13 <|
    r_istoren c161_20 <|
    L161_21_ok hct hO e14 _ (ld1_ne rfl (by decide) (Or.inr rfl)) ld1_eq
  ) (fun b4 e5 =>
    r_icmpF c161_5 b4 <|
    (by cases e5; exact (r_ret c161_8))
  ))
