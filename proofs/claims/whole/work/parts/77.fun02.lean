def J84_24 (xt : mj_X) (ct : Nat → Value) (O : OR) (N : Nat) (s0 : Int32) (H : mj_H) : Option ((Int32) × mj_H) :=
  if narrow .char (.int s0) = .int s0 then
  some (s0, H)
  else none
theorem J84_24_ok {xt : mj_X} {ct : Nat → Value} {O : OR} {d N : Nat} (hct : ct 0 = .int 1) (hO : oOK xt ct d O) {l : mj_L} {s0 : Int32} {H : mj_H} {q : (Int32) × mj_H}  (e : J84_24 xt ct O N s0 H = some q) : mj_Run kY xt ct (d + 1) 84 24 l [.int s0] H (.inl (vI q.1), q.2) := by
  unfold J84_24 at e
  exact (
  t_ck e fun z9 e10 =>
  (by cases e10; exact (r_iret c84_24 z9)))
/-- DiceOdds$Parser.peek()C -/
def C84 (xt : mj_X) (ct : Nat → Value) (O : OR) (N : Nat) (x0 : Nat) (H : mj_H) : Option ((Int32) × mj_H) :=
  (gI H x0 1 3).bind fun r1 =>
  (gI H x0 1 2).bind fun r4 =>
  bif mj_c2 .ge r1 r4 then
    J84_24 xt ct O N 0 H
  else
  (gA H x0 1 0).bind fun r11 =>
  (gI H x0 1 3).bind fun r14 =>
  (aC xt H r11 r14).bind fun r17 =>
  J84_24 xt ct O N r17 H
theorem C84_ok {xt : mj_X} {ct : Nat → Value} {O : OR} {d N : Nat} (hct : ct 0 = .int 1) (hO : oOK xt ct d O) {x0 : Nat} {H : mj_H} {q : (Int32) × mj_H} (e : C84 xt ct O N x0 H = some q) : mj_Run kY xt ct (d + 1) 84 0 (lv_args 0 [.ref x0]) [] H (.inl (vI q.1), q.2) := by
  unfold C84 at e
  exact (
  r_aloadn c84_0 rfl <|
  t_bd e fun r1 c2 e3 =>
  c_gI c84_1 c2 <|
  r_aloadn c84_4 rfl <|
  t_bd e3 fun r4 c5 e6 =>
  c_gI c84_5 c5 <|
  t_if e6 (fun b7 e8 =>
    r_icmpT c84_8 b7 <|
    r_iconst c84_23 <|
    J84_24_ok hct hO  e8
  ) (fun b7 e8 =>
    r_icmpF c84_8 b7 <|
    r_aloadn c84_11 rfl <|
    t_bd e8 fun r11 c12 e13 =>
    c_gA c84_12 c12 <|
    r_aloadn c84_15 rfl <|
    t_bd e13 fun r14 c15 e16 =>
    c_gI c84_16 c15 <|
    t_bd e16 fun r17 c18 e19 =>
    c_aC c84_19 c18 <|
    r_goto c84_20 <|
    J84_24_ok hct hO  e19
  ))
def J86_17 (xt : mj_X) (ct : Nat → Value) (O : OR) (N : Nat) (s0 : Int32) (H : mj_H) : Option ((Int32) × mj_H) :=
  if narrow .boolean (.int s0) = .int s0 then
  some (s0, H)
  else none
theorem J86_17_ok {xt : mj_X} {ct : Nat → Value} {O : OR} {d N : Nat} (hct : ct 0 = .int 1) (hO : oOK xt ct d O) {l : mj_L} {s0 : Int32} {H : mj_H} {q : (Int32) × mj_H}  (e : J86_17 xt ct O N s0 H = some q) : mj_Run kY xt ct (d + 1) 86 17 l [.int s0] H (.inl (vI q.1), q.2) := by
  unfold J86_17 at e
  exact (
  t_ck e fun z3 e4 =>
  (by cases e4; exact (r_iret c86_17 z3)))
def J86_16 (xt : mj_X) (ct : Nat → Value) (O : OR) (N : Nat)  (H : mj_H) : Option ((Int32) × mj_H) :=
  J86_17 xt ct O N 0 H
theorem J86_16_ok {xt : mj_X} {ct : Nat → Value} {O : OR} {d N : Nat} (hct : ct 0 = .int 1) (hO : oOK xt ct d O) {l : mj_L}  {H : mj_H} {q : (Int32) × mj_H}  (e : J86_16 xt ct O N  H = some q) : mj_Run kY xt ct (d + 1) 86 16 l [] H (.inl (vI q.1), q.2) := by
  unfold J86_16 at e
  exact (
  r_iconst c86_16 <|
  J86_17_ok hct hO  e)
/-- DiceOdds.isName(C)Z -/
def C86 (xt : mj_X) (ct : Nat → Value) (O : OR) (N : Nat) (x0 : Int32) (H : mj_H) : Option ((Int32) × mj_H) :=
  bif mj_c2 .lt x0 65 then
    J86_16 xt ct O N H
  else
  bif mj_c2 .ge x0 71 then
    J86_16 xt ct O N H
  else
  J86_17 xt ct O N 1 H
theorem C86_ok {xt : mj_X} {ct : Nat → Value} {O : OR} {d N : Nat} (hct : ct 0 = .int 1) (hO : oOK xt ct d O) {x0 : Int32} {H : mj_H} {q : (Int32) × mj_H} (e : C86 xt ct O N x0 H = some q) : mj_Run kY xt ct (d + 1) 86 0 (lv_args 0 [.int x0]) [] H (.inl (vI q.1), q.2) := by
  unfold C86 at e
  exact (
  r_iloadn c86_0 rfl <|
  r_bipush c86_1 <|
  t_if e (fun b1 e2 =>
    r_icmpT c86_3 b1 <|
    J86_16_ok hct hO  e2
  ) (fun b1 e2 =>
    r_icmpF c86_3 b1 <|
    r_iloadn c86_6 rfl <|
    r_bipush c86_7 <|
    t_if e2 (fun b5 e6 =>
      r_icmpT c86_9 b5 <|
      J86_16_ok hct hO  e6
    ) (fun b5 e6 =>
      r_icmpF c86_9 b5 <|
      r_iconst c86_12 <|
      r_goto c86_13 <|
      J86_17_ok hct hO  e6
    )
  ))
def J94_14 (xt : mj_X) (ct : Nat → Value) (O : OR) (N : Nat) (x0 : Nat) (s0 : Int32) (s1 : Nat) (H : mj_H) : Option (((Unit) ⊕ Nat) × mj_H) :=
  (gI H x0 1 3).bind fun r9 =>
  (gK H s1 1).bind fun k12 =>
  (C87 xt ct O N s1 s0 r9 H).bind fun r15 =>
  tc (fun z => z) r15 fun v18 =>
  (gI r15.2 x0 1 3).bind fun r22 =>
  (uF r15.2 x0 1 3 (.int (r22 + 1))).bind fun H25 =>
  some (.inl (), H25)
theorem J94_14_ok {xt : mj_X} {ct : Nat → Value} {O : OR} {d N : Nat} (hct : ct 0 = .int 1) (hO : oOK xt ct d O) {l : mj_L} {x0 : Nat} {s0 : Int32} {s1 : Nat} {H : mj_H} {q : ((Unit) ⊕ Nat) × mj_H} (f0 : mj_ld l 0 = some (.ref x0)) (e : J94_14 xt ct O N x0 s0 s1 H = some q) : mj_Run kY xt ct (d + 2) 94 14 l [.int s0, .ref s1] H (tT vU q.1, q.2) := by
  unfold J94_14 at e
  exact (
  r_aloadn c94_14 f0 <|
  t_bd e fun r9 c10 e11 =>
  c_gI c94_15 c10 <|
  t_bd e11 fun k12 c13 e14 =>
  t_bd e14 fun r15 c16 e17 =>
  t_tc e17 (fun v18 p19 e20 =>
    c_calT (f := vU) (p := r15) (st2 := []) (s_cv (as := [.ref s1, .int s0, .int r9]) (st' := []) c94_18 rfl (gK_ok c13) ⟨Nat.le_of_ble_eq_true rfl, Nat.le_of_ble_eq_true rfl, Nat.le_of_ble_eq_true rfl⟩ rfl rfl) (C87_ok hct hO c16) p19 (Nat.add_lt_add_left (by decide) d) rfl <|
    r_aloadn c94_21 f0 <|
    r_dup c94_22 rfl <|
    t_bd e20 fun r22 c23 e24 =>
    c_gI c94_23 c23 <|
    r_iconst c94_26 <|
    r_iadd c94_27 rfl <|
    t_bd e24 fun H25 c26 e27 =>
    c_uF c94_28 ⟨rfl, rfl⟩ c26 <|
    (by cases e27; exact (r_ret c94_31))
  ) (fun x21 p19 e20 =>
    (by cases e20; exact (c_thrT (f := vU) (p := r15) (s_cv (as := [.ref s1, .int s0, .int r9]) (st' := []) c94_18 rfl (gK_ok c13) ⟨Nat.le_of_ble_eq_true rfl, Nat.le_of_ble_eq_true rfl, Nat.le_of_ble_eq_true rfl⟩ rfl rfl) (C87_ok hct hO c16) p19 (Nat.add_lt_add_left (by decide) d) nh94))
  ))
/-- DiceOdds$Parser.pass(C)V -/
def C94 (xt : mj_X) (ct : Nat → Value) (O : OR) (N : Nat) (x0 : Nat) (x1 : Int32) (H : mj_H) : Option (((Unit) ⊕ Nat) × mj_H) :=
  (gK H x0 1).bind fun k1 =>
  (C84 xt ct O N x0 H).bind fun r4 =>
  bif mj_c2 .ne r4.1 x1 then
    J94_14 xt ct O N x0 0 x0 r4.2
  else
  J94_14 xt ct O N x0 1 x0 r4.2
theorem C94_ok {xt : mj_X} {ct : Nat → Value} {O : OR} {d N : Nat} (hct : ct 0 = .int 1) (hO : oOK xt ct d O) {x0 : Nat} {x1 : Int32} {H : mj_H} {q : ((Unit) ⊕ Nat) × mj_H} (e : C94 xt ct O N x0 x1 H = some q) : mj_Run kY xt ct (d + 2) 94 0 (lv_args 0 [.ref x0, .int x1]) [] H (tT vU q.1, q.2) := by
  unfold C94 at e
  exact (
  r_aloadn c94_0 rfl <|
  r_aloadn c94_1 rfl <|
  t_bd e fun k1 c2 e3 =>
  t_bd e3 fun r4 c5 e6 =>
  c_cal (st2 := [.int r4.1, .ref x0]) (s_cv (as := [.ref x0]) (st' := [.ref x0]) c94_2 rfl (gK_ok c2) ⟨Nat.le_of_ble_eq_true rfl, Nat.le_of_ble_eq_true rfl, Nat.le_of_ble_eq_true rfl⟩ rfl rfl) (C84_ok hct hO c5) (Nat.add_lt_add_left (by decide) d) rfl <|
  r_iloadn c94_5 rfl <|
  t_if e6 (fun b7 e8 =>
    r_icmpT c94_6 b7 <|
    r_iconst c94_13 <|
    J94_14_ok hct hO rfl e8
  ) (fun b7 e8 =>
    r_icmpF c94_6 b7 <|
    r_iconst c94_9 <|
    r_goto c94_10 <|
    J94_14_ok hct hO rfl e8
  ))
def J110_11 (xt : mj_X) (ct : Nat → Value) (O : OR) (N : Nat) (x0 : Nat) (x1 : Int32) (s0 : Int32) (s1 : Nat) (H : mj_H) : Option (((Option Nat) ⊕ Nat) × mj_H) :=
  (gI H x0 1 3).bind fun r3 =>
  (gK H s1 1).bind fun k6 =>
  (C87 xt ct O N s1 s0 r3 H).bind fun r9 =>
  tc (fun z => z) r9 fun v12 =>
  (gK r9.2 x0 1).bind fun k16 =>
  (C94 xt ct O N x0 123 r9.2).bind fun r19 =>
  tc (fun z => z) r19 fun v22 =>
  (gK r19.2 x0 1).bind fun k26 =>
  (O.1 x0 (x1 + 1) r19.2).bind fun r29 =>
  tc (fun z => z) r29 fun v32 =>
  (gK r29.2 x0 1).bind fun k36 =>
  (C94 xt ct O N x0 125 r29.2).bind fun r39 =>
  tc (fun z => z) r39 fun v42 =>
  some (.inl v32, r39.2)
theorem J110_11_ok {xt : mj_X} {ct : Nat → Value} {O : OR} {d N : Nat} (hct : ct 0 = .int 1) (hO : oOK xt ct d O) {l : mj_L} {x0 : Nat} {x1 : Int32} {s0 : Int32} {s1 : Nat} {H : mj_H} {q : ((Option Nat) ⊕ Nat) × mj_H} (f0 : mj_ld l 0 = some (.ref x0)) (f1 : mj_ld l 1 = some (.int x1)) (e : J110_11 xt ct O N x0 x1 s0 s1 H = some q) : mj_Run kY xt ct (d + 3) 110 11 l [.int s0, .ref s1] H (tT vO q.1, q.2) := by
  unfold J110_11 at e
  exact (
  r_aloadn c110_11 f0 <|
  t_bd e fun r3 c4 e5 =>
  c_gI c110_12 c4 <|
  t_bd e5 fun k6 c7 e8 =>
  t_bd e8 fun r9 c10 e11 =>
  t_tc e11 (fun v12 p13 e14 =>
    c_calT (f := vU) (p := r9) (st2 := []) (s_cv (as := [.ref s1, .int s0, .int r3]) (st' := []) c110_15 rfl (gK_ok c7) ⟨Nat.le_of_ble_eq_true rfl, Nat.le_of_ble_eq_true rfl, Nat.le_of_ble_eq_true rfl⟩ rfl rfl) (C87_ok hct hO c10) p13 (Nat.add_lt_add_left (by decide) d) rfl <|
    r_aloadn c110_18 f0 <|
    r_bipush c110_19 <|
    t_bd e14 fun k16 c17 e18 =>
    t_bd e18 fun r19 c20 e21 =>
    t_tc e21 (fun v22 p23 e24 =>
      c_calT (f := vU) (p := r19) (st2 := []) (s_cv (as := [.ref x0, .int 123]) (st' := []) c110_21 rfl (gK_ok c17) ⟨Nat.le_of_ble_eq_true rfl, Nat.le_of_ble_eq_true rfl, Nat.le_of_ble_eq_true rfl⟩ rfl rfl) (C94_ok hct hO c20) p23 (Nat.add_lt_add_left (by decide) d) rfl <|
      r_aloadn c110_24 f0 <|
      r_iloadn c110_25 f1 <|
      r_iconst c110_26 <|
      r_iadd c110_27 rfl <|
      t_bd e24 fun k26 c27 e28 =>
      t_bd e28 fun r29 c30 e31 =>
      t_tc e31 (fun v32 p33 e34 =>
        c_calT (f := vO) (p := r29) (st2 := [rv v32]) (s_cv (as := [.ref x0, .int (x1 + 1)]) (st' := []) c110_28 rfl (gK_ok c27) ⟨Nat.le_of_ble_eq_true rfl, Nat.le_of_ble_eq_true rfl, Nat.le_of_ble_eq_true rfl⟩ rfl rfl) (hO.1 _ _ _ _ c30) p33 (Nat.lt_add_of_pos_right (by decide)) rfl <|
        c_asvn (o := v32) c110_31 <|
        r_aloadn c110_32 (ld1_ne f0 (by decide) (Or.inl (by decide))) <|
        r_bipush c110_33 <|
        t_bd e34 fun k36 c37 e38 =>
        t_bd e38 fun r39 c40 e41 =>
        t_tc e41 (fun v42 p43 e44 =>
          c_calT (f := vU) (p := r39) (st2 := []) (s_cv (as := [.ref x0, .int 125]) (st' := []) c110_35 rfl (gK_ok c37) ⟨Nat.le_of_ble_eq_true rfl, Nat.le_of_ble_eq_true rfl, Nat.le_of_ble_eq_true rfl⟩ rfl rfl) (C94_ok hct hO c40) p43 (Nat.add_lt_add_left (by decide) d) rfl <|
          c_alvn ld1_eq c110_38 <|
          (by cases e44; exact (c_arv (o := v32) c110_39))
        ) (fun x45 p43 e44 =>
          (by cases e44; exact (c_thrT (f := vU) (p := r39) (s_cv (as := [.ref x0, .int 125]) (st' := []) c110_35 rfl (gK_ok c37) ⟨Nat.le_of_ble_eq_true rfl, Nat.le_of_ble_eq_true rfl, Nat.le_of_ble_eq_true rfl⟩ rfl rfl) (C94_ok hct hO c40) p43 (Nat.add_lt_add_left (by decide) d) nh110))
        )
      ) (fun x35 p33 e34 =>
        (by cases e34; exact (c_thrT (f := vO) (p := r29) (s_cv (as := [.ref x0, .int (x1 + 1)]) (st' := []) c110_28 rfl (gK_ok c27) ⟨Nat.le_of_ble_eq_true rfl, Nat.le_of_ble_eq_true rfl, Nat.le_of_ble_eq_true rfl⟩ rfl rfl) (hO.1 _ _ _ _ c30) p33 (Nat.lt_add_of_pos_right (by decide)) nh110))
      )
    ) (fun x25 p23 e24 =>
      (by cases e24; exact (c_thrT (f := vU) (p := r19) (s_cv (as := [.ref x0, .int 123]) (st' := []) c110_21 rfl (gK_ok c17) ⟨Nat.le_of_ble_eq_true rfl, Nat.le_of_ble_eq_true rfl, Nat.le_of_ble_eq_true rfl⟩ rfl rfl) (C94_ok hct hO c20) p23 (Nat.add_lt_add_left (by decide) d) nh110))
    )
  ) (fun x15 p13 e14 =>
    (by cases e14; exact (c_thrT (f := vU) (p := r9) (s_cv (as := [.ref s1, .int s0, .int r3]) (st' := []) c110_15 rfl (gK_ok c7) ⟨Nat.le_of_ble_eq_true rfl, Nat.le_of_ble_eq_true rfl, Nat.le_of_ble_eq_true rfl⟩ rfl rfl) (C87_ok hct hO c10) p13 (Nat.add_lt_add_left (by decide) d) nh110))
  ))
/-- DiceOdds$Parser.inBraces(I)LDiceOdds$Statement; -/
def C110 (xt : mj_X) (ct : Nat → Value) (O : OR) (N : Nat) (x0 : Nat) (x1 : Int32) (H : mj_H) : Option (((Option Nat) ⊕ Nat) × mj_H) :=
  bif mj_c2 .ge x1 4 then
    J110_11 xt ct O N x0 x1 0 x0 H
  else
  J110_11 xt ct O N x0 x1 1 x0 H
theorem C110_ok {xt : mj_X} {ct : Nat → Value} {O : OR} {d N : Nat} (hct : ct 0 = .int 1) (hO : oOK xt ct d O) {x0 : Nat} {x1 : Int32} {H : mj_H} {q : ((Option Nat) ⊕ Nat) × mj_H} (e : C110 xt ct O N x0 x1 H = some q) : mj_Run kY xt ct (d + 3) 110 0 (lv_args 0 [.ref x0, .int x1]) [] H (tT vO q.1, q.2) := by
  unfold C110 at e
  exact (
  r_aloadn c110_0 rfl <|
  r_iloadn c110_1 rfl <|
  r_iconst c110_2 <|
  t_if e (fun b1 e2 =>
    r_icmpT c110_3 b1 <|
    r_iconst c110_10 <|
    J110_11_ok hct hO rfl rfl e2
  ) (fun b1 e2 =>
    r_icmpF c110_3 b1 <|
    r_iconst c110_6 <|
    r_goto c110_7 <|
    J110_11_ok hct hO rfl rfl e2
  ))
def LG101_5 (xt : mj_X) (ct : Nat → Value) (d : Nat) (q : (Int64) × mj_H) (x0 : Int64) (x2 : Int32) (x3 : Int64) (x5 : Int32) (H : mj_H) : Prop := ∀ l, mj_ld l 0 = some (.long x0) → mj_ld l 2 = some (.int x2) → mj_ld l 3 = some (.long x3) → mj_ld l 5 = some (.int x5) → mj_Run kY xt ct (d + 2) 101 5 l [] H (.inl (vL q.1), q.2)
def GG101_5 (xt : mj_X) (ct : Nat → Value) (d : Nat) (q : (Int64) × mj_H) (o : (Int64 × Int32 × Int64 × Int32 × mj_H) ⊕ ((Int64) × mj_H)) : Prop := match o with
  | .inl (x0, x2, x3, x5, H) => LG101_5 xt ct d q x0 x2 x3 x5 H
  | .inr r => r = q
def B101_5 (xt : mj_X) (ct : Nat → Value) (O : OR) (N : Nat) (s : Int64 × Int32 × Int64 × Int32 × mj_H) : Option ((Int64 × Int32 × Int64 × Int32 × mj_H) ⊕ ((Int64) × mj_H)) :=
  bif mj_c2 .ge s.2.2.2.1 s.2.1 then
    some (.inr (s.2.2.1, s.2.2.2.2))
  else
  (C103 xt ct O N (s.2.2.1 * s.1) 2147483649 s.2.2.2.2).bind fun r3 =>
  some (.inl (s.1, s.2.1, r3.1, (s.2.2.2.1 + 1), r3.2))
def L101_5 (xt : mj_X) (ct : Nat → Value) (O : OR) (N : Nat) (s : Int64 × Int32 × Int64 × Int32 × mj_H) : Option ((Int64) × mj_H) := t_lp (B101_5 xt ct O N) N s
theorem B101_5_ok {xt : mj_X} {ct : Nat → Value} {O : OR} {d N : Nat} (hct : ct 0 = .int 1) (hO : oOK xt ct d O) {s : Int64 × Int32 × Int64 × Int32 × mj_H} {o : (Int64 × Int32 × Int64 × Int32 × mj_H) ⊕ ((Int64) × mj_H)} {q : (Int64) × mj_H} (e : B101_5 xt ct O N s = some o) (g : GG101_5 xt ct d q o) : LG101_5 xt ct d q s.1 s.2.1 s.2.2.1 s.2.2.2.1 s.2.2.2.2 := by
  unfold B101_5 at e
  exact (fun l f0 f2 f3 f5 =>
  r_iload c101_5 f5 <|
  r_iloadn c101_7 f2 <|
  t_if e (fun b1 e2 =>
    r_icmpT c101_8 b1 <|
    r_lloadn c101_27 f3 <|
    t_rg e2 g (fun (z : (s.2.2.1, s.2.2.2.2) = q) => (by cases z; exact (r_lret c101_28)))
  ) (fun b1 e2 =>
    r_icmpF c101_8 b1 <|
    r_lloadn c101_11 f3 <|
    r_lloadn c101_12 f0 <|
    r_lmul c101_13 rfl <|
    r_ldc2 c101_14 <|
    t_bd e2 fun r3 c4 e5 =>
    c_cal (st2 := [.long r3.1]) (s_cs (as := [.long (s.2.2.1 * s.1), .long 2147483649]) (st' := []) c101_17 ⟨Nat.le_of_ble_eq_true rfl, Nat.le_of_ble_eq_true rfl, Nat.le_of_ble_eq_true rfl⟩ rfl rfl) (C103_ok hct hO c4) (Nat.add_lt_add_left (by decide) d) rfl <|
    r_lstoren c101_20 <|
    r_iinc c101_21 (ld2_ne f5 (by decide) (Or.inl (by decide))) <|
    r_goto c101_24 <|
    t_rg e5 g (fun (z : LG101_5 xt ct d q s.1 s.2.1 r3.1 (s.2.2.2.1 + 1) r3.2) => z _ (ld1_ne (ld2_ne f0 (by decide) (Or.inl (by decide))) (by decide) (Or.inl (by decide))) (ld1_ne (ld2_ne f2 (by decide) (Or.inr rfl)) (by decide) (Or.inl (by decide))) (ld1_ne ld2_eq (by decide) (Or.inl (by decide))) ld1_eq)
  ))
theorem L101_5_ok {xt : mj_X} {ct : Nat → Value} {O : OR} {d N : Nat} (hct : ct 0 = .int 1) (hO : oOK xt ct d O) {x0 : Int64} {x2 : Int32} {x3 : Int64} {x5 : Int32} {H : mj_H} {q : (Int64) × mj_H} (e : L101_5 xt ct O N (x0, x2, x3, x5, H) = some q) : LG101_5 xt ct d q x0 x2 x3 x5 H :=
  t_lp_ok (G := fun s => LG101_5 xt ct d q s.1 s.2.1 s.2.2.1 s.2.2.2.1 s.2.2.2.2) (fun s s' e g => B101_5_ok hct hO e (by obtain ⟨_, _, _, _, _⟩ := s'; exact g)) (fun s e => B101_5_ok hct hO e rfl) N (x0, x2, x3, x5, H) e
/-- DiceOdds.power(JI)J -/
def C101 (xt : mj_X) (ct : Nat → Value) (O : OR) (N : Nat) (x0 : Int64) (x2 : Int32) (H : mj_H) : Option ((Int64) × mj_H) :=
  L101_5 xt ct O N (x0, x2, 1, 0, H)
theorem C101_ok {xt : mj_X} {ct : Nat → Value} {O : OR} {d N : Nat} (hct : ct 0 = .int 1) (hO : oOK xt ct d O) {x0 : Int64} {x2 : Int32} {H : mj_H} {q : (Int64) × mj_H} (e : C101 xt ct O N x0 x2 H = some q) : mj_Run kY xt ct (d + 2) 101 0 (lv_args 0 [.long x0, .int x2]) [] H (.inl (vL q.1), q.2) := by
  unfold C101 at e
  exact (
  r_lconst c101_0 <|
  r_lstoren c101_1 <|
  r_iconst c101_2 <|
  r_istore c101_3 <|
  L101_5_ok hct hO e _ (ld1_ne (ld2_ne rfl (by decide) (Or.inl (by decide))) (by decide) (Or.inl (by decide))) (ld1_ne (ld2_ne rfl (by decide) (Or.inr rfl)) (by decide) (Or.inl (by decide))) (ld1_ne ld2_eq (by decide) (Or.inl (by decide))) ld1_eq)
/-- DiceOdds.commonMultiple(JJ)J -/
def C113 (xt : mj_X) (ct : Nat → Value) (O : OR) (N : Nat) (x0 : Int64) (x2 : Int64) (H : mj_H) : Option ((Int64) × mj_H) :=
  (C114 xt ct O N x0 x2 H).bind fun r1 =>
  (C115 xt ct O N x0 r1.1 r1.2).bind fun r4 =>
  (C102 xt ct O N r4.1 x2 r4.2).bind fun r7 =>
  some (r7.1, r7.2)
theorem C113_ok {xt : mj_X} {ct : Nat → Value} {O : OR} {d N : Nat} (hct : ct 0 = .int 1) (hO : oOK xt ct d O) {x0 : Int64} {x2 : Int64} {H : mj_H} {q : (Int64) × mj_H} (e : C113 xt ct O N x0 x2 H = some q) : mj_Run kY xt ct (d + 3) 113 0 (lv_args 0 [.long x0, .long x2]) [] H (.inl (vL q.1), q.2) := by
  unfold C113 at e
  exact (
  r_lloadn c113_0 rfl <|
  r_lloadn c113_1 rfl <|
  r_lloadn c113_2 rfl <|
  t_bd e fun r1 c2 e3 =>
  c_cal (st2 := [.long r1.1, .long x0]) (s_cs (as := [.long x0, .long x2]) (st' := [.long x0]) c113_3 ⟨Nat.le_of_ble_eq_true rfl, Nat.le_of_ble_eq_true rfl, Nat.le_of_ble_eq_true rfl⟩ rfl rfl) (C114_ok hct hO c2) (Nat.add_lt_add_left (by decide) d) rfl <|
  t_bd e3 fun r4 c5 e6 =>
  c_cal (st2 := [.long r4.1]) (s_cs (as := [.long x0, .long r1.1]) (st' := []) c113_6 ⟨Nat.le_of_ble_eq_true rfl, Nat.le_of_ble_eq_true rfl, Nat.le_of_ble_eq_true rfl⟩ rfl rfl) (C115_ok hct hO c5) (Nat.add_lt_add_left (by decide) d) rfl <|
  r_lloadn c113_9 rfl <|
  t_bd e6 fun r7 c8 e9 =>
  c_cal (st2 := [.long r7.1]) (s_cs (as := [.long r4.1, .long x2]) (st' := []) c113_10 ⟨Nat.le_of_ble_eq_true rfl, Nat.le_of_ble_eq_true rfl, Nat.le_of_ble_eq_true rfl⟩ rfl rfl) (C102_ok hct hO c8) (Nat.add_lt_add_left (by decide) d) rfl <|
  (by cases e9; exact (r_lret c113_13)))
def J111_106 (xt : mj_X) (ct : Nat → Value) (O : OR) (N : Nat) (s0 : Int64) (s1 : Nat) (H : mj_H) : Option (mj_H) :=
  (uF H s1 11 5 (.long s0)).bind fun H50 =>
  some H50
theorem J111_106_ok {xt : mj_X} {ct : Nat → Value} {O : OR} {d N : Nat} (hct : ct 0 = .int 1) (hO : oOK xt ct d O) {l : mj_L} {s0 : Int64} {s1 : Nat} {H : mj_H} {q : mj_H}  (e : J111_106 xt ct O N s0 s1 H = some q) : mj_Run kY xt ct (d + 4) 111 106 l [.long s0, .ref s1] H (.inl none, q) := by
  unfold J111_106 at e
  exact (
  t_bd e fun H50 c51 e52 =>
  c_uF c111_106 ⟨rfl, rfl⟩ c51 <|
  (by cases e52; exact (r_ret c111_109)))
/-- DiceOdds$Statement.<init>(CLDiceOdds$Expression;ILDiceOdds$Statement;LDiceOdds$Statement;)V -/
def C111 (xt : mj_X) (ct : Nat → Value) (O : OR) (N : Nat) (x0 : Nat) (x1 : Int32) (x2 : Nat) (x3 : Int32) (x4 : Option Nat) (x5 : Option Nat) (H : mj_H) : Option (mj_H) :=
  (uF H x0 11 8 (rv none)).bind fun H1 =>
  if narrow .char (.int x1) = .int x1 ∧ fits .char (.int x1) = true then
  (uF H1 x0 11 0 (.int x1)).bind fun H6 =>
  (uF H6 x0 11 1 (.ref x2)).bind fun H9 =>
  (uF H9 x0 11 2 (.int x3)).bind fun H12 =>
  (uF H12 x0 11 3 (rv x4)).bind fun H15 =>
  (uF H15 x0 11 4 (rv x5)).bind fun H18 =>
  (C112 xt ct O N x4 H18).bind fun r21 =>
  (C112 xt ct O N x5 r21.2).bind fun r24 =>
  (C113 xt ct O N r21.1 r24.1 r24.2).bind fun r27 =>
  (C115 xt ct O N r27.1 r21.1 r27.2).bind fun r30 =>
  (uF r30.2 x0 11 6 (.long r30.1)).bind fun H33 =>
  (C115 xt ct O N r27.1 r24.1 H33).bind fun r36 =>
  (uF r36.2 x0 11 7 (.long r36.1)).bind fun H39 =>
  bif mj_c2 .ne x1 42 then
    (gFp H39 x2 df).bind fun r44 =>
    (C102 xt ct O N r44 r27.1 H39).bind fun r47 =>
    J111_106 xt ct O N r47.1 x0 r47.2
  else
  (C101 xt ct O N r21.1 x3 H39).bind fun r53 =>
  J111_106 xt ct O N r53.1 x0 r53.2
  else none
theorem C111_ok {xt : mj_X} {ct : Nat → Value} {O : OR} {d N : Nat} (hct : ct 0 = .int 1) (hO : oOK xt ct d O) {x0 : Nat} {x1 : Int32} {x2 : Nat} {x3 : Int32} {x4 : Option Nat} {x5 : Option Nat} {H : mj_H} {q : mj_H} (e : C111 xt ct O N x0 x1 x2 x3 x4 x5 H = some q) : mj_Run kY xt ct (d + 4) 111 0 (lv_args 0 [.ref x0, .int x1, .ref x2, .int x3, rv x4, rv x5]) [] H (.inl none, q) := by
  unfold C111 at e
  exact (
  r_aloadn c111_0 rfl <|
  c_obj c111_1 (Nat.le_of_ble_eq_true rfl) <|
  r_aloadn c111_4 rfl <|
  c_nll c111_5 <|
  t_bd e fun H1 c2 e3 =>
  c_uF c111_6 (rv_fo _ _) c2 <|
  r_aloadn c111_9 rfl <|
  r_iloadn c111_10 rfl <|
  t_ck e3 fun z4 e5 =>
  t_bd e5 fun H6 c7 e8 =>
  c_uF c111_11 z4 c7 <|
  r_aloadn c111_14 rfl <|
  r_aloadn c111_15 rfl <|
  t_bd e8 fun H9 c10 e11 =>
  c_uF c111_16 ⟨rfl, rfl⟩ c10 <|
  r_aloadn c111_19 rfl <|
  r_iloadn c111_20 rfl <|
  t_bd e11 fun H12 c13 e14 =>
  c_uF c111_21 ⟨rfl, rfl⟩ c13 <|
  r_aloadn c111_24 rfl <|
  c_alv rfl c111_25 <|
  t_bd e14 fun H15 c16 e17 =>
  c_uF c111_27 (rv_fo _ _) c16 <|
  r_aloadn c111_30 rfl <|
  c_alv (by cases x4 <;> rfl) c111_31 <|
  t_bd e17 fun H18 c19 e20 =>
  c_uF c111_33 (rv_fo _ _) c19 <|
  c_alv rfl c111_36 <|
  t_bd e20 fun r21 c22 e23 =>
  c_cal (st2 := [.long r21.1]) (s_cs (as := [rv x4]) (st' := []) c111_38 (by cases (x4) <;> exact ⟨Nat.le_of_ble_eq_true rfl, Nat.le_of_ble_eq_true rfl, Nat.le_of_ble_eq_true rfl⟩) rfl rfl) (C112_ok hct hO c22) (Nat.add_lt_add_left (by decide) d) rfl <|
  r_lstore c111_41 <|
  c_alv (ld2_ne (by cases x4 <;> rfl) (by decide) (Or.inr (rv_cat _))) c111_43 <|
  t_bd e23 fun r24 c25 e26 =>
  c_cal (st2 := [.long r24.1]) (s_cs (as := [rv x5]) (st' := []) c111_45 (by cases (x5) <;> exact ⟨Nat.le_of_ble_eq_true rfl, Nat.le_of_ble_eq_true rfl, Nat.le_of_ble_eq_true rfl⟩) rfl rfl) (C112_ok hct hO c25) (Nat.add_lt_add_left (by decide) d) rfl <|
  r_lstore c111_48 <|
  r_lload c111_50 (ld2_ne ld2_eq (by decide) (Or.inl (by decide))) <|
  r_lload c111_52 ld2_eq <|
  t_bd e26 fun r27 c28 e29 =>
  c_cal (st2 := [.long r27.1]) (s_cs (as := [.long r21.1, .long r24.1]) (st' := []) c111_54 ⟨Nat.le_of_ble_eq_true rfl, Nat.le_of_ble_eq_true rfl, Nat.le_of_ble_eq_true rfl⟩ rfl rfl) (C113_ok hct hO c28) (Nat.add_lt_add_left (by decide) d) rfl <|
  r_lstore c111_57 <|
  r_aloadn c111_59 (ld2_ne (ld2_ne (ld2_ne rfl (by decide) (Or.inl (by decide))) (by decide) (Or.inl (by decide))) (by decide) (Or.inl (by decide))) <|
  r_lload c111_60 ld2_eq <|
  r_lload c111_62 (ld2_ne (ld2_ne ld2_eq (by decide) (Or.inl (by decide))) (by decide) (Or.inl (by decide))) <|
  t_bd e29 fun r30 c31 e32 =>
  c_cal (st2 := [.long r30.1, .ref x0]) (s_cs (as := [.long r27.1, .long r21.1]) (st' := [.ref x0]) c111_64 ⟨Nat.le_of_ble_eq_true rfl, Nat.le_of_ble_eq_true rfl, Nat.le_of_ble_eq_true rfl⟩ rfl rfl) (C115_ok hct hO c31) (Nat.add_lt_add_left (by decide) d) rfl <|
  t_bd e32 fun H33 c34 e35 =>
  c_uF c111_67 ⟨rfl, rfl⟩ c34 <|
  r_aloadn c111_70 (ld2_ne (ld2_ne (ld2_ne rfl (by decide) (Or.inl (by decide))) (by decide) (Or.inl (by decide))) (by decide) (Or.inl (by decide))) <|
  r_lload c111_71 ld2_eq <|
  r_lload c111_73 (ld2_ne ld2_eq (by decide) (Or.inl (by decide))) <|
  t_bd e35 fun r36 c37 e38 =>
  c_cal (st2 := [.long r36.1, .ref x0]) (s_cs (as := [.long r27.1, .long r24.1]) (st' := [.ref x0]) c111_75 ⟨Nat.le_of_ble_eq_true rfl, Nat.le_of_ble_eq_true rfl, Nat.le_of_ble_eq_true rfl⟩ rfl rfl) (C115_ok hct hO c37) (Nat.add_lt_add_left (by decide) d) rfl <|
  t_bd e38 fun H39 c40 e41 =>
  c_uF c111_78 ⟨rfl, rfl⟩ c40 <|
  r_aloadn c111_81 (ld2_ne (ld2_ne (ld2_ne rfl (by decide) (Or.inl (by decide))) (by decide) (Or.inl (by decide))) (by decide) (Or.inl (by decide))) <|
  r_iloadn c111_82 (ld2_ne (ld2_ne (ld2_ne rfl (by decide) (Or.inl (by decide))) (by decide) (Or.inl (by decide))) (by decide) (Or.inl (by decide))) <|
  r_bipush c111_83 <|
  t_if e41 (fun b42 e43 =>
    r_icmpT c111_85 b42 <|
    r_aloadn c111_97 (ld2_ne (ld2_ne (ld2_ne rfl (by decide) (Or.inl (by decide))) (by decide) (Or.inl (by decide))) (by decide) (Or.inl (by decide))) <|
    t_bd e43 fun r44 c45 e46 =>
    c_gFp (ty := .long) (w := false) c111_98 c111_98_t c45 <|
    r_lload c111_101 ld2_eq <|
    t_bd e46 fun r47 c48 e49 =>
    c_cal (st2 := [.long r47.1, .ref x0]) (s_cs (as := [.long r44, .long r27.1]) (st' := [.ref x0]) c111_103 ⟨Nat.le_of_ble_eq_true rfl, Nat.le_of_ble_eq_true rfl, Nat.le_of_ble_eq_true rfl⟩ rfl rfl) (C102_ok hct hO c48) (Nat.add_lt_add_left (by decide) d) rfl <|
    J111_106_ok hct hO  e49
  ) (fun b42 e43 =>
    r_icmpF c111_85 b42 <|
    r_lload c111_88 (ld2_ne (ld2_ne ld2_eq (by decide) (Or.inl (by decide))) (by decide) (Or.inl (by decide))) <|
    r_iloadn c111_90 (ld2_ne (ld2_ne (ld2_ne rfl (by decide) (Or.inl (by decide))) (by decide) (Or.inl (by decide))) (by decide) (Or.inl (by decide))) <|
    t_bd e43 fun r53 c54 e55 =>
    c_cal (st2 := [.long r53.1, .ref x0]) (s_cs (as := [.long r21.1, .int x3]) (st' := [.ref x0]) c111_91 ⟨Nat.le_of_ble_eq_true rfl, Nat.le_of_ble_eq_true rfl, Nat.le_of_ble_eq_true rfl⟩ rfl rfl) (C101_ok hct hO c54) (Nat.add_lt_add_left (by decide) d) rfl <|
    r_goto c111_94 <|
    J111_106_ok hct hO  e55
  ))
def J88_42 (xt : mj_X) (ct : Nat → Value) (O : OR) (N : Nat) (x2 : Nat) (x3 : Option Nat) (x4 : Option Nat) (H : mj_H) : Option (((Option Nat) ⊕ Nat) × mj_H) :=
  (nO H 11 9 [.int 0, .null, .int 0, .null, .null, .long 0, .long 0, .long 0, .null]).bind fun r29 =>
  (gC r29.2 r29.1).bind fun k32 =>
  (C111 xt ct O N r29.1 63 x2 0 x3 x4 r29.2).bind fun r35 =>
  some (.inl (some r29.1), r35)
theorem J88_42_ok {xt : mj_X} {ct : Nat → Value} {O : OR} {d N : Nat} (hct : ct 0 = .int 1) (hO : oOK xt ct d O) {l : mj_L} {x2 : Nat} {x3 : Option Nat} {x4 : Option Nat} {H : mj_H} {q : ((Option Nat) ⊕ Nat) × mj_H} (f2 : mj_ld l 2 = some (.ref x2)) (f3 : mj_ld l 3 = some (rv x3)) (f4 : mj_ld l 4 = some (rv x4)) (e : J88_42 xt ct O N x2 x3 x4 H = some q) : mj_Run kY xt ct (d + 5) 88 42 l [] H (tT vO q.1, q.2) := by
  unfold J88_42 at e
  exact (
  t_bd e fun r29 c30 e31 =>
  c_new c88_42 c30 <|
  r_dup c88_45 rfl <|
  r_bipush c88_46 <|
  r_aloadn c88_48 f2 <|
  r_iconst c88_49 <|
  c_alvn f3 c88_50 <|
  c_alv f4 c88_51 <|
  t_bd e31 fun k32 c33 e34 =>
  t_bd e34 fun r35 c36 e37 =>
  c_cal (st2 := [.ref r29.1]) (s_cp (as := [.ref r29.1, .int 63, .ref x2, .int 0, rv x3, rv x4]) (st' := [.ref r29.1]) c88_53 rfl c33 (by cases (x3) <;> cases (x4) <;> exact ⟨Nat.le_of_ble_eq_true rfl, Nat.le_of_ble_eq_true rfl, Nat.le_of_ble_eq_true rfl⟩) rfl rfl) (C111_ok hct hO c36) (Nat.add_lt_add_left (by decide) d) rfl <|
  (by cases e37; exact (c_arv (o := (some r29.1)) c88_56)))
/-- DiceOdds$Parser.choice(I)LDiceOdds$Statement; -/
def C88 (xt : mj_X) (ct : Nat → Value) (O : OR) (N : Nat) (x0 : Nat) (x1 : Int32) (H : mj_H) : Option (((Option Nat) ⊕ Nat) × mj_H) :=
  (gK H x0 1).bind fun k1 =>
  (O.2.1 x0 0 0 H).bind fun r4 =>
  tc (fun z => z) r4 fun v7 =>
  (gK r4.2 x0 1).bind fun k11 =>
  (C110 xt ct O N x0 x1 r4.2).bind fun r14 =>
  tc (fun z => z) r14 fun v17 =>
  (gK r14.2 x0 1).bind fun k21 =>
  (C84 xt ct O N x0 r14.2).bind fun r24 =>
  bif mj_c2 .ne r24.1 58 then
    J88_42 xt ct O N v7 v17 none r24.2
  else
  (gI r24.2 x0 1 3).bind fun r38 =>
  (uF r24.2 x0 1 3 (.int (r38 + 1))).bind fun H41 =>
  (gK H41 x0 1).bind fun k44 =>
  (C110 xt ct O N x0 x1 H41).bind fun r47 =>
  tc (fun z => z) r47 fun v50 =>
  J88_42 xt ct O N v7 v17 v50 r47.2
theorem C88_ok {xt : mj_X} {ct : Nat → Value} {O : OR} {d N : Nat} (hct : ct 0 = .int 1) (hO : oOK xt ct d O) {x0 : Nat} {x1 : Int32} {H : mj_H} {q : ((Option Nat) ⊕ Nat) × mj_H} (e : C88 xt ct O N x0 x1 H = some q) : mj_Run kY xt ct (d + 5) 88 0 (lv_args 0 [.ref x0, .int x1]) [] H (tT vO q.1, q.2) := by
  unfold C88 at e
  exact (
  r_aloadn c88_0 rfl <|
  r_iconst c88_1 <|
  r_iconst c88_2 <|
  t_bd e fun k1 c2 e3 =>
  t_bd e3 fun r4 c5 e6 =>
  t_tc e6 (fun v7 p8 e9 =>
    c_calT (f := vA) (p := r4) (st2 := [.ref v7]) (s_cv (as := [.ref x0, .int 0, .int 0]) (st' := []) c88_3 rfl (gK_ok c2) ⟨Nat.le_of_ble_eq_true rfl, Nat.le_of_ble_eq_true rfl, Nat.le_of_ble_eq_true rfl⟩ rfl rfl) (hO.2.1 _ _ _ _ _ c5) p8 (Nat.lt_add_of_pos_right (by decide)) rfl <|
    r_astoren c88_6 <|
    r_aloadn c88_7 (ld1_ne rfl (by decide) (Or.inl (by decide))) <|
    r_iloadn c88_8 (ld1_ne rfl (by decide) (Or.inr rfl)) <|
    t_bd e9 fun k11 c12 e13 =>
    t_bd e13 fun r14 c15 e16 =>
    t_tc e16 (fun v17 p18 e19 =>
      c_calT (f := vO) (p := r14) (st2 := [rv v17]) (s_cv (as := [.ref x0, .int x1]) (st' := []) c88_9 rfl (gK_ok c12) ⟨Nat.le_of_ble_eq_true rfl, Nat.le_of_ble_eq_true rfl, Nat.le_of_ble_eq_true rfl⟩ rfl rfl) (C110_ok hct hO c15) p18 (Nat.add_lt_add_left (by decide) d) rfl <|
      c_asvn (o := v17) c88_12 <|
      c_nll c88_13 <|
      c_asv (o := none) c88_14 <|
      r_aloadn c88_16 (ld1_ne (ld1_ne (ld1_ne rfl (by decide) (Or.inl (by decide))) (by decide) (Or.inl (by decide))) (by decide) (Or.inl (by decide))) <|
      t_bd e19 fun k21 c22 e23 =>
      t_bd e23 fun r24 c25 e26 =>
      c_cal (st2 := [.int r24.1]) (s_cv (as := [.ref x0]) (st' := []) c88_17 rfl (gK_ok c22) ⟨Nat.le_of_ble_eq_true rfl, Nat.le_of_ble_eq_true rfl, Nat.le_of_ble_eq_true rfl⟩ rfl rfl) (C84_ok hct hO c25) (Nat.add_lt_add_left (by decide) d) rfl <|
      r_bipush c88_20 <|
      t_if e26 (fun b27 e28 =>
        r_icmpT c88_22 b27 <|
        J88_42_ok hct hO (ld1_ne (ld1_ne ld1_eq (by decide) (Or.inr rfl)) (by decide) (Or.inl (by decide))) (ld1_ne ld1_eq (by decide) (Or.inr (rv_cat _))) ld1_eq e28
      ) (fun b27 e28 =>
        r_icmpF c88_22 b27 <|
        r_aloadn c88_25 (ld1_ne (ld1_ne (ld1_ne rfl (by decide) (Or.inl (by decide))) (by decide) (Or.inl (by decide))) (by decide) (Or.inl (by decide))) <|
        r_dup c88_26 rfl <|
        t_bd e28 fun r38 c39 e40 =>
        c_gI c88_27 c39 <|
        r_iconst c88_30 <|
        r_iadd c88_31 rfl <|
        t_bd e40 fun H41 c42 e43 =>
        c_uF c88_32 ⟨rfl, rfl⟩ c42 <|
        r_aloadn c88_35 (ld1_ne (ld1_ne (ld1_ne rfl (by decide) (Or.inl (by decide))) (by decide) (Or.inl (by decide))) (by decide) (Or.inl (by decide))) <|
        r_iloadn c88_36 (ld1_ne (ld1_ne (ld1_ne rfl (by decide) (Or.inr rfl)) (by decide) (Or.inl (by decide))) (by decide) (Or.inl (by decide))) <|
        t_bd e43 fun k44 c45 e46 =>
        t_bd e46 fun r47 c48 e49 =>
        t_tc e49 (fun v50 p51 e52 =>
          c_calT (f := vO) (p := r47) (st2 := [rv v50]) (s_cv (as := [.ref x0, .int x1]) (st' := []) c88_37 rfl (gK_ok c45) ⟨Nat.le_of_ble_eq_true rfl, Nat.le_of_ble_eq_true rfl, Nat.le_of_ble_eq_true rfl⟩ rfl rfl) (C110_ok hct hO c48) p51 (Nat.add_lt_add_left (by decide) d) rfl <|
          c_asv (o := v50) c88_40 <|
          J88_42_ok hct hO (ld1_ne (ld1_ne (ld1_ne ld1_eq (by decide) (Or.inr rfl)) (by decide) (Or.inl (by decide))) (by decide) (Or.inl (by decide))) (ld1_ne (ld1_ne ld1_eq (by decide) (Or.inr (rv_cat _))) (by decide) (Or.inr (rv_cat _))) ld1_eq e52
        ) (fun x53 p51 e52 =>
          (by cases e52; exact (c_thrT (f := vO) (p := r47) (s_cv (as := [.ref x0, .int x1]) (st' := []) c88_37 rfl (gK_ok c45) ⟨Nat.le_of_ble_eq_true rfl, Nat.le_of_ble_eq_true rfl, Nat.le_of_ble_eq_true rfl⟩ rfl rfl) (C110_ok hct hO c48) p51 (Nat.add_lt_add_left (by decide) d) nh88))
        )
      )
    ) (fun x20 p18 e19 =>
      (by cases e19; exact (c_thrT (f := vO) (p := r14) (s_cv (as := [.ref x0, .int x1]) (st' := []) c88_9 rfl (gK_ok c12) ⟨Nat.le_of_ble_eq_true rfl, Nat.le_of_ble_eq_true rfl, Nat.le_of_ble_eq_true rfl⟩ rfl rfl) (C110_ok hct hO c15) p18 (Nat.add_lt_add_left (by decide) d) nh88))
    )
  ) (fun x10 p8 e9 =>
    (by cases e9; exact (c_thrT (f := vA) (p := r4) (s_cv (as := [.ref x0, .int 0, .int 0]) (st' := []) c88_3 rfl (gK_ok c2) ⟨Nat.le_of_ble_eq_true rfl, Nat.le_of_ble_eq_true rfl, Nat.le_of_ble_eq_true rfl⟩ rfl rfl) (hO.2.1 _ _ _ _ _ c5) p8 (Nat.lt_add_of_pos_right (by decide)) nh88))
  ))
/-- DiceOdds$Expression.<init>(J)V -/
def C92 (xt : mj_X) (ct : Nat → Value) (O : OR) (N : Nat) (x0 : Nat) (x1 : Int64) (H : mj_H) : Option (mj_H) :=
  (uFp H x0 df x1).bind fun H1 =>
  some H1
theorem C92_ok {xt : mj_X} {ct : Nat → Value} {O : OR} {d N : Nat} (hct : ct 0 = .int 1) (hO : oOK xt ct d O) {x0 : Nat} {x1 : Int64} {H : mj_H} {q : mj_H} (e : C92 xt ct O N x0 x1 H = some q) : mj_Run kY xt ct (d + 1) 92 0 (lv_args 0 [.ref x0, .long x1]) [] H (.inl none, q) := by
  unfold C92 at e
  exact (
  r_aloadn c92_0 rfl <|
  c_obj c92_1 (Nat.le_of_ble_eq_true rfl) <|
  r_aloadn c92_4 rfl <|
  r_lloadn c92_5 rfl <|
  t_bd e fun H1 c2 e3 =>
  c_uFp c92_6 c92_6_t c2 <|
  (by cases e3; exact (r_ret c92_9)))
/-- DiceOdds$Plain.<init>(II)V -/
def C97 (xt : mj_X) (ct : Nat → Value) (O : OR) (N : Nat) (x0 : Nat) (x1 : Int32) (x2 : Int32) (H : mj_H) : Option (mj_H) :=
  (gC H x0).bind fun k1 =>
  (C92 xt ct O N x0 1 H).bind fun r4 =>
  (uF r4 x0 7 0 (.int x1)).bind fun H7 =>
  (uF H7 x0 7 1 (.int x2)).bind fun H10 =>
  some H10
theorem C97_ok {xt : mj_X} {ct : Nat → Value} {O : OR} {d N : Nat} (hct : ct 0 = .int 1) (hO : oOK xt ct d O) {x0 : Nat} {x1 : Int32} {x2 : Int32} {H : mj_H} {q : mj_H} (e : C97 xt ct O N x0 x1 x2 H = some q) : mj_Run kY xt ct (d + 2) 97 0 (lv_args 0 [.ref x0, .int x1, .int x2]) [] H (.inl none, q) := by
  unfold C97 at e
  exact (
  r_aloadn c97_0 rfl <|
  r_lconst c97_1 <|
  t_bd e fun k1 c2 e3 =>
  t_bd e3 fun r4 c5 e6 =>
  c_cal (st2 := []) (s_cp (as := [.ref x0, .long 1]) (st' := []) c97_2 rfl c2 ⟨Nat.le_of_ble_eq_true rfl, Nat.le_of_ble_eq_true rfl, Nat.le_of_ble_eq_true rfl⟩ rfl rfl) (C92_ok hct hO c5) (Nat.add_lt_add_left (by decide) d) rfl <|
  r_aloadn c97_5 rfl <|
  r_iloadn c97_6 rfl <|
  t_bd e6 fun H7 c8 e9 =>
  c_uF c97_7 ⟨rfl, rfl⟩ c8 <|
  r_aloadn c97_10 rfl <|
  r_iloadn c97_11 rfl <|
  t_bd e9 fun H10 c11 e12 =>
  c_uF c97_12 ⟨rfl, rfl⟩ c11 <|
  (by cases e12; exact (r_ret c97_15)))
def J95_17 (xt : mj_X) (ct : Nat → Value) (O : OR) (N : Nat) (s0 : Int32) (H : mj_H) : Option ((Int32) × mj_H) :=
  if narrow .boolean (.int s0) = .int s0 then
  some (s0, H)
  else none
theorem J95_17_ok {xt : mj_X} {ct : Nat → Value} {O : OR} {d N : Nat} (hct : ct 0 = .int 1) (hO : oOK xt ct d O) {l : mj_L} {s0 : Int32} {H : mj_H} {q : (Int32) × mj_H}  (e : J95_17 xt ct O N s0 H = some q) : mj_Run kY xt ct (d + 1) 95 17 l [.int s0] H (.inl (vI q.1), q.2) := by
  unfold J95_17 at e
  exact (
  t_ck e fun z3 e4 =>
  (by cases e4; exact (r_iret c95_17 z3)))
def J95_16 (xt : mj_X) (ct : Nat → Value) (O : OR) (N : Nat)  (H : mj_H) : Option ((Int32) × mj_H) :=
  J95_17 xt ct O N 0 H
theorem J95_16_ok {xt : mj_X} {ct : Nat → Value} {O : OR} {d N : Nat} (hct : ct 0 = .int 1) (hO : oOK xt ct d O) {l : mj_L}  {H : mj_H} {q : (Int32) × mj_H}  (e : J95_16 xt ct O N  H = some q) : mj_Run kY xt ct (d + 1) 95 16 l [] H (.inl (vI q.1), q.2) := by
  unfold J95_16 at e
  exact (
  r_iconst c95_16 <|
  J95_17_ok hct hO  e)
/-- DiceOdds.isDigit(C)Z -/
def C95 (xt : mj_X) (ct : Nat → Value) (O : OR) (N : Nat) (x0 : Int32) (H : mj_H) : Option ((Int32) × mj_H) :=
  bif mj_c2 .lt x0 48 then
    J95_16 xt ct O N H
  else
  bif mj_c2 .gt x0 57 then
    J95_16 xt ct O N H
  else
  J95_17 xt ct O N 1 H
theorem C95_ok {xt : mj_X} {ct : Nat → Value} {O : OR} {d N : Nat} (hct : ct 0 = .int 1) (hO : oOK xt ct d O) {x0 : Int32} {H : mj_H} {q : (Int32) × mj_H} (e : C95 xt ct O N x0 H = some q) : mj_Run kY xt ct (d + 1) 95 0 (lv_args 0 [.int x0]) [] H (.inl (vI q.1), q.2) := by
  unfold C95 at e
  exact (
  r_iloadn c95_0 rfl <|
  r_bipush c95_1 <|
  t_if e (fun b1 e2 =>
    r_icmpT c95_3 b1 <|
    J95_16_ok hct hO  e2
  ) (fun b1 e2 =>
    r_icmpF c95_3 b1 <|
    r_iloadn c95_6 rfl <|
    r_bipush c95_7 <|
    t_if e2 (fun b5 e6 =>
      r_icmpT c95_9 b5 <|
      J95_16_ok hct hO  e6
    ) (fun b5 e6 =>
      r_icmpF c95_9 b5 <|
      r_iconst c95_12 <|
      r_goto c95_13 <|
      J95_17_ok hct hO  e6
    )
  ))
def LG99_11 (xt : mj_X) (ct : Nat → Value) (d : Nat) (q : ((Int32) ⊕ Nat) × mj_H) (x0 : Nat) (x1 : Int32) (x2 : Int32) (x3 : Int32) (x4 : Int32) (x5 : Int32) (H : mj_H) : Prop := ∀ l, mj_ld l 0 = some (.ref x0) → mj_ld l 1 = some (.int x1) → mj_ld l 2 = some (.int x2) → mj_ld l 3 = some (.int x3) → mj_ld l 4 = some (.int x4) → mj_ld l 5 = some (.int x5) → mj_Run kY xt ct (d + 2) 99 11 l [] H (tT vI q.1, q.2)
def GG99_11 (xt : mj_X) (ct : Nat → Value) (d : Nat) (q : ((Int32) ⊕ Nat) × mj_H) (o : (Nat × Int32 × Int32 × Int32 × Int32 × Int32 × mj_H) ⊕ (((Int32) ⊕ Nat) × mj_H)) : Prop := match o with
  | .inl (x0, x1, x2, x3, x4, x5, H) => LG99_11 xt ct d q x0 x1 x2 x3 x4 x5 H
  | .inr r => r = q
def J99_140 (xt : mj_X) (ct : Nat → Value) (O : OR) (N : Nat) (x3 : Int32) (x4 : Int32) (s0 : Int32) (s1 : Nat) (H : mj_H) : Option (((Int32) ⊕ Nat) × mj_H) :=
  (gK H s1 1).bind fun k35 =>
  (C87 xt ct O N s1 s0 x3 H).bind fun r38 =>
  tc (fun z => z) r38 fun v41 =>
  some (.inl x4, r38.2)
theorem J99_140_ok {xt : mj_X} {ct : Nat → Value} {O : OR} {d N : Nat} (hct : ct 0 = .int 1) (hO : oOK xt ct d O) {l : mj_L} {x3 : Int32} {x4 : Int32} {s0 : Int32} {s1 : Nat} {H : mj_H} {q : ((Int32) ⊕ Nat) × mj_H} (f3 : mj_ld l 3 = some (.int x3)) (f4 : mj_ld l 4 = some (.int x4)) (e : J99_140 xt ct O N x3 x4 s0 s1 H = some q) : mj_Run kY xt ct (d + 2) 99 140 l [.int s0, .ref s1] H (tT vI q.1, q.2) := by
  unfold J99_140 at e
  exact (
  r_iloadn c99_140 f3 <|
  t_bd e fun k35 c36 e37 =>
  t_bd e37 fun r38 c39 e40 =>
  t_tc e40 (fun v41 p42 e43 =>
    c_calT (f := vU) (p := r38) (st2 := []) (s_cv (as := [.ref s1, .int s0, .int x3]) (st' := []) c99_141 rfl (gK_ok c36) ⟨Nat.le_of_ble_eq_true rfl, Nat.le_of_ble_eq_true rfl, Nat.le_of_ble_eq_true rfl⟩ rfl rfl) (C87_ok hct hO c39) p42 (Nat.add_lt_add_left (by decide) d) rfl <|
    r_iload c99_144 f4 <|
    (by cases e43; exact (r_iret c99_146 rfl))
  ) (fun x44 p42 e43 =>
    (by cases e43; exact (c_thrT (f := vU) (p := r38) (s_cv (as := [.ref s1, .int s0, .int x3]) (st' := []) c99_141 rfl (gK_ok c36) ⟨Nat.le_of_ble_eq_true rfl, Nat.le_of_ble_eq_true rfl, Nat.le_of_ble_eq_true rfl⟩ rfl rfl) (C87_ok hct hO c39) p42 (Nat.add_lt_add_left (by decide) d) nh99))
  ))
def J99_139 (xt : mj_X) (ct : Nat → Value) (O : OR) (N : Nat) (x3 : Int32) (x4 : Int32) (s0 : Nat) (H : mj_H) : Option (((Int32) ⊕ Nat) × mj_H) :=
  J99_140 xt ct O N x3 x4 0 s0 H
theorem J99_139_ok {xt : mj_X} {ct : Nat → Value} {O : OR} {d N : Nat} (hct : ct 0 = .int 1) (hO : oOK xt ct d O) {l : mj_L} {x3 : Int32} {x4 : Int32} {s0 : Nat} {H : mj_H} {q : ((Int32) ⊕ Nat) × mj_H} (f3 : mj_ld l 3 = some (.int x3)) (f4 : mj_ld l 4 = some (.int x4)) (e : J99_139 xt ct O N x3 x4 s0 H = some q) : mj_Run kY xt ct (d + 2) 99 139 l [.ref s0] H (tT vI q.1, q.2) := by
  unfold J99_139 at e
  exact (
  r_iconst c99_139 <|
  J99_140_ok hct hO f3 f4 e)
def J99_118 (xt : mj_X) (ct : Nat → Value) (O : OR) (N : Nat) (x0 : Nat) (x1 : Int32) (x2 : Int32) (x3 : Int32) (x4 : Int32) (s0 : Int32) (s1 : Nat) (H : mj_H) : Option (((Int32) ⊕ Nat) × mj_H) :=
  (gK H s1 1).bind fun k23 =>
  (C87 xt ct O N s1 s0 x3 H).bind fun r26 =>
  tc (fun z => z) r26 fun v29 =>
  bif mj_c2 .lt x4 x1 then
    J99_139 xt ct O N x3 x4 x0 r26.2
  else
  bif mj_c2 .gt x4 x2 then
    J99_139 xt ct O N x3 x4 x0 r26.2
  else
  J99_140 xt ct O N x3 x4 1 x0 r26.2
theorem J99_118_ok {xt : mj_X} {ct : Nat → Value} {O : OR} {d N : Nat} (hct : ct 0 = .int 1) (hO : oOK xt ct d O) {l : mj_L} {x0 : Nat} {x1 : Int32} {x2 : Int32} {x3 : Int32} {x4 : Int32} {s0 : Int32} {s1 : Nat} {H : mj_H} {q : ((Int32) ⊕ Nat) × mj_H} (f0 : mj_ld l 0 = some (.ref x0)) (f1 : mj_ld l 1 = some (.int x1)) (f2 : mj_ld l 2 = some (.int x2)) (f3 : mj_ld l 3 = some (.int x3)) (f4 : mj_ld l 4 = some (.int x4)) (e : J99_118 xt ct O N x0 x1 x2 x3 x4 s0 s1 H = some q) : mj_Run kY xt ct (d + 2) 99 118 l [.int s0, .ref s1] H (tT vI q.1, q.2) := by
  unfold J99_118 at e
  exact (
  r_iloadn c99_118 f3 <|
  t_bd e fun k23 c24 e25 =>
  t_bd e25 fun r26 c27 e28 =>
  t_tc e28 (fun v29 p30 e31 =>
    c_calT (f := vU) (p := r26) (st2 := []) (s_cv (as := [.ref s1, .int s0, .int x3]) (st' := []) c99_119 rfl (gK_ok c24) ⟨Nat.le_of_ble_eq_true rfl, Nat.le_of_ble_eq_true rfl, Nat.le_of_ble_eq_true rfl⟩ rfl rfl) (C87_ok hct hO c27) p30 (Nat.add_lt_add_left (by decide) d) rfl <|
    r_aloadn c99_122 f0 <|
    r_iload c99_123 f4 <|
    r_iloadn c99_125 f1 <|
    t_if e31 (fun b33 e34 =>
      r_icmpT c99_126 b33 <|
      J99_139_ok hct hO f3 f4 e34
    ) (fun b33 e34 =>
      r_icmpF c99_126 b33 <|
      r_iload c99_129 f4 <|
      r_iloadn c99_131 f2 <|
      t_if e34 (fun b45 e46 =>
        r_icmpT c99_132 b45 <|
        J99_139_ok hct hO f3 f4 e46
      ) (fun b45 e46 =>
        r_icmpF c99_132 b45 <|
        r_iconst c99_135 <|
        r_goto c99_136 <|
        J99_140_ok hct hO f3 f4 e46
      )
    )
  ) (fun x32 p30 e31 =>
    (by cases e31; exact (c_thrT (f := vU) (p := r26) (s_cv (as := [.ref s1, .int s0, .int x3]) (st' := []) c99_119 rfl (gK_ok c24) ⟨Nat.le_of_ble_eq_true rfl, Nat.le_of_ble_eq_true rfl, Nat.le_of_ble_eq_true rfl⟩ rfl rfl) (C87_ok hct hO c27) p30 (Nat.add_lt_add_left (by decide) d) nh99))
  ))
def J99_113 (xt : mj_X) (ct : Nat → Value) (O : OR) (N : Nat) (x0 : Nat) (x1 : Int32) (x2 : Int32) (x3 : Int32) (x4 : Int32) (s0 : Nat) (H : mj_H) : Option (((Int32) ⊕ Nat) × mj_H) :=
  J99_118 xt ct O N x0 x1 x2 x3 x4 1 s0 H
theorem J99_113_ok {xt : mj_X} {ct : Nat → Value} {O : OR} {d N : Nat} (hct : ct 0 = .int 1) (hO : oOK xt ct d O) {l : mj_L} {x0 : Nat} {x1 : Int32} {x2 : Int32} {x3 : Int32} {x4 : Int32} {s0 : Nat} {H : mj_H} {q : ((Int32) ⊕ Nat) × mj_H} (f0 : mj_ld l 0 = some (.ref x0)) (f1 : mj_ld l 1 = some (.int x1)) (f2 : mj_ld l 2 = some (.int x2)) (f3 : mj_ld l 3 = some (.int x3)) (f4 : mj_ld l 4 = some (.int x4)) (e : J99_113 xt ct O N x0 x1 x2 x3 x4 s0 H = some q) : mj_Run kY xt ct (d + 2) 99 113 l [.ref s0] H (tT vI q.1, q.2) := by
  unfold J99_113 at e
  exact (
  r_iconst c99_113 <|
  r_goto c99_114 <|
  J99_118_ok hct hO f0 f1 f2 f3 f4 e)
def J99_91 (xt : mj_X) (ct : Nat → Value) (O : OR) (N : Nat) (x0 : Nat) (x1 : Int32) (x2 : Int32) (x3 : Int32) (x4 : Int32) (x5 : Int32) (s0 : Int32) (s1 : Nat) (H : mj_H) : Option (((Int32) ⊕ Nat) × mj_H) :=
  (gK H s1 1).bind fun k11 =>
  (C87 xt ct O N s1 s0 x3 H).bind fun r14 =>
  tc (fun z => z) r14 fun v17 =>
  bif mj_c2 .eq x5 1 then
    J99_113 xt ct O N x0 x1 x2 x3 x4 x0 r14.2
  else
  (gA r14.2 x0 1 0).bind fun r47 =>
  (aC xt r14.2 r47 x3).bind fun r50 =>
  bif mj_c2 .eq r50 48 then
    J99_118 xt ct O N x0 x1 x2 x3 x4 0 x0 r14.2
  else
  J99_113 xt ct O N x0 x1 x2 x3 x4 x0 r14.2
theorem J99_91_ok {xt : mj_X} {ct : Nat → Value} {O : OR} {d N : Nat} (hct : ct 0 = .int 1) (hO : oOK xt ct d O) {l : mj_L} {x0 : Nat} {x1 : Int32} {x2 : Int32} {x3 : Int32} {x4 : Int32} {x5 : Int32} {s0 : Int32} {s1 : Nat} {H : mj_H} {q : ((Int32) ⊕ Nat) × mj_H} (f0 : mj_ld l 0 = some (.ref x0)) (f1 : mj_ld l 1 = some (.int x1)) (f2 : mj_ld l 2 = some (.int x2)) (f3 : mj_ld l 3 = some (.int x3)) (f4 : mj_ld l 4 = some (.int x4)) (f5 : mj_ld l 5 = some (.int x5)) (e : J99_91 xt ct O N x0 x1 x2 x3 x4 x5 s0 s1 H = some q) : mj_Run kY xt ct (d + 2) 99 91 l [.int s0, .ref s1] H (tT vI q.1, q.2) := by
  unfold J99_91 at e
  exact (
  r_iloadn c99_91 f3 <|
  t_bd e fun k11 c12 e13 =>
  t_bd e13 fun r14 c15 e16 =>
  t_tc e16 (fun v17 p18 e19 =>
    c_calT (f := vU) (p := r14) (st2 := []) (s_cv (as := [.ref s1, .int s0, .int x3]) (st' := []) c99_92 rfl (gK_ok c12) ⟨Nat.le_of_ble_eq_true rfl, Nat.le_of_ble_eq_true rfl, Nat.le_of_ble_eq_true rfl⟩ rfl rfl) (C87_ok hct hO c15) p18 (Nat.add_lt_add_left (by decide) d) rfl <|
    r_aloadn c99_95 f0 <|
    r_iload c99_96 f5 <|
    r_iconst c99_98 <|
    t_if e19 (fun b21 e22 =>
      r_icmpT c99_99 b21 <|
      J99_113_ok hct hO f0 f1 f2 f3 f4 e22
    ) (fun b21 e22 =>
      r_icmpF c99_99 b21 <|
      r_aloadn c99_102 f0 <|
      t_bd e22 fun r47 c48 e49 =>
      c_gA c99_103 c48 <|
      r_iloadn c99_106 f3 <|
      t_bd e49 fun r50 c51 e52 =>
      c_aC c99_107 c51 <|
      r_bipush c99_108 <|
      t_if e52 (fun b53 e54 =>
        r_icmpT c99_110 b53 <|
        r_iconst c99_117 <|
        J99_118_ok hct hO f0 f1 f2 f3 f4 e54
      ) (fun b53 e54 =>
        r_icmpF c99_110 b53 <|
        J99_113_ok hct hO f0 f1 f2 f3 f4 e54
      )
    )
  ) (fun x20 p18 e19 =>
    (by cases e19; exact (c_thrT (f := vU) (p := r14) (s_cv (as := [.ref s1, .int s0, .int x3]) (st' := []) c99_92 rfl (gK_ok c12) ⟨Nat.le_of_ble_eq_true rfl, Nat.le_of_ble_eq_true rfl, Nat.le_of_ble_eq_true rfl⟩ rfl rfl) (C87_ok hct hO c15) p18 (Nat.add_lt_add_left (by decide) d) nh99))
  ))
def J99_90 (xt : mj_X) (ct : Nat → Value) (O : OR) (N : Nat) (x0 : Nat) (x1 : Int32) (x2 : Int32) (x3 : Int32) (x4 : Int32) (x5 : Int32) (s0 : Nat) (H : mj_H) : Option (((Int32) ⊕ Nat) × mj_H) :=
  J99_91 xt ct O N x0 x1 x2 x3 x4 x5 0 s0 H
theorem J99_90_ok {xt : mj_X} {ct : Nat → Value} {O : OR} {d N : Nat} (hct : ct 0 = .int 1) (hO : oOK xt ct d O) {l : mj_L} {x0 : Nat} {x1 : Int32} {x2 : Int32} {x3 : Int32} {x4 : Int32} {x5 : Int32} {s0 : Nat} {H : mj_H} {q : ((Int32) ⊕ Nat) × mj_H} (f0 : mj_ld l 0 = some (.ref x0)) (f1 : mj_ld l 1 = some (.int x1)) (f2 : mj_ld l 2 = some (.int x2)) (f3 : mj_ld l 3 = some (.int x3)) (f4 : mj_ld l 4 = some (.int x4)) (f5 : mj_ld l 5 = some (.int x5)) (e : J99_90 xt ct O N x0 x1 x2 x3 x4 x5 s0 H = some q) : mj_Run kY xt ct (d + 2) 99 90 l [.ref s0] H (tT vI q.1, q.2) := by
  unfold J99_90 at e
  exact (
  r_iconst c99_90 <|
  J99_91_ok hct hO f0 f1 f2 f3 f4 f5 e)
def J99_66 (xt : mj_X) (ct : Nat → Value) (O : OR) (N : Nat) (x0 : Nat) (x1 : Int32) (x2 : Int32) (x3 : Int32) (x4 : Int32) (H : mj_H) : Option (((Int32) ⊕ Nat) × mj_H) :=
  (gI H x0 1 3).bind fun r6 =>
  bif mj_c1 .le (r6 - x3) then
    J99_90 xt ct O N x0 x1 x2 x3 x4 (r6 - x3) x0 H
  else
  bif mj_c2 .gt (r6 - x3) 3 then
    J99_90 xt ct O N x0 x1 x2 x3 x4 (r6 - x3) x0 H
  else
  J99_91 xt ct O N x0 x1 x2 x3 x4 (r6 - x3) 1 x0 H
theorem J99_66_ok {xt : mj_X} {ct : Nat → Value} {O : OR} {d N : Nat} (hct : ct 0 = .int 1) (hO : oOK xt ct d O) {l : mj_L} {x0 : Nat} {x1 : Int32} {x2 : Int32} {x3 : Int32} {x4 : Int32} {H : mj_H} {q : ((Int32) ⊕ Nat) × mj_H} (f0 : mj_ld l 0 = some (.ref x0)) (f1 : mj_ld l 1 = some (.int x1)) (f2 : mj_ld l 2 = some (.int x2)) (f3 : mj_ld l 3 = some (.int x3)) (f4 : mj_ld l 4 = some (.int x4)) (e : J99_66 xt ct O N x0 x1 x2 x3 x4 H = some q) : mj_Run kY xt ct (d + 2) 99 66 l [] H (tT vI q.1, q.2) := by
  unfold J99_66 at e
  exact (
  r_aloadn c99_66 f0 <|
  t_bd e fun r6 c7 e8 =>
  c_gI c99_67 c7 <|
  r_iloadn c99_70 f3 <|
  r_isub c99_71 rfl <|
  r_istore c99_72 <|
  r_aloadn c99_74 (ld1_ne f0 (by decide) (Or.inl (by decide))) <|
  r_iload c99_75 ld1_eq <|
  t_if e8 (fun b9 e10 =>
    r_ifT c99_77 b9 <|
    J99_90_ok hct hO (ld1_ne f0 (by decide) (Or.inl (by decide))) (ld1_ne f1 (by decide) (Or.inl (by decide))) (ld1_ne f2 (by decide) (Or.inl (by decide))) (ld1_ne f3 (by decide) (Or.inl (by decide))) (ld1_ne f4 (by decide) (Or.inr rfl)) ld1_eq e10
  ) (fun b9 e10 =>
    r_ifF c99_77 b9 <|
    r_iload c99_80 ld1_eq <|
    r_iconst c99_82 <|
    t_if e10 (fun b55 e56 =>
      r_icmpT c99_83 b55 <|
      J99_90_ok hct hO (ld1_ne f0 (by decide) (Or.inl (by decide))) (ld1_ne f1 (by decide) (Or.inl (by decide))) (ld1_ne f2 (by decide) (Or.inl (by decide))) (ld1_ne f3 (by decide) (Or.inl (by decide))) (ld1_ne f4 (by decide) (Or.inr rfl)) ld1_eq e56
    ) (fun b55 e56 =>
      r_icmpF c99_83 b55 <|
      r_iconst c99_86 <|
      r_goto c99_87 <|
      J99_91_ok hct hO (ld1_ne f0 (by decide) (Or.inl (by decide))) (ld1_ne f1 (by decide) (Or.inl (by decide))) (ld1_ne f2 (by decide) (Or.inl (by decide))) (ld1_ne f3 (by decide) (Or.inl (by decide))) (ld1_ne f4 (by decide) (Or.inr rfl)) ld1_eq e56
    )
  ))
def B99_11 (xt : mj_X) (ct : Nat → Value) (O : OR) (N : Nat) (s : Nat × Int32 × Int32 × Int32 × Int32 × Int32 × mj_H) : Option ((Nat × Int32 × Int32 × Int32 × Int32 × Int32 × mj_H) ⊕ (((Int32) ⊕ Nat) × mj_H)) :=
  bif mj_c2 .ge s.2.2.2.2.2.1 160 then
    (J99_66 xt ct O N s.1 s.2.1 s.2.2.1 s.2.2.2.1 s.2.2.2.2.1 s.2.2.2.2.2.2).map Sum.inr
  else
  (gK s.2.2.2.2.2.2 s.1 1).bind fun k61 =>
  (C84 xt ct O N s.1 s.2.2.2.2.2.2).bind fun r64 =>
  (C95 xt ct O N r64.1 r64.2).bind fun r67 =>
  bif mj_c1 .eq r67.1 then
    (J99_66 xt ct O N s.1 s.2.1 s.2.2.1 s.2.2.2.1 s.2.2.2.2.1 r67.2).map Sum.inr
  else
  (gK r67.2 s.1 1).bind fun k76 =>
  (C84 xt ct O N s.1 r67.2).bind fun r79 =>
  (C21 xt ct O N (((s.2.2.2.2.1 * 10) + r79.1) - 48) 1000 r79.2).bind fun r82 =>
  (gI r82.2 s.1 1 3).bind fun r85 =>
  (uF r82.2 s.1 1 3 (.int (r85 + 1))).bind fun H88 =>
  some (.inl (s.1, s.2.1, s.2.2.1, s.2.2.2.1, r82.1, (s.2.2.2.2.2.1 + 1), H88))
def L99_11 (xt : mj_X) (ct : Nat → Value) (O : OR) (N : Nat) (s : Nat × Int32 × Int32 × Int32 × Int32 × Int32 × mj_H) : Option (((Int32) ⊕ Nat) × mj_H) := t_lp (B99_11 xt ct O N) N s
theorem B99_11_ok {xt : mj_X} {ct : Nat → Value} {O : OR} {d N : Nat} (hct : ct 0 = .int 1) (hO : oOK xt ct d O) {s : Nat × Int32 × Int32 × Int32 × Int32 × Int32 × mj_H} {o : (Nat × Int32 × Int32 × Int32 × Int32 × Int32 × mj_H) ⊕ (((Int32) ⊕ Nat) × mj_H)} {q : ((Int32) ⊕ Nat) × mj_H} (e : B99_11 xt ct O N s = some o) (g : GG99_11 xt ct d q o) : LG99_11 xt ct d q s.1 s.2.1 s.2.2.1 s.2.2.2.1 s.2.2.2.2.1 s.2.2.2.2.2.1 s.2.2.2.2.2.2 := by
  unfold B99_11 at e
  exact (fun l f0 f1 f2 f3 f4 f5 =>
  r_iload c99_11 f5 <|
  r_sipush c99_13 <|
  t_if e (fun b4 e5 =>
    r_icmpT c99_16 b4 <|
    t_up e5 fun o57 e58 u59 =>
    (fun (g60 : o57 = q) =>
    by subst g60; exact (J99_66_ok hct hO f0 f1 f2 f3 f4 e58)
    ) (by have := g; rw [u59] at this; exact this)
  ) (fun b4 e5 =>
    r_icmpF c99_16 b4 <|
    r_aloadn c99_19 f0 <|
    t_bd e5 fun k61 c62 e63 =>
    t_bd e63 fun r64 c65 e66 =>
    c_cal (st2 := [.int r64.1]) (s_cv (as := [.ref s.1]) (st' := []) c99_20 rfl (gK_ok c62) ⟨Nat.le_of_ble_eq_true rfl, Nat.le_of_ble_eq_true rfl, Nat.le_of_ble_eq_true rfl⟩ rfl rfl) (C84_ok hct hO c65) (Nat.add_lt_add_left (by decide) d) rfl <|
    t_bd e66 fun r67 c68 e69 =>
    c_cal (st2 := [.int r67.1]) (s_cs (as := [.int r64.1]) (st' := []) c99_23 ⟨Nat.le_of_ble_eq_true rfl, Nat.le_of_ble_eq_true rfl, Nat.le_of_ble_eq_true rfl⟩ rfl rfl) (C95_ok hct hO c68) (Nat.add_lt_add_left (by decide) d) rfl <|
    t_if e69 (fun b70 e71 =>
      r_ifT c99_26 b70 <|
      t_up e71 fun o72 e73 u74 =>
      (fun (g75 : o72 = q) =>
      by subst g75; exact (J99_66_ok hct hO f0 f1 f2 f3 f4 e73)
      ) (by have := g; rw [u74] at this; exact this)
    ) (fun b70 e71 =>
      r_ifF c99_26 b70 <|
      r_iload c99_29 f4 <|
      r_bipush c99_31 <|
      r_imul c99_33 rfl <|
      r_aloadn c99_34 f0 <|
      t_bd e71 fun k76 c77 e78 =>
      t_bd e78 fun r79 c80 e81 =>
      c_cal (st2 := [.int r79.1, .int (s.2.2.2.2.1 * 10)]) (s_cv (as := [.ref s.1]) (st' := [.int (s.2.2.2.2.1 * 10)]) c99_35 rfl (gK_ok c77) ⟨Nat.le_of_ble_eq_true rfl, Nat.le_of_ble_eq_true rfl, Nat.le_of_ble_eq_true rfl⟩ rfl rfl) (C84_ok hct hO c80) (Nat.add_lt_add_left (by decide) d) rfl <|
      r_iadd c99_38 rfl <|
      r_bipush c99_39 <|
      r_isub c99_41 rfl <|
      r_sipush c99_42 <|
      t_bd e81 fun r82 c83 e84 =>
      c_cal (st2 := [.int r82.1]) (s_cs (as := [.int (((s.2.2.2.2.1 * 10) + r79.1) - 48), .int 1000]) (st' := []) c99_45 ⟨Nat.le_of_ble_eq_true rfl, Nat.le_of_ble_eq_true rfl, Nat.le_of_ble_eq_true rfl⟩ rfl rfl) (C21_ok hct hO c83) (Nat.add_lt_add_left (by decide) d) rfl <|
      r_istore c99_48 <|
      r_aloadn c99_50 (ld1_ne f0 (by decide) (Or.inl (by decide))) <|
      r_dup c99_51 rfl <|
      t_bd e84 fun r85 c86 e87 =>
      c_gI c99_52 c86 <|
      r_iconst c99_55 <|
      r_iadd c99_56 rfl <|
      t_bd e87 fun H88 c89 e90 =>
      c_uF c99_57 ⟨rfl, rfl⟩ c89 <|
      r_iinc c99_60 (ld1_ne f5 (by decide) (Or.inl (by decide))) <|
      r_goto c99_63 <|
      t_rg e90 g (fun (z : LG99_11 xt ct d q s.1 s.2.1 s.2.2.1 s.2.2.2.1 r82.1 (s.2.2.2.2.2.1 + 1) H88) => z _ (ld1_ne (ld1_ne f0 (by decide) (Or.inl (by decide))) (by decide) (Or.inl (by decide))) (ld1_ne (ld1_ne f1 (by decide) (Or.inl (by decide))) (by decide) (Or.inl (by decide))) (ld1_ne (ld1_ne f2 (by decide) (Or.inl (by decide))) (by decide) (Or.inl (by decide))) (ld1_ne (ld1_ne f3 (by decide) (Or.inr rfl)) (by decide) (Or.inl (by decide))) (ld1_ne ld1_eq (by decide) (Or.inr rfl)) ld1_eq)
    )
  ))
theorem L99_11_ok {xt : mj_X} {ct : Nat → Value} {O : OR} {d N : Nat} (hct : ct 0 = .int 1) (hO : oOK xt ct d O) {x0 : Nat} {x1 : Int32} {x2 : Int32} {x3 : Int32} {x4 : Int32} {x5 : Int32} {H : mj_H} {q : ((Int32) ⊕ Nat) × mj_H} (e : L99_11 xt ct O N (x0, x1, x2, x3, x4, x5, H) = some q) : LG99_11 xt ct d q x0 x1 x2 x3 x4 x5 H :=
  t_lp_ok (G := fun s => LG99_11 xt ct d q s.1 s.2.1 s.2.2.1 s.2.2.2.1 s.2.2.2.2.1 s.2.2.2.2.2.1 s.2.2.2.2.2.2) (fun s s' e g => B99_11_ok hct hO e (by obtain ⟨_, _, _, _, _, _, _⟩ := s'; exact g)) (fun s e => B99_11_ok hct hO e rfl) N (x0, x1, x2, x3, x4, x5, H) e
/-- DiceOdds$Parser.number(II)I -/
def C99 (xt : mj_X) (ct : Nat → Value) (O : OR) (N : Nat) (x0 : Nat) (x1 : Int32) (x2 : Int32) (H : mj_H) : Option (((Int32) ⊕ Nat) × mj_H) :=
  (gI H x0 1 3).bind fun r1 =>
  L99_11 xt ct O N (x0, x1, x2, r1, 0, 0, H)
theorem C99_ok {xt : mj_X} {ct : Nat → Value} {O : OR} {d N : Nat} (hct : ct 0 = .int 1) (hO : oOK xt ct d O) {x0 : Nat} {x1 : Int32} {x2 : Int32} {H : mj_H} {q : ((Int32) ⊕ Nat) × mj_H} (e : C99 xt ct O N x0 x1 x2 H = some q) : mj_Run kY xt ct (d + 2) 99 0 (lv_args 0 [.ref x0, .int x1, .int x2]) [] H (tT vI q.1, q.2) := by
  unfold C99 at e
  exact (
  r_aloadn c99_0 rfl <|
  t_bd e fun r1 c2 e3 =>
  c_gI c99_1 c2 <|
  r_istoren c99_4 <|
  r_iconst c99_5 <|
  r_istore c99_6 <|
  r_iconst c99_8 <|
  r_istore c99_9 <|
  L99_11_ok hct hO e3 _ (ld1_ne (ld1_ne (ld1_ne rfl (by decide) (Or.inl (by decide))) (by decide) (Or.inl (by decide))) (by decide) (Or.inl (by decide))) (ld1_ne (ld1_ne (ld1_ne rfl (by decide) (Or.inl (by decide))) (by decide) (Or.inl (by decide))) (by decide) (Or.inl (by decide))) (ld1_ne (ld1_ne (ld1_ne rfl (by decide) (Or.inr rfl)) (by decide) (Or.inl (by decide))) (by decide) (Or.inl (by decide))) (ld1_ne (ld1_ne ld1_eq (by decide) (Or.inr rfl)) (by decide) (Or.inl (by decide))) (ld1_ne ld1_eq (by decide) (Or.inr rfl)) ld1_eq)
/-- DiceOdds$Parser.repetition(I)LDiceOdds$Statement; -/
def C116 (xt : mj_X) (ct : Nat → Value) (O : OR) (N : Nat) (x0 : Nat) (x1 : Int32) (H : mj_H) : Option (((Option Nat) ⊕ Nat) × mj_H) :=
  (gK H x0 1).bind fun k1 =>
  (C99 xt ct O N x0 0 20 H).bind fun r4 =>
  tc (fun z => z) r4 fun v7 =>
  (nO r4.2 11 9 [.int 0, .null, .int 0, .null, .null, .long 0, .long 0, .long 0, .null]).bind fun r11 =>
  (nO r11.2 7 3 [.int 0, .int 0, .long 0]).bind fun r14 =>
  (gC r14.2 r14.1).bind fun k17 =>
  (C97 xt ct O N r14.1 (-1000) v7 r14.2).bind fun r20 =>
  (gK r20 x0 1).bind fun k23 =>
  (C110 xt ct O N x0 x1 r20).bind fun r26 =>
  tc (fun z => z) r26 fun v29 =>
  (gC r26.2 r11.1).bind fun k33 =>
  (C111 xt ct O N r11.1 42 r14.1 v7 v29 none r26.2).bind fun r36 =>
  some (.inl (some r11.1), r36)
theorem C116_ok {xt : mj_X} {ct : Nat → Value} {O : OR} {d N : Nat} (hct : ct 0 = .int 1) (hO : oOK xt ct d O) {x0 : Nat} {x1 : Int32} {H : mj_H} {q : ((Option Nat) ⊕ Nat) × mj_H} (e : C116 xt ct O N x0 x1 H = some q) : mj_Run kY xt ct (d + 5) 116 0 (lv_args 0 [.ref x0, .int x1]) [] H (tT vO q.1, q.2) := by
  unfold C116 at e
  exact (
  r_aloadn c116_0 rfl <|
  r_iconst c116_1 <|
  r_bipush c116_2 <|
  t_bd e fun k1 c2 e3 =>
  t_bd e3 fun r4 c5 e6 =>
  t_tc e6 (fun v7 p8 e9 =>
    c_calT (f := vI) (p := r4) (st2 := [.int v7]) (s_cv (as := [.ref x0, .int 0, .int 20]) (st' := []) c116_4 rfl (gK_ok c2) ⟨Nat.le_of_ble_eq_true rfl, Nat.le_of_ble_eq_true rfl, Nat.le_of_ble_eq_true rfl⟩ rfl rfl) (C99_ok hct hO c5) p8 (Nat.add_lt_add_left (by decide) d) rfl <|
    r_istoren c116_7 <|
    t_bd e9 fun r11 c12 e13 =>
    c_new c116_8 c12 <|
    r_dup c116_11 rfl <|
    r_bipush c116_12 <|
    t_bd e13 fun r14 c15 e16 =>
    c_new c116_14 c15 <|
    r_dup c116_17 rfl <|
    r_sipush c116_18 <|
    r_iloadn c116_21 ld1_eq <|
    t_bd e16 fun k17 c18 e19 =>
    t_bd e19 fun r20 c21 e22 =>
    c_cal (st2 := [.ref r14.1, .int 42, .ref r11.1, .ref r11.1]) (s_cp (as := [.ref r14.1, .int (-1000), .int v7]) (st' := [.ref r14.1, .int 42, .ref r11.1, .ref r11.1]) c116_22 rfl c18 ⟨Nat.le_of_ble_eq_true rfl, Nat.le_of_ble_eq_true rfl, Nat.le_of_ble_eq_true rfl⟩ rfl rfl) (C97_ok hct hO c21) (Nat.add_lt_add_left (by decide) d) rfl <|
    r_iloadn c116_25 ld1_eq <|
    r_aloadn c116_26 (ld1_ne rfl (by decide) (Or.inl (by decide))) <|
    r_iloadn c116_27 (ld1_ne rfl (by decide) (Or.inr rfl)) <|
    t_bd e22 fun k23 c24 e25 =>
    t_bd e25 fun r26 c27 e28 =>
    t_tc e28 (fun v29 p30 e31 =>
      c_calT (f := vO) (p := r26) (st2 := [rv v29, .int v7, .ref r14.1, .int 42, .ref r11.1, .ref r11.1]) (s_cv (as := [.ref x0, .int x1]) (st' := [.int v7, .ref r14.1, .int 42, .ref r11.1, .ref r11.1]) c116_28 rfl (gK_ok c24) ⟨Nat.le_of_ble_eq_true rfl, Nat.le_of_ble_eq_true rfl, Nat.le_of_ble_eq_true rfl⟩ rfl rfl) (C110_ok hct hO c27) p30 (Nat.add_lt_add_left (by decide) d) rfl <|
      c_nll c116_31 <|
      t_bd e31 fun k33 c34 e35 =>
      t_bd e35 fun r36 c37 e38 =>
      c_cal (st2 := [.ref r11.1]) (s_cp (as := [.ref r11.1, .int 42, .ref r14.1, .int v7, rv v29, rv none]) (st' := [.ref r11.1]) c116_32 rfl c34 (by cases (v29) <;> exact ⟨Nat.le_of_ble_eq_true rfl, Nat.le_of_ble_eq_true rfl, Nat.le_of_ble_eq_true rfl⟩) rfl rfl) (C111_ok hct hO c37) (Nat.add_lt_add_left (by decide) d) rfl <|
      (by cases e38; exact (c_arv (o := (some r11.1)) c116_35))
    ) (fun x32 p30 e31 =>
      (by cases e31; exact (c_thrT (f := vO) (p := r26) (s_cv (as := [.ref x0, .int x1]) (st' := [.int v7, .ref r14.1, .int 42, .ref r11.1, .ref r11.1]) c116_28 rfl (gK_ok c24) ⟨Nat.le_of_ble_eq_true rfl, Nat.le_of_ble_eq_true rfl, Nat.le_of_ble_eq_true rfl⟩ rfl rfl) (C110_ok hct hO c27) p30 (Nat.add_lt_add_left (by decide) d) nh116))
    )
  ) (fun x10 p8 e9 =>
    (by cases e9; exact (c_thrT (f := vI) (p := r4) (s_cv (as := [.ref x0, .int 0, .int 20]) (st' := []) c116_4 rfl (gK_ok c2) ⟨Nat.le_of_ble_eq_true rfl, Nat.le_of_ble_eq_true rfl, Nat.le_of_ble_eq_true rfl⟩ rfl rfl) (C99_ok hct hO c5) p8 (Nat.add_lt_add_left (by decide) d) nh116))
  ))
def J85_121 (xt : mj_X) (ct : Nat → Value) (O : OR) (N : Nat) (x0 : Nat) (x2 : Int32) (H : mj_H) : Option (((Option Nat) ⊕ Nat) × mj_H) :=
  (gK H x0 1).bind fun k61 =>
  (O.2.1 x0 0 0 H).bind fun r64 =>
  tc (fun z => z) r64 fun v67 =>
  (gK r64.2 x0 1).bind fun k71 =>
  (C94 xt ct O N x0 59 r64.2).bind fun r74 =>
  tc (fun z => z) r74 fun v77 =>
  (nO r74.2 11 9 [.int 0, .null, .int 0, .null, .null, .long 0, .long 0, .long 0, .null]).bind fun r81 =>
  (gC r81.2 r81.1).bind fun k84 =>
  (C111 xt ct O N r81.1 x2 v67 0 none none r81.2).bind fun r87 =>
  some (.inl (some r81.1), r87)
theorem J85_121_ok {xt : mj_X} {ct : Nat → Value} {O : OR} {d N : Nat} (hct : ct 0 = .int 1) (hO : oOK xt ct d O) {l : mj_L} {x0 : Nat} {x2 : Int32} {H : mj_H} {q : ((Option Nat) ⊕ Nat) × mj_H} (f0 : mj_ld l 0 = some (.ref x0)) (f2 : mj_ld l 2 = some (.int x2)) (e : J85_121 xt ct O N x0 x2 H = some q) : mj_Run kY xt ct (d + 6) 85 121 l [] H (tT vO q.1, q.2) := by
  unfold J85_121 at e
  exact (
  r_aloadn c85_121 f0 <|
  r_iconst c85_122 <|
  r_iconst c85_123 <|
  t_bd e fun k61 c62 e63 =>
  t_bd e63 fun r64 c65 e66 =>
  t_tc e66 (fun v67 p68 e69 =>
    c_calT (f := vA) (p := r64) (st2 := [.ref v67]) (s_cv (as := [.ref x0, .int 0, .int 0]) (st' := []) c85_124 rfl (gK_ok c62) ⟨Nat.le_of_ble_eq_true rfl, Nat.le_of_ble_eq_true rfl, Nat.le_of_ble_eq_true rfl⟩ rfl rfl) (hO.2.1 _ _ _ _ _ c65) p68 (Nat.lt_add_of_pos_right (by decide)) rfl <|
    r_astoren c85_127 <|
    r_aloadn c85_128 (ld1_ne f0 (by decide) (Or.inl (by decide))) <|
    r_bipush c85_129 <|
    t_bd e69 fun k71 c72 e73 =>
    t_bd e73 fun r74 c75 e76 =>
    t_tc e76 (fun v77 p78 e79 =>
      c_calT (f := vU) (p := r74) (st2 := []) (s_cv (as := [.ref x0, .int 59]) (st' := []) c85_131 rfl (gK_ok c72) ⟨Nat.le_of_ble_eq_true rfl, Nat.le_of_ble_eq_true rfl, Nat.le_of_ble_eq_true rfl⟩ rfl rfl) (C94_ok hct hO c75) p78 (Nat.add_lt_add_left (by decide) d) rfl <|
      t_bd e79 fun r81 c82 e83 =>
      c_new c85_134 c82 <|
      r_dup c85_137 rfl <|
      r_iloadn c85_138 (ld1_ne f2 (by decide) (Or.inr rfl)) <|
      r_aloadn c85_139 ld1_eq <|
      r_iconst c85_140 <|
      c_nll c85_141 <|
      c_nll c85_142 <|
      t_bd e83 fun k84 c85 e86 =>
      t_bd e86 fun r87 c88 e89 =>
      c_cal (st2 := [.ref r81.1]) (s_cp (as := [.ref r81.1, .int x2, .ref v67, .int 0, rv none, rv none]) (st' := [.ref r81.1]) c85_143 rfl c85 ⟨Nat.le_of_ble_eq_true rfl, Nat.le_of_ble_eq_true rfl, Nat.le_of_ble_eq_true rfl⟩ rfl rfl) (C111_ok hct hO c88) (Nat.add_lt_add_left (by decide) d) rfl <|
      (by cases e89; exact (c_arv (o := (some r81.1)) c85_146))
    ) (fun x80 p78 e79 =>
      (by cases e79; exact (c_thrT (f := vU) (p := r74) (s_cv (as := [.ref x0, .int 59]) (st' := []) c85_131 rfl (gK_ok c72) ⟨Nat.le_of_ble_eq_true rfl, Nat.le_of_ble_eq_true rfl, Nat.le_of_ble_eq_true rfl⟩ rfl rfl) (C94_ok hct hO c75) p78 (Nat.add_lt_add_left (by decide) d) nh85))
    )
  ) (fun x70 p68 e69 =>
    (by cases e69; exact (c_thrT (f := vA) (p := r64) (s_cv (as := [.ref x0, .int 0, .int 0]) (st' := []) c85_124 rfl (gK_ok c62) ⟨Nat.le_of_ble_eq_true rfl, Nat.le_of_ble_eq_true rfl, Nat.le_of_ble_eq_true rfl⟩ rfl rfl) (hO.2.1 _ _ _ _ _ c65) p68 (Nat.lt_add_of_pos_right (by decide)) nh85))
  ))
def J85_58 (xt : mj_X) (ct : Nat → Value) (O : OR) (N : Nat) (x0 : Nat) (x1 : Int32) (x2 : Int32) (s0 : Int32) (s1 : Nat) (H : mj_H) : Option (((Option Nat) ⊕ Nat) × mj_H) :=
  (gI H x0 1 3).bind fun r30 =>
  (gK H s1 1).bind fun k33 =>
  (C87 xt ct O N s1 s0 r30 H).bind fun r36 =>
  tc (fun z => z) r36 fun v39 =>
  (gI r36.2 x0 1 4).bind fun r43 =>
  (uF r36.2 x0 1 4 (.int (r43 + 1))).bind fun H46 =>
  (gI H46 x0 1 3).bind fun r49 =>
  (uF H46 x0 1 3 (.int (r49 + 1))).bind fun H52 =>
  bif mj_c2 .ne x2 63 then
    bif mj_c2 .ne x2 42 then
      bif mj_c2 .eq x2 33 then
        J85_121 xt ct O N x0 x2 H52
      else
      (gK H52 x0 1).bind fun k90 =>
      (C94 xt ct O N x0 61 H52).bind fun r93 =>
      tc (fun z => z) r93 fun v96 =>
      J85_121 xt ct O N x0 x2 r93.2
    else
    (gK H52 x0 1).bind fun k100 =>
    (C116 xt ct O N x0 x1 H52).bind fun r103 =>
    tc (fun z => z) r103 fun v106 =>
    some (.inl v106, r103.2)
  else
  (gK H52 x0 1).bind fun k110 =>
  (C88 xt ct O N x0 x1 H52).bind fun r113 =>
  tc (fun z => z) r113 fun v116 =>
  some (.inl v116, r113.2)
theorem J85_58_ok {xt : mj_X} {ct : Nat → Value} {O : OR} {d N : Nat} (hct : ct 0 = .int 1) (hO : oOK xt ct d O) {l : mj_L} {x0 : Nat} {x1 : Int32} {x2 : Int32} {s0 : Int32} {s1 : Nat} {H : mj_H} {q : ((Option Nat) ⊕ Nat) × mj_H} (f0 : mj_ld l 0 = some (.ref x0)) (f1 : mj_ld l 1 = some (.int x1)) (f2 : mj_ld l 2 = some (.int x2)) (e : J85_58 xt ct O N x0 x1 x2 s0 s1 H = some q) : mj_Run kY xt ct (d + 6) 85 58 l [.int s0, .ref s1] H (tT vO q.1, q.2) := by
  unfold J85_58 at e
  exact (
  r_aloadn c85_58 f0 <|
  t_bd e fun r30 c31 e32 =>
  c_gI c85_59 c31 <|
  t_bd e32 fun k33 c34 e35 =>
  t_bd e35 fun r36 c37 e38 =>
  t_tc e38 (fun v39 p40 e41 =>
    c_calT (f := vU) (p := r36) (st2 := []) (s_cv (as := [.ref s1, .int s0, .int r30]) (st' := []) c85_62 rfl (gK_ok c34) ⟨Nat.le_of_ble_eq_true rfl, Nat.le_of_ble_eq_true rfl, Nat.le_of_ble_eq_true rfl⟩ rfl rfl) (C87_ok hct hO c37) p40 (Nat.add_lt_add_left (by decide) d) rfl <|
    r_aloadn c85_65 f0 <|
    r_dup c85_66 rfl <|
    t_bd e41 fun r43 c44 e45 =>
    c_gI c85_67 c44 <|
    r_iconst c85_70 <|
    r_iadd c85_71 rfl <|
    t_bd e45 fun H46 c47 e48 =>
    c_uF c85_72 ⟨rfl, rfl⟩ c47 <|
    r_aloadn c85_75 f0 <|
    r_dup c85_76 rfl <|
    t_bd e48 fun r49 c50 e51 =>
    c_gI c85_77 c50 <|
    r_iconst c85_80 <|
    r_iadd c85_81 rfl <|
    t_bd e51 fun H52 c53 e54 =>
    c_uF c85_82 ⟨rfl, rfl⟩ c53 <|
    r_iloadn c85_85 f2 <|
    r_bipush c85_86 <|
    t_if e54 (fun b55 e56 =>
      r_icmpT c85_88 b55 <|
      r_iloadn c85_97 f2 <|
      r_bipush c85_98 <|
      t_if e56 (fun b57 e58 =>
        r_icmpT c85_100 b57 <|
        r_iloadn c85_109 f2 <|
        r_bipush c85_110 <|
        t_if e58 (fun b59 e60 =>
          r_icmpT c85_112 b59 <|
          J85_121_ok hct hO f0 f2 e60
        ) (fun b59 e60 =>
          r_icmpF c85_112 b59 <|
          r_aloadn c85_115 f0 <|
          r_bipush c85_116 <|
          t_bd e60 fun k90 c91 e92 =>
          t_bd e92 fun r93 c94 e95 =>
          t_tc e95 (fun v96 p97 e98 =>
            c_calT (f := vU) (p := r93) (st2 := []) (s_cv (as := [.ref x0, .int 61]) (st' := []) c85_118 rfl (gK_ok c91) ⟨Nat.le_of_ble_eq_true rfl, Nat.le_of_ble_eq_true rfl, Nat.le_of_ble_eq_true rfl⟩ rfl rfl) (C94_ok hct hO c94) p97 (Nat.add_lt_add_left (by decide) d) rfl <|
            J85_121_ok hct hO f0 f2 e98
          ) (fun x99 p97 e98 =>
            (by cases e98; exact (c_thrT (f := vU) (p := r93) (s_cv (as := [.ref x0, .int 61]) (st' := []) c85_118 rfl (gK_ok c91) ⟨Nat.le_of_ble_eq_true rfl, Nat.le_of_ble_eq_true rfl, Nat.le_of_ble_eq_true rfl⟩ rfl rfl) (C94_ok hct hO c94) p97 (Nat.add_lt_add_left (by decide) d) nh85))
          )
        )
      ) (fun b57 e58 =>
        r_icmpF c85_100 b57 <|
        r_aloadn c85_103 f0 <|
        r_iloadn c85_104 f1 <|
        t_bd e58 fun k100 c101 e102 =>
        t_bd e102 fun r103 c104 e105 =>
        t_tc e105 (fun v106 p107 e108 =>
          c_calT (f := vO) (p := r103) (st2 := [rv v106]) (s_cv (as := [.ref x0, .int x1]) (st' := []) c85_105 rfl (gK_ok c101) ⟨Nat.le_of_ble_eq_true rfl, Nat.le_of_ble_eq_true rfl, Nat.le_of_ble_eq_true rfl⟩ rfl rfl) (C116_ok hct hO c104) p107 (Nat.add_lt_add_left (by decide) d) rfl <|
          (by cases e108; exact (c_arv (o := v106) c85_108))
        ) (fun x109 p107 e108 =>
          (by cases e108; exact (c_thrT (f := vO) (p := r103) (s_cv (as := [.ref x0, .int x1]) (st' := []) c85_105 rfl (gK_ok c101) ⟨Nat.le_of_ble_eq_true rfl, Nat.le_of_ble_eq_true rfl, Nat.le_of_ble_eq_true rfl⟩ rfl rfl) (C116_ok hct hO c104) p107 (Nat.add_lt_add_left (by decide) d) nh85))
        )
      )
    ) (fun b55 e56 =>
      r_icmpF c85_88 b55 <|
      r_aloadn c85_91 f0 <|
      r_iloadn c85_92 f1 <|
      t_bd e56 fun k110 c111 e112 =>
      t_bd e112 fun r113 c114 e115 =>
      t_tc e115 (fun v116 p117 e118 =>
        c_calT (f := vO) (p := r113) (st2 := [rv v116]) (s_cv (as := [.ref x0, .int x1]) (st' := []) c85_93 rfl (gK_ok c111) ⟨Nat.le_of_ble_eq_true rfl, Nat.le_of_ble_eq_true rfl, Nat.le_of_ble_eq_true rfl⟩ rfl rfl) (C88_ok hct hO c114) p117 (Nat.add_lt_add_left (by decide) d) rfl <|
        (by cases e118; exact (c_arv (o := v116) c85_96))
      ) (fun x119 p117 e118 =>
        (by cases e118; exact (c_thrT (f := vO) (p := r113) (s_cv (as := [.ref x0, .int x1]) (st' := []) c85_93 rfl (gK_ok c111) ⟨Nat.le_of_ble_eq_true rfl, Nat.le_of_ble_eq_true rfl, Nat.le_of_ble_eq_true rfl⟩ rfl rfl) (C88_ok hct hO c114) p117 (Nat.add_lt_add_left (by decide) d) nh85))
      )
    )
  ) (fun x42 p40 e41 =>
    (by cases e41; exact (c_thrT (f := vU) (p := r36) (s_cv (as := [.ref s1, .int s0, .int r30]) (st' := []) c85_62 rfl (gK_ok c34) ⟨Nat.le_of_ble_eq_true rfl, Nat.le_of_ble_eq_true rfl, Nat.le_of_ble_eq_true rfl⟩ rfl rfl) (C87_ok hct hO c37) p40 (Nat.add_lt_add_left (by decide) d) nh85))
  ))
def J85_36 (xt : mj_X) (ct : Nat → Value) (O : OR) (N : Nat) (x0 : Nat) (x1 : Int32) (x2 : Int32) (s0 : Int32) (s1 : Nat) (H : mj_H) : Option (((Option Nat) ⊕ Nat) × mj_H) :=
  (gI H x0 1 3).bind fun r12 =>
  (gK H s1 1).bind fun k15 =>
  (C87 xt ct O N s1 s0 r12 H).bind fun r18 =>
  tc (fun z => z) r18 fun v21 =>
  (gI r18.2 x0 1 4).bind fun r25 =>
  bif mj_c2 .ge r25 24 then
    J85_58 xt ct O N x0 x1 x2 0 x0 r18.2
  else
  J85_58 xt ct O N x0 x1 x2 1 x0 r18.2
theorem J85_36_ok {xt : mj_X} {ct : Nat → Value} {O : OR} {d N : Nat} (hct : ct 0 = .int 1) (hO : oOK xt ct d O) {l : mj_L} {x0 : Nat} {x1 : Int32} {x2 : Int32} {s0 : Int32} {s1 : Nat} {H : mj_H} {q : ((Option Nat) ⊕ Nat) × mj_H} (f0 : mj_ld l 0 = some (.ref x0)) (f1 : mj_ld l 1 = some (.int x1)) (f2 : mj_ld l 2 = some (.int x2)) (e : J85_36 xt ct O N x0 x1 x2 s0 s1 H = some q) : mj_Run kY xt ct (d + 6) 85 36 l [.int s0, .ref s1] H (tT vO q.1, q.2) := by
  unfold J85_36 at e
  exact (
  r_aloadn c85_36 f0 <|
  t_bd e fun r12 c13 e14 =>
  c_gI c85_37 c13 <|
  t_bd e14 fun k15 c16 e17 =>
  t_bd e17 fun r18 c19 e20 =>
  t_tc e20 (fun v21 p22 e23 =>
    c_calT (f := vU) (p := r18) (st2 := []) (s_cv (as := [.ref s1, .int s0, .int r12]) (st' := []) c85_40 rfl (gK_ok c16) ⟨Nat.le_of_ble_eq_true rfl, Nat.le_of_ble_eq_true rfl, Nat.le_of_ble_eq_true rfl⟩ rfl rfl) (C87_ok hct hO c19) p22 (Nat.add_lt_add_left (by decide) d) rfl <|
    r_aloadn c85_43 f0 <|
    r_aloadn c85_44 f0 <|
    t_bd e23 fun r25 c26 e27 =>
    c_gI c85_45 c26 <|
    r_bipush c85_48 <|
    t_if e27 (fun b28 e29 =>
      r_icmpT c85_50 b28 <|
      r_iconst c85_57 <|
      J85_58_ok hct hO f0 f1 f2 e29
    ) (fun b28 e29 =>
      r_icmpF c85_50 b28 <|
      r_iconst c85_53 <|
      r_goto c85_54 <|
      J85_58_ok hct hO f0 f1 f2 e29
    )
  ) (fun x24 p22 e23 =>
    (by cases e23; exact (c_thrT (f := vU) (p := r18) (s_cv (as := [.ref s1, .int s0, .int r12]) (st' := []) c85_40 rfl (gK_ok c16) ⟨Nat.le_of_ble_eq_true rfl, Nat.le_of_ble_eq_true rfl, Nat.le_of_ble_eq_true rfl⟩ rfl rfl) (C87_ok hct hO c19) p22 (Nat.add_lt_add_left (by decide) d) nh85))
  ))
def J85_31 (xt : mj_X) (ct : Nat → Value) (O : OR) (N : Nat) (x0 : Nat) (x1 : Int32) (x2 : Int32) (s0 : Nat) (H : mj_H) : Option (((Option Nat) ⊕ Nat) × mj_H) :=
  J85_36 xt ct O N x0 x1 x2 1 s0 H
theorem J85_31_ok {xt : mj_X} {ct : Nat → Value} {O : OR} {d N : Nat} (hct : ct 0 = .int 1) (hO : oOK xt ct d O) {l : mj_L} {x0 : Nat} {x1 : Int32} {x2 : Int32} {s0 : Nat} {H : mj_H} {q : ((Option Nat) ⊕ Nat) × mj_H} (f0 : mj_ld l 0 = some (.ref x0)) (f1 : mj_ld l 1 = some (.int x1)) (f2 : mj_ld l 2 = some (.int x2)) (e : J85_31 xt ct O N x0 x1 x2 s0 H = some q) : mj_Run kY xt ct (d + 6) 85 31 l [.ref s0] H (tT vO q.1, q.2) := by
  unfold J85_31 at e
  exact (
  r_iconst c85_31 <|
  r_goto c85_32 <|
  J85_36_ok hct hO f0 f1 f2 e)
/-- DiceOdds$Parser.statement(I)LDiceOdds$Statement; -/
def C85 (xt : mj_X) (ct : Nat → Value) (O : OR) (N : Nat) (x0 : Nat) (x1 : Int32) (H : mj_H) : Option (((Option Nat) ⊕ Nat) × mj_H) :=
  (gK H x0 1).bind fun k1 =>
  (C84 xt ct O N x0 H).bind fun r4 =>
  (C86 xt ct O N r4.1 r4.2).bind fun r7 =>
  bif mj_c1 .ne r7.1 then
    J85_31 xt ct O N x0 x1 r4.1 x0 r7.2
  else
  bif mj_c2 .eq r4.1 33 then
    J85_31 xt ct O N x0 x1 r4.1 x0 r7.2
  else
  bif mj_c2 .eq r4.1 63 then
    J85_31 xt ct O N x0 x1 r4.1 x0 r7.2
  else
  bif mj_c2 .ne r4.1 42 then
    J85_36 xt ct O N x0 x1 r4.1 0 x0 r7.2
  else
  J85_31 xt ct O N x0 x1 r4.1 x0 r7.2
theorem C85_ok {xt : mj_X} {ct : Nat → Value} {O : OR} {d N : Nat} (hct : ct 0 = .int 1) (hO : oOK xt ct d O) {x0 : Nat} {x1 : Int32} {H : mj_H} {q : ((Option Nat) ⊕ Nat) × mj_H} (e : C85 xt ct O N x0 x1 H = some q) : mj_Run kY xt ct (d + 6) 85 0 (lv_args 0 [.ref x0, .int x1]) [] H (tT vO q.1, q.2) := by
  unfold C85 at e
  exact (
  r_aloadn c85_0 rfl <|
  t_bd e fun k1 c2 e3 =>
  t_bd e3 fun r4 c5 e6 =>
  c_cal (st2 := [.int r4.1]) (s_cv (as := [.ref x0]) (st' := []) c85_1 rfl (gK_ok c2) ⟨Nat.le_of_ble_eq_true rfl, Nat.le_of_ble_eq_true rfl, Nat.le_of_ble_eq_true rfl⟩ rfl rfl) (C84_ok hct hO c5) (Nat.add_lt_add_left (by decide) d) rfl <|
  r_istoren c85_4 <|
  r_aloadn c85_5 (ld1_ne rfl (by decide) (Or.inl (by decide))) <|
  r_iloadn c85_6 ld1_eq <|
  t_bd e6 fun r7 c8 e9 =>
  c_cal (st2 := [.int r7.1, .ref x0]) (s_cs (as := [.int r4.1]) (st' := [.ref x0]) c85_7 ⟨Nat.le_of_ble_eq_true rfl, Nat.le_of_ble_eq_true rfl, Nat.le_of_ble_eq_true rfl⟩ rfl rfl) (C86_ok hct hO c8) (Nat.add_lt_add_left (by decide) d) rfl <|
  t_if e9 (fun b10 e11 =>
    r_ifT c85_10 b10 <|
    J85_31_ok hct hO (ld1_ne rfl (by decide) (Or.inl (by decide))) (ld1_ne rfl (by decide) (Or.inr rfl)) ld1_eq e11
  ) (fun b10 e11 =>
    r_ifF c85_10 b10 <|
    r_iloadn c85_13 ld1_eq <|
    r_bipush c85_14 <|
    t_if e11 (fun b120 e121 =>
      r_icmpT c85_16 b120 <|
      J85_31_ok hct hO (ld1_ne rfl (by decide) (Or.inl (by decide))) (ld1_ne rfl (by decide) (Or.inr rfl)) ld1_eq e121
    ) (fun b120 e121 =>
      r_icmpF c85_16 b120 <|
      r_iloadn c85_19 ld1_eq <|
      r_bipush c85_20 <|
      t_if e121 (fun b122 e123 =>
        r_icmpT c85_22 b122 <|
        J85_31_ok hct hO (ld1_ne rfl (by decide) (Or.inl (by decide))) (ld1_ne rfl (by decide) (Or.inr rfl)) ld1_eq e123
      ) (fun b122 e123 =>
        r_icmpF c85_22 b122 <|
        r_iloadn c85_25 ld1_eq <|
        r_bipush c85_26 <|
        t_if e123 (fun b124 e125 =>
          r_icmpT c85_28 b124 <|
          r_iconst c85_35 <|
          J85_36_ok hct hO (ld1_ne rfl (by decide) (Or.inl (by decide))) (ld1_ne rfl (by decide) (Or.inr rfl)) ld1_eq e125
        ) (fun b124 e125 =>
          r_icmpF c85_28 b124 <|
          J85_31_ok hct hO (ld1_ne rfl (by decide) (Or.inl (by decide))) (ld1_ne rfl (by decide) (Or.inr rfl)) ld1_eq e125
        )
      )
    )
  ))
def LG83_7 (xt : mj_X) (ct : Nat → Value) (d : Nat) (q : ((Option Nat) ⊕ Nat) × mj_H) (x0 : Nat) (x1 : Int32) (x2 : Option Nat) (x3 : Option Nat) (x4 : Int32) (H : mj_H) : Prop := ∀ l, mj_ld l 0 = some (.ref x0) → mj_ld l 1 = some (.int x1) → mj_ld l 2 = some (rv x2) → mj_ld l 3 = some (rv x3) → mj_ld l 4 = some (.int x4) → mj_Run kY xt ct (d + 7) 83 7 l [] H (tT vO q.1, q.2)
def GG83_7 (xt : mj_X) (ct : Nat → Value) (d : Nat) (q : ((Option Nat) ⊕ Nat) × mj_H) (o : (Nat × Int32 × (Option Nat) × (Option Nat) × Int32 × mj_H) ⊕ (((Option Nat) ⊕ Nat) × mj_H)) : Prop := match o with
  | .inl (x0, x1, x2, x3, x4, H) => LG83_7 xt ct d q x0 x1 x2 x3 x4 H
  | .inr r => r = q
def J83_62 (xt : mj_X) (ct : Nat → Value) (O : OR) (N : Nat) (x2 : Option Nat) (H : mj_H) : Option (((Option Nat) ⊕ Nat) × mj_H) :=
  some (.inl x2, H)
theorem J83_62_ok {xt : mj_X} {ct : Nat → Value} {O : OR} {d N : Nat} (hct : ct 0 = .int 1) (hO : oOK xt ct d O) {l : mj_L} {x2 : Option Nat} {H : mj_H} {q : ((Option Nat) ⊕ Nat) × mj_H} (f2 : mj_ld l 2 = some (rv x2)) (e : J83_62 xt ct O N x2 H = some q) : mj_Run kY xt ct (d + 7) 83 62 l [] H (tT vO q.1, q.2) := by
  unfold J83_62 at e
  exact (
  c_alvn f2 c83_62 <|
  (by cases e; exact (c_arv (o := x2) c83_63)))
def J83_53 (xt : mj_X) (ct : Nat → Value) (O : OR) (N : Nat) (x0 : Nat) (x1 : Int32) (x2 : Option Nat) (x4 : Int32) (x5 : Option Nat) (H : mj_H) : Option ((Nat × Int32 × (Option Nat) × (Option Nat) × Int32 × mj_H) ⊕ (((Option Nat) ⊕ Nat) × mj_H)) :=
  some (.inl (x0, x1, x2, x5, (x4 + 1), H))
theorem J83_53_ok {xt : mj_X} {ct : Nat → Value} {O : OR} {d N : Nat} (hct : ct 0 = .int 1) (hO : oOK xt ct d O) {l : mj_L} {x0 : Nat} {x1 : Int32} {x2 : Option Nat} {x4 : Int32} {x5 : Option Nat} {H : mj_H} {o : (Nat × Int32 × (Option Nat) × (Option Nat) × Int32 × mj_H) ⊕ (((Option Nat) ⊕ Nat) × mj_H)} {q : ((Option Nat) ⊕ Nat) × mj_H} (f0 : mj_ld l 0 = some (.ref x0)) (f1 : mj_ld l 1 = some (.int x1)) (f2 : mj_ld l 2 = some (rv x2)) (f4 : mj_ld l 4 = some (.int x4)) (f5 : mj_ld l 5 = some (rv x5)) (e : J83_53 xt ct O N x0 x1 x2 x4 x5 H = some o) (g : GG83_7 xt ct d q o) : mj_Run kY xt ct (d + 7) 83 53 l [] H (tT vO q.1, q.2) := by
  unfold J83_53 at e
  exact (
  c_alv f5 c83_53 <|
  c_asvn (o := x5) c83_55 <|
  r_iinc c83_56 (ld1_ne f4 (by decide) (Or.inl (by decide))) <|
  r_goto c83_59 <|
  t_rg e g (fun (z : LG83_7 xt ct d q x0 x1 x2 x5 (x4 + 1) H) => z _ (ld1_ne (ld1_ne f0 (by decide) (Or.inl (by decide))) (by decide) (Or.inl (by decide))) (ld1_ne (ld1_ne f1 (by decide) (Or.inl (by decide))) (by decide) (Or.inl (by decide))) (ld1_ne (ld1_ne f2 (by decide) (Or.inr (rv_cat _))) (by decide) (Or.inl (by decide))) (ld1_ne ld1_eq (by decide) (Or.inr (rv_cat _))) ld1_eq))
def B83_7 (xt : mj_X) (ct : Nat → Value) (O : OR) (N : Nat) (s : Nat × Int32 × (Option Nat) × (Option Nat) × Int32 × mj_H) : Option ((Nat × Int32 × (Option Nat) × (Option Nat) × Int32 × mj_H) ⊕ (((Option Nat) ⊕ Nat) × mj_H)) :=
  bif mj_c2 .gt s.2.2.2.2.1 24 then
    (J83_62 xt ct O N s.2.2.1 s.2.2.2.2.2).map Sum.inr
  else
  (gK s.2.2.2.2.2 s.1 1).bind fun k7 =>
  (C84 xt ct O N s.1 s.2.2.2.2.2).bind fun r10 =>
  bif mj_c1 .eq r10.1 then
    (J83_62 xt ct O N s.2.2.1 r10.2).map Sum.inr
  else
  (gK r10.2 s.1 1).bind fun k19 =>
  (C84 xt ct O N s.1 r10.2).bind fun r22 =>
  bif mj_c2 .eq r22.1 125 then
    (J83_62 xt ct O N s.2.2.1 r22.2).map Sum.inr
  else
  (gK r22.2 s.1 1).bind fun k31 =>
  (C85 xt ct O N s.1 s.2.1 r22.2).bind fun r34 =>
  tc (fun z => (.inr z)) r34 fun v37 =>
  bif !(Option.isNone s.2.2.2.1) then
    (s.2.2.2.1).bind fun a43 =>
    (uF r34.2 a43 11 8 (rv v37)).bind fun H46 =>
    J83_53 xt ct O N s.1 s.2.1 s.2.2.1 s.2.2.2.2.1 v37 H46
  else
  J83_53 xt ct O N s.1 s.2.1 v37 s.2.2.2.2.1 v37 r34.2
def L83_7 (xt : mj_X) (ct : Nat → Value) (O : OR) (N : Nat) (s : Nat × Int32 × (Option Nat) × (Option Nat) × Int32 × mj_H) : Option (((Option Nat) ⊕ Nat) × mj_H) := t_lp (B83_7 xt ct O N) N s
theorem B83_7_ok {xt : mj_X} {ct : Nat → Value} {O : OR} {d N : Nat} (hct : ct 0 = .int 1) (hO : oOK xt ct d O) {s : Nat × Int32 × (Option Nat) × (Option Nat) × Int32 × mj_H} {o : (Nat × Int32 × (Option Nat) × (Option Nat) × Int32 × mj_H) ⊕ (((Option Nat) ⊕ Nat) × mj_H)} {q : ((Option Nat) ⊕ Nat) × mj_H} (e : B83_7 xt ct O N s = some o) (g : GG83_7 xt ct d q o) : LG83_7 xt ct d q s.1 s.2.1 s.2.2.1 s.2.2.2.1 s.2.2.2.2.1 s.2.2.2.2.2 := by
  unfold B83_7 at e
  exact (fun l f0 f1 f2 f3 f4 =>
  r_iload c83_7 f4 <|
  r_bipush c83_9 <|
  t_if e (fun b1 e2 =>
    r_icmpT c83_11 b1 <|
    t_up e2 fun o3 e4 u5 =>
    (fun (g6 : o3 = q) =>
    by subst g6; exact (J83_62_ok hct hO f2 e4)
    ) (by have := g; rw [u5] at this; exact this)
  ) (fun b1 e2 =>
    r_icmpF c83_11 b1 <|
    r_aloadn c83_14 f0 <|
    t_bd e2 fun k7 c8 e9 =>
    t_bd e9 fun r10 c11 e12 =>
    c_cal (st2 := [.int r10.1]) (s_cv (as := [.ref s.1]) (st' := []) c83_15 rfl (gK_ok c8) ⟨Nat.le_of_ble_eq_true rfl, Nat.le_of_ble_eq_true rfl, Nat.le_of_ble_eq_true rfl⟩ rfl rfl) (C84_ok hct hO c11) (Nat.add_lt_add_left (by decide) d) rfl <|
    t_if e12 (fun b13 e14 =>
      r_ifT c83_18 b13 <|
      t_up e14 fun o15 e16 u17 =>
      (fun (g18 : o15 = q) =>
      by subst g18; exact (J83_62_ok hct hO f2 e16)
      ) (by have := g; rw [u17] at this; exact this)
    ) (fun b13 e14 =>
      r_ifF c83_18 b13 <|
      r_aloadn c83_21 f0 <|
      t_bd e14 fun k19 c20 e21 =>
      t_bd e21 fun r22 c23 e24 =>
      c_cal (st2 := [.int r22.1]) (s_cv (as := [.ref s.1]) (st' := []) c83_22 rfl (gK_ok c20) ⟨Nat.le_of_ble_eq_true rfl, Nat.le_of_ble_eq_true rfl, Nat.le_of_ble_eq_true rfl⟩ rfl rfl) (C84_ok hct hO c23) (Nat.add_lt_add_left (by decide) d) rfl <|
      r_bipush c83_25 <|
      t_if e24 (fun b25 e26 =>
        r_icmpT c83_27 b25 <|
        t_up e26 fun o27 e28 u29 =>
        (fun (g30 : o27 = q) =>
        by subst g30; exact (J83_62_ok hct hO f2 e28)
        ) (by have := g; rw [u29] at this; exact this)
      ) (fun b25 e26 =>
        r_icmpF c83_27 b25 <|
        r_aloadn c83_30 f0 <|
        r_iloadn c83_31 f1 <|
        t_bd e26 fun k31 c32 e33 =>
        t_bd e33 fun r34 c35 e36 =>
        t_tc e36 (fun v37 p38 e39 =>
          c_calT (f := vO) (p := r34) (st2 := [rv v37]) (s_cv (as := [.ref s.1, .int s.2.1]) (st' := []) c83_32 rfl (gK_ok c32) ⟨Nat.le_of_ble_eq_true rfl, Nat.le_of_ble_eq_true rfl, Nat.le_of_ble_eq_true rfl⟩ rfl rfl) (C85_ok hct hO c35) p38 (Nat.add_lt_add_left (by decide) d) rfl <|
          c_asv (o := v37) c83_35 <|
          c_alvn (ld1_ne f3 (by decide) (Or.inl (by decide))) c83_37 <|
          t_if e39 (fun b41 e42 =>
            c_nnl c83_38 (b_nt b41) <|
            c_alvn (ld1_ne f3 (by decide) (Or.inl (by decide))) c83_47 <|
            c_alv ld1_eq c83_48 <|
            t_bd e42 fun a43 n44 e45 =>
            c_at (st2 := [rv v37, .ref a43]) (by rw [n44]) <|
            t_bd e45 fun H46 c47 e48 =>
            c_uF c83_50 (rv_fo _ _) c47 <|
            J83_53_ok hct hO (ld1_ne f0 (by decide) (Or.inl (by decide))) (ld1_ne f1 (by decide) (Or.inl (by decide))) (ld1_ne f2 (by decide) (Or.inl (by decide))) (ld1_ne f4 (by decide) (Or.inr rfl)) ld1_eq e48 g
          ) (fun b41 e42 =>
            c_nnf c83_38 (b_nf b41) <|
            c_alv ld1_eq c83_41 <|
            c_asvn (o := v37) c83_43 <|
            r_goto c83_44 <|
            J83_53_ok hct hO (ld1_ne (ld1_ne f0 (by decide) (Or.inl (by decide))) (by decide) (Or.inl (by decide))) (ld1_ne (ld1_ne f1 (by decide) (Or.inl (by decide))) (by decide) (Or.inr rfl)) ld1_eq (ld1_ne (ld1_ne f4 (by decide) (Or.inr rfl)) (by decide) (Or.inl (by decide))) (ld1_ne ld1_eq (by decide) (Or.inl (by decide))) e42 g
          )
        ) (fun x40 p38 e39 =>
          t_rg e39 g (fun (z : (Sum.inr x40, r34.2) = q) => (by cases z; exact (c_thrT (f := vO) (p := r34) (s_cv (as := [.ref s.1, .int s.2.1]) (st' := []) c83_32 rfl (gK_ok c32) ⟨Nat.le_of_ble_eq_true rfl, Nat.le_of_ble_eq_true rfl, Nat.le_of_ble_eq_true rfl⟩ rfl rfl) (C85_ok hct hO c35) p38 (Nat.add_lt_add_left (by decide) d) nh83)))
        )
      )
    )
  ))
theorem L83_7_ok {xt : mj_X} {ct : Nat → Value} {O : OR} {d N : Nat} (hct : ct 0 = .int 1) (hO : oOK xt ct d O) {x0 : Nat} {x1 : Int32} {x2 : Option Nat} {x3 : Option Nat} {x4 : Int32} {H : mj_H} {q : ((Option Nat) ⊕ Nat) × mj_H} (e : L83_7 xt ct O N (x0, x1, x2, x3, x4, H) = some q) : LG83_7 xt ct d q x0 x1 x2 x3 x4 H :=
  t_lp_ok (G := fun s => LG83_7 xt ct d q s.1 s.2.1 s.2.2.1 s.2.2.2.1 s.2.2.2.2.1 s.2.2.2.2.2) (fun s s' e g => B83_7_ok hct hO e (by obtain ⟨_, _, _, _, _, _⟩ := s'; exact g)) (fun s e => B83_7_ok hct hO e rfl) N (x0, x1, x2, x3, x4, H) e
/-- DiceOdds$Parser.program(I)LDiceOdds$Statement; -/
def C83 (xt : mj_X) (ct : Nat → Value) (O : OR) (N : Nat) (x0 : Nat) (x1 : Int32) (H : mj_H) : Option (((Option Nat) ⊕ Nat) × mj_H) :=
  L83_7 xt ct O N (x0, x1, none, none, 0, H)
theorem C83_ok {xt : mj_X} {ct : Nat → Value} {O : OR} {d N : Nat} (hct : ct 0 = .int 1) (hO : oOK xt ct d O) {x0 : Nat} {x1 : Int32} {H : mj_H} {q : ((Option Nat) ⊕ Nat) × mj_H} (e : C83 xt ct O N x0 x1 H = some q) : mj_Run kY xt ct (d + 7) 83 0 (lv_args 0 [.ref x0, .int x1]) [] H (tT vO q.1, q.2) := by
  unfold C83 at e
  exact (
  c_nll c83_0 <|
  c_asvn (o := none) c83_1 <|
  c_nll c83_2 <|
  c_asvn (o := none) c83_3 <|
  r_iconst c83_4 <|
  r_istore c83_5 <|
  L83_7_ok hct hO e _ (ld1_ne (ld1_ne (ld1_ne rfl (by decide) (Or.inl (by decide))) (by decide) (Or.inl (by decide))) (by decide) (Or.inl (by decide))) (ld1_ne (ld1_ne (ld1_ne rfl (by decide) (Or.inr rfl)) (by decide) (Or.inl (by decide))) (by decide) (Or.inl (by decide))) (ld1_ne (ld1_ne ld1_eq (by decide) (Or.inr (rv_cat _))) (by decide) (Or.inl (by decide))) (ld1_ne ld1_eq (by decide) (Or.inr (rv_cat _))) ld1_eq)
/-- DiceOdds$Operation.<init>(CLDiceOdds$Expression;LDiceOdds$Expression;)V -/
def C109 (xt : mj_X) (ct : Nat → Value) (O : OR) (N : Nat) (x0 : Nat) (x1 : Int32) (x2 : Nat) (x3 : Nat) (H : mj_H) : Option (mj_H) :=
  (gFp H x2 df).bind fun r1 =>
  (gFp H x3 df).bind fun r4 =>
  (C102 xt ct O N r1 r4 H).bind fun r7 =>
  (gC r7.2 x0).bind fun k10 =>
  (C92 xt ct O N x0 r7.1 r7.2).bind fun r13 =>
  if narrow .char (.int x1) = .int x1 ∧ fits .char (.int x1) = true then
  (uF r13 x0 10 0 (.int x1)).bind fun H18 =>
  (uF H18 x0 10 1 (.ref x2)).bind fun H21 =>
  (uF H21 x0 10 2 (.ref x3)).bind fun H24 =>
  some H24
  else none
theorem C109_ok {xt : mj_X} {ct : Nat → Value} {O : OR} {d N : Nat} (hct : ct 0 = .int 1) (hO : oOK xt ct d O) {x0 : Nat} {x1 : Int32} {x2 : Nat} {x3 : Nat} {H : mj_H} {q : mj_H} (e : C109 xt ct O N x0 x1 x2 x3 H = some q) : mj_Run kY xt ct (d + 3) 109 0 (lv_args 0 [.ref x0, .int x1, .ref x2, .ref x3]) [] H (.inl none, q) := by
  unfold C109 at e
  exact (
  r_aloadn c109_0 rfl <|
  r_aloadn c109_1 rfl <|
  t_bd e fun r1 c2 e3 =>
  c_gFp (ty := .long) (w := false) c109_2 c109_2_t c2 <|
  r_aloadn c109_5 rfl <|
  t_bd e3 fun r4 c5 e6 =>
  c_gFp (ty := .long) (w := false) c109_6 c109_6_t c5 <|
  t_bd e6 fun r7 c8 e9 =>
  c_cal (st2 := [.long r7.1, .ref x0]) (s_cs (as := [.long r1, .long r4]) (st' := [.ref x0]) c109_9 ⟨Nat.le_of_ble_eq_true rfl, Nat.le_of_ble_eq_true rfl, Nat.le_of_ble_eq_true rfl⟩ rfl rfl) (C102_ok hct hO c8) (Nat.add_lt_add_left (by decide) d) rfl <|
  t_bd e9 fun k10 c11 e12 =>
  t_bd e12 fun r13 c14 e15 =>
  c_cal (st2 := []) (s_cp (as := [.ref x0, .long r7.1]) (st' := []) c109_12 rfl c11 ⟨Nat.le_of_ble_eq_true rfl, Nat.le_of_ble_eq_true rfl, Nat.le_of_ble_eq_true rfl⟩ rfl rfl) (C92_ok hct hO c14) (Nat.add_lt_add_left (by decide) d) rfl <|
  r_aloadn c109_15 rfl <|
  r_iloadn c109_16 rfl <|
  t_ck e15 fun z16 e17 =>
  t_bd e17 fun H18 c19 e20 =>
  c_uF c109_17 z16 c19 <|
  r_aloadn c109_20 rfl <|
  r_aloadn c109_21 rfl <|
  t_bd e20 fun H21 c22 e23 =>
  c_uF c109_22 ⟨rfl, rfl⟩ c22 <|
  r_aloadn c109_25 rfl <|
  r_aloadn c109_26 rfl <|
  t_bd e23 fun H24 c25 e26 =>
  c_uF c109_27 ⟨rfl, rfl⟩ c25 <|
  (by cases e26; exact (r_ret c109_30)))
def LG89_35 (xt : mj_X) (ct : Nat → Value) (d : Nat) (q : ((Nat) ⊕ Nat) × mj_H) (x0 : Nat) (x1 : Int32) (x2 : Int32) (x3 : Nat) (x4 : Int32) (x5 : Int32) (H : mj_H) : Prop := ∀ l, mj_ld l 0 = some (.ref x0) → mj_ld l 1 = some (.int x1) → mj_ld l 2 = some (.int x2) → mj_ld l 3 = some (.ref x3) → mj_ld l 4 = some (.int x4) → mj_ld l 5 = some (.int x5) → mj_Run kY xt ct (d + 4) 89 35 l [] H (tT vA q.1, q.2)
def GG89_35 (xt : mj_X) (ct : Nat → Value) (d : Nat) (q : ((Nat) ⊕ Nat) × mj_H) (o : (Nat × Int32 × Int32 × Nat × Int32 × Int32 × mj_H) ⊕ (((Nat) ⊕ Nat) × mj_H)) : Prop := match o with
  | .inl (x0, x1, x2, x3, x4, x5, H) => LG89_35 xt ct d q x0 x1 x2 x3 x4 x5 H
  | .inr r => r = q
def J89_94 (xt : mj_X) (ct : Nat → Value) (O : OR) (N : Nat) (x3 : Nat) (H : mj_H) : Option (((Nat) ⊕ Nat) × mj_H) :=
  some (.inl x3, H)
theorem J89_94_ok {xt : mj_X} {ct : Nat → Value} {O : OR} {d N : Nat} (hct : ct 0 = .int 1) (hO : oOK xt ct d O) {l : mj_L} {x3 : Nat} {H : mj_H} {q : ((Nat) ⊕ Nat) × mj_H} (f3 : mj_ld l 3 = some (.ref x3)) (e : J89_94 xt ct O N x3 H = some q) : mj_Run kY xt ct (d + 4) 89 94 l [] H (tT vA q.1, q.2) := by
  unfold J89_94 at e
  exact (
  r_aloadn c89_94 f3 <|
  (by cases e; exact (r_aret c89_95)))
def B89_35 (xt : mj_X) (ct : Nat → Value) (O : OR) (N : Nat) (s : Nat × Int32 × Int32 × Nat × Int32 × Int32 × mj_H) : Option ((Nat × Int32 × Int32 × Nat × Int32 × Int32 × mj_H) ⊕ (((Nat) ⊕ Nat) × mj_H)) :=
  bif mj_c2 .ge s.2.2.2.2.2.1 s.2.2.2.2.1 then
    (J89_94 xt ct O N s.2.2.2.1 s.2.2.2.2.2.2).map Sum.inr
  else
  (gK s.2.2.2.2.2.2 s.1 1).bind fun k21 =>
  (C84 xt ct O N s.1 s.2.2.2.2.2.2).bind fun r24 =>
  (C108 xt ct O N r24.1 r24.2).bind fun r27 =>
  bif mj_c2 .ne r27.1 s.2.1 then
    (J89_94 xt ct O N s.2.2.2.1 r27.2).map Sum.inr
  else
  (gK r27.2 s.1 1).bind fun k36 =>
  (C84 xt ct O N s.1 r27.2).bind fun r39 =>
  (gI r39.2 s.1 1 3).bind fun r42 =>
  (uF r39.2 s.1 1 3 (.int (r42 + 1))).bind fun H45 =>
  (nO H45 10 4 [.int 0, .null, .null, .long 0]).bind fun r48 =>
  (gK r48.2 s.1 1).bind fun k51 =>
  (O.2.1 s.1 (s.2.1 + 1) s.2.2.1 r48.2).bind fun r54 =>
  tc (fun z => (.inr z)) r54 fun v57 =>
  (gC r54.2 r48.1).bind fun k61 =>
  (C109 xt ct O N r48.1 r39.1 s.2.2.2.1 v57 r54.2).bind fun r64 =>
  some (.inl (s.1, s.2.1, s.2.2.1, r48.1, s.2.2.2.2.1, (s.2.2.2.2.2.1 + 1), r64))
def L89_35 (xt : mj_X) (ct : Nat → Value) (O : OR) (N : Nat) (s : Nat × Int32 × Int32 × Nat × Int32 × Int32 × mj_H) : Option (((Nat) ⊕ Nat) × mj_H) := t_lp (B89_35 xt ct O N) N s
theorem B89_35_ok {xt : mj_X} {ct : Nat → Value} {O : OR} {d N : Nat} (hct : ct 0 = .int 1) (hO : oOK xt ct d O) {s : Nat × Int32 × Int32 × Nat × Int32 × Int32 × mj_H} {o : (Nat × Int32 × Int32 × Nat × Int32 × Int32 × mj_H) ⊕ (((Nat) ⊕ Nat) × mj_H)} {q : ((Nat) ⊕ Nat) × mj_H} (e : B89_35 xt ct O N s = some o) (g : GG89_35 xt ct d q o) : LG89_35 xt ct d q s.1 s.2.1 s.2.2.1 s.2.2.2.1 s.2.2.2.2.1 s.2.2.2.2.2.1 s.2.2.2.2.2.2 := by
  unfold B89_35 at e
  exact (fun l f0 f1 f2 f3 f4 f5 =>
  r_iload c89_35 f5 <|
  r_iload c89_37 f4 <|
  t_if e (fun b15 e16 =>
    r_icmpT c89_39 b15 <|
    t_up e16 fun o17 e18 u19 =>
    (fun (g20 : o17 = q) =>
    by subst g20; exact (J89_94_ok hct hO f3 e18)
    ) (by have := g; rw [u19] at this; exact this)
  ) (fun b15 e16 =>
    r_icmpF c89_39 b15 <|
    r_aloadn c89_42 f0 <|
    t_bd e16 fun k21 c22 e23 =>
    t_bd e23 fun r24 c25 e26 =>
    c_cal (st2 := [.int r24.1]) (s_cv (as := [.ref s.1]) (st' := []) c89_43 rfl (gK_ok c22) ⟨Nat.le_of_ble_eq_true rfl, Nat.le_of_ble_eq_true rfl, Nat.le_of_ble_eq_true rfl⟩ rfl rfl) (C84_ok hct hO c25) (Nat.add_lt_add_left (by decide) d) rfl <|
    t_bd e26 fun r27 c28 e29 =>
    c_cal (st2 := [.int r27.1]) (s_cs (as := [.int r24.1]) (st' := []) c89_46 ⟨Nat.le_of_ble_eq_true rfl, Nat.le_of_ble_eq_true rfl, Nat.le_of_ble_eq_true rfl⟩ rfl rfl) (C108_ok hct hO c28) (Nat.add_lt_add_left (by decide) d) rfl <|
    r_iloadn c89_49 f1 <|
    t_if e29 (fun b30 e31 =>
      r_icmpT c89_50 b30 <|
      t_up e31 fun o32 e33 u34 =>
      (fun (g35 : o32 = q) =>
      by subst g35; exact (J89_94_ok hct hO f3 e33)
      ) (by have := g; rw [u34] at this; exact this)
    ) (fun b30 e31 =>
      r_icmpF c89_50 b30 <|
      r_aloadn c89_53 f0 <|
      t_bd e31 fun k36 c37 e38 =>
      t_bd e38 fun r39 c40 e41 =>
      c_cal (st2 := [.int r39.1]) (s_cv (as := [.ref s.1]) (st' := []) c89_54 rfl (gK_ok c37) ⟨Nat.le_of_ble_eq_true rfl, Nat.le_of_ble_eq_true rfl, Nat.le_of_ble_eq_true rfl⟩ rfl rfl) (C84_ok hct hO c40) (Nat.add_lt_add_left (by decide) d) rfl <|
      r_istore c89_57 <|
      r_aloadn c89_59 (ld1_ne f0 (by decide) (Or.inl (by decide))) <|
      r_dup c89_60 rfl <|
      t_bd e41 fun r42 c43 e44 =>
      c_gI c89_61 c43 <|
      r_iconst c89_64 <|
      r_iadd c89_65 rfl <|
      t_bd e44 fun H45 c46 e47 =>
      c_uF c89_66 ⟨rfl, rfl⟩ c46 <|
      t_bd e47 fun r48 c49 e50 =>
      c_new c89_69 c49 <|
      r_dup c89_72 rfl <|
      r_iload c89_73 ld1_eq <|
      r_aloadn c89_75 (ld1_ne f3 (by decide) (Or.inl (by decide))) <|
      r_aloadn c89_76 (ld1_ne f0 (by decide) (Or.inl (by decide))) <|
      r_iloadn c89_77 (ld1_ne f1 (by decide) (Or.inl (by decide))) <|
      r_iconst c89_78 <|
      r_iadd c89_79 rfl <|
      r_iloadn c89_80 (ld1_ne f2 (by decide) (Or.inl (by decide))) <|
      t_bd e50 fun k51 c52 e53 =>
      t_bd e53 fun r54 c55 e56 =>
      t_tc e56 (fun v57 p58 e59 =>
        c_calT (f := vA) (p := r54) (st2 := [.ref v57, .ref s.2.2.2.1, .int r39.1, .ref r48.1, .ref r48.1]) (s_cv (as := [.ref s.1, .int (s.2.1 + 1), .int s.2.2.1]) (st' := [.ref s.2.2.2.1, .int r39.1, .ref r48.1, .ref r48.1]) c89_81 rfl (gK_ok c52) ⟨Nat.le_of_ble_eq_true rfl, Nat.le_of_ble_eq_true rfl, Nat.le_of_ble_eq_true rfl⟩ rfl rfl) (hO.2.1 _ _ _ _ _ c55) p58 (Nat.lt_add_of_pos_right (by decide)) rfl <|
        t_bd e59 fun k61 c62 e63 =>
        t_bd e63 fun r64 c65 e66 =>
        c_cal (st2 := [.ref r48.1]) (s_cp (as := [.ref r48.1, .int r39.1, .ref s.2.2.2.1, .ref v57]) (st' := [.ref r48.1]) c89_84 rfl c62 ⟨Nat.le_of_ble_eq_true rfl, Nat.le_of_ble_eq_true rfl, Nat.le_of_ble_eq_true rfl⟩ rfl rfl) (C109_ok hct hO c65) (Nat.add_lt_add_left (by decide) d) rfl <|
        r_astoren c89_87 <|
        r_iinc c89_88 (ld1_ne (ld1_ne f5 (by decide) (Or.inr rfl)) (by decide) (Or.inl (by decide))) <|
        r_goto c89_91 <|
        t_rg e66 g (fun (z : LG89_35 xt ct d q s.1 s.2.1 s.2.2.1 r48.1 s.2.2.2.2.1 (s.2.2.2.2.2.1 + 1) r64) => z _ (ld1_ne (ld1_ne (ld1_ne f0 (by decide) (Or.inl (by decide))) (by decide) (Or.inl (by decide))) (by decide) (Or.inl (by decide))) (ld1_ne (ld1_ne (ld1_ne f1 (by decide) (Or.inl (by decide))) (by decide) (Or.inl (by decide))) (by decide) (Or.inl (by decide))) (ld1_ne (ld1_ne (ld1_ne f2 (by decide) (Or.inl (by decide))) (by decide) (Or.inr rfl)) (by decide) (Or.inl (by decide))) (ld1_ne ld1_eq (by decide) (Or.inl (by decide))) (ld1_ne (ld1_ne (ld1_ne f4 (by decide) (Or.inl (by decide))) (by decide) (Or.inl (by decide))) (by decide) (Or.inr rfl)) ld1_eq)
      ) (fun x60 p58 e59 =>
        t_rg e59 g (fun (z : (Sum.inr x60, r54.2) = q) => (by cases z; exact (c_thrT (f := vA) (p := r54) (s_cv (as := [.ref s.1, .int (s.2.1 + 1), .int s.2.2.1]) (st' := [.ref s.2.2.2.1, .int r39.1, .ref r48.1, .ref r48.1]) c89_81 rfl (gK_ok c52) ⟨Nat.le_of_ble_eq_true rfl, Nat.le_of_ble_eq_true rfl, Nat.le_of_ble_eq_true rfl⟩ rfl rfl) (hO.2.1 _ _ _ _ _ c55) p58 (Nat.lt_add_of_pos_right (by decide)) nh89)))
      )
    )
  ))
theorem L89_35_ok {xt : mj_X} {ct : Nat → Value} {O : OR} {d N : Nat} (hct : ct 0 = .int 1) (hO : oOK xt ct d O) {x0 : Nat} {x1 : Int32} {x2 : Int32} {x3 : Nat} {x4 : Int32} {x5 : Int32} {H : mj_H} {q : ((Nat) ⊕ Nat) × mj_H} (e : L89_35 xt ct O N (x0, x1, x2, x3, x4, x5, H) = some q) : LG89_35 xt ct d q x0 x1 x2 x3 x4 x5 H :=
  t_lp_ok (G := fun s => LG89_35 xt ct d q s.1 s.2.1 s.2.2.1 s.2.2.2.1 s.2.2.2.2.1 s.2.2.2.2.2.1 s.2.2.2.2.2.2) (fun s s' e g => B89_35_ok hct hO e (by obtain ⟨_, _, _, _, _, _, _⟩ := s'; exact g)) (fun s e => B89_35_ok hct hO e rfl) N (x0, x1, x2, x3, x4, x5, H) e
def J89_30 (xt : mj_X) (ct : Nat → Value) (O : OR) (N : Nat) (x0 : Nat) (x1 : Int32) (x2 : Int32) (x3 : Nat) (s0 : Int32) (H : mj_H) : Option (((Nat) ⊕ Nat) × mj_H) :=
  L89_35 xt ct O N (x0, x1, x2, x3, s0, 0, H)
theorem J89_30_ok {xt : mj_X} {ct : Nat → Value} {O : OR} {d N : Nat} (hct : ct 0 = .int 1) (hO : oOK xt ct d O) {l : mj_L} {x0 : Nat} {x1 : Int32} {x2 : Int32} {x3 : Nat} {s0 : Int32} {H : mj_H} {q : ((Nat) ⊕ Nat) × mj_H} (f0 : mj_ld l 0 = some (.ref x0)) (f1 : mj_ld l 1 = some (.int x1)) (f2 : mj_ld l 2 = some (.int x2)) (f3 : mj_ld l 3 = some (.ref x3)) (e : J89_30 xt ct O N x0 x1 x2 x3 s0 H = some q) : mj_Run kY xt ct (d + 4) 89 30 l [.int s0] H (tT vA q.1, q.2) := by
  unfold J89_30 at e
  exact (
  r_istore c89_30 <|
  r_iconst c89_32 <|
  r_istore c89_33 <|
  L89_35_ok hct hO e _ (ld1_ne (ld1_ne f0 (by decide) (Or.inl (by decide))) (by decide) (Or.inl (by decide))) (ld1_ne (ld1_ne f1 (by decide) (Or.inl (by decide))) (by decide) (Or.inl (by decide))) (ld1_ne (ld1_ne f2 (by decide) (Or.inl (by decide))) (by decide) (Or.inl (by decide))) (ld1_ne (ld1_ne f3 (by decide) (Or.inr rfl)) (by decide) (Or.inl (by decide))) (ld1_ne ld1_eq (by decide) (Or.inr rfl)) ld1_eq)
/-- DiceOdds$Parser.expression(II)LDiceOdds$Expression; -/
def C89 (xt : mj_X) (ct : Nat → Value) (O : OR) (N : Nat) (x0 : Nat) (x1 : Int32) (x2 : Int32) (H : mj_H) : Option (((Nat) ⊕ Nat) × mj_H) :=
  bif mj_c2 .lt x1 3 then
    (gK H x0 1).bind fun k3 =>
    (O.2.1 x0 (x1 + 1) x2 H).bind fun r6 =>
    tc (fun z => z) r6 fun v9 =>
    bif mj_c1 .ne x1 then
      J89_30 xt ct O N x0 x1 x2 v9 40 r6.2
    else
    J89_30 xt ct O N x0 x1 x2 v9 1 r6.2
  else
  (gK H x0 1).bind fun k67 =>
  (O.2.2.1 x0 x2 H).bind fun r70 =>
  tc (fun z => z) r70 fun v73 =>
  some (.inl v73, r70.2)
theorem C89_ok {xt : mj_X} {ct : Nat → Value} {O : OR} {d N : Nat} (hct : ct 0 = .int 1) (hO : oOK xt ct d O) {x0 : Nat} {x1 : Int32} {x2 : Int32} {H : mj_H} {q : ((Nat) ⊕ Nat) × mj_H} (e : C89 xt ct O N x0 x1 x2 H = some q) : mj_Run kY xt ct (d + 4) 89 0 (lv_args 0 [.ref x0, .int x1, .int x2]) [] H (tT vA q.1, q.2) := by
  unfold C89 at e
  exact (
  r_iloadn c89_0 rfl <|
  r_iconst c89_1 <|
  t_if e (fun b1 e2 =>
    r_icmpT c89_2 b1 <|
    r_aloadn c89_11 rfl <|
    r_iloadn c89_12 rfl <|
    r_iconst c89_13 <|
    r_iadd c89_14 rfl <|
    r_iloadn c89_15 rfl <|
    t_bd e2 fun k3 c4 e5 =>
    t_bd e5 fun r6 c7 e8 =>
    t_tc e8 (fun v9 p10 e11 =>
      c_calT (f := vA) (p := r6) (st2 := [.ref v9]) (s_cv (as := [.ref x0, .int (x1 + 1), .int x2]) (st' := []) c89_16 rfl (gK_ok c4) ⟨Nat.le_of_ble_eq_true rfl, Nat.le_of_ble_eq_true rfl, Nat.le_of_ble_eq_true rfl⟩ rfl rfl) (hO.2.1 _ _ _ _ _ c7) p10 (Nat.lt_add_of_pos_right (by decide)) rfl <|
      r_astoren c89_19 <|
      r_iloadn c89_20 (ld1_ne rfl (by decide) (Or.inl (by decide))) <|
      t_if e11 (fun b13 e14 =>
        r_ifT c89_21 b13 <|
        r_bipush c89_28 <|
        J89_30_ok hct hO (ld1_ne rfl (by decide) (Or.inl (by decide))) (ld1_ne rfl (by decide) (Or.inl (by decide))) (ld1_ne rfl (by decide) (Or.inr rfl)) ld1_eq e14
      ) (fun b13 e14 =>
        r_ifF c89_21 b13 <|
        r_iconst c89_24 <|
        r_goto c89_25 <|
        J89_30_ok hct hO (ld1_ne rfl (by decide) (Or.inl (by decide))) (ld1_ne rfl (by decide) (Or.inl (by decide))) (ld1_ne rfl (by decide) (Or.inr rfl)) ld1_eq e14
      )
    ) (fun x12 p10 e11 =>
      (by cases e11; exact (c_thrT (f := vA) (p := r6) (s_cv (as := [.ref x0, .int (x1 + 1), .int x2]) (st' := []) c89_16 rfl (gK_ok c4) ⟨Nat.le_of_ble_eq_true rfl, Nat.le_of_ble_eq_true rfl, Nat.le_of_ble_eq_true rfl⟩ rfl rfl) (hO.2.1 _ _ _ _ _ c7) p10 (Nat.lt_add_of_pos_right (by decide)) nh89))
    )
  ) (fun b1 e2 =>
    r_icmpF c89_2 b1 <|
    r_aloadn c89_5 rfl <|
    r_iloadn c89_6 rfl <|
    t_bd e2 fun k67 c68 e69 =>
    t_bd e69 fun r70 c71 e72 =>
    t_tc e72 (fun v73 p74 e75 =>
      c_calT (f := vA) (p := r70) (st2 := [.ref v73]) (s_cv (as := [.ref x0, .int x2]) (st' := []) c89_7 rfl (gK_ok c68) ⟨Nat.le_of_ble_eq_true rfl, Nat.le_of_ble_eq_true rfl, Nat.le_of_ble_eq_true rfl⟩ rfl rfl) (hO.2.2.1 _ _ _ _ c71) p74 (Nat.lt_add_of_pos_right (by decide)) rfl <|
      (by cases e75; exact (r_aret c89_10))
    ) (fun x76 p74 e75 =>
      (by cases e75; exact (c_thrT (f := vA) (p := r70) (s_cv (as := [.ref x0, .int x2]) (st' := []) c89_7 rfl (gK_ok c68) ⟨Nat.le_of_ble_eq_true rfl, Nat.le_of_ble_eq_true rfl, Nat.le_of_ble_eq_true rfl⟩ rfl rfl) (hO.2.2.1 _ _ _ _ c71) p74 (Nat.lt_add_of_pos_right (by decide)) nh89))
    )
  ))
