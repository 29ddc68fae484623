/-- DiceOddsLaw.read(LDiceOdds;I[J)I -/
def C77 (xt : mj_X) (ct : Nat → Value) (O : OR) (N : Nat) (x0 : Nat) (x1 : Int32) (x2 : Nat) (H : mj_H) : Option ((Int32) × mj_H) :=
  (gK H x0 5).bind fun k1 =>
  (C78 xt ct O N x0 x1 H).bind fun r4 =>
  th r4 (fun v7 =>
    (sL r4.2 x2 0 (v7 : Int32).toInt64).bind fun H11 =>
    some (0, H11)
  ) (fun x10 =>
    (gC r4.2 x10).bind fun k14 =>
    bif k14 == 13 then
      some (1, r4.2)
    else
    none
  )
theorem C77_ok {xt : mj_X} {ct : Nat → Value} {O : OR} {d N : Nat} (hct : ct 0 = .int 1) (hO : oOK xt ct d O) {x0 : Nat} {x1 : Int32} {x2 : Nat} {H : mj_H} {q : (Int32) × mj_H} (e : C77 xt ct O N x0 x1 x2 H = some q) : mj_Run kY xt ct (d + 8) 77 0 (lv_args 0 [.ref x0, .int x1, .ref x2]) [] H (.inl (vI q.1), q.2) := by
  unfold C77 at e
  exact (
  r_aloadn c77_0 rfl <|
  r_iconst c77_1 <|
  r_aloadn c77_2 rfl <|
  r_iloadn c77_3 rfl <|
  t_bd e fun k1 c2 e3 =>
  t_bd e3 fun r4 c5 e6 =>
  t_th e6 (fun v7 p8 e9 =>
    c_calT (f := vI) (p := r4) (st2 := [.int v7, .int 0, .ref x2]) (s_cv (as := [.ref x0, .int x1]) (st' := [.int 0, .ref x2]) c77_4 rfl (gK_ok c2) ⟨Nat.le_of_ble_eq_true rfl, Nat.le_of_ble_eq_true rfl, Nat.le_of_ble_eq_true rfl⟩ rfl rfl) (C78_ok hct hO c5) p8 (Nat.add_lt_add_left (by decide) d) rfl <|
    r_i2l c77_7 rfl <|
    t_bd e9 fun H11 c12 e13 =>
    c_sL c77_8 c12 <|
    r_goto c77_9 <|
    r_iconst c77_15 <|
    (by cases e13; exact (r_iret c77_16 rfl))
  ) (fun x10 p8 e9 =>
    t_bd e9 fun k14 c15 e16 =>
    t_if e16 (fun b17 e18 =>
      c_cgt (f := vI) (p := r4) (s_cv (as := [.ref x0, .int x1]) (st' := [.int 0, .ref x2]) c77_4 rfl (gK_ok c2) ⟨Nat.le_of_ble_eq_true rfl, Nat.le_of_ble_eq_true rfl, Nat.le_of_ble_eq_true rfl⟩ rfl rfl) (C78_ok hct hO c5) p8 (Nat.add_lt_add_left (by decide) d) c77_4_h13 (b_eq c15 b17) <|
      r_astoren c77_12 <|
      r_iconst c77_13 <|
      (by cases e18; exact (r_iret c77_14 rfl))
    ) (fun b17 e18 =>
    t_no e18)
  ))
/-- DiceOddsLaw.print(LDiceOdds;I[J)I -/
def C119 (xt : mj_X) (ct : Nat → Value) (O : OR) (N : Nat) (x0 : Nat) (x1 : Int32) (x2 : Nat) (H : mj_H) : Option ((Int32) × mj_H) :=
  (gK H x0 5).bind fun k1 =>
  (C120 xt ct O N x0 x1 H).bind fun r4 =>
  th r4 (fun v7 =>
    (sL r4.2 x2 0 (v7 : Int32).toInt64).bind fun H11 =>
    some (0, H11)
  ) (fun x10 =>
    (gC r4.2 x10).bind fun k14 =>
    bif k14 == 13 then
      some (1, r4.2)
    else
    bif k14 == 14 then
      some (2, r4.2)
    else
    none
  )
theorem C119_ok {xt : mj_X} {ct : Nat → Value} {O : OR} {d N : Nat} (hct : ct 0 = .int 1) (hO : oOK xt ct d O) {x0 : Nat} {x1 : Int32} {x2 : Nat} {H : mj_H} {q : (Int32) × mj_H} (e : C119 xt ct O N x0 x1 x2 H = some q) : mj_Run kY xt ct (d + 8) 119 0 (lv_args 0 [.ref x0, .int x1, .ref x2]) [] H (.inl (vI q.1), q.2) := by
  unfold C119 at e
  exact (
  r_aloadn c119_0 rfl <|
  r_iconst c119_1 <|
  r_aloadn c119_2 rfl <|
  r_iloadn c119_3 rfl <|
  t_bd e fun k1 c2 e3 =>
  t_bd e3 fun r4 c5 e6 =>
  t_th e6 (fun v7 p8 e9 =>
    c_calT (f := vI) (p := r4) (st2 := [.int v7, .int 0, .ref x2]) (s_cv (as := [.ref x0, .int x1]) (st' := [.int 0, .ref x2]) c119_4 rfl (gK_ok c2) ⟨Nat.le_of_ble_eq_true rfl, Nat.le_of_ble_eq_true rfl, Nat.le_of_ble_eq_true rfl⟩ rfl rfl) (C120_ok hct hO c5) p8 (Nat.add_lt_add_left (by decide) d) rfl <|
    r_i2l c119_7 rfl <|
    t_bd e9 fun H11 c12 e13 =>
    c_sL c119_8 c12 <|
    r_goto c119_9 <|
    r_iconst c119_18 <|
    (by cases e13; exact (r_iret c119_19 rfl))
  ) (fun x10 p8 e9 =>
    t_bd e9 fun k14 c15 e16 =>
    t_if e16 (fun b17 e18 =>
      c_cgt (f := vI) (p := r4) (s_cv (as := [.ref x0, .int x1]) (st' := [.int 0, .ref x2]) c119_4 rfl (gK_ok c2) ⟨Nat.le_of_ble_eq_true rfl, Nat.le_of_ble_eq_true rfl, Nat.le_of_ble_eq_true rfl⟩ rfl rfl) (C120_ok hct hO c5) p8 (Nat.add_lt_add_left (by decide) d) c119_4_h13 (b_eq c15 b17) <|
      r_astoren c119_12 <|
      r_iconst c119_13 <|
      (by cases e18; exact (r_iret c119_14 rfl))
    ) (fun b17 e18 =>
    t_if e18 (fun b19 e20 =>
      c_cgt (f := vI) (p := r4) (s_cv (as := [.ref x0, .int x1]) (st' := [.int 0, .ref x2]) c119_4 rfl (gK_ok c2) ⟨Nat.le_of_ble_eq_true rfl, Nat.le_of_ble_eq_true rfl, Nat.le_of_ble_eq_true rfl⟩ rfl rfl) (C120_ok hct hO c5) p8 (Nat.add_lt_add_left (by decide) d) c119_4_h14 (b_eq c15 b19) <|
      r_astoren c119_15 <|
      r_iconst c119_16 <|
      (by cases e20; exact (r_iret c119_17 rfl))
    ) (fun b19 e20 =>
    t_no e20))
  ))
/-- DiceOddsLaw.run(LDiceOdds;I[J)I -/
def C133 (xt : mj_X) (ct : Nat → Value) (O : OR) (N : Nat) (x0 : Nat) (x1 : Int32) (x2 : Nat) (H : mj_H) : Option ((Int32) × mj_H) :=
  (gK H x0 5).bind fun k1 =>
  (C134 xt ct O N x0 x1 H).bind fun r4 =>
  th r4 (fun v7 =>
    (sL r4.2 x2 0 (v7 : Int32).toInt64).bind fun H11 =>
    some (0, H11)
  ) (fun x10 =>
    (gC r4.2 x10).bind fun k14 =>
    bif k14 == 13 then
      some (1, r4.2)
    else
    bif k14 == 14 then
      some (2, r4.2)
    else
    none
  )
theorem C133_ok {xt : mj_X} {ct : Nat → Value} {O : OR} {d N : Nat} (hct : ct 0 = .int 1) (hO : oOK xt ct d O) {x0 : Nat} {x1 : Int32} {x2 : Nat} {H : mj_H} {q : (Int32) × mj_H} (e : C133 xt ct O N x0 x1 x2 H = some q) : mj_Run kY xt ct (d + 5) 133 0 (lv_args 0 [.ref x0, .int x1, .ref x2]) [] H (.inl (vI q.1), q.2) := by
  unfold C133 at e
  exact (
  r_aloadn c133_0 rfl <|
  r_iconst c133_1 <|
  r_aloadn c133_2 rfl <|
  r_iloadn c133_3 rfl <|
  t_bd e fun k1 c2 e3 =>
  t_bd e3 fun r4 c5 e6 =>
  t_th e6 (fun v7 p8 e9 =>
    c_calT (f := vI) (p := r4) (st2 := [.int v7, .int 0, .ref x2]) (s_cv (as := [.ref x0, .int x1]) (st' := [.int 0, .ref x2]) c133_4 rfl (gK_ok c2) ⟨Nat.le_of_ble_eq_true rfl, Nat.le_of_ble_eq_true rfl, Nat.le_of_ble_eq_true rfl⟩ rfl rfl) (C134_ok hct hO c5) p8 (Nat.add_lt_add_left (by decide) d) rfl <|
    r_i2l c133_7 rfl <|
    t_bd e9 fun H11 c12 e13 =>
    c_sL c133_8 c12 <|
    r_goto c133_9 <|
    r_iconst c133_18 <|
    (by cases e13; exact (r_iret c133_19 rfl))
  ) (fun x10 p8 e9 =>
    t_bd e9 fun k14 c15 e16 =>
    t_if e16 (fun b17 e18 =>
      c_cgt (f := vI) (p := r4) (s_cv (as := [.ref x0, .int x1]) (st' := [.int 0, .ref x2]) c133_4 rfl (gK_ok c2) ⟨Nat.le_of_ble_eq_true rfl, Nat.le_of_ble_eq_true rfl, Nat.le_of_ble_eq_true rfl⟩ rfl rfl) (C134_ok hct hO c5) p8 (Nat.add_lt_add_left (by decide) d) c133_4_h13 (b_eq c15 b17) <|
      r_astoren c133_12 <|
      r_iconst c133_13 <|
      (by cases e18; exact (r_iret c133_14 rfl))
    ) (fun b17 e18 =>
    t_if e18 (fun b19 e20 =>
      c_cgt (f := vI) (p := r4) (s_cv (as := [.ref x0, .int x1]) (st' := [.int 0, .ref x2]) c133_4 rfl (gK_ok c2) ⟨Nat.le_of_ble_eq_true rfl, Nat.le_of_ble_eq_true rfl, Nat.le_of_ble_eq_true rfl⟩ rfl rfl) (C134_ok hct hO c5) p8 (Nat.add_lt_add_left (by decide) d) c133_4_h14 (b_eq c15 b19) <|
      r_astoren c133_15 <|
      r_iconst c133_16 <|
      (by cases e20; exact (r_iret c133_17 rfl))
    ) (fun b19 e20 =>
    t_no e20))
  ))
/-- DiceOddsLaw.factor(LDiceOdds;I[J)I -/
def C177 (xt : mj_X) (ct : Nat → Value) (O : OR) (N : Nat) (x0 : Nat) (x1 : Int32) (x2 : Nat) (H : mj_H) : Option ((Int32) × mj_H) :=
  (gK H x0 5).bind fun k1 =>
  (C178 xt ct O N x0 x1 H).bind fun r4 =>
  th r4 (fun v7 =>
    (sL r4.2 x2 0 v7).bind fun H11 =>
    some (0, H11)
  ) (fun x10 =>
    (gC r4.2 x10).bind fun k14 =>
    bif k14 == 13 then
      some (1, r4.2)
    else
    bif k14 == 14 then
      some (2, r4.2)
    else
    none
  )
theorem C177_ok {xt : mj_X} {ct : Nat → Value} {O : OR} {d N : Nat} (hct : ct 0 = .int 1) (hO : oOK xt ct d O) {x0 : Nat} {x1 : Int32} {x2 : Nat} {H : mj_H} {q : (Int32) × mj_H} (e : C177 xt ct O N x0 x1 x2 H = some q) : mj_Run kY xt ct (d + 5) 177 0 (lv_args 0 [.ref x0, .int x1, .ref x2]) [] H (.inl (vI q.1), q.2) := by
  unfold C177 at e
  exact (
  r_aloadn c177_0 rfl <|
  r_iconst c177_1 <|
  r_aloadn c177_2 rfl <|
  r_iloadn c177_3 rfl <|
  t_bd e fun k1 c2 e3 =>
  t_bd e3 fun r4 c5 e6 =>
  t_th e6 (fun v7 p8 e9 =>
    c_calT (f := vL) (p := r4) (st2 := [.long v7, .int 0, .ref x2]) (s_cv (as := [.ref x0, .int x1]) (st' := [.int 0, .ref x2]) c177_4 rfl (gK_ok c2) ⟨Nat.le_of_ble_eq_true rfl, Nat.le_of_ble_eq_true rfl, Nat.le_of_ble_eq_true rfl⟩ rfl rfl) (C178_ok hct hO c5) p8 (Nat.add_lt_add_left (by decide) d) rfl <|
    t_bd e9 fun H11 c12 e13 =>
    c_sL c177_7 c12 <|
    r_goto c177_8 <|
    r_iconst c177_17 <|
    (by cases e13; exact (r_iret c177_18 rfl))
  ) (fun x10 p8 e9 =>
    t_bd e9 fun k14 c15 e16 =>
    t_if e16 (fun b17 e18 =>
      c_cgt (f := vL) (p := r4) (s_cv (as := [.ref x0, .int x1]) (st' := [.int 0, .ref x2]) c177_4 rfl (gK_ok c2) ⟨Nat.le_of_ble_eq_true rfl, Nat.le_of_ble_eq_true rfl, Nat.le_of_ble_eq_true rfl⟩ rfl rfl) (C178_ok hct hO c5) p8 (Nat.add_lt_add_left (by decide) d) c177_4_h13 (b_eq c15 b17) <|
      r_astoren c177_11 <|
      r_iconst c177_12 <|
      (by cases e18; exact (r_iret c177_13 rfl))
    ) (fun b17 e18 =>
    t_if e18 (fun b19 e20 =>
      c_cgt (f := vL) (p := r4) (s_cv (as := [.ref x0, .int x1]) (st' := [.int 0, .ref x2]) c177_4 rfl (gK_ok c2) ⟨Nat.le_of_ble_eq_true rfl, Nat.le_of_ble_eq_true rfl, Nat.le_of_ble_eq_true rfl⟩ rfl rfl) (C178_ok hct hO c5) p8 (Nat.add_lt_add_left (by decide) d) c177_4_h14 (b_eq c15 b19) <|
      r_astoren c177_14 <|
      r_iconst c177_15 <|
      (by cases e20; exact (r_iret c177_16 rfl))
    ) (fun b19 e20 =>
    t_no e20))
  ))
/-- DiceOddsLaw.outcomes(LDiceOdds;I[J)I -/
def C179 (xt : mj_X) (ct : Nat → Value) (O : OR) (N : Nat) (x0 : Nat) (x1 : Int32) (x2 : Nat) (H : mj_H) : Option ((Int32) × mj_H) :=
  (gK H x0 5).bind fun k1 =>
  (C180 xt ct O N x0 x1 H).bind fun r4 =>
  th r4 (fun v7 =>
    (sL r4.2 x2 0 (v7 : Int32).toInt64).bind fun H11 =>
    some (0, H11)
  ) (fun x10 =>
    (gC r4.2 x10).bind fun k14 =>
    bif k14 == 13 then
      some (1, r4.2)
    else
    bif k14 == 14 then
      some (2, r4.2)
    else
    none
  )
theorem C179_ok {xt : mj_X} {ct : Nat → Value} {O : OR} {d N : Nat} (hct : ct 0 = .int 1) (hO : oOK xt ct d O) {x0 : Nat} {x1 : Int32} {x2 : Nat} {H : mj_H} {q : (Int32) × mj_H} (e : C179 xt ct O N x0 x1 x2 H = some q) : mj_Run kY xt ct (d + 5) 179 0 (lv_args 0 [.ref x0, .int x1, .ref x2]) [] H (.inl (vI q.1), q.2) := by
  unfold C179 at e
  exact (
  r_aloadn c179_0 rfl <|
  r_iconst c179_1 <|
  r_aloadn c179_2 rfl <|
  r_iloadn c179_3 rfl <|
  t_bd e fun k1 c2 e3 =>
  t_bd e3 fun r4 c5 e6 =>
  t_th e6 (fun v7 p8 e9 =>
    c_calT (f := vI) (p := r4) (st2 := [.int v7, .int 0, .ref x2]) (s_cv (as := [.ref x0, .int x1]) (st' := [.int 0, .ref x2]) c179_4 rfl (gK_ok c2) ⟨Nat.le_of_ble_eq_true rfl, Nat.le_of_ble_eq_true rfl, Nat.le_of_ble_eq_true rfl⟩ rfl rfl) (C180_ok hct hO c5) p8 (Nat.add_lt_add_left (by decide) d) rfl <|
    r_i2l c179_7 rfl <|
    t_bd e9 fun H11 c12 e13 =>
    c_sL c179_8 c12 <|
    r_goto c179_9 <|
    r_iconst c179_18 <|
    (by cases e13; exact (r_iret c179_19 rfl))
  ) (fun x10 p8 e9 =>
    t_bd e9 fun k14 c15 e16 =>
    t_if e16 (fun b17 e18 =>
      c_cgt (f := vI) (p := r4) (s_cv (as := [.ref x0, .int x1]) (st' := [.int 0, .ref x2]) c179_4 rfl (gK_ok c2) ⟨Nat.le_of_ble_eq_true rfl, Nat.le_of_ble_eq_true rfl, Nat.le_of_ble_eq_true rfl⟩ rfl rfl) (C180_ok hct hO c5) p8 (Nat.add_lt_add_left (by decide) d) c179_4_h13 (b_eq c15 b17) <|
      r_astoren c179_12 <|
      r_iconst c179_13 <|
      (by cases e18; exact (r_iret c179_14 rfl))
    ) (fun b17 e18 =>
    t_if e18 (fun b19 e20 =>
      c_cgt (f := vI) (p := r4) (s_cv (as := [.ref x0, .int x1]) (st' := [.int 0, .ref x2]) c179_4 rfl (gK_ok c2) ⟨Nat.le_of_ble_eq_true rfl, Nat.le_of_ble_eq_true rfl, Nat.le_of_ble_eq_true rfl⟩ rfl rfl) (C180_ok hct hO c5) p8 (Nat.add_lt_add_left (by decide) d) c179_4_h14 (b_eq c15 b19) <|
      r_astoren c179_15 <|
      r_iconst c179_16 <|
      (by cases e20; exact (r_iret c179_17 rfl))
    ) (fun b19 e20 =>
    t_no e20))
  ))
/-- DiceOddsLaw.outcome(LDiceOdds;II[J)I -/
def C182 (xt : mj_X) (ct : Nat → Value) (O : OR) (N : Nat) (x0 : Nat) (x1 : Int32) (x2 : Int32) (x3 : Nat) (H : mj_H) : Option ((Int32) × mj_H) :=
  (gK H x0 5).bind fun k1 =>
  (C183 xt ct O N x0 x1 x2 H).bind fun r4 =>
  th r4 (fun v7 =>
    (sL r4.2 x3 0 (v7 : Int32).toInt64).bind fun H11 =>
    some (0, H11)
  ) (fun x10 =>
    (gC r4.2 x10).bind fun k14 =>
    bif k14 == 13 then
      some (1, r4.2)
    else
    bif k14 == 14 then
      some (2, r4.2)
    else
    bif k14 == 15 then
      some (3, r4.2)
    else
    none
  )
theorem C182_ok {xt : mj_X} {ct : Nat → Value} {O : OR} {d N : Nat} (hct : ct 0 = .int 1) (hO : oOK xt ct d O) {x0 : Nat} {x1 : Int32} {x2 : Int32} {x3 : Nat} {H : mj_H} {q : (Int32) × mj_H} (e : C182 xt ct O N x0 x1 x2 x3 H = some q) : mj_Run kY xt ct (d + 6) 182 0 (lv_args 0 [.ref x0, .int x1, .int x2, .ref x3]) [] H (.inl (vI q.1), q.2) := by
  unfold C182 at e
  exact (
  r_aloadn c182_0 rfl <|
  r_iconst c182_1 <|
  r_aloadn c182_2 rfl <|
  r_iloadn c182_3 rfl <|
  r_iloadn c182_4 rfl <|
  t_bd e fun k1 c2 e3 =>
  t_bd e3 fun r4 c5 e6 =>
  t_th e6 (fun v7 p8 e9 =>
    c_calT (f := vI) (p := r4) (st2 := [.int v7, .int 0, .ref x3]) (s_cv (as := [.ref x0, .int x1, .int x2]) (st' := [.int 0, .ref x3]) c182_5 rfl (gK_ok c2) ⟨Nat.le_of_ble_eq_true rfl, Nat.le_of_ble_eq_true rfl, Nat.le_of_ble_eq_true rfl⟩ rfl rfl) (C183_ok hct hO c5) p8 (Nat.add_lt_add_left (by decide) d) rfl <|
    r_i2l c182_8 rfl <|
    t_bd e9 fun H11 c12 e13 =>
    c_sL c182_9 c12 <|
    r_goto c182_10 <|
    r_iconst c182_25 <|
    (by cases e13; exact (r_iret c182_26 rfl))
  ) (fun x10 p8 e9 =>
    t_bd e9 fun k14 c15 e16 =>
    t_if e16 (fun b17 e18 =>
      c_cgt (f := vI) (p := r4) (s_cv (as := [.ref x0, .int x1, .int x2]) (st' := [.int 0, .ref x3]) c182_5 rfl (gK_ok c2) ⟨Nat.le_of_ble_eq_true rfl, Nat.le_of_ble_eq_true rfl, Nat.le_of_ble_eq_true rfl⟩ rfl rfl) (C183_ok hct hO c5) p8 (Nat.add_lt_add_left (by decide) d) c182_5_h13 (b_eq c15 b17) <|
      r_astore c182_13 <|
      r_iconst c182_15 <|
      (by cases e18; exact (r_iret c182_16 rfl))
    ) (fun b17 e18 =>
    t_if e18 (fun b19 e20 =>
      c_cgt (f := vI) (p := r4) (s_cv (as := [.ref x0, .int x1, .int x2]) (st' := [.int 0, .ref x3]) c182_5 rfl (gK_ok c2) ⟨Nat.le_of_ble_eq_true rfl, Nat.le_of_ble_eq_true rfl, Nat.le_of_ble_eq_true rfl⟩ rfl rfl) (C183_ok hct hO c5) p8 (Nat.add_lt_add_left (by decide) d) c182_5_h14 (b_eq c15 b19) <|
      r_astore c182_17 <|
      r_iconst c182_19 <|
      (by cases e20; exact (r_iret c182_20 rfl))
    ) (fun b19 e20 =>
    t_if e20 (fun b21 e22 =>
      c_cgt (f := vI) (p := r4) (s_cv (as := [.ref x0, .int x1, .int x2]) (st' := [.int 0, .ref x3]) c182_5 rfl (gK_ok c2) ⟨Nat.le_of_ble_eq_true rfl, Nat.le_of_ble_eq_true rfl, Nat.le_of_ble_eq_true rfl⟩ rfl rfl) (C183_ok hct hO c5) p8 (Nat.add_lt_add_left (by decide) d) c182_5_h15 (b_eq c15 b21) <|
      r_astore c182_21 <|
      r_iconst c182_23 <|
      (by cases e22; exact (r_iret c182_24 rfl))
    ) (fun b21 e22 =>
    t_no e22)))
  ))
/-- DiceOddsLaw.ways(LDiceOdds;II[J)I -/
def C185 (xt : mj_X) (ct : Nat → Value) (O : OR) (N : Nat) (x0 : Nat) (x1 : Int32) (x2 : Int32) (x3 : Nat) (H : mj_H) : Option ((Int32) × mj_H) :=
  (gK H x0 5).bind fun k1 =>
  (C186 xt ct O N x0 x1 x2 H).bind fun r4 =>
  th r4 (fun v7 =>
    (sL r4.2 x3 0 v7).bind fun H11 =>
    some (0, H11)
  ) (fun x10 =>
    (gC r4.2 x10).bind fun k14 =>
    bif k14 == 13 then
      some (1, r4.2)
    else
    bif k14 == 14 then
      some (2, r4.2)
    else
    bif k14 == 15 then
      some (3, r4.2)
    else
    none
  )
theorem C185_ok {xt : mj_X} {ct : Nat → Value} {O : OR} {d N : Nat} (hct : ct 0 = .int 1) (hO : oOK xt ct d O) {x0 : Nat} {x1 : Int32} {x2 : Int32} {x3 : Nat} {H : mj_H} {q : (Int32) × mj_H} (e : C185 xt ct O N x0 x1 x2 x3 H = some q) : mj_Run kY xt ct (d + 6) 185 0 (lv_args 0 [.ref x0, .int x1, .int x2, .ref x3]) [] H (.inl (vI q.1), q.2) := by
  unfold C185 at e
  exact (
  r_aloadn c185_0 rfl <|
  r_iconst c185_1 <|
  r_aloadn c185_2 rfl <|
  r_iloadn c185_3 rfl <|
  r_iloadn c185_4 rfl <|
  t_bd e fun k1 c2 e3 =>
  t_bd e3 fun r4 c5 e6 =>
  t_th e6 (fun v7 p8 e9 =>
    c_calT (f := vL) (p := r4) (st2 := [.long v7, .int 0, .ref x3]) (s_cv (as := [.ref x0, .int x1, .int x2]) (st' := [.int 0, .ref x3]) c185_5 rfl (gK_ok c2) ⟨Nat.le_of_ble_eq_true rfl, Nat.le_of_ble_eq_true rfl, Nat.le_of_ble_eq_true rfl⟩ rfl rfl) (C186_ok hct hO c5) p8 (Nat.add_lt_add_left (by decide) d) rfl <|
    t_bd e9 fun H11 c12 e13 =>
    c_sL c185_8 c12 <|
    r_goto c185_9 <|
    r_iconst c185_24 <|
    (by cases e13; exact (r_iret c185_25 rfl))
  ) (fun x10 p8 e9 =>
    t_bd e9 fun k14 c15 e16 =>
    t_if e16 (fun b17 e18 =>
      c_cgt (f := vL) (p := r4) (s_cv (as := [.ref x0, .int x1, .int x2]) (st' := [.int 0, .ref x3]) c185_5 rfl (gK_ok c2) ⟨Nat.le_of_ble_eq_true rfl, Nat.le_of_ble_eq_true rfl, Nat.le_of_ble_eq_true rfl⟩ rfl rfl) (C186_ok hct hO c5) p8 (Nat.add_lt_add_left (by decide) d) c185_5_h13 (b_eq c15 b17) <|
      r_astore c185_12 <|
      r_iconst c185_14 <|
      (by cases e18; exact (r_iret c185_15 rfl))
    ) (fun b17 e18 =>
    t_if e18 (fun b19 e20 =>
      c_cgt (f := vL) (p := r4) (s_cv (as := [.ref x0, .int x1, .int x2]) (st' := [.int 0, .ref x3]) c185_5 rfl (gK_ok c2) ⟨Nat.le_of_ble_eq_true rfl, Nat.le_of_ble_eq_true rfl, Nat.le_of_ble_eq_true rfl⟩ rfl rfl) (C186_ok hct hO c5) p8 (Nat.add_lt_add_left (by decide) d) c185_5_h14 (b_eq c15 b19) <|
      r_astore c185_16 <|
      r_iconst c185_18 <|
      (by cases e20; exact (r_iret c185_19 rfl))
    ) (fun b19 e20 =>
    t_if e20 (fun b21 e22 =>
      c_cgt (f := vL) (p := r4) (s_cv (as := [.ref x0, .int x1, .int x2]) (st' := [.int 0, .ref x3]) c185_5 rfl (gK_ok c2) ⟨Nat.le_of_ble_eq_true rfl, Nat.le_of_ble_eq_true rfl, Nat.le_of_ble_eq_true rfl⟩ rfl rfl) (C186_ok hct hO c5) p8 (Nat.add_lt_add_left (by decide) d) c185_5_h15 (b_eq c15 b21) <|
      r_astore c185_20 <|
      r_iconst c185_22 <|
      (by cases e22; exact (r_iret c185_23 rfl))
    ) (fun b21 e22 =>
    t_no e22)))
  ))
/-- DiceOddsLaw.total(LDiceOdds;I[J)I -/
def C187 (xt : mj_X) (ct : Nat → Value) (O : OR) (N : Nat) (x0 : Nat) (x1 : Int32) (x2 : Nat) (H : mj_H) : Option ((Int32) × mj_H) :=
  (gK H x0 5).bind fun k1 =>
  (C188 xt ct O N x0 x1 H).bind fun r4 =>
  th r4 (fun v7 =>
    (sL r4.2 x2 0 v7).bind fun H11 =>
    some (0, H11)
  ) (fun x10 =>
    (gC r4.2 x10).bind fun k14 =>
    bif k14 == 13 then
      some (1, r4.2)
    else
    bif k14 == 14 then
      some (2, r4.2)
    else
    none
  )
theorem C187_ok {xt : mj_X} {ct : Nat → Value} {O : OR} {d N : Nat} (hct : ct 0 = .int 1) (hO : oOK xt ct d O) {x0 : Nat} {x1 : Int32} {x2 : Nat} {H : mj_H} {q : (Int32) × mj_H} (e : C187 xt ct O N x0 x1 x2 H = some q) : mj_Run kY xt ct (d + 5) 187 0 (lv_args 0 [.ref x0, .int x1, .ref x2]) [] H (.inl (vI q.1), q.2) := by
  unfold C187 at e
  exact (
  r_aloadn c187_0 rfl <|
  r_iconst c187_1 <|
  r_aloadn c187_2 rfl <|
  r_iloadn c187_3 rfl <|
  t_bd e fun k1 c2 e3 =>
  t_bd e3 fun r4 c5 e6 =>
  t_th e6 (fun v7 p8 e9 =>
    c_calT (f := vL) (p := r4) (st2 := [.long v7, .int 0, .ref x2]) (s_cv (as := [.ref x0, .int x1]) (st' := [.int 0, .ref x2]) c187_4 rfl (gK_ok c2) ⟨Nat.le_of_ble_eq_true rfl, Nat.le_of_ble_eq_true rfl, Nat.le_of_ble_eq_true rfl⟩ rfl rfl) (C188_ok hct hO c5) p8 (Nat.add_lt_add_left (by decide) d) rfl <|
    t_bd e9 fun H11 c12 e13 =>
    c_sL c187_7 c12 <|
    r_goto c187_8 <|
    r_iconst c187_17 <|
    (by cases e13; exact (r_iret c187_18 rfl))
  ) (fun x10 p8 e9 =>
    t_bd e9 fun k14 c15 e16 =>
    t_if e16 (fun b17 e18 =>
      c_cgt (f := vL) (p := r4) (s_cv (as := [.ref x0, .int x1]) (st' := [.int 0, .ref x2]) c187_4 rfl (gK_ok c2) ⟨Nat.le_of_ble_eq_true rfl, Nat.le_of_ble_eq_true rfl, Nat.le_of_ble_eq_true rfl⟩ rfl rfl) (C188_ok hct hO c5) p8 (Nat.add_lt_add_left (by decide) d) c187_4_h13 (b_eq c15 b17) <|
      r_astoren c187_11 <|
      r_iconst c187_12 <|
      (by cases e18; exact (r_iret c187_13 rfl))
    ) (fun b17 e18 =>
    t_if e18 (fun b19 e20 =>
      c_cgt (f := vL) (p := r4) (s_cv (as := [.ref x0, .int x1]) (st' := [.int 0, .ref x2]) c187_4 rfl (gK_ok c2) ⟨Nat.le_of_ble_eq_true rfl, Nat.le_of_ble_eq_true rfl, Nat.le_of_ble_eq_true rfl⟩ rfl rfl) (C188_ok hct hO c5) p8 (Nat.add_lt_add_left (by decide) d) c187_4_h14 (b_eq c15 b19) <|
      r_astoren c187_14 <|
      r_iconst c187_15 <|
      (by cases e20; exact (r_iret c187_16 rfl))
    ) (fun b19 e20 =>
    t_no e20))
  ))
/-- DiceOddsLaw.moment(LDiceOdds;II[J)I -/
def C189 (xt : mj_X) (ct : Nat → Value) (O : OR) (N : Nat) (x0 : Nat) (x1 : Int32) (x2 : Int32) (x3 : Nat) (H : mj_H) : Option ((Int32) × mj_H) :=
  (gK H x0 5).bind fun k1 =>
  (C190 xt ct O N x0 x1 x2 H).bind fun r4 =>
  th r4 (fun v7 =>
    (sL r4.2 x3 0 v7).bind fun H11 =>
    some (0, H11)
  ) (fun x10 =>
    (gC r4.2 x10).bind fun k14 =>
    bif k14 == 13 then
      some (1, r4.2)
    else
    bif k14 == 14 then
      some (2, r4.2)
    else
    none
  )
theorem C189_ok {xt : mj_X} {ct : Nat → Value} {O : OR} {d N : Nat} (hct : ct 0 = .int 1) (hO : oOK xt ct d O) {x0 : Nat} {x1 : Int32} {x2 : Int32} {x3 : Nat} {H : mj_H} {q : (Int32) × mj_H} (e : C189 xt ct O N x0 x1 x2 x3 H = some q) : mj_Run kY xt ct (d + 5) 189 0 (lv_args 0 [.ref x0, .int x1, .int x2, .ref x3]) [] H (.inl (vI q.1), q.2) := by
  unfold C189 at e
  exact (
  r_aloadn c189_0 rfl <|
  r_iconst c189_1 <|
  r_aloadn c189_2 rfl <|
  r_iloadn c189_3 rfl <|
  r_iloadn c189_4 rfl <|
  t_bd e fun k1 c2 e3 =>
  t_bd e3 fun r4 c5 e6 =>
  t_th e6 (fun v7 p8 e9 =>
    c_calT (f := vL) (p := r4) (st2 := [.long v7, .int 0, .ref x3]) (s_cv (as := [.ref x0, .int x1, .int x2]) (st' := [.int 0, .ref x3]) c189_5 rfl (gK_ok c2) ⟨Nat.le_of_ble_eq_true rfl, Nat.le_of_ble_eq_true rfl, Nat.le_of_ble_eq_true rfl⟩ rfl rfl) (C190_ok hct hO c5) p8 (Nat.add_lt_add_left (by decide) d) rfl <|
    t_bd e9 fun H11 c12 e13 =>
    c_sL c189_8 c12 <|
    r_goto c189_9 <|
    r_iconst c189_20 <|
    (by cases e13; exact (r_iret c189_21 rfl))
  ) (fun x10 p8 e9 =>
    t_bd e9 fun k14 c15 e16 =>
    t_if e16 (fun b17 e18 =>
      c_cgt (f := vL) (p := r4) (s_cv (as := [.ref x0, .int x1, .int x2]) (st' := [.int 0, .ref x3]) c189_5 rfl (gK_ok c2) ⟨Nat.le_of_ble_eq_true rfl, Nat.le_of_ble_eq_true rfl, Nat.le_of_ble_eq_true rfl⟩ rfl rfl) (C190_ok hct hO c5) p8 (Nat.add_lt_add_left (by decide) d) c189_5_h13 (b_eq c15 b17) <|
      r_astore c189_12 <|
      r_iconst c189_14 <|
      (by cases e18; exact (r_iret c189_15 rfl))
    ) (fun b17 e18 =>
    t_if e18 (fun b19 e20 =>
      c_cgt (f := vL) (p := r4) (s_cv (as := [.ref x0, .int x1, .int x2]) (st' := [.int 0, .ref x3]) c189_5 rfl (gK_ok c2) ⟨Nat.le_of_ble_eq_true rfl, Nat.le_of_ble_eq_true rfl, Nat.le_of_ble_eq_true rfl⟩ rfl rfl) (C190_ok hct hO c5) p8 (Nat.add_lt_add_left (by decide) d) c189_5_h14 (b_eq c15 b19) <|
      r_astore c189_16 <|
      r_iconst c189_18 <|
      (by cases e20; exact (r_iret c189_19 rfl))
    ) (fun b19 e20 =>
    t_no e20))
  ))
/-- DiceOddsLaw.millionths(LDiceOdds;II[J)I -/
def C192 (xt : mj_X) (ct : Nat → Value) (O : OR) (N : Nat) (x0 : Nat) (x1 : Int32) (x2 : Int32) (x3 : Nat) (H : mj_H) : Option ((Int32) × mj_H) :=
  (gK H x0 5).bind fun k1 =>
  (C193 xt ct O N x0 x1 x2 H).bind fun r4 =>
  th r4 (fun v7 =>
    (sL r4.2 x3 0 (v7 : Int32).toInt64).bind fun H11 =>
    some (0, H11)
  ) (fun x10 =>
    (gC r4.2 x10).bind fun k14 =>
    bif k14 == 13 then
      some (1, r4.2)
    else
    bif k14 == 14 then
      some (2, r4.2)
    else
    bif k14 == 15 then
      some (3, r4.2)
    else
    none
  )
theorem C192_ok {xt : mj_X} {ct : Nat → Value} {O : OR} {d N : Nat} (hct : ct 0 = .int 1) (hO : oOK xt ct d O) {x0 : Nat} {x1 : Int32} {x2 : Int32} {x3 : Nat} {H : mj_H} {q : (Int32) × mj_H} (e : C192 xt ct O N x0 x1 x2 x3 H = some q) : mj_Run kY xt ct (d + 6) 192 0 (lv_args 0 [.ref x0, .int x1, .int x2, .ref x3]) [] H (.inl (vI q.1), q.2) := by
  unfold C192 at e
  exact (
  r_aloadn c192_0 rfl <|
  r_iconst c192_1 <|
  r_aloadn c192_2 rfl <|
  r_iloadn c192_3 rfl <|
  r_iloadn c192_4 rfl <|
  t_bd e fun k1 c2 e3 =>
  t_bd e3 fun r4 c5 e6 =>
  t_th e6 (fun v7 p8 e9 =>
    c_calT (f := vI) (p := r4) (st2 := [.int v7, .int 0, .ref x3]) (s_cv (as := [.ref x0, .int x1, .int x2]) (st' := [.int 0, .ref x3]) c192_5 rfl (gK_ok c2) ⟨Nat.le_of_ble_eq_true rfl, Nat.le_of_ble_eq_true rfl, Nat.le_of_ble_eq_true rfl⟩ rfl rfl) (C193_ok hct hO c5) p8 (Nat.add_lt_add_left (by decide) d) rfl <|
    r_i2l c192_8 rfl <|
    t_bd e9 fun H11 c12 e13 =>
    c_sL c192_9 c12 <|
    r_goto c192_10 <|
    r_iconst c192_25 <|
    (by cases e13; exact (r_iret c192_26 rfl))
  ) (fun x10 p8 e9 =>
    t_bd e9 fun k14 c15 e16 =>
    t_if e16 (fun b17 e18 =>
      c_cgt (f := vI) (p := r4) (s_cv (as := [.ref x0, .int x1, .int x2]) (st' := [.int 0, .ref x3]) c192_5 rfl (gK_ok c2) ⟨Nat.le_of_ble_eq_true rfl, Nat.le_of_ble_eq_true rfl, Nat.le_of_ble_eq_true rfl⟩ rfl rfl) (C193_ok hct hO c5) p8 (Nat.add_lt_add_left (by decide) d) c192_5_h13 (b_eq c15 b17) <|
      r_astore c192_13 <|
      r_iconst c192_15 <|
      (by cases e18; exact (r_iret c192_16 rfl))
    ) (fun b17 e18 =>
    t_if e18 (fun b19 e20 =>
      c_cgt (f := vI) (p := r4) (s_cv (as := [.ref x0, .int x1, .int x2]) (st' := [.int 0, .ref x3]) c192_5 rfl (gK_ok c2) ⟨Nat.le_of_ble_eq_true rfl, Nat.le_of_ble_eq_true rfl, Nat.le_of_ble_eq_true rfl⟩ rfl rfl) (C193_ok hct hO c5) p8 (Nat.add_lt_add_left (by decide) d) c192_5_h14 (b_eq c15 b19) <|
      r_astore c192_17 <|
      r_iconst c192_19 <|
      (by cases e20; exact (r_iret c192_20 rfl))
    ) (fun b19 e20 =>
    t_if e20 (fun b21 e22 =>
      c_cgt (f := vI) (p := r4) (s_cv (as := [.ref x0, .int x1, .int x2]) (st' := [.int 0, .ref x3]) c192_5 rfl (gK_ok c2) ⟨Nat.le_of_ble_eq_true rfl, Nat.le_of_ble_eq_true rfl, Nat.le_of_ble_eq_true rfl⟩ rfl rfl) (C193_ok hct hO c5) p8 (Nat.add_lt_add_left (by decide) d) c192_5_h15 (b_eq c15 b21) <|
      r_astore c192_21 <|
      r_iconst c192_23 <|
      (by cases e22; exact (r_iret c192_24 rfl))
    ) (fun b21 e22 =>
    t_no e22)))
  ))
/-- DiceOddsLaw.percentile(LDiceOdds;III[J)I -/
def C195 (xt : mj_X) (ct : Nat → Value) (O : OR) (N : Nat) (x0 : Nat) (x1 : Int32) (x2 : Int32) (x3 : Int32) (x4 : Nat) (H : mj_H) : Option ((Int32) × mj_H) :=
  (gK H x0 5).bind fun k1 =>
  (C196 xt ct O N x0 x1 x2 x3 H).bind fun r4 =>
  th r4 (fun v7 =>
    (sL r4.2 x4 0 (v7 : Int32).toInt64).bind fun H11 =>
    some (0, H11)
  ) (fun x10 =>
    (gC r4.2 x10).bind fun k14 =>
    bif k14 == 13 then
      some (1, r4.2)
    else
    bif k14 == 14 then
      some (2, r4.2)
    else
    none
  )
theorem C195_ok {xt : mj_X} {ct : Nat → Value} {O : OR} {d N : Nat} (hct : ct 0 = .int 1) (hO : oOK xt ct d O) {x0 : Nat} {x1 : Int32} {x2 : Int32} {x3 : Int32} {x4 : Nat} {H : mj_H} {q : (Int32) × mj_H} (e : C195 xt ct O N x0 x1 x2 x3 x4 H = some q) : mj_Run kY xt ct (d + 5) 195 0 (lv_args 0 [.ref x0, .int x1, .int x2, .int x3, .ref x4]) [] H (.inl (vI q.1), q.2) := by
  unfold C195 at e
  exact (
  r_aload c195_0 rfl <|
  r_iconst c195_2 <|
  r_aloadn c195_3 rfl <|
  r_iloadn c195_4 rfl <|
  r_iloadn c195_5 rfl <|
  r_iloadn c195_6 rfl <|
  t_bd e fun k1 c2 e3 =>
  t_bd e3 fun r4 c5 e6 =>
  t_th e6 (fun v7 p8 e9 =>
    c_calT (f := vI) (p := r4) (st2 := [.int v7, .int 0, .ref x4]) (s_cv (as := [.ref x0, .int x1, .int x2, .int x3]) (st' := [.int 0, .ref x4]) c195_7 rfl (gK_ok c2) ⟨Nat.le_of_ble_eq_true rfl, Nat.le_of_ble_eq_true rfl, Nat.le_of_ble_eq_true rfl⟩ rfl rfl) (C196_ok hct hO c5) p8 (Nat.add_lt_add_left (by decide) d) rfl <|
    r_i2l c195_10 rfl <|
    t_bd e9 fun H11 c12 e13 =>
    c_sL c195_11 c12 <|
    r_goto c195_12 <|
    r_iconst c195_23 <|
    (by cases e13; exact (r_iret c195_24 rfl))
  ) (fun x10 p8 e9 =>
    t_bd e9 fun k14 c15 e16 =>
    t_if e16 (fun b17 e18 =>
      c_cgt (f := vI) (p := r4) (s_cv (as := [.ref x0, .int x1, .int x2, .int x3]) (st' := [.int 0, .ref x4]) c195_7 rfl (gK_ok c2) ⟨Nat.le_of_ble_eq_true rfl, Nat.le_of_ble_eq_true rfl, Nat.le_of_ble_eq_true rfl⟩ rfl rfl) (C196_ok hct hO c5) p8 (Nat.add_lt_add_left (by decide) d) c195_7_h13 (b_eq c15 b17) <|
      r_astore c195_15 <|
      r_iconst c195_17 <|
      (by cases e18; exact (r_iret c195_18 rfl))
    ) (fun b17 e18 =>
    t_if e18 (fun b19 e20 =>
      c_cgt (f := vI) (p := r4) (s_cv (as := [.ref x0, .int x1, .int x2, .int x3]) (st' := [.int 0, .ref x4]) c195_7 rfl (gK_ok c2) ⟨Nat.le_of_ble_eq_true rfl, Nat.le_of_ble_eq_true rfl, Nat.le_of_ble_eq_true rfl⟩ rfl rfl) (C196_ok hct hO c5) p8 (Nat.add_lt_add_left (by decide) d) c195_7_h14 (b_eq c15 b19) <|
      r_astore c195_19 <|
      r_iconst c195_21 <|
      (by cases e20; exact (r_iret c195_22 rfl))
    ) (fun b19 e20 =>
    t_no e20))
  ))
/-- DiceOddsLaw.sample(LDiceOdds;IJ[J)I -/
def C197 (xt : mj_X) (ct : Nat → Value) (O : OR) (N : Nat) (x0 : Nat) (x1 : Int32) (x2 : Int64) (x4 : Nat) (H : mj_H) : Option ((Int32) × mj_H) :=
  (gK H x0 5).bind fun k1 =>
  (C198 xt ct O N x0 x1 x2 H).bind fun r4 =>
  th r4 (fun v7 =>
    (sL r4.2 x4 0 (v7 : Int32).toInt64).bind fun H11 =>
    some (0, H11)
  ) (fun x10 =>
    (gC r4.2 x10).bind fun k14 =>
    bif k14 == 13 then
      some (1, r4.2)
    else
    bif k14 == 14 then
      some (2, r4.2)
    else
    bif k14 == 15 then
      some (3, r4.2)
    else
    none
  )
theorem C197_ok {xt : mj_X} {ct : Nat → Value} {O : OR} {d N : Nat} (hct : ct 0 = .int 1) (hO : oOK xt ct d O) {x0 : Nat} {x1 : Int32} {x2 : Int64} {x4 : Nat} {H : mj_H} {q : (Int32) × mj_H} (e : C197 xt ct O N x0 x1 x2 x4 H = some q) : mj_Run kY xt ct (d + 5) 197 0 (lv_args 0 [.ref x0, .int x1, .long x2, .ref x4]) [] H (.inl (vI q.1), q.2) := by
  unfold C197 at e
  exact (
  r_aload c197_0 rfl <|
  r_iconst c197_2 <|
  r_aloadn c197_3 rfl <|
  r_iloadn c197_4 rfl <|
  r_lloadn c197_5 rfl <|
  t_bd e fun k1 c2 e3 =>
  t_bd e3 fun r4 c5 e6 =>
  t_th e6 (fun v7 p8 e9 =>
    c_calT (f := vI) (p := r4) (st2 := [.int v7, .int 0, .ref x4]) (s_cv (as := [.ref x0, .int x1, .long x2]) (st' := [.int 0, .ref x4]) c197_6 rfl (gK_ok c2) ⟨Nat.le_of_ble_eq_true rfl, Nat.le_of_ble_eq_true rfl, Nat.le_of_ble_eq_true rfl⟩ rfl rfl) (C198_ok hct hO c5) p8 (Nat.add_lt_add_left (by decide) d) rfl <|
    r_i2l c197_9 rfl <|
    t_bd e9 fun H11 c12 e13 =>
    c_sL c197_10 c12 <|
    r_goto c197_11 <|
    r_iconst c197_26 <|
    (by cases e13; exact (r_iret c197_27 rfl))
  ) (fun x10 p8 e9 =>
    t_bd e9 fun k14 c15 e16 =>
    t_if e16 (fun b17 e18 =>
      c_cgt (f := vI) (p := r4) (s_cv (as := [.ref x0, .int x1, .long x2]) (st' := [.int 0, .ref x4]) c197_6 rfl (gK_ok c2) ⟨Nat.le_of_ble_eq_true rfl, Nat.le_of_ble_eq_true rfl, Nat.le_of_ble_eq_true rfl⟩ rfl rfl) (C198_ok hct hO c5) p8 (Nat.add_lt_add_left (by decide) d) c197_6_h13 (b_eq c15 b17) <|
      r_astore c197_14 <|
      r_iconst c197_16 <|
      (by cases e18; exact (r_iret c197_17 rfl))
    ) (fun b17 e18 =>
    t_if e18 (fun b19 e20 =>
      c_cgt (f := vI) (p := r4) (s_cv (as := [.ref x0, .int x1, .long x2]) (st' := [.int 0, .ref x4]) c197_6 rfl (gK_ok c2) ⟨Nat.le_of_ble_eq_true rfl, Nat.le_of_ble_eq_true rfl, Nat.le_of_ble_eq_true rfl⟩ rfl rfl) (C198_ok hct hO c5) p8 (Nat.add_lt_add_left (by decide) d) c197_6_h14 (b_eq c15 b19) <|
      r_astore c197_18 <|
      r_iconst c197_20 <|
      (by cases e20; exact (r_iret c197_21 rfl))
    ) (fun b19 e20 =>
    t_if e20 (fun b21 e22 =>
      c_cgt (f := vI) (p := r4) (s_cv (as := [.ref x0, .int x1, .long x2]) (st' := [.int 0, .ref x4]) c197_6 rfl (gK_ok c2) ⟨Nat.le_of_ble_eq_true rfl, Nat.le_of_ble_eq_true rfl, Nat.le_of_ble_eq_true rfl⟩ rfl rfl) (C198_ok hct hO c5) p8 (Nat.add_lt_add_left (by decide) d) c197_6_h15 (b_eq c15 b21) <|
      r_astore c197_22 <|
      r_iconst c197_24 <|
      (by cases e22; exact (r_iret c197_25 rfl))
    ) (fun b21 e22 =>
    t_no e22)))
  ))
/-- DiceOddsLaw.compare(LDiceOdds;III[J)I -/
def C199 (xt : mj_X) (ct : Nat → Value) (O : OR) (N : Nat) (x0 : Nat) (x1 : Int32) (x2 : Int32) (x3 : Int32) (x4 : Nat) (H : mj_H) : Option ((Int32) × mj_H) :=
  (gK H x0 5).bind fun k1 =>
  (C200 xt ct O N x0 x1 x2 x3 H).bind fun r4 =>
  th r4 (fun v7 =>
    (sL r4.2 x4 0 v7).bind fun H11 =>
    some (0, H11)
  ) (fun x10 =>
    (gC r4.2 x10).bind fun k14 =>
    bif k14 == 13 then
      some (1, r4.2)
    else
    bif k14 == 14 then
      some (2, r4.2)
    else
    none
  )
theorem C199_ok {xt : mj_X} {ct : Nat → Value} {O : OR} {d N : Nat} (hct : ct 0 = .int 1) (hO : oOK xt ct d O) {x0 : Nat} {x1 : Int32} {x2 : Int32} {x3 : Int32} {x4 : Nat} {H : mj_H} {q : (Int32) × mj_H} (e : C199 xt ct O N x0 x1 x2 x3 x4 H = some q) : mj_Run kY xt ct (d + 5) 199 0 (lv_args 0 [.ref x0, .int x1, .int x2, .int x3, .ref x4]) [] H (.inl (vI q.1), q.2) := by
  unfold C199 at e
  exact (
  r_aload c199_0 rfl <|
  r_iconst c199_2 <|
  r_aloadn c199_3 rfl <|
  r_iloadn c199_4 rfl <|
  r_iloadn c199_5 rfl <|
  r_iloadn c199_6 rfl <|
  t_bd e fun k1 c2 e3 =>
  t_bd e3 fun r4 c5 e6 =>
  t_th e6 (fun v7 p8 e9 =>
    c_calT (f := vL) (p := r4) (st2 := [.long v7, .int 0, .ref x4]) (s_cv (as := [.ref x0, .int x1, .int x2, .int x3]) (st' := [.int 0, .ref x4]) c199_7 rfl (gK_ok c2) ⟨Nat.le_of_ble_eq_true rfl, Nat.le_of_ble_eq_true rfl, Nat.le_of_ble_eq_true rfl⟩ rfl rfl) (C200_ok hct hO c5) p8 (Nat.add_lt_add_left (by decide) d) rfl <|
    t_bd e9 fun H11 c12 e13 =>
    c_sL c199_10 c12 <|
    r_goto c199_11 <|
    r_iconst c199_22 <|
    (by cases e13; exact (r_iret c199_23 rfl))
  ) (fun x10 p8 e9 =>
    t_bd e9 fun k14 c15 e16 =>
    t_if e16 (fun b17 e18 =>
      c_cgt (f := vL) (p := r4) (s_cv (as := [.ref x0, .int x1, .int x2, .int x3]) (st' := [.int 0, .ref x4]) c199_7 rfl (gK_ok c2) ⟨Nat.le_of_ble_eq_true rfl, Nat.le_of_ble_eq_true rfl, Nat.le_of_ble_eq_true rfl⟩ rfl rfl) (C200_ok hct hO c5) p8 (Nat.add_lt_add_left (by decide) d) c199_7_h13 (b_eq c15 b17) <|
      r_astore c199_14 <|
      r_iconst c199_16 <|
      (by cases e18; exact (r_iret c199_17 rfl))
    ) (fun b17 e18 =>
    t_if e18 (fun b19 e20 =>
      c_cgt (f := vL) (p := r4) (s_cv (as := [.ref x0, .int x1, .int x2, .int x3]) (st' := [.int 0, .ref x4]) c199_7 rfl (gK_ok c2) ⟨Nat.le_of_ble_eq_true rfl, Nat.le_of_ble_eq_true rfl, Nat.le_of_ble_eq_true rfl⟩ rfl rfl) (C200_ok hct hO c5) p8 (Nat.add_lt_add_left (by decide) d) c199_7_h14 (b_eq c15 b19) <|
      r_astore c199_18 <|
      r_iconst c199_20 <|
      (by cases e20; exact (r_iret c199_21 rfl))
    ) (fun b19 e20 =>
    t_no e20))
  ))
