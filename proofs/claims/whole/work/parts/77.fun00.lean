/-- DiceOdds.bindingOf(C)I -/
def C108 (xt : mj_X) (ct : Nat → Value) (O : OR) (N : Nat) (x0 : Int32) (H : mj_H) : Option ((Int32) × mj_H) :=
  bif mj_c2 .eq x0 37 then
    some (2, H)
  else
  bif mj_c2 .eq x0 42 then
    some (2, H)
  else
  bif mj_c2 .eq x0 43 then
    some (1, H)
  else
  bif mj_c2 .eq x0 45 then
    some (1, H)
  else
  bif mj_c2 .eq x0 47 then
    some (2, H)
  else
  bif mj_c2 .eq x0 60 then
    some (0, H)
  else
  bif mj_c2 .eq x0 61 then
    some (0, H)
  else
  bif mj_c2 .eq x0 62 then
    some (0, H)
  else
  some ((-1000), H)
theorem C108_ok {xt : mj_X} {ct : Nat → Value} {O : OR} {d N : Nat} (hct : ct 0 = .int 1) (hO : oOK xt ct d O) {x0 : Int32} {H : mj_H} {q : (Int32) × mj_H} (e : C108 xt ct O N x0 H = some q) : mj_Run kY xt ct (d + 1) 108 0 (lv_args 0 [.int x0]) [] H (.inl (vI q.1), q.2) := by
  unfold C108 at e
  exact (
  r_iloadn c108_0 rfl <|
  t_if e (fun b1 e2 =>
    c_sw c108_1_37 b1 <|
    r_iconst c108_124 <|
    (by cases e2; exact (r_iret c108_125 rfl))
  ) (fun b1 e2 =>
  t_if e2 (fun b3 e4 =>
    c_sw c108_1_42 b3 <|
    r_iconst c108_124 <|
    (by cases e4; exact (r_iret c108_125 rfl))
  ) (fun b3 e4 =>
  t_if e4 (fun b5 e6 =>
    c_sw c108_1_43 b5 <|
    r_iconst c108_122 <|
    (by cases e6; exact (r_iret c108_123 rfl))
  ) (fun b5 e6 =>
  t_if e6 (fun b7 e8 =>
    c_sw c108_1_45 b7 <|
    r_iconst c108_122 <|
    (by cases e8; exact (r_iret c108_123 rfl))
  ) (fun b7 e8 =>
  t_if e8 (fun b9 e10 =>
    c_sw c108_1_47 b9 <|
    r_iconst c108_124 <|
    (by cases e10; exact (r_iret c108_125 rfl))
  ) (fun b9 e10 =>
  t_if e10 (fun b11 e12 =>
    c_sw c108_1_60 b11 <|
    r_iconst c108_120 <|
    (by cases e12; exact (r_iret c108_121 rfl))
  ) (fun b11 e12 =>
  t_if e12 (fun b13 e14 =>
    c_sw c108_1_61 b13 <|
    r_iconst c108_120 <|
    (by cases e14; exact (r_iret c108_121 rfl))
  ) (fun b13 e14 =>
  t_if e14 (fun b15 e16 =>
    c_sw c108_1_62 b15 <|
    r_iconst c108_120 <|
    (by cases e16; exact (r_iret c108_121 rfl))
  ) (fun b15 e16 =>
    r_sw (c108_1_d b1 b3 b5 b7 b9 b11 b13 b15) <|
    r_sipush c108_126 <|
    (by cases e16; exact (r_iret c108_129 rfl))
  )))))))))
/-- DiceOdds$Operation.binding()I -/
def C126 (xt : mj_X) (ct : Nat → Value) (O : OR) (N : Nat) (x0 : Nat) (H : mj_H) : Option ((Int32) × mj_H) :=
  (gI H x0 10 0).bind fun r1 =>
  (C108 xt ct O N r1 H).bind fun r4 =>
  some (r4.1, r4.2)
theorem C126_ok {xt : mj_X} {ct : Nat → Value} {O : OR} {d N : Nat} (hct : ct 0 = .int 1) (hO : oOK xt ct d O) {x0 : Nat} {H : mj_H} {q : (Int32) × mj_H} (e : C126 xt ct O N x0 H = some q) : mj_Run kY xt ct (d + 2) 126 0 (lv_args 0 [.ref x0]) [] H (.inl (vI q.1), q.2) := by
  unfold C126 at e
  exact (
  r_aloadn c126_0 rfl <|
  t_bd e fun r1 c2 e3 =>
  c_gI c126_1 c2 <|
  t_bd e3 fun r4 c5 e6 =>
  c_cal (st2 := [.int r4.1]) (s_cs (as := [.int r1]) (st' := []) c126_4 ⟨Nat.le_of_ble_eq_true rfl, Nat.le_of_ble_eq_true rfl, Nat.le_of_ble_eq_true rfl⟩ rfl rfl) (C108_ok hct hO c5) (Nat.add_lt_add_left (by decide) d) rfl <|
  (by cases e6; exact (r_iret c126_7 rfl)))
/-- DiceOdds$Expression.binding()I -/
def C127 (xt : mj_X) (ct : Nat → Value) (O : OR) (N : Nat) (x0 : Nat) (H : mj_H) : Option ((Int32) × mj_H) :=
  some (3, H)
theorem C127_ok {xt : mj_X} {ct : Nat → Value} {O : OR} {d N : Nat} (hct : ct 0 = .int 1) (hO : oOK xt ct d O) {x0 : Nat} {H : mj_H} {q : (Int32) × mj_H} (e : C127 xt ct O N x0 H = some q) : mj_Run kY xt ct (d + 1) 127 0 (lv_args 0 [.ref x0]) [] H (.inl (vI q.1), q.2) := by
  unfold C127 at e
  exact (
  r_iconst c127_0 <|
  (by cases e; exact (r_iret c127_1 rfl)))
/-- binding of an expression, by its class -/
def CB (xt : mj_X) (ct : Nat → Value) (O : OR) (N : Nat) (x0 : Nat) (H : mj_H) : Option ((Int32) × mj_H) :=
  (gE H x0).bind fun c => bif c == 10 then C126 xt ct O N x0 H else C127 xt ct O N x0 H
theorem CB_ok {xt : mj_X} {ct : Nat → Value} {O : OR} {d N : Nat} (hct : ct 0 = .int 1) (hO : oOK xt ct d O) {x0 : Nat} {H : mj_H} {q : Int32 × mj_H} (e : CB xt ct O N x0 H = some q) : ∃ c k2, gC H x0 = some c ∧ db c = some k2 ∧ mj_Run kY xt ct (d + 2) k2 0 (lv_args 0 [.ref x0]) [] H (.inl (vI q.1), q.2) := by
  unfold CB at e
  obtain ⟨c, e1, e2⟩ := Option.bind_eq_some_iff.mp e
  obtain ⟨g1, g2, g3⟩ := gE_ok e1
  by_cases h10 : c = 10
  · subst h10
    exact ⟨10, 126, g1, rfl, mj_Run_deep (by omega) (C126_ok hct hO e2)⟩
  · have hb : (c == 10) = false := by simpa using h10
    rw [hb] at e2
    have h4 : c = 6 ∨ c = 7 ∨ c = 8 ∨ c = 9 := by omega
    refine ⟨c, 127, g1, ?_, mj_Run_deep (by omega) (C127_ok (N := N) hct hO e2)⟩
    rcases h4 with rfl | rfl | rfl | rfl <;> rfl
/-- java.lang.AbstractStringBuilder.length()I -/
def C11 (xt : mj_X) (ct : Nat → Value) (O : OR) (N : Nat) (x0 : Nat) (H : mj_H) : Option ((Int32) × mj_H) :=
  (gI H x0 0 3).bind fun r1 =>
  some (r1, H)
theorem C11_ok {xt : mj_X} {ct : Nat → Value} {O : OR} {d N : Nat} (hct : ct 0 = .int 1) (hO : oOK xt ct d O) {x0 : Nat} {H : mj_H} {q : (Int32) × mj_H} (e : C11 xt ct O N x0 H = some q) : mj_Run kY xt ct (d + 1) 11 0 (lv_args 0 [.ref x0]) [] H (.inl (vI q.1), q.2) := by
  unfold C11 at e
  exact (
  r_aloadn c11_0 rfl <|
  t_bd e fun r1 c2 e3 =>
  c_gI c11_1 c2 <|
  (by cases e3; exact (r_iret c11_4 rfl)))
/-- java.lang.StringBuilder.length()I -/
def C10 (xt : mj_X) (ct : Nat → Value) (O : OR) (N : Nat) (x0 : Nat) (H : mj_H) : Option ((Int32) × mj_H) :=
  (gC H x0).bind fun k1 =>
  (C11 xt ct O N x0 H).bind fun r4 =>
  some (r4.1, r4.2)
theorem C10_ok {xt : mj_X} {ct : Nat → Value} {O : OR} {d N : Nat} (hct : ct 0 = .int 1) (hO : oOK xt ct d O) {x0 : Nat} {H : mj_H} {q : (Int32) × mj_H} (e : C10 xt ct O N x0 H = some q) : mj_Run kY xt ct (d + 2) 10 0 (lv_args 0 [.ref x0]) [] H (.inl (vI q.1), q.2) := by
  unfold C10 at e
  exact (
  r_aloadn c10_0 rfl <|
  t_bd e fun k1 c2 e3 =>
  t_bd e3 fun r4 c5 e6 =>
  c_cal (st2 := [.int r4.1]) (s_cp (as := [.ref x0]) (st' := []) c10_1 rfl c2 ⟨Nat.le_of_ble_eq_true rfl, Nat.le_of_ble_eq_true rfl, Nat.le_of_ble_eq_true rfl⟩ rfl rfl) (C11_ok hct hO c5) (Nat.add_lt_add_left (by decide) d) rfl <|
  (by cases e6; exact (r_iret c10_4 rfl)))
/-- DiceOdds.byteOf(JI)I -/
def C12 (xt : mj_X) (ct : Nat → Value) (O : OR) (N : Nat) (x0 : Int64) (x2 : Int32) (H : mj_H) : Option ((Int32) × mj_H) :=
  some ((((x0 >>> (((8 * x2) : Int32).toInt64 &&& 63)) : Int64).toInt32 &&& 255), H)
theorem C12_ok {xt : mj_X} {ct : Nat → Value} {O : OR} {d N : Nat} (hct : ct 0 = .int 1) (hO : oOK xt ct d O) {x0 : Int64} {x2 : Int32} {H : mj_H} {q : (Int32) × mj_H} (e : C12 xt ct O N x0 x2 H = some q) : mj_Run kY xt ct (d + 1) 12 0 (lv_args 0 [.long x0, .int x2]) [] H (.inl (vI q.1), q.2) := by
  unfold C12 at e
  exact (
  r_lloadn c12_0 rfl <|
  r_bipush c12_1 <|
  r_iloadn c12_3 rfl <|
  r_imul c12_4 rfl <|
  r_lshr c12_5 rfl <|
  r_l2i c12_6 rfl <|
  r_sipush c12_7 <|
  r_iand c12_10 rfl <|
  (by cases e; exact (r_iret c12_11 rfl)))
def J18_10 (xt : mj_X) (ct : Nat → Value) (O : OR) (N : Nat) (s0 : Int32) (H : mj_H) : Option ((Int32) × mj_H) :=
  some (s0, H)
theorem J18_10_ok {xt : mj_X} {ct : Nat → Value} {O : OR} {d N : Nat} (hct : ct 0 = .int 1) (hO : oOK xt ct d O) {l : mj_L} {s0 : Int32} {H : mj_H} {q : (Int32) × mj_H}  (e : J18_10 xt ct O N s0 H = some q) : mj_Run kY xt ct (d + 1) 18 10 l [.int s0] H (.inl (vI q.1), q.2) := by
  unfold J18_10 at e
  exact (
  (by cases e; exact (r_iret c18_10 rfl)))
/-- java.lang.Math.max(II)I -/
def C18 (xt : mj_X) (ct : Nat → Value) (O : OR) (N : Nat) (x0 : Int32) (x1 : Int32) (H : mj_H) : Option ((Int32) × mj_H) :=
  bif mj_c2 .lt x0 x1 then
    J18_10 xt ct O N x1 H
  else
  J18_10 xt ct O N x0 H
theorem C18_ok {xt : mj_X} {ct : Nat → Value} {O : OR} {d N : Nat} (hct : ct 0 = .int 1) (hO : oOK xt ct d O) {x0 : Int32} {x1 : Int32} {H : mj_H} {q : (Int32) × mj_H} (e : C18 xt ct O N x0 x1 H = some q) : mj_Run kY xt ct (d + 1) 18 0 (lv_args 0 [.int x0, .int x1]) [] H (.inl (vI q.1), q.2) := by
  unfold C18 at e
  exact (
  r_iloadn c18_0 rfl <|
  r_iloadn c18_1 rfl <|
  t_if e (fun b1 e2 =>
    r_icmpT c18_2 b1 <|
    r_iloadn c18_9 rfl <|
    J18_10_ok hct hO  e2
  ) (fun b1 e2 =>
    r_icmpF c18_2 b1 <|
    r_iloadn c18_5 rfl <|
    r_goto c18_6 <|
    J18_10_ok hct hO  e2
  ))
def J17_21 (xt : mj_X) (ct : Nat → Value) (O : OR) (N : Nat) (x0 : Int32) (x1 : Int32) (H : mj_H) : Option ((Int32) × mj_H) :=
  none
theorem J17_21_ok {xt : mj_X} {ct : Nat → Value} {O : OR} {d N : Nat} (hct : ct 0 = .int 1) (hO : oOK xt ct d O) {l : mj_L} {x0 : Int32} {x1 : Int32} {H : mj_H} {q : (Int32) × mj_H} (f0 : mj_ld l 0 = some (.int x0)) (f1 : mj_ld l 1 = some (.int x1)) (e : J17_21 xt ct O N x0 x1 H = some q) : mj_Run kY xt ct (d + 2) 17 21 l [] H (.inl (vI q.1), q.2) := by
  unfold J17_21 at e
  exact (
  r_iloadn c17_21 f0 <|
  r_iloadn c17_22 f1 <|
  t_no e)
/-- jdk.internal.util.ArraysSupport.newLength(III)I -/
def C17 (xt : mj_X) (ct : Nat → Value) (O : OR) (N : Nat) (x0 : Int32) (x1 : Int32) (x2 : Int32) (H : mj_H) : Option ((Int32) × mj_H) :=
  (C18 xt ct O N x1 x2 H).bind fun r1 =>
  bif mj_c2 .ge 0 (x0 + r1.1) then
    J17_21 xt ct O N x0 x1 r1.2
  else
  bif mj_c2 .gt (x0 + r1.1) 2147483639 then
    J17_21 xt ct O N x0 x1 r1.2
  else
  some ((x0 + r1.1), r1.2)
theorem C17_ok {xt : mj_X} {ct : Nat → Value} {O : OR} {d N : Nat} (hct : ct 0 = .int 1) (hO : oOK xt ct d O) {x0 : Int32} {x1 : Int32} {x2 : Int32} {H : mj_H} {q : (Int32) × mj_H} (e : C17 xt ct O N x0 x1 x2 H = some q) : mj_Run kY xt ct (d + 2) 17 0 (lv_args 0 [.int x0, .int x1, .int x2]) [] H (.inl (vI q.1), q.2) := by
  unfold C17 at e
  exact (
  r_iloadn c17_0 rfl <|
  r_iloadn c17_1 rfl <|
  r_iloadn c17_2 rfl <|
  t_bd e fun r1 c2 e3 =>
  c_cal (st2 := [.int r1.1, .int x0]) (s_cs (as := [.int x1, .int x2]) (st' := [.int x0]) c17_3 ⟨Nat.le_of_ble_eq_true rfl, Nat.le_of_ble_eq_true rfl, Nat.le_of_ble_eq_true rfl⟩ rfl rfl) (C18_ok hct hO c2) (Nat.add_lt_add_left (by decide) d) rfl <|
  r_iadd c17_6 rfl <|
  r_istoren c17_7 <|
  r_iconst c17_8 <|
  r_iloadn c17_9 ld1_eq <|
  t_if e3 (fun b4 e5 =>
    r_icmpT c17_10 b4 <|
    J17_21_ok hct hO (ld1_ne rfl (by decide) (Or.inl (by decide))) (ld1_ne rfl (by decide) (Or.inl (by decide))) e5
  ) (fun b4 e5 =>
    r_icmpF c17_10 b4 <|
    r_iloadn c17_13 ld1_eq <|
    r_ldc c17_14 <|
    t_if e5 (fun b6 e7 =>
      r_icmpT c17_16 b6 <|
      J17_21_ok hct hO (ld1_ne rfl (by decide) (Or.inl (by decide))) (ld1_ne rfl (by decide) (Or.inl (by decide))) e7
    ) (fun b6 e7 =>
      r_icmpF c17_16 b6 <|
      r_iloadn c17_19 ld1_eq <|
      (by cases e7; exact (r_iret c17_20 rfl))
    )
  ))
/-- java.lang.AbstractStringBuilder.newCapacity(I)I -/
def C16 (xt : mj_X) (ct : Nat → Value) (O : OR) (N : Nat) (x0 : Nat) (x1 : Int32) (H : mj_H) : Option ((Int32) × mj_H) :=
  (gA H x0 0 0).bind fun r1 =>
  (aN xt H r1).bind fun r4 =>
  (gI H x0 0 1).bind fun r7 =>
  (gI H x0 0 1).bind fun r10 =>
  (C17 xt ct O N r4 ((x1 <<< (r7 &&& 31)) - r4) (r4 + (2 <<< (r10 &&& 31))) H).bind fun r13 =>
  bif mj_c2 .ne r13.1 2147483647 then
    (gI r13.2 x0 0 1).bind fun r18 =>
    some ((r13.1 >>> (r18 &&& 31)), r13.2)
  else
  none
theorem C16_ok {xt : mj_X} {ct : Nat → Value} {O : OR} {d N : Nat} (hct : ct 0 = .int 1) (hO : oOK xt ct d O) {x0 : Nat} {x1 : Int32} {H : mj_H} {q : (Int32) × mj_H} (e : C16 xt ct O N x0 x1 H = some q) : mj_Run kY xt ct (d + 3) 16 0 (lv_args 0 [.ref x0, .int x1]) [] H (.inl (vI q.1), q.2) := by
  unfold C16 at e
  exact (
  r_aloadn c16_0 rfl <|
  t_bd e fun r1 c2 e3 =>
  c_gA c16_1 c2 <|
  t_bd e3 fun r4 c5 e6 =>
  c_len c16_4 c5 <|
  r_istoren c16_5 <|
  r_iloadn c16_6 (ld1_ne rfl (by decide) (Or.inr rfl)) <|
  r_aloadn c16_7 (ld1_ne rfl (by decide) (Or.inl (by decide))) <|
  t_bd e6 fun r7 c8 e9 =>
  c_gI c16_8 c8 <|
  r_ishl c16_11 rfl <|
  r_istoren c16_12 <|
  r_iloadn c16_13 ld1_eq <|
  r_iloadn c16_14 (ld1_ne ld1_eq (by decide) (Or.inr rfl)) <|
  r_isub c16_15 rfl <|
  r_istore c16_16 <|
  r_iloadn c16_18 (ld1_ne (ld1_ne ld1_eq (by decide) (Or.inr rfl)) (by decide) (Or.inl (by decide))) <|
  r_iload c16_19 ld1_eq <|
  r_iloadn c16_21 (ld1_ne (ld1_ne ld1_eq (by decide) (Or.inr rfl)) (by decide) (Or.inl (by decide))) <|
  r_iconst c16_22 <|
  r_aloadn c16_23 (ld1_ne (ld1_ne (ld1_ne rfl (by decide) (Or.inl (by decide))) (by decide) (Or.inl (by decide))) (by decide) (Or.inl (by decide))) <|
  t_bd e9 fun r10 c11 e12 =>
  c_gI c16_24 c11 <|
  r_ishl c16_27 rfl <|
  r_iadd c16_28 rfl <|
  t_bd e12 fun r13 c14 e15 =>
  c_cal (st2 := [.int r13.1]) (s_cs (as := [.int r4, .int ((x1 <<< (r7 &&& 31)) - r4), .int (r4 + (2 <<< (r10 &&& 31)))]) (st' := []) c16_29 ⟨Nat.le_of_ble_eq_true rfl, Nat.le_of_ble_eq_true rfl, Nat.le_of_ble_eq_true rfl⟩ rfl rfl) (C17_ok hct hO c14) (Nat.add_lt_add_left (by decide) d) rfl <|
  r_istore c16_32 <|
  r_iload c16_34 ld1_eq <|
  r_ldc c16_36 <|
  t_if e15 (fun b16 e17 =>
    r_icmpT c16_38 b16 <|
    r_iload c16_51 ld1_eq <|
    r_aloadn c16_53 (ld1_ne (ld1_ne (ld1_ne (ld1_ne rfl (by decide) (Or.inl (by decide))) (by decide) (Or.inl (by decide))) (by decide) (Or.inl (by decide))) (by decide) (Or.inl (by decide))) <|
    t_bd e17 fun r18 c19 e20 =>
    c_gI c16_54 c19 <|
    r_ishr c16_57 rfl <|
    (by cases e20; exact (r_iret c16_58 rfl))
  ) (fun b16 e17 =>
    r_icmpF c16_38 b16 <|
    t_no e17
  ))
def J21_10 (xt : mj_X) (ct : Nat → Value) (O : OR) (N : Nat) (s0 : Int32) (H : mj_H) : Option ((Int32) × mj_H) :=
  some (s0, H)
theorem J21_10_ok {xt : mj_X} {ct : Nat → Value} {O : OR} {d N : Nat} (hct : ct 0 = .int 1) (hO : oOK xt ct d O) {l : mj_L} {s0 : Int32} {H : mj_H} {q : (Int32) × mj_H}  (e : J21_10 xt ct O N s0 H = some q) : mj_Run kY xt ct (d + 1) 21 10 l [.int s0] H (.inl (vI q.1), q.2) := by
  unfold J21_10 at e
  exact (
  (by cases e; exact (r_iret c21_10 rfl)))
/-- java.lang.Math.min(II)I -/
def C21 (xt : mj_X) (ct : Nat → Value) (O : OR) (N : Nat) (x0 : Int32) (x1 : Int32) (H : mj_H) : Option ((Int32) × mj_H) :=
  bif mj_c2 .gt x0 x1 then
    J21_10 xt ct O N x1 H
  else
  J21_10 xt ct O N x0 H
theorem C21_ok {xt : mj_X} {ct : Nat → Value} {O : OR} {d N : Nat} (hct : ct 0 = .int 1) (hO : oOK xt ct d O) {x0 : Int32} {x1 : Int32} {H : mj_H} {q : (Int32) × mj_H} (e : C21 xt ct O N x0 x1 H = some q) : mj_Run kY xt ct (d + 1) 21 0 (lv_args 0 [.int x0, .int x1]) [] H (.inl (vI q.1), q.2) := by
  unfold C21 at e
  exact (
  r_iloadn c21_0 rfl <|
  r_iloadn c21_1 rfl <|
  t_if e (fun b1 e2 =>
    r_icmpT c21_2 b1 <|
    r_iloadn c21_9 rfl <|
    J21_10_ok hct hO  e2
  ) (fun b1 e2 =>
    r_icmpF c21_2 b1 <|
    r_iloadn c21_5 rfl <|
    r_goto c21_6 <|
    J21_10_ok hct hO  e2
  ))
/-- java.util.Arrays.copyOf([BI)[B -/
def C20 (xt : mj_X) (ct : Nat → Value) (O : OR) (N : Nat) (x0 : Nat) (x1 : Int32) (H : mj_H) : Option ((Nat) × mj_H) :=
  (aN xt H x0).bind fun r1 =>
  bif mj_c2 .ne x1 r1 then
    (nA H .byte x1).bind fun r6 =>
    (aN xt r6.2 x0).bind fun r9 =>
    (C21 xt ct O N r9 x1 r6.2).bind fun r12 =>
    (cY r12.2 x0 0 r6.1 0 r12.1).bind fun H15 =>
    some (r6.1, H15)
  else
  (cLn 9 H x0).bind fun r18 =>
  (cKc 5 r18.2 r18.1).bind fun r21 =>
  some (r18.1, r18.2)
theorem C20_ok {xt : mj_X} {ct : Nat → Value} {O : OR} {d N : Nat} (hct : ct 0 = .int 1) (hO : oOK xt ct d O) {x0 : Nat} {x1 : Int32} {H : mj_H} {q : (Nat) × mj_H} (e : C20 xt ct O N x0 x1 H = some q) : mj_Run kY xt ct (d + 2) 20 0 (lv_args 0 [.ref x0, .int x1]) [] H (.inl (vA q.1), q.2) := by
  unfold C20 at e
  exact (
  r_iloadn c20_0 rfl <|
  r_aloadn c20_1 rfl <|
  t_bd e fun r1 c2 e3 =>
  c_len c20_2 c2 <|
  t_if e3 (fun b4 e5 =>
    r_icmpT c20_3 b4 <|
    r_iloadn c20_14 rfl <|
    t_bd e5 fun r6 c7 e8 =>
    c_nA c20_15 c7 <|
    r_astoren c20_17 <|
    r_aloadn c20_18 (ld1_ne rfl (by decide) (Or.inl (by decide))) <|
    r_iconst c20_19 <|
    r_aloadn c20_20 ld1_eq <|
    r_iconst c20_21 <|
    r_aloadn c20_22 (ld1_ne rfl (by decide) (Or.inl (by decide))) <|
    t_bd e8 fun r9 c10 e11 =>
    c_len c20_23 c10 <|
    r_iloadn c20_24 (ld1_ne rfl (by decide) (Or.inr rfl)) <|
    t_bd e11 fun r12 c13 e14 =>
    c_cal (st2 := [.int r12.1, .int 0, .ref r6.1, .int 0, .ref x0]) (s_cs (as := [.int r9, .int x1]) (st' := [.int 0, .ref r6.1, .int 0, .ref x0]) c20_25 ⟨Nat.le_of_ble_eq_true rfl, Nat.le_of_ble_eq_true rfl, Nat.le_of_ble_eq_true rfl⟩ rfl rfl) (C21_ok hct hO c13) (Nat.add_lt_add_left (by decide) d) rfl <|
    t_bd e14 fun H15 c16 e17 =>
    c_cpy c20_28 (Nat.le_of_ble_eq_true rfl) c16 <|
    r_aloadn c20_31 ld1_eq <|
    (by cases e17; exact (r_aret c20_32))
  ) (fun b4 e5 =>
    r_icmpF c20_3 b4 <|
    r_aloadn c20_6 rfl <|
    t_bd e5 fun r18 c19 e20 =>
    c_cln c20_7 (Nat.le_of_ble_eq_true rfl) c19 <|
    t_bd e20 fun r21 c22 e23 =>
    c_cck c20_10 c22 <|
    (by cases e23; exact (r_aret c20_13))
  ))
def J15_38 (xt : mj_X) (ct : Nat → Value) (O : OR) (N : Nat)  (H : mj_H) : Option (mj_H) :=
  some H
theorem J15_38_ok {xt : mj_X} {ct : Nat → Value} {O : OR} {d N : Nat} (hct : ct 0 = .int 1) (hO : oOK xt ct d O) {l : mj_L}  {H : mj_H} {q : mj_H}  (e : J15_38 xt ct O N  H = some q) : mj_Run kY xt ct (d + 4) 15 38 l [] H (.inl none, q) := by
  unfold J15_38 at e
  exact (
  (by cases e; exact (r_ret c15_38)))
/-- java.lang.AbstractStringBuilder.ensureCapacityInternal(I)V -/
def C15 (xt : mj_X) (ct : Nat → Value) (O : OR) (N : Nat) (x0 : Nat) (x1 : Int32) (H : mj_H) : Option (mj_H) :=
  (gA H x0 0 0).bind fun r1 =>
  (aN xt H r1).bind fun r4 =>
  (gI H x0 0 1).bind fun r7 =>
  bif mj_c1 .le (x1 - (r4 >>> (r7 &&& 31))) then
    J15_38 xt ct O N H
  else
  (gA H x0 0 0).bind fun r12 =>
  (gK H x0 0).bind fun k15 =>
  (C16 xt ct O N x0 x1 H).bind fun r18 =>
  (gI r18.2 x0 0 1).bind fun r21 =>
  (C20 xt ct O N r12 (r18.1 <<< (r21 &&& 31)) r18.2).bind fun r24 =>
  (uF r24.2 x0 0 0 (.ref r24.1)).bind fun H27 =>
  J15_38 xt ct O N H27
theorem C15_ok {xt : mj_X} {ct : Nat → Value} {O : OR} {d N : Nat} (hct : ct 0 = .int 1) (hO : oOK xt ct d O) {x0 : Nat} {x1 : Int32} {H : mj_H} {q : mj_H} (e : C15 xt ct O N x0 x1 H = some q) : mj_Run kY xt ct (d + 4) 15 0 (lv_args 0 [.ref x0, .int x1]) [] H (.inl none, q) := by
  unfold C15 at e
  exact (
  r_aloadn c15_0 rfl <|
  t_bd e fun r1 c2 e3 =>
  c_gA c15_1 c2 <|
  t_bd e3 fun r4 c5 e6 =>
  c_len c15_4 c5 <|
  r_aloadn c15_5 rfl <|
  t_bd e6 fun r7 c8 e9 =>
  c_gI c15_6 c8 <|
  r_ishr c15_9 rfl <|
  r_istoren c15_10 <|
  r_iloadn c15_11 (ld1_ne rfl (by decide) (Or.inr rfl)) <|
  r_iloadn c15_12 ld1_eq <|
  r_isub c15_13 rfl <|
  t_if e9 (fun b10 e11 =>
    r_ifT c15_14 b10 <|
    J15_38_ok hct hO  e11
  ) (fun b10 e11 =>
    r_ifF c15_14 b10 <|
    r_aloadn c15_17 (ld1_ne rfl (by decide) (Or.inl (by decide))) <|
    r_aloadn c15_18 (ld1_ne rfl (by decide) (Or.inl (by decide))) <|
    t_bd e11 fun r12 c13 e14 =>
    c_gA c15_19 c13 <|
    r_aloadn c15_22 (ld1_ne rfl (by decide) (Or.inl (by decide))) <|
    r_iloadn c15_23 (ld1_ne rfl (by decide) (Or.inr rfl)) <|
    t_bd e14 fun k15 c16 e17 =>
    t_bd e17 fun r18 c19 e20 =>
    c_cal (st2 := [.int r18.1, .ref r12, .ref x0]) (s_cv (as := [.ref x0, .int x1]) (st' := [.ref r12, .ref x0]) c15_24 rfl (gK_ok c16) ⟨Nat.le_of_ble_eq_true rfl, Nat.le_of_ble_eq_true rfl, Nat.le_of_ble_eq_true rfl⟩ rfl rfl) (C16_ok hct hO c19) (Nat.add_lt_add_left (by decide) d) rfl <|
    r_aloadn c15_27 (ld1_ne rfl (by decide) (Or.inl (by decide))) <|
    t_bd e20 fun r21 c22 e23 =>
    c_gI c15_28 c22 <|
    r_ishl c15_31 rfl <|
    t_bd e23 fun r24 c25 e26 =>
    c_cal (st2 := [.ref r24.1, .ref x0]) (s_cs (as := [.ref r12, .int (r18.1 <<< (r21 &&& 31))]) (st' := [.ref x0]) c15_32 ⟨Nat.le_of_ble_eq_true rfl, Nat.le_of_ble_eq_true rfl, Nat.le_of_ble_eq_true rfl⟩ rfl rfl) (C20_ok hct hO c25) (Nat.add_lt_add_left (by decide) d) rfl <|
    t_bd e26 fun H27 c28 e29 =>
    c_uF c15_35 ⟨rfl, rfl⟩ c28 <|
    J15_38_ok hct hO  e29
  ))
def J22_18 (xt : mj_X) (ct : Nat → Value) (O : OR) (N : Nat) (s0 : Int32) (H : mj_H) : Option ((Int32) × mj_H) :=
  if narrow .boolean (.int s0) = .int s0 then
  some (s0, H)
  else none
theorem J22_18_ok {xt : mj_X} {ct : Nat → Value} {O : OR} {d N : Nat} (hct : ct 0 = .int 1) (hO : oOK xt ct d O) {l : mj_L} {s0 : Int32} {H : mj_H} {q : (Int32) × mj_H}  (e : J22_18 xt ct O N s0 H = some q) : mj_Run kY xt ct (d + 1) 22 18 l [.int s0] H (.inl (vI q.1), q.2) := by
  unfold J22_18 at e
  exact (
  t_ck e fun z6 e7 =>
  (by cases e7; exact (r_iret c22_18 z6)))
def J22_17 (xt : mj_X) (ct : Nat → Value) (O : OR) (N : Nat)  (H : mj_H) : Option ((Int32) × mj_H) :=
  J22_18 xt ct O N 0 H
theorem J22_17_ok {xt : mj_X} {ct : Nat → Value} {O : OR} {d N : Nat} (hct : ct 0 = .int 1) (hO : oOK xt ct d O) {l : mj_L}  {H : mj_H} {q : (Int32) × mj_H}  (e : J22_17 xt ct O N  H = some q) : mj_Run kY xt ct (d + 1) 22 17 l [] H (.inl (vI q.1), q.2) := by
  unfold J22_17 at e
  exact (
  r_iconst c22_17 <|
  J22_18_ok hct hO  e)
/-- java.lang.AbstractStringBuilder.isLatin1()Z -/
def C22 (xt : mj_X) (ct : Nat → Value) (O : OR) (N : Nat) (x0 : Nat) (H : mj_H) : Option ((Int32) × mj_H) :=
  (gI H x0 0 1).bind fun r1 =>
  bif mj_c1 .ne r1 then
    J22_17 xt ct O N H
  else
  J22_18 xt ct O N 1 H
theorem C22_ok {xt : mj_X} {ct : Nat → Value} {O : OR} {d N : Nat} (hct : ct 0 = .int 1) (hO : oOK xt ct d O) {x0 : Nat} {H : mj_H} {q : (Int32) × mj_H} (e : C22 xt ct O N x0 H = some q) : mj_Run kY xt ct (d + 1) 22 0 (lv_args 0 [.ref x0]) [] H (.inl (vI q.1), q.2) := by
  unfold C22 at e
  exact (
  c_gs0 hct c22_0 <|
  r_ifF c22_3 (by decide) <|
  r_aloadn c22_6 rfl <|
  t_bd e fun r1 c2 e3 =>
  c_gI c22_7 c2 <|
  t_if e3 (fun b4 e5 =>
    r_ifT c22_10 b4 <|
    J22_17_ok hct hO  e5
  ) (fun b4 e5 =>
    r_ifF c22_10 b4 <|
    r_iconst c22_13 <|
    r_goto c22_14 <|
    J22_18_ok hct hO  e5
  ))
def J23_12 (xt : mj_X) (ct : Nat → Value) (O : OR) (N : Nat) (s0 : Int32) (H : mj_H) : Option ((Int32) × mj_H) :=
  if narrow .boolean (.int s0) = .int s0 then
  some (s0, H)
  else none
theorem J23_12_ok {xt : mj_X} {ct : Nat → Value} {O : OR} {d N : Nat} (hct : ct 0 = .int 1) (hO : oOK xt ct d O) {l : mj_L} {s0 : Int32} {H : mj_H} {q : (Int32) × mj_H}  (e : J23_12 xt ct O N s0 H = some q) : mj_Run kY xt ct (d + 1) 23 12 l [.int s0] H (.inl (vI q.1), q.2) := by
  unfold J23_12 at e
  exact (
  t_ck e fun z3 e4 =>
  (by cases e4; exact (r_iret c23_12 z3)))
/-- java.lang.StringLatin1.canEncode(C)Z -/
def C23 (xt : mj_X) (ct : Nat → Value) (O : OR) (N : Nat) (x0 : Int32) (H : mj_H) : Option ((Int32) × mj_H) :=
  bif mj_c2 .gt x0 255 then
    J23_12 xt ct O N 0 H
  else
  J23_12 xt ct O N 1 H
theorem C23_ok {xt : mj_X} {ct : Nat → Value} {O : OR} {d N : Nat} (hct : ct 0 = .int 1) (hO : oOK xt ct d O) {x0 : Int32} {H : mj_H} {q : (Int32) × mj_H} (e : C23 xt ct O N x0 H = some q) : mj_Run kY xt ct (d + 1) 23 0 (lv_args 0 [.int x0]) [] H (.inl (vI q.1), q.2) := by
  unfold C23 at e
  exact (
  r_iloadn c23_0 rfl <|
  r_sipush c23_1 <|
  t_if e (fun b1 e2 =>
    r_icmpT c23_4 b1 <|
    r_iconst c23_11 <|
    J23_12_ok hct hO  e2
  ) (fun b1 e2 =>
    r_icmpF c23_4 b1 <|
    r_iconst c23_7 <|
    r_goto c23_8 <|
    J23_12_ok hct hO  e2
  ))
def J14_56 (xt : mj_X) (ct : Nat → Value) (O : OR) (N : Nat) (x0 : Nat) (x1 : Int32) (H : mj_H) : Option ((Nat) × mj_H) :=
  (gA H x0 0 0).bind fun r26 =>
  (gI H x0 0 3).bind fun r29 =>
  (uF H x0 0 3 (.int (r29 + 1))).bind fun H32 =>
  none
theorem J14_56_ok {xt : mj_X} {ct : Nat → Value} {O : OR} {d N : Nat} (hct : ct 0 = .int 1) (hO : oOK xt ct d O) {l : mj_L} {x0 : Nat} {x1 : Int32} {H : mj_H} {q : (Nat) × mj_H} (f0 : mj_ld l 0 = some (.ref x0)) (f1 : mj_ld l 1 = some (.int x1)) (e : J14_56 xt ct O N x0 x1 H = some q) : mj_Run kY xt ct (d + 5) 14 56 l [] H (.inl (vA q.1), q.2) := by
  unfold J14_56 at e
  exact (
  r_aloadn c14_56 f0 <|
  t_bd e fun r26 c27 e28 =>
  c_gA c14_57 c27 <|
  r_aloadn c14_60 f0 <|
  r_dup c14_61 rfl <|
  t_bd e28 fun r29 c30 e31 =>
  c_gI c14_62 c30 <|
  r_dupx1 c14_65 ⟨rfl, rfl⟩ <|
  r_iconst c14_66 <|
  r_iadd c14_67 rfl <|
  t_bd e31 fun H32 c33 e34 =>
  c_uF c14_68 ⟨rfl, rfl⟩ c33 <|
  r_iloadn c14_71 f1 <|
  t_no e34)
def J14_45 (xt : mj_X) (ct : Nat → Value) (O : OR) (N : Nat) (x0 : Nat) (x1 : Int32) (H : mj_H) : Option ((Nat) × mj_H) :=
  (gK H x0 0).bind fun k18 =>
  (C22 xt ct O N x0 H).bind fun r21 =>
  bif mj_c1 .eq r21.1 then
    J14_56 xt ct O N x0 x1 r21.2
  else
  none
theorem J14_45_ok {xt : mj_X} {ct : Nat → Value} {O : OR} {d N : Nat} (hct : ct 0 = .int 1) (hO : oOK xt ct d O) {l : mj_L} {x0 : Nat} {x1 : Int32} {H : mj_H} {q : (Nat) × mj_H} (f0 : mj_ld l 0 = some (.ref x0)) (f1 : mj_ld l 1 = some (.int x1)) (e : J14_45 xt ct O N x0 x1 H = some q) : mj_Run kY xt ct (d + 5) 14 45 l [] H (.inl (vA q.1), q.2) := by
  unfold J14_45 at e
  exact (
  r_aloadn c14_45 f0 <|
  t_bd e fun k18 c19 e20 =>
  t_bd e20 fun r21 c22 e23 =>
  c_cal (st2 := [.int r21.1]) (s_cv (as := [.ref x0]) (st' := []) c14_46 rfl (gK_ok c19) ⟨Nat.le_of_ble_eq_true rfl, Nat.le_of_ble_eq_true rfl, Nat.le_of_ble_eq_true rfl⟩ rfl rfl) (C22_ok hct hO c22) (Nat.add_lt_add_left (by decide) d) rfl <|
  t_if e23 (fun b24 e25 =>
    r_ifT c14_49 b24 <|
    J14_56_ok hct hO f0 f1 e25
  ) (fun b24 e25 =>
    r_ifF c14_49 b24 <|
    r_aloadn c14_52 f0 <|
    t_no e25
  ))
def J14_75 (xt : mj_X) (ct : Nat → Value) (O : OR) (N : Nat) (x0 : Nat) (H : mj_H) : Option ((Nat) × mj_H) :=
  some (x0, H)
theorem J14_75_ok {xt : mj_X} {ct : Nat → Value} {O : OR} {d N : Nat} (hct : ct 0 = .int 1) (hO : oOK xt ct d O) {l : mj_L} {x0 : Nat} {H : mj_H} {q : (Nat) × mj_H} (f0 : mj_ld l 0 = some (.ref x0)) (e : J14_75 xt ct O N x0 H = some q) : mj_Run kY xt ct (d + 5) 14 75 l [] H (.inl (vA q.1), q.2) := by
  unfold J14_75 at e
  exact (
  r_aloadn c14_75 f0 <|
  (by cases e; exact (r_aret c14_76)))
/-- java.lang.AbstractStringBuilder.append(C)Ljava/lang/AbstractStringBuilder; -/
def C14 (xt : mj_X) (ct : Nat → Value) (O : OR) (N : Nat) (x0 : Nat) (x1 : Int32) (H : mj_H) : Option ((Nat) × mj_H) :=
  (gI H x0 0 3).bind fun r1 =>
  (gK H x0 0).bind fun k4 =>
  (C15 xt ct O N x0 (r1 + 1) H).bind fun r7 =>
  (gK r7 x0 0).bind fun k10 =>
  (C22 xt ct O N x0 r7).bind fun r13 =>
  bif mj_c1 .eq r13.1 then
    J14_45 xt ct O N x0 x1 r13.2
  else
  (C23 xt ct O N x1 r13.2).bind fun r35 =>
  bif mj_c1 .eq r35.1 then
    J14_45 xt ct O N x0 x1 r35.2
  else
  (gA r35.2 x0 0 0).bind fun r40 =>
  (gI r35.2 x0 0 3).bind fun r43 =>
  (uF r35.2 x0 0 3 (.int (r43 + 1))).bind fun H46 =>
  (sN .byte H46 r40 r43 (x1 : Int32).toInt8.toInt32).bind fun H49 =>
  J14_75 xt ct O N x0 H49
theorem C14_ok {xt : mj_X} {ct : Nat → Value} {O : OR} {d N : Nat} (hct : ct 0 = .int 1) (hO : oOK xt ct d O) {x0 : Nat} {x1 : Int32} {H : mj_H} {q : (Nat) × mj_H} (e : C14 xt ct O N x0 x1 H = some q) : mj_Run kY xt ct (d + 5) 14 0 (lv_args 0 [.ref x0, .int x1]) [] H (.inl (vA q.1), q.2) := by
  unfold C14 at e
  exact (
  r_aloadn c14_0 rfl <|
  r_aloadn c14_1 rfl <|
  t_bd e fun r1 c2 e3 =>
  c_gI c14_2 c2 <|
  r_iconst c14_5 <|
  r_iadd c14_6 rfl <|
  t_bd e3 fun k4 c5 e6 =>
  t_bd e6 fun r7 c8 e9 =>
  c_cal (st2 := []) (s_cv (as := [.ref x0, .int (r1 + 1)]) (st' := []) c14_7 rfl (gK_ok c5) ⟨Nat.le_of_ble_eq_true rfl, Nat.le_of_ble_eq_true rfl, Nat.le_of_ble_eq_true rfl⟩ rfl rfl) (C15_ok hct hO c8) (Nat.add_lt_add_left (by decide) d) rfl <|
  r_aloadn c14_10 rfl <|
  t_bd e9 fun k10 c11 e12 =>
  t_bd e12 fun r13 c14 e15 =>
  c_cal (st2 := [.int r13.1]) (s_cv (as := [.ref x0]) (st' := []) c14_11 rfl (gK_ok c11) ⟨Nat.le_of_ble_eq_true rfl, Nat.le_of_ble_eq_true rfl, Nat.le_of_ble_eq_true rfl⟩ rfl rfl) (C22_ok hct hO c14) (Nat.add_lt_add_left (by decide) d) rfl <|
  t_if e15 (fun b16 e17 =>
    r_ifT c14_14 b16 <|
    J14_45_ok hct hO rfl rfl e17
  ) (fun b16 e17 =>
    r_ifF c14_14 b16 <|
    r_iloadn c14_17 rfl <|
    t_bd e17 fun r35 c36 e37 =>
    c_cal (st2 := [.int r35.1]) (s_cs (as := [.int x1]) (st' := []) c14_18 ⟨Nat.le_of_ble_eq_true rfl, Nat.le_of_ble_eq_true rfl, Nat.le_of_ble_eq_true rfl⟩ rfl rfl) (C23_ok hct hO c36) (Nat.add_lt_add_left (by decide) d) rfl <|
    t_if e37 (fun b38 e39 =>
      r_ifT c14_21 b38 <|
      J14_45_ok hct hO rfl rfl e39
    ) (fun b38 e39 =>
      r_ifF c14_21 b38 <|
      r_aloadn c14_24 rfl <|
      t_bd e39 fun r40 c41 e42 =>
      c_gA c14_25 c41 <|
      r_aloadn c14_28 rfl <|
      r_dup c14_29 rfl <|
      t_bd e42 fun r43 c44 e45 =>
      c_gI c14_30 c44 <|
      r_dupx1 c14_33 ⟨rfl, rfl⟩ <|
      r_iconst c14_34 <|
      r_iadd c14_35 rfl <|
      t_bd e45 fun H46 c47 e48 =>
      c_uF c14_36 ⟨rfl, rfl⟩ c47 <|
      r_iloadn c14_39 rfl <|
      r_i2b c14_40 rfl <|
      t_bd e48 fun H49 c50 e51 =>
      c_sB c14_41 c50 <|
      r_goto c14_42 <|
      J14_75_ok hct hO rfl e51
    )
  ))
/-- java.lang.StringBuilder.append(C)Ljava/lang/StringBuilder; -/
def C13 (xt : mj_X) (ct : Nat → Value) (O : OR) (N : Nat) (x0 : Nat) (x1 : Int32) (H : mj_H) : Option ((Nat) × mj_H) :=
  (gC H x0).bind fun k1 =>
  (C14 xt ct O N x0 x1 H).bind fun r4 =>
  some (x0, r4.2)
theorem C13_ok {xt : mj_X} {ct : Nat → Value} {O : OR} {d N : Nat} (hct : ct 0 = .int 1) (hO : oOK xt ct d O) {x0 : Nat} {x1 : Int32} {H : mj_H} {q : (Nat) × mj_H} (e : C13 xt ct O N x0 x1 H = some q) : mj_Run kY xt ct (d + 6) 13 0 (lv_args 0 [.ref x0, .int x1]) [] H (.inl (vA q.1), q.2) := by
  unfold C13 at e
  exact (
  r_aloadn c13_0 rfl <|
  r_iloadn c13_1 rfl <|
  t_bd e fun k1 c2 e3 =>
  t_bd e3 fun r4 c5 e6 =>
  c_cal (st2 := [.ref r4.1]) (s_cp (as := [.ref x0, .int x1]) (st' := []) c13_2 rfl c2 ⟨Nat.le_of_ble_eq_true rfl, Nat.le_of_ble_eq_true rfl, Nat.le_of_ble_eq_true rfl⟩ rfl rfl) (C14_ok hct hO c5) (Nat.add_lt_add_left (by decide) d) rfl <|
  r_pop c13_5 rfl <|
  r_aloadn c13_6 rfl <|
  (by cases e6; exact (r_aret c13_7)))
def J9_26 (xt : mj_X) (ct : Nat → Value) (O : OR) (N : Nat)  (H : mj_H) : Option ((Int32) × mj_H) :=
  some ((-1000), H)
theorem J9_26_ok {xt : mj_X} {ct : Nat → Value} {O : OR} {d N : Nat} (hct : ct 0 = .int 1) (hO : oOK xt ct d O) {l : mj_L}  {H : mj_H} {q : (Int32) × mj_H}  (e : J9_26 xt ct O N  H = some q) : mj_Run kY xt ct (d + 7) 9 26 l [] H (.inl (vI q.1), q.2) := by
  unfold J9_26 at e
  exact (
  r_sipush c9_26 <|
  (by cases e; exact (r_iret c9_29 rfl)))
def LG9_33 (xt : mj_X) (ct : Nat → Value) (d : Nat) (q : (Int32) × mj_H) (x0 : Nat) (x1 : Int64) (x3 : Int32) (x4 : Int32) (H : mj_H) : Prop := ∀ l, mj_ld l 0 = some (.ref x0) → mj_ld l 1 = some (.long x1) → mj_ld l 3 = some (.int x3) → mj_ld l 4 = some (.int x4) → mj_Run kY xt ct (d + 7) 9 33 l [] H (.inl (vI q.1), q.2)
def GG9_33 (xt : mj_X) (ct : Nat → Value) (d : Nat) (q : (Int32) × mj_H) (o : (Nat × Int64 × Int32 × Int32 × mj_H) ⊕ ((Int32) × mj_H)) : Prop := match o with
  | .inl (x0, x1, x3, x4, H) => LG9_33 xt ct d q x0 x1 x3 x4 H
  | .inr r => r = q
def LG9_76 (xt : mj_X) (ct : Nat → Value) (d : Nat) (q : (Int32) × mj_H) (x0 : Nat) (x1 : Int64) (x4 : Int32) (H : mj_H) : Prop := ∀ l, mj_ld l 0 = some (.ref x0) → mj_ld l 1 = some (.long x1) → mj_ld l 4 = some (.int x4) → mj_Run kY xt ct (d + 7) 9 76 l [] H (.inl (vI q.1), q.2)
def GG9_76 (xt : mj_X) (ct : Nat → Value) (d : Nat) (q : (Int32) × mj_H) (o : (Nat × Int64 × Int32 × mj_H) ⊕ ((Int32) × mj_H)) : Prop := match o with
  | .inl (x0, x1, x4, H) => LG9_76 xt ct d q x0 x1 x4 H
  | .inr r => r = q
def B9_76 (xt : mj_X) (ct : Nat → Value) (O : OR) (N : Nat) (s : Nat × Int64 × Int32 × mj_H) : Option ((Nat × Int64 × Int32 × mj_H) ⊕ ((Int32) × mj_H)) :=
  bif mj_c1 .lt s.2.2.1 then
    (gA s.2.2.2 s.1 5 0).bind fun r20 =>
    (gK s.2.2.2 r20 0).bind fun k23 =>
    (C10 xt ct O N r20 s.2.2.2).bind fun r26 =>
    some (.inr (r26.1, r26.2))
  else
  (gA s.2.2.2 s.1 5 0).bind fun r29 =>
  (C12 xt ct O N s.2.1 s.2.2.1 s.2.2.2).bind fun r32 =>
  (gK r32.2 r29 0).bind fun k35 =>
  (C13 xt ct O N r29 ((r32.1 : Int32).toUInt32 % 65536).toInt32 r32.2).bind fun r38 =>
  some (.inl (s.1, s.2.1, (s.2.2.1 + (-1)), r38.2))
def L9_76 (xt : mj_X) (ct : Nat → Value) (O : OR) (N : Nat) (s : Nat × Int64 × Int32 × mj_H) : Option ((Int32) × mj_H) := t_lp (B9_76 xt ct O N) N s
theorem B9_76_ok {xt : mj_X} {ct : Nat → Value} {O : OR} {d N : Nat} (hct : ct 0 = .int 1) (hO : oOK xt ct d O) {s : Nat × Int64 × Int32 × mj_H} {o : (Nat × Int64 × Int32 × mj_H) ⊕ ((Int32) × mj_H)} {q : (Int32) × mj_H} (e : B9_76 xt ct O N s = some o) (g : GG9_76 xt ct d q o) : LG9_76 xt ct d q s.1 s.2.1 s.2.2.1 s.2.2.2 := by
  unfold B9_76 at e
  exact (fun l f0 f1 f4 =>
  r_iload c9_76 f4 <|
  t_if e (fun b18 e19 =>
    r_ifT c9_78 b18 <|
    r_aloadn c9_102 f0 <|
    t_bd e19 fun r20 c21 e22 =>
    c_gA c9_103 c21 <|
    t_bd e22 fun k23 c24 e25 =>
    t_bd e25 fun r26 c27 e28 =>
    c_cal (st2 := [.int r26.1]) (s_cv (as := [.ref r20]) (st' := []) c9_106 rfl (gK_ok c24) ⟨Nat.le_of_ble_eq_true rfl, Nat.le_of_ble_eq_true rfl, Nat.le_of_ble_eq_true rfl⟩ rfl rfl) (C10_ok hct hO c27) (Nat.add_lt_add_left (by decide) d) rfl <|
    t_rg e28 g (fun (z : (r26.1, r26.2) = q) => (by cases z; exact (r_iret c9_109 rfl)))
  ) (fun b18 e19 =>
    r_ifF c9_78 b18 <|
    r_aloadn c9_81 f0 <|
    t_bd e19 fun r29 c30 e31 =>
    c_gA c9_82 c30 <|
    r_lloadn c9_85 f1 <|
    r_iload c9_86 f4 <|
    t_bd e31 fun r32 c33 e34 =>
    c_cal (st2 := [.int r32.1, .ref r29]) (s_cs (as := [.long s.2.1, .int s.2.2.1]) (st' := [.ref r29]) c9_88 ⟨Nat.le_of_ble_eq_true rfl, Nat.le_of_ble_eq_true rfl, Nat.le_of_ble_eq_true rfl⟩ rfl rfl) (C12_ok hct hO c33) (Nat.add_lt_add_left (by decide) d) rfl <|
    r_i2c c9_91 rfl <|
    t_bd e34 fun k35 c36 e37 =>
    t_bd e37 fun r38 c39 e40 =>
    c_cal (st2 := [.ref r38.1]) (s_cv (as := [.ref r29, .int ((r32.1 : Int32).toUInt32 % 65536).toInt32]) (st' := []) c9_92 rfl (gK_ok c36) ⟨Nat.le_of_ble_eq_true rfl, Nat.le_of_ble_eq_true rfl, Nat.le_of_ble_eq_true rfl⟩ rfl rfl) (C13_ok hct hO c39) (Nat.add_lt_add_left (by decide) d) rfl <|
    r_pop c9_95 rfl <|
    r_iinc c9_96 f4 <|
    r_goto c9_99 <|
    t_rg e40 g (fun (z : LG9_76 xt ct d q s.1 s.2.1 (s.2.2.1 + (-1)) r38.2) => z _ (ld1_ne f0 (by decide) (Or.inl (by decide))) (ld1_ne f1 (by decide) (Or.inl (by decide))) ld1_eq)
  ))
theorem L9_76_ok {xt : mj_X} {ct : Nat → Value} {O : OR} {d N : Nat} (hct : ct 0 = .int 1) (hO : oOK xt ct d O) {x0 : Nat} {x1 : Int64} {x4 : Int32} {H : mj_H} {q : (Int32) × mj_H} (e : L9_76 xt ct O N (x0, x1, x4, H) = some q) : LG9_76 xt ct d q x0 x1 x4 H :=
  t_lp_ok (G := fun s => LG9_76 xt ct d q s.1 s.2.1 s.2.2.1 s.2.2.2) (fun s s' e g => B9_76_ok hct hO e (by obtain ⟨_, _, _, _⟩ := s'; exact g)) (fun s e => B9_76_ok hct hO e rfl) N (x0, x1, x4, H) e
def J9_61 (xt : mj_X) (ct : Nat → Value) (O : OR) (N : Nat)  (H : mj_H) : Option ((Int32) × mj_H) :=
  some ((-1000), H)
theorem J9_61_ok {xt : mj_X} {ct : Nat → Value} {O : OR} {d N : Nat} (hct : ct 0 = .int 1) (hO : oOK xt ct d O) {l : mj_L}  {H : mj_H} {q : (Int32) × mj_H}  (e : J9_61 xt ct O N  H = some q) : mj_Run kY xt ct (d + 7) 9 61 l [] H (.inl (vI q.1), q.2) := by
  unfold J9_61 at e
  exact (
  r_sipush c9_61 <|
  (by cases e; exact (r_iret c9_64 rfl)))
def B9_33 (xt : mj_X) (ct : Nat → Value) (O : OR) (N : Nat) (s : Nat × Int64 × Int32 × Int32 × mj_H) : Option ((Nat × Int64 × Int32 × Int32 × mj_H) ⊕ ((Int32) × mj_H)) :=
  bif mj_c2 .ge s.2.2.2.1 s.2.2.1 then
    (L9_76 xt ct O N (s.1, s.2.1, (s.2.2.1 - 1), s.2.2.2.2)).map Sum.inr
  else
  (C12 xt ct O N s.2.1 s.2.2.2.1 s.2.2.2.2).bind fun r45 =>
  bif mj_c2 .lt r45.1 33 then
    (J9_61 xt ct O N r45.2).map Sum.inr
  else
  bif mj_c2 .le r45.1 126 then
    some (.inl (s.1, s.2.1, s.2.2.1, (s.2.2.2.1 + 1), r45.2))
  else
  (J9_61 xt ct O N r45.2).map Sum.inr
def L9_33 (xt : mj_X) (ct : Nat → Value) (O : OR) (N : Nat) (s : Nat × Int64 × Int32 × Int32 × mj_H) : Option ((Int32) × mj_H) := t_lp (B9_33 xt ct O N) N s
theorem B9_33_ok {xt : mj_X} {ct : Nat → Value} {O : OR} {d N : Nat} (hct : ct 0 = .int 1) (hO : oOK xt ct d O) {s : Nat × Int64 × Int32 × Int32 × mj_H} {o : (Nat × Int64 × Int32 × Int32 × mj_H) ⊕ ((Int32) × mj_H)} {q : (Int32) × mj_H} (e : B9_33 xt ct O N s = some o) (g : GG9_33 xt ct d q o) : LG9_33 xt ct d q s.1 s.2.1 s.2.2.1 s.2.2.2.1 s.2.2.2.2 := by
  unfold B9_33 at e
  exact (fun l f0 f1 f3 f4 =>
  r_iload c9_33 f4 <|
  r_iloadn c9_35 f3 <|
  t_if e (fun b16 e17 =>
    r_icmpT c9_36 b16 <|
    r_iloadn c9_71 f3 <|
    r_iconst c9_72 <|
    r_isub c9_73 rfl <|
    r_istore c9_74 <|
    t_up e17 fun o41 e42 u43 =>
    (fun (g44 : o41 = q) =>
    by subst g44; exact (L9_76_ok hct hO e42 _ (ld1_ne f0 (by decide) (Or.inl (by decide))) (ld1_ne f1 (by decide) (Or.inl (by decide))) ld1_eq)
    ) (by have := g; rw [u43] at this; exact this)
  ) (fun b16 e17 =>
    r_icmpF c9_36 b16 <|
    r_lloadn c9_39 f1 <|
    r_iload c9_40 f4 <|
    t_bd e17 fun r45 c46 e47 =>
    c_cal (st2 := [.int r45.1]) (s_cs (as := [.long s.2.1, .int s.2.2.2.1]) (st' := []) c9_42 ⟨Nat.le_of_ble_eq_true rfl, Nat.le_of_ble_eq_true rfl, Nat.le_of_ble_eq_true rfl⟩ rfl rfl) (C12_ok hct hO c46) (Nat.add_lt_add_left (by decide) d) rfl <|
    r_istore c9_45 <|
    r_iload c9_47 ld1_eq <|
    r_bipush c9_49 <|
    t_if e47 (fun b48 e49 =>
      r_icmpT c9_51 b48 <|
      t_up e49 fun o50 e51 u52 =>
      (fun (g53 : o50 = q) =>
      by subst g53; exact (J9_61_ok hct hO  e51)
      ) (by have := g; rw [u52] at this; exact this)
    ) (fun b48 e49 =>
      r_icmpF c9_51 b48 <|
      r_iload c9_54 ld1_eq <|
      r_bipush c9_56 <|
      t_if e49 (fun b54 e55 =>
        r_icmpT c9_58 b54 <|
        r_iinc c9_65 (ld1_ne f4 (by decide) (Or.inr rfl)) <|
        r_goto c9_68 <|
        t_rg e55 g (fun (z : LG9_33 xt ct d q s.1 s.2.1 s.2.2.1 (s.2.2.2.1 + 1) r45.2) => z _ (ld1_ne (ld1_ne f0 (by decide) (Or.inl (by decide))) (by decide) (Or.inl (by decide))) (ld1_ne (ld1_ne f1 (by decide) (Or.inl (by decide))) (by decide) (Or.inl (by decide))) (ld1_ne (ld1_ne f3 (by decide) (Or.inl (by decide))) (by decide) (Or.inr rfl)) ld1_eq)
      ) (fun b54 e55 =>
        r_icmpF c9_58 b54 <|
        t_up e55 fun o56 e57 u58 =>
        (fun (g59 : o56 = q) =>
        by subst g59; exact (J9_61_ok hct hO  e57)
        ) (by have := g; rw [u58] at this; exact this)
      )
    )
  ))
theorem L9_33_ok {xt : mj_X} {ct : Nat → Value} {O : OR} {d N : Nat} (hct : ct 0 = .int 1) (hO : oOK xt ct d O) {x0 : Nat} {x1 : Int64} {x3 : Int32} {x4 : Int32} {H : mj_H} {q : (Int32) × mj_H} (e : L9_33 xt ct O N (x0, x1, x3, x4, H) = some q) : LG9_33 xt ct d q x0 x1 x3 x4 H :=
  t_lp_ok (G := fun s => LG9_33 xt ct d q s.1 s.2.1 s.2.2.1 s.2.2.2.1 s.2.2.2.2) (fun s s' e g => B9_33_ok hct hO e (by obtain ⟨_, _, _, _, _⟩ := s'; exact g)) (fun s e => B9_33_ok hct hO e rfl) N (x0, x1, x3, x4, H) e
/-- DiceOdds.type(JI)I -/
def C9 (xt : mj_X) (ct : Nat → Value) (O : OR) (N : Nat) (x0 : Nat) (x1 : Int64) (x3 : Int32) (H : mj_H) : Option ((Int32) × mj_H) :=
  bif mj_c2 .lt x3 1 then
    J9_26 xt ct O N H
  else
  bif mj_c2 .gt x3 8 then
    J9_26 xt ct O N H
  else
  (gA H x0 5 0).bind fun r5 =>
  (gK H r5 0).bind fun k8 =>
  (C10 xt ct O N r5 H).bind fun r11 =>
  bif mj_c2 .le (r11.1 + x3) 160 then
    L9_33 xt ct O N (x0, x1, x3, 0, r11.2)
  else
  J9_26 xt ct O N r11.2
theorem C9_ok {xt : mj_X} {ct : Nat → Value} {O : OR} {d N : Nat} (hct : ct 0 = .int 1) (hO : oOK xt ct d O) {x0 : Nat} {x1 : Int64} {x3 : Int32} {H : mj_H} {q : (Int32) × mj_H} (e : C9 xt ct O N x0 x1 x3 H = some q) : mj_Run kY xt ct (d + 7) 9 0 (lv_args 0 [.ref x0, .long x1, .int x3]) [] H (.inl (vI q.1), q.2) := by
  unfold C9 at e
  exact (
  r_iloadn c9_0 rfl <|
  r_iconst c9_1 <|
  t_if e (fun b1 e2 =>
    r_icmpT c9_2 b1 <|
    J9_26_ok hct hO  e2
  ) (fun b1 e2 =>
    r_icmpF c9_2 b1 <|
    r_iloadn c9_5 rfl <|
    r_bipush c9_6 <|
    t_if e2 (fun b3 e4 =>
      r_icmpT c9_8 b3 <|
      J9_26_ok hct hO  e4
    ) (fun b3 e4 =>
      r_icmpF c9_8 b3 <|
      r_aloadn c9_11 rfl <|
      t_bd e4 fun r5 c6 e7 =>
      c_gA c9_12 c6 <|
      t_bd e7 fun k8 c9 e10 =>
      t_bd e10 fun r11 c12 e13 =>
      c_cal (st2 := [.int r11.1]) (s_cv (as := [.ref r5]) (st' := []) c9_15 rfl (gK_ok c9) ⟨Nat.le_of_ble_eq_true rfl, Nat.le_of_ble_eq_true rfl, Nat.le_of_ble_eq_true rfl⟩ rfl rfl) (C10_ok hct hO c12) (Nat.add_lt_add_left (by decide) d) rfl <|
      r_iloadn c9_18 rfl <|
      r_iadd c9_19 rfl <|
      r_sipush c9_20 <|
      t_if e13 (fun b14 e15 =>
        r_icmpT c9_23 b14 <|
        r_iconst c9_30 <|
        r_istore c9_31 <|
        L9_33_ok hct hO e15 _ (ld1_ne rfl (by decide) (Or.inl (by decide))) (ld1_ne rfl (by decide) (Or.inl (by decide))) (ld1_ne rfl (by decide) (Or.inr rfl)) ld1_eq
      ) (fun b14 e15 =>
        r_icmpF c9_23 b14 <|
        J9_26_ok hct hO  e15
      )
    )
  ))
def J38_76 (xt : mj_X) (ct : Nat → Value) (O : OR) (N : Nat) (x0 : Nat) (x1 : Int32) (H : mj_H) : Option (mj_H) :=
  (uF H x0 0 3 (.int x1)).bind fun H19 =>
  some H19
theorem J38_76_ok {xt : mj_X} {ct : Nat → Value} {O : OR} {d N : Nat} (hct : ct 0 = .int 1) (hO : oOK xt ct d O) {l : mj_L} {x0 : Nat} {x1 : Int32} {H : mj_H} {q : mj_H} (f0 : mj_ld l 0 = some (.ref x0)) (f1 : mj_ld l 1 = some (.int x1)) (e : J38_76 xt ct O N x0 x1 H = some q) : mj_Run kY xt ct (d + 5) 38 76 l [] H (.inl none, q) := by
  unfold J38_76 at e
  exact (
  r_aloadn c38_76 f0 <|
  r_iloadn c38_77 f1 <|
  t_bd e fun H19 c20 e21 =>
  c_uF c38_78 ⟨rfl, rfl⟩ c20 <|
  (by cases e21; exact (r_ret c38_81)))
/-- java.lang.AbstractStringBuilder.setLength(I)V -/
def C38 (xt : mj_X) (ct : Nat → Value) (O : OR) (N : Nat) (x0 : Nat) (x1 : Int32) (H : mj_H) : Option (mj_H) :=
  bif mj_c1 .ge x1 then
    (gK H x0 0).bind fun k3 =>
    (C15 xt ct O N x0 x1 H).bind fun r6 =>
    (gI r6 x0 0 3).bind fun r9 =>
    bif mj_c2 .ge r9 x1 then
      (gI r6 x0 0 3).bind fun r14 =>
      bif mj_c2 .le r14 x1 then
        J38_76 xt ct O N x0 x1 r6
      else
      (uF r6 x0 0 2 (.int 1)).bind fun H22 =>
      J38_76 xt ct O N x0 x1 H22
    else
    (gK r6 x0 0).bind fun k25 =>
    (C22 xt ct O N x0 r6).bind fun r28 =>
    bif mj_c1 .eq r28.1 then
      (gA r28.2 x0 0 0).bind fun r33 =>
      (gI r28.2 x0 0 3).bind fun r36 =>
      none
    else
    (gA r28.2 x0 0 0).bind fun r39 =>
    (gI r28.2 x0 0 3).bind fun r42 =>
    none
  else
  none
theorem C38_ok {xt : mj_X} {ct : Nat → Value} {O : OR} {d N : Nat} (hct : ct 0 = .int 1) (hO : oOK xt ct d O) {x0 : Nat} {x1 : Int32} {H : mj_H} {q : mj_H} (e : C38 xt ct O N x0 x1 H = some q) : mj_Run kY xt ct (d + 5) 38 0 (lv_args 0 [.ref x0, .int x1]) [] H (.inl none, q) := by
  unfold C38 at e
  exact (
  r_iloadn c38_0 rfl <|
  t_if e (fun b1 e2 =>
    r_ifT c38_1 b1 <|
    r_aloadn c38_13 rfl <|
    r_iloadn c38_14 rfl <|
    t_bd e2 fun k3 c4 e5 =>
    t_bd e5 fun r6 c7 e8 =>
    c_cal (st2 := []) (s_cv (as := [.ref x0, .int x1]) (st' := []) c38_15 rfl (gK_ok c4) ⟨Nat.le_of_ble_eq_true rfl, Nat.le_of_ble_eq_true rfl, Nat.le_of_ble_eq_true rfl⟩ rfl rfl) (C15_ok hct hO c7) (Nat.add_lt_add_left (by decide) d) rfl <|
    r_aloadn c38_18 rfl <|
    t_bd e8 fun r9 c10 e11 =>
    c_gI c38_19 c10 <|
    r_iloadn c38_22 rfl <|
    t_if e11 (fun b12 e13 =>
      r_icmpT c38_23 b12 <|
      r_aloadn c38_63 rfl <|
      t_bd e13 fun r14 c15 e16 =>
      c_gI c38_64 c15 <|
      r_iloadn c38_67 rfl <|
      t_if e16 (fun b17 e18 =>
        r_icmpT c38_68 b17 <|
        J38_76_ok hct hO rfl rfl e18
      ) (fun b17 e18 =>
        r_icmpF c38_68 b17 <|
        r_aloadn c38_71 rfl <|
        r_iconst c38_72 <|
        t_bd e18 fun H22 c23 e24 =>
        c_uF c38_73 ⟨rfl, rfl⟩ c23 <|
        J38_76_ok hct hO rfl rfl e24
      )
    ) (fun b12 e13 =>
      r_icmpF c38_23 b12 <|
      r_aloadn c38_26 rfl <|
      t_bd e13 fun k25 c26 e27 =>
      t_bd e27 fun r28 c29 e30 =>
      c_cal (st2 := [.int r28.1]) (s_cv (as := [.ref x0]) (st' := []) c38_27 rfl (gK_ok c26) ⟨Nat.le_of_ble_eq_true rfl, Nat.le_of_ble_eq_true rfl, Nat.le_of_ble_eq_true rfl⟩ rfl rfl) (C22_ok hct hO c29) (Nat.add_lt_add_left (by decide) d) rfl <|
      t_if e30 (fun b31 e32 =>
        r_ifT c38_30 b31 <|
        r_aloadn c38_48 rfl <|
        t_bd e32 fun r33 c34 e35 =>
        c_gA c38_49 c34 <|
        r_aloadn c38_52 rfl <|
        t_bd e35 fun r36 c37 e38 =>
        c_gI c38_53 c37 <|
        r_iloadn c38_56 rfl <|
        t_no e38
      ) (fun b31 e32 =>
        r_ifF c38_30 b31 <|
        r_aloadn c38_33 rfl <|
        t_bd e32 fun r39 c40 e41 =>
        c_gA c38_34 c40 <|
        r_aloadn c38_37 rfl <|
        t_bd e41 fun r42 c43 e44 =>
        c_gI c38_38 c43 <|
        r_iloadn c38_41 rfl <|
        t_no e44
      )
    )
  ) (fun b1 e2 =>
    r_ifF c38_1 b1 <|
    t_no e2
  ))
/-- java.lang.StringBuilder.setLength(I)V -/
def C37 (xt : mj_X) (ct : Nat → Value) (O : OR) (N : Nat) (x0 : Nat) (x1 : Int32) (H : mj_H) : Option (mj_H) :=
  (gC H x0).bind fun k1 =>
  (C38 xt ct O N x0 x1 H).bind fun r4 =>
  some r4
theorem C37_ok {xt : mj_X} {ct : Nat → Value} {O : OR} {d N : Nat} (hct : ct 0 = .int 1) (hO : oOK xt ct d O) {x0 : Nat} {x1 : Int32} {H : mj_H} {q : mj_H} (e : C37 xt ct O N x0 x1 H = some q) : mj_Run kY xt ct (d + 6) 37 0 (lv_args 0 [.ref x0, .int x1]) [] H (.inl none, q) := by
  unfold C37 at e
  exact (
  r_aloadn c37_0 rfl <|
  r_iloadn c37_1 rfl <|
  t_bd e fun k1 c2 e3 =>
  t_bd e3 fun r4 c5 e6 =>
  c_cal (st2 := []) (s_cp (as := [.ref x0, .int x1]) (st' := []) c37_2 rfl c2 ⟨Nat.le_of_ble_eq_true rfl, Nat.le_of_ble_eq_true rfl, Nat.le_of_ble_eq_true rfl⟩ rfl rfl) (C38_ok hct hO c5) (Nat.add_lt_add_left (by decide) d) rfl <|
  (by cases e6; exact (r_ret c37_5)))
/-- DiceOdds.wipe()I -/
def C36 (xt : mj_X) (ct : Nat → Value) (O : OR) (N : Nat) (x0 : Nat) (H : mj_H) : Option ((Int32) × mj_H) :=
  (gA H x0 5 0).bind fun r1 =>
  (gK H r1 0).bind fun k4 =>
  (C10 xt ct O N r1 H).bind fun r7 =>
  (gA r7.2 x0 5 0).bind fun r10 =>
  (gK r7.2 r10 0).bind fun k13 =>
  (C37 xt ct O N r10 0 r7.2).bind fun r16 =>
  some (r7.1, r16)
theorem C36_ok {xt : mj_X} {ct : Nat → Value} {O : OR} {d N : Nat} (hct : ct 0 = .int 1) (hO : oOK xt ct d O) {x0 : Nat} {H : mj_H} {q : (Int32) × mj_H} (e : C36 xt ct O N x0 H = some q) : mj_Run kY xt ct (d + 7) 36 0 (lv_args 0 [.ref x0]) [] H (.inl (vI q.1), q.2) := by
  unfold C36 at e
  exact (
  r_aloadn c36_0 rfl <|
  t_bd e fun r1 c2 e3 =>
  c_gA c36_1 c2 <|
  t_bd e3 fun k4 c5 e6 =>
  t_bd e6 fun r7 c8 e9 =>
  c_cal (st2 := [.int r7.1]) (s_cv (as := [.ref r1]) (st' := []) c36_4 rfl (gK_ok c5) ⟨Nat.le_of_ble_eq_true rfl, Nat.le_of_ble_eq_true rfl, Nat.le_of_ble_eq_true rfl⟩ rfl rfl) (C10_ok hct hO c8) (Nat.add_lt_add_left (by decide) d) rfl <|
  r_istoren c36_7 <|
  r_aloadn c36_8 (ld1_ne rfl (by decide) (Or.inr rfl)) <|
  t_bd e9 fun r10 c11 e12 =>
  c_gA c36_9 c11 <|
  r_iconst c36_12 <|
  t_bd e12 fun k13 c14 e15 =>
  t_bd e15 fun r16 c17 e18 =>
  c_cal (st2 := []) (s_cv (as := [.ref r10, .int 0]) (st' := []) c36_13 rfl (gK_ok c14) ⟨Nat.le_of_ble_eq_true rfl, Nat.le_of_ble_eq_true rfl, Nat.le_of_ble_eq_true rfl⟩ rfl rfl) (C37_ok hct hO c17) (Nat.add_lt_add_left (by decide) d) rfl <|
  r_iloadn c36_16 ld1_eq <|
  (by cases e18; exact (r_iret c36_17 rfl)))
def J35_9 (xt : mj_X) (ct : Nat → Value) (O : OR) (N : Nat) (x0 : Int32) (x1 : Int32) (x2 : Option Nat) (H : mj_H) : Option ((Int32) × mj_H) :=
  none
theorem J35_9_ok {xt : mj_X} {ct : Nat → Value} {O : OR} {d N : Nat} (hct : ct 0 = .int 1) (hO : oOK xt ct d O) {l : mj_L} {x0 : Int32} {x1 : Int32} {x2 : Option Nat} {H : mj_H} {q : (Int32) × mj_H} (f0 : mj_ld l 0 = some (.int x0)) (f1 : mj_ld l 1 = some (.int x1)) (f2 : mj_ld l 2 = some (rv x2)) (e : J35_9 xt ct O N x0 x1 x2 H = some q) : mj_Run kY xt ct (d + 1) 35 9 l [] H (.inl (vI q.1), q.2) := by
  unfold J35_9 at e
  exact (
  c_alvn f2 c35_9 <|
  r_iloadn c35_10 f0 <|
  r_iloadn c35_11 f1 <|
  t_no e)
/-- jdk.internal.util.Preconditions.checkIndex(IILjava/util/function/BiFunction;)I -/
def C35 (xt : mj_X) (ct : Nat → Value) (O : OR) (N : Nat) (x0 : Int32) (x1 : Int32) (x2 : Option Nat) (H : mj_H) : Option ((Int32) × mj_H) :=
  bif mj_c1 .lt x0 then
    J35_9 xt ct O N x0 x1 x2 H
  else
  bif mj_c2 .lt x0 x1 then
    some (x0, H)
  else
  J35_9 xt ct O N x0 x1 x2 H
theorem C35_ok {xt : mj_X} {ct : Nat → Value} {O : OR} {d N : Nat} (hct : ct 0 = .int 1) (hO : oOK xt ct d O) {x0 : Int32} {x1 : Int32} {x2 : Option Nat} {H : mj_H} {q : (Int32) × mj_H} (e : C35 xt ct O N x0 x1 x2 H = some q) : mj_Run kY xt ct (d + 1) 35 0 (lv_args 0 [.int x0, .int x1, rv x2]) [] H (.inl (vI q.1), q.2) := by
  unfold C35 at e
  exact (
  r_iloadn c35_0 rfl <|
  t_if e (fun b1 e2 =>
    r_ifT c35_1 b1 <|
    J35_9_ok hct hO rfl rfl rfl e2
  ) (fun b1 e2 =>
    r_ifF c35_1 b1 <|
    r_iloadn c35_4 rfl <|
    r_iloadn c35_5 rfl <|
    t_if e2 (fun b3 e4 =>
      r_icmpT c35_6 b3 <|
      r_iloadn c35_16 rfl <|
      (by cases e4; exact (r_iret c35_17 rfl))
    ) (fun b3 e4 =>
      r_icmpF c35_6 b3 <|
      J35_9_ok hct hO rfl rfl rfl e4
    )
  ))
/-- java.lang.String.checkIndex(II)V -/
def C34 (xt : mj_X) (ct : Nat → Value) (O : OR) (N : Nat) (x0 : Int32) (x1 : Int32) (H : mj_H) : Option (mj_H) :=
  (vtO (ct 1)).bind fun r1 =>
  (C35 xt ct O N x0 x1 r1 H).bind fun r4 =>
  some r4.2
theorem C34_ok {xt : mj_X} {ct : Nat → Value} {O : OR} {d N : Nat} (hct : ct 0 = .int 1) (hO : oOK xt ct d O) {x0 : Int32} {x1 : Int32} {H : mj_H} {q : mj_H} (e : C34 xt ct O N x0 x1 H = some q) : mj_Run kY xt ct (d + 2) 34 0 (lv_args 0 [.int x0, .int x1]) [] H (.inl none, q) := by
  unfold C34 at e
  exact (
  r_iloadn c34_0 rfl <|
  r_iloadn c34_1 rfl <|
  t_bd e fun r1 c2 e3 =>
  c_gsO c2 c34_2 <|
  t_bd e3 fun r4 c5 e6 =>
  c_cal (st2 := [.int r4.1]) (s_cs (as := [.int x0, .int x1, rv r1]) (st' := []) c34_5 (by cases (r1) <;> exact ⟨Nat.le_of_ble_eq_true rfl, Nat.le_of_ble_eq_true rfl, Nat.le_of_ble_eq_true rfl⟩) rfl rfl) (C35_ok hct hO c5) (Nat.add_lt_add_left (by decide) d) rfl <|
  r_pop c34_8 rfl <|
  (by cases e6; exact (r_ret c34_9)))
/-- java.lang.AbstractStringBuilder.charAt(I)C -/
def C74 (xt : mj_X) (ct : Nat → Value) (O : OR) (N : Nat) (x0 : Nat) (x1 : Int32) (H : mj_H) : Option ((Int32) × mj_H) :=
  (gI H x0 0 1).bind fun r1 =>
  (gA H x0 0 0).bind fun r4 =>
  (gI H x0 0 3).bind fun r7 =>
  (aN xt H r4).bind fun r10 =>
  (C21 xt ct O N r7 (r10 >>> (r1 &&& 31)) H).bind fun r13 =>
  (C34 xt ct O N x1 r13.1 r13.2).bind fun r16 =>
  bif mj_c1 .ne r1 then
    none
  else
  (aB xt r16 r4 x1).bind fun r21 =>
  if narrow .char (.int (((r21 &&& 255) : Int32).toUInt32 % 65536).toInt32) = .int (((r21 &&& 255) : Int32).toUInt32 % 65536).toInt32 then
  some ((((r21 &&& 255) : Int32).toUInt32 % 65536).toInt32, r16)
  else none
theorem C74_ok {xt : mj_X} {ct : Nat → Value} {O : OR} {d N : Nat} (hct : ct 0 = .int 1) (hO : oOK xt ct d O) {x0 : Nat} {x1 : Int32} {H : mj_H} {q : (Int32) × mj_H} (e : C74 xt ct O N x0 x1 H = some q) : mj_Run kY xt ct (d + 3) 74 0 (lv_args 0 [.ref x0, .int x1]) [] H (.inl (vI q.1), q.2) := by
  unfold C74 at e
  exact (
  r_aloadn c74_0 rfl <|
  t_bd e fun r1 c2 e3 =>
  c_gI c74_1 c2 <|
  r_istoren c74_4 <|
  r_aloadn c74_5 (ld1_ne rfl (by decide) (Or.inl (by decide))) <|
  t_bd e3 fun r4 c5 e6 =>
  c_gA c74_6 c5 <|
  r_astoren c74_9 <|
  r_aloadn c74_10 (ld1_ne (ld1_ne rfl (by decide) (Or.inl (by decide))) (by decide) (Or.inl (by decide))) <|
  t_bd e6 fun r7 c8 e9 =>
  c_gI c74_11 c8 <|
  r_aloadn c74_14 ld1_eq <|
  t_bd e9 fun r10 c11 e12 =>
  c_len c74_15 c11 <|
  r_iloadn c74_16 (ld1_ne ld1_eq (by decide) (Or.inr rfl)) <|
  r_ishr c74_17 rfl <|
  t_bd e12 fun r13 c14 e15 =>
  c_cal (st2 := [.int r13.1]) (s_cs (as := [.int r7, .int (r10 >>> (r1 &&& 31))]) (st' := []) c74_18 ⟨Nat.le_of_ble_eq_true rfl, Nat.le_of_ble_eq_true rfl, Nat.le_of_ble_eq_true rfl⟩ rfl rfl) (C21_ok hct hO c14) (Nat.add_lt_add_left (by decide) d) rfl <|
  r_istore c74_21 <|
  r_iloadn c74_23 (ld1_ne (ld1_ne (ld1_ne rfl (by decide) (Or.inr rfl)) (by decide) (Or.inl (by decide))) (by decide) (Or.inl (by decide))) <|
  r_iload c74_24 ld1_eq <|
  t_bd e15 fun r16 c17 e18 =>
  c_cal (st2 := []) (s_cs (as := [.int x1, .int r13.1]) (st' := []) c74_26 ⟨Nat.le_of_ble_eq_true rfl, Nat.le_of_ble_eq_true rfl, Nat.le_of_ble_eq_true rfl⟩ rfl rfl) (C34_ok hct hO c17) (Nat.add_lt_add_left (by decide) d) rfl <|
  r_iloadn c74_29 (ld1_ne (ld1_ne ld1_eq (by decide) (Or.inr rfl)) (by decide) (Or.inl (by decide))) <|
  t_if e18 (fun b19 e20 =>
    r_ifT c74_30 b19 <|
    r_aloadn c74_42 (ld1_ne ld1_eq (by decide) (Or.inr rfl)) <|
    r_iloadn c74_43 (ld1_ne (ld1_ne (ld1_ne rfl (by decide) (Or.inr rfl)) (by decide) (Or.inl (by decide))) (by decide) (Or.inl (by decide))) <|
    t_no e20
  ) (fun b19 e20 =>
    r_ifF c74_30 b19 <|
    r_aloadn c74_33 (ld1_ne ld1_eq (by decide) (Or.inr rfl)) <|
    r_iloadn c74_34 (ld1_ne (ld1_ne (ld1_ne rfl (by decide) (Or.inr rfl)) (by decide) (Or.inl (by decide))) (by decide) (Or.inl (by decide))) <|
    t_bd e20 fun r21 c22 e23 =>
    c_aB c74_35 c22 <|
    r_sipush c74_36 <|
    r_iand c74_39 rfl <|
    r_i2c c74_40 rfl <|
    t_ck e23 fun z24 e25 =>
    (by cases e25; exact (r_iret c74_41 z24))
  ))
/-- java.lang.StringBuilder.charAt(I)C -/
def C73 (xt : mj_X) (ct : Nat → Value) (O : OR) (N : Nat) (x0 : Nat) (x1 : Int32) (H : mj_H) : Option ((Int32) × mj_H) :=
  (gC H x0).bind fun k1 =>
  (C74 xt ct O N x0 x1 H).bind fun r4 =>
  if narrow .char (.int r4.1) = .int r4.1 then
  some (r4.1, r4.2)
  else none
theorem C73_ok {xt : mj_X} {ct : Nat → Value} {O : OR} {d N : Nat} (hct : ct 0 = .int 1) (hO : oOK xt ct d O) {x0 : Nat} {x1 : Int32} {H : mj_H} {q : (Int32) × mj_H} (e : C73 xt ct O N x0 x1 H = some q) : mj_Run kY xt ct (d + 4) 73 0 (lv_args 0 [.ref x0, .int x1]) [] H (.inl (vI q.1), q.2) := by
  unfold C73 at e
  exact (
  r_aloadn c73_0 rfl <|
  r_iloadn c73_1 rfl <|
  t_bd e fun k1 c2 e3 =>
  t_bd e3 fun r4 c5 e6 =>
  c_cal (st2 := [.int r4.1]) (s_cp (as := [.ref x0, .int x1]) (st' := []) c73_2 rfl c2 ⟨Nat.le_of_ble_eq_true rfl, Nat.le_of_ble_eq_true rfl, Nat.le_of_ble_eq_true rfl⟩ rfl rfl) (C74_ok hct hO c5) (Nat.add_lt_add_left (by decide) d) rfl <|
  t_ck e6 fun z7 e8 =>
  (by cases e8; exact (r_iret c73_5 z7)))
def J72_29 (xt : mj_X) (ct : Nat → Value) (O : OR) (N : Nat) (s0 : Int32) (H : mj_H) : Option ((Int32) × mj_H) :=
  some (s0, H)
theorem J72_29_ok {xt : mj_X} {ct : Nat → Value} {O : OR} {d N : Nat} (hct : ct 0 = .int 1) (hO : oOK xt ct d O) {l : mj_L} {s0 : Int32} {H : mj_H} {q : (Int32) × mj_H}  (e : J72_29 xt ct O N s0 H = some q) : mj_Run kY xt ct (d + 5) 72 29 l [.int s0] H (.inl (vI q.1), q.2) := by
  unfold J72_29 at e
  exact (
  (by cases e; exact (r_iret c72_29 rfl)))
def J72_26 (xt : mj_X) (ct : Nat → Value) (O : OR) (N : Nat)  (H : mj_H) : Option ((Int32) × mj_H) :=
  J72_29 xt ct O N (-1000) H
theorem J72_26_ok {xt : mj_X} {ct : Nat → Value} {O : OR} {d N : Nat} (hct : ct 0 = .int 1) (hO : oOK xt ct d O) {l : mj_L}  {H : mj_H} {q : (Int32) × mj_H}  (e : J72_26 xt ct O N  H = some q) : mj_Run kY xt ct (d + 5) 72 26 l [] H (.inl (vI q.1), q.2) := by
  unfold J72_26 at e
  exact (
  r_sipush c72_26 <|
  J72_29_ok hct hO  e)
/-- DiceOdds.character(I)I -/
def C72 (xt : mj_X) (ct : Nat → Value) (O : OR) (N : Nat) (x0 : Nat) (x1 : Int32) (H : mj_H) : Option ((Int32) × mj_H) :=
  bif mj_c1 .lt x1 then
    J72_26 xt ct O N H
  else
  (gA H x0 5 0).bind fun r3 =>
  (gK H r3 0).bind fun k6 =>
  (C10 xt ct O N r3 H).bind fun r9 =>
  bif mj_c2 .ge x1 r9.1 then
    J72_26 xt ct O N r9.2
  else
  (gA r9.2 x0 5 0).bind fun r14 =>
  (gK r9.2 r14 0).bind fun k17 =>
  (C73 xt ct O N r14 x1 r9.2).bind fun r20 =>
  J72_29 xt ct O N r20.1 r20.2
theorem C72_ok {xt : mj_X} {ct : Nat → Value} {O : OR} {d N : Nat} (hct : ct 0 = .int 1) (hO : oOK xt ct d O) {x0 : Nat} {x1 : Int32} {H : mj_H} {q : (Int32) × mj_H} (e : C72 xt ct O N x0 x1 H = some q) : mj_Run kY xt ct (d + 5) 72 0 (lv_args 0 [.ref x0, .int x1]) [] H (.inl (vI q.1), q.2) := by
  unfold C72 at e
  exact (
  r_iloadn c72_0 rfl <|
  t_if e (fun b1 e2 =>
    r_ifT c72_1 b1 <|
    J72_26_ok hct hO  e2
  ) (fun b1 e2 =>
    r_ifF c72_1 b1 <|
    r_iloadn c72_4 rfl <|
    r_aloadn c72_5 rfl <|
    t_bd e2 fun r3 c4 e5 =>
    c_gA c72_6 c4 <|
    t_bd e5 fun k6 c7 e8 =>
    t_bd e8 fun r9 c10 e11 =>
    c_cal (st2 := [.int r9.1, .int x1]) (s_cv (as := [.ref r3]) (st' := [.int x1]) c72_9 rfl (gK_ok c7) ⟨Nat.le_of_ble_eq_true rfl, Nat.le_of_ble_eq_true rfl, Nat.le_of_ble_eq_true rfl⟩ rfl rfl) (C10_ok hct hO c10) (Nat.add_lt_add_left (by decide) d) rfl <|
    t_if e11 (fun b12 e13 =>
      r_icmpT c72_12 b12 <|
      J72_26_ok hct hO  e13
    ) (fun b12 e13 =>
      r_icmpF c72_12 b12 <|
      r_aloadn c72_15 rfl <|
      t_bd e13 fun r14 c15 e16 =>
      c_gA c72_16 c15 <|
      r_iloadn c72_19 rfl <|
      t_bd e16 fun k17 c18 e19 =>
      t_bd e19 fun r20 c21 e22 =>
      c_cal (st2 := [.int r20.1]) (s_cv (as := [.ref r14, .int x1]) (st' := []) c72_20 rfl (gK_ok c18) ⟨Nat.le_of_ble_eq_true rfl, Nat.le_of_ble_eq_true rfl, Nat.le_of_ble_eq_true rfl⟩ rfl rfl) (C73_ok hct hO c21) (Nat.add_lt_add_left (by decide) d) rfl <|
      r_goto c72_23 <|
      J72_29_ok hct hO  e22
    )
  ))
/-- DiceOdds.place()I -/
def C75 (xt : mj_X) (ct : Nat → Value) (O : OR) (N : Nat) (x0 : Nat) (H : mj_H) : Option ((Int32) × mj_H) :=
  (gA H x0 5 2).bind fun r1 =>
  (gI H r1 1 6).bind fun r4 =>
  some (r4, H)
theorem C75_ok {xt : mj_X} {ct : Nat → Value} {O : OR} {d N : Nat} (hct : ct 0 = .int 1) (hO : oOK xt ct d O) {x0 : Nat} {H : mj_H} {q : (Int32) × mj_H} (e : C75 xt ct O N x0 H = some q) : mj_Run kY xt ct (d + 1) 75 0 (lv_args 0 [.ref x0]) [] H (.inl (vI q.1), q.2) := by
  unfold C75 at e
  exact (
  r_aloadn c75_0 rfl <|
  t_bd e fun r1 c2 e3 =>
  c_gA c75_1 c2 <|
  t_bd e3 fun r4 c5 e6 =>
  c_gI c75_4 c5 <|
  (by cases e6; exact (r_iret c75_7 rfl)))
/-- DiceOdds.states()I -/
def C76 (xt : mj_X) (ct : Nat → Value) (O : OR) (N : Nat) (x0 : Nat) (H : mj_H) : Option ((Int32) × mj_H) :=
  (gA H x0 5 3).bind fun r1 =>
  (gI H r1 3 12).bind fun r4 =>
  some (r4, H)
theorem C76_ok {xt : mj_X} {ct : Nat → Value} {O : OR} {d N : Nat} (hct : ct 0 = .int 1) (hO : oOK xt ct d O) {x0 : Nat} {H : mj_H} {q : (Int32) × mj_H} (e : C76 xt ct O N x0 H = some q) : mj_Run kY xt ct (d + 1) 76 0 (lv_args 0 [.ref x0]) [] H (.inl (vI q.1), q.2) := by
  unfold C76 at e
  exact (
  r_aloadn c76_0 rfl <|
  t_bd e fun r1 c2 e3 =>
  c_gA c76_1 c2 <|
  t_bd e3 fun r4 c5 e6 =>
  c_gI c76_4 c5 <|
  (by cases e6; exact (r_iret c76_7 rfl)))
def J80_14 (xt : mj_X) (ct : Nat → Value) (O : OR) (N : Nat) (s0 : Int32) (H : mj_H) : Option ((Int32) × mj_H) :=
  if narrow .boolean (.int s0) = .int s0 then
  some (s0, H)
  else none
theorem J80_14_ok {xt : mj_X} {ct : Nat → Value} {O : OR} {d N : Nat} (hct : ct 0 = .int 1) (hO : oOK xt ct d O) {l : mj_L} {s0 : Int32} {H : mj_H} {q : (Int32) × mj_H}  (e : J80_14 xt ct O N s0 H = some q) : mj_Run kY xt ct (d + 1) 80 14 l [.int s0] H (.inl (vI q.1), q.2) := by
  unfold J80_14 at e
  exact (
  t_ck e fun z3 e4 =>
  (by cases e4; exact (r_iret c80_14 z3)))
def J80_13 (xt : mj_X) (ct : Nat → Value) (O : OR) (N : Nat)  (H : mj_H) : Option ((Int32) × mj_H) :=
  J80_14 xt ct O N 0 H
theorem J80_13_ok {xt : mj_X} {ct : Nat → Value} {O : OR} {d N : Nat} (hct : ct 0 = .int 1) (hO : oOK xt ct d O) {l : mj_L}  {H : mj_H} {q : (Int32) × mj_H}  (e : J80_13 xt ct O N  H = some q) : mj_Run kY xt ct (d + 1) 80 13 l [] H (.inl (vI q.1), q.2) := by
  unfold J80_13 at e
  exact (
  r_iconst c80_13 <|
  J80_14_ok hct hO  e)
/-- DiceOdds.isSlot(I)Z -/
def C80 (xt : mj_X) (ct : Nat → Value) (O : OR) (N : Nat) (x0 : Int32) (H : mj_H) : Option ((Int32) × mj_H) :=
  bif mj_c1 .lt x0 then
    J80_13 xt ct O N H
  else
  bif mj_c2 .ge x0 3 then
    J80_13 xt ct O N H
  else
  J80_14 xt ct O N 1 H
theorem C80_ok {xt : mj_X} {ct : Nat → Value} {O : OR} {d N : Nat} (hct : ct 0 = .int 1) (hO : oOK xt ct d O) {x0 : Int32} {H : mj_H} {q : (Int32) × mj_H} (e : C80 xt ct O N x0 H = some q) : mj_Run kY xt ct (d + 1) 80 0 (lv_args 0 [.int x0]) [] H (.inl (vI q.1), q.2) := by
  unfold C80 at e
  exact (
  r_iloadn c80_0 rfl <|
  t_if e (fun b1 e2 =>
    r_ifT c80_1 b1 <|
    J80_13_ok hct hO  e2
  ) (fun b1 e2 =>
    r_ifF c80_1 b1 <|
    r_iloadn c80_4 rfl <|
    r_iconst c80_5 <|
    t_if e2 (fun b5 e6 =>
      r_icmpT c80_6 b5 <|
      J80_13_ok hct hO  e6
    ) (fun b5 e6 =>
      r_icmpF c80_6 b5 <|
      r_iconst c80_9 <|
      r_goto c80_10 <|
      J80_14_ok hct hO  e6
    )
  ))
/-- DiceOdds.slotAt(I)LDiceOdds$Slot; -/
def C79 (xt : mj_X) (ct : Nat → Value) (O : OR) (N : Nat) (x0 : Nat) (x1 : Int32) (H : mj_H) : Option (((Nat) ⊕ Nat) × mj_H) :=
  (C80 xt ct O N x1 H).bind fun r1 =>
  bif mj_c1 .ne r1.1 then
    (gA r1.2 x0 5 1).bind fun r6 =>
    (aA xt r1.2 r6 x1).bind fun r9 =>
    some (.inl r9, r1.2)
  else
  some (.inr r1.2.2.1, mj_new r1.2 6 (.inr (13, [])))
theorem C79_ok {xt : mj_X} {ct : Nat → Value} {O : OR} {d N : Nat} (hct : ct 0 = .int 1) (hO : oOK xt ct d O) {x0 : Nat} {x1 : Int32} {H : mj_H} {q : ((Nat) ⊕ Nat) × mj_H} (e : C79 xt ct O N x0 x1 H = some q) : mj_Run kY xt ct (d + 2) 79 0 (lv_args 0 [.ref x0, .int x1]) [] H (tT vA q.1, q.2) := by
  unfold C79 at e
  exact (
  r_iloadn c79_0 rfl <|
  t_bd e fun r1 c2 e3 =>
  c_cal (st2 := [.int r1.1]) (s_cs (as := [.int x1]) (st' := []) c79_1 ⟨Nat.le_of_ble_eq_true rfl, Nat.le_of_ble_eq_true rfl, Nat.le_of_ble_eq_true rfl⟩ rfl rfl) (C80_ok hct hO c2) (Nat.add_lt_add_left (by decide) d) rfl <|
  t_if e3 (fun b4 e5 =>
    r_ifT c79_4 b4 <|
    r_aloadn c79_17 rfl <|
    t_bd e5 fun r6 c7 e8 =>
    c_gA c79_18 c7 <|
    r_iloadn c79_21 rfl <|
    t_bd e8 fun r9 c10 e11 =>
    c_aA c79_22 c10 <|
    (by cases e11; exact (r_aret c79_23))
  ) (fun b4 e5 =>
    r_ifF c79_4 b4 <|
    (by cases e5; exact (c_thr c79_7 (Nat.le_of_ble_eq_true rfl)))
  ))
def LG82_16 (xt : mj_X) (ct : Nat → Value) (d : Nat) (q : mj_H) (x0 : Nat) (x1 : Nat) (x2 : Int32) (H : mj_H) : Prop := ∀ l, mj_ld l 0 = some (.ref x0) → mj_ld l 1 = some (.ref x1) → mj_ld l 2 = some (.int x2) → mj_Run kY xt ct (d + 5) 82 16 l [] H (.inl none, q)
def GG82_16 (xt : mj_X) (ct : Nat → Value) (d : Nat) (q : mj_H) (o : (Nat × Nat × Int32 × mj_H) ⊕ (mj_H)) : Prop := match o with
  | .inl (x0, x1, x2, H) => LG82_16 xt ct d q x0 x1 x2 H
  | .inr r => r = q
def B82_16 (xt : mj_X) (ct : Nat → Value) (O : OR) (N : Nat) (s : Nat × Nat × Int32 × mj_H) : Option ((Nat × Nat × Int32 × mj_H) ⊕ (mj_H)) :=
  (gI s.2.2.2 s.1 1 2).bind fun r13 =>
  bif mj_c2 .ge s.2.2.1 r13 then
    (uF s.2.2.2 s.1 1 3 (.int 0)).bind fun H18 =>
    (uF H18 s.1 1 4 (.int 0)).bind fun H21 =>
    (uF H21 s.1 1 5 (.int 0)).bind fun H24 =>
    some (.inr H24)
  else
  (gA s.2.2.2 s.1 1 0).bind fun r27 =>
  (gK s.2.2.2 s.2.1 0).bind fun k30 =>
  (C73 xt ct O N s.2.1 s.2.2.1 s.2.2.2).bind fun r33 =>
  (sN .char r33.2 r27 s.2.2.1 r33.1).bind fun H36 =>
  some (.inl (s.1, s.2.1, (s.2.2.1 + 1), H36))
def L82_16 (xt : mj_X) (ct : Nat → Value) (O : OR) (N : Nat) (s : Nat × Nat × Int32 × mj_H) : Option (mj_H) := t_lp (B82_16 xt ct O N) N s
theorem B82_16_ok {xt : mj_X} {ct : Nat → Value} {O : OR} {d N : Nat} (hct : ct 0 = .int 1) (hO : oOK xt ct d O) {s : Nat × Nat × Int32 × mj_H} {o : (Nat × Nat × Int32 × mj_H) ⊕ (mj_H)} {q : mj_H} (e : B82_16 xt ct O N s = some o) (g : GG82_16 xt ct d q o) : LG82_16 xt ct d q s.1 s.2.1 s.2.2.1 s.2.2.2 := by
  unfold B82_16 at e
  exact (fun l f0 f1 f2 =>
  r_iloadn c82_16 f2 <|
  r_aloadn c82_17 f0 <|
  t_bd e fun r13 c14 e15 =>
  c_gI c82_18 c14 <|
  t_if e15 (fun b16 e17 =>
    r_icmpT c82_21 b16 <|
    r_aloadn c82_41 f0 <|
    r_iconst c82_42 <|
    t_bd e17 fun H18 c19 e20 =>
    c_uF c82_43 ⟨rfl, rfl⟩ c19 <|
    r_aloadn c82_46 f0 <|
    r_iconst c82_47 <|
    t_bd e20 fun H21 c22 e23 =>
    c_uF c82_48 ⟨rfl, rfl⟩ c22 <|
    r_aloadn c82_51 f0 <|
    r_iconst c82_52 <|
    t_bd e23 fun H24 c25 e26 =>
    c_uF c82_53 ⟨rfl, rfl⟩ c25 <|
    t_rg e26 g (fun (z : H24 = q) => (by cases z; exact (r_ret c82_56)))
  ) (fun b16 e17 =>
    r_icmpF c82_21 b16 <|
    r_aloadn c82_24 f0 <|
    t_bd e17 fun r27 c28 e29 =>
    c_gA c82_25 c28 <|
    r_iloadn c82_28 f2 <|
    r_aloadn c82_29 f1 <|
    r_iloadn c82_30 f2 <|
    t_bd e29 fun k30 c31 e32 =>
    t_bd e32 fun r33 c34 e35 =>
    c_cal (st2 := [.int r33.1, .int s.2.2.1, .ref r27]) (s_cv (as := [.ref s.2.1, .int s.2.2.1]) (st' := [.int s.2.2.1, .ref r27]) c82_31 rfl (gK_ok c31) ⟨Nat.le_of_ble_eq_true rfl, Nat.le_of_ble_eq_true rfl, Nat.le_of_ble_eq_true rfl⟩ rfl rfl) (C73_ok hct hO c34) (Nat.add_lt_add_left (by decide) d) rfl <|
    t_bd e35 fun H36 c37 e38 =>
    c_sC c82_34 c37 <|
    r_iinc c82_35 f2 <|
    r_goto c82_38 <|
    t_rg e38 g (fun (z : LG82_16 xt ct d q s.1 s.2.1 (s.2.2.1 + 1) H36) => z _ (ld1_ne f0 (by decide) (Or.inl (by decide))) (ld1_ne f1 (by decide) (Or.inr rfl)) ld1_eq)
  ))
theorem L82_16_ok {xt : mj_X} {ct : Nat → Value} {O : OR} {d N : Nat} (hct : ct 0 = .int 1) (hO : oOK xt ct d O) {x0 : Nat} {x1 : Nat} {x2 : Int32} {H : mj_H} {q : mj_H} (e : L82_16 xt ct O N (x0, x1, x2, H) = some q) : LG82_16 xt ct d q x0 x1 x2 H :=
  t_lp_ok (G := fun s => LG82_16 xt ct d q s.1 s.2.1 s.2.2.1 s.2.2.2) (fun s s' e g => B82_16_ok hct hO e (by obtain ⟨_, _, _, _⟩ := s'; exact g)) (fun s e => B82_16_ok hct hO e rfl) N (x0, x1, x2, H) e
/-- DiceOdds$Parser.begin(Ljava/lang/StringBuilder;)V -/
def C82 (xt : mj_X) (ct : Nat → Value) (O : OR) (N : Nat) (x0 : Nat) (x1 : Nat) (H : mj_H) : Option (mj_H) :=
  (gK H x1 0).bind fun k1 =>
  (C10 xt ct O N x1 H).bind fun r4 =>
  (C21 xt ct O N r4.1 160 r4.2).bind fun r7 =>
  (uF r7.2 x0 1 2 (.int r7.1)).bind fun H10 =>
  L82_16 xt ct O N (x0, x1, 0, H10)
theorem C82_ok {xt : mj_X} {ct : Nat → Value} {O : OR} {d N : Nat} (hct : ct 0 = .int 1) (hO : oOK xt ct d O) {x0 : Nat} {x1 : Nat} {H : mj_H} {q : mj_H} (e : C82 xt ct O N x0 x1 H = some q) : mj_Run kY xt ct (d + 5) 82 0 (lv_args 0 [.ref x0, .ref x1]) [] H (.inl none, q) := by
  unfold C82 at e
  exact (
  r_aloadn c82_0 rfl <|
  r_aloadn c82_1 rfl <|
  t_bd e fun k1 c2 e3 =>
  t_bd e3 fun r4 c5 e6 =>
  c_cal (st2 := [.int r4.1, .ref x0]) (s_cv (as := [.ref x1]) (st' := [.ref x0]) c82_2 rfl (gK_ok c2) ⟨Nat.le_of_ble_eq_true rfl, Nat.le_of_ble_eq_true rfl, Nat.le_of_ble_eq_true rfl⟩ rfl rfl) (C10_ok hct hO c5) (Nat.add_lt_add_left (by decide) d) rfl <|
  r_sipush c82_5 <|
  t_bd e6 fun r7 c8 e9 =>
  c_cal (st2 := [.int r7.1, .ref x0]) (s_cs (as := [.int r4.1, .int 160]) (st' := [.ref x0]) c82_8 ⟨Nat.le_of_ble_eq_true rfl, Nat.le_of_ble_eq_true rfl, Nat.le_of_ble_eq_true rfl⟩ rfl rfl) (C21_ok hct hO c8) (Nat.add_lt_add_left (by decide) d) rfl <|
  t_bd e9 fun H10 c11 e12 =>
  c_uF c82_11 ⟨rfl, rfl⟩ c11 <|
  r_iconst c82_14 <|
  r_istoren c82_15 <|
  L82_16_ok hct hO e12 _ (ld1_ne rfl (by decide) (Or.inl (by decide))) (ld1_ne rfl (by decide) (Or.inr rfl)) ld1_eq)
/-- DiceOdds$Parser.demand(ZI)V -/
def C87 (xt : mj_X) (ct : Nat → Value) (O : OR) (N : Nat) (x0 : Nat) (x1 : Int32) (x2 : Int32) (H : mj_H) : Option (((Unit) ⊕ Nat) × mj_H) :=
  bif mj_c1 .ne x1 then
    some (.inl (), H)
  else
  (uF H x0 1 6 (.int x2)).bind fun H3 =>
  some (.inr H3.2.1, mj_new H3 6 (.inr (13, [])))
theorem C87_ok {xt : mj_X} {ct : Nat → Value} {O : OR} {d N : Nat} (hct : ct 0 = .int 1) (hO : oOK xt ct d O) {x0 : Nat} {x1 : Int32} {x2 : Int32} {H : mj_H} {q : ((Unit) ⊕ Nat) × mj_H} (e : C87 xt ct O N x0 x1 x2 H = some q) : mj_Run kY xt ct (d + 1) 87 0 (lv_args 0 [.ref x0, .int x1, .int x2]) [] H (tT vU q.1, q.2) := by
  unfold C87 at e
  exact (
  r_iloadn c87_0 rfl <|
  t_if e (fun b1 e2 =>
    r_ifT c87_1 b1 <|
    (by cases e2; exact (r_ret c87_19))
  ) (fun b1 e2 =>
    r_ifF c87_1 b1 <|
    r_aloadn c87_4 rfl <|
    r_iloadn c87_5 rfl <|
    t_bd e2 fun H3 c4 e5 =>
    c_uF c87_6 ⟨rfl, rfl⟩ c4 <|
    (by cases e5; exact (c_thr c87_9 (Nat.le_of_ble_eq_true rfl)))
  ))
def J103_11 (xt : mj_X) (ct : Nat → Value) (O : OR) (N : Nat) (s0 : Int64) (H : mj_H) : Option ((Int64) × mj_H) :=
  some (s0, H)
theorem J103_11_ok {xt : mj_X} {ct : Nat → Value} {O : OR} {d N : Nat} (hct : ct 0 = .int 1) (hO : oOK xt ct d O) {l : mj_L} {s0 : Int64} {H : mj_H} {q : (Int64) × mj_H}  (e : J103_11 xt ct O N s0 H = some q) : mj_Run kY xt ct (d + 1) 103 11 l [.long s0] H (.inl (vL q.1), q.2) := by
  unfold J103_11 at e
  exact (
  (by cases e; exact (r_lret c103_11)))
/-- java.lang.Math.min(JJ)J -/
def C103 (xt : mj_X) (ct : Nat → Value) (O : OR) (N : Nat) (x0 : Int64) (x2 : Int64) (H : mj_H) : Option ((Int64) × mj_H) :=
  bif mj_c1 .gt (lg_cmp x0 x2) then
    J103_11 xt ct O N x2 H
  else
  J103_11 xt ct O N x0 H
theorem C103_ok {xt : mj_X} {ct : Nat → Value} {O : OR} {d N : Nat} (hct : ct 0 = .int 1) (hO : oOK xt ct d O) {x0 : Int64} {x2 : Int64} {H : mj_H} {q : (Int64) × mj_H} (e : C103 xt ct O N x0 x2 H = some q) : mj_Run kY xt ct (d + 1) 103 0 (lv_args 0 [.long x0, .long x2]) [] H (.inl (vL q.1), q.2) := by
  unfold C103 at e
  exact (
  r_lloadn c103_0 rfl <|
  r_lloadn c103_1 rfl <|
  r_lcmp c103_2 rfl <|
  t_if e (fun b1 e2 =>
    r_ifT c103_3 b1 <|
    r_lloadn c103_10 rfl <|
    J103_11_ok hct hO  e2
  ) (fun b1 e2 =>
    r_ifF c103_3 b1 <|
    r_lloadn c103_6 rfl <|
    r_goto c103_7 <|
    J103_11_ok hct hO  e2
  ))
/-- DiceOdds.product(JJ)J -/
def C102 (xt : mj_X) (ct : Nat → Value) (O : OR) (N : Nat) (x0 : Int64) (x2 : Int64) (H : mj_H) : Option ((Int64) × mj_H) :=
  (C103 xt ct O N (x0 * x2) 2147483649 H).bind fun r1 =>
  some (r1.1, r1.2)
theorem C102_ok {xt : mj_X} {ct : Nat → Value} {O : OR} {d N : Nat} (hct : ct 0 = .int 1) (hO : oOK xt ct d O) {x0 : Int64} {x2 : Int64} {H : mj_H} {q : (Int64) × mj_H} (e : C102 xt ct O N x0 x2 H = some q) : mj_Run kY xt ct (d + 2) 102 0 (lv_args 0 [.long x0, .long x2]) [] H (.inl (vL q.1), q.2) := by
  unfold C102 at e
  exact (
  r_lloadn c102_0 rfl <|
  r_lloadn c102_1 rfl <|
  r_lmul c102_2 rfl <|
  r_ldc2 c102_3 <|
  t_bd e fun r1 c2 e3 =>
  c_cal (st2 := [.long r1.1]) (s_cs (as := [.long (x0 * x2), .long 2147483649]) (st' := []) c102_6 ⟨Nat.le_of_ble_eq_true rfl, Nat.le_of_ble_eq_true rfl, Nat.le_of_ble_eq_true rfl⟩ rfl rfl) (C103_ok hct hO c2) (Nat.add_lt_add_left (by decide) d) rfl <|
  (by cases e3; exact (r_lret c102_9)))
def LG112_4 (xt : mj_X) (ct : Nat → Value) (d : Nat) (q : (Int64) × mj_H) (x1 : Int64) (x3 : Option Nat) (H : mj_H) : Prop := ∀ l, mj_ld l 1 = some (.long x1) → mj_ld l 3 = some (rv x3) → mj_Run kY xt ct (d + 3) 112 4 l [] H (.inl (vL q.1), q.2)
def GG112_4 (xt : mj_X) (ct : Nat → Value) (d : Nat) (q : (Int64) × mj_H) (o : (Int64 × (Option Nat) × mj_H) ⊕ ((Int64) × mj_H)) : Prop := match o with
  | .inl (x1, x3, H) => LG112_4 xt ct d q x1 x3 H
  | .inr r => r = q
def B112_4 (xt : mj_X) (ct : Nat → Value) (O : OR) (N : Nat) (s : Int64 × (Option Nat) × mj_H) : Option ((Int64 × (Option Nat) × mj_H) ⊕ ((Int64) × mj_H)) :=
  bif Option.isNone s.2.1 then
    some (.inr (s.1, s.2.2))
  else
  (s.2.1).bind fun a3 =>
  (gL s.2.2 a3 11 5).bind fun r6 =>
  (C102 xt ct O N s.1 r6 s.2.2).bind fun r9 =>
  (s.2.1).bind fun a12 =>
  (gR r9.2 a12 11 8).bind fun r15 =>
  some (.inl (r9.1, r15, r9.2))
def L112_4 (xt : mj_X) (ct : Nat → Value) (O : OR) (N : Nat) (s : Int64 × (Option Nat) × mj_H) : Option ((Int64) × mj_H) := t_lp (B112_4 xt ct O N) N s
theorem B112_4_ok {xt : mj_X} {ct : Nat → Value} {O : OR} {d N : Nat} (hct : ct 0 = .int 1) (hO : oOK xt ct d O) {s : Int64 × (Option Nat) × mj_H} {o : (Int64 × (Option Nat) × mj_H) ⊕ ((Int64) × mj_H)} {q : (Int64) × mj_H} (e : B112_4 xt ct O N s = some o) (g : GG112_4 xt ct d q o) : LG112_4 xt ct d q s.1 s.2.1 s.2.2 := by
  unfold B112_4 at e
  exact (fun l f1 f3 =>
  c_alvn f3 c112_4 <|
  t_if e (fun b1 e2 =>
    c_nul c112_5 b1 <|
    r_lloadn c112_25 f1 <|
    t_rg e2 g (fun (z : (s.1, s.2.2) = q) => (by cases z; exact (r_lret c112_26)))
  ) (fun b1 e2 =>
    c_nuf c112_5 b1 <|
    r_lloadn c112_8 f1 <|
    c_alvn f3 c112_9 <|
    t_bd e2 fun a3 n4 e5 =>
    c_at (st2 := [.ref a3, .long s.1]) (by rw [n4]) <|
    t_bd e5 fun r6 c7 e8 =>
    c_gL c112_10 c7 <|
    t_bd e8 fun r9 c10 e11 =>
    c_cal (st2 := [.long r9.1]) (s_cs (as := [.long s.1, .long r6]) (st' := []) c112_13 ⟨Nat.le_of_ble_eq_true rfl, Nat.le_of_ble_eq_true rfl, Nat.le_of_ble_eq_true rfl⟩ rfl rfl) (C102_ok hct hO c10) (Nat.add_lt_add_left (by decide) d) rfl <|
    r_lstoren c112_16 <|
    c_alvn (ld2_ne f3 (by decide) (Or.inl (by decide))) c112_17 <|
    t_bd e11 fun a12 n13 e14 =>
    c_at (st2 := [.ref a12]) (by rw [n13]) <|
    t_bd e14 fun r15 c16 e17 =>
    c_gR c112_18 c16 <|
    c_asvn (o := r15) c112_21 <|
    r_goto c112_22 <|
    t_rg e17 g (fun (z : LG112_4 xt ct d q r9.1 r15 r9.2) => z _ (ld1_ne ld2_eq (by decide) (Or.inl (by decide))) ld1_eq)
  ))
theorem L112_4_ok {xt : mj_X} {ct : Nat → Value} {O : OR} {d N : Nat} (hct : ct 0 = .int 1) (hO : oOK xt ct d O) {x1 : Int64} {x3 : Option Nat} {H : mj_H} {q : (Int64) × mj_H} (e : L112_4 xt ct O N (x1, x3, H) = some q) : LG112_4 xt ct d q x1 x3 H :=
  t_lp_ok (G := fun s => LG112_4 xt ct d q s.1 s.2.1 s.2.2) (fun s s' e g => B112_4_ok hct hO e (by obtain ⟨_, _, _⟩ := s'; exact g)) (fun s e => B112_4_ok hct hO e rfl) N (x1, x3, H) e
/-- DiceOdds$Statement.fallsOfAll(LDiceOdds$Statement;)J -/
def C112 (xt : mj_X) (ct : Nat → Value) (O : OR) (N : Nat) (x0 : Option Nat) (H : mj_H) : Option ((Int64) × mj_H) :=
  L112_4 xt ct O N (1, x0, H)
theorem C112_ok {xt : mj_X} {ct : Nat → Value} {O : OR} {d N : Nat} (hct : ct 0 = .int 1) (hO : oOK xt ct d O) {x0 : Option Nat} {H : mj_H} {q : (Int64) × mj_H} (e : C112 xt ct O N x0 H = some q) : mj_Run kY xt ct (d + 3) 112 0 (lv_args 0 [rv x0]) [] H (.inl (vL q.1), q.2) := by
  unfold C112 at e
  exact (
  r_lconst c112_0 <|
  r_lstoren c112_1 <|
  c_alvn (ld2_ne rfl (by decide) (Or.inr (rv_cat _))) c112_2 <|
  c_asvn (o := x0) c112_3 <|
  L112_4_ok hct hO e _ (ld1_ne ld2_eq (by decide) (Or.inl (by decide))) ld1_eq)
def J81_52 (xt : mj_X) (ct : Nat → Value) (O : OR) (N : Nat) (x0 : Nat) (x2 : Option Nat) (s0 : Int32) (s1 : Nat) (H : mj_H) : Option (((Option Nat) ⊕ Nat) × mj_H) :=
  (gI H x0 1 2).bind fun r43 =>
  (gK H s1 1).bind fun k46 =>
  (C87 xt ct O N s1 s0 r43 H).bind fun r49 =>
  tc (fun z => z) r49 fun v52 =>
  some (.inl x2, r49.2)
theorem J81_52_ok {xt : mj_X} {ct : Nat → Value} {O : OR} {d N : Nat} (hct : ct 0 = .int 1) (hO : oOK xt ct d O) {l : mj_L} {x0 : Nat} {x2 : Option Nat} {s0 : Int32} {s1 : Nat} {H : mj_H} {q : ((Option Nat) ⊕ Nat) × mj_H} (f0 : mj_ld l 0 = some (.ref x0)) (f2 : mj_ld l 2 = some (rv x2)) (e : J81_52 xt ct O N x0 x2 s0 s1 H = some q) : mj_Run kY xt ct (d + 6) 81 52 l [.int s0, .ref s1] H (tT vO q.1, q.2) := by
  unfold J81_52 at e
  exact (
  r_aloadn c81_52 f0 <|
  t_bd e fun r43 c44 e45 =>
  c_gI c81_53 c44 <|
  t_bd e45 fun k46 c47 e48 =>
  t_bd e48 fun r49 c50 e51 =>
  t_tc e51 (fun v52 p53 e54 =>
    c_calT (f := vU) (p := r49) (st2 := []) (s_cv (as := [.ref s1, .int s0, .int r43]) (st' := []) c81_56 rfl (gK_ok c47) ⟨Nat.le_of_ble_eq_true rfl, Nat.le_of_ble_eq_true rfl, Nat.le_of_ble_eq_true rfl⟩ rfl rfl) (C87_ok hct hO c50) p53 (Nat.add_lt_add_left (by decide) d) rfl <|
    c_alvn f2 c81_59 <|
    (by cases e54; exact (c_arv (o := x2) c81_60))
  ) (fun x55 p53 e54 =>
    (by cases e54; exact (c_thrT (f := vU) (p := r49) (s_cv (as := [.ref s1, .int s0, .int r43]) (st' := []) c81_56 rfl (gK_ok c47) ⟨Nat.le_of_ble_eq_true rfl, Nat.le_of_ble_eq_true rfl, Nat.le_of_ble_eq_true rfl⟩ rfl rfl) (C87_ok hct hO c50) p53 (Nat.add_lt_add_left (by decide) d) nh81))
  ))
def J81_28 (xt : mj_X) (ct : Nat → Value) (O : OR) (N : Nat) (x0 : Nat) (x2 : Option Nat) (s0 : Int32) (s1 : Nat) (H : mj_H) : Option (((Option Nat) ⊕ Nat) × mj_H) :=
  (gI H x0 1 3).bind fun r25 =>
  (gK H s1 1).bind fun k28 =>
  (C87 xt ct O N s1 s0 r25 H).bind fun r31 =>
  tc (fun z => z) r31 fun v34 =>
  (C112 xt ct O N x2 r31.2).bind fun r38 =>
  bif mj_c1 .gt (lg_cmp r38.1 2147483648) then
    J81_52 xt ct O N x0 x2 0 x0 r38.2
  else
  J81_52 xt ct O N x0 x2 1 x0 r38.2
theorem J81_28_ok {xt : mj_X} {ct : Nat → Value} {O : OR} {d N : Nat} (hct : ct 0 = .int 1) (hO : oOK xt ct d O) {l : mj_L} {x0 : Nat} {x2 : Option Nat} {s0 : Int32} {s1 : Nat} {H : mj_H} {q : ((Option Nat) ⊕ Nat) × mj_H} (f0 : mj_ld l 0 = some (.ref x0)) (f2 : mj_ld l 2 = some (rv x2)) (e : J81_28 xt ct O N x0 x2 s0 s1 H = some q) : mj_Run kY xt ct (d + 6) 81 28 l [.int s0, .ref s1] H (tT vO q.1, q.2) := by
  unfold J81_28 at e
  exact (
  r_aloadn c81_28 f0 <|
  t_bd e fun r25 c26 e27 =>
  c_gI c81_29 c26 <|
  t_bd e27 fun k28 c29 e30 =>
  t_bd e30 fun r31 c32 e33 =>
  t_tc e33 (fun v34 p35 e36 =>
    c_calT (f := vU) (p := r31) (st2 := []) (s_cv (as := [.ref s1, .int s0, .int r25]) (st' := []) c81_32 rfl (gK_ok c29) ⟨Nat.le_of_ble_eq_true rfl, Nat.le_of_ble_eq_true rfl, Nat.le_of_ble_eq_true rfl⟩ rfl rfl) (C87_ok hct hO c32) p35 (Nat.add_lt_add_left (by decide) d) rfl <|
    r_aloadn c81_35 f0 <|
    c_alvn f2 c81_36 <|
    t_bd e36 fun r38 c39 e40 =>
    c_cal (st2 := [.long r38.1, .ref x0]) (s_cs (as := [rv x2]) (st' := [.ref x0]) c81_37 (by cases (x2) <;> exact ⟨Nat.le_of_ble_eq_true rfl, Nat.le_of_ble_eq_true rfl, Nat.le_of_ble_eq_true rfl⟩) rfl rfl) (C112_ok hct hO c39) (Nat.add_lt_add_left (by decide) d) rfl <|
    r_ldc2 c81_40 <|
    r_lcmp c81_43 rfl <|
    t_if e40 (fun b41 e42 =>
      r_ifT c81_44 b41 <|
      r_iconst c81_51 <|
      J81_52_ok hct hO f0 f2 e42
    ) (fun b41 e42 =>
      r_ifF c81_44 b41 <|
      r_iconst c81_47 <|
      r_goto c81_48 <|
      J81_52_ok hct hO f0 f2 e42
    )
  ) (fun x37 p35 e36 =>
    (by cases e36; exact (c_thrT (f := vU) (p := r31) (s_cv (as := [.ref s1, .int s0, .int r25]) (st' := []) c81_32 rfl (gK_ok c29) ⟨Nat.le_of_ble_eq_true rfl, Nat.le_of_ble_eq_true rfl, Nat.le_of_ble_eq_true rfl⟩ rfl rfl) (C87_ok hct hO c32) p35 (Nat.add_lt_add_left (by decide) d) nh81))
  ))
/-- DiceOdds$Parser.wholeProgram(Ljava/lang/StringBuilder;)LDiceOdds$Statement; -/
def C81 (xt : mj_X) (ct : Nat → Value) (O : OR) (N : Nat) (x0 : Nat) (x1 : Nat) (H : mj_H) : Option (((Option Nat) ⊕ Nat) × mj_H) :=
  (gK H x0 1).bind fun k1 =>
  (C82 xt ct O N x0 x1 H).bind fun r4 =>
  (gK r4 x0 1).bind fun k7 =>
  (O.1 x0 0 r4).bind fun r10 =>
  tc (fun z => z) r10 fun v13 =>
  (gI r10.2 x0 1 3).bind fun r17 =>
  (gI r10.2 x0 1 2).bind fun r20 =>
  bif mj_c2 .ne r17 r20 then
    J81_28 xt ct O N x0 v13 0 x0 r10.2
  else
  J81_28 xt ct O N x0 v13 1 x0 r10.2
theorem C81_ok {xt : mj_X} {ct : Nat → Value} {O : OR} {d N : Nat} (hct : ct 0 = .int 1) (hO : oOK xt ct d O) {x0 : Nat} {x1 : Nat} {H : mj_H} {q : ((Option Nat) ⊕ Nat) × mj_H} (e : C81 xt ct O N x0 x1 H = some q) : mj_Run kY xt ct (d + 6) 81 0 (lv_args 0 [.ref x0, .ref x1]) [] H (tT vO q.1, q.2) := by
  unfold C81 at e
  exact (
  r_aloadn c81_0 rfl <|
  r_aloadn c81_1 rfl <|
  t_bd e fun k1 c2 e3 =>
  t_bd e3 fun r4 c5 e6 =>
  c_cal (st2 := []) (s_cv (as := [.ref x0, .ref x1]) (st' := []) c81_2 rfl (gK_ok c2) ⟨Nat.le_of_ble_eq_true rfl, Nat.le_of_ble_eq_true rfl, Nat.le_of_ble_eq_true rfl⟩ rfl rfl) (C82_ok hct hO c5) (Nat.add_lt_add_left (by decide) d) rfl <|
  r_aloadn c81_5 rfl <|
  r_iconst c81_6 <|
  t_bd e6 fun k7 c8 e9 =>
  t_bd e9 fun r10 c11 e12 =>
  t_tc e12 (fun v13 p14 e15 =>
    c_calT (f := vO) (p := r10) (st2 := [rv v13]) (s_cv (as := [.ref x0, .int 0]) (st' := []) c81_7 rfl (gK_ok c8) ⟨Nat.le_of_ble_eq_true rfl, Nat.le_of_ble_eq_true rfl, Nat.le_of_ble_eq_true rfl⟩ rfl rfl) (hO.1 _ _ _ _ c11) p14 (Nat.lt_add_of_pos_right (by decide)) rfl <|
    c_asvn (o := v13) c81_10 <|
    r_aloadn c81_11 (ld1_ne rfl (by decide) (Or.inl (by decide))) <|
    r_aloadn c81_12 (ld1_ne rfl (by decide) (Or.inl (by decide))) <|
    t_bd e15 fun r17 c18 e19 =>
    c_gI c81_13 c18 <|
    r_aloadn c81_16 (ld1_ne rfl (by decide) (Or.inl (by decide))) <|
    t_bd e19 fun r20 c21 e22 =>
    c_gI c81_17 c21 <|
    t_if e22 (fun b23 e24 =>
      r_icmpT c81_20 b23 <|
      r_iconst c81_27 <|
      J81_28_ok hct hO (ld1_ne rfl (by decide) (Or.inl (by decide))) ld1_eq e24
    ) (fun b23 e24 =>
      r_icmpF c81_20 b23 <|
      r_iconst c81_23 <|
      r_goto c81_24 <|
      J81_28_ok hct hO (ld1_ne rfl (by decide) (Or.inl (by decide))) ld1_eq e24
    )
  ) (fun x16 p14 e15 =>
    (by cases e15; exact (c_thrT (f := vO) (p := r10) (s_cv (as := [.ref x0, .int 0]) (st' := []) c81_7 rfl (gK_ok c8) ⟨Nat.le_of_ble_eq_true rfl, Nat.le_of_ble_eq_true rfl, Nat.le_of_ble_eq_true rfl⟩ rfl rfl) (hO.1 _ _ _ _ c11) p14 (Nat.lt_add_of_pos_right (by decide)) nh81))
  ))
/-- DiceOdds$Slot.dropResult()V -/
def C118 (xt : mj_X) (ct : Nat → Value) (O : OR) (N : Nat) (x0 : Nat) (H : mj_H) : Option (mj_H) :=
  (uF H x0 4 4 (.int 0)).bind fun H1 =>
  (uF H1 x0 4 5 (.long 0)).bind fun H4 =>
  some H4
theorem C118_ok {xt : mj_X} {ct : Nat → Value} {O : OR} {d N : Nat} (hct : ct 0 = .int 1) (hO : oOK xt ct d O) {x0 : Nat} {H : mj_H} {q : mj_H} (e : C118 xt ct O N x0 H = some q) : mj_Run kY xt ct (d + 1) 118 0 (lv_args 0 [.ref x0]) [] H (.inl none, q) := by
  unfold C118 at e
  exact (
  r_aloadn c118_0 rfl <|
  r_iconst c118_1 <|
  t_bd e fun H1 c2 e3 =>
  c_uF c118_2 ⟨rfl, rfl⟩ c2 <|
  r_aloadn c118_5 rfl <|
  r_lconst c118_6 <|
  t_bd e3 fun H4 c5 e6 =>
  c_uF c118_7 ⟨rfl, rfl⟩ c5 <|
  (by cases e6; exact (r_ret c118_10)))
/-- DiceOdds$Slot.takeProgram(LDiceOdds$Statement;)V -/
def C117 (xt : mj_X) (ct : Nat → Value) (O : OR) (N : Nat) (x0 : Nat) (x1 : Option Nat) (H : mj_H) : Option (mj_H) :=
  (uF H x0 4 2 (.int 1)).bind fun H1 =>
  (uF H1 x0 4 3 (rv x1)).bind fun H4 =>
  (gK H4 x0 4).bind fun k7 =>
  (C118 xt ct O N x0 H4).bind fun r10 =>
  some r10
theorem C117_ok {xt : mj_X} {ct : Nat → Value} {O : OR} {d N : Nat} (hct : ct 0 = .int 1) (hO : oOK xt ct d O) {x0 : Nat} {x1 : Option Nat} {H : mj_H} {q : mj_H} (e : C117 xt ct O N x0 x1 H = some q) : mj_Run kY xt ct (d + 2) 117 0 (lv_args 0 [.ref x0, rv x1]) [] H (.inl none, q) := by
  unfold C117 at e
  exact (
  r_aloadn c117_0 rfl <|
  r_iconst c117_1 <|
  t_bd e fun H1 c2 e3 =>
  c_uF c117_2 ⟨rfl, rfl⟩ c2 <|
  r_aloadn c117_5 rfl <|
  c_alvn rfl c117_6 <|
  t_bd e3 fun H4 c5 e6 =>
  c_uF c117_7 (rv_fo _ _) c5 <|
  r_aloadn c117_10 rfl <|
  t_bd e6 fun k7 c8 e9 =>
  t_bd e9 fun r10 c11 e12 =>
  c_cal (st2 := []) (s_cv (as := [.ref x0]) (st' := []) c117_11 rfl (gK_ok c8) ⟨Nat.le_of_ble_eq_true rfl, Nat.le_of_ble_eq_true rfl, Nat.le_of_ble_eq_true rfl⟩ rfl rfl) (C118_ok hct hO c11) (Nat.add_lt_add_left (by decide) d) rfl <|
  (by cases e12; exact (r_ret c117_14)))
/-- DiceOdds.read(I)I -/
def C78 (xt : mj_X) (ct : Nat → Value) (O : OR) (N : Nat) (x0 : Nat) (x1 : Int32) (H : mj_H) : Option (((Int32) ⊕ Nat) × mj_H) :=
  (gK H x0 5).bind fun k1 =>
  (C79 xt ct O N x0 x1 H).bind fun r4 =>
  tc (fun z => z) r4 fun v7 =>
  (gA r4.2 x0 5 2).bind fun r11 =>
  (gA r4.2 x0 5 0).bind fun r14 =>
  (gK r4.2 r11 1).bind fun k17 =>
  (C81 xt ct O N r11 r14 r4.2).bind fun r20 =>
  tc (fun z => z) r20 fun v23 =>
  (gK r20.2 v7 4).bind fun k27 =>
  (C117 xt ct O N v7 v23 r20.2).bind fun r30 =>
  (gA r30 x0 5 0).bind fun r33 =>
  (gK r30 r33 0).bind fun k36 =>
  (C37 xt ct O N r33 0 r30).bind fun r39 =>
  (gA r39 x0 5 2).bind fun r42 =>
  (gI r39 r42 1 4).bind fun r45 =>
  some (.inl r45, r39)
theorem C78_ok {xt : mj_X} {ct : Nat → Value} {O : OR} {d N : Nat} (hct : ct 0 = .int 1) (hO : oOK xt ct d O) {x0 : Nat} {x1 : Int32} {H : mj_H} {q : ((Int32) ⊕ Nat) × mj_H} (e : C78 xt ct O N x0 x1 H = some q) : mj_Run kY xt ct (d + 7) 78 0 (lv_args 0 [.ref x0, .int x1]) [] H (tT vI q.1, q.2) := by
  unfold C78 at e
  exact (
  r_aloadn c78_0 rfl <|
  r_iloadn c78_1 rfl <|
  t_bd e fun k1 c2 e3 =>
  t_bd e3 fun r4 c5 e6 =>
  t_tc e6 (fun v7 p8 e9 =>
    c_calT (f := vA) (p := r4) (st2 := [.ref v7]) (s_cv (as := [.ref x0, .int x1]) (st' := []) c78_2 rfl (gK_ok c2) ⟨Nat.le_of_ble_eq_true rfl, Nat.le_of_ble_eq_true rfl, Nat.le_of_ble_eq_true rfl⟩ rfl rfl) (C79_ok hct hO c5) p8 (Nat.add_lt_add_left (by decide) d) rfl <|
    r_astoren c78_5 <|
    r_aloadn c78_6 (ld1_ne rfl (by decide) (Or.inl (by decide))) <|
    t_bd e9 fun r11 c12 e13 =>
    c_gA c78_7 c12 <|
    r_aloadn c78_10 (ld1_ne rfl (by decide) (Or.inl (by decide))) <|
    t_bd e13 fun r14 c15 e16 =>
    c_gA c78_11 c15 <|
    t_bd e16 fun k17 c18 e19 =>
    t_bd e19 fun r20 c21 e22 =>
    t_tc e22 (fun v23 p24 e25 =>
      c_calT (f := vO) (p := r20) (st2 := [rv v23]) (s_cv (as := [.ref r11, .ref r14]) (st' := []) c78_14 rfl (gK_ok c18) ⟨Nat.le_of_ble_eq_true rfl, Nat.le_of_ble_eq_true rfl, Nat.le_of_ble_eq_true rfl⟩ rfl rfl) (C81_ok hct hO c21) p24 (Nat.add_lt_add_left (by decide) d) rfl <|
      c_asvn (o := v23) c78_17 <|
      r_aloadn c78_18 (ld1_ne ld1_eq (by decide) (Or.inr rfl)) <|
      c_alvn ld1_eq c78_19 <|
      t_bd e25 fun k27 c28 e29 =>
      t_bd e29 fun r30 c31 e32 =>
      c_cal (st2 := []) (s_cv (as := [.ref v7, rv v23]) (st' := []) c78_20 rfl (gK_ok c28) (by cases (v23) <;> exact ⟨Nat.le_of_ble_eq_true rfl, Nat.le_of_ble_eq_true rfl, Nat.le_of_ble_eq_true rfl⟩) rfl rfl) (C117_ok hct hO c31) (Nat.add_lt_add_left (by decide) d) rfl <|
      r_aloadn c78_23 (ld1_ne (ld1_ne rfl (by decide) (Or.inl (by decide))) (by decide) (Or.inl (by decide))) <|
      t_bd e32 fun r33 c34 e35 =>
      c_gA c78_24 c34 <|
      r_iconst c78_27 <|
      t_bd e35 fun k36 c37 e38 =>
      t_bd e38 fun r39 c40 e41 =>
      c_cal (st2 := []) (s_cv (as := [.ref r33, .int 0]) (st' := []) c78_28 rfl (gK_ok c37) ⟨Nat.le_of_ble_eq_true rfl, Nat.le_of_ble_eq_true rfl, Nat.le_of_ble_eq_true rfl⟩ rfl rfl) (C37_ok hct hO c40) (Nat.add_lt_add_left (by decide) d) rfl <|
      r_aloadn c78_31 (ld1_ne (ld1_ne rfl (by decide) (Or.inl (by decide))) (by decide) (Or.inl (by decide))) <|
      t_bd e41 fun r42 c43 e44 =>
      c_gA c78_32 c43 <|
      t_bd e44 fun r45 c46 e47 =>
      c_gI c78_35 c46 <|
      (by cases e47; exact (r_iret c78_38 rfl))
    ) (fun x26 p24 e25 =>
      (by cases e25; exact (c_thrT (f := vO) (p := r20) (s_cv (as := [.ref r11, .ref r14]) (st' := []) c78_14 rfl (gK_ok c18) ⟨Nat.le_of_ble_eq_true rfl, Nat.le_of_ble_eq_true rfl, Nat.le_of_ble_eq_true rfl⟩ rfl rfl) (C81_ok hct hO c21) p24 (Nat.add_lt_add_left (by decide) d) nh78))
    )
  ) (fun x10 p8 e9 =>
    (by cases e9; exact (c_thrT (f := vA) (p := r4) (s_cv (as := [.ref x0, .int x1]) (st' := []) c78_2 rfl (gK_ok c2) ⟨Nat.le_of_ble_eq_true rfl, Nat.le_of_ble_eq_true rfl, Nat.le_of_ble_eq_true rfl⟩ rfl rfl) (C79_ok hct hO c5) p8 (Nat.add_lt_add_left (by decide) d) nh78))
  ))
/-- DiceOdds.withProgram(I)LDiceOdds$Slot; -/
def C121 (xt : mj_X) (ct : Nat → Value) (O : OR) (N : Nat) (x0 : Nat) (x1 : Int32) (H : mj_H) : Option (((Nat) ⊕ Nat) × mj_H) :=
  (gK H x0 5).bind fun k1 =>
  (C79 xt ct O N x0 x1 H).bind fun r4 =>
  tc (fun z => z) r4 fun v7 =>
  (gI r4.2 v7 4 2).bind fun r11 =>
  bif mj_c1 .ne r11 then
    some (.inl v7, r4.2)
  else
  some (.inr r4.2.2.1, mj_new r4.2 6 (.inr (14, [])))
theorem C121_ok {xt : mj_X} {ct : Nat → Value} {O : OR} {d N : Nat} (hct : ct 0 = .int 1) (hO : oOK xt ct d O) {x0 : Nat} {x1 : Int32} {H : mj_H} {q : ((Nat) ⊕ Nat) × mj_H} (e : C121 xt ct O N x0 x1 H = some q) : mj_Run kY xt ct (d + 3) 121 0 (lv_args 0 [.ref x0, .int x1]) [] H (tT vA q.1, q.2) := by
  unfold C121 at e
  exact (
  r_aloadn c121_0 rfl <|
  r_iloadn c121_1 rfl <|
  t_bd e fun k1 c2 e3 =>
  t_bd e3 fun r4 c5 e6 =>
  t_tc e6 (fun v7 p8 e9 =>
    c_calT (f := vA) (p := r4) (st2 := [.ref v7]) (s_cv (as := [.ref x0, .int x1]) (st' := []) c121_2 rfl (gK_ok c2) ⟨Nat.le_of_ble_eq_true rfl, Nat.le_of_ble_eq_true rfl, Nat.le_of_ble_eq_true rfl⟩ rfl rfl) (C79_ok hct hO c5) p8 (Nat.add_lt_add_left (by decide) d) rfl <|
    r_astoren c121_5 <|
    r_aloadn c121_6 ld1_eq <|
    t_bd e9 fun r11 c12 e13 =>
    c_gI c121_7 c12 <|
    t_if e13 (fun b14 e15 =>
      r_ifT c121_10 b14 <|
      r_aloadn c121_23 ld1_eq <|
      (by cases e15; exact (r_aret c121_24))
    ) (fun b14 e15 =>
      r_ifF c121_10 b14 <|
      (by cases e15; exact (c_thr c121_13 (Nat.le_of_ble_eq_true rfl)))
    )
  ) (fun x10 p8 e9 =>
    (by cases e9; exact (c_thrT (f := vA) (p := r4) (s_cv (as := [.ref x0, .int x1]) (st' := []) c121_2 rfl (gK_ok c2) ⟨Nat.le_of_ble_eq_true rfl, Nat.le_of_ble_eq_true rfl, Nat.le_of_ble_eq_true rfl⟩ rfl rfl) (C79_ok hct hO c5) p8 (Nat.add_lt_add_left (by decide) d) nh121))
  ))
/-- DiceOdds.print(I)I -/
def C120 (xt : mj_X) (ct : Nat → Value) (O : OR) (N : Nat) (x0 : Nat) (x1 : Int32) (H : mj_H) : Option (((Int32) ⊕ Nat) × mj_H) :=
  (gK H x0 5).bind fun k1 =>
  (C121 xt ct O N x0 x1 H).bind fun r4 =>
  tc (fun z => z) r4 fun v7 =>
  (gA r4.2 x0 5 0).bind fun r11 =>
  (gK r4.2 r11 0).bind fun k14 =>
  (C37 xt ct O N r11 0 r4.2).bind fun r17 =>
  (gR r17 v7 4 3).bind fun r20 =>
  (gA r17 x0 5 0).bind fun r23 =>
  (O.2.2.2.1 r20 r23 r17).bind fun r26 =>
  (gA r26 x0 5 0).bind fun r29 =>
  (gK r26 r29 0).bind fun k32 =>
  (C10 xt ct O N r29 r26).bind fun r35 =>
  some (.inl r35.1, r35.2)
theorem C120_ok {xt : mj_X} {ct : Nat → Value} {O : OR} {d N : Nat} (hct : ct 0 = .int 1) (hO : oOK xt ct d O) {x0 : Nat} {x1 : Int32} {H : mj_H} {q : ((Int32) ⊕ Nat) × mj_H} (e : C120 xt ct O N x0 x1 H = some q) : mj_Run kY xt ct (d + 7) 120 0 (lv_args 0 [.ref x0, .int x1]) [] H (tT vI q.1, q.2) := by
  unfold C120 at e
  exact (
  r_aloadn c120_0 rfl <|
  r_iloadn c120_1 rfl <|
  t_bd e fun k1 c2 e3 =>
  t_bd e3 fun r4 c5 e6 =>
  t_tc e6 (fun v7 p8 e9 =>
    c_calT (f := vA) (p := r4) (st2 := [.ref v7]) (s_cv (as := [.ref x0, .int x1]) (st' := []) c120_2 rfl (gK_ok c2) ⟨Nat.le_of_ble_eq_true rfl, Nat.le_of_ble_eq_true rfl, Nat.le_of_ble_eq_true rfl⟩ rfl rfl) (C121_ok hct hO c5) p8 (Nat.add_lt_add_left (by decide) d) rfl <|
    r_astoren c120_5 <|
    r_aloadn c120_6 (ld1_ne rfl (by decide) (Or.inl (by decide))) <|
    t_bd e9 fun r11 c12 e13 =>
    c_gA c120_7 c12 <|
    r_iconst c120_10 <|
    t_bd e13 fun k14 c15 e16 =>
    t_bd e16 fun r17 c18 e19 =>
    c_cal (st2 := []) (s_cv (as := [.ref r11, .int 0]) (st' := []) c120_11 rfl (gK_ok c15) ⟨Nat.le_of_ble_eq_true rfl, Nat.le_of_ble_eq_true rfl, Nat.le_of_ble_eq_true rfl⟩ rfl rfl) (C37_ok hct hO c18) (Nat.add_lt_add_left (by decide) d) rfl <|
    r_aloadn c120_14 ld1_eq <|
    t_bd e19 fun r20 c21 e22 =>
    c_gR c120_15 c21 <|
    r_aloadn c120_18 (ld1_ne rfl (by decide) (Or.inl (by decide))) <|
    t_bd e22 fun r23 c24 e25 =>
    c_gA c120_19 c24 <|
    t_bd e25 fun r26 c27 e28 =>
    c_cal (st2 := []) (s_cs (as := [rv r20, .ref r23]) (st' := []) c120_22 (by cases (r20) <;> exact ⟨Nat.le_of_ble_eq_true rfl, Nat.le_of_ble_eq_true rfl, Nat.le_of_ble_eq_true rfl⟩) rfl rfl) (hO.2.2.2.1 _ _ _ _ c27) (Nat.lt_add_of_pos_right (by decide)) rfl <|
    r_aloadn c120_25 (ld1_ne rfl (by decide) (Or.inl (by decide))) <|
    t_bd e28 fun r29 c30 e31 =>
    c_gA c120_26 c30 <|
    t_bd e31 fun k32 c33 e34 =>
    t_bd e34 fun r35 c36 e37 =>
    c_cal (st2 := [.int r35.1]) (s_cv (as := [.ref r29]) (st' := []) c120_29 rfl (gK_ok c33) ⟨Nat.le_of_ble_eq_true rfl, Nat.le_of_ble_eq_true rfl, Nat.le_of_ble_eq_true rfl⟩ rfl rfl) (C10_ok hct hO c36) (Nat.add_lt_add_left (by decide) d) rfl <|
    (by cases e37; exact (r_iret c120_32 rfl))
  ) (fun x10 p8 e9 =>
    (by cases e9; exact (c_thrT (f := vA) (p := r4) (s_cv (as := [.ref x0, .int x1]) (st' := []) c120_2 rfl (gK_ok c2) ⟨Nat.le_of_ble_eq_true rfl, Nat.le_of_ble_eq_true rfl, Nat.le_of_ble_eq_true rfl⟩ rfl rfl) (C121_ok hct hO c5) p8 (Nat.add_lt_add_left (by decide) d) nh120))
  ))
