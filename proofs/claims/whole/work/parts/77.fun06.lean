/-- DiceOdds$Minus.lay(LDiceOdds$Bench;LDiceOdds$States;I)Z -/
def C151 (xt : mj_X) (ct : Nat → Value) (O : OR) (N : Nat) (x0 : Nat) (x1 : Nat) (x2 : Nat) (x3 : Int32) (H : mj_H) : Option ((Int32) × mj_H) :=
  (gA H x0 6 0).bind fun r1 =>
  (O.2.2.2.2.2.2 r1 x1 x2 x3 H).bind fun r4 =>
  (gK r4.2 x1 3).bind fun k7 =>
  (C161 xt ct O N x1 r4.2).bind fun r10 =>
  if narrow .boolean (.int r4.1) = .int r4.1 then
  some (r4.1, r10)
  else none
theorem C151_ok {xt : mj_X} {ct : Nat → Value} {O : OR} {d N : Nat} (hct : ct 0 = .int 1) (hO : oOK xt ct d O) {x0 : Nat} {x1 : Nat} {x2 : Nat} {x3 : Int32} {H : mj_H} {q : (Int32) × mj_H} (e : C151 xt ct O N x0 x1 x2 x3 H = some q) : mj_Run kY xt ct (d + 2) 151 0 (lv_args 0 [.ref x0, .ref x1, .ref x2, .int x3]) [] H (.inl (vI q.1), q.2) := by
  unfold C151 at e
  exact (
  r_aloadn c151_0 rfl <|
  t_bd e fun r1 c2 e3 =>
  c_gA c151_1 c2 <|
  r_aloadn c151_4 rfl <|
  r_aloadn c151_5 rfl <|
  r_iloadn c151_6 rfl <|
  t_bd e3 fun r4 c5 e6 =>
  c_dsp (as := [.ref r1, .ref x1, .ref x2, .int x3]) (v := (vI r4.1)) (st2 := [.int r4.1]) c151_7 c151_7_t rfl ⟨Nat.le_of_ble_eq_true rfl, Nat.le_of_ble_eq_true rfl, Nat.le_of_ble_eq_true rfl⟩ rfl rfl (hO.2.2.2.2.2.2 _ _ _ _ _ _ c5) (Nat.lt_add_of_pos_right (by decide)) <|
  r_istore c151_10 <|
  r_aloadn c151_12 (ld1_ne rfl (by decide) (Or.inl (by decide))) <|
  t_bd e6 fun k7 c8 e9 =>
  t_bd e9 fun r10 c11 e12 =>
  c_cal (st2 := []) (s_cv (as := [.ref x1]) (st' := []) c151_13 rfl (gK_ok c8) ⟨Nat.le_of_ble_eq_true rfl, Nat.le_of_ble_eq_true rfl, Nat.le_of_ble_eq_true rfl⟩ rfl rfl) (C161_ok hct hO c11) (Nat.add_lt_add_left (by decide) d) rfl <|
  r_iload c151_16 ld1_eq <|
  t_ck e12 fun z13 e14 =>
  (by cases e14; exact (r_iret c151_18 z13)))
def J159_21 (xt : mj_X) (ct : Nat → Value) (O : OR) (N : Nat) (x2 : Int32) (H : mj_H) : Option ((Int32) × mj_H) :=
  some (x2, H)
theorem J159_21_ok {xt : mj_X} {ct : Nat → Value} {O : OR} {d N : Nat} (hct : ct 0 = .int 1) (hO : oOK xt ct d O) {l : mj_L} {x2 : Int32} {H : mj_H} {q : (Int32) × mj_H} (f2 : mj_ld l 2 = some (.int x2)) (e : J159_21 xt ct O N x2 H = some q) : mj_Run kY xt ct (d + 1) 159 21 l [] H (.inl (vI q.1), q.2) := by
  unfold J159_21 at e
  exact (
  r_iloadn c159_21 f2 <|
  (by cases e; exact (r_iret c159_22 rfl)))
/-- java.lang.Math.floorDiv(II)I -/
def C159 (xt : mj_X) (ct : Nat → Value) (O : OR) (N : Nat) (x0 : Int32) (x1 : Int32) (H : mj_H) : Option ((Int32) × mj_H) :=
  if x1 ≠ 0 then
  bif mj_c1 .ge (x0 ^^^ x1) then
    J159_21 xt ct O N (x0 / x1) H
  else
  bif mj_c2 .eq ((x0 / x1) * x1) x0 then
    J159_21 xt ct O N (x0 / x1) H
  else
  some (((x0 / x1) - 1), H)
  else none
theorem C159_ok {xt : mj_X} {ct : Nat → Value} {O : OR} {d N : Nat} (hct : ct 0 = .int 1) (hO : oOK xt ct d O) {x0 : Int32} {x1 : Int32} {H : mj_H} {q : (Int32) × mj_H} (e : C159 xt ct O N x0 x1 H = some q) : mj_Run kY xt ct (d + 1) 159 0 (lv_args 0 [.int x0, .int x1]) [] H (.inl (vI q.1), q.2) := by
  unfold C159 at e
  exact (
  r_iloadn c159_0 rfl <|
  r_iloadn c159_1 rfl <|
  t_ck e fun y1 e2 =>
  r_idiv c159_2 y1 rfl <|
  r_istoren c159_3 <|
  r_iloadn c159_4 (ld1_ne rfl (by decide) (Or.inl (by decide))) <|
  r_iloadn c159_5 (ld1_ne rfl (by decide) (Or.inr rfl)) <|
  r_ixor c159_6 rfl <|
  t_if e2 (fun b3 e4 =>
    r_ifT c159_7 b3 <|
    J159_21_ok hct hO ld1_eq e4
  ) (fun b3 e4 =>
    r_ifF c159_7 b3 <|
    r_iloadn c159_10 ld1_eq <|
    r_iloadn c159_11 (ld1_ne rfl (by decide) (Or.inr rfl)) <|
    r_imul c159_12 rfl <|
    r_iloadn c159_13 (ld1_ne rfl (by decide) (Or.inl (by decide))) <|
    t_if e4 (fun b5 e6 =>
      r_icmpT c159_14 b5 <|
      J159_21_ok hct hO ld1_eq e6
    ) (fun b5 e6 =>
      r_icmpF c159_14 b5 <|
      r_iloadn c159_17 ld1_eq <|
      r_iconst c159_18 <|
      r_isub c159_19 rfl <|
      (by cases e6; exact (r_iret c159_20 rfl))
    )
  ))
def J160_18 (xt : mj_X) (ct : Nat → Value) (O : OR) (N : Nat) (x2 : Int32) (H : mj_H) : Option ((Int32) × mj_H) :=
  some (x2, H)
theorem J160_18_ok {xt : mj_X} {ct : Nat → Value} {O : OR} {d N : Nat} (hct : ct 0 = .int 1) (hO : oOK xt ct d O) {l : mj_L} {x2 : Int32} {H : mj_H} {q : (Int32) × mj_H} (f2 : mj_ld l 2 = some (.int x2)) (e : J160_18 xt ct O N x2 H = some q) : mj_Run kY xt ct (d + 1) 160 18 l [] H (.inl (vI q.1), q.2) := by
  unfold J160_18 at e
  exact (
  r_iloadn c160_18 f2 <|
  (by cases e; exact (r_iret c160_19 rfl)))
/-- java.lang.Math.floorMod(II)I -/
def C160 (xt : mj_X) (ct : Nat → Value) (O : OR) (N : Nat) (x0 : Int32) (x1 : Int32) (H : mj_H) : Option ((Int32) × mj_H) :=
  if x1 ≠ 0 then
  bif mj_c1 .ge (x0 ^^^ x1) then
    J160_18 xt ct O N (x0 - x0 / x1 * x1) H
  else
  bif mj_c1 .eq (x0 - x0 / x1 * x1) then
    J160_18 xt ct O N (x0 - x0 / x1 * x1) H
  else
  some (((x0 - x0 / x1 * x1) + x1), H)
  else none
theorem C160_ok {xt : mj_X} {ct : Nat → Value} {O : OR} {d N : Nat} (hct : ct 0 = .int 1) (hO : oOK xt ct d O) {x0 : Int32} {x1 : Int32} {H : mj_H} {q : (Int32) × mj_H} (e : C160 xt ct O N x0 x1 H = some q) : mj_Run kY xt ct (d + 1) 160 0 (lv_args 0 [.int x0, .int x1]) [] H (.inl (vI q.1), q.2) := by
  unfold C160 at e
  exact (
  r_iloadn c160_0 rfl <|
  r_iloadn c160_1 rfl <|
  t_ck e fun y1 e2 =>
  r_irem c160_2 y1 rfl <|
  r_istoren c160_3 <|
  r_iloadn c160_4 (ld1_ne rfl (by decide) (Or.inl (by decide))) <|
  r_iloadn c160_5 (ld1_ne rfl (by decide) (Or.inr rfl)) <|
  r_ixor c160_6 rfl <|
  t_if e2 (fun b3 e4 =>
    r_ifT c160_7 b3 <|
    J160_18_ok hct hO ld1_eq e4
  ) (fun b3 e4 =>
    r_ifF c160_7 b3 <|
    r_iloadn c160_10 ld1_eq <|
    t_if e4 (fun b5 e6 =>
      r_ifT c160_11 b5 <|
      J160_18_ok hct hO ld1_eq e6
    ) (fun b5 e6 =>
      r_ifF c160_11 b5 <|
      r_iloadn c160_14 ld1_eq <|
      r_iloadn c160_15 (ld1_ne rfl (by decide) (Or.inr rfl)) <|
      r_iadd c160_16 rfl <|
      (by cases e6; exact (r_iret c160_17 rfl))
    )
  ))
def J158_111 (xt : mj_X) (ct : Nat → Value) (O : OR) (N : Nat) (s0 : Int32) (H : mj_H) : Option ((Int32) × mj_H) :=
  some (s0, H)
theorem J158_111_ok {xt : mj_X} {ct : Nat → Value} {O : OR} {d N : Nat} (hct : ct 0 = .int 1) (hO : oOK xt ct d O) {l : mj_L} {s0 : Int32} {H : mj_H} {q : (Int32) × mj_H}  (e : J158_111 xt ct O N s0 H = some q) : mj_Run kY xt ct (d + 2) 158 111 l [.int s0] H (.inl (vI q.1), q.2) := by
  unfold J158_111 at e
  exact (
  (by cases e; exact (r_iret c158_111 rfl)))
def J158_95 (xt : mj_X) (ct : Nat → Value) (O : OR) (N : Nat) (s0 : Int32) (H : mj_H) : Option ((Int32) × mj_H) :=
  some (s0, H)
theorem J158_95_ok {xt : mj_X} {ct : Nat → Value} {O : OR} {d N : Nat} (hct : ct 0 = .int 1) (hO : oOK xt ct d O) {l : mj_L} {s0 : Int32} {H : mj_H} {q : (Int32) × mj_H}  (e : J158_95 xt ct O N s0 H = some q) : mj_Run kY xt ct (d + 2) 158 95 l [.int s0] H (.inl (vI q.1), q.2) := by
  unfold J158_95 at e
  exact (
  (by cases e; exact (r_iret c158_95 rfl)))
def J158_122 (xt : mj_X) (ct : Nat → Value) (O : OR) (N : Nat) (s0 : Int32) (H : mj_H) : Option ((Int32) × mj_H) :=
  some (s0, H)
theorem J158_122_ok {xt : mj_X} {ct : Nat → Value} {O : OR} {d N : Nat} (hct : ct 0 = .int 1) (hO : oOK xt ct d O) {l : mj_L} {s0 : Int32} {H : mj_H} {q : (Int32) × mj_H}  (e : J158_122 xt ct O N s0 H = some q) : mj_Run kY xt ct (d + 2) 158 122 l [.int s0] H (.inl (vI q.1), q.2) := by
  unfold J158_122 at e
  exact (
  (by cases e; exact (r_iret c158_122 rfl)))
def J158_133 (xt : mj_X) (ct : Nat → Value) (O : OR) (N : Nat) (s0 : Int32) (H : mj_H) : Option ((Int32) × mj_H) :=
  some (s0, H)
theorem J158_133_ok {xt : mj_X} {ct : Nat → Value} {O : OR} {d N : Nat} (hct : ct 0 = .int 1) (hO : oOK xt ct d O) {l : mj_L} {s0 : Int32} {H : mj_H} {q : (Int32) × mj_H}  (e : J158_133 xt ct O N s0 H = some q) : mj_Run kY xt ct (d + 2) 158 133 l [.int s0] H (.inl (vI q.1), q.2) := by
  unfold J158_133 at e
  exact (
  (by cases e; exact (r_iret c158_133 rfl)))
def J158_144 (xt : mj_X) (ct : Nat → Value) (O : OR) (N : Nat) (s0 : Int32) (H : mj_H) : Option ((Int32) × mj_H) :=
  some (s0, H)
theorem J158_144_ok {xt : mj_X} {ct : Nat → Value} {O : OR} {d N : Nat} (hct : ct 0 = .int 1) (hO : oOK xt ct d O) {l : mj_L} {s0 : Int32} {H : mj_H} {q : (Int32) × mj_H}  (e : J158_144 xt ct O N s0 H = some q) : mj_Run kY xt ct (d + 2) 158 144 l [.int s0] H (.inl (vI q.1), q.2) := by
  unfold J158_144 at e
  exact (
  (by cases e; exact (r_iret c158_144 rfl)))
/-- DiceOdds$Operation.resultOf(CII)I -/
def C158 (xt : mj_X) (ct : Nat → Value) (O : OR) (N : Nat) (x0 : Int32) (x1 : Int32) (x2 : Int32) (H : mj_H) : Option ((Int32) × mj_H) :=
  bif mj_c2 .eq x0 37 then
    bif mj_c1 .ne x2 then
      (C160 xt ct O N x1 x2 H).bind fun r5 =>
      J158_111 xt ct O N r5.1 r5.2
    else
    J158_111 xt ct O N 1000 H
  else
  bif mj_c2 .eq x0 42 then
    some ((x1 * x2), H)
  else
  bif mj_c2 .eq x0 43 then
    some ((x1 + x2), H)
  else
  bif mj_c2 .eq x0 45 then
    some ((x1 - x2), H)
  else
  bif mj_c2 .eq x0 47 then
    bif mj_c1 .ne x2 then
      (C159 xt ct O N x1 x2 H).bind fun r18 =>
      J158_95 xt ct O N r18.1 r18.2
    else
    J158_95 xt ct O N 1000 H
  else
  bif mj_c2 .eq x0 60 then
    bif mj_c2 .ge x1 x2 then
      J158_122 xt ct O N 0 H
    else
    J158_122 xt ct O N 1 H
  else
  bif mj_c2 .eq x0 62 then
    bif mj_c2 .le x1 x2 then
      J158_133 xt ct O N 0 H
    else
    J158_133 xt ct O N 1 H
  else
  bif mj_c2 .ne x1 x2 then
    J158_144 xt ct O N 0 H
  else
  J158_144 xt ct O N 1 H
theorem C158_ok {xt : mj_X} {ct : Nat → Value} {O : OR} {d N : Nat} (hct : ct 0 = .int 1) (hO : oOK xt ct d O) {x0 : Int32} {x1 : Int32} {x2 : Int32} {H : mj_H} {q : (Int32) × mj_H} (e : C158 xt ct O N x0 x1 x2 H = some q) : mj_Run kY xt ct (d + 2) 158 0 (lv_args 0 [.int x0, .int x1, .int x2]) [] H (.inl (vI q.1), q.2) := by
  unfold C158 at e
  exact (
  r_iloadn c158_0 rfl <|
  t_if e (fun b1 e2 =>
    c_sw c158_1_37 b1 <|
    r_iloadn c158_96 rfl <|
    t_if e2 (fun b3 e4 =>
      r_ifT c158_97 b3 <|
      r_iloadn c158_106 rfl <|
      r_iloadn c158_107 rfl <|
      t_bd e4 fun r5 c6 e7 =>
      c_cal (st2 := [.int r5.1]) (s_cs (as := [.int x1, .int x2]) (st' := []) c158_108 ⟨Nat.le_of_ble_eq_true rfl, Nat.le_of_ble_eq_true rfl, Nat.le_of_ble_eq_true rfl⟩ rfl rfl) (C160_ok hct hO c6) (Nat.add_lt_add_left (by decide) d) rfl <|
      J158_111_ok hct hO  e7
    ) (fun b3 e4 =>
      r_ifF c158_97 b3 <|
      r_sipush c158_100 <|
      r_goto c158_103 <|
      J158_111_ok hct hO  e4
    )
  ) (fun b1 e2 =>
  t_if e2 (fun b8 e9 =>
    c_sw c158_1_42 b8 <|
    r_iloadn c158_76 rfl <|
    r_iloadn c158_77 rfl <|
    r_imul c158_78 rfl <|
    (by cases e9; exact (r_iret c158_79 rfl))
  ) (fun b8 e9 =>
  t_if e9 (fun b10 e11 =>
    c_sw c158_1_43 b10 <|
    r_iloadn c158_68 rfl <|
    r_iloadn c158_69 rfl <|
    r_iadd c158_70 rfl <|
    (by cases e11; exact (r_iret c158_71 rfl))
  ) (fun b10 e11 =>
  t_if e11 (fun b12 e13 =>
    c_sw c158_1_45 b12 <|
    r_iloadn c158_72 rfl <|
    r_iloadn c158_73 rfl <|
    r_isub c158_74 rfl <|
    (by cases e13; exact (r_iret c158_75 rfl))
  ) (fun b12 e13 =>
  t_if e13 (fun b14 e15 =>
    c_sw c158_1_47 b14 <|
    r_iloadn c158_80 rfl <|
    t_if e15 (fun b16 e17 =>
      r_ifT c158_81 b16 <|
      r_iloadn c158_90 rfl <|
      r_iloadn c158_91 rfl <|
      t_bd e17 fun r18 c19 e20 =>
      c_cal (st2 := [.int r18.1]) (s_cs (as := [.int x1, .int x2]) (st' := []) c158_92 ⟨Nat.le_of_ble_eq_true rfl, Nat.le_of_ble_eq_true rfl, Nat.le_of_ble_eq_true rfl⟩ rfl rfl) (C159_ok hct hO c19) (Nat.add_lt_add_left (by decide) d) rfl <|
      J158_95_ok hct hO  e20
    ) (fun b16 e17 =>
      r_ifF c158_81 b16 <|
      r_sipush c158_84 <|
      r_goto c158_87 <|
      J158_95_ok hct hO  e17
    )
  ) (fun b14 e15 =>
  t_if e15 (fun b21 e22 =>
    c_sw c158_1_60 b21 <|
    r_iloadn c158_112 rfl <|
    r_iloadn c158_113 rfl <|
    t_if e22 (fun b23 e24 =>
      r_icmpT c158_114 b23 <|
      r_iconst c158_121 <|
      J158_122_ok hct hO  e24
    ) (fun b23 e24 =>
      r_icmpF c158_114 b23 <|
      r_iconst c158_117 <|
      r_goto c158_118 <|
      J158_122_ok hct hO  e24
    )
  ) (fun b21 e22 =>
  t_if e22 (fun b25 e26 =>
    c_sw c158_1_62 b25 <|
    r_iloadn c158_123 rfl <|
    r_iloadn c158_124 rfl <|
    t_if e26 (fun b27 e28 =>
      r_icmpT c158_125 b27 <|
      r_iconst c158_132 <|
      J158_133_ok hct hO  e28
    ) (fun b27 e28 =>
      r_icmpF c158_125 b27 <|
      r_iconst c158_128 <|
      r_goto c158_129 <|
      J158_133_ok hct hO  e28
    )
  ) (fun b25 e26 =>
    r_sw (c158_1_d b1 b8 b10 b12 b14 b21 b25) <|
    r_iloadn c158_134 rfl <|
    r_iloadn c158_135 rfl <|
    t_if e26 (fun b29 e30 =>
      r_icmpT c158_136 b29 <|
      r_iconst c158_143 <|
      J158_144_ok hct hO  e30
    ) (fun b29 e30 =>
      r_icmpF c158_136 b29 <|
      r_iconst c158_139 <|
      r_goto c158_140 <|
      J158_144_ok hct hO  e30
    )
  ))))))))
def LG157_3 (xt : mj_X) (ct : Nat → Value) (d : Nat) (q : (Int32) × mj_H) (x0 : Nat) (x1 : Int32) (x3 : Int32) (x4 : Int32) (x5 : Int32) (H : mj_H) : Prop := ∀ l, mj_ld l 0 = some (.ref x0) → mj_ld l 1 = some (.int x1) → mj_ld l 3 = some (.int x3) → mj_ld l 4 = some (.int x4) → mj_ld l 5 = some (.int x5) → mj_Run kY xt ct (d + 3) 157 3 l [] H (.inl (vI q.1), q.2)
def GG157_3 (xt : mj_X) (ct : Nat → Value) (d : Nat) (q : (Int32) × mj_H) (o : (Nat × Int32 × Int32 × Int32 × Int32 × mj_H) ⊕ ((Int32) × mj_H)) : Prop := match o with
  | .inl (x0, x1, x3, x4, x5, H) => LG157_3 xt ct d q x0 x1 x3 x4 x5 H
  | .inr r => r = q
def LG157_12 (xt : mj_X) (ct : Nat → Value) (d : Nat) (q : (Int32) × mj_H) (x0 : Nat) (x1 : Int32) (x3 : Int32) (x4 : Int32) (x5 : Int32) (x6 : Int32) (H : mj_H) : Prop := ∀ l, mj_ld l 0 = some (.ref x0) → mj_ld l 1 = some (.int x1) → mj_ld l 3 = some (.int x3) → mj_ld l 4 = some (.int x4) → mj_ld l 5 = some (.int x5) → mj_ld l 6 = some (.int x6) → mj_Run kY xt ct (d + 3) 157 12 l [] H (.inl (vI q.1), q.2)
def GG157_12 (xt : mj_X) (ct : Nat → Value) (d : Nat) (q : (Int32) × mj_H) (o : (Nat × Int32 × Int32 × Int32 × Int32 × Int32 × mj_H) ⊕ ((Nat × Int32 × Int32 × Int32 × Int32 × mj_H) ⊕ ((Int32) × mj_H))) : Prop := match o with
  | .inl (x0, x1, x3, x4, x5, x6, H) => LG157_12 xt ct d q x0 x1 x3 x4 x5 x6 H
  | .inr r => GG157_3 xt ct d q r
def J157_55 (xt : mj_X) (ct : Nat → Value) (O : OR) (N : Nat)  (H : mj_H) : Option ((Int32) × mj_H) :=
  some (0, H)
theorem J157_55_ok {xt : mj_X} {ct : Nat → Value} {O : OR} {d N : Nat} (hct : ct 0 = .int 1) (hO : oOK xt ct d O) {l : mj_L}  {H : mj_H} {q : (Int32) × mj_H}  (e : J157_55 xt ct O N  H = some q) : mj_Run kY xt ct (d + 3) 157 55 l [] H (.inl (vI q.1), q.2) := by
  unfold J157_55 at e
  exact (
  r_iconst c157_55 <|
  (by cases e; exact (r_iret c157_56 rfl)))
def J157_94 (xt : mj_X) (ct : Nat → Value) (O : OR) (N : Nat) (x0 : Nat) (x1 : Int32) (x3 : Int32) (x4 : Int32) (x5 : Int32) (x6 : Int32) (x7 : Int32) (H : mj_H) : Option ((Nat × Int32 × Int32 × Int32 × Int32 × Int32 × mj_H) ⊕ ((Nat × Int32 × Int32 × Int32 × Int32 × mj_H) ⊕ ((Int32) × mj_H))) :=
  (gA H x0 3 4).bind fun r40 =>
  (aL xt H r40 (x7 + 999)).bind fun r43 =>
  (gA H x0 3 1).bind fun r46 =>
  (aL xt H r46 x5).bind fun r49 =>
  (gA H x0 3 1).bind fun r52 =>
  (aL xt H r52 x6).bind fun r55 =>
  (sL H r40 (x7 + 999) (r43 + (r49 * r55))).bind fun H58 =>
  some (.inl (x0, x1, x3, x4, x5, (x6 + 1), H58))
theorem J157_94_ok {xt : mj_X} {ct : Nat → Value} {O : OR} {d N : Nat} (hct : ct 0 = .int 1) (hO : oOK xt ct d O) {l : mj_L} {x0 : Nat} {x1 : Int32} {x3 : Int32} {x4 : Int32} {x5 : Int32} {x6 : Int32} {x7 : Int32} {H : mj_H} {o : (Nat × Int32 × Int32 × Int32 × Int32 × Int32 × mj_H) ⊕ ((Nat × Int32 × Int32 × Int32 × Int32 × mj_H) ⊕ ((Int32) × mj_H))} {q : (Int32) × mj_H} (f0 : mj_ld l 0 = some (.ref x0)) (f1 : mj_ld l 1 = some (.int x1)) (f3 : mj_ld l 3 = some (.int x3)) (f4 : mj_ld l 4 = some (.int x4)) (f5 : mj_ld l 5 = some (.int x5)) (f6 : mj_ld l 6 = some (.int x6)) (f7 : mj_ld l 7 = some (.int x7)) (e : J157_94 xt ct O N x0 x1 x3 x4 x5 x6 x7 H = some o) (g : GG157_12 xt ct d q o) : mj_Run kY xt ct (d + 3) 157 94 l [] H (.inl (vI q.1), q.2) := by
  unfold J157_94 at e
  exact (
  r_aloadn c157_94 f0 <|
  t_bd e fun r40 c41 e42 =>
  c_gA c157_95 c41 <|
  r_iload c157_98 f7 <|
  r_sipush c157_100 <|
  r_iadd c157_103 rfl <|
  r_dup2ia c157_104 <|
  t_bd e42 fun r43 c44 e45 =>
  c_aL c157_105 c44 <|
  r_aloadn c157_106 f0 <|
  t_bd e45 fun r46 c47 e48 =>
  c_gA c157_107 c47 <|
  r_iload c157_110 f5 <|
  t_bd e48 fun r49 c50 e51 =>
  c_aL c157_112 c50 <|
  r_aloadn c157_113 f0 <|
  t_bd e51 fun r52 c53 e54 =>
  c_gA c157_114 c53 <|
  r_iload c157_117 f6 <|
  t_bd e54 fun r55 c56 e57 =>
  c_aL c157_119 c56 <|
  r_lmul c157_120 rfl <|
  r_ladd c157_121 rfl <|
  t_bd e57 fun H58 c59 e60 =>
  c_sL c157_122 c59 <|
  r_iinc c157_123 f6 <|
  r_goto c157_126 <|
  t_rg e60 g (fun (z : LG157_12 xt ct d q x0 x1 x3 x4 x5 (x6 + 1) H58) => z _ (ld1_ne f0 (by decide) (Or.inl (by decide))) (ld1_ne f1 (by decide) (Or.inl (by decide))) (ld1_ne f3 (by decide) (Or.inl (by decide))) (ld1_ne f4 (by decide) (Or.inl (by decide))) (ld1_ne f5 (by decide) (Or.inr rfl)) ld1_eq))
def B157_12 (xt : mj_X) (ct : Nat → Value) (O : OR) (N : Nat) (s : Nat × Int32 × Int32 × Int32 × Int32 × Int32 × mj_H) : Option ((Nat × Int32 × Int32 × Int32 × Int32 × Int32 × mj_H) ⊕ ((Nat × Int32 × Int32 × Int32 × Int32 × mj_H) ⊕ ((Int32) × mj_H))) :=
  bif mj_c2 .ge s.2.2.2.2.2.1 s.2.2.2.1 then
    some (.inr (.inl (s.1, s.2.1, s.2.2.1, s.2.2.2.1, (s.2.2.2.2.1 + 1), s.2.2.2.2.2.2)))
  else
  (gA s.2.2.2.2.2.2 s.1 3 0).bind fun r5 =>
  (aI xt s.2.2.2.2.2.2 r5 s.2.2.2.2.1).bind fun r8 =>
  (gA s.2.2.2.2.2.2 s.1 3 0).bind fun r11 =>
  (aI xt s.2.2.2.2.2.2 r11 s.2.2.2.2.2.1).bind fun r14 =>
  (C158 xt ct O N s.2.1 r8 r14 s.2.2.2.2.2.2).bind fun r17 =>
  bif mj_c2 .lt r17.1 (-999) then
    ((J157_55 xt ct O N r17.2).map Sum.inr).map Sum.inr
  else
  bif mj_c2 .le r17.1 999 then
    (gA r17.2 s.1 3 4).bind fun r32 =>
    (aL xt r17.2 r32 (r17.1 + 999)).bind fun r35 =>
    bif mj_c1 .ne (lg_cmp r35 0) then
      J157_94 xt ct O N s.1 s.2.1 s.2.2.1 s.2.2.2.1 s.2.2.2.2.1 s.2.2.2.2.2.1 r17.1 r17.2
    else
    (gA r17.2 s.1 3 5).bind fun r61 =>
    (gI r17.2 s.1 3 6).bind fun r64 =>
    (sN .int r17.2 r61 r64 r17.1).bind fun H67 =>
    (gI H67 s.1 3 6).bind fun r70 =>
    (uF H67 s.1 3 6 (.int (r70 + 1))).bind fun H73 =>
    J157_94 xt ct O N s.1 s.2.1 s.2.2.1 s.2.2.2.1 s.2.2.2.2.1 s.2.2.2.2.2.1 r17.1 H73
  else
  ((J157_55 xt ct O N r17.2).map Sum.inr).map Sum.inr
def L157_12 (xt : mj_X) (ct : Nat → Value) (O : OR) (N : Nat) (s : Nat × Int32 × Int32 × Int32 × Int32 × Int32 × mj_H) : Option ((Nat × Int32 × Int32 × Int32 × Int32 × mj_H) ⊕ ((Int32) × mj_H)) := t_lp (B157_12 xt ct O N) N s
theorem B157_12_ok {xt : mj_X} {ct : Nat → Value} {O : OR} {d N : Nat} (hct : ct 0 = .int 1) (hO : oOK xt ct d O) {s : Nat × Int32 × Int32 × Int32 × Int32 × Int32 × mj_H} {o : (Nat × Int32 × Int32 × Int32 × Int32 × Int32 × mj_H) ⊕ ((Nat × Int32 × Int32 × Int32 × Int32 × mj_H) ⊕ ((Int32) × mj_H))} {q : (Int32) × mj_H} (e : B157_12 xt ct O N s = some o) (g : GG157_12 xt ct d q o) : LG157_12 xt ct d q s.1 s.2.1 s.2.2.1 s.2.2.2.1 s.2.2.2.2.1 s.2.2.2.2.2.1 s.2.2.2.2.2.2 := by
  unfold B157_12 at e
  exact (fun l f0 f1 f3 f4 f5 f6 =>
  r_iload c157_12 f6 <|
  r_iload c157_14 f4 <|
  t_if e (fun b3 e4 =>
    r_icmpT c157_16 b3 <|
    r_iinc c157_129 f5 <|
    r_goto c157_132 <|
    t_rg e4 g (fun (z : LG157_3 xt ct d q s.1 s.2.1 s.2.2.1 s.2.2.2.1 (s.2.2.2.2.1 + 1) s.2.2.2.2.2.2) => z _ (ld1_ne f0 (by decide) (Or.inl (by decide))) (ld1_ne f1 (by decide) (Or.inl (by decide))) (ld1_ne f3 (by decide) (Or.inl (by decide))) (ld1_ne f4 (by decide) (Or.inr rfl)) ld1_eq)
  ) (fun b3 e4 =>
    r_icmpF c157_16 b3 <|
    r_iloadn c157_19 f1 <|
    r_aloadn c157_20 f0 <|
    t_bd e4 fun r5 c6 e7 =>
    c_gA c157_21 c6 <|
    r_iload c157_24 f5 <|
    t_bd e7 fun r8 c9 e10 =>
    c_aI c157_26 c9 <|
    r_aloadn c157_27 f0 <|
    t_bd e10 fun r11 c12 e13 =>
    c_gA c157_28 c12 <|
    r_iload c157_31 f6 <|
    t_bd e13 fun r14 c15 e16 =>
    c_aI c157_33 c15 <|
    t_bd e16 fun r17 c18 e19 =>
    c_cal (st2 := [.int r17.1]) (s_cs (as := [.int s.2.1, .int r8, .int r14]) (st' := []) c157_34 ⟨Nat.le_of_ble_eq_true rfl, Nat.le_of_ble_eq_true rfl, Nat.le_of_ble_eq_true rfl⟩ rfl rfl) (C158_ok hct hO c18) (Nat.add_lt_add_left (by decide) d) rfl <|
    r_istore c157_37 <|
    r_iload c157_39 ld1_eq <|
    r_sipush c157_41 <|
    t_if e19 (fun b20 e21 =>
      r_icmpT c157_44 b20 <|
      t_up e21 fun o22 e23 u24 =>
      (fun (g25 : GG157_3 xt ct d q o22) =>
      t_up e23 fun o26 e27 u28 =>
      (fun (g29 : o26 = q) =>
      by subst g29; exact (J157_55_ok hct hO  e27)
      ) (by have := g25; rw [u28] at this; exact this)
      ) (by have := g; rw [u24] at this; exact this)
    ) (fun b20 e21 =>
      r_icmpF c157_44 b20 <|
      r_iload c157_47 ld1_eq <|
      r_sipush c157_49 <|
      t_if e21 (fun b30 e31 =>
        r_icmpT c157_52 b30 <|
        r_aloadn c157_57 (ld1_ne f0 (by decide) (Or.inl (by decide))) <|
        t_bd e31 fun r32 c33 e34 =>
        c_gA c157_58 c33 <|
        r_iload c157_61 ld1_eq <|
        r_sipush c157_63 <|
        r_iadd c157_66 rfl <|
        t_bd e34 fun r35 c36 e37 =>
        c_aL c157_67 c36 <|
        r_lconst c157_68 <|
        r_lcmp c157_69 rfl <|
        t_if e37 (fun b38 e39 =>
          r_ifT c157_70 b38 <|
          J157_94_ok hct hO (ld1_ne f0 (by decide) (Or.inl (by decide))) (ld1_ne f1 (by decide) (Or.inl (by decide))) (ld1_ne f3 (by decide) (Or.inl (by decide))) (ld1_ne f4 (by decide) (Or.inl (by decide))) (ld1_ne f5 (by decide) (Or.inl (by decide))) (ld1_ne f6 (by decide) (Or.inr rfl)) ld1_eq e39 g
        ) (fun b38 e39 =>
          r_ifF c157_70 b38 <|
          r_aloadn c157_73 (ld1_ne f0 (by decide) (Or.inl (by decide))) <|
          t_bd e39 fun r61 c62 e63 =>
          c_gA c157_74 c62 <|
          r_aloadn c157_77 (ld1_ne f0 (by decide) (Or.inl (by decide))) <|
          t_bd e63 fun r64 c65 e66 =>
          c_gI c157_78 c65 <|
          r_iload c157_81 ld1_eq <|
          t_bd e66 fun H67 c68 e69 =>
          c_sI c157_83 c68 <|
          r_aloadn c157_84 (ld1_ne f0 (by decide) (Or.inl (by decide))) <|
          r_dup c157_85 rfl <|
          t_bd e69 fun r70 c71 e72 =>
          c_gI c157_86 c71 <|
          r_iconst c157_89 <|
          r_iadd c157_90 rfl <|
          t_bd e72 fun H73 c74 e75 =>
          c_uF c157_91 ⟨rfl, rfl⟩ c74 <|
          J157_94_ok hct hO (ld1_ne f0 (by decide) (Or.inl (by decide))) (ld1_ne f1 (by decide) (Or.inl (by decide))) (ld1_ne f3 (by decide) (Or.inl (by decide))) (ld1_ne f4 (by decide) (Or.inl (by decide))) (ld1_ne f5 (by decide) (Or.inl (by decide))) (ld1_ne f6 (by decide) (Or.inr rfl)) ld1_eq e75 g
        )
      ) (fun b30 e31 =>
        r_icmpF c157_52 b30 <|
        t_up e31 fun o76 e77 u78 =>
        (fun (g79 : GG157_3 xt ct d q o76) =>
        t_up e77 fun o80 e81 u82 =>
        (fun (g83 : o80 = q) =>
        by subst g83; exact (J157_55_ok hct hO  e81)
        ) (by have := g79; rw [u82] at this; exact this)
        ) (by have := g; rw [u78] at this; exact this)
      )
    )
  ))
theorem L157_12_ok {xt : mj_X} {ct : Nat → Value} {O : OR} {d N : Nat} (hct : ct 0 = .int 1) (hO : oOK xt ct d O) {x0 : Nat} {x1 : Int32} {x3 : Int32} {x4 : Int32} {x5 : Int32} {x6 : Int32} {H : mj_H} {o : (Nat × Int32 × Int32 × Int32 × Int32 × mj_H) ⊕ ((Int32) × mj_H)} {q : (Int32) × mj_H} (e : L157_12 xt ct O N (x0, x1, x3, x4, x5, x6, H) = some o) (g : GG157_3 xt ct d q o) : LG157_12 xt ct d q x0 x1 x3 x4 x5 x6 H :=
  t_lp_ok (G := fun s => LG157_12 xt ct d q s.1 s.2.1 s.2.2.1 s.2.2.2.1 s.2.2.2.2.1 s.2.2.2.2.2.1 s.2.2.2.2.2.2) (fun s s' e g => B157_12_ok hct hO e (by obtain ⟨_, _, _, _, _, _, _⟩ := s'; exact g)) (fun s e => B157_12_ok hct hO e g) N (x0, x1, x3, x4, x5, x6, H) e
def B157_3 (xt : mj_X) (ct : Nat → Value) (O : OR) (N : Nat) (s : Nat × Int32 × Int32 × Int32 × Int32 × mj_H) : Option ((Nat × Int32 × Int32 × Int32 × Int32 × mj_H) ⊕ ((Int32) × mj_H)) :=
  bif mj_c2 .ge s.2.2.2.2.1 s.2.2.1 then
    some (.inr (1, s.2.2.2.2.2))
  else
  L157_12 xt ct O N (s.1, s.2.1, s.2.2.1, s.2.2.2.1, s.2.2.2.2.1, s.2.2.1, s.2.2.2.2.2)
def L157_3 (xt : mj_X) (ct : Nat → Value) (O : OR) (N : Nat) (s : Nat × Int32 × Int32 × Int32 × Int32 × mj_H) : Option ((Int32) × mj_H) := t_lp (B157_3 xt ct O N) N s
theorem B157_3_ok {xt : mj_X} {ct : Nat → Value} {O : OR} {d N : Nat} (hct : ct 0 = .int 1) (hO : oOK xt ct d O) {s : Nat × Int32 × Int32 × Int32 × Int32 × mj_H} {o : (Nat × Int32 × Int32 × Int32 × Int32 × mj_H) ⊕ ((Int32) × mj_H)} {q : (Int32) × mj_H} (e : B157_3 xt ct O N s = some o) (g : GG157_3 xt ct d q o) : LG157_3 xt ct d q s.1 s.2.1 s.2.2.1 s.2.2.2.1 s.2.2.2.2.1 s.2.2.2.2.2 := by
  unfold B157_3 at e
  exact (fun l f0 f1 f3 f4 f5 =>
  r_iload c157_3 f5 <|
  r_iloadn c157_5 f3 <|
  t_if e (fun b1 e2 =>
    r_icmpT c157_6 b1 <|
    r_iconst c157_135 <|
    t_rg e2 g (fun (z : (1, s.2.2.2.2.2) = q) => (by cases z; exact (r_iret c157_136 rfl)))
  ) (fun b1 e2 =>
    r_icmpF c157_6 b1 <|
    r_iloadn c157_9 f3 <|
    r_istore c157_10 <|
    L157_12_ok hct hO e2 g _ (ld1_ne f0 (by decide) (Or.inl (by decide))) (ld1_ne f1 (by decide) (Or.inl (by decide))) (ld1_ne f3 (by decide) (Or.inl (by decide))) (ld1_ne f4 (by decide) (Or.inl (by decide))) (ld1_ne f5 (by decide) (Or.inr rfl)) ld1_eq
  ))
theorem L157_3_ok {xt : mj_X} {ct : Nat → Value} {O : OR} {d N : Nat} (hct : ct 0 = .int 1) (hO : oOK xt ct d O) {x0 : Nat} {x1 : Int32} {x3 : Int32} {x4 : Int32} {x5 : Int32} {H : mj_H} {q : (Int32) × mj_H} (e : L157_3 xt ct O N (x0, x1, x3, x4, x5, H) = some q) : LG157_3 xt ct d q x0 x1 x3 x4 x5 H :=
  t_lp_ok (G := fun s => LG157_3 xt ct d q s.1 s.2.1 s.2.2.1 s.2.2.2.1 s.2.2.2.2.1 s.2.2.2.2.2) (fun s s' e g => B157_3_ok hct hO e (by obtain ⟨_, _, _, _, _, _⟩ := s'; exact g)) (fun s e => B157_3_ok hct hO e rfl) N (x0, x1, x3, x4, x5, H) e
/-- DiceOdds$Bench.collect(CIII)Z -/
def C157 (xt : mj_X) (ct : Nat → Value) (O : OR) (N : Nat) (x0 : Nat) (x1 : Int32) (x2 : Int32) (x3 : Int32) (x4 : Int32) (H : mj_H) : Option ((Int32) × mj_H) :=
  L157_3 xt ct O N (x0, x1, x3, x4, x2, H)
theorem C157_ok {xt : mj_X} {ct : Nat → Value} {O : OR} {d N : Nat} (hct : ct 0 = .int 1) (hO : oOK xt ct d O) {x0 : Nat} {x1 : Int32} {x2 : Int32} {x3 : Int32} {x4 : Int32} {H : mj_H} {q : (Int32) × mj_H} (e : C157 xt ct O N x0 x1 x2 x3 x4 H = some q) : mj_Run kY xt ct (d + 3) 157 0 (lv_args 0 [.ref x0, .int x1, .int x2, .int x3, .int x4]) [] H (.inl (vI q.1), q.2) := by
  unfold C157 at e
  exact (
  r_iloadn c157_0 rfl <|
  r_istore c157_1 <|
  L157_3_ok hct hO e _ (ld1_ne rfl (by decide) (Or.inl (by decide))) (ld1_ne rfl (by decide) (Or.inl (by decide))) (ld1_ne rfl (by decide) (Or.inl (by decide))) (ld1_ne rfl (by decide) (Or.inr rfl)) ld1_eq)
def LG156_79 (xt : mj_X) (ct : Nat → Value) (d : Nat) (q : (Int32) × mj_H) (x0 : Nat) (x2 : Int32) (x3 : Int32) (H : mj_H) : Prop := ∀ l, mj_ld l 0 = some (.ref x0) → mj_ld l 2 = some (.int x2) → mj_ld l 3 = some (.int x3) → mj_Run kY xt ct (d + 4) 156 79 l [] H (.inl (vI q.1), q.2)
def GG156_79 (xt : mj_X) (ct : Nat → Value) (d : Nat) (q : (Int32) × mj_H) (o : (Nat × Int32 × Int32 × mj_H) ⊕ ((Int32) × mj_H)) : Prop := match o with
  | .inl (x0, x2, x3, H) => LG156_79 xt ct d q x0 x2 x3 H
  | .inr r => r = q
def B156_79 (xt : mj_X) (ct : Nat → Value) (O : OR) (N : Nat) (s : Nat × Int32 × Int32 × mj_H) : Option ((Nat × Int32 × Int32 × mj_H) ⊕ ((Int32) × mj_H)) :=
  (gI s.2.2.2 s.1 3 6).bind fun r63 =>
  bif mj_c2 .ge s.2.2.1 r63 then
    (uF s.2.2.2 s.1 3 6 (.int 0)).bind fun H68 =>
    if narrow .boolean (.int s.2.1) = .int s.2.1 then
    some (.inr (s.2.1, H68))
    else none
  else
  (gA s.2.2.2 s.1 3 5).bind fun r73 =>
  (aI xt s.2.2.2 r73 s.2.2.1).bind fun r76 =>
  (gA s.2.2.2 s.1 3 5).bind fun r79 =>
  (aI xt s.2.2.2 r79 s.2.2.1).bind fun r82 =>
  (gA s.2.2.2 s.1 3 4).bind fun r85 =>
  (aL xt s.2.2.2 r85 (r76 + 999)).bind fun r88 =>
  (gK s.2.2.2 s.1 3).bind fun k91 =>
  (C150 xt ct O N s.1 r82 r88 s.2.2.2).bind fun r94 =>
  (gA r94 s.1 3 4).bind fun r97 =>
  (sL r94 r97 (r76 + 999) 0).bind fun H100 =>
  some (.inl (s.1, s.2.1, (s.2.2.1 + 1), H100))
def L156_79 (xt : mj_X) (ct : Nat → Value) (O : OR) (N : Nat) (s : Nat × Int32 × Int32 × mj_H) : Option ((Int32) × mj_H) := t_lp (B156_79 xt ct O N) N s
theorem B156_79_ok {xt : mj_X} {ct : Nat → Value} {O : OR} {d N : Nat} (hct : ct 0 = .int 1) (hO : oOK xt ct d O) {s : Nat × Int32 × Int32 × mj_H} {o : (Nat × Int32 × Int32 × mj_H) ⊕ ((Int32) × mj_H)} {q : (Int32) × mj_H} (e : B156_79 xt ct O N s = some o) (g : GG156_79 xt ct d q o) : LG156_79 xt ct d q s.1 s.2.1 s.2.2.1 s.2.2.2 := by
  unfold B156_79 at e
  exact (fun l f0 f2 f3 =>
  r_iloadn c156_79 f3 <|
  r_aloadn c156_80 f0 <|
  t_bd e fun r63 c64 e65 =>
  c_gI c156_81 c64 <|
  t_if e65 (fun b66 e67 =>
    r_icmpT c156_84 b66 <|
    r_aloadn c156_130 f0 <|
    r_iconst c156_131 <|
    t_bd e67 fun H68 c69 e70 =>
    c_uF c156_132 ⟨rfl, rfl⟩ c69 <|
    r_iloadn c156_135 f2 <|
    t_ck e70 fun z71 e72 =>
    t_rg e72 g (fun (z : (s.2.1, H68) = q) => (by cases z; exact (r_iret c156_136 z71)))
  ) (fun b66 e67 =>
    r_icmpF c156_84 b66 <|
    r_aloadn c156_87 f0 <|
    t_bd e67 fun r73 c74 e75 =>
    c_gA c156_88 c74 <|
    r_iloadn c156_91 f3 <|
    t_bd e75 fun r76 c77 e78 =>
    c_aI c156_92 c77 <|
    r_sipush c156_93 <|
    r_iadd c156_96 rfl <|
    r_istore c156_97 <|
    r_aloadn c156_99 (ld1_ne f0 (by decide) (Or.inl (by decide))) <|
    r_aloadn c156_100 (ld1_ne f0 (by decide) (Or.inl (by decide))) <|
    t_bd e78 fun r79 c80 e81 =>
    c_gA c156_101 c80 <|
    r_iloadn c156_104 (ld1_ne f3 (by decide) (Or.inr rfl)) <|
    t_bd e81 fun r82 c83 e84 =>
    c_aI c156_105 c83 <|
    r_aloadn c156_106 (ld1_ne f0 (by decide) (Or.inl (by decide))) <|
    t_bd e84 fun r85 c86 e87 =>
    c_gA c156_107 c86 <|
    r_iload c156_110 ld1_eq <|
    t_bd e87 fun r88 c89 e90 =>
    c_aL c156_112 c89 <|
    t_bd e90 fun k91 c92 e93 =>
    t_bd e93 fun r94 c95 e96 =>
    c_cal (st2 := []) (s_cv (as := [.ref s.1, .int r82, .long r88]) (st' := []) c156_113 rfl (gK_ok c92) ⟨Nat.le_of_ble_eq_true rfl, Nat.le_of_ble_eq_true rfl, Nat.le_of_ble_eq_true rfl⟩ rfl rfl) (C150_ok hct hO c95) (Nat.add_lt_add_left (by decide) d) rfl <|
    r_aloadn c156_116 (ld1_ne f0 (by decide) (Or.inl (by decide))) <|
    t_bd e96 fun r97 c98 e99 =>
    c_gA c156_117 c98 <|
    r_iload c156_120 ld1_eq <|
    r_lconst c156_122 <|
    t_bd e99 fun H100 c101 e102 =>
    c_sL c156_123 c101 <|
    r_iinc c156_124 (ld1_ne f3 (by decide) (Or.inr rfl)) <|
    r_goto c156_127 <|
    t_rg e102 g (fun (z : LG156_79 xt ct d q s.1 s.2.1 (s.2.2.1 + 1) H100) => z _ (ld1_ne (ld1_ne f0 (by decide) (Or.inl (by decide))) (by decide) (Or.inl (by decide))) (ld1_ne (ld1_ne f2 (by decide) (Or.inl (by decide))) (by decide) (Or.inr rfl)) ld1_eq)
  ))
theorem L156_79_ok {xt : mj_X} {ct : Nat → Value} {O : OR} {d N : Nat} (hct : ct 0 = .int 1) (hO : oOK xt ct d O) {x0 : Nat} {x2 : Int32} {x3 : Int32} {H : mj_H} {q : (Int32) × mj_H} (e : L156_79 xt ct O N (x0, x2, x3, H) = some q) : LG156_79 xt ct d q x0 x2 x3 H :=
  t_lp_ok (G := fun s => LG156_79 xt ct d q s.1 s.2.1 s.2.2.1 s.2.2.2) (fun s s' e g => B156_79_ok hct hO e (by obtain ⟨_, _, _, _⟩ := s'; exact g)) (fun s e => B156_79_ok hct hO e rfl) N (x0, x2, x3, H) e
/-- DiceOdds$Bench.combine(C)Z -/
def C156 (xt : mj_X) (ct : Nat → Value) (O : OR) (N : Nat) (x0 : Nat) (x1 : Int32) (H : mj_H) : Option ((Int32) × mj_H) :=
  (gI H x0 3 3).bind fun r1 =>
  bif mj_c2 .ge r1 2 then
    (gA H x0 3 2).bind fun r6 =>
    (gI H x0 3 3).bind fun r9 =>
    (aI xt H r6 (r9 - 2)).bind fun r12 =>
    (gA H x0 3 2).bind fun r15 =>
    (gI H x0 3 3).bind fun r18 =>
    (aI xt H r15 (r18 - 1)).bind fun r21 =>
    (gA H x0 3 2).bind fun r24 =>
    (gI H x0 3 3).bind fun r27 =>
    (aI xt H r24 r27).bind fun r30 =>
    (gK H x0 3).bind fun k33 =>
    (C157 xt ct O N x0 x1 r12 r21 r30 H).bind fun r36 =>
    (gI r36.2 x0 3 3).bind fun r39 =>
    (uF r36.2 x0 3 3 (.int (r39 - 1))).bind fun H42 =>
    (gA H42 x0 3 2).bind fun r45 =>
    (gI H42 x0 3 3).bind fun r48 =>
    (gA H42 x0 3 2).bind fun r51 =>
    (gI H42 x0 3 3).bind fun r54 =>
    (aI xt H42 r51 (r54 - 1)).bind fun r57 =>
    (sN .int H42 r45 r48 r57).bind fun H60 =>
    L156_79 xt ct O N (x0, r36.1, 0, H60)
  else
  some (0, H)
theorem C156_ok {xt : mj_X} {ct : Nat → Value} {O : OR} {d N : Nat} (hct : ct 0 = .int 1) (hO : oOK xt ct d O) {x0 : Nat} {x1 : Int32} {H : mj_H} {q : (Int32) × mj_H} (e : C156 xt ct O N x0 x1 H = some q) : mj_Run kY xt ct (d + 4) 156 0 (lv_args 0 [.ref x0, .int x1]) [] H (.inl (vI q.1), q.2) := by
  unfold C156 at e
  exact (
  r_aloadn c156_0 rfl <|
  t_bd e fun r1 c2 e3 =>
  c_gI c156_1 c2 <|
  r_iconst c156_4 <|
  t_if e3 (fun b4 e5 =>
    r_icmpT c156_5 b4 <|
    r_aloadn c156_10 rfl <|
    r_iloadn c156_11 rfl <|
    r_aloadn c156_12 rfl <|
    t_bd e5 fun r6 c7 e8 =>
    c_gA c156_13 c7 <|
    r_aloadn c156_16 rfl <|
    t_bd e8 fun r9 c10 e11 =>
    c_gI c156_17 c10 <|
    r_iconst c156_20 <|
    r_isub c156_21 rfl <|
    t_bd e11 fun r12 c13 e14 =>
    c_aI c156_22 c13 <|
    r_aloadn c156_23 rfl <|
    t_bd e14 fun r15 c16 e17 =>
    c_gA c156_24 c16 <|
    r_aloadn c156_27 rfl <|
    t_bd e17 fun r18 c19 e20 =>
    c_gI c156_28 c19 <|
    r_iconst c156_31 <|
    r_isub c156_32 rfl <|
    t_bd e20 fun r21 c22 e23 =>
    c_aI c156_33 c22 <|
    r_aloadn c156_34 rfl <|
    t_bd e23 fun r24 c25 e26 =>
    c_gA c156_35 c25 <|
    r_aloadn c156_38 rfl <|
    t_bd e26 fun r27 c28 e29 =>
    c_gI c156_39 c28 <|
    t_bd e29 fun r30 c31 e32 =>
    c_aI c156_42 c31 <|
    t_bd e32 fun k33 c34 e35 =>
    t_bd e35 fun r36 c37 e38 =>
    c_cal (st2 := [.int r36.1]) (s_cv (as := [.ref x0, .int x1, .int r12, .int r21, .int r30]) (st' := []) c156_43 rfl (gK_ok c34) ⟨Nat.le_of_ble_eq_true rfl, Nat.le_of_ble_eq_true rfl, Nat.le_of_ble_eq_true rfl⟩ rfl rfl) (C157_ok hct hO c37) (Nat.add_lt_add_left (by decide) d) rfl <|
    r_istoren c156_46 <|
    r_aloadn c156_47 (ld1_ne rfl (by decide) (Or.inl (by decide))) <|
    r_dup c156_48 rfl <|
    t_bd e38 fun r39 c40 e41 =>
    c_gI c156_49 c40 <|
    r_iconst c156_52 <|
    r_isub c156_53 rfl <|
    t_bd e41 fun H42 c43 e44 =>
    c_uF c156_54 ⟨rfl, rfl⟩ c43 <|
    r_aloadn c156_57 (ld1_ne rfl (by decide) (Or.inl (by decide))) <|
    t_bd e44 fun r45 c46 e47 =>
    c_gA c156_58 c46 <|
    r_aloadn c156_61 (ld1_ne rfl (by decide) (Or.inl (by decide))) <|
    t_bd e47 fun r48 c49 e50 =>
    c_gI c156_62 c49 <|
    r_aloadn c156_65 (ld1_ne rfl (by decide) (Or.inl (by decide))) <|
    t_bd e50 fun r51 c52 e53 =>
    c_gA c156_66 c52 <|
    r_aloadn c156_69 (ld1_ne rfl (by decide) (Or.inl (by decide))) <|
    t_bd e53 fun r54 c55 e56 =>
    c_gI c156_70 c55 <|
    r_iconst c156_73 <|
    r_isub c156_74 rfl <|
    t_bd e56 fun r57 c58 e59 =>
    c_aI c156_75 c58 <|
    t_bd e59 fun H60 c61 e62 =>
    c_sI c156_76 c61 <|
    r_iconst c156_77 <|
    r_istoren c156_78 <|
    L156_79_ok hct hO e62 _ (ld1_ne (ld1_ne rfl (by decide) (Or.inl (by decide))) (by decide) (Or.inl (by decide))) (ld1_ne ld1_eq (by decide) (Or.inr rfl)) ld1_eq
  ) (fun b4 e5 =>
    r_icmpF c156_5 b4 <|
    r_iconst c156_8 <|
    (by cases e5; exact (r_iret c156_9 rfl))
  ))
def J152_42 (xt : mj_X) (ct : Nat → Value) (O : OR) (N : Nat) (s0 : Int32) (H : mj_H) : Option ((Int32) × mj_H) :=
  if narrow .boolean (.int s0) = .int s0 then
  some (s0, H)
  else none
theorem J152_42_ok {xt : mj_X} {ct : Nat → Value} {O : OR} {d N : Nat} (hct : ct 0 = .int 1) (hO : oOK xt ct d O) {l : mj_L} {s0 : Int32} {H : mj_H} {q : (Int32) × mj_H}  (e : J152_42 xt ct O N s0 H = some q) : mj_Run kY xt ct (d + 5) 152 42 l [.int s0] H (.inl (vI q.1), q.2) := by
  unfold J152_42 at e
  exact (
  t_ck e fun z9 e10 =>
  (by cases e10; exact (r_iret c152_42 z9)))
def J152_41 (xt : mj_X) (ct : Nat → Value) (O : OR) (N : Nat)  (H : mj_H) : Option ((Int32) × mj_H) :=
  J152_42 xt ct O N 0 H
theorem J152_41_ok {xt : mj_X} {ct : Nat → Value} {O : OR} {d N : Nat} (hct : ct 0 = .int 1) (hO : oOK xt ct d O) {l : mj_L}  {H : mj_H} {q : (Int32) × mj_H}  (e : J152_41 xt ct O N  H = some q) : mj_Run kY xt ct (d + 5) 152 41 l [] H (.inl (vI q.1), q.2) := by
  unfold J152_41 at e
  exact (
  r_iconst c152_41 <|
  J152_42_ok hct hO  e)
/-- DiceOdds$Operation.lay(LDiceOdds$Bench;LDiceOdds$States;I)Z -/
def C152 (xt : mj_X) (ct : Nat → Value) (O : OR) (N : Nat) (x0 : Nat) (x1 : Nat) (x2 : Nat) (x3 : Int32) (H : mj_H) : Option ((Int32) × mj_H) :=
  (gA H x0 10 1).bind fun r1 =>
  (O.2.2.2.2.2.2 r1 x1 x2 x3 H).bind fun r4 =>
  bif mj_c1 .eq r4.1 then
    J152_41 xt ct O N r4.2
  else
  (gA r4.2 x0 10 2).bind fun r11 =>
  (O.2.2.2.2.2.2 r11 x1 x2 x3 r4.2).bind fun r14 =>
  bif mj_c1 .eq r14.1 then
    J152_41 xt ct O N r14.2
  else
  (gI r14.2 x0 10 0).bind fun r19 =>
  (gK r14.2 x1 3).bind fun k22 =>
  (C156 xt ct O N x1 r19 r14.2).bind fun r25 =>
  bif mj_c1 .eq r25.1 then
    J152_41 xt ct O N r25.2
  else
  J152_42 xt ct O N 1 r25.2
theorem C152_ok {xt : mj_X} {ct : Nat → Value} {O : OR} {d N : Nat} (hct : ct 0 = .int 1) (hO : oOK xt ct d O) {x0 : Nat} {x1 : Nat} {x2 : Nat} {x3 : Int32} {H : mj_H} {q : (Int32) × mj_H} (e : C152 xt ct O N x0 x1 x2 x3 H = some q) : mj_Run kY xt ct (d + 5) 152 0 (lv_args 0 [.ref x0, .ref x1, .ref x2, .int x3]) [] H (.inl (vI q.1), q.2) := by
  unfold C152 at e
  exact (
  r_aloadn c152_0 rfl <|
  t_bd e fun r1 c2 e3 =>
  c_gA c152_1 c2 <|
  r_aloadn c152_4 rfl <|
  r_aloadn c152_5 rfl <|
  r_iloadn c152_6 rfl <|
  t_bd e3 fun r4 c5 e6 =>
  c_dsp (as := [.ref r1, .ref x1, .ref x2, .int x3]) (v := (vI r4.1)) (st2 := [.int r4.1]) c152_7 c152_7_t rfl ⟨Nat.le_of_ble_eq_true rfl, Nat.le_of_ble_eq_true rfl, Nat.le_of_ble_eq_true rfl⟩ rfl rfl (hO.2.2.2.2.2.2 _ _ _ _ _ _ c5) (Nat.lt_add_of_pos_right (by decide)) <|
  t_if e6 (fun b7 e8 =>
    r_ifT c152_10 b7 <|
    J152_41_ok hct hO  e8
  ) (fun b7 e8 =>
    r_ifF c152_10 b7 <|
    r_aloadn c152_13 rfl <|
    t_bd e8 fun r11 c12 e13 =>
    c_gA c152_14 c12 <|
    r_aloadn c152_17 rfl <|
    r_aloadn c152_18 rfl <|
    r_iloadn c152_19 rfl <|
    t_bd e13 fun r14 c15 e16 =>
    c_dsp (as := [.ref r11, .ref x1, .ref x2, .int x3]) (v := (vI r14.1)) (st2 := [.int r14.1]) c152_20 c152_20_t rfl ⟨Nat.le_of_ble_eq_true rfl, Nat.le_of_ble_eq_true rfl, Nat.le_of_ble_eq_true rfl⟩ rfl rfl (hO.2.2.2.2.2.2 _ _ _ _ _ _ c15) (Nat.lt_add_of_pos_right (by decide)) <|
    t_if e16 (fun b17 e18 =>
      r_ifT c152_23 b17 <|
      J152_41_ok hct hO  e18
    ) (fun b17 e18 =>
      r_ifF c152_23 b17 <|
      r_aloadn c152_26 rfl <|
      r_aloadn c152_27 rfl <|
      t_bd e18 fun r19 c20 e21 =>
      c_gI c152_28 c20 <|
      t_bd e21 fun k22 c23 e24 =>
      t_bd e24 fun r25 c26 e27 =>
      c_cal (st2 := [.int r25.1]) (s_cv (as := [.ref x1, .int r19]) (st' := []) c152_31 rfl (gK_ok c23) ⟨Nat.le_of_ble_eq_true rfl, Nat.le_of_ble_eq_true rfl, Nat.le_of_ble_eq_true rfl⟩ rfl rfl) (C156_ok hct hO c26) (Nat.add_lt_add_left (by decide) d) rfl <|
      t_if e27 (fun b28 e29 =>
        r_ifT c152_34 b28 <|
        J152_41_ok hct hO  e29
      ) (fun b28 e29 =>
        r_ifF c152_34 b28 <|
        r_iconst c152_37 <|
        r_goto c152_38 <|
        J152_42_ok hct hO  e29
      )
    )
  ))
def J153_31 (xt : mj_X) (ct : Nat → Value) (O : OR) (N : Nat) (s0 : Int32) (s1 : Nat) (H : mj_H) : Option ((Int32) × mj_H) :=
  (gK H s1 3).bind fun k21 =>
  (C150 xt ct O N s1 s0 1 H).bind fun r24 =>
  some (1, r24)
theorem J153_31_ok {xt : mj_X} {ct : Nat → Value} {O : OR} {d N : Nat} (hct : ct 0 = .int 1) (hO : oOK xt ct d O) {l : mj_L} {s0 : Int32} {s1 : Nat} {H : mj_H} {q : (Int32) × mj_H}  (e : J153_31 xt ct O N s0 s1 H = some q) : mj_Run kY xt ct (d + 2) 153 31 l [.int s0, .ref s1] H (.inl (vI q.1), q.2) := by
  unfold J153_31 at e
  exact (
  r_lconst c153_31 <|
  t_bd e fun k21 c22 e23 =>
  t_bd e23 fun r24 c25 e26 =>
  c_cal (st2 := []) (s_cv (as := [.ref s1, .int s0, .long 1]) (st' := []) c153_32 rfl (gK_ok c22) ⟨Nat.le_of_ble_eq_true rfl, Nat.le_of_ble_eq_true rfl, Nat.le_of_ble_eq_true rfl⟩ rfl rfl) (C150_ok hct hO c25) (Nat.add_lt_add_left (by decide) d) rfl <|
  r_iconst c153_35 <|
  (by cases e26; exact (r_iret c153_36 rfl)))
/-- DiceOdds$Plain.lay(LDiceOdds$Bench;LDiceOdds$States;I)Z -/
def C153 (xt : mj_X) (ct : Nat → Value) (O : OR) (N : Nat) (x0 : Nat) (x1 : Nat) (x2 : Nat) (x3 : Int32) (H : mj_H) : Option ((Int32) × mj_H) :=
  (gK H x1 3).bind fun k1 =>
  (C149 xt ct O N x1 H).bind fun r4 =>
  (gI r4 x0 7 0).bind fun r7 =>
  bif mj_c2 .ne r7 (-1000) then
    (gI r4 x0 7 0).bind fun r12 =>
    (gK r4 x2 2).bind fun k15 =>
    (C154 xt ct O N x2 x3 r12 r4).bind fun r18 =>
    J153_31 xt ct O N r18.1 x1 r18.2
  else
  (gI r4 x0 7 1).bind fun r27 =>
  J153_31 xt ct O N r27 x1 r4
theorem C153_ok {xt : mj_X} {ct : Nat → Value} {O : OR} {d N : Nat} (hct : ct 0 = .int 1) (hO : oOK xt ct d O) {x0 : Nat} {x1 : Nat} {x2 : Nat} {x3 : Int32} {H : mj_H} {q : (Int32) × mj_H} (e : C153 xt ct O N x0 x1 x2 x3 H = some q) : mj_Run kY xt ct (d + 2) 153 0 (lv_args 0 [.ref x0, .ref x1, .ref x2, .int x3]) [] H (.inl (vI q.1), q.2) := by
  unfold C153 at e
  exact (
  r_aloadn c153_0 rfl <|
  t_bd e fun k1 c2 e3 =>
  t_bd e3 fun r4 c5 e6 =>
  c_cal (st2 := []) (s_cv (as := [.ref x1]) (st' := []) c153_1 rfl (gK_ok c2) ⟨Nat.le_of_ble_eq_true rfl, Nat.le_of_ble_eq_true rfl, Nat.le_of_ble_eq_true rfl⟩ rfl rfl) (C149_ok hct hO c5) (Nat.add_lt_add_left (by decide) d) rfl <|
  r_aloadn c153_4 rfl <|
  r_aloadn c153_5 rfl <|
  t_bd e6 fun r7 c8 e9 =>
  c_gI c153_6 c8 <|
  r_sipush c153_9 <|
  t_if e9 (fun b10 e11 =>
    r_icmpT c153_12 b10 <|
    r_aloadn c153_22 rfl <|
    r_iloadn c153_23 rfl <|
    r_aloadn c153_24 rfl <|
    t_bd e11 fun r12 c13 e14 =>
    c_gI c153_25 c13 <|
    t_bd e14 fun k15 c16 e17 =>
    t_bd e17 fun r18 c19 e20 =>
    c_cal (st2 := [.int r18.1, .ref x1]) (s_cv (as := [.ref x2, .int x3, .int r12]) (st' := [.ref x1]) c153_28 rfl (gK_ok c16) ⟨Nat.le_of_ble_eq_true rfl, Nat.le_of_ble_eq_true rfl, Nat.le_of_ble_eq_true rfl⟩ rfl rfl) (C154_ok hct hO c19) (Nat.add_lt_add_left (by decide) d) rfl <|
    J153_31_ok hct hO  e20
  ) (fun b10 e11 =>
    r_icmpF c153_12 b10 <|
    r_aloadn c153_15 rfl <|
    t_bd e11 fun r27 c28 e29 =>
    c_gI c153_16 c28 <|
    r_goto c153_19 <|
    J153_31_ok hct hO  e29
  ))
def LG155_7 (xt : mj_X) (ct : Nat → Value) (d : Nat) (q : (Int32) × mj_H) (x0 : Nat) (x1 : Nat) (x4 : Int32) (H : mj_H) : Prop := ∀ l, mj_ld l 0 = some (.ref x0) → mj_ld l 1 = some (.ref x1) → mj_ld l 4 = some (.int x4) → mj_Run kY xt ct (d + 2) 155 7 l [] H (.inl (vI q.1), q.2)
def GG155_7 (xt : mj_X) (ct : Nat → Value) (d : Nat) (q : (Int32) × mj_H) (o : (Nat × Nat × Int32 × mj_H) ⊕ ((Int32) × mj_H)) : Prop := match o with
  | .inl (x0, x1, x4, H) => LG155_7 xt ct d q x0 x1 x4 H
  | .inr r => r = q
def B155_7 (xt : mj_X) (ct : Nat → Value) (O : OR) (N : Nat) (s : Nat × Nat × Int32 × mj_H) : Option ((Nat × Nat × Int32 × mj_H) ⊕ ((Int32) × mj_H)) :=
  (gA s.2.2.2 s.1 9 0).bind fun r7 =>
  (aN xt s.2.2.2 r7).bind fun r10 =>
  bif mj_c2 .ge s.2.2.1 r10 then
    some (.inr (1, s.2.2.2))
  else
  (gA s.2.2.2 s.1 9 0).bind fun r15 =>
  (aI xt s.2.2.2 r15 s.2.2.1).bind fun r18 =>
  (gK s.2.2.2 s.2.1 3).bind fun k21 =>
  (C150 xt ct O N s.2.1 r18 1 s.2.2.2).bind fun r24 =>
  some (.inl (s.1, s.2.1, (s.2.2.1 + 1), r24))
def L155_7 (xt : mj_X) (ct : Nat → Value) (O : OR) (N : Nat) (s : Nat × Nat × Int32 × mj_H) : Option ((Int32) × mj_H) := t_lp (B155_7 xt ct O N) N s
theorem B155_7_ok {xt : mj_X} {ct : Nat → Value} {O : OR} {d N : Nat} (hct : ct 0 = .int 1) (hO : oOK xt ct d O) {s : Nat × Nat × Int32 × mj_H} {o : (Nat × Nat × Int32 × mj_H) ⊕ ((Int32) × mj_H)} {q : (Int32) × mj_H} (e : B155_7 xt ct O N s = some o) (g : GG155_7 xt ct d q o) : LG155_7 xt ct d q s.1 s.2.1 s.2.2.1 s.2.2.2 := by
  unfold B155_7 at e
  exact (fun l f0 f1 f4 =>
  r_iload c155_7 f4 <|
  r_aloadn c155_9 f0 <|
  t_bd e fun r7 c8 e9 =>
  c_gA c155_10 c8 <|
  t_bd e9 fun r10 c11 e12 =>
  c_len c155_13 c11 <|
  t_if e12 (fun b13 e14 =>
    r_icmpT c155_14 b13 <|
    r_iconst c155_35 <|
    t_rg e14 g (fun (z : (1, s.2.2.2) = q) => (by cases z; exact (r_iret c155_36 rfl)))
  ) (fun b13 e14 =>
    r_icmpF c155_14 b13 <|
    r_aloadn c155_17 f1 <|
    r_aloadn c155_18 f0 <|
    t_bd e14 fun r15 c16 e17 =>
    c_gA c155_19 c16 <|
    r_iload c155_22 f4 <|
    t_bd e17 fun r18 c19 e20 =>
    c_aI c155_24 c19 <|
    r_lconst c155_25 <|
    t_bd e20 fun k21 c22 e23 =>
    t_bd e23 fun r24 c25 e26 =>
    c_cal (st2 := []) (s_cv (as := [.ref s.2.1, .int r18, .long 1]) (st' := []) c155_26 rfl (gK_ok c22) ⟨Nat.le_of_ble_eq_true rfl, Nat.le_of_ble_eq_true rfl, Nat.le_of_ble_eq_true rfl⟩ rfl rfl) (C150_ok hct hO c25) (Nat.add_lt_add_left (by decide) d) rfl <|
    r_iinc c155_29 f4 <|
    r_goto c155_32 <|
    t_rg e26 g (fun (z : LG155_7 xt ct d q s.1 s.2.1 (s.2.2.1 + 1) r24) => z _ (ld1_ne f0 (by decide) (Or.inl (by decide))) (ld1_ne f1 (by decide) (Or.inl (by decide))) ld1_eq)
  ))
theorem L155_7_ok {xt : mj_X} {ct : Nat → Value} {O : OR} {d N : Nat} (hct : ct 0 = .int 1) (hO : oOK xt ct d O) {x0 : Nat} {x1 : Nat} {x4 : Int32} {H : mj_H} {q : (Int32) × mj_H} (e : L155_7 xt ct O N (x0, x1, x4, H) = some q) : LG155_7 xt ct d q x0 x1 x4 H :=
  t_lp_ok (G := fun s => LG155_7 xt ct d q s.1 s.2.1 s.2.2.1 s.2.2.2) (fun s s' e g => B155_7_ok hct hO e (by obtain ⟨_, _, _, _⟩ := s'; exact g)) (fun s e => B155_7_ok hct hO e rfl) N (x0, x1, x4, H) e
/-- DiceOdds$Row.lay(LDiceOdds$Bench;LDiceOdds$States;I)Z -/
def C155 (xt : mj_X) (ct : Nat → Value) (O : OR) (N : Nat) (x0 : Nat) (x1 : Nat) (x2 : Nat) (x3 : Int32) (H : mj_H) : Option ((Int32) × mj_H) :=
  (gK H x1 3).bind fun k1 =>
  (C149 xt ct O N x1 H).bind fun r4 =>
  L155_7 xt ct O N (x0, x1, 0, r4)
theorem C155_ok {xt : mj_X} {ct : Nat → Value} {O : OR} {d N : Nat} (hct : ct 0 = .int 1) (hO : oOK xt ct d O) {x0 : Nat} {x1 : Nat} {x2 : Nat} {x3 : Int32} {H : mj_H} {q : (Int32) × mj_H} (e : C155 xt ct O N x0 x1 x2 x3 H = some q) : mj_Run kY xt ct (d + 2) 155 0 (lv_args 0 [.ref x0, .ref x1, .ref x2, .int x3]) [] H (.inl (vI q.1), q.2) := by
  unfold C155 at e
  exact (
  r_aloadn c155_0 rfl <|
  t_bd e fun k1 c2 e3 =>
  t_bd e3 fun r4 c5 e6 =>
  c_cal (st2 := []) (s_cv (as := [.ref x1]) (st' := []) c155_1 rfl (gK_ok c2) ⟨Nat.le_of_ble_eq_true rfl, Nat.le_of_ble_eq_true rfl, Nat.le_of_ble_eq_true rfl⟩ rfl rfl) (C149_ok hct hO c5) (Nat.add_lt_add_left (by decide) d) rfl <|
  r_iconst c155_4 <|
  r_istore c155_5 <|
  L155_7_ok hct hO e6 _ (ld1_ne rfl (by decide) (Or.inl (by decide))) (ld1_ne rfl (by decide) (Or.inl (by decide))) ld1_eq)
