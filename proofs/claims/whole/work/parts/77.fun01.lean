/-- DiceOdds$States.clear()V -/
def C136 (xt : mj_X) (ct : Nat → Value) (O : OR) (N : Nat) (x0 : Nat) (H : mj_H) : Option (mj_H) :=
  (uF H x0 2 2 (.int 0)).bind fun H1 =>
  some H1
theorem C136_ok {xt : mj_X} {ct : Nat → Value} {O : OR} {d N : Nat} (hct : ct 0 = .int 1) (hO : oOK xt ct d O) {x0 : Nat} {H : mj_H} {q : mj_H} (e : C136 xt ct O N x0 H = some q) : mj_Run kY xt ct (d + 1) 136 0 (lv_args 0 [.ref x0]) [] H (.inl none, q) := by
  unfold C136 at e
  exact (
  r_aloadn c136_0 rfl <|
  r_iconst c136_1 <|
  t_bd e fun H1 c2 e3 =>
  c_uF c136_2 ⟨rfl, rfl⟩ c2 <|
  (by cases e3; exact (r_ret c136_5)))
def LG137_2 (xt : mj_X) (ct : Nat → Value) (d : Nat) (q : mj_H) (x0 : Nat) (x1 : Int32) (H : mj_H) : Prop := ∀ l, mj_ld l 0 = some (.ref x0) → mj_ld l 1 = some (.int x1) → mj_Run kY xt ct (d + 1) 137 2 l [] H (.inl none, q)
def GG137_2 (xt : mj_X) (ct : Nat → Value) (d : Nat) (q : mj_H) (o : (Nat × Int32 × mj_H) ⊕ (mj_H)) : Prop := match o with
  | .inl (x0, x1, H) => LG137_2 xt ct d q x0 x1 H
  | .inr r => r = q
def B137_2 (xt : mj_X) (ct : Nat → Value) (O : OR) (N : Nat) (s : Nat × Int32 × mj_H) : Option ((Nat × Int32 × mj_H) ⊕ (mj_H)) :=
  bif mj_c2 .ge s.2.1 6 then
    (gA s.2.2 s.1 2 1).bind fun r3 =>
    (sL s.2.2 r3 0 1).bind fun H6 =>
    (uF H6 s.1 2 2 (.int 1)).bind fun H9 =>
    some (.inr H9)
  else
  (gA s.2.2 s.1 2 0).bind fun r12 =>
  (sN .int s.2.2 r12 s.2.1 0).bind fun H15 =>
  some (.inl (s.1, (s.2.1 + 1), H15))
def L137_2 (xt : mj_X) (ct : Nat → Value) (O : OR) (N : Nat) (s : Nat × Int32 × mj_H) : Option (mj_H) := t_lp (B137_2 xt ct O N) N s
theorem B137_2_ok {xt : mj_X} {ct : Nat → Value} {O : OR} {d N : Nat} (hct : ct 0 = .int 1) (hO : oOK xt ct d O) {s : Nat × Int32 × mj_H} {o : (Nat × Int32 × mj_H) ⊕ (mj_H)} {q : mj_H} (e : B137_2 xt ct O N s = some o) (g : GG137_2 xt ct d q o) : LG137_2 xt ct d q s.1 s.2.1 s.2.2 := by
  unfold B137_2 at e
  exact (fun l f0 f1 =>
  r_iloadn c137_2 f1 <|
  r_bipush c137_3 <|
  t_if e (fun b1 e2 =>
    r_icmpT c137_5 b1 <|
    r_aloadn c137_21 f0 <|
    t_bd e2 fun r3 c4 e5 =>
    c_gA c137_22 c4 <|
    r_iconst c137_25 <|
    r_lconst c137_26 <|
    t_bd e5 fun H6 c7 e8 =>
    c_sL c137_27 c7 <|
    r_aloadn c137_28 f0 <|
    r_iconst c137_29 <|
    t_bd e8 fun H9 c10 e11 =>
    c_uF c137_30 ⟨rfl, rfl⟩ c10 <|
    t_rg e11 g (fun (z : H9 = q) => (by cases z; exact (r_ret c137_33)))
  ) (fun b1 e2 =>
    r_icmpF c137_5 b1 <|
    r_aloadn c137_8 f0 <|
    t_bd e2 fun r12 c13 e14 =>
    c_gA c137_9 c13 <|
    r_iloadn c137_12 f1 <|
    r_iconst c137_13 <|
    t_bd e14 fun H15 c16 e17 =>
    c_sI c137_14 c16 <|
    r_iinc c137_15 f1 <|
    r_goto c137_18 <|
    t_rg e17 g (fun (z : LG137_2 xt ct d q s.1 (s.2.1 + 1) H15) => z _ (ld1_ne f0 (by decide) (Or.inr rfl)) ld1_eq)
  ))
theorem L137_2_ok {xt : mj_X} {ct : Nat → Value} {O : OR} {d N : Nat} (hct : ct 0 = .int 1) (hO : oOK xt ct d O) {x0 : Nat} {x1 : Int32} {H : mj_H} {q : mj_H} (e : L137_2 xt ct O N (x0, x1, H) = some q) : LG137_2 xt ct d q x0 x1 H :=
  t_lp_ok (G := fun s => LG137_2 xt ct d q s.1 s.2.1 s.2.2) (fun s s' e g => B137_2_ok hct hO e (by obtain ⟨_, _, _⟩ := s'; exact g)) (fun s e => B137_2_ok hct hO e rfl) N (x0, x1, H) e
/-- DiceOdds$States.addZeros()V -/
def C137 (xt : mj_X) (ct : Nat → Value) (O : OR) (N : Nat) (x0 : Nat) (H : mj_H) : Option (mj_H) :=
  L137_2 xt ct O N (x0, 0, H)
theorem C137_ok {xt : mj_X} {ct : Nat → Value} {O : OR} {d N : Nat} (hct : ct 0 = .int 1) (hO : oOK xt ct d O) {x0 : Nat} {H : mj_H} {q : mj_H} (e : C137 xt ct O N x0 H = some q) : mj_Run kY xt ct (d + 1) 137 0 (lv_args 0 [.ref x0]) [] H (.inl none, q) := by
  unfold C137 at e
  exact (
  r_iconst c137_0 <|
  r_istoren c137_1 <|
  L137_2_ok hct hO e _ (ld1_ne rfl (by decide) (Or.inr rfl)) ld1_eq)
/-- DiceOdds$Bench.begin()LDiceOdds$States; -/
def C135 (xt : mj_X) (ct : Nat → Value) (O : OR) (N : Nat) (x0 : Nat) (H : mj_H) : Option ((Nat) × mj_H) :=
  (gA H x0 3 8).bind fun r1 =>
  (gK H r1 2).bind fun k4 =>
  (C136 xt ct O N r1 H).bind fun r7 =>
  (gA r7 x0 3 8).bind fun r10 =>
  (gK r7 r10 2).bind fun k13 =>
  (C137 xt ct O N r10 r7).bind fun r16 =>
  (gA r16 x0 3 8).bind fun r19 =>
  (gI r16 r19 2 2).bind fun r22 =>
  (uF r16 x0 3 12 (.int r22)).bind fun H25 =>
  (gA H25 x0 3 8).bind fun r28 =>
  some (r28, H25)
theorem C135_ok {xt : mj_X} {ct : Nat → Value} {O : OR} {d N : Nat} (hct : ct 0 = .int 1) (hO : oOK xt ct d O) {x0 : Nat} {H : mj_H} {q : (Nat) × mj_H} (e : C135 xt ct O N x0 H = some q) : mj_Run kY xt ct (d + 2) 135 0 (lv_args 0 [.ref x0]) [] H (.inl (vA q.1), q.2) := by
  unfold C135 at e
  exact (
  r_aloadn c135_0 rfl <|
  t_bd e fun r1 c2 e3 =>
  c_gA c135_1 c2 <|
  t_bd e3 fun k4 c5 e6 =>
  t_bd e6 fun r7 c8 e9 =>
  c_cal (st2 := []) (s_cv (as := [.ref r1]) (st' := []) c135_4 rfl (gK_ok c5) ⟨Nat.le_of_ble_eq_true rfl, Nat.le_of_ble_eq_true rfl, Nat.le_of_ble_eq_true rfl⟩ rfl rfl) (C136_ok hct hO c8) (Nat.add_lt_add_left (by decide) d) rfl <|
  r_aloadn c135_7 rfl <|
  t_bd e9 fun r10 c11 e12 =>
  c_gA c135_8 c11 <|
  t_bd e12 fun k13 c14 e15 =>
  t_bd e15 fun r16 c17 e18 =>
  c_cal (st2 := []) (s_cv (as := [.ref r10]) (st' := []) c135_11 rfl (gK_ok c14) ⟨Nat.le_of_ble_eq_true rfl, Nat.le_of_ble_eq_true rfl, Nat.le_of_ble_eq_true rfl⟩ rfl rfl) (C137_ok hct hO c17) (Nat.add_lt_add_left (by decide) d) rfl <|
  r_aloadn c135_14 rfl <|
  r_aloadn c135_15 rfl <|
  t_bd e18 fun r19 c20 e21 =>
  c_gA c135_16 c20 <|
  t_bd e21 fun r22 c23 e24 =>
  c_gI c135_19 c23 <|
  t_bd e24 fun H25 c26 e27 =>
  c_uF c135_22 ⟨rfl, rfl⟩ c26 <|
  r_aloadn c135_25 rfl <|
  t_bd e27 fun r28 c29 e30 =>
  c_gA c135_26 c29 <|
  (by cases e30; exact (r_aret c135_29)))
/-- DiceOdds$States.valueOf(II)I -/
def C154 (xt : mj_X) (ct : Nat → Value) (O : OR) (N : Nat) (x0 : Nat) (x1 : Int32) (x2 : Int32) (H : mj_H) : Option ((Int32) × mj_H) :=
  (gA H x0 2 0).bind fun r1 =>
  (aI xt H r1 ((x1 * 6) + x2)).bind fun r4 =>
  some (r4, H)
theorem C154_ok {xt : mj_X} {ct : Nat → Value} {O : OR} {d N : Nat} (hct : ct 0 = .int 1) (hO : oOK xt ct d O) {x0 : Nat} {x1 : Int32} {x2 : Int32} {H : mj_H} {q : (Int32) × mj_H} (e : C154 xt ct O N x0 x1 x2 H = some q) : mj_Run kY xt ct (d + 1) 154 0 (lv_args 0 [.ref x0, .int x1, .int x2]) [] H (.inl (vI q.1), q.2) := by
  unfold C154 at e
  exact (
  r_aloadn c154_0 rfl <|
  t_bd e fun r1 c2 e3 =>
  c_gA c154_1 c2 <|
  r_iloadn c154_4 rfl <|
  r_bipush c154_5 <|
  r_imul c154_7 rfl <|
  r_iloadn c154_8 rfl <|
  r_iadd c154_9 rfl <|
  t_bd e3 fun r4 c5 e6 =>
  c_aI c154_10 c5 <|
  (by cases e6; exact (r_iret c154_11 rfl)))
def LG175_6 (xt : mj_X) (ct : Nat → Value) (d : Nat) (q : mj_H) (x0 : Nat) (x1 : Int32) (x2 : Int64) (x4 : Int32) (H : mj_H) : Prop := ∀ l, mj_ld l 0 = some (.ref x0) → mj_ld l 1 = some (.int x1) → mj_ld l 2 = some (.long x2) → mj_ld l 4 = some (.int x4) → mj_Run kY xt ct (d + 1) 175 6 l [] H (.inl none, q)
def GG175_6 (xt : mj_X) (ct : Nat → Value) (d : Nat) (q : mj_H) (o : (Nat × Int32 × Int64 × Int32 × mj_H) ⊕ (mj_H)) : Prop := match o with
  | .inl (x0, x1, x2, x4, H) => LG175_6 xt ct d q x0 x1 x2 x4 H
  | .inr r => r = q
def J175_147 (xt : mj_X) (ct : Nat → Value) (O : OR) (N : Nat)  (H : mj_H) : Option (mj_H) :=
  some H
theorem J175_147_ok {xt : mj_X} {ct : Nat → Value} {O : OR} {d N : Nat} (hct : ct 0 = .int 1) (hO : oOK xt ct d O) {l : mj_L}  {H : mj_H} {q : mj_H}  (e : J175_147 xt ct O N  H = some q) : mj_Run kY xt ct (d + 1) 175 147 l [] H (.inl none, q) := by
  unfold J175_147 at e
  exact (
  (by cases e; exact (r_ret c175_147)))
def J175_64 (xt : mj_X) (ct : Nat → Value) (O : OR) (N : Nat) (x0 : Nat) (x1 : Int32) (x2 : Int64) (x4 : Int32) (H : mj_H) : Option (mj_H) :=
  (gI H x0 4 4).bind fun r11 =>
  bif mj_c2 .ge r11 64 then
    J175_147 xt ct O N H
  else
  (gA H x0 4 0).bind fun r16 =>
  (gA H x0 4 0).bind fun r19 =>
  (gI H x0 4 4).bind fun r22 =>
  (cY H r16 x4 r19 (x4 + 1) (r22 - x4)).bind fun H25 =>
  (gA H25 x0 4 1).bind fun r28 =>
  (gA H25 x0 4 1).bind fun r31 =>
  (gI H25 x0 4 4).bind fun r34 =>
  (cY H25 r28 x4 r31 (x4 + 1) (r34 - x4)).bind fun H37 =>
  (gA H37 x0 4 0).bind fun r40 =>
  (sN .int H37 r40 x4 x1).bind fun H43 =>
  (gA H43 x0 4 1).bind fun r46 =>
  (sL H43 r46 x4 x2).bind fun H49 =>
  (gI H49 x0 4 4).bind fun r52 =>
  (uF H49 x0 4 4 (.int (r52 + 1))).bind fun H55 =>
  J175_147 xt ct O N H55
theorem J175_64_ok {xt : mj_X} {ct : Nat → Value} {O : OR} {d N : Nat} (hct : ct 0 = .int 1) (hO : oOK xt ct d O) {l : mj_L} {x0 : Nat} {x1 : Int32} {x2 : Int64} {x4 : Int32} {H : mj_H} {q : mj_H} (f0 : mj_ld l 0 = some (.ref x0)) (f1 : mj_ld l 1 = some (.int x1)) (f2 : mj_ld l 2 = some (.long x2)) (f4 : mj_ld l 4 = some (.int x4)) (e : J175_64 xt ct O N x0 x1 x2 x4 H = some q) : mj_Run kY xt ct (d + 1) 175 64 l [] H (.inl none, q) := by
  unfold J175_64 at e
  exact (
  r_aloadn c175_64 f0 <|
  t_bd e fun r11 c12 e13 =>
  c_gI c175_65 c12 <|
  r_bipush c175_68 <|
  t_if e13 (fun b14 e15 =>
    r_icmpT c175_70 b14 <|
    J175_147_ok hct hO  e15
  ) (fun b14 e15 =>
    r_icmpF c175_70 b14 <|
    r_aloadn c175_73 f0 <|
    t_bd e15 fun r16 c17 e18 =>
    c_gA c175_74 c17 <|
    r_iload c175_77 f4 <|
    r_aloadn c175_79 f0 <|
    t_bd e18 fun r19 c20 e21 =>
    c_gA c175_80 c20 <|
    r_iload c175_83 f4 <|
    r_iconst c175_85 <|
    r_iadd c175_86 rfl <|
    r_aloadn c175_87 f0 <|
    t_bd e21 fun r22 c23 e24 =>
    c_gI c175_88 c23 <|
    r_iload c175_91 f4 <|
    r_isub c175_93 rfl <|
    t_bd e24 fun H25 c26 e27 =>
    c_cpy c175_94 (Nat.le_of_ble_eq_true rfl) c26 <|
    r_aloadn c175_97 f0 <|
    t_bd e27 fun r28 c29 e30 =>
    c_gA c175_98 c29 <|
    r_iload c175_101 f4 <|
    r_aloadn c175_103 f0 <|
    t_bd e30 fun r31 c32 e33 =>
    c_gA c175_104 c32 <|
    r_iload c175_107 f4 <|
    r_iconst c175_109 <|
    r_iadd c175_110 rfl <|
    r_aloadn c175_111 f0 <|
    t_bd e33 fun r34 c35 e36 =>
    c_gI c175_112 c35 <|
    r_iload c175_115 f4 <|
    r_isub c175_117 rfl <|
    t_bd e36 fun H37 c38 e39 =>
    c_cpy c175_118 (Nat.le_of_ble_eq_true rfl) c38 <|
    r_aloadn c175_121 f0 <|
    t_bd e39 fun r40 c41 e42 =>
    c_gA c175_122 c41 <|
    r_iload c175_125 f4 <|
    r_iloadn c175_127 f1 <|
    t_bd e42 fun H43 c44 e45 =>
    c_sI c175_128 c44 <|
    r_aloadn c175_129 f0 <|
    t_bd e45 fun r46 c47 e48 =>
    c_gA c175_130 c47 <|
    r_iload c175_133 f4 <|
    r_lloadn c175_135 f2 <|
    t_bd e48 fun H49 c50 e51 =>
    c_sL c175_136 c50 <|
    r_aloadn c175_137 f0 <|
    r_dup c175_138 rfl <|
    t_bd e51 fun r52 c53 e54 =>
    c_gI c175_139 c53 <|
    r_iconst c175_142 <|
    r_iadd c175_143 rfl <|
    t_bd e54 fun H55 c56 e57 =>
    c_uF c175_144 ⟨rfl, rfl⟩ c56 <|
    J175_147_ok hct hO  e57
  ))
def J175_30 (xt : mj_X) (ct : Nat → Value) (O : OR) (N : Nat) (x0 : Nat) (x1 : Int32) (x2 : Int64) (x4 : Int32) (H : mj_H) : Option (mj_H) :=
  (gI H x0 4 4).bind fun r6 =>
  bif mj_c2 .ge x4 r6 then
    J175_64 xt ct O N x0 x1 x2 x4 H
  else
  (gA H x0 4 0).bind fun r58 =>
  (aI xt H r58 x4).bind fun r61 =>
  bif mj_c2 .ne r61 x1 then
    J175_64 xt ct O N x0 x1 x2 x4 H
  else
  (gA H x0 4 1).bind fun r66 =>
  (aL xt H r66 x4).bind fun r69 =>
  (sL H r66 x4 (r69 + x2)).bind fun H72 =>
  J175_147 xt ct O N H72
theorem J175_30_ok {xt : mj_X} {ct : Nat → Value} {O : OR} {d N : Nat} (hct : ct 0 = .int 1) (hO : oOK xt ct d O) {l : mj_L} {x0 : Nat} {x1 : Int32} {x2 : Int64} {x4 : Int32} {H : mj_H} {q : mj_H} (f0 : mj_ld l 0 = some (.ref x0)) (f1 : mj_ld l 1 = some (.int x1)) (f2 : mj_ld l 2 = some (.long x2)) (f4 : mj_ld l 4 = some (.int x4)) (e : J175_30 xt ct O N x0 x1 x2 x4 H = some q) : mj_Run kY xt ct (d + 1) 175 30 l [] H (.inl none, q) := by
  unfold J175_30 at e
  exact (
  r_iload c175_30 f4 <|
  r_aloadn c175_32 f0 <|
  t_bd e fun r6 c7 e8 =>
  c_gI c175_33 c7 <|
  t_if e8 (fun b9 e10 =>
    r_icmpT c175_36 b9 <|
    J175_64_ok hct hO f0 f1 f2 f4 e10
  ) (fun b9 e10 =>
    r_icmpF c175_36 b9 <|
    r_aloadn c175_39 f0 <|
    t_bd e10 fun r58 c59 e60 =>
    c_gA c175_40 c59 <|
    r_iload c175_43 f4 <|
    t_bd e60 fun r61 c62 e63 =>
    c_aI c175_45 c62 <|
    r_iloadn c175_46 f1 <|
    t_if e63 (fun b64 e65 =>
      r_icmpT c175_47 b64 <|
      J175_64_ok hct hO f0 f1 f2 f4 e65
    ) (fun b64 e65 =>
      r_icmpF c175_47 b64 <|
      r_aloadn c175_50 f0 <|
      t_bd e65 fun r66 c67 e68 =>
      c_gA c175_51 c67 <|
      r_iload c175_54 f4 <|
      r_dup2ia c175_56 <|
      t_bd e68 fun r69 c70 e71 =>
      c_aL c175_57 c70 <|
      r_lloadn c175_58 f2 <|
      r_ladd c175_59 rfl <|
      t_bd e71 fun H72 c73 e74 =>
      c_sL c175_60 c73 <|
      r_goto c175_61 <|
      J175_147_ok hct hO  e74
    )
  ))
def B175_6 (xt : mj_X) (ct : Nat → Value) (O : OR) (N : Nat) (s : Nat × Int32 × Int64 × Int32 × mj_H) : Option ((Nat × Int32 × Int64 × Int32 × mj_H) ⊕ (mj_H)) :=
  bif mj_c1 .le s.2.2.2.1 then
    (J175_30 xt ct O N s.1 s.2.1 s.2.2.1 s.2.2.2.1 s.2.2.2.2).map Sum.inr
  else
  (gA s.2.2.2.2 s.1 4 0).bind fun r79 =>
  (aI xt s.2.2.2.2 r79 (s.2.2.2.1 - 1)).bind fun r82 =>
  bif mj_c2 .lt r82 s.2.1 then
    (J175_30 xt ct O N s.1 s.2.1 s.2.2.1 s.2.2.2.1 s.2.2.2.2).map Sum.inr
  else
  some (.inl (s.1, s.2.1, s.2.2.1, (s.2.2.2.1 + (-1)), s.2.2.2.2))
def L175_6 (xt : mj_X) (ct : Nat → Value) (O : OR) (N : Nat) (s : Nat × Int32 × Int64 × Int32 × mj_H) : Option (mj_H) := t_lp (B175_6 xt ct O N) N s
theorem B175_6_ok {xt : mj_X} {ct : Nat → Value} {O : OR} {d N : Nat} (hct : ct 0 = .int 1) (hO : oOK xt ct d O) {s : Nat × Int32 × Int64 × Int32 × mj_H} {o : (Nat × Int32 × Int64 × Int32 × mj_H) ⊕ (mj_H)} {q : mj_H} (e : B175_6 xt ct O N s = some o) (g : GG175_6 xt ct d q o) : LG175_6 xt ct d q s.1 s.2.1 s.2.2.1 s.2.2.2.1 s.2.2.2.2 := by
  unfold B175_6 at e
  exact (fun l f0 f1 f2 f4 =>
  r_iload c175_6 f4 <|
  t_if e (fun b4 e5 =>
    r_ifT c175_8 b4 <|
    t_up e5 fun o75 e76 u77 =>
    (fun (g78 : o75 = q) =>
    by subst g78; exact (J175_30_ok hct hO f0 f1 f2 f4 e76)
    ) (by have := g; rw [u77] at this; exact this)
  ) (fun b4 e5 =>
    r_ifF c175_8 b4 <|
    r_aloadn c175_11 f0 <|
    t_bd e5 fun r79 c80 e81 =>
    c_gA c175_12 c80 <|
    r_iload c175_15 f4 <|
    r_iconst c175_17 <|
    r_isub c175_18 rfl <|
    t_bd e81 fun r82 c83 e84 =>
    c_aI c175_19 c83 <|
    r_iloadn c175_20 f1 <|
    t_if e84 (fun b85 e86 =>
      r_icmpT c175_21 b85 <|
      t_up e86 fun o87 e88 u89 =>
      (fun (g90 : o87 = q) =>
      by subst g90; exact (J175_30_ok hct hO f0 f1 f2 f4 e88)
      ) (by have := g; rw [u89] at this; exact this)
    ) (fun b85 e86 =>
      r_icmpF c175_21 b85 <|
      r_iinc c175_24 f4 <|
      r_goto c175_27 <|
      t_rg e86 g (fun (z : LG175_6 xt ct d q s.1 s.2.1 s.2.2.1 (s.2.2.2.1 + (-1)) s.2.2.2.2) => z _ (ld1_ne f0 (by decide) (Or.inl (by decide))) (ld1_ne f1 (by decide) (Or.inl (by decide))) (ld1_ne f2 (by decide) (Or.inl (by decide))) ld1_eq)
    )
  ))
theorem L175_6_ok {xt : mj_X} {ct : Nat → Value} {O : OR} {d N : Nat} (hct : ct 0 = .int 1) (hO : oOK xt ct d O) {x0 : Nat} {x1 : Int32} {x2 : Int64} {x4 : Int32} {H : mj_H} {q : mj_H} (e : L175_6 xt ct O N (x0, x1, x2, x4, H) = some q) : LG175_6 xt ct d q x0 x1 x2 x4 H :=
  t_lp_ok (G := fun s => LG175_6 xt ct d q s.1 s.2.1 s.2.2.1 s.2.2.2.1 s.2.2.2.2) (fun s s' e g => B175_6_ok hct hO e (by obtain ⟨_, _, _, _, _⟩ := s'; exact g)) (fun s e => B175_6_ok hct hO e rfl) N (x0, x1, x2, x4, H) e
/-- DiceOdds$Slot.addWays(IJ)V -/
def C175 (xt : mj_X) (ct : Nat → Value) (O : OR) (N : Nat) (x0 : Nat) (x1 : Int32) (x2 : Int64) (H : mj_H) : Option (mj_H) :=
  (gI H x0 4 4).bind fun r1 =>
  L175_6 xt ct O N (x0, x1, x2, r1, H)
theorem C175_ok {xt : mj_X} {ct : Nat → Value} {O : OR} {d N : Nat} (hct : ct 0 = .int 1) (hO : oOK xt ct d O) {x0 : Nat} {x1 : Int32} {x2 : Int64} {H : mj_H} {q : mj_H} (e : C175 xt ct O N x0 x1 x2 H = some q) : mj_Run kY xt ct (d + 1) 175 0 (lv_args 0 [.ref x0, .int x1, .long x2]) [] H (.inl none, q) := by
  unfold C175 at e
  exact (
  r_aloadn c175_0 rfl <|
  t_bd e fun r1 c2 e3 =>
  c_gI c175_1 c2 <|
  r_istore c175_4 <|
  L175_6_ok hct hO e3 _ (ld1_ne rfl (by decide) (Or.inl (by decide))) (ld1_ne rfl (by decide) (Or.inl (by decide))) (ld1_ne rfl (by decide) (Or.inl (by decide))) ld1_eq)
def LG114_9 (xt : mj_X) (ct : Nat → Value) (d : Nat) (q : (Int64) × mj_H) (x4 : Int64) (x6 : Int64) (x8 : Int32) (H : mj_H) : Prop := ∀ l, mj_ld l 4 = some (.long x4) → mj_ld l 6 = some (.long x6) → mj_ld l 8 = some (.int x8) → mj_Run kY xt ct (d + 1) 114 9 l [] H (.inl (vL q.1), q.2)
def GG114_9 (xt : mj_X) (ct : Nat → Value) (d : Nat) (q : (Int64) × mj_H) (o : (Int64 × Int64 × Int32 × mj_H) ⊕ ((Int64) × mj_H)) : Prop := match o with
  | .inl (x4, x6, x8, H) => LG114_9 xt ct d q x4 x6 x8 H
  | .inr r => r = q
def J114_45 (xt : mj_X) (ct : Nat → Value) (O : OR) (N : Nat) (x4 : Int64) (H : mj_H) : Option ((Int64) × mj_H) :=
  some (x4, H)
theorem J114_45_ok {xt : mj_X} {ct : Nat → Value} {O : OR} {d N : Nat} (hct : ct 0 = .int 1) (hO : oOK xt ct d O) {l : mj_L} {x4 : Int64} {H : mj_H} {q : (Int64) × mj_H} (f4 : mj_ld l 4 = some (.long x4)) (e : J114_45 xt ct O N x4 H = some q) : mj_Run kY xt ct (d + 1) 114 45 l [] H (.inl (vL q.1), q.2) := by
  unfold J114_45 at e
  exact (
  r_lload c114_45 f4 <|
  (by cases e; exact (r_lret c114_47)))
def B114_9 (xt : mj_X) (ct : Nat → Value) (O : OR) (N : Nat) (s : Int64 × Int64 × Int32 × mj_H) : Option ((Int64 × Int64 × Int32 × mj_H) ⊕ ((Int64) × mj_H)) :=
  bif mj_c2 .ge s.2.2.1 128 then
    (J114_45 xt ct O N s.1 s.2.2.2).map Sum.inr
  else
  bif mj_c1 .eq (lg_cmp s.2.1 0) then
    (J114_45 xt ct O N s.1 s.2.2.2).map Sum.inr
  else
  if s.2.1 ≠ 0 then
  some (.inl (s.2.1, (s.1 - s.1 / s.2.1 * s.2.1), (s.2.2.1 + 1), s.2.2.2))
  else none
def L114_9 (xt : mj_X) (ct : Nat → Value) (O : OR) (N : Nat) (s : Int64 × Int64 × Int32 × mj_H) : Option ((Int64) × mj_H) := t_lp (B114_9 xt ct O N) N s
theorem B114_9_ok {xt : mj_X} {ct : Nat → Value} {O : OR} {d N : Nat} (hct : ct 0 = .int 1) (hO : oOK xt ct d O) {s : Int64 × Int64 × Int32 × mj_H} {o : (Int64 × Int64 × Int32 × mj_H) ⊕ ((Int64) × mj_H)} {q : (Int64) × mj_H} (e : B114_9 xt ct O N s = some o) (g : GG114_9 xt ct d q o) : LG114_9 xt ct d q s.1 s.2.1 s.2.2.1 s.2.2.2 := by
  unfold B114_9 at e
  exact (fun l f4 f6 f8 =>
  r_iload c114_9 f8 <|
  r_sipush c114_11 <|
  t_if e (fun b1 e2 =>
    r_icmpT c114_14 b1 <|
    t_up e2 fun o3 e4 u5 =>
    (fun (g6 : o3 = q) =>
    by subst g6; exact (J114_45_ok hct hO f4 e4)
    ) (by have := g; rw [u5] at this; exact this)
  ) (fun b1 e2 =>
    r_icmpF c114_14 b1 <|
    r_lload c114_17 f6 <|
    r_lconst c114_19 <|
    r_lcmp c114_20 rfl <|
    t_if e2 (fun b7 e8 =>
      r_ifT c114_21 b7 <|
      t_up e8 fun o9 e10 u11 =>
      (fun (g12 : o9 = q) =>
      by subst g12; exact (J114_45_ok hct hO f4 e10)
      ) (by have := g; rw [u11] at this; exact this)
    ) (fun b7 e8 =>
      r_ifF c114_21 b7 <|
      r_lload c114_24 f4 <|
      r_lload c114_26 f6 <|
      t_ck e8 fun y13 e14 =>
      r_lrem c114_28 y13 rfl <|
      r_lstore c114_29 <|
      r_lload c114_31 (ld2_ne f6 (by decide) (Or.inl (by decide))) <|
      r_lstore c114_33 <|
      r_lload c114_35 (ld2_ne ld2_eq (by decide) (Or.inl (by decide))) <|
      r_lstore c114_37 <|
      r_iinc c114_39 (ld2_ne (ld2_ne (ld2_ne f8 (by decide) (Or.inr rfl)) (by decide) (Or.inl (by decide))) (by decide) (Or.inl (by decide))) <|
      r_goto c114_42 <|
      t_rg e14 g (fun (z : LG114_9 xt ct d q s.2.1 (s.1 - s.1 / s.2.1 * s.2.1) (s.2.2.1 + 1) s.2.2.2) => z _ (ld1_ne (ld2_ne ld2_eq (by decide) (Or.inl (by decide))) (by decide) (Or.inl (by decide))) (ld1_ne ld2_eq (by decide) (Or.inl (by decide))) ld1_eq)
    )
  ))
theorem L114_9_ok {xt : mj_X} {ct : Nat → Value} {O : OR} {d N : Nat} (hct : ct 0 = .int 1) (hO : oOK xt ct d O) {x4 : Int64} {x6 : Int64} {x8 : Int32} {H : mj_H} {q : (Int64) × mj_H} (e : L114_9 xt ct O N (x4, x6, x8, H) = some q) : LG114_9 xt ct d q x4 x6 x8 H :=
  t_lp_ok (G := fun s => LG114_9 xt ct d q s.1 s.2.1 s.2.2.1 s.2.2.2) (fun s s' e g => B114_9_ok hct hO e (by obtain ⟨_, _, _, _⟩ := s'; exact g)) (fun s e => B114_9_ok hct hO e rfl) N (x4, x6, x8, H) e
/-- DiceOdds.commonDivisor(JJ)J -/
def C114 (xt : mj_X) (ct : Nat → Value) (O : OR) (N : Nat) (x0 : Int64) (x2 : Int64) (H : mj_H) : Option ((Int64) × mj_H) :=
  L114_9 xt ct O N (x0, x2, 0, H)
theorem C114_ok {xt : mj_X} {ct : Nat → Value} {O : OR} {d N : Nat} (hct : ct 0 = .int 1) (hO : oOK xt ct d O) {x0 : Int64} {x2 : Int64} {H : mj_H} {q : (Int64) × mj_H} (e : C114 xt ct O N x0 x2 H = some q) : mj_Run kY xt ct (d + 1) 114 0 (lv_args 0 [.long x0, .long x2]) [] H (.inl (vL q.1), q.2) := by
  unfold C114 at e
  exact (
  r_lloadn c114_0 rfl <|
  r_lstore c114_1 <|
  r_lloadn c114_3 (ld2_ne rfl (by decide) (Or.inl (by decide))) <|
  r_lstore c114_4 <|
  r_iconst c114_6 <|
  r_istore c114_7 <|
  L114_9_ok hct hO e _ (ld1_ne (ld2_ne ld2_eq (by decide) (Or.inl (by decide))) (by decide) (Or.inl (by decide))) (ld1_ne ld2_eq (by decide) (Or.inl (by decide))) ld1_eq)
def J115_13 (xt : mj_X) (ct : Nat → Value) (O : OR) (N : Nat) (s0 : Int64) (H : mj_H) : Option ((Int64) × mj_H) :=
  some (s0, H)
theorem J115_13_ok {xt : mj_X} {ct : Nat → Value} {O : OR} {d N : Nat} (hct : ct 0 = .int 1) (hO : oOK xt ct d O) {l : mj_L} {s0 : Int64} {H : mj_H} {q : (Int64) × mj_H}  (e : J115_13 xt ct O N s0 H = some q) : mj_Run kY xt ct (d + 1) 115 13 l [.long s0] H (.inl (vL q.1), q.2) := by
  unfold J115_13 at e
  exact (
  (by cases e; exact (r_lret c115_13)))
/-- DiceOdds.quotient(JJ)J -/
def C115 (xt : mj_X) (ct : Nat → Value) (O : OR) (N : Nat) (x0 : Int64) (x2 : Int64) (H : mj_H) : Option ((Int64) × mj_H) :=
  bif mj_c1 .le (lg_cmp x2 1) then
    J115_13 xt ct O N x0 H
  else
  if x2 ≠ 0 then
  J115_13 xt ct O N (x0 / x2) H
  else none
theorem C115_ok {xt : mj_X} {ct : Nat → Value} {O : OR} {d N : Nat} (hct : ct 0 = .int 1) (hO : oOK xt ct d O) {x0 : Int64} {x2 : Int64} {H : mj_H} {q : (Int64) × mj_H} (e : C115 xt ct O N x0 x2 H = some q) : mj_Run kY xt ct (d + 1) 115 0 (lv_args 0 [.long x0, .long x2]) [] H (.inl (vL q.1), q.2) := by
  unfold C115 at e
  exact (
  r_lloadn c115_0 rfl <|
  r_lconst c115_1 <|
  r_lcmp c115_2 rfl <|
  t_if e (fun b1 e2 =>
    r_ifT c115_3 b1 <|
    r_lloadn c115_12 rfl <|
    J115_13_ok hct hO  e2
  ) (fun b1 e2 =>
    r_ifF c115_3 b1 <|
    r_lloadn c115_6 rfl <|
    r_lloadn c115_7 rfl <|
    t_ck e2 fun y3 e4 =>
    r_ldiv c115_8 y3 rfl <|
    r_goto c115_9 <|
    J115_13_ok hct hO  e4
  ))
def LG176_4 (xt : mj_X) (ct : Nat → Value) (d : Nat) (q : mj_H) (x0 : Nat) (x1 : Int64) (x3 : Int32) (H : mj_H) : Prop := ∀ l, mj_ld l 0 = some (.ref x0) → mj_ld l 1 = some (.long x1) → mj_ld l 3 = some (.int x3) → mj_Run kY xt ct (d + 2) 176 4 l [] H (.inl none, q)
def GG176_4 (xt : mj_X) (ct : Nat → Value) (d : Nat) (q : mj_H) (o : (Nat × Int64 × Int32 × mj_H) ⊕ (mj_H)) : Prop := match o with
  | .inl (x0, x1, x3, H) => LG176_4 xt ct d q x0 x1 x3 H
  | .inr r => r = q
def LG176_31 (xt : mj_X) (ct : Nat → Value) (d : Nat) (q : mj_H) (x0 : Nat) (x1 : Int64) (x3 : Int32) (H : mj_H) : Prop := ∀ l, mj_ld l 0 = some (.ref x0) → mj_ld l 1 = some (.long x1) → mj_ld l 3 = some (.int x3) → mj_Run kY xt ct (d + 2) 176 31 l [] H (.inl none, q)
def GG176_31 (xt : mj_X) (ct : Nat → Value) (d : Nat) (q : mj_H) (o : (Nat × Int64 × Int32 × mj_H) ⊕ (mj_H)) : Prop := match o with
  | .inl (x0, x1, x3, H) => LG176_31 xt ct d q x0 x1 x3 H
  | .inr r => r = q
def B176_31 (xt : mj_X) (ct : Nat → Value) (O : OR) (N : Nat) (s : Nat × Int64 × Int32 × mj_H) : Option ((Nat × Int64 × Int32 × mj_H) ⊕ (mj_H)) :=
  (gI s.2.2.2 s.1 4 4).bind fun r6 =>
  bif mj_c2 .ge s.2.2.1 r6 then
    some (.inr s.2.2.2)
  else
  (gA s.2.2.2 s.1 4 1).bind fun r11 =>
  (gA s.2.2.2 s.1 4 1).bind fun r14 =>
  (aL xt s.2.2.2 r14 s.2.2.1).bind fun r17 =>
  (C115 xt ct O N r17 s.2.1 s.2.2.2).bind fun r20 =>
  (sL r20.2 r11 s.2.2.1 r20.1).bind fun H23 =>
  (gL H23 s.1 4 5).bind fun r26 =>
  (gA H23 s.1 4 1).bind fun r29 =>
  (aL xt H23 r29 s.2.2.1).bind fun r32 =>
  (uF H23 s.1 4 5 (.long (r26 + r32))).bind fun H35 =>
  some (.inl (s.1, s.2.1, (s.2.2.1 + 1), H35))
def L176_31 (xt : mj_X) (ct : Nat → Value) (O : OR) (N : Nat) (s : Nat × Int64 × Int32 × mj_H) : Option (mj_H) := t_lp (B176_31 xt ct O N) N s
theorem B176_31_ok {xt : mj_X} {ct : Nat → Value} {O : OR} {d N : Nat} (hct : ct 0 = .int 1) (hO : oOK xt ct d O) {s : Nat × Int64 × Int32 × mj_H} {o : (Nat × Int64 × Int32 × mj_H) ⊕ (mj_H)} {q : mj_H} (e : B176_31 xt ct O N s = some o) (g : GG176_31 xt ct d q o) : LG176_31 xt ct d q s.1 s.2.1 s.2.2.1 s.2.2.2 := by
  unfold B176_31 at e
  exact (fun l f0 f1 f3 =>
  r_iloadn c176_31 f3 <|
  r_aloadn c176_32 f0 <|
  t_bd e fun r6 c7 e8 =>
  c_gI c176_33 c7 <|
  t_if e8 (fun b9 e10 =>
    r_icmpT c176_36 b9 <|
    t_rg e10 g (fun (z : s.2.2.2 = q) => (by cases z; exact (r_ret c176_76)))
  ) (fun b9 e10 =>
    r_icmpF c176_36 b9 <|
    r_aloadn c176_39 f0 <|
    t_bd e10 fun r11 c12 e13 =>
    c_gA c176_40 c12 <|
    r_iloadn c176_43 f3 <|
    r_aloadn c176_44 f0 <|
    t_bd e13 fun r14 c15 e16 =>
    c_gA c176_45 c15 <|
    r_iloadn c176_48 f3 <|
    t_bd e16 fun r17 c18 e19 =>
    c_aL c176_49 c18 <|
    r_lloadn c176_50 f1 <|
    t_bd e19 fun r20 c21 e22 =>
    c_cal (st2 := [.long r20.1, .int s.2.2.1, .ref r11]) (s_cs (as := [.long r17, .long s.2.1]) (st' := [.int s.2.2.1, .ref r11]) c176_51 ⟨Nat.le_of_ble_eq_true rfl, Nat.le_of_ble_eq_true rfl, Nat.le_of_ble_eq_true rfl⟩ rfl rfl) (C115_ok hct hO c21) (Nat.add_lt_add_left (by decide) d) rfl <|
    t_bd e22 fun H23 c24 e25 =>
    c_sL c176_54 c24 <|
    r_aloadn c176_55 f0 <|
    r_dup c176_56 rfl <|
    t_bd e25 fun r26 c27 e28 =>
    c_gL c176_57 c27 <|
    r_aloadn c176_60 f0 <|
    t_bd e28 fun r29 c30 e31 =>
    c_gA c176_61 c30 <|
    r_iloadn c176_64 f3 <|
    t_bd e31 fun r32 c33 e34 =>
    c_aL c176_65 c33 <|
    r_ladd c176_66 rfl <|
    t_bd e34 fun H35 c36 e37 =>
    c_uF c176_67 ⟨rfl, rfl⟩ c36 <|
    r_iinc c176_70 f3 <|
    r_goto c176_73 <|
    t_rg e37 g (fun (z : LG176_31 xt ct d q s.1 s.2.1 (s.2.2.1 + 1) H35) => z _ (ld1_ne f0 (by decide) (Or.inl (by decide))) (ld1_ne f1 (by decide) (Or.inl (by decide))) ld1_eq)
  ))
theorem L176_31_ok {xt : mj_X} {ct : Nat → Value} {O : OR} {d N : Nat} (hct : ct 0 = .int 1) (hO : oOK xt ct d O) {x0 : Nat} {x1 : Int64} {x3 : Int32} {H : mj_H} {q : mj_H} (e : L176_31 xt ct O N (x0, x1, x3, H) = some q) : LG176_31 xt ct d q x0 x1 x3 H :=
  t_lp_ok (G := fun s => LG176_31 xt ct d q s.1 s.2.1 s.2.2.1 s.2.2.2) (fun s s' e g => B176_31_ok hct hO e (by obtain ⟨_, _, _, _⟩ := s'; exact g)) (fun s e => B176_31_ok hct hO e rfl) N (x0, x1, x3, H) e
def B176_4 (xt : mj_X) (ct : Nat → Value) (O : OR) (N : Nat) (s : Nat × Int64 × Int32 × mj_H) : Option ((Nat × Int64 × Int32 × mj_H) ⊕ (mj_H)) :=
  (gI s.2.2.2 s.1 4 4).bind fun r1 =>
  bif mj_c2 .ge s.2.2.1 r1 then
    (L176_31 xt ct O N (s.1, s.2.1, 0, s.2.2.2)).map Sum.inr
  else
  (gA s.2.2.2 s.1 4 1).bind fun r42 =>
  (aL xt s.2.2.2 r42 s.2.2.1).bind fun r45 =>
  (C114 xt ct O N s.2.1 r45 s.2.2.2).bind fun r48 =>
  some (.inl (s.1, r48.1, (s.2.2.1 + 1), r48.2))
def L176_4 (xt : mj_X) (ct : Nat → Value) (O : OR) (N : Nat) (s : Nat × Int64 × Int32 × mj_H) : Option (mj_H) := t_lp (B176_4 xt ct O N) N s
theorem B176_4_ok {xt : mj_X} {ct : Nat → Value} {O : OR} {d N : Nat} (hct : ct 0 = .int 1) (hO : oOK xt ct d O) {s : Nat × Int64 × Int32 × mj_H} {o : (Nat × Int64 × Int32 × mj_H) ⊕ (mj_H)} {q : mj_H} (e : B176_4 xt ct O N s = some o) (g : GG176_4 xt ct d q o) : LG176_4 xt ct d q s.1 s.2.1 s.2.2.1 s.2.2.2 := by
  unfold B176_4 at e
  exact (fun l f0 f1 f3 =>
  r_iloadn c176_4 f3 <|
  r_aloadn c176_5 f0 <|
  t_bd e fun r1 c2 e3 =>
  c_gI c176_6 c2 <|
  t_if e3 (fun b4 e5 =>
    r_icmpT c176_9 b4 <|
    r_iconst c176_29 <|
    r_istoren c176_30 <|
    t_up e5 fun o38 e39 u40 =>
    (fun (g41 : o38 = q) =>
    by subst g41; exact (L176_31_ok hct hO e39 _ (ld1_ne f0 (by decide) (Or.inl (by decide))) (ld1_ne f1 (by decide) (Or.inl (by decide))) ld1_eq)
    ) (by have := g; rw [u40] at this; exact this)
  ) (fun b4 e5 =>
    r_icmpF c176_9 b4 <|
    r_lloadn c176_12 f1 <|
    r_aloadn c176_13 f0 <|
    t_bd e5 fun r42 c43 e44 =>
    c_gA c176_14 c43 <|
    r_iloadn c176_17 f3 <|
    t_bd e44 fun r45 c46 e47 =>
    c_aL c176_18 c46 <|
    t_bd e47 fun r48 c49 e50 =>
    c_cal (st2 := [.long r48.1]) (s_cs (as := [.long s.2.1, .long r45]) (st' := []) c176_19 ⟨Nat.le_of_ble_eq_true rfl, Nat.le_of_ble_eq_true rfl, Nat.le_of_ble_eq_true rfl⟩ rfl rfl) (C114_ok hct hO c49) (Nat.add_lt_add_left (by decide) d) rfl <|
    r_lstoren c176_22 <|
    r_iinc c176_23 (ld2_ne f3 (by decide) (Or.inl (by decide))) <|
    r_goto c176_26 <|
    t_rg e50 g (fun (z : LG176_4 xt ct d q s.1 r48.1 (s.2.2.1 + 1) r48.2) => z _ (ld1_ne (ld2_ne f0 (by decide) (Or.inr rfl)) (by decide) (Or.inl (by decide))) (ld1_ne ld2_eq (by decide) (Or.inl (by decide))) ld1_eq)
  ))
theorem L176_4_ok {xt : mj_X} {ct : Nat → Value} {O : OR} {d N : Nat} (hct : ct 0 = .int 1) (hO : oOK xt ct d O) {x0 : Nat} {x1 : Int64} {x3 : Int32} {H : mj_H} {q : mj_H} (e : L176_4 xt ct O N (x0, x1, x3, H) = some q) : LG176_4 xt ct d q x0 x1 x3 H :=
  t_lp_ok (G := fun s => LG176_4 xt ct d q s.1 s.2.1 s.2.2.1 s.2.2.2) (fun s s' e g => B176_4_ok hct hO e (by obtain ⟨_, _, _, _⟩ := s'; exact g)) (fun s e => B176_4_ok hct hO e rfl) N (x0, x1, x3, H) e
/-- DiceOdds$Slot.divideByWhatIsCommon()V -/
def C176 (xt : mj_X) (ct : Nat → Value) (O : OR) (N : Nat) (x0 : Nat) (H : mj_H) : Option (mj_H) :=
  L176_4 xt ct O N (x0, 0, 0, H)
theorem C176_ok {xt : mj_X} {ct : Nat → Value} {O : OR} {d N : Nat} (hct : ct 0 = .int 1) (hO : oOK xt ct d O) {x0 : Nat} {H : mj_H} {q : mj_H} (e : C176 xt ct O N x0 H = some q) : mj_Run kY xt ct (d + 2) 176 0 (lv_args 0 [.ref x0]) [] H (.inl none, q) := by
  unfold C176 at e
  exact (
  r_lconst c176_0 <|
  r_lstoren c176_1 <|
  r_iconst c176_2 <|
  r_istoren c176_3 <|
  L176_4_ok hct hO e _ (ld1_ne (ld2_ne rfl (by decide) (Or.inr rfl)) (by decide) (Or.inl (by decide))) (ld1_ne ld2_eq (by decide) (Or.inl (by decide))) ld1_eq)
def LG174_2 (xt : mj_X) (ct : Nat → Value) (d : Nat) (q : mj_H) (x0 : Nat) (x1 : Nat) (x2 : Int32) (H : mj_H) : Prop := ∀ l, mj_ld l 0 = some (.ref x0) → mj_ld l 1 = some (.ref x1) → mj_ld l 2 = some (.int x2) → mj_Run kY xt ct (d + 3) 174 2 l [] H (.inl none, q)
def GG174_2 (xt : mj_X) (ct : Nat → Value) (d : Nat) (q : mj_H) (o : (Nat × Nat × Int32 × mj_H) ⊕ (mj_H)) : Prop := match o with
  | .inl (x0, x1, x2, H) => LG174_2 xt ct d q x0 x1 x2 H
  | .inr r => r = q
def B174_2 (xt : mj_X) (ct : Nat → Value) (O : OR) (N : Nat) (s : Nat × Nat × Int32 × mj_H) : Option ((Nat × Nat × Int32 × mj_H) ⊕ (mj_H)) :=
  (gI s.2.2.2 s.2.1 2 2).bind fun r1 =>
  bif mj_c2 .ge s.2.2.1 r1 then
    (gK s.2.2.2 s.1 4).bind fun k6 =>
    (C176 xt ct O N s.1 s.2.2.2).bind fun r9 =>
    some (.inr r9)
  else
  (gK s.2.2.2 s.2.1 2).bind fun k12 =>
  (C154 xt ct O N s.2.1 s.2.2.1 0 s.2.2.2).bind fun r15 =>
  (gA r15.2 s.2.1 2 1).bind fun r18 =>
  (aL xt r15.2 r18 s.2.2.1).bind fun r21 =>
  (gK r15.2 s.1 4).bind fun k24 =>
  (C175 xt ct O N s.1 r15.1 r21 r15.2).bind fun r27 =>
  some (.inl (s.1, s.2.1, (s.2.2.1 + 1), r27))
def L174_2 (xt : mj_X) (ct : Nat → Value) (O : OR) (N : Nat) (s : Nat × Nat × Int32 × mj_H) : Option (mj_H) := t_lp (B174_2 xt ct O N) N s
theorem B174_2_ok {xt : mj_X} {ct : Nat → Value} {O : OR} {d N : Nat} (hct : ct 0 = .int 1) (hO : oOK xt ct d O) {s : Nat × Nat × Int32 × mj_H} {o : (Nat × Nat × Int32 × mj_H) ⊕ (mj_H)} {q : mj_H} (e : B174_2 xt ct O N s = some o) (g : GG174_2 xt ct d q o) : LG174_2 xt ct d q s.1 s.2.1 s.2.2.1 s.2.2.2 := by
  unfold B174_2 at e
  exact (fun l f0 f1 f2 =>
  r_iloadn c174_2 f2 <|
  r_aloadn c174_3 f1 <|
  t_bd e fun r1 c2 e3 =>
  c_gI c174_4 c2 <|
  t_if e3 (fun b4 e5 =>
    r_icmpT c174_7 b4 <|
    r_aloadn c174_32 f0 <|
    t_bd e5 fun k6 c7 e8 =>
    t_bd e8 fun r9 c10 e11 =>
    c_cal (st2 := []) (s_cv (as := [.ref s.1]) (st' := []) c174_33 rfl (gK_ok c7) ⟨Nat.le_of_ble_eq_true rfl, Nat.le_of_ble_eq_true rfl, Nat.le_of_ble_eq_true rfl⟩ rfl rfl) (C176_ok hct hO c10) (Nat.add_lt_add_left (by decide) d) rfl <|
    t_rg e11 g (fun (z : r9 = q) => (by cases z; exact (r_ret c174_36)))
  ) (fun b4 e5 =>
    r_icmpF c174_7 b4 <|
    r_aloadn c174_10 f0 <|
    r_aloadn c174_11 f1 <|
    r_iloadn c174_12 f2 <|
    r_iconst c174_13 <|
    t_bd e5 fun k12 c13 e14 =>
    t_bd e14 fun r15 c16 e17 =>
    c_cal (st2 := [.int r15.1, .ref s.1]) (s_cv (as := [.ref s.2.1, .int s.2.2.1, .int 0]) (st' := [.ref s.1]) c174_14 rfl (gK_ok c13) ⟨Nat.le_of_ble_eq_true rfl, Nat.le_of_ble_eq_true rfl, Nat.le_of_ble_eq_true rfl⟩ rfl rfl) (C154_ok hct hO c16) (Nat.add_lt_add_left (by decide) d) rfl <|
    r_aloadn c174_17 f1 <|
    t_bd e17 fun r18 c19 e20 =>
    c_gA c174_18 c19 <|
    r_iloadn c174_21 f2 <|
    t_bd e20 fun r21 c22 e23 =>
    c_aL c174_22 c22 <|
    t_bd e23 fun k24 c25 e26 =>
    t_bd e26 fun r27 c28 e29 =>
    c_cal (st2 := []) (s_cv (as := [.ref s.1, .int r15.1, .long r21]) (st' := []) c174_23 rfl (gK_ok c25) ⟨Nat.le_of_ble_eq_true rfl, Nat.le_of_ble_eq_true rfl, Nat.le_of_ble_eq_true rfl⟩ rfl rfl) (C175_ok hct hO c28) (Nat.add_lt_add_left (by decide) d) rfl <|
    r_iinc c174_26 f2 <|
    r_goto c174_29 <|
    t_rg e29 g (fun (z : LG174_2 xt ct d q s.1 s.2.1 (s.2.2.1 + 1) r27) => z _ (ld1_ne f0 (by decide) (Or.inl (by decide))) (ld1_ne f1 (by decide) (Or.inr rfl)) ld1_eq)
  ))
theorem L174_2_ok {xt : mj_X} {ct : Nat → Value} {O : OR} {d N : Nat} (hct : ct 0 = .int 1) (hO : oOK xt ct d O) {x0 : Nat} {x1 : Nat} {x2 : Int32} {H : mj_H} {q : mj_H} (e : L174_2 xt ct O N (x0, x1, x2, H) = some q) : LG174_2 xt ct d q x0 x1 x2 H :=
  t_lp_ok (G := fun s => LG174_2 xt ct d q s.1 s.2.1 s.2.2.1 s.2.2.2) (fun s s' e g => B174_2_ok hct hO e (by obtain ⟨_, _, _, _⟩ := s'; exact g)) (fun s e => B174_2_ok hct hO e rfl) N (x0, x1, x2, H) e
/-- DiceOdds$Slot.takeResult(LDiceOdds$States;)V -/
def C174 (xt : mj_X) (ct : Nat → Value) (O : OR) (N : Nat) (x0 : Nat) (x1 : Nat) (H : mj_H) : Option (mj_H) :=
  L174_2 xt ct O N (x0, x1, 0, H)
theorem C174_ok {xt : mj_X} {ct : Nat → Value} {O : OR} {d N : Nat} (hct : ct 0 = .int 1) (hO : oOK xt ct d O) {x0 : Nat} {x1 : Nat} {H : mj_H} {q : mj_H} (e : C174 xt ct O N x0 x1 H = some q) : mj_Run kY xt ct (d + 3) 174 0 (lv_args 0 [.ref x0, .ref x1]) [] H (.inl none, q) := by
  unfold C174 at e
  exact (
  r_iconst c174_0 <|
  r_istoren c174_1 <|
  L174_2_ok hct hO e _ (ld1_ne rfl (by decide) (Or.inl (by decide))) (ld1_ne rfl (by decide) (Or.inr rfl)) ld1_eq)
/-- DiceOdds.run(I)I -/
def C134 (xt : mj_X) (ct : Nat → Value) (O : OR) (N : Nat) (x0 : Nat) (x1 : Int32) (H : mj_H) : Option (((Int32) ⊕ Nat) × mj_H) :=
  (gK H x0 5).bind fun k1 =>
  (C121 xt ct O N x0 x1 H).bind fun r4 =>
  tc (fun z => z) r4 fun v7 =>
  (gK r4.2 v7 4).bind fun k11 =>
  (C118 xt ct O N v7 r4.2).bind fun r14 =>
  (gA r14 x0 5 3).bind fun r17 =>
  (gK r14 r17 3).bind fun k20 =>
  (C135 xt ct O N r17 r14).bind fun r23 =>
  (gR r23.2 v7 4 3).bind fun r26 =>
  (gA r23.2 x0 5 3).bind fun r29 =>
  (O.2.2.2.2.1 r26 r23.1 r29 0 r23.2).bind fun r32 =>
  bif mj_c1 .eq r32.1 then
    (gI r32.2 r23.1 2 2).bind fun r37 =>
    bif mj_c1 .ne r37 then
      (gK r32.2 v7 4).bind fun k42 =>
      (C174 xt ct O N v7 r23.1 r32.2).bind fun r45 =>
      some (.inl 0, r45)
    else
    some (.inl (-3), r32.2)
  else
  some (.inl r32.1, r32.2)
theorem C134_ok {xt : mj_X} {ct : Nat → Value} {O : OR} {d N : Nat} (hct : ct 0 = .int 1) (hO : oOK xt ct d O) {x0 : Nat} {x1 : Int32} {H : mj_H} {q : ((Int32) ⊕ Nat) × mj_H} (e : C134 xt ct O N x0 x1 H = some q) : mj_Run kY xt ct (d + 4) 134 0 (lv_args 0 [.ref x0, .int x1]) [] H (tT vI q.1, q.2) := by
  unfold C134 at e
  exact (
  r_aloadn c134_0 rfl <|
  r_iloadn c134_1 rfl <|
  t_bd e fun k1 c2 e3 =>
  t_bd e3 fun r4 c5 e6 =>
  t_tc e6 (fun v7 p8 e9 =>
    c_calT (f := vA) (p := r4) (st2 := [.ref v7]) (s_cv (as := [.ref x0, .int x1]) (st' := []) c134_2 rfl (gK_ok c2) ⟨Nat.le_of_ble_eq_true rfl, Nat.le_of_ble_eq_true rfl, Nat.le_of_ble_eq_true rfl⟩ rfl rfl) (C121_ok hct hO c5) p8 (Nat.add_lt_add_left (by decide) d) rfl <|
    r_astoren c134_5 <|
    r_aloadn c134_6 ld1_eq <|
    t_bd e9 fun k11 c12 e13 =>
    t_bd e13 fun r14 c15 e16 =>
    c_cal (st2 := []) (s_cv (as := [.ref v7]) (st' := []) c134_7 rfl (gK_ok c12) ⟨Nat.le_of_ble_eq_true rfl, Nat.le_of_ble_eq_true rfl, Nat.le_of_ble_eq_true rfl⟩ rfl rfl) (C118_ok hct hO c15) (Nat.add_lt_add_left (by decide) d) rfl <|
    r_aloadn c134_10 (ld1_ne rfl (by decide) (Or.inl (by decide))) <|
    t_bd e16 fun r17 c18 e19 =>
    c_gA c134_11 c18 <|
    t_bd e19 fun k20 c21 e22 =>
    t_bd e22 fun r23 c24 e25 =>
    c_cal (st2 := [.ref r23.1]) (s_cv (as := [.ref r17]) (st' := []) c134_14 rfl (gK_ok c21) ⟨Nat.le_of_ble_eq_true rfl, Nat.le_of_ble_eq_true rfl, Nat.le_of_ble_eq_true rfl⟩ rfl rfl) (C135_ok hct hO c24) (Nat.add_lt_add_left (by decide) d) rfl <|
    r_astoren c134_17 <|
    r_aloadn c134_18 (ld1_ne ld1_eq (by decide) (Or.inr rfl)) <|
    t_bd e25 fun r26 c27 e28 =>
    c_gR c134_19 c27 <|
    r_aloadn c134_22 ld1_eq <|
    r_aloadn c134_23 (ld1_ne (ld1_ne rfl (by decide) (Or.inl (by decide))) (by decide) (Or.inl (by decide))) <|
    t_bd e28 fun r29 c30 e31 =>
    c_gA c134_24 c30 <|
    r_iconst c134_27 <|
    t_bd e31 fun r32 c33 e34 =>
    c_cal (st2 := [.int r32.1]) (s_cs (as := [rv r26, .ref r23.1, .ref r29, .int 0]) (st' := []) c134_28 (by cases (r26) <;> exact ⟨Nat.le_of_ble_eq_true rfl, Nat.le_of_ble_eq_true rfl, Nat.le_of_ble_eq_true rfl⟩) rfl rfl) (hO.2.2.2.2.1 _ _ _ _ _ _ c33) (Nat.lt_add_of_pos_right (by decide)) rfl <|
    r_istore c134_31 <|
    r_iload c134_33 ld1_eq <|
    t_if e34 (fun b35 e36 =>
      r_ifT c134_35 b35 <|
      r_aloadn c134_41 (ld1_ne ld1_eq (by decide) (Or.inr rfl)) <|
      t_bd e36 fun r37 c38 e39 =>
      c_gI c134_42 c38 <|
      t_if e39 (fun b40 e41 =>
        r_ifT c134_45 b40 <|
        r_aloadn c134_51 (ld1_ne (ld1_ne ld1_eq (by decide) (Or.inr rfl)) (by decide) (Or.inl (by decide))) <|
        r_aloadn c134_52 (ld1_ne ld1_eq (by decide) (Or.inr rfl)) <|
        t_bd e41 fun k42 c43 e44 =>
        t_bd e44 fun r45 c46 e47 =>
        c_cal (st2 := []) (s_cv (as := [.ref v7, .ref r23.1]) (st' := []) c134_53 rfl (gK_ok c43) ⟨Nat.le_of_ble_eq_true rfl, Nat.le_of_ble_eq_true rfl, Nat.le_of_ble_eq_true rfl⟩ rfl rfl) (C174_ok hct hO c46) (Nat.add_lt_add_left (by decide) d) rfl <|
        r_iconst c134_56 <|
        (by cases e47; exact (r_iret c134_57 rfl))
      ) (fun b40 e41 =>
        r_ifF c134_45 b40 <|
        r_bipush c134_48 <|
        (by cases e41; exact (r_iret c134_50 rfl))
      )
    ) (fun b35 e36 =>
      r_ifF c134_35 b35 <|
      r_iload c134_38 ld1_eq <|
      (by cases e36; exact (r_iret c134_40 rfl))
    )
  ) (fun x10 p8 e9 =>
    (by cases e9; exact (c_thrT (f := vA) (p := r4) (s_cv (as := [.ref x0, .int x1]) (st' := []) c134_2 rfl (gK_ok c2) ⟨Nat.le_of_ble_eq_true rfl, Nat.le_of_ble_eq_true rfl, Nat.le_of_ble_eq_true rfl⟩ rfl rfl) (C121_ok hct hO c5) p8 (Nat.add_lt_add_left (by decide) d) nh134))
  ))
/-- DiceOdds.factor(I)J -/
def C178 (xt : mj_X) (ct : Nat → Value) (O : OR) (N : Nat) (x0 : Nat) (x1 : Int32) (H : mj_H) : Option (((Int64) ⊕ Nat) × mj_H) :=
  (gK H x0 5).bind fun k1 =>
  (C121 xt ct O N x0 x1 H).bind fun r4 =>
  tc (fun z => z) r4 fun v7 =>
  (gR r4.2 v7 4 3).bind fun r11 =>
  (C112 xt ct O N r11 r4.2).bind fun r14 =>
  some (.inl r14.1, r14.2)
theorem C178_ok {xt : mj_X} {ct : Nat → Value} {O : OR} {d N : Nat} (hct : ct 0 = .int 1) (hO : oOK xt ct d O) {x0 : Nat} {x1 : Int32} {H : mj_H} {q : ((Int64) ⊕ Nat) × mj_H} (e : C178 xt ct O N x0 x1 H = some q) : mj_Run kY xt ct (d + 4) 178 0 (lv_args 0 [.ref x0, .int x1]) [] H (tT vL q.1, q.2) := by
  unfold C178 at e
  exact (
  r_aloadn c178_0 rfl <|
  r_iloadn c178_1 rfl <|
  t_bd e fun k1 c2 e3 =>
  t_bd e3 fun r4 c5 e6 =>
  t_tc e6 (fun v7 p8 e9 =>
    c_calT (f := vA) (p := r4) (st2 := [.ref v7]) (s_cv (as := [.ref x0, .int x1]) (st' := []) c178_2 rfl (gK_ok c2) ⟨Nat.le_of_ble_eq_true rfl, Nat.le_of_ble_eq_true rfl, Nat.le_of_ble_eq_true rfl⟩ rfl rfl) (C121_ok hct hO c5) p8 (Nat.add_lt_add_left (by decide) d) rfl <|
    t_bd e9 fun r11 c12 e13 =>
    c_gR c178_5 c12 <|
    t_bd e13 fun r14 c15 e16 =>
    c_cal (st2 := [.long r14.1]) (s_cs (as := [rv r11]) (st' := []) c178_8 (by cases (r11) <;> exact ⟨Nat.le_of_ble_eq_true rfl, Nat.le_of_ble_eq_true rfl, Nat.le_of_ble_eq_true rfl⟩) rfl rfl) (C112_ok hct hO c15) (Nat.add_lt_add_left (by decide) d) rfl <|
    (by cases e16; exact (r_lret c178_11))
  ) (fun x10 p8 e9 =>
    (by cases e9; exact (c_thrT (f := vA) (p := r4) (s_cv (as := [.ref x0, .int x1]) (st' := []) c178_2 rfl (gK_ok c2) ⟨Nat.le_of_ble_eq_true rfl, Nat.le_of_ble_eq_true rfl, Nat.le_of_ble_eq_true rfl⟩ rfl rfl) (C121_ok hct hO c5) p8 (Nat.add_lt_add_left (by decide) d) nh178))
  ))
/-- DiceOdds.withResult(I)LDiceOdds$Slot; -/
def C181 (xt : mj_X) (ct : Nat → Value) (O : OR) (N : Nat) (x0 : Nat) (x1 : Int32) (H : mj_H) : Option (((Nat) ⊕ Nat) × mj_H) :=
  (gK H x0 5).bind fun k1 =>
  (C79 xt ct O N x0 x1 H).bind fun r4 =>
  tc (fun z => z) r4 fun v7 =>
  (gI r4.2 v7 4 4).bind fun r11 =>
  bif mj_c1 .ne r11 then
    some (.inl v7, r4.2)
  else
  some (.inr r4.2.2.1, mj_new r4.2 6 (.inr (14, [])))
theorem C181_ok {xt : mj_X} {ct : Nat → Value} {O : OR} {d N : Nat} (hct : ct 0 = .int 1) (hO : oOK xt ct d O) {x0 : Nat} {x1 : Int32} {H : mj_H} {q : ((Nat) ⊕ Nat) × mj_H} (e : C181 xt ct O N x0 x1 H = some q) : mj_Run kY xt ct (d + 3) 181 0 (lv_args 0 [.ref x0, .int x1]) [] H (tT vA q.1, q.2) := by
  unfold C181 at e
  exact (
  r_aloadn c181_0 rfl <|
  r_iloadn c181_1 rfl <|
  t_bd e fun k1 c2 e3 =>
  t_bd e3 fun r4 c5 e6 =>
  t_tc e6 (fun v7 p8 e9 =>
    c_calT (f := vA) (p := r4) (st2 := [.ref v7]) (s_cv (as := [.ref x0, .int x1]) (st' := []) c181_2 rfl (gK_ok c2) ⟨Nat.le_of_ble_eq_true rfl, Nat.le_of_ble_eq_true rfl, Nat.le_of_ble_eq_true rfl⟩ rfl rfl) (C79_ok hct hO c5) p8 (Nat.add_lt_add_left (by decide) d) rfl <|
    r_astoren c181_5 <|
    r_aloadn c181_6 ld1_eq <|
    t_bd e9 fun r11 c12 e13 =>
    c_gI c181_7 c12 <|
    t_if e13 (fun b14 e15 =>
      r_ifT c181_10 b14 <|
      r_aloadn c181_23 ld1_eq <|
      (by cases e15; exact (r_aret c181_24))
    ) (fun b14 e15 =>
      r_ifF c181_10 b14 <|
      (by cases e15; exact (c_thr c181_13 (Nat.le_of_ble_eq_true rfl)))
    )
  ) (fun x10 p8 e9 =>
    (by cases e9; exact (c_thrT (f := vA) (p := r4) (s_cv (as := [.ref x0, .int x1]) (st' := []) c181_2 rfl (gK_ok c2) ⟨Nat.le_of_ble_eq_true rfl, Nat.le_of_ble_eq_true rfl, Nat.le_of_ble_eq_true rfl⟩ rfl rfl) (C79_ok hct hO c5) p8 (Nat.add_lt_add_left (by decide) d) nh181))
  ))
/-- DiceOdds.outcomes(I)I -/
def C180 (xt : mj_X) (ct : Nat → Value) (O : OR) (N : Nat) (x0 : Nat) (x1 : Int32) (H : mj_H) : Option (((Int32) ⊕ Nat) × mj_H) :=
  (gK H x0 5).bind fun k1 =>
  (C181 xt ct O N x0 x1 H).bind fun r4 =>
  tc (fun z => z) r4 fun v7 =>
  (gI r4.2 v7 4 4).bind fun r11 =>
  some (.inl r11, r4.2)
theorem C180_ok {xt : mj_X} {ct : Nat → Value} {O : OR} {d N : Nat} (hct : ct 0 = .int 1) (hO : oOK xt ct d O) {x0 : Nat} {x1 : Int32} {H : mj_H} {q : ((Int32) ⊕ Nat) × mj_H} (e : C180 xt ct O N x0 x1 H = some q) : mj_Run kY xt ct (d + 4) 180 0 (lv_args 0 [.ref x0, .int x1]) [] H (tT vI q.1, q.2) := by
  unfold C180 at e
  exact (
  r_aloadn c180_0 rfl <|
  r_iloadn c180_1 rfl <|
  t_bd e fun k1 c2 e3 =>
  t_bd e3 fun r4 c5 e6 =>
  t_tc e6 (fun v7 p8 e9 =>
    c_calT (f := vA) (p := r4) (st2 := [.ref v7]) (s_cv (as := [.ref x0, .int x1]) (st' := []) c180_2 rfl (gK_ok c2) ⟨Nat.le_of_ble_eq_true rfl, Nat.le_of_ble_eq_true rfl, Nat.le_of_ble_eq_true rfl⟩ rfl rfl) (C181_ok hct hO c5) p8 (Nat.add_lt_add_left (by decide) d) rfl <|
    t_bd e9 fun r11 c12 e13 =>
    c_gI c180_5 c12 <|
    (by cases e13; exact (r_iret c180_8 rfl))
  ) (fun x10 p8 e9 =>
    (by cases e9; exact (c_thrT (f := vA) (p := r4) (s_cv (as := [.ref x0, .int x1]) (st' := []) c180_2 rfl (gK_ok c2) ⟨Nat.le_of_ble_eq_true rfl, Nat.le_of_ble_eq_true rfl, Nat.le_of_ble_eq_true rfl⟩ rfl rfl) (C181_ok hct hO c5) p8 (Nat.add_lt_add_left (by decide) d) nh180))
  ))
def J184_18 (xt : mj_X) (ct : Nat → Value) (O : OR) (N : Nat)  (H : mj_H) : Option (((Nat) ⊕ Nat) × mj_H) :=
  some (.inr H.2.1, mj_new H 6 (.inr (15, [])))
theorem J184_18_ok {xt : mj_X} {ct : Nat → Value} {O : OR} {d N : Nat} (hct : ct 0 = .int 1) (hO : oOK xt ct d O) {l : mj_L}  {H : mj_H} {q : ((Nat) ⊕ Nat) × mj_H}  (e : J184_18 xt ct O N  H = some q) : mj_Run kY xt ct (d + 4) 184 18 l [] H (tT vA q.1, q.2) := by
  unfold J184_18 at e
  exact (
  (by cases e; exact (c_thr c184_18 (Nat.le_of_ble_eq_true rfl))))
/-- DiceOdds.withOutcome(II)LDiceOdds$Slot; -/
def C184 (xt : mj_X) (ct : Nat → Value) (O : OR) (N : Nat) (x0 : Nat) (x1 : Int32) (x2 : Int32) (H : mj_H) : Option (((Nat) ⊕ Nat) × mj_H) :=
  (gK H x0 5).bind fun k1 =>
  (C181 xt ct O N x0 x1 H).bind fun r4 =>
  tc (fun z => z) r4 fun v7 =>
  bif mj_c1 .lt x2 then
    J184_18 xt ct O N r4.2
  else
  (gI r4.2 v7 4 4).bind fun r13 =>
  bif mj_c2 .lt x2 r13 then
    some (.inl v7, r4.2)
  else
  J184_18 xt ct O N r4.2
theorem C184_ok {xt : mj_X} {ct : Nat → Value} {O : OR} {d N : Nat} (hct : ct 0 = .int 1) (hO : oOK xt ct d O) {x0 : Nat} {x1 : Int32} {x2 : Int32} {H : mj_H} {q : ((Nat) ⊕ Nat) × mj_H} (e : C184 xt ct O N x0 x1 x2 H = some q) : mj_Run kY xt ct (d + 4) 184 0 (lv_args 0 [.ref x0, .int x1, .int x2]) [] H (tT vA q.1, q.2) := by
  unfold C184 at e
  exact (
  r_aloadn c184_0 rfl <|
  r_iloadn c184_1 rfl <|
  t_bd e fun k1 c2 e3 =>
  t_bd e3 fun r4 c5 e6 =>
  t_tc e6 (fun v7 p8 e9 =>
    c_calT (f := vA) (p := r4) (st2 := [.ref v7]) (s_cv (as := [.ref x0, .int x1]) (st' := []) c184_2 rfl (gK_ok c2) ⟨Nat.le_of_ble_eq_true rfl, Nat.le_of_ble_eq_true rfl, Nat.le_of_ble_eq_true rfl⟩ rfl rfl) (C181_ok hct hO c5) p8 (Nat.add_lt_add_left (by decide) d) rfl <|
    r_astoren c184_5 <|
    r_iloadn c184_6 (ld1_ne rfl (by decide) (Or.inr rfl)) <|
    t_if e9 (fun b11 e12 =>
      r_ifT c184_7 b11 <|
      J184_18_ok hct hO  e12
    ) (fun b11 e12 =>
      r_ifF c184_7 b11 <|
      r_iloadn c184_10 (ld1_ne rfl (by decide) (Or.inr rfl)) <|
      r_aloadn c184_11 ld1_eq <|
      t_bd e12 fun r13 c14 e15 =>
      c_gI c184_12 c14 <|
      t_if e15 (fun b16 e17 =>
        r_icmpT c184_15 b16 <|
        r_aloadn c184_28 ld1_eq <|
        (by cases e17; exact (r_aret c184_29))
      ) (fun b16 e17 =>
        r_icmpF c184_15 b16 <|
        J184_18_ok hct hO  e17
      )
    )
  ) (fun x10 p8 e9 =>
    (by cases e9; exact (c_thrT (f := vA) (p := r4) (s_cv (as := [.ref x0, .int x1]) (st' := []) c184_2 rfl (gK_ok c2) ⟨Nat.le_of_ble_eq_true rfl, Nat.le_of_ble_eq_true rfl, Nat.le_of_ble_eq_true rfl⟩ rfl rfl) (C181_ok hct hO c5) p8 (Nat.add_lt_add_left (by decide) d) nh184))
  ))
/-- DiceOdds.outcome(II)I -/
def C183 (xt : mj_X) (ct : Nat → Value) (O : OR) (N : Nat) (x0 : Nat) (x1 : Int32) (x2 : Int32) (H : mj_H) : Option (((Int32) ⊕ Nat) × mj_H) :=
  (gK H x0 5).bind fun k1 =>
  (C184 xt ct O N x0 x1 x2 H).bind fun r4 =>
  tc (fun z => z) r4 fun v7 =>
  (gA r4.2 v7 4 0).bind fun r11 =>
  (aI xt r4.2 r11 x2).bind fun r14 =>
  some (.inl r14, r4.2)
theorem C183_ok {xt : mj_X} {ct : Nat → Value} {O : OR} {d N : Nat} (hct : ct 0 = .int 1) (hO : oOK xt ct d O) {x0 : Nat} {x1 : Int32} {x2 : Int32} {H : mj_H} {q : ((Int32) ⊕ Nat) × mj_H} (e : C183 xt ct O N x0 x1 x2 H = some q) : mj_Run kY xt ct (d + 5) 183 0 (lv_args 0 [.ref x0, .int x1, .int x2]) [] H (tT vI q.1, q.2) := by
  unfold C183 at e
  exact (
  r_aloadn c183_0 rfl <|
  r_iloadn c183_1 rfl <|
  r_iloadn c183_2 rfl <|
  t_bd e fun k1 c2 e3 =>
  t_bd e3 fun r4 c5 e6 =>
  t_tc e6 (fun v7 p8 e9 =>
    c_calT (f := vA) (p := r4) (st2 := [.ref v7]) (s_cv (as := [.ref x0, .int x1, .int x2]) (st' := []) c183_3 rfl (gK_ok c2) ⟨Nat.le_of_ble_eq_true rfl, Nat.le_of_ble_eq_true rfl, Nat.le_of_ble_eq_true rfl⟩ rfl rfl) (C184_ok hct hO c5) p8 (Nat.add_lt_add_left (by decide) d) rfl <|
    r_astoren c183_6 <|
    r_aloadn c183_7 ld1_eq <|
    t_bd e9 fun r11 c12 e13 =>
    c_gA c183_8 c12 <|
    r_iloadn c183_11 (ld1_ne rfl (by decide) (Or.inr rfl)) <|
    t_bd e13 fun r14 c15 e16 =>
    c_aI c183_12 c15 <|
    (by cases e16; exact (r_iret c183_13 rfl))
  ) (fun x10 p8 e9 =>
    (by cases e9; exact (c_thrT (f := vA) (p := r4) (s_cv (as := [.ref x0, .int x1, .int x2]) (st' := []) c183_3 rfl (gK_ok c2) ⟨Nat.le_of_ble_eq_true rfl, Nat.le_of_ble_eq_true rfl, Nat.le_of_ble_eq_true rfl⟩ rfl rfl) (C184_ok hct hO c5) p8 (Nat.add_lt_add_left (by decide) d) nh183))
  ))
/-- DiceOdds.ways(II)J -/
def C186 (xt : mj_X) (ct : Nat → Value) (O : OR) (N : Nat) (x0 : Nat) (x1 : Int32) (x2 : Int32) (H : mj_H) : Option (((Int64) ⊕ Nat) × mj_H) :=
  (gK H x0 5).bind fun k1 =>
  (C184 xt ct O N x0 x1 x2 H).bind fun r4 =>
  tc (fun z => z) r4 fun v7 =>
  (gA r4.2 v7 4 1).bind fun r11 =>
  (aL xt r4.2 r11 x2).bind fun r14 =>
  some (.inl r14, r4.2)
theorem C186_ok {xt : mj_X} {ct : Nat → Value} {O : OR} {d N : Nat} (hct : ct 0 = .int 1) (hO : oOK xt ct d O) {x0 : Nat} {x1 : Int32} {x2 : Int32} {H : mj_H} {q : ((Int64) ⊕ Nat) × mj_H} (e : C186 xt ct O N x0 x1 x2 H = some q) : mj_Run kY xt ct (d + 5) 186 0 (lv_args 0 [.ref x0, .int x1, .int x2]) [] H (tT vL q.1, q.2) := by
  unfold C186 at e
  exact (
  r_aloadn c186_0 rfl <|
  r_iloadn c186_1 rfl <|
  r_iloadn c186_2 rfl <|
  t_bd e fun k1 c2 e3 =>
  t_bd e3 fun r4 c5 e6 =>
  t_tc e6 (fun v7 p8 e9 =>
    c_calT (f := vA) (p := r4) (st2 := [.ref v7]) (s_cv (as := [.ref x0, .int x1, .int x2]) (st' := []) c186_3 rfl (gK_ok c2) ⟨Nat.le_of_ble_eq_true rfl, Nat.le_of_ble_eq_true rfl, Nat.le_of_ble_eq_true rfl⟩ rfl rfl) (C184_ok hct hO c5) p8 (Nat.add_lt_add_left (by decide) d) rfl <|
    r_astoren c186_6 <|
    r_aloadn c186_7 ld1_eq <|
    t_bd e9 fun r11 c12 e13 =>
    c_gA c186_8 c12 <|
    r_iloadn c186_11 (ld1_ne rfl (by decide) (Or.inr rfl)) <|
    t_bd e13 fun r14 c15 e16 =>
    c_aL c186_12 c15 <|
    (by cases e16; exact (r_lret c186_13))
  ) (fun x10 p8 e9 =>
    (by cases e9; exact (c_thrT (f := vA) (p := r4) (s_cv (as := [.ref x0, .int x1, .int x2]) (st' := []) c186_3 rfl (gK_ok c2) ⟨Nat.le_of_ble_eq_true rfl, Nat.le_of_ble_eq_true rfl, Nat.le_of_ble_eq_true rfl⟩ rfl rfl) (C184_ok hct hO c5) p8 (Nat.add_lt_add_left (by decide) d) nh186))
  ))
/-- DiceOdds.total(I)J -/
def C188 (xt : mj_X) (ct : Nat → Value) (O : OR) (N : Nat) (x0 : Nat) (x1 : Int32) (H : mj_H) : Option (((Int64) ⊕ Nat) × mj_H) :=
  (gK H x0 5).bind fun k1 =>
  (C181 xt ct O N x0 x1 H).bind fun r4 =>
  tc (fun z => z) r4 fun v7 =>
  (gL r4.2 v7 4 5).bind fun r11 =>
  some (.inl r11, r4.2)
theorem C188_ok {xt : mj_X} {ct : Nat → Value} {O : OR} {d N : Nat} (hct : ct 0 = .int 1) (hO : oOK xt ct d O) {x0 : Nat} {x1 : Int32} {H : mj_H} {q : ((Int64) ⊕ Nat) × mj_H} (e : C188 xt ct O N x0 x1 H = some q) : mj_Run kY xt ct (d + 4) 188 0 (lv_args 0 [.ref x0, .int x1]) [] H (tT vL q.1, q.2) := by
  unfold C188 at e
  exact (
  r_aloadn c188_0 rfl <|
  r_iloadn c188_1 rfl <|
  t_bd e fun k1 c2 e3 =>
  t_bd e3 fun r4 c5 e6 =>
  t_tc e6 (fun v7 p8 e9 =>
    c_calT (f := vA) (p := r4) (st2 := [.ref v7]) (s_cv (as := [.ref x0, .int x1]) (st' := []) c188_2 rfl (gK_ok c2) ⟨Nat.le_of_ble_eq_true rfl, Nat.le_of_ble_eq_true rfl, Nat.le_of_ble_eq_true rfl⟩ rfl rfl) (C181_ok hct hO c5) p8 (Nat.add_lt_add_left (by decide) d) rfl <|
    t_bd e9 fun r11 c12 e13 =>
    c_gL c188_5 c12 <|
    (by cases e13; exact (r_lret c188_8))
  ) (fun x10 p8 e9 =>
    (by cases e9; exact (c_thrT (f := vA) (p := r4) (s_cv (as := [.ref x0, .int x1]) (st' := []) c188_2 rfl (gK_ok c2) ⟨Nat.le_of_ble_eq_true rfl, Nat.le_of_ble_eq_true rfl, Nat.le_of_ble_eq_true rfl⟩ rfl rfl) (C181_ok hct hO c5) p8 (Nat.add_lt_add_left (by decide) d) nh188))
  ))
/-- DiceOdds.allow(Z)V -/
def C191 (xt : mj_X) (ct : Nat → Value) (O : OR) (N : Nat) (x0 : Int32) (H : mj_H) : Option (((Unit) ⊕ Nat) × mj_H) :=
  bif mj_c1 .ne x0 then
    some (.inl (), H)
  else
  some (.inr H.2.1, mj_new H 6 (.inr (13, [])))
theorem C191_ok {xt : mj_X} {ct : Nat → Value} {O : OR} {d N : Nat} (hct : ct 0 = .int 1) (hO : oOK xt ct d O) {x0 : Int32} {H : mj_H} {q : ((Unit) ⊕ Nat) × mj_H} (e : C191 xt ct O N x0 H = some q) : mj_Run kY xt ct (d + 1) 191 0 (lv_args 0 [.int x0]) [] H (tT vU q.1, q.2) := by
  unfold C191 at e
  exact (
  r_iloadn c191_0 rfl <|
  t_if e (fun b1 e2 =>
    r_ifT c191_1 b1 <|
    (by cases e2; exact (r_ret c191_14))
  ) (fun b1 e2 =>
    r_ifF c191_1 b1 <|
    (by cases e2; exact (c_thr c191_4 (Nat.le_of_ble_eq_true rfl)))
  ))
def LG190_30 (xt : mj_X) (ct : Nat → Value) (d : Nat) (q : ((Int64) ⊕ Nat) × mj_H) (x2 : Int32) (x3 : Nat) (x4 : Int64) (x6 : Int32) (H : mj_H) : Prop := ∀ l, mj_ld l 2 = some (.int x2) → mj_ld l 3 = some (.ref x3) → mj_ld l 4 = some (.long x4) → mj_ld l 6 = some (.int x6) → mj_Run kY xt ct (d + 4) 190 30 l [] H (tT vL q.1, q.2)
def GG190_30 (xt : mj_X) (ct : Nat → Value) (d : Nat) (q : ((Int64) ⊕ Nat) × mj_H) (o : (Int32 × Nat × Int64 × Int32 × mj_H) ⊕ (((Int64) ⊕ Nat) × mj_H)) : Prop := match o with
  | .inl (x2, x3, x4, x6, H) => LG190_30 xt ct d q x2 x3 x4 x6 H
  | .inr r => r = q
def J190_73 (xt : mj_X) (ct : Nat → Value) (O : OR) (N : Nat) (x2 : Int32) (x3 : Nat) (x6 : Int32) (s0 : Int64) (s1 : Int64) (s2 : Int64) (H : mj_H) : Option ((Int32 × Nat × Int64 × Int32 × mj_H) ⊕ (((Int64) ⊕ Nat) × mj_H)) :=
  some (.inl (x2, x3, (s2 + (s1 * s0)), (x6 + 1), H))
theorem J190_73_ok {xt : mj_X} {ct : Nat → Value} {O : OR} {d N : Nat} (hct : ct 0 = .int 1) (hO : oOK xt ct d O) {l : mj_L} {x2 : Int32} {x3 : Nat} {x6 : Int32} {s0 : Int64} {s1 : Int64} {s2 : Int64} {H : mj_H} {o : (Int32 × Nat × Int64 × Int32 × mj_H) ⊕ (((Int64) ⊕ Nat) × mj_H)} {q : ((Int64) ⊕ Nat) × mj_H} (f2 : mj_ld l 2 = some (.int x2)) (f3 : mj_ld l 3 = some (.ref x3)) (f6 : mj_ld l 6 = some (.int x6)) (e : J190_73 xt ct O N x2 x3 x6 s0 s1 s2 H = some o) (g : GG190_30 xt ct d q o) : mj_Run kY xt ct (d + 4) 190 73 l [.long s0, .long s1, .long s2] H (tT vL q.1, q.2) := by
  unfold J190_73 at e
  exact (
  r_lmul c190_73 rfl <|
  r_ladd c190_74 rfl <|
  r_lstore c190_75 <|
  r_iinc c190_77 (ld2_ne f6 (by decide) (Or.inl (by decide))) <|
  r_goto c190_80 <|
  t_rg e g (fun (z : LG190_30 xt ct d q x2 x3 (s2 + (s1 * s0)) (x6 + 1) H) => z _ (ld1_ne (ld2_ne f2 (by decide) (Or.inl (by decide))) (by decide) (Or.inl (by decide))) (ld1_ne (ld2_ne f3 (by decide) (Or.inr rfl)) (by decide) (Or.inl (by decide))) (ld1_ne ld2_eq (by decide) (Or.inl (by decide))) ld1_eq))
def B190_30 (xt : mj_X) (ct : Nat → Value) (O : OR) (N : Nat) (s : Int32 × Nat × Int64 × Int32 × mj_H) : Option ((Int32 × Nat × Int64 × Int32 × mj_H) ⊕ (((Int64) ⊕ Nat) × mj_H)) :=
  (gI s.2.2.2.2 s.2.1 4 4).bind fun r20 =>
  bif mj_c2 .ge s.2.2.2.1 r20 then
    some (.inr (.inl s.2.2.1, s.2.2.2.2))
  else
  (gA s.2.2.2.2 s.2.1 4 0).bind fun r25 =>
  (aI xt s.2.2.2.2 r25 s.2.2.2.1).bind fun r28 =>
  (gA s.2.2.2.2 s.2.1 4 1).bind fun r31 =>
  (aL xt s.2.2.2.2 r31 s.2.2.2.1).bind fun r34 =>
  bif mj_c2 .ne s.1 1 then
    J190_73 xt ct O N s.1 s.2.1 s.2.2.2.1 ((r28 : Int32).toInt64 * (r28 : Int32).toInt64) r34 s.2.2.1 s.2.2.2.2
  else
  J190_73 xt ct O N s.1 s.2.1 s.2.2.2.1 (r28 : Int32).toInt64 r34 s.2.2.1 s.2.2.2.2
def L190_30 (xt : mj_X) (ct : Nat → Value) (O : OR) (N : Nat) (s : Int32 × Nat × Int64 × Int32 × mj_H) : Option (((Int64) ⊕ Nat) × mj_H) := t_lp (B190_30 xt ct O N) N s
theorem B190_30_ok {xt : mj_X} {ct : Nat → Value} {O : OR} {d N : Nat} (hct : ct 0 = .int 1) (hO : oOK xt ct d O) {s : Int32 × Nat × Int64 × Int32 × mj_H} {o : (Int32 × Nat × Int64 × Int32 × mj_H) ⊕ (((Int64) ⊕ Nat) × mj_H)} {q : ((Int64) ⊕ Nat) × mj_H} (e : B190_30 xt ct O N s = some o) (g : GG190_30 xt ct d q o) : LG190_30 xt ct d q s.1 s.2.1 s.2.2.1 s.2.2.2.1 s.2.2.2.2 := by
  unfold B190_30 at e
  exact (fun l f2 f3 f4 f6 =>
  r_iload c190_30 f6 <|
  r_aloadn c190_32 f3 <|
  t_bd e fun r20 c21 e22 =>
  c_gI c190_33 c21 <|
  t_if e22 (fun b23 e24 =>
    r_icmpT c190_36 b23 <|
    r_lload c190_83 f4 <|
    t_rg e24 g (fun (z : (.inl s.2.2.1, s.2.2.2.2) = q) => (by cases z; exact (r_lret c190_85)))
  ) (fun b23 e24 =>
    r_icmpF c190_36 b23 <|
    r_aloadn c190_39 f3 <|
    t_bd e24 fun r25 c26 e27 =>
    c_gA c190_40 c26 <|
    r_iload c190_43 f6 <|
    t_bd e27 fun r28 c29 e30 =>
    c_aI c190_45 c29 <|
    r_i2l c190_46 rfl <|
    r_lstore c190_47 <|
    r_lload c190_49 (ld2_ne f4 (by decide) (Or.inl (by decide))) <|
    r_aloadn c190_51 (ld2_ne f3 (by decide) (Or.inl (by decide))) <|
    t_bd e30 fun r31 c32 e33 =>
    c_gA c190_52 c32 <|
    r_iload c190_55 (ld2_ne f6 (by decide) (Or.inr rfl)) <|
    t_bd e33 fun r34 c35 e36 =>
    c_aL c190_57 c35 <|
    r_iloadn c190_58 (ld2_ne f2 (by decide) (Or.inl (by decide))) <|
    r_iconst c190_59 <|
    t_if e36 (fun b37 e38 =>
      r_icmpT c190_60 b37 <|
      r_lload c190_68 ld2_eq <|
      r_lload c190_70 ld2_eq <|
      r_lmul c190_72 rfl <|
      J190_73_ok hct hO (ld2_ne f2 (by decide) (Or.inl (by decide))) (ld2_ne f3 (by decide) (Or.inl (by decide))) (ld2_ne f6 (by decide) (Or.inr rfl)) e38 g
    ) (fun b37 e38 =>
      r_icmpF c190_60 b37 <|
      r_lload c190_63 ld2_eq <|
      r_goto c190_65 <|
      J190_73_ok hct hO (ld2_ne f2 (by decide) (Or.inl (by decide))) (ld2_ne f3 (by decide) (Or.inl (by decide))) (ld2_ne f6 (by decide) (Or.inr rfl)) e38 g
    )
  ))
theorem L190_30_ok {xt : mj_X} {ct : Nat → Value} {O : OR} {d N : Nat} (hct : ct 0 = .int 1) (hO : oOK xt ct d O) {x2 : Int32} {x3 : Nat} {x4 : Int64} {x6 : Int32} {H : mj_H} {q : ((Int64) ⊕ Nat) × mj_H} (e : L190_30 xt ct O N (x2, x3, x4, x6, H) = some q) : LG190_30 xt ct d q x2 x3 x4 x6 H :=
  t_lp_ok (G := fun s => LG190_30 xt ct d q s.1 s.2.1 s.2.2.1 s.2.2.2.1 s.2.2.2.2) (fun s s' e g => B190_30_ok hct hO e (by obtain ⟨_, _, _, _, _⟩ := s'; exact g)) (fun s e => B190_30_ok hct hO e rfl) N (x2, x3, x4, x6, H) e
def J190_15 (xt : mj_X) (ct : Nat → Value) (O : OR) (N : Nat) (x0 : Nat) (x1 : Int32) (x2 : Int32) (s0 : Int32) (H : mj_H) : Option (((Int64) ⊕ Nat) × mj_H) :=
  (C191 xt ct O N s0 H).bind fun r3 =>
  tc (fun z => z) r3 fun v6 =>
  (gK r3.2 x0 5).bind fun k10 =>
  (C181 xt ct O N x0 x1 r3.2).bind fun r13 =>
  tc (fun z => z) r13 fun v16 =>
  L190_30 xt ct O N (x2, v16, 0, 0, r13.2)
theorem J190_15_ok {xt : mj_X} {ct : Nat → Value} {O : OR} {d N : Nat} (hct : ct 0 = .int 1) (hO : oOK xt ct d O) {l : mj_L} {x0 : Nat} {x1 : Int32} {x2 : Int32} {s0 : Int32} {H : mj_H} {q : ((Int64) ⊕ Nat) × mj_H} (f0 : mj_ld l 0 = some (.ref x0)) (f1 : mj_ld l 1 = some (.int x1)) (f2 : mj_ld l 2 = some (.int x2)) (e : J190_15 xt ct O N x0 x1 x2 s0 H = some q) : mj_Run kY xt ct (d + 4) 190 15 l [.int s0] H (tT vL q.1, q.2) := by
  unfold J190_15 at e
  exact (
  t_bd e fun r3 c4 e5 =>
  t_tc e5 (fun v6 p7 e8 =>
    c_calT (f := vU) (p := r3) (st2 := []) (s_cs (as := [.int s0]) (st' := []) c190_15 ⟨Nat.le_of_ble_eq_true rfl, Nat.le_of_ble_eq_true rfl, Nat.le_of_ble_eq_true rfl⟩ rfl rfl) (C191_ok hct hO c4) p7 (Nat.add_lt_add_left (by decide) d) rfl <|
    r_aloadn c190_18 f0 <|
    r_iloadn c190_19 f1 <|
    t_bd e8 fun k10 c11 e12 =>
    t_bd e12 fun r13 c14 e15 =>
    t_tc e15 (fun v16 p17 e18 =>
      c_calT (f := vA) (p := r13) (st2 := [.ref v16]) (s_cv (as := [.ref x0, .int x1]) (st' := []) c190_20 rfl (gK_ok c11) ⟨Nat.le_of_ble_eq_true rfl, Nat.le_of_ble_eq_true rfl, Nat.le_of_ble_eq_true rfl⟩ rfl rfl) (C181_ok hct hO c14) p17 (Nat.add_lt_add_left (by decide) d) rfl <|
      r_astoren c190_23 <|
      r_lconst c190_24 <|
      r_lstore c190_25 <|
      r_iconst c190_27 <|
      r_istore c190_28 <|
      L190_30_ok hct hO e18 _ (ld1_ne (ld2_ne (ld1_ne f2 (by decide) (Or.inr rfl)) (by decide) (Or.inl (by decide))) (by decide) (Or.inl (by decide))) (ld1_ne (ld2_ne ld1_eq (by decide) (Or.inr rfl)) (by decide) (Or.inl (by decide))) (ld1_ne ld2_eq (by decide) (Or.inl (by decide))) ld1_eq
    ) (fun x19 p17 e18 =>
      (by cases e18; exact (c_thrT (f := vA) (p := r13) (s_cv (as := [.ref x0, .int x1]) (st' := []) c190_20 rfl (gK_ok c11) ⟨Nat.le_of_ble_eq_true rfl, Nat.le_of_ble_eq_true rfl, Nat.le_of_ble_eq_true rfl⟩ rfl rfl) (C181_ok hct hO c14) p17 (Nat.add_lt_add_left (by decide) d) nh190))
    )
  ) (fun x9 p7 e8 =>
    (by cases e8; exact (c_thrT (f := vU) (p := r3) (s_cs (as := [.int s0]) (st' := []) c190_15 ⟨Nat.le_of_ble_eq_true rfl, Nat.le_of_ble_eq_true rfl, Nat.le_of_ble_eq_true rfl⟩ rfl rfl) (C191_ok hct hO c4) p7 (Nat.add_lt_add_left (by decide) d) nh190))
  ))
def J190_10 (xt : mj_X) (ct : Nat → Value) (O : OR) (N : Nat) (x0 : Nat) (x1 : Int32) (x2 : Int32) (H : mj_H) : Option (((Int64) ⊕ Nat) × mj_H) :=
  J190_15 xt ct O N x0 x1 x2 1 H
theorem J190_10_ok {xt : mj_X} {ct : Nat → Value} {O : OR} {d N : Nat} (hct : ct 0 = .int 1) (hO : oOK xt ct d O) {l : mj_L} {x0 : Nat} {x1 : Int32} {x2 : Int32} {H : mj_H} {q : ((Int64) ⊕ Nat) × mj_H} (f0 : mj_ld l 0 = some (.ref x0)) (f1 : mj_ld l 1 = some (.int x1)) (f2 : mj_ld l 2 = some (.int x2)) (e : J190_10 xt ct O N x0 x1 x2 H = some q) : mj_Run kY xt ct (d + 4) 190 10 l [] H (tT vL q.1, q.2) := by
  unfold J190_10 at e
  exact (
  r_iconst c190_10 <|
  r_goto c190_11 <|
  J190_15_ok hct hO f0 f1 f2 e)
/-- DiceOdds.moment(II)J -/
def C190 (xt : mj_X) (ct : Nat → Value) (O : OR) (N : Nat) (x0 : Nat) (x1 : Int32) (x2 : Int32) (H : mj_H) : Option (((Int64) ⊕ Nat) × mj_H) :=
  bif mj_c2 .eq x2 1 then
    J190_10 xt ct O N x0 x1 x2 H
  else
  bif mj_c2 .ne x2 2 then
    J190_15 xt ct O N x0 x1 x2 0 H
  else
  J190_10 xt ct O N x0 x1 x2 H
theorem C190_ok {xt : mj_X} {ct : Nat → Value} {O : OR} {d N : Nat} (hct : ct 0 = .int 1) (hO : oOK xt ct d O) {x0 : Nat} {x1 : Int32} {x2 : Int32} {H : mj_H} {q : ((Int64) ⊕ Nat) × mj_H} (e : C190 xt ct O N x0 x1 x2 H = some q) : mj_Run kY xt ct (d + 4) 190 0 (lv_args 0 [.ref x0, .int x1, .int x2]) [] H (tT vL q.1, q.2) := by
  unfold C190 at e
  exact (
  r_iloadn c190_0 rfl <|
  r_iconst c190_1 <|
  t_if e (fun b1 e2 =>
    r_icmpT c190_2 b1 <|
    J190_10_ok hct hO rfl rfl rfl e2
  ) (fun b1 e2 =>
    r_icmpF c190_2 b1 <|
    r_iloadn c190_5 rfl <|
    r_iconst c190_6 <|
    t_if e2 (fun b39 e40 =>
      r_icmpT c190_7 b39 <|
      r_iconst c190_14 <|
      J190_15_ok hct hO rfl rfl rfl e40
    ) (fun b39 e40 =>
      r_icmpF c190_7 b39 <|
      J190_10_ok hct hO rfl rfl rfl e40
    )
  ))
def J194_56 (xt : mj_X) (ct : Nat → Value) (O : OR) (N : Nat) (x4 : Int64) (H : mj_H) : Option ((Int32) × mj_H) :=
  some ((x4 : Int64).toInt32, H)
theorem J194_56_ok {xt : mj_X} {ct : Nat → Value} {O : OR} {d N : Nat} (hct : ct 0 = .int 1) (hO : oOK xt ct d O) {l : mj_L} {x4 : Int64} {H : mj_H} {q : (Int32) × mj_H} (f4 : mj_ld l 4 = some (.long x4)) (e : J194_56 xt ct O N x4 H = some q) : mj_Run kY xt ct (d + 1) 194 56 l [] H (.inl (vI q.1), q.2) := by
  unfold J194_56 at e
  exact (
  r_lload c194_56 f4 <|
  r_l2i c194_58 rfl <|
  (by cases e; exact (r_iret c194_59 rfl)))
def J194_50 (xt : mj_X) (ct : Nat → Value) (O : OR) (N : Nat) (x4 : Int64) (H : mj_H) : Option ((Int32) × mj_H) :=
  J194_56 xt ct O N (x4 + 1) H
theorem J194_50_ok {xt : mj_X} {ct : Nat → Value} {O : OR} {d N : Nat} (hct : ct 0 = .int 1) (hO : oOK xt ct d O) {l : mj_L} {x4 : Int64} {H : mj_H} {q : (Int32) × mj_H} (f4 : mj_ld l 4 = some (.long x4)) (e : J194_50 xt ct O N x4 H = some q) : mj_Run kY xt ct (d + 1) 194 50 l [] H (.inl (vI q.1), q.2) := by
  unfold J194_50 at e
  exact (
  r_lload c194_50 f4 <|
  r_lconst c194_52 <|
  r_ladd c194_53 rfl <|
  r_lstore c194_54 <|
  J194_56_ok hct hO ld2_eq e)
/-- DiceOdds.halfToEven(JJ)I -/
def C194 (xt : mj_X) (ct : Nat → Value) (O : OR) (N : Nat) (x0 : Int64) (x2 : Int64) (H : mj_H) : Option ((Int32) × mj_H) :=
  bif mj_c1 .gt (lg_cmp x2 0) then
    if x2 ≠ 0 then
    bif mj_c1 .gt (lg_cmp (2 * (x0 - ((x0 / x2) * x2))) x2) then
      J194_50 xt ct O N (x0 / x2) H
    else
    bif mj_c1 .ne (lg_cmp (2 * (x0 - ((x0 / x2) * x2))) x2) then
      J194_56 xt ct O N (x0 / x2) H
    else
    bif mj_c1 .ne (lg_cmp ((x0 / x2) - (x0 / x2) / 2 * 2) 1) then
      J194_56 xt ct O N (x0 / x2) H
    else
    J194_50 xt ct O N (x0 / x2) H
    else none
  else
  some (0, H)
theorem C194_ok {xt : mj_X} {ct : Nat → Value} {O : OR} {d N : Nat} (hct : ct 0 = .int 1) (hO : oOK xt ct d O) {x0 : Int64} {x2 : Int64} {H : mj_H} {q : (Int32) × mj_H} (e : C194 xt ct O N x0 x2 H = some q) : mj_Run kY xt ct (d + 1) 194 0 (lv_args 0 [.long x0, .long x2]) [] H (.inl (vI q.1), q.2) := by
  unfold C194 at e
  exact (
  r_lloadn c194_0 rfl <|
  r_lconst c194_1 <|
  r_lcmp c194_2 rfl <|
  t_if e (fun b1 e2 =>
    r_ifT c194_3 b1 <|
    r_lloadn c194_8 rfl <|
    r_lloadn c194_9 rfl <|
    t_ck e2 fun y3 e4 =>
    r_ldiv c194_10 y3 rfl <|
    r_lstore c194_11 <|
    r_ldc2 c194_13 <|
    r_lloadn c194_16 (ld2_ne rfl (by decide) (Or.inl (by decide))) <|
    r_lload c194_17 ld2_eq <|
    r_lloadn c194_19 (ld2_ne rfl (by decide) (Or.inl (by decide))) <|
    r_lmul c194_20 rfl <|
    r_lsub c194_21 rfl <|
    r_lmul c194_22 rfl <|
    r_lstore c194_23 <|
    r_lload c194_25 ld2_eq <|
    r_lloadn c194_27 (ld2_ne (ld2_ne rfl (by decide) (Or.inl (by decide))) (by decide) (Or.inl (by decide))) <|
    r_lcmp c194_28 rfl <|
    t_if e4 (fun b5 e6 =>
      r_ifT c194_29 b5 <|
      J194_50_ok hct hO (ld2_ne ld2_eq (by decide) (Or.inl (by decide))) e6
    ) (fun b5 e6 =>
      r_ifF c194_29 b5 <|
      r_lload c194_32 ld2_eq <|
      r_lloadn c194_34 (ld2_ne (ld2_ne rfl (by decide) (Or.inl (by decide))) (by decide) (Or.inl (by decide))) <|
      r_lcmp c194_35 rfl <|
      t_if e6 (fun b7 e8 =>
        r_ifT c194_36 b7 <|
        J194_56_ok hct hO (ld2_ne ld2_eq (by decide) (Or.inl (by decide))) e8
      ) (fun b7 e8 =>
        r_ifF c194_36 b7 <|
        r_lload c194_39 (ld2_ne ld2_eq (by decide) (Or.inl (by decide))) <|
        r_ldc2 c194_41 <|
        r_lrem c194_44 (by decide) rfl <|
        r_lconst c194_45 <|
        r_lcmp c194_46 rfl <|
        t_if e8 (fun b9 e10 =>
          r_ifT c194_47 b9 <|
          J194_56_ok hct hO (ld2_ne ld2_eq (by decide) (Or.inl (by decide))) e10
        ) (fun b9 e10 =>
          r_ifF c194_47 b9 <|
          J194_50_ok hct hO (ld2_ne ld2_eq (by decide) (Or.inl (by decide))) e10
        )
      )
    )
  ) (fun b1 e2 =>
    r_ifF c194_3 b1 <|
    r_iconst c194_6 <|
    (by cases e2; exact (r_iret c194_7 rfl))
  ))
def J193_38 (xt : mj_X) (ct : Nat → Value) (O : OR) (N : Nat) (s0 : Int32) (H : mj_H) : Option (((Int32) ⊕ Nat) × mj_H) :=
  some (.inl s0, H)
theorem J193_38_ok {xt : mj_X} {ct : Nat → Value} {O : OR} {d N : Nat} (hct : ct 0 = .int 1) (hO : oOK xt ct d O) {l : mj_L} {s0 : Int32} {H : mj_H} {q : ((Int32) ⊕ Nat) × mj_H}  (e : J193_38 xt ct O N s0 H = some q) : mj_Run kY xt ct (d + 5) 193 38 l [.int s0] H (tT vI q.1, q.2) := by
  unfold J193_38 at e
  exact (
  (by cases e; exact (r_iret c193_38 rfl)))
/-- DiceOdds.millionths(II)I -/
def C193 (xt : mj_X) (ct : Nat → Value) (O : OR) (N : Nat) (x0 : Nat) (x1 : Int32) (x2 : Int32) (H : mj_H) : Option (((Int32) ⊕ Nat) × mj_H) :=
  (gK H x0 5).bind fun k1 =>
  (C184 xt ct O N x0 x1 x2 H).bind fun r4 =>
  tc (fun z => z) r4 fun v7 =>
  (gL r4.2 v7 4 5).bind fun r11 =>
  bif mj_c1 .le (lg_cmp r11 1) then
    J193_38 xt ct O N 1000000 r4.2
  else
  (gA r4.2 v7 4 1).bind fun r16 =>
  (aL xt r4.2 r16 x2).bind fun r19 =>
  (gL r4.2 v7 4 5).bind fun r22 =>
  (C194 xt ct O N (r19 * 1000000) r22 r4.2).bind fun r25 =>
  J193_38 xt ct O N r25.1 r25.2
theorem C193_ok {xt : mj_X} {ct : Nat → Value} {O : OR} {d N : Nat} (hct : ct 0 = .int 1) (hO : oOK xt ct d O) {x0 : Nat} {x1 : Int32} {x2 : Int32} {H : mj_H} {q : ((Int32) ⊕ Nat) × mj_H} (e : C193 xt ct O N x0 x1 x2 H = some q) : mj_Run kY xt ct (d + 5) 193 0 (lv_args 0 [.ref x0, .int x1, .int x2]) [] H (tT vI q.1, q.2) := by
  unfold C193 at e
  exact (
  r_aloadn c193_0 rfl <|
  r_iloadn c193_1 rfl <|
  r_iloadn c193_2 rfl <|
  t_bd e fun k1 c2 e3 =>
  t_bd e3 fun r4 c5 e6 =>
  t_tc e6 (fun v7 p8 e9 =>
    c_calT (f := vA) (p := r4) (st2 := [.ref v7]) (s_cv (as := [.ref x0, .int x1, .int x2]) (st' := []) c193_3 rfl (gK_ok c2) ⟨Nat.le_of_ble_eq_true rfl, Nat.le_of_ble_eq_true rfl, Nat.le_of_ble_eq_true rfl⟩ rfl rfl) (C184_ok hct hO c5) p8 (Nat.add_lt_add_left (by decide) d) rfl <|
    r_astoren c193_6 <|
    r_aloadn c193_7 ld1_eq <|
    t_bd e9 fun r11 c12 e13 =>
    c_gL c193_8 c12 <|
    r_lconst c193_11 <|
    r_lcmp c193_12 rfl <|
    t_if e13 (fun b14 e15 =>
      r_ifT c193_13 b14 <|
      r_ldc c193_36 <|
      J193_38_ok hct hO  e15
    ) (fun b14 e15 =>
      r_ifF c193_13 b14 <|
      r_aloadn c193_16 ld1_eq <|
      t_bd e15 fun r16 c17 e18 =>
      c_gA c193_17 c17 <|
      r_iloadn c193_20 (ld1_ne rfl (by decide) (Or.inr rfl)) <|
      t_bd e18 fun r19 c20 e21 =>
      c_aL c193_21 c20 <|
      r_ldc2 c193_22 <|
      r_lmul c193_25 rfl <|
      r_aloadn c193_26 ld1_eq <|
      t_bd e21 fun r22 c23 e24 =>
      c_gL c193_27 c23 <|
      t_bd e24 fun r25 c26 e27 =>
      c_cal (st2 := [.int r25.1]) (s_cs (as := [.long (r19 * 1000000), .long r22]) (st' := []) c193_30 ⟨Nat.le_of_ble_eq_true rfl, Nat.le_of_ble_eq_true rfl, Nat.le_of_ble_eq_true rfl⟩ rfl rfl) (C194_ok hct hO c26) (Nat.add_lt_add_left (by decide) d) rfl <|
      r_goto c193_33 <|
      J193_38_ok hct hO  e27
    )
  ) (fun x10 p8 e9 =>
    (by cases e9; exact (c_thrT (f := vA) (p := r4) (s_cv (as := [.ref x0, .int x1, .int x2]) (st' := []) c193_3 rfl (gK_ok c2) ⟨Nat.le_of_ble_eq_true rfl, Nat.le_of_ble_eq_true rfl, Nat.le_of_ble_eq_true rfl⟩ rfl rfl) (C184_ok hct hO c5) p8 (Nat.add_lt_add_left (by decide) d) nh193))
  ))
def LG196_48 (xt : mj_X) (ct : Nat → Value) (d : Nat) (q : ((Int32) ⊕ Nat) × mj_H) (x2 : Int32) (x3 : Int32) (x4 : Nat) (x5 : Int32) (x6 : Int64) (H : mj_H) : Prop := ∀ l, mj_ld l 2 = some (.int x2) → mj_ld l 3 = some (.int x3) → mj_ld l 4 = some (.ref x4) → mj_ld l 5 = some (.int x5) → mj_ld l 6 = some (.long x6) → mj_Run kY xt ct (d + 4) 196 48 l [] H (tT vI q.1, q.2)
def GG196_48 (xt : mj_X) (ct : Nat → Value) (d : Nat) (q : ((Int32) ⊕ Nat) × mj_H) (o : (Int32 × Int32 × Nat × Int32 × Int64 × mj_H) ⊕ (((Int32) ⊕ Nat) × mj_H)) : Prop := match o with
  | .inl (x2, x3, x4, x5, x6, H) => LG196_48 xt ct d q x2 x3 x4 x5 x6 H
  | .inr r => r = q
def J196_96 (xt : mj_X) (ct : Nat → Value) (O : OR) (N : Nat) (x4 : Nat) (x5 : Int32) (H : mj_H) : Option (((Int32) ⊕ Nat) × mj_H) :=
  (gA H x4 4 0).bind fun r31 =>
  (aI xt H r31 x5).bind fun r34 =>
  some (.inl r34, H)
theorem J196_96_ok {xt : mj_X} {ct : Nat → Value} {O : OR} {d N : Nat} (hct : ct 0 = .int 1) (hO : oOK xt ct d O) {l : mj_L} {x4 : Nat} {x5 : Int32} {H : mj_H} {q : ((Int32) ⊕ Nat) × mj_H} (f4 : mj_ld l 4 = some (.ref x4)) (f5 : mj_ld l 5 = some (.int x5)) (e : J196_96 xt ct O N x4 x5 H = some q) : mj_Run kY xt ct (d + 4) 196 96 l [] H (tT vI q.1, q.2) := by
  unfold J196_96 at e
  exact (
  r_aload c196_96 f4 <|
  t_bd e fun r31 c32 e33 =>
  c_gA c196_98 c32 <|
  r_iload c196_101 f5 <|
  t_bd e33 fun r34 c35 e36 =>
  c_aI c196_103 c35 <|
  (by cases e36; exact (r_iret c196_104 rfl)))
def B196_48 (xt : mj_X) (ct : Nat → Value) (O : OR) (N : Nat) (s : Int32 × Int32 × Nat × Int32 × Int64 × mj_H) : Option ((Int32 × Int32 × Nat × Int32 × Int64 × mj_H) ⊕ (((Int32) ⊕ Nat) × mj_H)) :=
  (gI s.2.2.2.2.2 s.2.2.1 4 4).bind fun r26 =>
  bif mj_c2 .ge s.2.2.2.1 (r26 - 1) then
    (J196_96 xt ct O N s.2.2.1 s.2.2.2.1 s.2.2.2.2.2).map Sum.inr
  else
  (gL s.2.2.2.2.2 s.2.2.1 4 5).bind fun r41 =>
  bif mj_c1 .ge (lg_cmp (s.2.2.2.2.1 * (s.2.1 : Int32).toInt64) ((s.1 : Int32).toInt64 * r41)) then
    (J196_96 xt ct O N s.2.2.1 s.2.2.2.1 s.2.2.2.2.2).map Sum.inr
  else
  (gA s.2.2.2.2.2 s.2.2.1 4 1).bind fun r50 =>
  (aL xt s.2.2.2.2.2 r50 (s.2.2.2.1 + 1)).bind fun r53 =>
  some (.inl (s.1, s.2.1, s.2.2.1, (s.2.2.2.1 + 1), (s.2.2.2.2.1 + r53), s.2.2.2.2.2))
def L196_48 (xt : mj_X) (ct : Nat → Value) (O : OR) (N : Nat) (s : Int32 × Int32 × Nat × Int32 × Int64 × mj_H) : Option (((Int32) ⊕ Nat) × mj_H) := t_lp (B196_48 xt ct O N) N s
theorem B196_48_ok {xt : mj_X} {ct : Nat → Value} {O : OR} {d N : Nat} (hct : ct 0 = .int 1) (hO : oOK xt ct d O) {s : Int32 × Int32 × Nat × Int32 × Int64 × mj_H} {o : (Int32 × Int32 × Nat × Int32 × Int64 × mj_H) ⊕ (((Int32) ⊕ Nat) × mj_H)} {q : ((Int32) ⊕ Nat) × mj_H} (e : B196_48 xt ct O N s = some o) (g : GG196_48 xt ct d q o) : LG196_48 xt ct d q s.1 s.2.1 s.2.2.1 s.2.2.2.1 s.2.2.2.2.1 s.2.2.2.2.2 := by
  unfold B196_48 at e
  exact (fun l f2 f3 f4 f5 f6 =>
  r_iload c196_48 f5 <|
  r_aload c196_50 f4 <|
  t_bd e fun r26 c27 e28 =>
  c_gI c196_52 c27 <|
  r_iconst c196_55 <|
  r_isub c196_56 rfl <|
  t_if e28 (fun b29 e30 =>
    r_icmpT c196_57 b29 <|
    t_up e30 fun o37 e38 u39 =>
    (fun (g40 : o37 = q) =>
    by subst g40; exact (J196_96_ok hct hO f4 f5 e38)
    ) (by have := g; rw [u39] at this; exact this)
  ) (fun b29 e30 =>
    r_icmpF c196_57 b29 <|
    r_lload c196_60 f6 <|
    r_iloadn c196_62 f3 <|
    r_i2l c196_63 rfl <|
    r_lmul c196_64 rfl <|
    r_iloadn c196_65 f2 <|
    r_i2l c196_66 rfl <|
    r_aload c196_67 f4 <|
    t_bd e30 fun r41 c42 e43 =>
    c_gL c196_69 c42 <|
    r_lmul c196_72 rfl <|
    r_lcmp c196_73 rfl <|
    t_if e43 (fun b44 e45 =>
      r_ifT c196_74 b44 <|
      t_up e45 fun o46 e47 u48 =>
      (fun (g49 : o46 = q) =>
      by subst g49; exact (J196_96_ok hct hO f4 f5 e47)
      ) (by have := g; rw [u48] at this; exact this)
    ) (fun b44 e45 =>
      r_ifF c196_74 b44 <|
      r_iinc c196_77 f5 <|
      r_lload c196_80 (ld1_ne f6 (by decide) (Or.inl (by decide))) <|
      r_aload c196_82 (ld1_ne f4 (by decide) (Or.inr rfl)) <|
      t_bd e45 fun r50 c51 e52 =>
      c_gA c196_84 c51 <|
      r_iload c196_87 ld1_eq <|
      t_bd e52 fun r53 c54 e55 =>
      c_aL c196_89 c54 <|
      r_ladd c196_90 rfl <|
      r_lstore c196_91 <|
      r_goto c196_93 <|
      t_rg e55 g (fun (z : LG196_48 xt ct d q s.1 s.2.1 s.2.2.1 (s.2.2.2.1 + 1) (s.2.2.2.2.1 + r53) s.2.2.2.2.2) => z _ (ld2_ne (ld1_ne f2 (by decide) (Or.inl (by decide))) (by decide) (Or.inl (by decide))) (ld2_ne (ld1_ne f3 (by decide) (Or.inl (by decide))) (by decide) (Or.inl (by decide))) (ld2_ne (ld1_ne f4 (by decide) (Or.inr rfl)) (by decide) (Or.inl (by decide))) (ld2_ne ld1_eq (by decide) (Or.inr rfl)) ld2_eq)
    )
  ))
theorem L196_48_ok {xt : mj_X} {ct : Nat → Value} {O : OR} {d N : Nat} (hct : ct 0 = .int 1) (hO : oOK xt ct d O) {x2 : Int32} {x3 : Int32} {x4 : Nat} {x5 : Int32} {x6 : Int64} {H : mj_H} {q : ((Int32) ⊕ Nat) × mj_H} (e : L196_48 xt ct O N (x2, x3, x4, x5, x6, H) = some q) : LG196_48 xt ct d q x2 x3 x4 x5 x6 H :=
  t_lp_ok (G := fun s => LG196_48 xt ct d q s.1 s.2.1 s.2.2.1 s.2.2.2.1 s.2.2.2.2.1 s.2.2.2.2.2) (fun s s' e g => B196_48_ok hct hO e (by obtain ⟨_, _, _, _, _, _⟩ := s'; exact g)) (fun s e => B196_48_ok hct hO e rfl) N (x2, x3, x4, x5, x6, H) e
def J196_26 (xt : mj_X) (ct : Nat → Value) (O : OR) (N : Nat) (x0 : Nat) (x1 : Int32) (x2 : Int32) (x3 : Int32) (s0 : Int32) (H : mj_H) : Option (((Int32) ⊕ Nat) × mj_H) :=
  (C191 xt ct O N s0 H).bind fun r3 =>
  tc (fun z => z) r3 fun v6 =>
  (gK r3.2 x0 5).bind fun k10 =>
  (C181 xt ct O N x0 x1 r3.2).bind fun r13 =>
  tc (fun z => z) r13 fun v16 =>
  (gA r13.2 v16 4 1).bind fun r20 =>
  (aL xt r13.2 r20 0).bind fun r23 =>
  L196_48 xt ct O N (x2, x3, v16, 0, r23, r13.2)
theorem J196_26_ok {xt : mj_X} {ct : Nat → Value} {O : OR} {d N : Nat} (hct : ct 0 = .int 1) (hO : oOK xt ct d O) {l : mj_L} {x0 : Nat} {x1 : Int32} {x2 : Int32} {x3 : Int32} {s0 : Int32} {H : mj_H} {q : ((Int32) ⊕ Nat) × mj_H} (f0 : mj_ld l 0 = some (.ref x0)) (f1 : mj_ld l 1 = some (.int x1)) (f2 : mj_ld l 2 = some (.int x2)) (f3 : mj_ld l 3 = some (.int x3)) (e : J196_26 xt ct O N x0 x1 x2 x3 s0 H = some q) : mj_Run kY xt ct (d + 4) 196 26 l [.int s0] H (tT vI q.1, q.2) := by
  unfold J196_26 at e
  exact (
  t_bd e fun r3 c4 e5 =>
  t_tc e5 (fun v6 p7 e8 =>
    c_calT (f := vU) (p := r3) (st2 := []) (s_cs (as := [.int s0]) (st' := []) c196_26 ⟨Nat.le_of_ble_eq_true rfl, Nat.le_of_ble_eq_true rfl, Nat.le_of_ble_eq_true rfl⟩ rfl rfl) (C191_ok hct hO c4) p7 (Nat.add_lt_add_left (by decide) d) rfl <|
    r_aloadn c196_29 f0 <|
    r_iloadn c196_30 f1 <|
    t_bd e8 fun k10 c11 e12 =>
    t_bd e12 fun r13 c14 e15 =>
    t_tc e15 (fun v16 p17 e18 =>
      c_calT (f := vA) (p := r13) (st2 := [.ref v16]) (s_cv (as := [.ref x0, .int x1]) (st' := []) c196_31 rfl (gK_ok c11) ⟨Nat.le_of_ble_eq_true rfl, Nat.le_of_ble_eq_true rfl, Nat.le_of_ble_eq_true rfl⟩ rfl rfl) (C181_ok hct hO c14) p17 (Nat.add_lt_add_left (by decide) d) rfl <|
      r_astore c196_34 <|
      r_iconst c196_36 <|
      r_istore c196_37 <|
      r_aload c196_39 (ld1_ne ld1_eq (by decide) (Or.inr rfl)) <|
      t_bd e18 fun r20 c21 e22 =>
      c_gA c196_41 c21 <|
      r_iconst c196_44 <|
      t_bd e22 fun r23 c24 e25 =>
      c_aL c196_45 c24 <|
      r_lstore c196_46 <|
      L196_48_ok hct hO e25 _ (ld2_ne (ld1_ne (ld1_ne f2 (by decide) (Or.inl (by decide))) (by decide) (Or.inl (by decide))) (by decide) (Or.inl (by decide))) (ld2_ne (ld1_ne (ld1_ne f3 (by decide) (Or.inr rfl)) (by decide) (Or.inl (by decide))) (by decide) (Or.inl (by decide))) (ld2_ne (ld1_ne ld1_eq (by decide) (Or.inr rfl)) (by decide) (Or.inl (by decide))) (ld2_ne ld1_eq (by decide) (Or.inr rfl)) ld2_eq
    ) (fun x19 p17 e18 =>
      (by cases e18; exact (c_thrT (f := vA) (p := r13) (s_cv (as := [.ref x0, .int x1]) (st' := []) c196_31 rfl (gK_ok c11) ⟨Nat.le_of_ble_eq_true rfl, Nat.le_of_ble_eq_true rfl, Nat.le_of_ble_eq_true rfl⟩ rfl rfl) (C181_ok hct hO c14) p17 (Nat.add_lt_add_left (by decide) d) nh196))
    )
  ) (fun x9 p7 e8 =>
    (by cases e8; exact (c_thrT (f := vU) (p := r3) (s_cs (as := [.int s0]) (st' := []) c196_26 ⟨Nat.le_of_ble_eq_true rfl, Nat.le_of_ble_eq_true rfl, Nat.le_of_ble_eq_true rfl⟩ rfl rfl) (C191_ok hct hO c4) p7 (Nat.add_lt_add_left (by decide) d) nh196))
  ))
def J196_25 (xt : mj_X) (ct : Nat → Value) (O : OR) (N : Nat) (x0 : Nat) (x1 : Int32) (x2 : Int32) (x3 : Int32) (H : mj_H) : Option (((Int32) ⊕ Nat) × mj_H) :=
  J196_26 xt ct O N x0 x1 x2 x3 0 H
theorem J196_25_ok {xt : mj_X} {ct : Nat → Value} {O : OR} {d N : Nat} (hct : ct 0 = .int 1) (hO : oOK xt ct d O) {l : mj_L} {x0 : Nat} {x1 : Int32} {x2 : Int32} {x3 : Int32} {H : mj_H} {q : ((Int32) ⊕ Nat) × mj_H} (f0 : mj_ld l 0 = some (.ref x0)) (f1 : mj_ld l 1 = some (.int x1)) (f2 : mj_ld l 2 = some (.int x2)) (f3 : mj_ld l 3 = some (.int x3)) (e : J196_25 xt ct O N x0 x1 x2 x3 H = some q) : mj_Run kY xt ct (d + 4) 196 25 l [] H (tT vI q.1, q.2) := by
  unfold J196_25 at e
  exact (
  r_iconst c196_25 <|
  J196_26_ok hct hO f0 f1 f2 f3 e)
/-- DiceOdds.percentile(III)I -/
def C196 (xt : mj_X) (ct : Nat → Value) (O : OR) (N : Nat) (x0 : Nat) (x1 : Int32) (x2 : Int32) (x3 : Int32) (H : mj_H) : Option (((Int32) ⊕ Nat) × mj_H) :=
  bif mj_c2 .lt x3 1 then
    J196_25 xt ct O N x0 x1 x2 x3 H
  else
  bif mj_c2 .gt x3 1000 then
    J196_25 xt ct O N x0 x1 x2 x3 H
  else
  bif mj_c1 .lt x2 then
    J196_25 xt ct O N x0 x1 x2 x3 H
  else
  bif mj_c2 .gt x2 x3 then
    J196_25 xt ct O N x0 x1 x2 x3 H
  else
  J196_26 xt ct O N x0 x1 x2 x3 1 H
theorem C196_ok {xt : mj_X} {ct : Nat → Value} {O : OR} {d N : Nat} (hct : ct 0 = .int 1) (hO : oOK xt ct d O) {x0 : Nat} {x1 : Int32} {x2 : Int32} {x3 : Int32} {H : mj_H} {q : ((Int32) ⊕ Nat) × mj_H} (e : C196 xt ct O N x0 x1 x2 x3 H = some q) : mj_Run kY xt ct (d + 4) 196 0 (lv_args 0 [.ref x0, .int x1, .int x2, .int x3]) [] H (tT vI q.1, q.2) := by
  unfold C196 at e
  exact (
  r_iloadn c196_0 rfl <|
  r_iconst c196_1 <|
  t_if e (fun b1 e2 =>
    r_icmpT c196_2 b1 <|
    J196_25_ok hct hO rfl rfl rfl rfl e2
  ) (fun b1 e2 =>
    r_icmpF c196_2 b1 <|
    r_iloadn c196_5 rfl <|
    r_sipush c196_6 <|
    t_if e2 (fun b56 e57 =>
      r_icmpT c196_9 b56 <|
      J196_25_ok hct hO rfl rfl rfl rfl e57
    ) (fun b56 e57 =>
      r_icmpF c196_9 b56 <|
      r_iloadn c196_12 rfl <|
      t_if e57 (fun b58 e59 =>
        r_ifT c196_13 b58 <|
        J196_25_ok hct hO rfl rfl rfl rfl e59
      ) (fun b58 e59 =>
        r_ifF c196_13 b58 <|
        r_iloadn c196_16 rfl <|
        r_iloadn c196_17 rfl <|
        t_if e59 (fun b60 e61 =>
          r_icmpT c196_18 b60 <|
          J196_25_ok hct hO rfl rfl rfl rfl e61
        ) (fun b60 e61 =>
          r_icmpF c196_18 b60 <|
          r_iconst c196_21 <|
          r_goto c196_22 <|
          J196_26_ok hct hO rfl rfl rfl rfl e61
        )
      )
    )
  ))
def J198_23 (xt : mj_X) (ct : Nat → Value) (O : OR) (N : Nat)  (H : mj_H) : Option (((Int32) ⊕ Nat) × mj_H) :=
  some (.inr H.2.1, mj_new H 6 (.inr (15, [])))
theorem J198_23_ok {xt : mj_X} {ct : Nat → Value} {O : OR} {d N : Nat} (hct : ct 0 = .int 1) (hO : oOK xt ct d O) {l : mj_L}  {H : mj_H} {q : ((Int32) ⊕ Nat) × mj_H}  (e : J198_23 xt ct O N  H = some q) : mj_Run kY xt ct (d + 4) 198 23 l [] H (tT vI q.1, q.2) := by
  unfold J198_23 at e
  exact (
  (by cases e; exact (c_thr c198_23 (Nat.le_of_ble_eq_true rfl))))
def LG198_45 (xt : mj_X) (ct : Nat → Value) (d : Nat) (q : ((Int32) ⊕ Nat) × mj_H) (x2 : Int64) (x4 : Nat) (x5 : Int32) (x6 : Int64) (H : mj_H) : Prop := ∀ l, mj_ld l 2 = some (.long x2) → mj_ld l 4 = some (.ref x4) → mj_ld l 5 = some (.int x5) → mj_ld l 6 = some (.long x6) → mj_Run kY xt ct (d + 4) 198 45 l [] H (tT vI q.1, q.2)
def GG198_45 (xt : mj_X) (ct : Nat → Value) (d : Nat) (q : ((Int32) ⊕ Nat) × mj_H) (o : (Int64 × Nat × Int32 × Int64 × mj_H) ⊕ (((Int32) ⊕ Nat) × mj_H)) : Prop := match o with
  | .inl (x2, x4, x5, x6, H) => LG198_45 xt ct d q x2 x4 x5 x6 H
  | .inr r => r = q
def J198_83 (xt : mj_X) (ct : Nat → Value) (O : OR) (N : Nat) (x4 : Nat) (x5 : Int32) (H : mj_H) : Option (((Int32) ⊕ Nat) × mj_H) :=
  (gA H x4 4 0).bind fun r29 =>
  (aI xt H r29 x5).bind fun r32 =>
  some (.inl r32, H)
theorem J198_83_ok {xt : mj_X} {ct : Nat → Value} {O : OR} {d N : Nat} (hct : ct 0 = .int 1) (hO : oOK xt ct d O) {l : mj_L} {x4 : Nat} {x5 : Int32} {H : mj_H} {q : ((Int32) ⊕ Nat) × mj_H} (f4 : mj_ld l 4 = some (.ref x4)) (f5 : mj_ld l 5 = some (.int x5)) (e : J198_83 xt ct O N x4 x5 H = some q) : mj_Run kY xt ct (d + 4) 198 83 l [] H (tT vI q.1, q.2) := by
  unfold J198_83 at e
  exact (
  r_aload c198_83 f4 <|
  t_bd e fun r29 c30 e31 =>
  c_gA c198_85 c30 <|
  r_iload c198_88 f5 <|
  t_bd e31 fun r32 c33 e34 =>
  c_aI c198_90 c33 <|
  (by cases e34; exact (r_iret c198_91 rfl)))
def B198_45 (xt : mj_X) (ct : Nat → Value) (O : OR) (N : Nat) (s : Int64 × Nat × Int32 × Int64 × mj_H) : Option ((Int64 × Nat × Int32 × Int64 × mj_H) ⊕ (((Int32) ⊕ Nat) × mj_H)) :=
  (gI s.2.2.2.2 s.2.1 4 4).bind fun r24 =>
  bif mj_c2 .ge s.2.2.1 (r24 - 1) then
    (J198_83 xt ct O N s.2.1 s.2.2.1 s.2.2.2.2).map Sum.inr
  else
  bif mj_c1 .gt (lg_cmp s.2.2.2.1 s.1) then
    (J198_83 xt ct O N s.2.1 s.2.2.1 s.2.2.2.2).map Sum.inr
  else
  (gA s.2.2.2.2 s.2.1 4 1).bind fun r45 =>
  (aL xt s.2.2.2.2 r45 (s.2.2.1 + 1)).bind fun r48 =>
  some (.inl (s.1, s.2.1, (s.2.2.1 + 1), (s.2.2.2.1 + r48), s.2.2.2.2))
def L198_45 (xt : mj_X) (ct : Nat → Value) (O : OR) (N : Nat) (s : Int64 × Nat × Int32 × Int64 × mj_H) : Option (((Int32) ⊕ Nat) × mj_H) := t_lp (B198_45 xt ct O N) N s
theorem B198_45_ok {xt : mj_X} {ct : Nat → Value} {O : OR} {d N : Nat} (hct : ct 0 = .int 1) (hO : oOK xt ct d O) {s : Int64 × Nat × Int32 × Int64 × mj_H} {o : (Int64 × Nat × Int32 × Int64 × mj_H) ⊕ (((Int32) ⊕ Nat) × mj_H)} {q : ((Int32) ⊕ Nat) × mj_H} (e : B198_45 xt ct O N s = some o) (g : GG198_45 xt ct d q o) : LG198_45 xt ct d q s.1 s.2.1 s.2.2.1 s.2.2.2.1 s.2.2.2.2 := by
  unfold B198_45 at e
  exact (fun l f2 f4 f5 f6 =>
  r_iload c198_45 f5 <|
  r_aload c198_47 f4 <|
  t_bd e fun r24 c25 e26 =>
  c_gI c198_49 c25 <|
  r_iconst c198_52 <|
  r_isub c198_53 rfl <|
  t_if e26 (fun b27 e28 =>
    r_icmpT c198_54 b27 <|
    t_up e28 fun o35 e36 u37 =>
    (fun (g38 : o35 = q) =>
    by subst g38; exact (J198_83_ok hct hO f4 f5 e36)
    ) (by have := g; rw [u37] at this; exact this)
  ) (fun b27 e28 =>
    r_icmpF c198_54 b27 <|
    r_lload c198_57 f6 <|
    r_lloadn c198_59 f2 <|
    r_lcmp c198_60 rfl <|
    t_if e28 (fun b39 e40 =>
      r_ifT c198_61 b39 <|
      t_up e40 fun o41 e42 u43 =>
      (fun (g44 : o41 = q) =>
      by subst g44; exact (J198_83_ok hct hO f4 f5 e42)
      ) (by have := g; rw [u43] at this; exact this)
    ) (fun b39 e40 =>
      r_ifF c198_61 b39 <|
      r_iinc c198_64 f5 <|
      r_lload c198_67 (ld1_ne f6 (by decide) (Or.inl (by decide))) <|
      r_aload c198_69 (ld1_ne f4 (by decide) (Or.inr rfl)) <|
      t_bd e40 fun r45 c46 e47 =>
      c_gA c198_71 c46 <|
      r_iload c198_74 ld1_eq <|
      t_bd e47 fun r48 c49 e50 =>
      c_aL c198_76 c49 <|
      r_ladd c198_77 rfl <|
      r_lstore c198_78 <|
      r_goto c198_80 <|
      t_rg e50 g (fun (z : LG198_45 xt ct d q s.1 s.2.1 (s.2.2.1 + 1) (s.2.2.2.1 + r48) s.2.2.2.2) => z _ (ld2_ne (ld1_ne f2 (by decide) (Or.inl (by decide))) (by decide) (Or.inl (by decide))) (ld2_ne (ld1_ne f4 (by decide) (Or.inr rfl)) (by decide) (Or.inl (by decide))) (ld2_ne ld1_eq (by decide) (Or.inr rfl)) ld2_eq)
    )
  ))
theorem L198_45_ok {xt : mj_X} {ct : Nat → Value} {O : OR} {d N : Nat} (hct : ct 0 = .int 1) (hO : oOK xt ct d O) {x2 : Int64} {x4 : Nat} {x5 : Int32} {x6 : Int64} {H : mj_H} {q : ((Int32) ⊕ Nat) × mj_H} (e : L198_45 xt ct O N (x2, x4, x5, x6, H) = some q) : LG198_45 xt ct d q x2 x4 x5 x6 H :=
  t_lp_ok (G := fun s => LG198_45 xt ct d q s.1 s.2.1 s.2.2.1 s.2.2.2.1 s.2.2.2.2) (fun s s' e g => B198_45_ok hct hO e (by obtain ⟨_, _, _, _, _⟩ := s'; exact g)) (fun s e => B198_45_ok hct hO e rfl) N (x2, x4, x5, x6, H) e
/-- DiceOdds.sample(IJ)I -/
def C198 (xt : mj_X) (ct : Nat → Value) (O : OR) (N : Nat) (x0 : Nat) (x1 : Int32) (x2 : Int64) (H : mj_H) : Option (((Int32) ⊕ Nat) × mj_H) :=
  (gK H x0 5).bind fun k1 =>
  (C181 xt ct O N x0 x1 H).bind fun r4 =>
  tc (fun z => z) r4 fun v7 =>
  bif mj_c1 .lt (lg_cmp x2 0) then
    J198_23 xt ct O N r4.2
  else
  (gL r4.2 v7 4 5).bind fun r13 =>
  bif mj_c1 .lt (lg_cmp x2 r13) then
    (gA r4.2 v7 4 1).bind fun r18 =>
    (aL xt r4.2 r18 0).bind fun r21 =>
    L198_45 xt ct O N (x2, v7, 0, r21, r4.2)
  else
  J198_23 xt ct O N r4.2
theorem C198_ok {xt : mj_X} {ct : Nat → Value} {O : OR} {d N : Nat} (hct : ct 0 = .int 1) (hO : oOK xt ct d O) {x0 : Nat} {x1 : Int32} {x2 : Int64} {H : mj_H} {q : ((Int32) ⊕ Nat) × mj_H} (e : C198 xt ct O N x0 x1 x2 H = some q) : mj_Run kY xt ct (d + 4) 198 0 (lv_args 0 [.ref x0, .int x1, .long x2]) [] H (tT vI q.1, q.2) := by
  unfold C198 at e
  exact (
  r_aloadn c198_0 rfl <|
  r_iloadn c198_1 rfl <|
  t_bd e fun k1 c2 e3 =>
  t_bd e3 fun r4 c5 e6 =>
  t_tc e6 (fun v7 p8 e9 =>
    c_calT (f := vA) (p := r4) (st2 := [.ref v7]) (s_cv (as := [.ref x0, .int x1]) (st' := []) c198_2 rfl (gK_ok c2) ⟨Nat.le_of_ble_eq_true rfl, Nat.le_of_ble_eq_true rfl, Nat.le_of_ble_eq_true rfl⟩ rfl rfl) (C181_ok hct hO c5) p8 (Nat.add_lt_add_left (by decide) d) rfl <|
    r_astore c198_5 <|
    r_lloadn c198_7 (ld1_ne rfl (by decide) (Or.inl (by decide))) <|
    r_lconst c198_8 <|
    r_lcmp c198_9 rfl <|
    t_if e9 (fun b11 e12 =>
      r_ifT c198_10 b11 <|
      J198_23_ok hct hO  e12
    ) (fun b11 e12 =>
      r_ifF c198_10 b11 <|
      r_lloadn c198_13 (ld1_ne rfl (by decide) (Or.inl (by decide))) <|
      r_aload c198_14 ld1_eq <|
      t_bd e12 fun r13 c14 e15 =>
      c_gL c198_16 c14 <|
      r_lcmp c198_19 rfl <|
      t_if e15 (fun b16 e17 =>
        r_ifT c198_20 b16 <|
        r_iconst c198_33 <|
        r_istore c198_34 <|
        r_aload c198_36 (ld1_ne ld1_eq (by decide) (Or.inr rfl)) <|
        t_bd e17 fun r18 c19 e20 =>
        c_gA c198_38 c19 <|
        r_iconst c198_41 <|
        t_bd e20 fun r21 c22 e23 =>
        c_aL c198_42 c22 <|
        r_lstore c198_43 <|
        L198_45_ok hct hO e23 _ (ld2_ne (ld1_ne (ld1_ne rfl (by decide) (Or.inl (by decide))) (by decide) (Or.inl (by decide))) (by decide) (Or.inl (by decide))) (ld2_ne (ld1_ne ld1_eq (by decide) (Or.inr rfl)) (by decide) (Or.inl (by decide))) (ld2_ne ld1_eq (by decide) (Or.inr rfl)) ld2_eq
      ) (fun b16 e17 =>
        r_ifF c198_20 b16 <|
        J198_23_ok hct hO  e17
      )
    )
  ) (fun x10 p8 e9 =>
    (by cases e9; exact (c_thrT (f := vA) (p := r4) (s_cv (as := [.ref x0, .int x1]) (st' := []) c198_2 rfl (gK_ok c2) ⟨Nat.le_of_ble_eq_true rfl, Nat.le_of_ble_eq_true rfl, Nat.le_of_ble_eq_true rfl⟩ rfl rfl) (C181_ok hct hO c5) p8 (Nat.add_lt_add_left (by decide) d) nh198))
  ))
/-- java.lang.Integer.signum(I)I -/
def C201 (xt : mj_X) (ct : Nat → Value) (O : OR) (N : Nat) (x0 : Int32) (H : mj_H) : Option ((Int32) × mj_H) :=
  some (((x0 >>> (31 &&& 31)) ||| (((-x0) : Int32).toUInt32 >>> ((31 : Int32).toUInt32 &&& Int32.toUInt32 31)).toInt32), H)
theorem C201_ok {xt : mj_X} {ct : Nat → Value} {O : OR} {d N : Nat} (hct : ct 0 = .int 1) (hO : oOK xt ct d O) {x0 : Int32} {H : mj_H} {q : (Int32) × mj_H} (e : C201 xt ct O N x0 H = some q) : mj_Run kY xt ct (d + 1) 201 0 (lv_args 0 [.int x0]) [] H (.inl (vI q.1), q.2) := by
  unfold C201 at e
  exact (
  r_iloadn c201_0 rfl <|
  r_bipush c201_1 <|
  r_ishr c201_3 rfl <|
  r_iloadn c201_4 rfl <|
  r_ineg c201_5 rfl <|
  r_bipush c201_6 <|
  r_iushr c201_8 rfl <|
  r_ior c201_9 rfl <|
  (by cases e; exact (r_iret c201_10 rfl)))
def LG200_52 (xt : mj_X) (ct : Nat → Value) (d : Nat) (q : ((Int64) ⊕ Nat) × mj_H) (x3 : Int32) (x4 : Nat) (x5 : Nat) (x6 : Int64) (x8 : Int32) (H : mj_H) : Prop := ∀ l, mj_ld l 3 = some (.int x3) → mj_ld l 4 = some (.ref x4) → mj_ld l 5 = some (.ref x5) → mj_ld l 6 = some (.long x6) → mj_ld l 8 = some (.int x8) → mj_Run kY xt ct (d + 4) 200 52 l [] H (tT vL q.1, q.2)
def GG200_52 (xt : mj_X) (ct : Nat → Value) (d : Nat) (q : ((Int64) ⊕ Nat) × mj_H) (o : (Int32 × Nat × Nat × Int64 × Int32 × mj_H) ⊕ (((Int64) ⊕ Nat) × mj_H)) : Prop := match o with
  | .inl (x3, x4, x5, x6, x8, H) => LG200_52 xt ct d q x3 x4 x5 x6 x8 H
  | .inr r => r = q
def LG200_65 (xt : mj_X) (ct : Nat → Value) (d : Nat) (q : ((Int64) ⊕ Nat) × mj_H) (x3 : Int32) (x4 : Nat) (x5 : Nat) (x6 : Int64) (x8 : Int32) (x9 : Int32) (H : mj_H) : Prop := ∀ l, mj_ld l 3 = some (.int x3) → mj_ld l 4 = some (.ref x4) → mj_ld l 5 = some (.ref x5) → mj_ld l 6 = some (.long x6) → mj_ld l 8 = some (.int x8) → mj_ld l 9 = some (.int x9) → mj_Run kY xt ct (d + 4) 200 65 l [] H (tT vL q.1, q.2)
def GG200_65 (xt : mj_X) (ct : Nat → Value) (d : Nat) (q : ((Int64) ⊕ Nat) × mj_H) (o : (Int32 × Nat × Nat × Int64 × Int32 × Int32 × mj_H) ⊕ ((Int32 × Nat × Nat × Int64 × Int32 × mj_H) ⊕ (((Int64) ⊕ Nat) × mj_H))) : Prop := match o with
  | .inl (x3, x4, x5, x6, x8, x9, H) => LG200_65 xt ct d q x3 x4 x5 x6 x8 x9 H
  | .inr r => GG200_52 xt ct d q r
def J200_121 (xt : mj_X) (ct : Nat → Value) (O : OR) (N : Nat) (x3 : Int32) (x4 : Nat) (x5 : Nat) (x6 : Int64) (x8 : Int32) (x9 : Int32) (H : mj_H) : Option ((Int32 × Nat × Nat × Int64 × Int32 × Int32 × mj_H) ⊕ ((Int32 × Nat × Nat × Int64 × Int32 × mj_H) ⊕ (((Int64) ⊕ Nat) × mj_H))) :=
  some (.inl (x3, x4, x5, x6, x8, (x9 + 1), H))
theorem J200_121_ok {xt : mj_X} {ct : Nat → Value} {O : OR} {d N : Nat} (hct : ct 0 = .int 1) (hO : oOK xt ct d O) {l : mj_L} {x3 : Int32} {x4 : Nat} {x5 : Nat} {x6 : Int64} {x8 : Int32} {x9 : Int32} {H : mj_H} {o : (Int32 × Nat × Nat × Int64 × Int32 × Int32 × mj_H) ⊕ ((Int32 × Nat × Nat × Int64 × Int32 × mj_H) ⊕ (((Int64) ⊕ Nat) × mj_H))} {q : ((Int64) ⊕ Nat) × mj_H} (f3 : mj_ld l 3 = some (.int x3)) (f4 : mj_ld l 4 = some (.ref x4)) (f5 : mj_ld l 5 = some (.ref x5)) (f6 : mj_ld l 6 = some (.long x6)) (f8 : mj_ld l 8 = some (.int x8)) (f9 : mj_ld l 9 = some (.int x9)) (e : J200_121 xt ct O N x3 x4 x5 x6 x8 x9 H = some o) (g : GG200_65 xt ct d q o) : mj_Run kY xt ct (d + 4) 200 121 l [] H (tT vL q.1, q.2) := by
  unfold J200_121 at e
  exact (
  r_iinc c200_121 f9 <|
  r_goto c200_124 <|
  t_rg e g (fun (z : LG200_65 xt ct d q x3 x4 x5 x6 x8 (x9 + 1) H) => z _ (ld1_ne f3 (by decide) (Or.inl (by decide))) (ld1_ne f4 (by decide) (Or.inl (by decide))) (ld1_ne f5 (by decide) (Or.inl (by decide))) (ld1_ne f6 (by decide) (Or.inl (by decide))) (ld1_ne f8 (by decide) (Or.inr rfl)) ld1_eq))
def B200_65 (xt : mj_X) (ct : Nat → Value) (O : OR) (N : Nat) (s : Int32 × Nat × Nat × Int64 × Int32 × Int32 × mj_H) : Option ((Int32 × Nat × Nat × Int64 × Int32 × Int32 × mj_H) ⊕ ((Int32 × Nat × Nat × Int64 × Int32 × mj_H) ⊕ (((Int64) ⊕ Nat) × mj_H))) :=
  (gI s.2.2.2.2.2.2 s.2.2.1 4 4).bind fun r35 =>
  bif mj_c2 .ge s.2.2.2.2.2.1 r35 then
    some (.inr (.inl (s.1, s.2.1, s.2.2.1, s.2.2.2.1, (s.2.2.2.2.1 + 1), s.2.2.2.2.2.2)))
  else
  (gA s.2.2.2.2.2.2 s.2.1 4 0).bind fun r40 =>
  (aI xt s.2.2.2.2.2.2 r40 s.2.2.2.2.1).bind fun r43 =>
  (gA s.2.2.2.2.2.2 s.2.2.1 4 0).bind fun r46 =>
  (aI xt s.2.2.2.2.2.2 r46 s.2.2.2.2.2.1).bind fun r49 =>
  (C201 xt ct O N (r43 - r49) s.2.2.2.2.2.2).bind fun r52 =>
  bif mj_c2 .ne r52.1 s.1 then
    J200_121 xt ct O N s.1 s.2.1 s.2.2.1 s.2.2.2.1 s.2.2.2.2.1 s.2.2.2.2.2.1 r52.2
  else
  (gA r52.2 s.2.1 4 1).bind fun r57 =>
  (aL xt r52.2 r57 s.2.2.2.2.1).bind fun r60 =>
  (gA r52.2 s.2.2.1 4 1).bind fun r63 =>
  (aL xt r52.2 r63 s.2.2.2.2.2.1).bind fun r66 =>
  J200_121 xt ct O N s.1 s.2.1 s.2.2.1 (s.2.2.2.1 + (r60 * r66)) s.2.2.2.2.1 s.2.2.2.2.2.1 r52.2
def L200_65 (xt : mj_X) (ct : Nat → Value) (O : OR) (N : Nat) (s : Int32 × Nat × Nat × Int64 × Int32 × Int32 × mj_H) : Option ((Int32 × Nat × Nat × Int64 × Int32 × mj_H) ⊕ (((Int64) ⊕ Nat) × mj_H)) := t_lp (B200_65 xt ct O N) N s
theorem B200_65_ok {xt : mj_X} {ct : Nat → Value} {O : OR} {d N : Nat} (hct : ct 0 = .int 1) (hO : oOK xt ct d O) {s : Int32 × Nat × Nat × Int64 × Int32 × Int32 × mj_H} {o : (Int32 × Nat × Nat × Int64 × Int32 × Int32 × mj_H) ⊕ ((Int32 × Nat × Nat × Int64 × Int32 × mj_H) ⊕ (((Int64) ⊕ Nat) × mj_H))} {q : ((Int64) ⊕ Nat) × mj_H} (e : B200_65 xt ct O N s = some o) (g : GG200_65 xt ct d q o) : LG200_65 xt ct d q s.1 s.2.1 s.2.2.1 s.2.2.2.1 s.2.2.2.2.1 s.2.2.2.2.2.1 s.2.2.2.2.2.2 := by
  unfold B200_65 at e
  exact (fun l f3 f4 f5 f6 f8 f9 =>
  r_iload c200_65 f9 <|
  r_aload c200_67 f5 <|
  t_bd e fun r35 c36 e37 =>
  c_gI c200_69 c36 <|
  t_if e37 (fun b38 e39 =>
    r_icmpT c200_72 b38 <|
    r_iinc c200_127 f8 <|
    r_goto c200_130 <|
    t_rg e39 g (fun (z : LG200_52 xt ct d q s.1 s.2.1 s.2.2.1 s.2.2.2.1 (s.2.2.2.2.1 + 1) s.2.2.2.2.2.2) => z _ (ld1_ne f3 (by decide) (Or.inl (by decide))) (ld1_ne f4 (by decide) (Or.inl (by decide))) (ld1_ne f5 (by decide) (Or.inl (by decide))) (ld1_ne f6 (by decide) (Or.inl (by decide))) ld1_eq)
  ) (fun b38 e39 =>
    r_icmpF c200_72 b38 <|
    r_aload c200_75 f4 <|
    t_bd e39 fun r40 c41 e42 =>
    c_gA c200_77 c41 <|
    r_iload c200_80 f8 <|
    t_bd e42 fun r43 c44 e45 =>
    c_aI c200_82 c44 <|
    r_aload c200_83 f5 <|
    t_bd e45 fun r46 c47 e48 =>
    c_gA c200_85 c47 <|
    r_iload c200_88 f9 <|
    t_bd e48 fun r49 c50 e51 =>
    c_aI c200_90 c50 <|
    r_isub c200_91 rfl <|
    t_bd e51 fun r52 c53 e54 =>
    c_cal (st2 := [.int r52.1]) (s_cs (as := [.int (r43 - r49)]) (st' := []) c200_92 ⟨Nat.le_of_ble_eq_true rfl, Nat.le_of_ble_eq_true rfl, Nat.le_of_ble_eq_true rfl⟩ rfl rfl) (C201_ok hct hO c53) (Nat.add_lt_add_left (by decide) d) rfl <|
    r_iloadn c200_95 f3 <|
    t_if e54 (fun b55 e56 =>
      r_icmpT c200_96 b55 <|
      J200_121_ok hct hO f3 f4 f5 f6 f8 f9 e56 g
    ) (fun b55 e56 =>
      r_icmpF c200_96 b55 <|
      r_lload c200_99 f6 <|
      r_aload c200_101 f4 <|
      t_bd e56 fun r57 c58 e59 =>
      c_gA c200_103 c58 <|
      r_iload c200_106 f8 <|
      t_bd e59 fun r60 c61 e62 =>
      c_aL c200_108 c61 <|
      r_aload c200_109 f5 <|
      t_bd e62 fun r63 c64 e65 =>
      c_gA c200_111 c64 <|
      r_iload c200_114 f9 <|
      t_bd e65 fun r66 c67 e68 =>
      c_aL c200_116 c67 <|
      r_lmul c200_117 rfl <|
      r_ladd c200_118 rfl <|
      r_lstore c200_119 <|
      J200_121_ok hct hO (ld2_ne f3 (by decide) (Or.inl (by decide))) (ld2_ne f4 (by decide) (Or.inl (by decide))) (ld2_ne f5 (by decide) (Or.inr rfl)) ld2_eq (ld2_ne f8 (by decide) (Or.inl (by decide))) (ld2_ne f9 (by decide) (Or.inl (by decide))) e68 g
    )
  ))
theorem L200_65_ok {xt : mj_X} {ct : Nat → Value} {O : OR} {d N : Nat} (hct : ct 0 = .int 1) (hO : oOK xt ct d O) {x3 : Int32} {x4 : Nat} {x5 : Nat} {x6 : Int64} {x8 : Int32} {x9 : Int32} {H : mj_H} {o : (Int32 × Nat × Nat × Int64 × Int32 × mj_H) ⊕ (((Int64) ⊕ Nat) × mj_H)} {q : ((Int64) ⊕ Nat) × mj_H} (e : L200_65 xt ct O N (x3, x4, x5, x6, x8, x9, H) = some o) (g : GG200_52 xt ct d q o) : LG200_65 xt ct d q x3 x4 x5 x6 x8 x9 H :=
  t_lp_ok (G := fun s => LG200_65 xt ct d q s.1 s.2.1 s.2.2.1 s.2.2.2.1 s.2.2.2.2.1 s.2.2.2.2.2.1 s.2.2.2.2.2.2) (fun s s' e g => B200_65_ok hct hO e (by obtain ⟨_, _, _, _, _, _, _⟩ := s'; exact g)) (fun s e => B200_65_ok hct hO e g) N (x3, x4, x5, x6, x8, x9, H) e
def B200_52 (xt : mj_X) (ct : Nat → Value) (O : OR) (N : Nat) (s : Int32 × Nat × Nat × Int64 × Int32 × mj_H) : Option ((Int32 × Nat × Nat × Int64 × Int32 × mj_H) ⊕ (((Int64) ⊕ Nat) × mj_H)) :=
  (gI s.2.2.2.2.2 s.2.1 4 4).bind fun r30 =>
  bif mj_c2 .ge s.2.2.2.2.1 r30 then
    some (.inr (.inl s.2.2.2.1, s.2.2.2.2.2))
  else
  L200_65 xt ct O N (s.1, s.2.1, s.2.2.1, s.2.2.2.1, s.2.2.2.2.1, 0, s.2.2.2.2.2)
def L200_52 (xt : mj_X) (ct : Nat → Value) (O : OR) (N : Nat) (s : Int32 × Nat × Nat × Int64 × Int32 × mj_H) : Option (((Int64) ⊕ Nat) × mj_H) := t_lp (B200_52 xt ct O N) N s
theorem B200_52_ok {xt : mj_X} {ct : Nat → Value} {O : OR} {d N : Nat} (hct : ct 0 = .int 1) (hO : oOK xt ct d O) {s : Int32 × Nat × Nat × Int64 × Int32 × mj_H} {o : (Int32 × Nat × Nat × Int64 × Int32 × mj_H) ⊕ (((Int64) ⊕ Nat) × mj_H)} {q : ((Int64) ⊕ Nat) × mj_H} (e : B200_52 xt ct O N s = some o) (g : GG200_52 xt ct d q o) : LG200_52 xt ct d q s.1 s.2.1 s.2.2.1 s.2.2.2.1 s.2.2.2.2.1 s.2.2.2.2.2 := by
  unfold B200_52 at e
  exact (fun l f3 f4 f5 f6 f8 =>
  r_iload c200_52 f8 <|
  r_aload c200_54 f4 <|
  t_bd e fun r30 c31 e32 =>
  c_gI c200_56 c31 <|
  t_if e32 (fun b33 e34 =>
    r_icmpT c200_59 b33 <|
    r_lload c200_133 f6 <|
    t_rg e34 g (fun (z : (.inl s.2.2.2.1, s.2.2.2.2.2) = q) => (by cases z; exact (r_lret c200_135)))
  ) (fun b33 e34 =>
    r_icmpF c200_59 b33 <|
    r_iconst c200_62 <|
    r_istore c200_63 <|
    L200_65_ok hct hO e34 g _ (ld1_ne f3 (by decide) (Or.inl (by decide))) (ld1_ne f4 (by decide) (Or.inl (by decide))) (ld1_ne f5 (by decide) (Or.inl (by decide))) (ld1_ne f6 (by decide) (Or.inl (by decide))) (ld1_ne f8 (by decide) (Or.inr rfl)) ld1_eq
  ))
theorem L200_52_ok {xt : mj_X} {ct : Nat → Value} {O : OR} {d N : Nat} (hct : ct 0 = .int 1) (hO : oOK xt ct d O) {x3 : Int32} {x4 : Nat} {x5 : Nat} {x6 : Int64} {x8 : Int32} {H : mj_H} {q : ((Int64) ⊕ Nat) × mj_H} (e : L200_52 xt ct O N (x3, x4, x5, x6, x8, H) = some q) : LG200_52 xt ct d q x3 x4 x5 x6 x8 H :=
  t_lp_ok (G := fun s => LG200_52 xt ct d q s.1 s.2.1 s.2.2.1 s.2.2.2.1 s.2.2.2.2.1 s.2.2.2.2.2) (fun s s' e g => B200_52_ok hct hO e (by obtain ⟨_, _, _, _, _, _⟩ := s'; exact g)) (fun s e => B200_52_ok hct hO e rfl) N (x3, x4, x5, x6, x8, H) e
def J200_29 (xt : mj_X) (ct : Nat → Value) (O : OR) (N : Nat) (x0 : Nat) (x1 : Int32) (x2 : Int32) (x3 : Int32) (s0 : Int32) (H : mj_H) : Option (((Int64) ⊕ Nat) × mj_H) :=
  (C191 xt ct O N s0 H).bind fun r3 =>
  tc (fun z => z) r3 fun v6 =>
  (gK r3.2 x0 5).bind fun k10 =>
  (C181 xt ct O N x0 x1 r3.2).bind fun r13 =>
  tc (fun z => z) r13 fun v16 =>
  (gK r13.2 x0 5).bind fun k20 =>
  (C181 xt ct O N x0 x2 r13.2).bind fun r23 =>
  tc (fun z => z) r23 fun v26 =>
  L200_52 xt ct O N (x3, v16, v26, 0, 0, r23.2)
theorem J200_29_ok {xt : mj_X} {ct : Nat → Value} {O : OR} {d N : Nat} (hct : ct 0 = .int 1) (hO : oOK xt ct d O) {l : mj_L} {x0 : Nat} {x1 : Int32} {x2 : Int32} {x3 : Int32} {s0 : Int32} {H : mj_H} {q : ((Int64) ⊕ Nat) × mj_H} (f0 : mj_ld l 0 = some (.ref x0)) (f1 : mj_ld l 1 = some (.int x1)) (f2 : mj_ld l 2 = some (.int x2)) (f3 : mj_ld l 3 = some (.int x3)) (e : J200_29 xt ct O N x0 x1 x2 x3 s0 H = some q) : mj_Run kY xt ct (d + 4) 200 29 l [.int s0] H (tT vL q.1, q.2) := by
  unfold J200_29 at e
  exact (
  t_bd e fun r3 c4 e5 =>
  t_tc e5 (fun v6 p7 e8 =>
    c_calT (f := vU) (p := r3) (st2 := []) (s_cs (as := [.int s0]) (st' := []) c200_29 ⟨Nat.le_of_ble_eq_true rfl, Nat.le_of_ble_eq_true rfl, Nat.le_of_ble_eq_true rfl⟩ rfl rfl) (C191_ok hct hO c4) p7 (Nat.add_lt_add_left (by decide) d) rfl <|
    r_aloadn c200_32 f0 <|
    r_iloadn c200_33 f1 <|
    t_bd e8 fun k10 c11 e12 =>
    t_bd e12 fun r13 c14 e15 =>
    t_tc e15 (fun v16 p17 e18 =>
      c_calT (f := vA) (p := r13) (st2 := [.ref v16]) (s_cv (as := [.ref x0, .int x1]) (st' := []) c200_34 rfl (gK_ok c11) ⟨Nat.le_of_ble_eq_true rfl, Nat.le_of_ble_eq_true rfl, Nat.le_of_ble_eq_true rfl⟩ rfl rfl) (C181_ok hct hO c14) p17 (Nat.add_lt_add_left (by decide) d) rfl <|
      r_astore c200_37 <|
      r_aloadn c200_39 (ld1_ne f0 (by decide) (Or.inl (by decide))) <|
      r_iloadn c200_40 (ld1_ne f2 (by decide) (Or.inl (by decide))) <|
      t_bd e18 fun k20 c21 e22 =>
      t_bd e22 fun r23 c24 e25 =>
      t_tc e25 (fun v26 p27 e28 =>
        c_calT (f := vA) (p := r23) (st2 := [.ref v26]) (s_cv (as := [.ref x0, .int x2]) (st' := []) c200_41 rfl (gK_ok c21) ⟨Nat.le_of_ble_eq_true rfl, Nat.le_of_ble_eq_true rfl, Nat.le_of_ble_eq_true rfl⟩ rfl rfl) (C181_ok hct hO c24) p27 (Nat.add_lt_add_left (by decide) d) rfl <|
        r_astore c200_44 <|
        r_lconst c200_46 <|
        r_lstore c200_47 <|
        r_iconst c200_49 <|
        r_istore c200_50 <|
        L200_52_ok hct hO e28 _ (ld1_ne (ld2_ne (ld1_ne (ld1_ne f3 (by decide) (Or.inr rfl)) (by decide) (Or.inl (by decide))) (by decide) (Or.inl (by decide))) (by decide) (Or.inl (by decide))) (ld1_ne (ld2_ne (ld1_ne ld1_eq (by decide) (Or.inr rfl)) (by decide) (Or.inl (by decide))) (by decide) (Or.inl (by decide))) (ld1_ne (ld2_ne ld1_eq (by decide) (Or.inr rfl)) (by decide) (Or.inl (by decide))) (ld1_ne ld2_eq (by decide) (Or.inl (by decide))) ld1_eq
      ) (fun x29 p27 e28 =>
        (by cases e28; exact (c_thrT (f := vA) (p := r23) (s_cv (as := [.ref x0, .int x2]) (st' := []) c200_41 rfl (gK_ok c21) ⟨Nat.le_of_ble_eq_true rfl, Nat.le_of_ble_eq_true rfl, Nat.le_of_ble_eq_true rfl⟩ rfl rfl) (C181_ok hct hO c24) p27 (Nat.add_lt_add_left (by decide) d) nh200))
      )
    ) (fun x19 p17 e18 =>
      (by cases e18; exact (c_thrT (f := vA) (p := r13) (s_cv (as := [.ref x0, .int x1]) (st' := []) c200_34 rfl (gK_ok c11) ⟨Nat.le_of_ble_eq_true rfl, Nat.le_of_ble_eq_true rfl, Nat.le_of_ble_eq_true rfl⟩ rfl rfl) (C181_ok hct hO c14) p17 (Nat.add_lt_add_left (by decide) d) nh200))
    )
  ) (fun x9 p7 e8 =>
    (by cases e8; exact (c_thrT (f := vU) (p := r3) (s_cs (as := [.int s0]) (st' := []) c200_29 ⟨Nat.le_of_ble_eq_true rfl, Nat.le_of_ble_eq_true rfl, Nat.le_of_ble_eq_true rfl⟩ rfl rfl) (C191_ok hct hO c4) p7 (Nat.add_lt_add_left (by decide) d) nh200))
  ))
def J200_28 (xt : mj_X) (ct : Nat → Value) (O : OR) (N : Nat) (x0 : Nat) (x1 : Int32) (x2 : Int32) (x3 : Int32) (H : mj_H) : Option (((Int64) ⊕ Nat) × mj_H) :=
  J200_29 xt ct O N x0 x1 x2 x3 0 H
theorem J200_28_ok {xt : mj_X} {ct : Nat → Value} {O : OR} {d N : Nat} (hct : ct 0 = .int 1) (hO : oOK xt ct d O) {l : mj_L} {x0 : Nat} {x1 : Int32} {x2 : Int32} {x3 : Int32} {H : mj_H} {q : ((Int64) ⊕ Nat) × mj_H} (f0 : mj_ld l 0 = some (.ref x0)) (f1 : mj_ld l 1 = some (.int x1)) (f2 : mj_ld l 2 = some (.int x2)) (f3 : mj_ld l 3 = some (.int x3)) (e : J200_28 xt ct O N x0 x1 x2 x3 H = some q) : mj_Run kY xt ct (d + 4) 200 28 l [] H (tT vL q.1, q.2) := by
  unfold J200_28 at e
  exact (
  r_iconst c200_28 <|
  J200_29_ok hct hO f0 f1 f2 f3 e)
/-- DiceOdds.compare(III)J -/
def C200 (xt : mj_X) (ct : Nat → Value) (O : OR) (N : Nat) (x0 : Nat) (x1 : Int32) (x2 : Int32) (x3 : Int32) (H : mj_H) : Option (((Int64) ⊕ Nat) × mj_H) :=
  bif mj_c2 .lt x3 (-1) then
    J200_28 xt ct O N x0 x1 x2 x3 H
  else
  bif mj_c2 .gt x3 1 then
    J200_28 xt ct O N x0 x1 x2 x3 H
  else
  (C80 xt ct O N x1 H).bind fun r71 =>
  bif mj_c1 .eq r71.1 then
    J200_28 xt ct O N x0 x1 x2 x3 r71.2
  else
  (C80 xt ct O N x2 r71.2).bind fun r76 =>
  bif mj_c1 .eq r76.1 then
    J200_28 xt ct O N x0 x1 x2 x3 r76.2
  else
  J200_29 xt ct O N x0 x1 x2 x3 1 r76.2
theorem C200_ok {xt : mj_X} {ct : Nat → Value} {O : OR} {d N : Nat} (hct : ct 0 = .int 1) (hO : oOK xt ct d O) {x0 : Nat} {x1 : Int32} {x2 : Int32} {x3 : Int32} {H : mj_H} {q : ((Int64) ⊕ Nat) × mj_H} (e : C200 xt ct O N x0 x1 x2 x3 H = some q) : mj_Run kY xt ct (d + 4) 200 0 (lv_args 0 [.ref x0, .int x1, .int x2, .int x3]) [] H (tT vL q.1, q.2) := by
  unfold C200 at e
  exact (
  r_iloadn c200_0 rfl <|
  r_iconst c200_1 <|
  t_if e (fun b1 e2 =>
    r_icmpT c200_2 b1 <|
    J200_28_ok hct hO rfl rfl rfl rfl e2
  ) (fun b1 e2 =>
    r_icmpF c200_2 b1 <|
    r_iloadn c200_5 rfl <|
    r_iconst c200_6 <|
    t_if e2 (fun b69 e70 =>
      r_icmpT c200_7 b69 <|
      J200_28_ok hct hO rfl rfl rfl rfl e70
    ) (fun b69 e70 =>
      r_icmpF c200_7 b69 <|
      r_iloadn c200_10 rfl <|
      t_bd e70 fun r71 c72 e73 =>
      c_cal (st2 := [.int r71.1]) (s_cs (as := [.int x1]) (st' := []) c200_11 ⟨Nat.le_of_ble_eq_true rfl, Nat.le_of_ble_eq_true rfl, Nat.le_of_ble_eq_true rfl⟩ rfl rfl) (C80_ok hct hO c72) (Nat.add_lt_add_left (by decide) d) rfl <|
      t_if e73 (fun b74 e75 =>
        r_ifT c200_14 b74 <|
        J200_28_ok hct hO rfl rfl rfl rfl e75
      ) (fun b74 e75 =>
        r_ifF c200_14 b74 <|
        r_iloadn c200_17 rfl <|
        t_bd e75 fun r76 c77 e78 =>
        c_cal (st2 := [.int r76.1]) (s_cs (as := [.int x2]) (st' := []) c200_18 ⟨Nat.le_of_ble_eq_true rfl, Nat.le_of_ble_eq_true rfl, Nat.le_of_ble_eq_true rfl⟩ rfl rfl) (C80_ok hct hO c77) (Nat.add_lt_add_left (by decide) d) rfl <|
        t_if e78 (fun b79 e80 =>
          r_ifT c200_21 b79 <|
          J200_28_ok hct hO rfl rfl rfl rfl e80
        ) (fun b79 e80 =>
          r_ifF c200_21 b79 <|
          r_iconst c200_24 <|
          r_goto c200_25 <|
          J200_29_ok hct hO rfl rfl rfl rfl e80
        )
      )
    )
  ))
