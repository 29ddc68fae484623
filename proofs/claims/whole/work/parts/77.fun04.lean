def LG169_2 (xt : mj_X) (ct : Nat → Value) (d : Nat) (q : (Int32) × mj_H) (x0 : Nat) (x1 : Int32) (x2 : Int32) (H : mj_H) : Prop := ∀ l, mj_ld l 0 = some (.ref x0) → mj_ld l 1 = some (.int x1) → mj_ld l 2 = some (.int x2) → mj_Run kY xt ct (d + 2) 169 2 l [] H (.inl (vI q.1), q.2)
def GG169_2 (xt : mj_X) (ct : Nat → Value) (d : Nat) (q : (Int32) × mj_H) (o : (Nat × Int32 × Int32 × mj_H) ⊕ ((Int32) × mj_H)) : Prop := match o with
  | .inl (x0, x1, x2, H) => LG169_2 xt ct d q x0 x1 x2 H
  | .inr r => r = q
def B169_2 (xt : mj_X) (ct : Nat → Value) (O : OR) (N : Nat) (s : Nat × Int32 × Int32 × mj_H) : Option ((Nat × Int32 × Int32 × mj_H) ⊕ ((Int32) × mj_H)) :=
  bif mj_c2 .ge s.2.2.1 6 then
    some (.inr (1, s.2.2.2))
  else
  (gK s.2.2.2 s.1 2).bind fun k3 =>
  (C154 xt ct O N s.1 s.2.1 s.2.2.1 s.2.2.2).bind fun r6 =>
  (gI r6.2 s.1 2 2).bind fun r9 =>
  (gK r6.2 s.1 2).bind fun k12 =>
  (C154 xt ct O N s.1 r9 s.2.2.1 r6.2).bind fun r15 =>
  bif mj_c2 .eq r6.1 r15.1 then
    some (.inl (s.1, s.2.1, (s.2.2.1 + 1), r15.2))
  else
  some (.inr (0, r15.2))
def L169_2 (xt : mj_X) (ct : Nat → Value) (O : OR) (N : Nat) (s : Nat × Int32 × Int32 × mj_H) : Option ((Int32) × mj_H) := t_lp (B169_2 xt ct O N) N s
theorem B169_2_ok {xt : mj_X} {ct : Nat → Value} {O : OR} {d N : Nat} (hct : ct 0 = .int 1) (hO : oOK xt ct d O) {s : Nat × Int32 × Int32 × mj_H} {o : (Nat × Int32 × Int32 × mj_H) ⊕ ((Int32) × mj_H)} {q : (Int32) × mj_H} (e : B169_2 xt ct O N s = some o) (g : GG169_2 xt ct d q o) : LG169_2 xt ct d q s.1 s.2.1 s.2.2.1 s.2.2.2 := by
  unfold B169_2 at e
  exact (fun l f0 f1 f2 =>
  r_iloadn c169_2 f2 <|
  r_bipush c169_3 <|
  t_if e (fun b1 e2 =>
    r_icmpT c169_5 b1 <|
    r_iconst c169_34 <|
    t_rg e2 g (fun (z : (1, s.2.2.2) = q) => (by cases z; exact (r_iret c169_35 rfl)))
  ) (fun b1 e2 =>
    r_icmpF c169_5 b1 <|
    r_aloadn c169_8 f0 <|
    r_iloadn c169_9 f1 <|
    r_iloadn c169_10 f2 <|
    t_bd e2 fun k3 c4 e5 =>
    t_bd e5 fun r6 c7 e8 =>
    c_cal (st2 := [.int r6.1]) (s_cv (as := [.ref s.1, .int s.2.1, .int s.2.2.1]) (st' := []) c169_11 rfl (gK_ok c4) ⟨Nat.le_of_ble_eq_true rfl, Nat.le_of_ble_eq_true rfl, Nat.le_of_ble_eq_true rfl⟩ rfl rfl) (C154_ok hct hO c7) (Nat.add_lt_add_left (by decide) d) rfl <|
    r_aloadn c169_14 f0 <|
    r_aloadn c169_15 f0 <|
    t_bd e8 fun r9 c10 e11 =>
    c_gI c169_16 c10 <|
    r_iloadn c169_19 f2 <|
    t_bd e11 fun k12 c13 e14 =>
    t_bd e14 fun r15 c16 e17 =>
    c_cal (st2 := [.int r15.1, .int r6.1]) (s_cv (as := [.ref s.1, .int r9, .int s.2.2.1]) (st' := [.int r6.1]) c169_20 rfl (gK_ok c13) ⟨Nat.le_of_ble_eq_true rfl, Nat.le_of_ble_eq_true rfl, Nat.le_of_ble_eq_true rfl⟩ rfl rfl) (C154_ok hct hO c16) (Nat.add_lt_add_left (by decide) d) rfl <|
    t_if e17 (fun b18 e19 =>
      r_icmpT c169_23 b18 <|
      r_iinc c169_28 f2 <|
      r_goto c169_31 <|
      t_rg e19 g (fun (z : LG169_2 xt ct d q s.1 s.2.1 (s.2.2.1 + 1) r15.2) => z _ (ld1_ne f0 (by decide) (Or.inl (by decide))) (ld1_ne f1 (by decide) (Or.inr rfl)) ld1_eq)
    ) (fun b18 e19 =>
      r_icmpF c169_23 b18 <|
      r_iconst c169_26 <|
      t_rg e19 g (fun (z : (0, r15.2) = q) => (by cases z; exact (r_iret c169_27 rfl)))
    )
  ))
theorem L169_2_ok {xt : mj_X} {ct : Nat → Value} {O : OR} {d N : Nat} (hct : ct 0 = .int 1) (hO : oOK xt ct d O) {x0 : Nat} {x1 : Int32} {x2 : Int32} {H : mj_H} {q : (Int32) × mj_H} (e : L169_2 xt ct O N (x0, x1, x2, H) = some q) : LG169_2 xt ct d q x0 x1 x2 H :=
  t_lp_ok (G := fun s => LG169_2 xt ct d q s.1 s.2.1 s.2.2.1 s.2.2.2) (fun s s' e g => B169_2_ok hct hO e (by obtain ⟨_, _, _, _⟩ := s'; exact g)) (fun s e => B169_2_ok hct hO e rfl) N (x0, x1, x2, H) e
/-- DiceOdds$States.isLikeLast(I)Z -/
def C169 (xt : mj_X) (ct : Nat → Value) (O : OR) (N : Nat) (x0 : Nat) (x1 : Int32) (H : mj_H) : Option ((Int32) × mj_H) :=
  L169_2 xt ct O N (x0, x1, 0, H)
theorem C169_ok {xt : mj_X} {ct : Nat → Value} {O : OR} {d N : Nat} (hct : ct 0 = .int 1) (hO : oOK xt ct d O) {x0 : Nat} {x1 : Int32} {H : mj_H} {q : (Int32) × mj_H} (e : C169 xt ct O N x0 x1 H = some q) : mj_Run kY xt ct (d + 2) 169 0 (lv_args 0 [.ref x0, .int x1]) [] H (.inl (vI q.1), q.2) := by
  unfold C169 at e
  exact (
  r_iconst c169_0 <|
  r_istoren c169_1 <|
  L169_2_ok hct hO e _ (ld1_ne rfl (by decide) (Or.inl (by decide))) (ld1_ne rfl (by decide) (Or.inr rfl)) ld1_eq)
def LG168_2 (xt : mj_X) (ct : Nat → Value) (d : Nat) (q : (Int32) × mj_H) (x0 : Nat) (x1 : Int64) (x3 : Int32) (H : mj_H) : Prop := ∀ l, mj_ld l 0 = some (.ref x0) → mj_ld l 1 = some (.long x1) → mj_ld l 3 = some (.int x3) → mj_Run kY xt ct (d + 3) 168 2 l [] H (.inl (vI q.1), q.2)
def GG168_2 (xt : mj_X) (ct : Nat → Value) (d : Nat) (q : (Int32) × mj_H) (o : (Nat × Int64 × Int32 × mj_H) ⊕ ((Int32) × mj_H)) : Prop := match o with
  | .inl (x0, x1, x3, H) => LG168_2 xt ct d q x0 x1 x3 H
  | .inr r => r = q
def B168_2 (xt : mj_X) (ct : Nat → Value) (O : OR) (N : Nat) (s : Nat × Int64 × Int32 × mj_H) : Option ((Nat × Int64 × Int32 × mj_H) ⊕ ((Int32) × mj_H)) :=
  (gI s.2.2.2 s.1 2 2).bind fun r1 =>
  bif mj_c2 .ge s.2.2.1 r1 then
    (gI s.2.2.2 s.1 2 2).bind fun r6 =>
    bif mj_c2 .lt r6 64 then
      (gA s.2.2.2 s.1 2 1).bind fun r11 =>
      (gI s.2.2.2 s.1 2 2).bind fun r14 =>
      (sL s.2.2.2 r11 r14 s.2.1).bind fun H17 =>
      (gI H17 s.1 2 2).bind fun r20 =>
      (uF H17 s.1 2 2 (.int (r20 + 1))).bind fun H23 =>
      some (.inr (1, H23))
    else
    some (.inr (0, s.2.2.2))
  else
  (gK s.2.2.2 s.1 2).bind fun k26 =>
  (C169 xt ct O N s.1 s.2.2.1 s.2.2.2).bind fun r29 =>
  bif mj_c1 .eq r29.1 then
    some (.inl (s.1, s.2.1, (s.2.2.1 + 1), r29.2))
  else
  (gA r29.2 s.1 2 1).bind fun r34 =>
  (aL xt r29.2 r34 s.2.2.1).bind fun r37 =>
  (sL r29.2 r34 s.2.2.1 (r37 + s.2.1)).bind fun H40 =>
  some (.inr (1, H40))
def L168_2 (xt : mj_X) (ct : Nat → Value) (O : OR) (N : Nat) (s : Nat × Int64 × Int32 × mj_H) : Option ((Int32) × mj_H) := t_lp (B168_2 xt ct O N) N s
theorem B168_2_ok {xt : mj_X} {ct : Nat → Value} {O : OR} {d N : Nat} (hct : ct 0 = .int 1) (hO : oOK xt ct d O) {s : Nat × Int64 × Int32 × mj_H} {o : (Nat × Int64 × Int32 × mj_H) ⊕ ((Int32) × mj_H)} {q : (Int32) × mj_H} (e : B168_2 xt ct O N s = some o) (g : GG168_2 xt ct d q o) : LG168_2 xt ct d q s.1 s.2.1 s.2.2.1 s.2.2.2 := by
  unfold B168_2 at e
  exact (fun l f0 f1 f3 =>
  r_iloadn c168_2 f3 <|
  r_aloadn c168_3 f0 <|
  t_bd e fun r1 c2 e3 =>
  c_gI c168_4 c2 <|
  t_if e3 (fun b4 e5 =>
    r_icmpT c168_7 b4 <|
    r_aloadn c168_36 f0 <|
    t_bd e5 fun r6 c7 e8 =>
    c_gI c168_37 c7 <|
    r_bipush c168_40 <|
    t_if e8 (fun b9 e10 =>
      r_icmpT c168_42 b9 <|
      r_aloadn c168_47 f0 <|
      t_bd e10 fun r11 c12 e13 =>
      c_gA c168_48 c12 <|
      r_aloadn c168_51 f0 <|
      t_bd e13 fun r14 c15 e16 =>
      c_gI c168_52 c15 <|
      r_lloadn c168_55 f1 <|
      t_bd e16 fun H17 c18 e19 =>
      c_sL c168_56 c18 <|
      r_aloadn c168_57 f0 <|
      r_dup c168_58 rfl <|
      t_bd e19 fun r20 c21 e22 =>
      c_gI c168_59 c21 <|
      r_iconst c168_62 <|
      r_iadd c168_63 rfl <|
      t_bd e22 fun H23 c24 e25 =>
      c_uF c168_64 ⟨rfl, rfl⟩ c24 <|
      r_iconst c168_67 <|
      t_rg e25 g (fun (z : (1, H23) = q) => (by cases z; exact (r_iret c168_68 rfl)))
    ) (fun b9 e10 =>
      r_icmpF c168_42 b9 <|
      r_iconst c168_45 <|
      t_rg e10 g (fun (z : (0, s.2.2.2) = q) => (by cases z; exact (r_iret c168_46 rfl)))
    )
  ) (fun b4 e5 =>
    r_icmpF c168_7 b4 <|
    r_aloadn c168_10 f0 <|
    r_iloadn c168_11 f3 <|
    t_bd e5 fun k26 c27 e28 =>
    t_bd e28 fun r29 c30 e31 =>
    c_cal (st2 := [.int r29.1]) (s_cv (as := [.ref s.1, .int s.2.2.1]) (st' := []) c168_12 rfl (gK_ok c27) ⟨Nat.le_of_ble_eq_true rfl, Nat.le_of_ble_eq_true rfl, Nat.le_of_ble_eq_true rfl⟩ rfl rfl) (C169_ok hct hO c30) (Nat.add_lt_add_left (by decide) d) rfl <|
    t_if e31 (fun b32 e33 =>
      r_ifT c168_15 b32 <|
      r_iinc c168_30 f3 <|
      r_goto c168_33 <|
      t_rg e33 g (fun (z : LG168_2 xt ct d q s.1 s.2.1 (s.2.2.1 + 1) r29.2) => z _ (ld1_ne f0 (by decide) (Or.inl (by decide))) (ld1_ne f1 (by decide) (Or.inl (by decide))) ld1_eq)
    ) (fun b32 e33 =>
      r_ifF c168_15 b32 <|
      r_aloadn c168_18 f0 <|
      t_bd e33 fun r34 c35 e36 =>
      c_gA c168_19 c35 <|
      r_iloadn c168_22 f3 <|
      r_dup2ia c168_23 <|
      t_bd e36 fun r37 c38 e39 =>
      c_aL c168_24 c38 <|
      r_lloadn c168_25 f1 <|
      r_ladd c168_26 rfl <|
      t_bd e39 fun H40 c41 e42 =>
      c_sL c168_27 c41 <|
      r_iconst c168_28 <|
      t_rg e42 g (fun (z : (1, H40) = q) => (by cases z; exact (r_iret c168_29 rfl)))
    )
  ))
theorem L168_2_ok {xt : mj_X} {ct : Nat → Value} {O : OR} {d N : Nat} (hct : ct 0 = .int 1) (hO : oOK xt ct d O) {x0 : Nat} {x1 : Int64} {x3 : Int32} {H : mj_H} {q : (Int32) × mj_H} (e : L168_2 xt ct O N (x0, x1, x3, H) = some q) : LG168_2 xt ct d q x0 x1 x3 H :=
  t_lp_ok (G := fun s => LG168_2 xt ct d q s.1 s.2.1 s.2.2.1 s.2.2.2) (fun s s' e g => B168_2_ok hct hO e (by obtain ⟨_, _, _, _⟩ := s'; exact g)) (fun s e => B168_2_ok hct hO e rfl) N (x0, x1, x3, H) e
/-- DiceOdds$States.settle(J)Z -/
def C168 (xt : mj_X) (ct : Nat → Value) (O : OR) (N : Nat) (x0 : Nat) (x1 : Int64) (H : mj_H) : Option ((Int32) × mj_H) :=
  L168_2 xt ct O N (x0, x1, 0, H)
theorem C168_ok {xt : mj_X} {ct : Nat → Value} {O : OR} {d N : Nat} (hct : ct 0 = .int 1) (hO : oOK xt ct d O) {x0 : Nat} {x1 : Int64} {H : mj_H} {q : (Int32) × mj_H} (e : C168 xt ct O N x0 x1 H = some q) : mj_Run kY xt ct (d + 3) 168 0 (lv_args 0 [.ref x0, .long x1]) [] H (.inl (vI q.1), q.2) := by
  unfold C168 at e
  exact (
  r_iconst c168_0 <|
  r_istoren c168_1 <|
  L168_2_ok hct hO e _ (ld1_ne rfl (by decide) (Or.inl (by decide))) (ld1_ne rfl (by decide) (Or.inl (by decide))) ld1_eq)
def LG167_6 (xt : mj_X) (ct : Nat → Value) (d : Nat) (q : (Int32) × mj_H) (x0 : Nat) (x1 : Nat) (x2 : Int64) (x4 : Int32) (x5 : Int32) (H : mj_H) : Prop := ∀ l, mj_ld l 0 = some (.ref x0) → mj_ld l 1 = some (.ref x1) → mj_ld l 2 = some (.long x2) → mj_ld l 4 = some (.int x4) → mj_ld l 5 = some (.int x5) → mj_Run kY xt ct (d + 4) 167 6 l [] H (.inl (vI q.1), q.2)
def GG167_6 (xt : mj_X) (ct : Nat → Value) (d : Nat) (q : (Int32) × mj_H) (o : (Nat × Nat × Int64 × Int32 × Int32 × mj_H) ⊕ ((Int32) × mj_H)) : Prop := match o with
  | .inl (x0, x1, x2, x4, x5, H) => LG167_6 xt ct d q x0 x1 x2 x4 x5 H
  | .inr r => r = q
def J167_48 (xt : mj_X) (ct : Nat → Value) (O : OR) (N : Nat) (x4 : Int32) (H : mj_H) : Option ((Int32) × mj_H) :=
  if narrow .boolean (.int x4) = .int x4 then
  some (x4, H)
  else none
theorem J167_48_ok {xt : mj_X} {ct : Nat → Value} {O : OR} {d N : Nat} (hct : ct 0 = .int 1) (hO : oOK xt ct d O) {l : mj_L} {x4 : Int32} {H : mj_H} {q : (Int32) × mj_H} (f4 : mj_ld l 4 = some (.int x4)) (e : J167_48 xt ct O N x4 H = some q) : mj_Run kY xt ct (d + 4) 167 48 l [] H (.inl (vI q.1), q.2) := by
  unfold J167_48 at e
  exact (
  r_iload c167_48 f4 <|
  t_ck e fun z6 e7 =>
  (by cases e7; exact (r_iret c167_50 z6)))
def B167_6 (xt : mj_X) (ct : Nat → Value) (O : OR) (N : Nat) (s : Nat × Nat × Int64 × Int32 × Int32 × mj_H) : Option ((Nat × Nat × Int64 × Int32 × Int32 × mj_H) ⊕ ((Int32) × mj_H)) :=
  (gI s.2.2.2.2.2 s.2.1 2 2).bind fun r1 =>
  bif mj_c2 .ge s.2.2.2.2.1 r1 then
    (J167_48 xt ct O N s.2.2.2.1 s.2.2.2.2.2).map Sum.inr
  else
  bif mj_c1 .eq s.2.2.2.1 then
    (J167_48 xt ct O N s.2.2.2.1 s.2.2.2.2.2).map Sum.inr
  else
  (gK s.2.2.2.2.2 s.1 2).bind fun k18 =>
  (C164 xt ct O N s.1 s.2.1 s.2.2.2.2.1 s.2.2.2.2.2).bind fun r21 =>
  (gA r21 s.2.1 2 1).bind fun r24 =>
  (aL xt r21 r24 s.2.2.2.2.1).bind fun r27 =>
  (gK r21 s.1 2).bind fun k30 =>
  (C168 xt ct O N s.1 (r27 * s.2.2.1) r21).bind fun r33 =>
  some (.inl (s.1, s.2.1, s.2.2.1, r33.1, (s.2.2.2.2.1 + 1), r33.2))
def L167_6 (xt : mj_X) (ct : Nat → Value) (O : OR) (N : Nat) (s : Nat × Nat × Int64 × Int32 × Int32 × mj_H) : Option ((Int32) × mj_H) := t_lp (B167_6 xt ct O N) N s
theorem B167_6_ok {xt : mj_X} {ct : Nat → Value} {O : OR} {d N : Nat} (hct : ct 0 = .int 1) (hO : oOK xt ct d O) {s : Nat × Nat × Int64 × Int32 × Int32 × mj_H} {o : (Nat × Nat × Int64 × Int32 × Int32 × mj_H) ⊕ ((Int32) × mj_H)} {q : (Int32) × mj_H} (e : B167_6 xt ct O N s = some o) (g : GG167_6 xt ct d q o) : LG167_6 xt ct d q s.1 s.2.1 s.2.2.1 s.2.2.2.1 s.2.2.2.2.1 s.2.2.2.2.2 := by
  unfold B167_6 at e
  exact (fun l f0 f1 f2 f4 f5 =>
  r_iload c167_6 f5 <|
  r_aloadn c167_8 f1 <|
  t_bd e fun r1 c2 e3 =>
  c_gI c167_9 c2 <|
  t_if e3 (fun b4 e5 =>
    r_icmpT c167_12 b4 <|
    t_up e5 fun o8 e9 u10 =>
    (fun (g11 : o8 = q) =>
    by subst g11; exact (J167_48_ok hct hO f4 e9)
    ) (by have := g; rw [u10] at this; exact this)
  ) (fun b4 e5 =>
    r_icmpF c167_12 b4 <|
    r_iload c167_15 f4 <|
    t_if e5 (fun b12 e13 =>
      r_ifT c167_17 b12 <|
      t_up e13 fun o14 e15 u16 =>
      (fun (g17 : o14 = q) =>
      by subst g17; exact (J167_48_ok hct hO f4 e15)
      ) (by have := g; rw [u16] at this; exact this)
    ) (fun b12 e13 =>
      r_ifF c167_17 b12 <|
      r_aloadn c167_20 f0 <|
      r_aloadn c167_21 f1 <|
      r_iload c167_22 f5 <|
      t_bd e13 fun k18 c19 e20 =>
      t_bd e20 fun r21 c22 e23 =>
      c_cal (st2 := []) (s_cv (as := [.ref s.1, .ref s.2.1, .int s.2.2.2.2.1]) (st' := []) c167_24 rfl (gK_ok c19) ⟨Nat.le_of_ble_eq_true rfl, Nat.le_of_ble_eq_true rfl, Nat.le_of_ble_eq_true rfl⟩ rfl rfl) (C164_ok hct hO c22) (Nat.add_lt_add_left (by decide) d) rfl <|
      r_aloadn c167_27 f0 <|
      r_aloadn c167_28 f1 <|
      t_bd e23 fun r24 c25 e26 =>
      c_gA c167_29 c25 <|
      r_iload c167_32 f5 <|
      t_bd e26 fun r27 c28 e29 =>
      c_aL c167_34 c28 <|
      r_lloadn c167_35 f2 <|
      r_lmul c167_36 rfl <|
      t_bd e29 fun k30 c31 e32 =>
      t_bd e32 fun r33 c34 e35 =>
      c_cal (st2 := [.int r33.1]) (s_cv (as := [.ref s.1, .long (r27 * s.2.2.1)]) (st' := []) c167_37 rfl (gK_ok c31) ⟨Nat.le_of_ble_eq_true rfl, Nat.le_of_ble_eq_true rfl, Nat.le_of_ble_eq_true rfl⟩ rfl rfl) (C168_ok hct hO c34) (Nat.add_lt_add_left (by decide) d) rfl <|
      r_istore c167_40 <|
      r_iinc c167_42 (ld1_ne f5 (by decide) (Or.inl (by decide))) <|
      r_goto c167_45 <|
      t_rg e35 g (fun (z : LG167_6 xt ct d q s.1 s.2.1 s.2.2.1 r33.1 (s.2.2.2.2.1 + 1) r33.2) => z _ (ld1_ne (ld1_ne f0 (by decide) (Or.inl (by decide))) (by decide) (Or.inl (by decide))) (ld1_ne (ld1_ne f1 (by decide) (Or.inl (by decide))) (by decide) (Or.inl (by decide))) (ld1_ne (ld1_ne f2 (by decide) (Or.inl (by decide))) (by decide) (Or.inl (by decide))) (ld1_ne ld1_eq (by decide) (Or.inr rfl)) ld1_eq)
    )
  ))
theorem L167_6_ok {xt : mj_X} {ct : Nat → Value} {O : OR} {d N : Nat} (hct : ct 0 = .int 1) (hO : oOK xt ct d O) {x0 : Nat} {x1 : Nat} {x2 : Int64} {x4 : Int32} {x5 : Int32} {H : mj_H} {q : (Int32) × mj_H} (e : L167_6 xt ct O N (x0, x1, x2, x4, x5, H) = some q) : LG167_6 xt ct d q x0 x1 x2 x4 x5 H :=
  t_lp_ok (G := fun s => LG167_6 xt ct d q s.1 s.2.1 s.2.2.1 s.2.2.2.1 s.2.2.2.2.1 s.2.2.2.2.2) (fun s s' e g => B167_6_ok hct hO e (by obtain ⟨_, _, _, _, _, _⟩ := s'; exact g)) (fun s e => B167_6_ok hct hO e rfl) N (x0, x1, x2, x4, x5, H) e
/-- DiceOdds$States.join(LDiceOdds$States;J)Z -/
def C167 (xt : mj_X) (ct : Nat → Value) (O : OR) (N : Nat) (x0 : Nat) (x1 : Nat) (x2 : Int64) (H : mj_H) : Option ((Int32) × mj_H) :=
  L167_6 xt ct O N (x0, x1, x2, 1, 0, H)
theorem C167_ok {xt : mj_X} {ct : Nat → Value} {O : OR} {d N : Nat} (hct : ct 0 = .int 1) (hO : oOK xt ct d O) {x0 : Nat} {x1 : Nat} {x2 : Int64} {H : mj_H} {q : (Int32) × mj_H} (e : C167 xt ct O N x0 x1 x2 H = some q) : mj_Run kY xt ct (d + 4) 167 0 (lv_args 0 [.ref x0, .ref x1, .long x2]) [] H (.inl (vI q.1), q.2) := by
  unfold C167 at e
  exact (
  r_iconst c167_0 <|
  r_istore c167_1 <|
  r_iconst c167_3 <|
  r_istore c167_4 <|
  L167_6_ok hct hO e _ (ld1_ne (ld1_ne rfl (by decide) (Or.inl (by decide))) (by decide) (Or.inl (by decide))) (ld1_ne (ld1_ne rfl (by decide) (Or.inl (by decide))) (by decide) (Or.inl (by decide))) (ld1_ne (ld1_ne rfl (by decide) (Or.inl (by decide))) (by decide) (Or.inl (by decide))) (ld1_ne ld1_eq (by decide) (Or.inr rfl)) ld1_eq)
def J166_9 (xt : mj_X) (ct : Nat → Value) (O : OR) (N : Nat)  (H : mj_H) : Option ((Int32) × mj_H) :=
  some ((-2), H)
theorem J166_9_ok {xt : mj_X} {ct : Nat → Value} {O : OR} {d N : Nat} (hct : ct 0 = .int 1) (hO : oOK xt ct d O) {l : mj_L}  {H : mj_H} {q : (Int32) × mj_H}  (e : J166_9 xt ct O N  H = some q) : mj_Run kY xt ct (d + 5) 166 9 l [] H (.inl (vI q.1), q.2) := by
  unfold J166_9 at e
  exact (
  r_bipush c166_9 <|
  (by cases e; exact (r_iret c166_11 rfl)))
def LG166_41 (xt : mj_X) (ct : Nat → Value) (d : Nat) (q : (Int32) × mj_H) (x0 : Nat) (x1 : Nat) (x2 : Nat) (x3 : Int32) (x4 : Nat) (x5 : Nat) (x6 : Int32) (H : mj_H) : Prop := ∀ l, mj_ld l 0 = some (.ref x0) → mj_ld l 1 = some (.ref x1) → mj_ld l 2 = some (.ref x2) → mj_ld l 3 = some (.int x3) → mj_ld l 4 = some (.ref x4) → mj_ld l 5 = some (.ref x5) → mj_ld l 6 = some (.int x6) → mj_Run kY xt ct (d + 5) 166 41 l [] H (.inl (vI q.1), q.2)
def GG166_41 (xt : mj_X) (ct : Nat → Value) (d : Nat) (q : (Int32) × mj_H) (o : (Nat × Nat × Nat × Int32 × Nat × Nat × Int32 × mj_H) ⊕ ((Int32) × mj_H)) : Prop := match o with
  | .inl (x0, x1, x2, x3, x4, x5, x6, H) => LG166_41 xt ct d q x0 x1 x2 x3 x4 x5 x6 H
  | .inr r => r = q
def J166_185 (xt : mj_X) (ct : Nat → Value) (O : OR) (N : Nat) (s0 : Int32) (H : mj_H) : Option ((Int32) × mj_H) :=
  some (s0, H)
theorem J166_185_ok {xt : mj_X} {ct : Nat → Value} {O : OR} {d N : Nat} (hct : ct 0 = .int 1) (hO : oOK xt ct d O) {l : mj_L} {s0 : Int32} {H : mj_H} {q : (Int32) × mj_H}  (e : J166_185 xt ct O N s0 H = some q) : mj_Run kY xt ct (d + 5) 166 185 l [.int s0] H (.inl (vI q.1), q.2) := by
  unfold J166_185 at e
  exact (
  (by cases e; exact (r_iret c166_185 rfl)))
def J166_183 (xt : mj_X) (ct : Nat → Value) (O : OR) (N : Nat)  (H : mj_H) : Option ((Int32) × mj_H) :=
  J166_185 xt ct O N (-2) H
theorem J166_183_ok {xt : mj_X} {ct : Nat → Value} {O : OR} {d N : Nat} (hct : ct 0 = .int 1) (hO : oOK xt ct d O) {l : mj_L}  {H : mj_H} {q : (Int32) × mj_H}  (e : J166_183 xt ct O N  H = some q) : mj_Run kY xt ct (d + 5) 166 183 l [] H (.inl (vI q.1), q.2) := by
  unfold J166_183 at e
  exact (
  r_bipush c166_183 <|
  J166_185_ok hct hO  e)
def J166_141 (xt : mj_X) (ct : Nat → Value) (O : OR) (N : Nat) (x0 : Nat) (x1 : Nat) (x4 : Nat) (x5 : Nat) (x6 : Int32) (H : mj_H) : Option ((Int32) × mj_H) :=
  bif mj_c1 .eq x6 then
    (gK H x1 2).bind fun k44 =>
    (C136 xt ct O N x1 H).bind fun r47 =>
    (gL r47 x0 11 6).bind fun r50 =>
    (gK r47 x1 2).bind fun k53 =>
    (C167 xt ct O N x1 x4 r50 r47).bind fun r56 =>
    bif mj_c1 .eq r56.1 then
      J166_183 xt ct O N r56.2
    else
    (gL r56.2 x0 11 7).bind fun r61 =>
    (gK r56.2 x1 2).bind fun k64 =>
    (C167 xt ct O N x1 x5 r61 r56.2).bind fun r67 =>
    bif mj_c1 .eq r67.1 then
      J166_183 xt ct O N r67.2
    else
    J166_185 xt ct O N 0 r67.2
  else
  some (x6, H)
theorem J166_141_ok {xt : mj_X} {ct : Nat → Value} {O : OR} {d N : Nat} (hct : ct 0 = .int 1) (hO : oOK xt ct d O) {l : mj_L} {x0 : Nat} {x1 : Nat} {x4 : Nat} {x5 : Nat} {x6 : Int32} {H : mj_H} {q : (Int32) × mj_H} (f0 : mj_ld l 0 = some (.ref x0)) (f1 : mj_ld l 1 = some (.ref x1)) (f4 : mj_ld l 4 = some (.ref x4)) (f5 : mj_ld l 5 = some (.ref x5)) (f6 : mj_ld l 6 = some (.int x6)) (e : J166_141 xt ct O N x0 x1 x4 x5 x6 H = some q) : mj_Run kY xt ct (d + 5) 166 141 l [] H (.inl (vI q.1), q.2) := by
  unfold J166_141 at e
  exact (
  r_iload c166_141 f6 <|
  t_if e (fun b42 e43 =>
    r_ifT c166_143 b42 <|
    r_aloadn c166_149 f1 <|
    t_bd e43 fun k44 c45 e46 =>
    t_bd e46 fun r47 c48 e49 =>
    c_cal (st2 := []) (s_cv (as := [.ref x1]) (st' := []) c166_150 rfl (gK_ok c45) ⟨Nat.le_of_ble_eq_true rfl, Nat.le_of_ble_eq_true rfl, Nat.le_of_ble_eq_true rfl⟩ rfl rfl) (C136_ok hct hO c48) (Nat.add_lt_add_left (by decide) d) rfl <|
    r_aloadn c166_153 f1 <|
    r_aload c166_154 f4 <|
    r_aloadn c166_156 f0 <|
    t_bd e49 fun r50 c51 e52 =>
    c_gL c166_157 c51 <|
    t_bd e52 fun k53 c54 e55 =>
    t_bd e55 fun r56 c57 e58 =>
    c_cal (st2 := [.int r56.1]) (s_cv (as := [.ref x1, .ref x4, .long r50]) (st' := []) c166_160 rfl (gK_ok c54) ⟨Nat.le_of_ble_eq_true rfl, Nat.le_of_ble_eq_true rfl, Nat.le_of_ble_eq_true rfl⟩ rfl rfl) (C167_ok hct hO c57) (Nat.add_lt_add_left (by decide) d) rfl <|
    t_if e58 (fun b59 e60 =>
      r_ifT c166_163 b59 <|
      J166_183_ok hct hO  e60
    ) (fun b59 e60 =>
      r_ifF c166_163 b59 <|
      r_aloadn c166_166 f1 <|
      r_aload c166_167 f5 <|
      r_aloadn c166_169 f0 <|
      t_bd e60 fun r61 c62 e63 =>
      c_gL c166_170 c62 <|
      t_bd e63 fun k64 c65 e66 =>
      t_bd e66 fun r67 c68 e69 =>
      c_cal (st2 := [.int r67.1]) (s_cv (as := [.ref x1, .ref x5, .long r61]) (st' := []) c166_173 rfl (gK_ok c65) ⟨Nat.le_of_ble_eq_true rfl, Nat.le_of_ble_eq_true rfl, Nat.le_of_ble_eq_true rfl⟩ rfl rfl) (C167_ok hct hO c68) (Nat.add_lt_add_left (by decide) d) rfl <|
      t_if e69 (fun b70 e71 =>
        r_ifT c166_176 b70 <|
        J166_183_ok hct hO  e71
      ) (fun b70 e71 =>
        r_ifF c166_176 b70 <|
        r_iconst c166_179 <|
        r_goto c166_180 <|
        J166_185_ok hct hO  e71
      )
    )
  ) (fun b42 e43 =>
    r_ifF c166_143 b42 <|
    r_iload c166_146 f6 <|
    (by cases e43; exact (r_iret c166_148 rfl))
  ))
def B166_41 (xt : mj_X) (ct : Nat → Value) (O : OR) (N : Nat) (s : Nat × Nat × Nat × Int32 × Nat × Nat × Int32 × mj_H) : Option ((Nat × Nat × Nat × Int32 × Nat × Nat × Int32 × mj_H) ⊕ ((Int32) × mj_H)) :=
  (gI s.2.2.2.2.2.2.2 s.2.1 2 2).bind fun r29 =>
  bif mj_c2 .ge s.2.2.2.2.2.2.1 r29 then
    (gR s.2.2.2.2.2.2.2 s.1 11 3).bind fun r34 =>
    (O.2.2.2.2.1 r34 s.2.2.2.2.1 s.2.2.1 (s.2.2.2.1 + 1) s.2.2.2.2.2.2.2).bind fun r37 =>
    bif mj_c1 .ne r37.1 then
      (J166_141 xt ct O N s.1 s.2.1 s.2.2.2.2.1 s.2.2.2.2.2.1 r37.1 r37.2).map Sum.inr
    else
    (gR r37.2 s.1 11 4).bind fun r76 =>
    (O.2.2.2.2.1 r76 s.2.2.2.2.2.1 s.2.2.1 (s.2.2.2.1 + 1) r37.2).bind fun r79 =>
    (J166_141 xt ct O N s.1 s.2.1 s.2.2.2.2.1 s.2.2.2.2.2.1 r79.1 r79.2).map Sum.inr
  else
  (gA s.2.2.2.2.2.2.2 s.1 11 1).bind fun r86 =>
  (gK s.2.2.2.2.2.2.2 s.2.2.1 3).bind fun k89 =>
  (C141 xt ct O N s.2.2.1 r86 s.2.1 s.2.2.2.2.2.2.1 s.2.2.2.2.2.2.2).bind fun r92 =>
  bif mj_c1 .ne r92.1 then
    (gK r92.2 s.2.2.1 3).bind fun k97 =>
    (C162 xt ct O N s.2.2.1 r92.2).bind fun r100 =>
    (gK r100.2 s.2.2.2.2.1 2).bind fun k103 =>
    (C163 xt ct O N s.2.2.2.2.1 s.2.1 s.2.2.2.2.2.2.1 r100.1 r100.2).bind fun r106 =>
    (gA r106 s.1 11 1).bind fun r109 =>
    (gFp r106 r109 df).bind fun r112 =>
    (gK r106 s.2.2.2.2.2.1 2).bind fun k115 =>
    (C163 xt ct O N s.2.2.2.2.2.1 s.2.1 s.2.2.2.2.2.2.1 (r112 - r100.1) r106).bind fun r118 =>
    some (.inl (s.1, s.2.1, s.2.2.1, s.2.2.2.1, s.2.2.2.2.1, s.2.2.2.2.2.1, (s.2.2.2.2.2.2.1 + 1), r118))
  else
  some (.inr ((-1), r92.2))
def L166_41 (xt : mj_X) (ct : Nat → Value) (O : OR) (N : Nat) (s : Nat × Nat × Nat × Int32 × Nat × Nat × Int32 × mj_H) : Option ((Int32) × mj_H) := t_lp (B166_41 xt ct O N) N s
theorem B166_41_ok {xt : mj_X} {ct : Nat → Value} {O : OR} {d N : Nat} (hct : ct 0 = .int 1) (hO : oOK xt ct d O) {s : Nat × Nat × Nat × Int32 × Nat × Nat × Int32 × mj_H} {o : (Nat × Nat × Nat × Int32 × Nat × Nat × Int32 × mj_H) ⊕ ((Int32) × mj_H)} {q : (Int32) × mj_H} (e : B166_41 xt ct O N s = some o) (g : GG166_41 xt ct d q o) : LG166_41 xt ct d q s.1 s.2.1 s.2.2.1 s.2.2.2.1 s.2.2.2.2.1 s.2.2.2.2.2.1 s.2.2.2.2.2.2.1 s.2.2.2.2.2.2.2 := by
  unfold B166_41 at e
  exact (fun l f0 f1 f2 f3 f4 f5 f6 =>
  r_iload c166_41 f6 <|
  r_aloadn c166_43 f1 <|
  t_bd e fun r29 c30 e31 =>
  c_gI c166_44 c30 <|
  t_if e31 (fun b32 e33 =>
    r_icmpT c166_47 b32 <|
    r_aloadn c166_106 f0 <|
    t_bd e33 fun r34 c35 e36 =>
    c_gR c166_107 c35 <|
    r_aload c166_110 f4 <|
    r_aloadn c166_112 f2 <|
    r_iloadn c166_113 f3 <|
    r_iconst c166_114 <|
    r_iadd c166_115 rfl <|
    t_bd e36 fun r37 c38 e39 =>
    c_cal (st2 := [.int r37.1]) (s_cs (as := [rv r34, .ref s.2.2.2.2.1, .ref s.2.2.1, .int (s.2.2.2.1 + 1)]) (st' := []) c166_116 (by cases (r34) <;> exact ⟨Nat.le_of_ble_eq_true rfl, Nat.le_of_ble_eq_true rfl, Nat.le_of_ble_eq_true rfl⟩) rfl rfl) (hO.2.2.2.2.1 _ _ _ _ _ _ c38) (Nat.lt_add_of_pos_right (by decide)) rfl <|
    r_istore c166_119 <|
    r_iload c166_121 ld1_eq <|
    t_if e39 (fun b40 e41 =>
      r_ifT c166_123 b40 <|
      t_up e41 fun o72 e73 u74 =>
      (fun (g75 : o72 = q) =>
      by subst g75; exact (J166_141_ok hct hO (ld1_ne f0 (by decide) (Or.inl (by decide))) (ld1_ne f1 (by decide) (Or.inl (by decide))) (ld1_ne f4 (by decide) (Or.inl (by decide))) (ld1_ne f5 (by decide) (Or.inr rfl)) ld1_eq e73)
      ) (by have := g; rw [u74] at this; exact this)
    ) (fun b40 e41 =>
      r_ifF c166_123 b40 <|
      r_aloadn c166_126 (ld1_ne f0 (by decide) (Or.inl (by decide))) <|
      t_bd e41 fun r76 c77 e78 =>
      c_gR c166_127 c77 <|
      r_aload c166_130 (ld1_ne f5 (by decide) (Or.inr rfl)) <|
      r_aloadn c166_132 (ld1_ne f2 (by decide) (Or.inl (by decide))) <|
      r_iloadn c166_133 (ld1_ne f3 (by decide) (Or.inl (by decide))) <|
      r_iconst c166_134 <|
      r_iadd c166_135 rfl <|
      t_bd e78 fun r79 c80 e81 =>
      c_cal (st2 := [.int r79.1]) (s_cs (as := [rv r76, .ref s.2.2.2.2.2.1, .ref s.2.2.1, .int (s.2.2.2.1 + 1)]) (st' := []) c166_136 (by cases (r76) <;> exact ⟨Nat.le_of_ble_eq_true rfl, Nat.le_of_ble_eq_true rfl, Nat.le_of_ble_eq_true rfl⟩) rfl rfl) (hO.2.2.2.2.1 _ _ _ _ _ _ c80) (Nat.lt_add_of_pos_right (by decide)) rfl <|
      r_istore c166_139 <|
      t_up e81 fun o82 e83 u84 =>
      (fun (g85 : o82 = q) =>
      by subst g85; exact (J166_141_ok hct hO (ld1_ne (ld1_ne f0 (by decide) (Or.inl (by decide))) (by decide) (Or.inl (by decide))) (ld1_ne (ld1_ne f1 (by decide) (Or.inl (by decide))) (by decide) (Or.inl (by decide))) (ld1_ne (ld1_ne f4 (by decide) (Or.inl (by decide))) (by decide) (Or.inl (by decide))) (ld1_ne (ld1_ne f5 (by decide) (Or.inr rfl)) (by decide) (Or.inr rfl)) ld1_eq e83)
      ) (by have := g; rw [u84] at this; exact this)
    )
  ) (fun b32 e33 =>
    r_icmpF c166_47 b32 <|
    r_aloadn c166_50 f2 <|
    r_aloadn c166_51 f0 <|
    t_bd e33 fun r86 c87 e88 =>
    c_gA c166_52 c87 <|
    r_aloadn c166_55 f1 <|
    r_iload c166_56 f6 <|
    t_bd e88 fun k89 c90 e91 =>
    t_bd e91 fun r92 c93 e94 =>
    c_cal (st2 := [.int r92.1]) (s_cv (as := [.ref s.2.2.1, .ref r86, .ref s.2.1, .int s.2.2.2.2.2.2.1]) (st' := []) c166_58 rfl (gK_ok c90) ⟨Nat.le_of_ble_eq_true rfl, Nat.le_of_ble_eq_true rfl, Nat.le_of_ble_eq_true rfl⟩ rfl rfl) (C141_ok hct hO c93) (Nat.add_lt_add_left (by decide) d) rfl <|
    t_if e94 (fun b95 e96 =>
      r_ifT c166_61 b95 <|
      r_aloadn c166_66 f2 <|
      t_bd e96 fun k97 c98 e99 =>
      t_bd e99 fun r100 c101 e102 =>
      c_cal (st2 := [.long r100.1]) (s_cv (as := [.ref s.2.2.1]) (st' := []) c166_67 rfl (gK_ok c98) ⟨Nat.le_of_ble_eq_true rfl, Nat.le_of_ble_eq_true rfl, Nat.le_of_ble_eq_true rfl⟩ rfl rfl) (C162_ok hct hO c101) (Nat.add_lt_add_left (by decide) d) rfl <|
      r_lstore c166_70 <|
      r_aload c166_72 (ld2_ne f4 (by decide) (Or.inl (by decide))) <|
      r_aloadn c166_74 (ld2_ne f1 (by decide) (Or.inl (by decide))) <|
      r_iload c166_75 (ld2_ne f6 (by decide) (Or.inr rfl)) <|
      r_lload c166_77 ld2_eq <|
      t_bd e102 fun k103 c104 e105 =>
      t_bd e105 fun r106 c107 e108 =>
      c_cal (st2 := []) (s_cv (as := [.ref s.2.2.2.2.1, .ref s.2.1, .int s.2.2.2.2.2.2.1, .long r100.1]) (st' := []) c166_79 rfl (gK_ok c104) ⟨Nat.le_of_ble_eq_true rfl, Nat.le_of_ble_eq_true rfl, Nat.le_of_ble_eq_true rfl⟩ rfl rfl) (C163_ok hct hO c107) (Nat.add_lt_add_left (by decide) d) rfl <|
      r_aload c166_82 (ld2_ne f5 (by decide) (Or.inl (by decide))) <|
      r_aloadn c166_84 (ld2_ne f1 (by decide) (Or.inl (by decide))) <|
      r_iload c166_85 (ld2_ne f6 (by decide) (Or.inr rfl)) <|
      r_aloadn c166_87 (ld2_ne f0 (by decide) (Or.inl (by decide))) <|
      t_bd e108 fun r109 c110 e111 =>
      c_gA c166_88 c110 <|
      t_bd e111 fun r112 c113 e114 =>
      c_gFp (ty := .long) (w := false) c166_91 c166_91_t c113 <|
      r_lload c166_94 ld2_eq <|
      r_lsub c166_96 rfl <|
      t_bd e114 fun k115 c116 e117 =>
      t_bd e117 fun r118 c119 e120 =>
      c_cal (st2 := []) (s_cv (as := [.ref s.2.2.2.2.2.1, .ref s.2.1, .int s.2.2.2.2.2.2.1, .long (r112 - r100.1)]) (st' := []) c166_97 rfl (gK_ok c116) ⟨Nat.le_of_ble_eq_true rfl, Nat.le_of_ble_eq_true rfl, Nat.le_of_ble_eq_true rfl⟩ rfl rfl) (C163_ok hct hO c119) (Nat.add_lt_add_left (by decide) d) rfl <|
      r_iinc c166_100 (ld2_ne f6 (by decide) (Or.inr rfl)) <|
      r_goto c166_103 <|
      t_rg e120 g (fun (z : LG166_41 xt ct d q s.1 s.2.1 s.2.2.1 s.2.2.2.1 s.2.2.2.2.1 s.2.2.2.2.2.1 (s.2.2.2.2.2.2.1 + 1) r118) => z _ (ld1_ne (ld2_ne f0 (by decide) (Or.inl (by decide))) (by decide) (Or.inl (by decide))) (ld1_ne (ld2_ne f1 (by decide) (Or.inl (by decide))) (by decide) (Or.inl (by decide))) (ld1_ne (ld2_ne f2 (by decide) (Or.inl (by decide))) (by decide) (Or.inl (by decide))) (ld1_ne (ld2_ne f3 (by decide) (Or.inl (by decide))) (by decide) (Or.inl (by decide))) (ld1_ne (ld2_ne f4 (by decide) (Or.inl (by decide))) (by decide) (Or.inl (by decide))) (ld1_ne (ld2_ne f5 (by decide) (Or.inl (by decide))) (by decide) (Or.inr rfl)) ld1_eq)
    ) (fun b95 e96 =>
      r_ifF c166_61 b95 <|
      r_iconst c166_64 <|
      t_rg e96 g (fun (z : ((-1), r92.2) = q) => (by cases z; exact (r_iret c166_65 rfl)))
    )
  ))
theorem L166_41_ok {xt : mj_X} {ct : Nat → Value} {O : OR} {d N : Nat} (hct : ct 0 = .int 1) (hO : oOK xt ct d O) {x0 : Nat} {x1 : Nat} {x2 : Nat} {x3 : Int32} {x4 : Nat} {x5 : Nat} {x6 : Int32} {H : mj_H} {q : (Int32) × mj_H} (e : L166_41 xt ct O N (x0, x1, x2, x3, x4, x5, x6, H) = some q) : LG166_41 xt ct d q x0 x1 x2 x3 x4 x5 x6 H :=
  t_lp_ok (G := fun s => LG166_41 xt ct d q s.1 s.2.1 s.2.2.1 s.2.2.2.1 s.2.2.2.2.1 s.2.2.2.2.2.1 s.2.2.2.2.2.2.1 s.2.2.2.2.2.2.2) (fun s s' e g => B166_41_ok hct hO e (by obtain ⟨_, _, _, _, _, _, _, _⟩ := s'; exact g)) (fun s e => B166_41_ok hct hO e rfl) N (x0, x1, x2, x3, x4, x5, x6, H) e
/-- DiceOdds$Statement.choose(LDiceOdds$States;LDiceOdds$Bench;I)I -/
def C166 (xt : mj_X) (ct : Nat → Value) (O : OR) (N : Nat) (x0 : Nat) (x1 : Nat) (x2 : Nat) (x3 : Int32) (H : mj_H) : Option ((Int32) × mj_H) :=
  bif mj_c1 .lt x3 then
    J166_9 xt ct O N H
  else
  bif mj_c2 .lt x3 4 then
    (gA H x2 3 10).bind fun r5 =>
    (aA xt H r5 x3).bind fun r8 =>
    (gA H x2 3 11).bind fun r11 =>
    (aA xt H r11 x3).bind fun r14 =>
    (gK H r8 2).bind fun k17 =>
    (C136 xt ct O N r8 H).bind fun r20 =>
    (gK r20 r14 2).bind fun k23 =>
    (C136 xt ct O N r14 r20).bind fun r26 =>
    L166_41 xt ct O N (x0, x1, x2, x3, r8, r14, 0, r26)
  else
  J166_9 xt ct O N H
theorem C166_ok {xt : mj_X} {ct : Nat → Value} {O : OR} {d N : Nat} (hct : ct 0 = .int 1) (hO : oOK xt ct d O) {x0 : Nat} {x1 : Nat} {x2 : Nat} {x3 : Int32} {H : mj_H} {q : (Int32) × mj_H} (e : C166 xt ct O N x0 x1 x2 x3 H = some q) : mj_Run kY xt ct (d + 5) 166 0 (lv_args 0 [.ref x0, .ref x1, .ref x2, .int x3]) [] H (.inl (vI q.1), q.2) := by
  unfold C166 at e
  exact (
  r_iloadn c166_0 rfl <|
  t_if e (fun b1 e2 =>
    r_ifT c166_1 b1 <|
    J166_9_ok hct hO  e2
  ) (fun b1 e2 =>
    r_ifF c166_1 b1 <|
    r_iloadn c166_4 rfl <|
    r_iconst c166_5 <|
    t_if e2 (fun b3 e4 =>
      r_icmpT c166_6 b3 <|
      r_aloadn c166_12 rfl <|
      t_bd e4 fun r5 c6 e7 =>
      c_gA c166_13 c6 <|
      r_iloadn c166_16 rfl <|
      t_bd e7 fun r8 c9 e10 =>
      c_aA c166_17 c9 <|
      r_astore c166_18 <|
      r_aloadn c166_20 (ld1_ne rfl (by decide) (Or.inl (by decide))) <|
      t_bd e10 fun r11 c12 e13 =>
      c_gA c166_21 c12 <|
      r_iloadn c166_24 (ld1_ne rfl (by decide) (Or.inr rfl)) <|
      t_bd e13 fun r14 c15 e16 =>
      c_aA c166_25 c15 <|
      r_astore c166_26 <|
      r_aload c166_28 (ld1_ne ld1_eq (by decide) (Or.inr rfl)) <|
      t_bd e16 fun k17 c18 e19 =>
      t_bd e19 fun r20 c21 e22 =>
      c_cal (st2 := []) (s_cv (as := [.ref r8]) (st' := []) c166_30 rfl (gK_ok c18) ⟨Nat.le_of_ble_eq_true rfl, Nat.le_of_ble_eq_true rfl, Nat.le_of_ble_eq_true rfl⟩ rfl rfl) (C136_ok hct hO c21) (Nat.add_lt_add_left (by decide) d) rfl <|
      r_aload c166_33 ld1_eq <|
      t_bd e22 fun k23 c24 e25 =>
      t_bd e25 fun r26 c27 e28 =>
      c_cal (st2 := []) (s_cv (as := [.ref r14]) (st' := []) c166_35 rfl (gK_ok c24) ⟨Nat.le_of_ble_eq_true rfl, Nat.le_of_ble_eq_true rfl, Nat.le_of_ble_eq_true rfl⟩ rfl rfl) (C136_ok hct hO c27) (Nat.add_lt_add_left (by decide) d) rfl <|
      r_iconst c166_38 <|
      r_istore c166_39 <|
      L166_41_ok hct hO e28 _ (ld1_ne (ld1_ne (ld1_ne rfl (by decide) (Or.inl (by decide))) (by decide) (Or.inl (by decide))) (by decide) (Or.inl (by decide))) (ld1_ne (ld1_ne (ld1_ne rfl (by decide) (Or.inl (by decide))) (by decide) (Or.inl (by decide))) (by decide) (Or.inl (by decide))) (ld1_ne (ld1_ne (ld1_ne rfl (by decide) (Or.inl (by decide))) (by decide) (Or.inl (by decide))) (by decide) (Or.inl (by decide))) (ld1_ne (ld1_ne (ld1_ne rfl (by decide) (Or.inr rfl)) (by decide) (Or.inl (by decide))) (by decide) (Or.inl (by decide))) (ld1_ne (ld1_ne ld1_eq (by decide) (Or.inr rfl)) (by decide) (Or.inl (by decide))) (ld1_ne ld1_eq (by decide) (Or.inr rfl)) ld1_eq
    ) (fun b3 e4 =>
      r_icmpF c166_6 b3 <|
      J166_9_ok hct hO  e4
    )
  ))
def LG170_6 (xt : mj_X) (ct : Nat → Value) (d : Nat) (q : (Int32) × mj_H) (x0 : Nat) (x1 : Nat) (x2 : Nat) (x3 : Int32) (x4 : Int32) (x5 : Int32) (H : mj_H) : Prop := ∀ l, mj_ld l 0 = some (.ref x0) → mj_ld l 1 = some (.ref x1) → mj_ld l 2 = some (.ref x2) → mj_ld l 3 = some (.int x3) → mj_ld l 4 = some (.int x4) → mj_ld l 5 = some (.int x5) → mj_Run kY xt ct (d + 1) 170 6 l [] H (.inl (vI q.1), q.2)
def GG170_6 (xt : mj_X) (ct : Nat → Value) (d : Nat) (q : (Int32) × mj_H) (o : (Nat × Nat × Nat × Int32 × Int32 × Int32 × mj_H) ⊕ ((Int32) × mj_H)) : Prop := match o with
  | .inl (x0, x1, x2, x3, x4, x5, H) => LG170_6 xt ct d q x0 x1 x2 x3 x4 x5 H
  | .inr r => r = q
def J170_40 (xt : mj_X) (ct : Nat → Value) (O : OR) (N : Nat) (x4 : Int32) (H : mj_H) : Option ((Int32) × mj_H) :=
  some (x4, H)
theorem J170_40_ok {xt : mj_X} {ct : Nat → Value} {O : OR} {d N : Nat} (hct : ct 0 = .int 1) (hO : oOK xt ct d O) {l : mj_L} {x4 : Int32} {H : mj_H} {q : (Int32) × mj_H} (f4 : mj_ld l 4 = some (.int x4)) (e : J170_40 xt ct O N x4 H = some q) : mj_Run kY xt ct (d + 1) 170 40 l [] H (.inl (vI q.1), q.2) := by
  unfold J170_40 at e
  exact (
  r_iload c170_40 f4 <|
  (by cases e; exact (r_iret c170_42 rfl)))
def B170_6 (xt : mj_X) (ct : Nat → Value) (O : OR) (N : Nat) (s : Nat × Nat × Nat × Int32 × Int32 × Int32 × mj_H) : Option ((Nat × Nat × Nat × Int32 × Int32 × Int32 × mj_H) ⊕ ((Int32) × mj_H)) :=
  (gI s.2.2.2.2.2.2 s.1 11 2).bind fun r1 =>
  bif mj_c2 .ge s.2.2.2.2.2.1 r1 then
    (J170_40 xt ct O N s.2.2.2.2.1 s.2.2.2.2.2.2).map Sum.inr
  else
  bif mj_c1 .ne s.2.2.2.2.1 then
    (J170_40 xt ct O N s.2.2.2.2.1 s.2.2.2.2.2.2).map Sum.inr
  else
  (gR s.2.2.2.2.2.2 s.1 11 3).bind fun r16 =>
  (O.2.2.2.2.1 r16 s.2.1 s.2.2.1 (s.2.2.2.1 + 1) s.2.2.2.2.2.2).bind fun r19 =>
  some (.inl (s.1, s.2.1, s.2.2.1, s.2.2.2.1, r19.1, (s.2.2.2.2.2.1 + 1), r19.2))
def L170_6 (xt : mj_X) (ct : Nat → Value) (O : OR) (N : Nat) (s : Nat × Nat × Nat × Int32 × Int32 × Int32 × mj_H) : Option ((Int32) × mj_H) := t_lp (B170_6 xt ct O N) N s
theorem B170_6_ok {xt : mj_X} {ct : Nat → Value} {O : OR} {d N : Nat} (hct : ct 0 = .int 1) (hO : oOK xt ct d O) {s : Nat × Nat × Nat × Int32 × Int32 × Int32 × mj_H} {o : (Nat × Nat × Nat × Int32 × Int32 × Int32 × mj_H) ⊕ ((Int32) × mj_H)} {q : (Int32) × mj_H} (e : B170_6 xt ct O N s = some o) (g : GG170_6 xt ct d q o) : LG170_6 xt ct d q s.1 s.2.1 s.2.2.1 s.2.2.2.1 s.2.2.2.2.1 s.2.2.2.2.2.1 s.2.2.2.2.2.2 := by
  unfold B170_6 at e
  exact (fun l f0 f1 f2 f3 f4 f5 =>
  r_iload c170_6 f5 <|
  r_aloadn c170_8 f0 <|
  t_bd e fun r1 c2 e3 =>
  c_gI c170_9 c2 <|
  t_if e3 (fun b4 e5 =>
    r_icmpT c170_12 b4 <|
    t_up e5 fun o6 e7 u8 =>
    (fun (g9 : o6 = q) =>
    by subst g9; exact (J170_40_ok hct hO f4 e7)
    ) (by have := g; rw [u8] at this; exact this)
  ) (fun b4 e5 =>
    r_icmpF c170_12 b4 <|
    r_iload c170_15 f4 <|
    t_if e5 (fun b10 e11 =>
      r_ifT c170_17 b10 <|
      t_up e11 fun o12 e13 u14 =>
      (fun (g15 : o12 = q) =>
      by subst g15; exact (J170_40_ok hct hO f4 e13)
      ) (by have := g; rw [u14] at this; exact this)
    ) (fun b10 e11 =>
      r_ifF c170_17 b10 <|
      r_aloadn c170_20 f0 <|
      t_bd e11 fun r16 c17 e18 =>
      c_gR c170_21 c17 <|
      r_aloadn c170_24 f1 <|
      r_aloadn c170_25 f2 <|
      r_iloadn c170_26 f3 <|
      r_iconst c170_27 <|
      r_iadd c170_28 rfl <|
      t_bd e18 fun r19 c20 e21 =>
      c_cal (st2 := [.int r19.1]) (s_cs (as := [rv r16, .ref s.2.1, .ref s.2.2.1, .int (s.2.2.2.1 + 1)]) (st' := []) c170_29 (by cases (r16) <;> exact ⟨Nat.le_of_ble_eq_true rfl, Nat.le_of_ble_eq_true rfl, Nat.le_of_ble_eq_true rfl⟩) rfl rfl) (hO.2.2.2.2.1 _ _ _ _ _ _ c20) (Nat.lt_add_of_pos_right (by decide)) rfl <|
      r_istore c170_32 <|
      r_iinc c170_34 (ld1_ne f5 (by decide) (Or.inl (by decide))) <|
      r_goto c170_37 <|
      t_rg e21 g (fun (z : LG170_6 xt ct d q s.1 s.2.1 s.2.2.1 s.2.2.2.1 r19.1 (s.2.2.2.2.2.1 + 1) r19.2) => z _ (ld1_ne (ld1_ne f0 (by decide) (Or.inl (by decide))) (by decide) (Or.inl (by decide))) (ld1_ne (ld1_ne f1 (by decide) (Or.inl (by decide))) (by decide) (Or.inl (by decide))) (ld1_ne (ld1_ne f2 (by decide) (Or.inl (by decide))) (by decide) (Or.inl (by decide))) (ld1_ne (ld1_ne f3 (by decide) (Or.inr rfl)) (by decide) (Or.inl (by decide))) (ld1_ne ld1_eq (by decide) (Or.inr rfl)) ld1_eq)
    )
  ))
theorem L170_6_ok {xt : mj_X} {ct : Nat → Value} {O : OR} {d N : Nat} (hct : ct 0 = .int 1) (hO : oOK xt ct d O) {x0 : Nat} {x1 : Nat} {x2 : Nat} {x3 : Int32} {x4 : Int32} {x5 : Int32} {H : mj_H} {q : (Int32) × mj_H} (e : L170_6 xt ct O N (x0, x1, x2, x3, x4, x5, H) = some q) : LG170_6 xt ct d q x0 x1 x2 x3 x4 x5 H :=
  t_lp_ok (G := fun s => LG170_6 xt ct d q s.1 s.2.1 s.2.2.1 s.2.2.2.1 s.2.2.2.2.1 s.2.2.2.2.2.1 s.2.2.2.2.2.2) (fun s s' e g => B170_6_ok hct hO e (by obtain ⟨_, _, _, _, _, _, _⟩ := s'; exact g)) (fun s e => B170_6_ok hct hO e rfl) N (x0, x1, x2, x3, x4, x5, H) e
/-- DiceOdds$Statement.repeat(LDiceOdds$States;LDiceOdds$Bench;I)I -/
def C170 (xt : mj_X) (ct : Nat → Value) (O : OR) (N : Nat) (x0 : Nat) (x1 : Nat) (x2 : Nat) (x3 : Int32) (H : mj_H) : Option ((Int32) × mj_H) :=
  L170_6 xt ct O N (x0, x1, x2, x3, 0, 0, H)
theorem C170_ok {xt : mj_X} {ct : Nat → Value} {O : OR} {d N : Nat} (hct : ct 0 = .int 1) (hO : oOK xt ct d O) {x0 : Nat} {x1 : Nat} {x2 : Nat} {x3 : Int32} {H : mj_H} {q : (Int32) × mj_H} (e : C170 xt ct O N x0 x1 x2 x3 H = some q) : mj_Run kY xt ct (d + 1) 170 0 (lv_args 0 [.ref x0, .ref x1, .ref x2, .int x3]) [] H (.inl (vI q.1), q.2) := by
  unfold C170 at e
  exact (
  r_iconst c170_0 <|
  r_istore c170_1 <|
  r_iconst c170_3 <|
  r_istore c170_4 <|
  L170_6_ok hct hO e _ (ld1_ne (ld1_ne rfl (by decide) (Or.inl (by decide))) (by decide) (Or.inl (by decide))) (ld1_ne (ld1_ne rfl (by decide) (Or.inl (by decide))) (by decide) (Or.inl (by decide))) (ld1_ne (ld1_ne rfl (by decide) (Or.inl (by decide))) (by decide) (Or.inl (by decide))) (ld1_ne (ld1_ne rfl (by decide) (Or.inr rfl)) (by decide) (Or.inl (by decide))) (ld1_ne ld1_eq (by decide) (Or.inr rfl)) ld1_eq)
/-- DiceOdds$States.addWith(LDiceOdds$States;IIIJ)Z -/
def C173 (xt : mj_X) (ct : Nat → Value) (O : OR) (N : Nat) (x0 : Nat) (x1 : Nat) (x2 : Int32) (x3 : Int32) (x4 : Int32) (x5 : Int64) (H : mj_H) : Option ((Int32) × mj_H) :=
  (gK H x0 2).bind fun k1 =>
  (C164 xt ct O N x0 x1 x2 H).bind fun r4 =>
  (gA r4 x0 2 0).bind fun r7 =>
  (gI r4 x0 2 2).bind fun r10 =>
  (sN .int r4 r7 ((r10 * 6) + x3) x4).bind fun H13 =>
  (gA H13 x1 2 1).bind fun r16 =>
  (aL xt H13 r16 x2).bind fun r19 =>
  (gK H13 x0 2).bind fun k22 =>
  (C168 xt ct O N x0 (r19 * x5) H13).bind fun r25 =>
  if narrow .boolean (.int r25.1) = .int r25.1 then
  some (r25.1, r25.2)
  else none
theorem C173_ok {xt : mj_X} {ct : Nat → Value} {O : OR} {d N : Nat} (hct : ct 0 = .int 1) (hO : oOK xt ct d O) {x0 : Nat} {x1 : Nat} {x2 : Int32} {x3 : Int32} {x4 : Int32} {x5 : Int64} {H : mj_H} {q : (Int32) × mj_H} (e : C173 xt ct O N x0 x1 x2 x3 x4 x5 H = some q) : mj_Run kY xt ct (d + 4) 173 0 (lv_args 0 [.ref x0, .ref x1, .int x2, .int x3, .int x4, .long x5]) [] H (.inl (vI q.1), q.2) := by
  unfold C173 at e
  exact (
  r_aloadn c173_0 rfl <|
  r_aloadn c173_1 rfl <|
  r_iloadn c173_2 rfl <|
  t_bd e fun k1 c2 e3 =>
  t_bd e3 fun r4 c5 e6 =>
  c_cal (st2 := []) (s_cv (as := [.ref x0, .ref x1, .int x2]) (st' := []) c173_3 rfl (gK_ok c2) ⟨Nat.le_of_ble_eq_true rfl, Nat.le_of_ble_eq_true rfl, Nat.le_of_ble_eq_true rfl⟩ rfl rfl) (C164_ok hct hO c5) (Nat.add_lt_add_left (by decide) d) rfl <|
  r_aloadn c173_6 rfl <|
  t_bd e6 fun r7 c8 e9 =>
  c_gA c173_7 c8 <|
  r_aloadn c173_10 rfl <|
  t_bd e9 fun r10 c11 e12 =>
  c_gI c173_11 c11 <|
  r_bipush c173_14 <|
  r_imul c173_16 rfl <|
  r_iloadn c173_17 rfl <|
  r_iadd c173_18 rfl <|
  r_iload c173_19 rfl <|
  t_bd e12 fun H13 c14 e15 =>
  c_sI c173_21 c14 <|
  r_aloadn c173_22 rfl <|
  r_aloadn c173_23 rfl <|
  t_bd e15 fun r16 c17 e18 =>
  c_gA c173_24 c17 <|
  r_iloadn c173_27 rfl <|
  t_bd e18 fun r19 c20 e21 =>
  c_aL c173_28 c20 <|
  r_lload c173_29 rfl <|
  r_lmul c173_31 rfl <|
  t_bd e21 fun k22 c23 e24 =>
  t_bd e24 fun r25 c26 e27 =>
  c_cal (st2 := [.int r25.1]) (s_cv (as := [.ref x0, .long (r19 * x5)]) (st' := []) c173_32 rfl (gK_ok c23) ⟨Nat.le_of_ble_eq_true rfl, Nat.le_of_ble_eq_true rfl, Nat.le_of_ble_eq_true rfl⟩ rfl rfl) (C168_ok hct hO c26) (Nat.add_lt_add_left (by decide) d) rfl <|
  t_ck e27 fun z28 e29 =>
  (by cases e29; exact (r_iret c173_35 z28)))
def LG172_3 (xt : mj_X) (ct : Nat → Value) (d : Nat) (q : (Int32) × mj_H) (x0 : Nat) (x1 : Nat) (x2 : Nat) (x3 : Int32) (x4 : Int32) (x5 : Int32) (H : mj_H) : Prop := ∀ l, mj_ld l 0 = some (.ref x0) → mj_ld l 1 = some (.ref x1) → mj_ld l 2 = some (.ref x2) → mj_ld l 3 = some (.int x3) → mj_ld l 4 = some (.int x4) → mj_ld l 5 = some (.int x5) → mj_Run kY xt ct (d + 5) 172 3 l [] H (.inl (vI q.1), q.2)
def GG172_3 (xt : mj_X) (ct : Nat → Value) (d : Nat) (q : (Int32) × mj_H) (o : (Nat × Nat × Nat × Int32 × Int32 × Int32 × mj_H) ⊕ ((Int32) × mj_H)) : Prop := match o with
  | .inl (x0, x1, x2, x3, x4, x5, H) => LG172_3 xt ct d q x0 x1 x2 x3 x4 x5 H
  | .inr r => r = q
def B172_3 (xt : mj_X) (ct : Nat → Value) (O : OR) (N : Nat) (s : Nat × Nat × Nat × Int32 × Int32 × Int32 × mj_H) : Option ((Nat × Nat × Nat × Int32 × Int32 × Int32 × mj_H) ⊕ ((Int32) × mj_H)) :=
  (gA s.2.2.2.2.2.2 s.1 3 2).bind fun r1 =>
  (aI xt s.2.2.2.2.2.2 r1 1).bind fun r4 =>
  bif mj_c2 .ge s.2.2.2.2.2.1 r4 then
    some (.inr (1, s.2.2.2.2.2.2))
  else
  (gA s.2.2.2.2.2.2 s.1 3 0).bind fun r9 =>
  (aI xt s.2.2.2.2.2.2 r9 s.2.2.2.2.2.1).bind fun r12 =>
  (gA s.2.2.2.2.2.2 s.1 3 1).bind fun r15 =>
  (aL xt s.2.2.2.2.2.2 r15 s.2.2.2.2.2.1).bind fun r18 =>
  (gK s.2.2.2.2.2.2 s.2.1 2).bind fun k21 =>
  (C173 xt ct O N s.2.1 s.2.2.1 s.2.2.2.1 s.2.2.2.2.1 r12 r18 s.2.2.2.2.2.2).bind fun r24 =>
  bif mj_c1 .ne r24.1 then
    some (.inl (s.1, s.2.1, s.2.2.1, s.2.2.2.1, s.2.2.2.2.1, (s.2.2.2.2.2.1 + 1), r24.2))
  else
  some (.inr (0, r24.2))
def L172_3 (xt : mj_X) (ct : Nat → Value) (O : OR) (N : Nat) (s : Nat × Nat × Nat × Int32 × Int32 × Int32 × mj_H) : Option ((Int32) × mj_H) := t_lp (B172_3 xt ct O N) N s
theorem B172_3_ok {xt : mj_X} {ct : Nat → Value} {O : OR} {d N : Nat} (hct : ct 0 = .int 1) (hO : oOK xt ct d O) {s : Nat × Nat × Nat × Int32 × Int32 × Int32 × mj_H} {o : (Nat × Nat × Nat × Int32 × Int32 × Int32 × mj_H) ⊕ ((Int32) × mj_H)} {q : (Int32) × mj_H} (e : B172_3 xt ct O N s = some o) (g : GG172_3 xt ct d q o) : LG172_3 xt ct d q s.1 s.2.1 s.2.2.1 s.2.2.2.1 s.2.2.2.2.1 s.2.2.2.2.2.1 s.2.2.2.2.2.2 := by
  unfold B172_3 at e
  exact (fun l f0 f1 f2 f3 f4 f5 =>
  r_iload c172_3 f5 <|
  r_aloadn c172_5 f0 <|
  t_bd e fun r1 c2 e3 =>
  c_gA c172_6 c2 <|
  r_iconst c172_9 <|
  t_bd e3 fun r4 c5 e6 =>
  c_aI c172_10 c5 <|
  t_if e6 (fun b7 e8 =>
    r_icmpT c172_11 b7 <|
    r_iconst c172_47 <|
    t_rg e8 g (fun (z : (1, s.2.2.2.2.2.2) = q) => (by cases z; exact (r_iret c172_48 rfl)))
  ) (fun b7 e8 =>
    r_icmpF c172_11 b7 <|
    r_aloadn c172_14 f1 <|
    r_aloadn c172_15 f2 <|
    r_iloadn c172_16 f3 <|
    r_iload c172_17 f4 <|
    r_aloadn c172_19 f0 <|
    t_bd e8 fun r9 c10 e11 =>
    c_gA c172_20 c10 <|
    r_iload c172_23 f5 <|
    t_bd e11 fun r12 c13 e14 =>
    c_aI c172_25 c13 <|
    r_aloadn c172_26 f0 <|
    t_bd e14 fun r15 c16 e17 =>
    c_gA c172_27 c16 <|
    r_iload c172_30 f5 <|
    t_bd e17 fun r18 c19 e20 =>
    c_aL c172_32 c19 <|
    t_bd e20 fun k21 c22 e23 =>
    t_bd e23 fun r24 c25 e26 =>
    c_cal (st2 := [.int r24.1]) (s_cv (as := [.ref s.2.1, .ref s.2.2.1, .int s.2.2.2.1, .int s.2.2.2.2.1, .int r12, .long r18]) (st' := []) c172_33 rfl (gK_ok c22) ⟨Nat.le_of_ble_eq_true rfl, Nat.le_of_ble_eq_true rfl, Nat.le_of_ble_eq_true rfl⟩ rfl rfl) (C173_ok hct hO c25) (Nat.add_lt_add_left (by decide) d) rfl <|
    t_if e26 (fun b27 e28 =>
      r_ifT c172_36 b27 <|
      r_iinc c172_41 f5 <|
      r_goto c172_44 <|
      t_rg e28 g (fun (z : LG172_3 xt ct d q s.1 s.2.1 s.2.2.1 s.2.2.2.1 s.2.2.2.2.1 (s.2.2.2.2.2.1 + 1) r24.2) => z _ (ld1_ne f0 (by decide) (Or.inl (by decide))) (ld1_ne f1 (by decide) (Or.inl (by decide))) (ld1_ne f2 (by decide) (Or.inl (by decide))) (ld1_ne f3 (by decide) (Or.inl (by decide))) (ld1_ne f4 (by decide) (Or.inr rfl)) ld1_eq)
    ) (fun b27 e28 =>
      r_ifF c172_36 b27 <|
      r_iconst c172_39 <|
      t_rg e28 g (fun (z : (0, r24.2) = q) => (by cases z; exact (r_iret c172_40 rfl)))
    )
  ))
theorem L172_3_ok {xt : mj_X} {ct : Nat → Value} {O : OR} {d N : Nat} (hct : ct 0 = .int 1) (hO : oOK xt ct d O) {x0 : Nat} {x1 : Nat} {x2 : Nat} {x3 : Int32} {x4 : Int32} {x5 : Int32} {H : mj_H} {q : (Int32) × mj_H} (e : L172_3 xt ct O N (x0, x1, x2, x3, x4, x5, H) = some q) : LG172_3 xt ct d q x0 x1 x2 x3 x4 x5 H :=
  t_lp_ok (G := fun s => LG172_3 xt ct d q s.1 s.2.1 s.2.2.1 s.2.2.2.1 s.2.2.2.2.1 s.2.2.2.2.2.1 s.2.2.2.2.2.2) (fun s s' e g => B172_3_ok hct hO e (by obtain ⟨_, _, _, _, _, _, _⟩ := s'; exact g)) (fun s e => B172_3_ok hct hO e rfl) N (x0, x1, x2, x3, x4, x5, H) e
/-- DiceOdds$Bench.giveTo(LDiceOdds$States;LDiceOdds$States;II)Z -/
def C172 (xt : mj_X) (ct : Nat → Value) (O : OR) (N : Nat) (x0 : Nat) (x1 : Nat) (x2 : Nat) (x3 : Int32) (x4 : Int32) (H : mj_H) : Option ((Int32) × mj_H) :=
  L172_3 xt ct O N (x0, x1, x2, x3, x4, 0, H)
theorem C172_ok {xt : mj_X} {ct : Nat → Value} {O : OR} {d N : Nat} (hct : ct 0 = .int 1) (hO : oOK xt ct d O) {x0 : Nat} {x1 : Nat} {x2 : Nat} {x3 : Int32} {x4 : Int32} {H : mj_H} {q : (Int32) × mj_H} (e : C172 xt ct O N x0 x1 x2 x3 x4 H = some q) : mj_Run kY xt ct (d + 5) 172 0 (lv_args 0 [.ref x0, .ref x1, .ref x2, .int x3, .int x4]) [] H (.inl (vI q.1), q.2) := by
  unfold C172 at e
  exact (
  r_iconst c172_0 <|
  r_istore c172_1 <|
  L172_3_ok hct hO e _ (ld1_ne rfl (by decide) (Or.inl (by decide))) (ld1_ne rfl (by decide) (Or.inl (by decide))) (ld1_ne rfl (by decide) (Or.inl (by decide))) (ld1_ne rfl (by decide) (Or.inl (by decide))) (ld1_ne rfl (by decide) (Or.inr rfl)) ld1_eq)
def LG171_15 (xt : mj_X) (ct : Nat → Value) (d : Nat) (q : (Int32) × mj_H) (x0 : Nat) (x1 : Nat) (x2 : Nat) (x3 : Nat) (x4 : Int32) (x5 : Int32) (H : mj_H) : Prop := ∀ l, mj_ld l 0 = some (.ref x0) → mj_ld l 1 = some (.ref x1) → mj_ld l 2 = some (.ref x2) → mj_ld l 3 = some (.ref x3) → mj_ld l 4 = some (.int x4) → mj_ld l 5 = some (.int x5) → mj_Run kY xt ct (d + 6) 171 15 l [] H (.inl (vI q.1), q.2)
def GG171_15 (xt : mj_X) (ct : Nat → Value) (d : Nat) (q : (Int32) × mj_H) (o : (Nat × Nat × Nat × Nat × Int32 × Int32 × mj_H) ⊕ ((Int32) × mj_H)) : Prop := match o with
  | .inl (x0, x1, x2, x3, x4, x5, H) => LG171_15 xt ct d q x0 x1 x2 x3 x4 x5 H
  | .inr r => r = q
def J171_68 (xt : mj_X) (ct : Nat → Value) (O : OR) (N : Nat) (x0 : Nat) (x1 : Nat) (x2 : Nat) (x3 : Nat) (x5 : Int32) (s0 : Int32) (H : mj_H) : Option ((Nat × Nat × Nat × Nat × Int32 × Int32 × mj_H) ⊕ ((Int32) × mj_H)) :=
  some (.inl (x0, x1, x2, x3, s0, (x5 + 1), H))
theorem J171_68_ok {xt : mj_X} {ct : Nat → Value} {O : OR} {d N : Nat} (hct : ct 0 = .int 1) (hO : oOK xt ct d O) {l : mj_L} {x0 : Nat} {x1 : Nat} {x2 : Nat} {x3 : Nat} {x5 : Int32} {s0 : Int32} {H : mj_H} {o : (Nat × Nat × Nat × Nat × Int32 × Int32 × mj_H) ⊕ ((Int32) × mj_H)} {q : (Int32) × mj_H} (f0 : mj_ld l 0 = some (.ref x0)) (f1 : mj_ld l 1 = some (.ref x1)) (f2 : mj_ld l 2 = some (.ref x2)) (f3 : mj_ld l 3 = some (.ref x3)) (f5 : mj_ld l 5 = some (.int x5)) (e : J171_68 xt ct O N x0 x1 x2 x3 x5 s0 H = some o) (g : GG171_15 xt ct d q o) : mj_Run kY xt ct (d + 6) 171 68 l [.int s0] H (.inl (vI q.1), q.2) := by
  unfold J171_68 at e
  exact (
  r_istore c171_68 <|
  r_iinc c171_70 (ld1_ne f5 (by decide) (Or.inl (by decide))) <|
  r_goto c171_73 <|
  t_rg e g (fun (z : LG171_15 xt ct d q x0 x1 x2 x3 s0 (x5 + 1) H) => z _ (ld1_ne (ld1_ne f0 (by decide) (Or.inl (by decide))) (by decide) (Or.inl (by decide))) (ld1_ne (ld1_ne f1 (by decide) (Or.inl (by decide))) (by decide) (Or.inl (by decide))) (ld1_ne (ld1_ne f2 (by decide) (Or.inl (by decide))) (by decide) (Or.inl (by decide))) (ld1_ne (ld1_ne f3 (by decide) (Or.inr rfl)) (by decide) (Or.inl (by decide))) (ld1_ne ld1_eq (by decide) (Or.inr rfl)) ld1_eq))
def J171_67 (xt : mj_X) (ct : Nat → Value) (O : OR) (N : Nat) (x0 : Nat) (x1 : Nat) (x2 : Nat) (x3 : Nat) (x5 : Int32) (H : mj_H) : Option ((Nat × Nat × Nat × Nat × Int32 × Int32 × mj_H) ⊕ ((Int32) × mj_H)) :=
  J171_68 xt ct O N x0 x1 x2 x3 x5 0 H
theorem J171_67_ok {xt : mj_X} {ct : Nat → Value} {O : OR} {d N : Nat} (hct : ct 0 = .int 1) (hO : oOK xt ct d O) {l : mj_L} {x0 : Nat} {x1 : Nat} {x2 : Nat} {x3 : Nat} {x5 : Int32} {H : mj_H} {o : (Nat × Nat × Nat × Nat × Int32 × Int32 × mj_H) ⊕ ((Int32) × mj_H)} {q : (Int32) × mj_H} (f0 : mj_ld l 0 = some (.ref x0)) (f1 : mj_ld l 1 = some (.ref x1)) (f2 : mj_ld l 2 = some (.ref x2)) (f3 : mj_ld l 3 = some (.ref x3)) (f5 : mj_ld l 5 = some (.int x5)) (e : J171_67 xt ct O N x0 x1 x2 x3 x5 H = some o) (g : GG171_15 xt ct d q o) : mj_Run kY xt ct (d + 6) 171 67 l [] H (.inl (vI q.1), q.2) := by
  unfold J171_67 at e
  exact (
  r_iconst c171_67 <|
  J171_68_ok hct hO f0 f1 f2 f3 f5 e g)
def B171_15 (xt : mj_X) (ct : Nat → Value) (O : OR) (N : Nat) (s : Nat × Nat × Nat × Nat × Int32 × Int32 × mj_H) : Option ((Nat × Nat × Nat × Nat × Int32 × Int32 × mj_H) ⊕ ((Int32) × mj_H)) :=
  (gI s.2.2.2.2.2.2 s.2.1 2 2).bind fun r10 =>
  bif mj_c2 .ge s.2.2.2.2.2.1 r10 then
    bif mj_c1 .ne s.2.2.2.2.1 then
      (gK s.2.2.2.2.2.2 s.2.1 2).bind fun k17 =>
      (C165 xt ct O N s.2.1 s.2.2.2.1 s.2.2.2.2.2.2).bind fun r20 =>
      some (.inr (0, r20))
    else
    some (.inr ((-2), s.2.2.2.2.2.2))
  else
  (gA s.2.2.2.2.2.2 s.1 11 1).bind fun r23 =>
  (gK s.2.2.2.2.2.2 s.2.2.1 3).bind fun k26 =>
  (C141 xt ct O N s.2.2.1 r23 s.2.1 s.2.2.2.2.2.1 s.2.2.2.2.2.2).bind fun r29 =>
  bif mj_c1 .ne r29.1 then
    bif mj_c1 .eq s.2.2.2.2.1 then
      J171_67 xt ct O N s.1 s.2.1 s.2.2.1 s.2.2.2.1 s.2.2.2.2.2.1 r29.2
    else
    (gI r29.2 s.1 11 0).bind fun r36 =>
    (gK r29.2 s.2.2.1 3).bind fun k39 =>
    (C172 xt ct O N s.2.2.1 s.2.2.2.1 s.2.1 s.2.2.2.2.2.1 (r36 - 65) r29.2).bind fun r42 =>
    bif mj_c1 .eq r42.1 then
      J171_67 xt ct O N s.1 s.2.1 s.2.2.1 s.2.2.2.1 s.2.2.2.2.2.1 r42.2
    else
    J171_68 xt ct O N s.1 s.2.1 s.2.2.1 s.2.2.2.1 s.2.2.2.2.2.1 1 r42.2
  else
  some (.inr ((-1), r29.2))
def L171_15 (xt : mj_X) (ct : Nat → Value) (O : OR) (N : Nat) (s : Nat × Nat × Nat × Nat × Int32 × Int32 × mj_H) : Option ((Int32) × mj_H) := t_lp (B171_15 xt ct O N) N s
theorem B171_15_ok {xt : mj_X} {ct : Nat → Value} {O : OR} {d N : Nat} (hct : ct 0 = .int 1) (hO : oOK xt ct d O) {s : Nat × Nat × Nat × Nat × Int32 × Int32 × mj_H} {o : (Nat × Nat × Nat × Nat × Int32 × Int32 × mj_H) ⊕ ((Int32) × mj_H)} {q : (Int32) × mj_H} (e : B171_15 xt ct O N s = some o) (g : GG171_15 xt ct d q o) : LG171_15 xt ct d q s.1 s.2.1 s.2.2.1 s.2.2.2.1 s.2.2.2.2.1 s.2.2.2.2.2.1 s.2.2.2.2.2.2 := by
  unfold B171_15 at e
  exact (fun l f0 f1 f2 f3 f4 f5 =>
  r_iload c171_15 f5 <|
  r_aloadn c171_17 f1 <|
  t_bd e fun r10 c11 e12 =>
  c_gI c171_18 c11 <|
  t_if e12 (fun b13 e14 =>
    r_icmpT c171_21 b13 <|
    r_iload c171_76 f4 <|
    t_if e14 (fun b15 e16 =>
      r_ifT c171_78 b15 <|
      r_aloadn c171_84 f1 <|
      r_aloadn c171_85 f3 <|
      t_bd e16 fun k17 c18 e19 =>
      t_bd e19 fun r20 c21 e22 =>
      c_cal (st2 := []) (s_cv (as := [.ref s.2.1, .ref s.2.2.2.1]) (st' := []) c171_86 rfl (gK_ok c18) ⟨Nat.le_of_ble_eq_true rfl, Nat.le_of_ble_eq_true rfl, Nat.le_of_ble_eq_true rfl⟩ rfl rfl) (C165_ok hct hO c21) (Nat.add_lt_add_left (by decide) d) rfl <|
      r_iconst c171_89 <|
      t_rg e22 g (fun (z : (0, r20) = q) => (by cases z; exact (r_iret c171_90 rfl)))
    ) (fun b15 e16 =>
      r_ifF c171_78 b15 <|
      r_bipush c171_81 <|
      t_rg e16 g (fun (z : ((-2), s.2.2.2.2.2.2) = q) => (by cases z; exact (r_iret c171_83 rfl)))
    )
  ) (fun b13 e14 =>
    r_icmpF c171_21 b13 <|
    r_aloadn c171_24 f2 <|
    r_aloadn c171_25 f0 <|
    t_bd e14 fun r23 c24 e25 =>
    c_gA c171_26 c24 <|
    r_aloadn c171_29 f1 <|
    r_iload c171_30 f5 <|
    t_bd e25 fun k26 c27 e28 =>
    t_bd e28 fun r29 c30 e31 =>
    c_cal (st2 := [.int r29.1]) (s_cv (as := [.ref s.2.2.1, .ref r23, .ref s.2.1, .int s.2.2.2.2.2.1]) (st' := []) c171_32 rfl (gK_ok c27) ⟨Nat.le_of_ble_eq_true rfl, Nat.le_of_ble_eq_true rfl, Nat.le_of_ble_eq_true rfl⟩ rfl rfl) (C141_ok hct hO c30) (Nat.add_lt_add_left (by decide) d) rfl <|
    t_if e31 (fun b32 e33 =>
      r_ifT c171_35 b32 <|
      r_iload c171_40 f4 <|
      t_if e33 (fun b34 e35 =>
        r_ifT c171_42 b34 <|
        J171_67_ok hct hO f0 f1 f2 f3 f5 e35 g
      ) (fun b34 e35 =>
        r_ifF c171_42 b34 <|
        r_aloadn c171_45 f2 <|
        r_aloadn c171_46 f3 <|
        r_aloadn c171_47 f1 <|
        r_iload c171_48 f5 <|
        r_aloadn c171_50 f0 <|
        t_bd e35 fun r36 c37 e38 =>
        c_gI c171_51 c37 <|
        r_bipush c171_54 <|
        r_isub c171_56 rfl <|
        t_bd e38 fun k39 c40 e41 =>
        t_bd e41 fun r42 c43 e44 =>
        c_cal (st2 := [.int r42.1]) (s_cv (as := [.ref s.2.2.1, .ref s.2.2.2.1, .ref s.2.1, .int s.2.2.2.2.2.1, .int (r36 - 65)]) (st' := []) c171_57 rfl (gK_ok c40) ⟨Nat.le_of_ble_eq_true rfl, Nat.le_of_ble_eq_true rfl, Nat.le_of_ble_eq_true rfl⟩ rfl rfl) (C172_ok hct hO c43) (Nat.add_lt_add_left (by decide) d) rfl <|
        t_if e44 (fun b45 e46 =>
          r_ifT c171_60 b45 <|
          J171_67_ok hct hO f0 f1 f2 f3 f5 e46 g
        ) (fun b45 e46 =>
          r_ifF c171_60 b45 <|
          r_iconst c171_63 <|
          r_goto c171_64 <|
          J171_68_ok hct hO f0 f1 f2 f3 f5 e46 g
        )
      )
    ) (fun b32 e33 =>
      r_ifF c171_35 b32 <|
      r_iconst c171_38 <|
      t_rg e33 g (fun (z : ((-1), r29.2) = q) => (by cases z; exact (r_iret c171_39 rfl)))
    )
  ))
theorem L171_15_ok {xt : mj_X} {ct : Nat → Value} {O : OR} {d N : Nat} (hct : ct 0 = .int 1) (hO : oOK xt ct d O) {x0 : Nat} {x1 : Nat} {x2 : Nat} {x3 : Nat} {x4 : Int32} {x5 : Int32} {H : mj_H} {q : (Int32) × mj_H} (e : L171_15 xt ct O N (x0, x1, x2, x3, x4, x5, H) = some q) : LG171_15 xt ct d q x0 x1 x2 x3 x4 x5 H :=
  t_lp_ok (G := fun s => LG171_15 xt ct d q s.1 s.2.1 s.2.2.1 s.2.2.2.1 s.2.2.2.2.1 s.2.2.2.2.2.1 s.2.2.2.2.2.2) (fun s s' e g => B171_15_ok hct hO e (by obtain ⟨_, _, _, _, _, _, _⟩ := s'; exact g)) (fun s e => B171_15_ok hct hO e rfl) N (x0, x1, x2, x3, x4, x5, H) e
/-- DiceOdds$Statement.assign(LDiceOdds$States;LDiceOdds$Bench;)I -/
def C171 (xt : mj_X) (ct : Nat → Value) (O : OR) (N : Nat) (x0 : Nat) (x1 : Nat) (x2 : Nat) (H : mj_H) : Option ((Int32) × mj_H) :=
  (gA H x2 3 9).bind fun r1 =>
  (gK H r1 2).bind fun k4 =>
  (C136 xt ct O N r1 H).bind fun r7 =>
  L171_15 xt ct O N (x0, x1, x2, r1, 1, 0, r7)
theorem C171_ok {xt : mj_X} {ct : Nat → Value} {O : OR} {d N : Nat} (hct : ct 0 = .int 1) (hO : oOK xt ct d O) {x0 : Nat} {x1 : Nat} {x2 : Nat} {H : mj_H} {q : (Int32) × mj_H} (e : C171 xt ct O N x0 x1 x2 H = some q) : mj_Run kY xt ct (d + 6) 171 0 (lv_args 0 [.ref x0, .ref x1, .ref x2]) [] H (.inl (vI q.1), q.2) := by
  unfold C171 at e
  exact (
  r_aloadn c171_0 rfl <|
  t_bd e fun r1 c2 e3 =>
  c_gA c171_1 c2 <|
  r_astoren c171_4 <|
  r_aloadn c171_5 ld1_eq <|
  t_bd e3 fun k4 c5 e6 =>
  t_bd e6 fun r7 c8 e9 =>
  c_cal (st2 := []) (s_cv (as := [.ref r1]) (st' := []) c171_6 rfl (gK_ok c5) ⟨Nat.le_of_ble_eq_true rfl, Nat.le_of_ble_eq_true rfl, Nat.le_of_ble_eq_true rfl⟩ rfl rfl) (C136_ok hct hO c8) (Nat.add_lt_add_left (by decide) d) rfl <|
  r_iconst c171_9 <|
  r_istore c171_10 <|
  r_iconst c171_12 <|
  r_istore c171_13 <|
  L171_15_ok hct hO e9 _ (ld1_ne (ld1_ne (ld1_ne rfl (by decide) (Or.inl (by decide))) (by decide) (Or.inl (by decide))) (by decide) (Or.inl (by decide))) (ld1_ne (ld1_ne (ld1_ne rfl (by decide) (Or.inl (by decide))) (by decide) (Or.inl (by decide))) (by decide) (Or.inl (by decide))) (ld1_ne (ld1_ne (ld1_ne rfl (by decide) (Or.inr rfl)) (by decide) (Or.inl (by decide))) (by decide) (Or.inl (by decide))) (ld1_ne (ld1_ne ld1_eq (by decide) (Or.inr rfl)) (by decide) (Or.inl (by decide))) (ld1_ne ld1_eq (by decide) (Or.inr rfl)) ld1_eq)
/-- DiceOdds$Statement.doOnce(LDiceOdds$States;LDiceOdds$Bench;I)I -/
def C139 (xt : mj_X) (ct : Nat → Value) (O : OR) (N : Nat) (x0 : Nat) (x1 : Nat) (x2 : Nat) (x3 : Int32) (H : mj_H) : Option ((Int32) × mj_H) :=
  (gI H x0 11 0).bind fun r1 =>
  bif mj_c2 .eq r1 33 then
    (gK H x0 11).bind fun k6 =>
    (C140 xt ct O N x0 x1 x2 H).bind fun r9 =>
    some (r9.1, r9.2)
  else
  bif mj_c2 .eq r1 42 then
    (gK H x0 11).bind fun k14 =>
    (C170 xt ct O N x0 x1 x2 x3 H).bind fun r17 =>
    some (r17.1, r17.2)
  else
  bif mj_c2 .eq r1 63 then
    (gK H x0 11).bind fun k22 =>
    (C166 xt ct O N x0 x1 x2 x3 H).bind fun r25 =>
    some (r25.1, r25.2)
  else
  (gK H x0 11).bind fun k28 =>
  (C171 xt ct O N x0 x1 x2 H).bind fun r31 =>
  some (r31.1, r31.2)
theorem C139_ok {xt : mj_X} {ct : Nat → Value} {O : OR} {d N : Nat} (hct : ct 0 = .int 1) (hO : oOK xt ct d O) {x0 : Nat} {x1 : Nat} {x2 : Nat} {x3 : Int32} {H : mj_H} {q : (Int32) × mj_H} (e : C139 xt ct O N x0 x1 x2 x3 H = some q) : mj_Run kY xt ct (d + 7) 139 0 (lv_args 0 [.ref x0, .ref x1, .ref x2, .int x3]) [] H (.inl (vI q.1), q.2) := by
  unfold C139 at e
  exact (
  r_aloadn c139_0 rfl <|
  t_bd e fun r1 c2 e3 =>
  c_gI c139_1 c2 <|
  t_if e3 (fun b4 e5 =>
    c_sw c139_4_33 b4 <|
    r_aloadn c139_40 rfl <|
    r_aloadn c139_41 rfl <|
    r_aloadn c139_42 rfl <|
    t_bd e5 fun k6 c7 e8 =>
    t_bd e8 fun r9 c10 e11 =>
    c_cal (st2 := [.int r9.1]) (s_cv (as := [.ref x0, .ref x1, .ref x2]) (st' := []) c139_43 rfl (gK_ok c7) ⟨Nat.le_of_ble_eq_true rfl, Nat.le_of_ble_eq_true rfl, Nat.le_of_ble_eq_true rfl⟩ rfl rfl) (C140_ok hct hO c10) (Nat.add_lt_add_left (by decide) d) rfl <|
    (by cases e11; exact (r_iret c139_46 rfl))
  ) (fun b4 e5 =>
  t_if e5 (fun b12 e13 =>
    c_sw c139_4_42 b12 <|
    r_aloadn c139_55 rfl <|
    r_aloadn c139_56 rfl <|
    r_aloadn c139_57 rfl <|
    r_iloadn c139_58 rfl <|
    t_bd e13 fun k14 c15 e16 =>
    t_bd e16 fun r17 c18 e19 =>
    c_cal (st2 := [.int r17.1]) (s_cv (as := [.ref x0, .ref x1, .ref x2, .int x3]) (st' := []) c139_59 rfl (gK_ok c15) ⟨Nat.le_of_ble_eq_true rfl, Nat.le_of_ble_eq_true rfl, Nat.le_of_ble_eq_true rfl⟩ rfl rfl) (C170_ok hct hO c18) (Nat.add_lt_add_left (by decide) d) rfl <|
    (by cases e19; exact (r_iret c139_62 rfl))
  ) (fun b12 e13 =>
  t_if e13 (fun b20 e21 =>
    c_sw c139_4_63 b20 <|
    r_aloadn c139_47 rfl <|
    r_aloadn c139_48 rfl <|
    r_aloadn c139_49 rfl <|
    r_iloadn c139_50 rfl <|
    t_bd e21 fun k22 c23 e24 =>
    t_bd e24 fun r25 c26 e27 =>
    c_cal (st2 := [.int r25.1]) (s_cv (as := [.ref x0, .ref x1, .ref x2, .int x3]) (st' := []) c139_51 rfl (gK_ok c23) ⟨Nat.le_of_ble_eq_true rfl, Nat.le_of_ble_eq_true rfl, Nat.le_of_ble_eq_true rfl⟩ rfl rfl) (C166_ok hct hO c26) (Nat.add_lt_add_left (by decide) d) rfl <|
    (by cases e27; exact (r_iret c139_54 rfl))
  ) (fun b20 e21 =>
    r_sw (c139_4_d b4 b12 b20) <|
    r_aloadn c139_63 rfl <|
    r_aloadn c139_64 rfl <|
    r_aloadn c139_65 rfl <|
    t_bd e21 fun k28 c29 e30 =>
    t_bd e30 fun r31 c32 e33 =>
    c_cal (st2 := [.int r31.1]) (s_cv (as := [.ref x0, .ref x1, .ref x2]) (st' := []) c139_66 rfl (gK_ok c29) ⟨Nat.le_of_ble_eq_true rfl, Nat.le_of_ble_eq_true rfl, Nat.le_of_ble_eq_true rfl⟩ rfl rfl) (C171_ok hct hO c32) (Nat.add_lt_add_left (by decide) d) rfl <|
    (by cases e33; exact (r_iret c139_69 rfl))
  ))))
def LG138_6 (xt : mj_X) (ct : Nat → Value) (d : Nat) (q : (Int32) × mj_H) (x1 : Nat) (x2 : Nat) (x3 : Int32) (x4 : Int32) (x5 : Option Nat) (H : mj_H) : Prop := ∀ l, mj_ld l 1 = some (.ref x1) → mj_ld l 2 = some (.ref x2) → mj_ld l 3 = some (.int x3) → mj_ld l 4 = some (.int x4) → mj_ld l 5 = some (rv x5) → mj_Run kY xt ct (d + 8) 138 6 l [] H (.inl (vI q.1), q.2)
def GG138_6 (xt : mj_X) (ct : Nat → Value) (d : Nat) (q : (Int32) × mj_H) (o : (Nat × Nat × Int32 × Int32 × (Option Nat) × mj_H) ⊕ ((Int32) × mj_H)) : Prop := match o with
  | .inl (x1, x2, x3, x4, x5, H) => LG138_6 xt ct d q x1 x2 x3 x4 x5 H
  | .inr r => r = q
def J138_63 (xt : mj_X) (ct : Nat → Value) (O : OR) (N : Nat) (x4 : Int32) (H : mj_H) : Option ((Int32) × mj_H) :=
  some (x4, H)
theorem J138_63_ok {xt : mj_X} {ct : Nat → Value} {O : OR} {d N : Nat} (hct : ct 0 = .int 1) (hO : oOK xt ct d O) {l : mj_L} {x4 : Int32} {H : mj_H} {q : (Int32) × mj_H} (f4 : mj_ld l 4 = some (.int x4)) (e : J138_63 xt ct O N x4 H = some q) : mj_Run kY xt ct (d + 8) 138 63 l [] H (.inl (vI q.1), q.2) := by
  unfold J138_63 at e
  exact (
  r_iload c138_63 f4 <|
  (by cases e; exact (r_iret c138_65 rfl)))
def J138_53 (xt : mj_X) (ct : Nat → Value) (O : OR) (N : Nat) (x1 : Nat) (x2 : Nat) (x3 : Int32) (x4 : Int32) (x5 : Option Nat) (H : mj_H) : Option ((Nat × Nat × Int32 × Int32 × (Option Nat) × mj_H) ⊕ ((Int32) × mj_H)) :=
  (x5).bind fun a33 =>
  (gR H a33 11 8).bind fun r36 =>
  some (.inl (x1, x2, x3, x4, r36, H))
theorem J138_53_ok {xt : mj_X} {ct : Nat → Value} {O : OR} {d N : Nat} (hct : ct 0 = .int 1) (hO : oOK xt ct d O) {l : mj_L} {x1 : Nat} {x2 : Nat} {x3 : Int32} {x4 : Int32} {x5 : Option Nat} {H : mj_H} {o : (Nat × Nat × Int32 × Int32 × (Option Nat) × mj_H) ⊕ ((Int32) × mj_H)} {q : (Int32) × mj_H} (f1 : mj_ld l 1 = some (.ref x1)) (f2 : mj_ld l 2 = some (.ref x2)) (f3 : mj_ld l 3 = some (.int x3)) (f4 : mj_ld l 4 = some (.int x4)) (f5 : mj_ld l 5 = some (rv x5)) (e : J138_53 xt ct O N x1 x2 x3 x4 x5 H = some o) (g : GG138_6 xt ct d q o) : mj_Run kY xt ct (d + 8) 138 53 l [] H (.inl (vI q.1), q.2) := by
  unfold J138_53 at e
  exact (
  c_alv f5 c138_53 <|
  t_bd e fun a33 n34 e35 =>
  c_at (st2 := [.ref a33]) (by rw [n34]) <|
  t_bd e35 fun r36 c37 e38 =>
  c_gR c138_55 c37 <|
  c_asv (o := r36) c138_58 <|
  r_goto c138_60 <|
  t_rg e38 g (fun (z : LG138_6 xt ct d q x1 x2 x3 x4 r36 H) => z _ (ld1_ne f1 (by decide) (Or.inl (by decide))) (ld1_ne f2 (by decide) (Or.inl (by decide))) (ld1_ne f3 (by decide) (Or.inl (by decide))) (ld1_ne f4 (by decide) (Or.inr rfl)) ld1_eq))
def B138_6 (xt : mj_X) (ct : Nat → Value) (O : OR) (N : Nat) (s : Nat × Nat × Int32 × Int32 × (Option Nat) × mj_H) : Option ((Nat × Nat × Int32 × Int32 × (Option Nat) × mj_H) ⊕ ((Int32) × mj_H)) :=
  bif Option.isNone s.2.2.2.2.1 then
    (J138_63 xt ct O N s.2.2.2.1 s.2.2.2.2.2).map Sum.inr
  else
  bif mj_c1 .ne s.2.2.2.1 then
    (J138_63 xt ct O N s.2.2.2.1 s.2.2.2.2.2).map Sum.inr
  else
  (gI s.2.2.2.2.2 s.1 2 2).bind fun r13 =>
  bif mj_c1 .le r13 then
    (J138_63 xt ct O N s.2.2.2.1 s.2.2.2.2.2).map Sum.inr
  else
  (s.2.2.2.2.1).bind fun a22 =>
  (gK s.2.2.2.2.2 a22 11).bind fun k25 =>
  (C139 xt ct O N a22 s.1 s.2.1 s.2.2.1 s.2.2.2.2.2).bind fun r28 =>
  bif mj_c1 .ne r28.1 then
    J138_53 xt ct O N s.1 s.2.1 s.2.2.1 r28.1 s.2.2.2.2.1 r28.2
  else
  (gI r28.2 s.2.1 3 12).bind fun r39 =>
  (gI r28.2 s.1 2 2).bind fun r42 =>
  (C18 xt ct O N r39 r42 r28.2).bind fun r45 =>
  (uF r45.2 s.2.1 3 12 (.int r45.1)).bind fun H48 =>
  J138_53 xt ct O N s.1 s.2.1 s.2.2.1 r28.1 s.2.2.2.2.1 H48
def L138_6 (xt : mj_X) (ct : Nat → Value) (O : OR) (N : Nat) (s : Nat × Nat × Int32 × Int32 × (Option Nat) × mj_H) : Option ((Int32) × mj_H) := t_lp (B138_6 xt ct O N) N s
theorem B138_6_ok {xt : mj_X} {ct : Nat → Value} {O : OR} {d N : Nat} (hct : ct 0 = .int 1) (hO : oOK xt ct d O) {s : Nat × Nat × Int32 × Int32 × (Option Nat) × mj_H} {o : (Nat × Nat × Int32 × Int32 × (Option Nat) × mj_H) ⊕ ((Int32) × mj_H)} {q : (Int32) × mj_H} (e : B138_6 xt ct O N s = some o) (g : GG138_6 xt ct d q o) : LG138_6 xt ct d q s.1 s.2.1 s.2.2.1 s.2.2.2.1 s.2.2.2.2.1 s.2.2.2.2.2 := by
  unfold B138_6 at e
  exact (fun l f1 f2 f3 f4 f5 =>
  c_alv f5 c138_6 <|
  t_if e (fun b1 e2 =>
    c_nul c138_8 b1 <|
    t_up e2 fun o3 e4 u5 =>
    (fun (g6 : o3 = q) =>
    by subst g6; exact (J138_63_ok hct hO f4 e4)
    ) (by have := g; rw [u5] at this; exact this)
  ) (fun b1 e2 =>
    c_nuf c138_8 b1 <|
    r_iload c138_11 f4 <|
    t_if e2 (fun b7 e8 =>
      r_ifT c138_13 b7 <|
      t_up e8 fun o9 e10 u11 =>
      (fun (g12 : o9 = q) =>
      by subst g12; exact (J138_63_ok hct hO f4 e10)
      ) (by have := g; rw [u11] at this; exact this)
    ) (fun b7 e8 =>
      r_ifF c138_13 b7 <|
      r_aloadn c138_16 f1 <|
      t_bd e8 fun r13 c14 e15 =>
      c_gI c138_17 c14 <|
      t_if e15 (fun b16 e17 =>
        r_ifT c138_20 b16 <|
        t_up e17 fun o18 e19 u20 =>
        (fun (g21 : o18 = q) =>
        by subst g21; exact (J138_63_ok hct hO f4 e19)
        ) (by have := g; rw [u20] at this; exact this)
      ) (fun b16 e17 =>
        r_ifF c138_20 b16 <|
        c_alv f5 c138_23 <|
        r_aloadn c138_25 f1 <|
        r_aloadn c138_26 f2 <|
        r_iloadn c138_27 f3 <|
        t_bd e17 fun a22 n23 e24 =>
        c_at (st2 := [.int s.2.2.1, .ref s.2.1, .ref s.1, .ref a22]) (by rw [n23]) <|
        t_bd e24 fun k25 c26 e27 =>
        t_bd e27 fun r28 c29 e30 =>
        c_cal (st2 := [.int r28.1]) (s_cv (as := [.ref a22, .ref s.1, .ref s.2.1, .int s.2.2.1]) (st' := []) c138_28 rfl (gK_ok c26) ⟨Nat.le_of_ble_eq_true rfl, Nat.le_of_ble_eq_true rfl, Nat.le_of_ble_eq_true rfl⟩ rfl rfl) (C139_ok hct hO c29) (Nat.add_lt_add_left (by decide) d) rfl <|
        r_istore c138_31 <|
        r_iload c138_33 ld1_eq <|
        t_if e30 (fun b31 e32 =>
          r_ifT c138_35 b31 <|
          J138_53_ok hct hO (ld1_ne f1 (by decide) (Or.inl (by decide))) (ld1_ne f2 (by decide) (Or.inl (by decide))) (ld1_ne f3 (by decide) (Or.inr rfl)) ld1_eq (ld1_ne f5 (by decide) (Or.inl (by decide))) e32 g
        ) (fun b31 e32 =>
          r_ifF c138_35 b31 <|
          r_aloadn c138_38 (ld1_ne f2 (by decide) (Or.inl (by decide))) <|
          r_aloadn c138_39 (ld1_ne f2 (by decide) (Or.inl (by decide))) <|
          t_bd e32 fun r39 c40 e41 =>
          c_gI c138_40 c40 <|
          r_aloadn c138_43 (ld1_ne f1 (by decide) (Or.inl (by decide))) <|
          t_bd e41 fun r42 c43 e44 =>
          c_gI c138_44 c43 <|
          t_bd e44 fun r45 c46 e47 =>
          c_cal (st2 := [.int r45.1, .ref s.2.1]) (s_cs (as := [.int r39, .int r42]) (st' := [.ref s.2.1]) c138_47 ⟨Nat.le_of_ble_eq_true rfl, Nat.le_of_ble_eq_true rfl, Nat.le_of_ble_eq_true rfl⟩ rfl rfl) (C18_ok hct hO c46) (Nat.add_lt_add_left (by decide) d) rfl <|
          t_bd e47 fun H48 c49 e50 =>
          c_uF c138_50 ⟨rfl, rfl⟩ c49 <|
          J138_53_ok hct hO (ld1_ne f1 (by decide) (Or.inl (by decide))) (ld1_ne f2 (by decide) (Or.inl (by decide))) (ld1_ne f3 (by decide) (Or.inr rfl)) ld1_eq (ld1_ne f5 (by decide) (Or.inl (by decide))) e50 g
        )
      )
    )
  ))
theorem L138_6_ok {xt : mj_X} {ct : Nat → Value} {O : OR} {d N : Nat} (hct : ct 0 = .int 1) (hO : oOK xt ct d O) {x1 : Nat} {x2 : Nat} {x3 : Int32} {x4 : Int32} {x5 : Option Nat} {H : mj_H} {q : (Int32) × mj_H} (e : L138_6 xt ct O N (x1, x2, x3, x4, x5, H) = some q) : LG138_6 xt ct d q x1 x2 x3 x4 x5 H :=
  t_lp_ok (G := fun s => LG138_6 xt ct d q s.1 s.2.1 s.2.2.1 s.2.2.2.1 s.2.2.2.2.1 s.2.2.2.2.2) (fun s s' e g => B138_6_ok hct hO e (by obtain ⟨_, _, _, _, _, _⟩ := s'; exact g)) (fun s e => B138_6_ok hct hO e rfl) N (x1, x2, x3, x4, x5, H) e
/-- DiceOdds$Statement.doAll(LDiceOdds$Statement;LDiceOdds$States;LDiceOdds$Bench;I)I -/
def C138 (xt : mj_X) (ct : Nat → Value) (O : OR) (N : Nat) (x0 : Option Nat) (x1 : Nat) (x2 : Nat) (x3 : Int32) (H : mj_H) : Option ((Int32) × mj_H) :=
  L138_6 xt ct O N (x1, x2, x3, 0, x0, H)
theorem C138_ok {xt : mj_X} {ct : Nat → Value} {O : OR} {d N : Nat} (hct : ct 0 = .int 1) (hO : oOK xt ct d O) {x0 : Option Nat} {x1 : Nat} {x2 : Nat} {x3 : Int32} {H : mj_H} {q : (Int32) × mj_H} (e : C138 xt ct O N x0 x1 x2 x3 H = some q) : mj_Run kY xt ct (d + 8) 138 0 (lv_args 0 [rv x0, .ref x1, .ref x2, .int x3]) [] H (.inl (vI q.1), q.2) := by
  unfold C138 at e
  exact (
  r_iconst c138_0 <|
  r_istore c138_1 <|
  c_alvn (ld1_ne rfl (by decide) (Or.inl (by decide))) c138_3 <|
  c_asv (o := x0) c138_4 <|
  L138_6_ok hct hO e _ (ld1_ne (ld1_ne (by cases x0 <;> rfl) (by decide) (Or.inl (by decide))) (by decide) (Or.inl (by decide))) (ld1_ne (ld1_ne (by cases x0 <;> rfl) (by decide) (Or.inl (by decide))) (by decide) (Or.inl (by decide))) (ld1_ne (ld1_ne (by cases x0 <;> rfl) (by decide) (Or.inr rfl)) (by decide) (Or.inl (by decide))) (ld1_ne ld1_eq (by decide) (Or.inr rfl)) ld1_eq)
def LG53_16 (xt : mj_X) (ct : Nat → Value) (d : Nat) (q : (Int32) × mj_H) (x0 : Int32) (x1 : Int32) (x2 : Int32) (x3 : Int32) (H : mj_H) : Prop := ∀ l, mj_ld l 0 = some (.int x0) → mj_ld l 1 = some (.int x1) → mj_ld l 2 = some (.int x2) → mj_ld l 3 = some (.int x3) → mj_Run kY xt ct (d + 1) 53 16 l [] H (.inl (vI q.1), q.2)
def GG53_16 (xt : mj_X) (ct : Nat → Value) (d : Nat) (q : (Int32) × mj_H) (o : (Int32 × Int32 × Int32 × Int32 × mj_H) ⊕ ((Int32) × mj_H)) : Prop := match o with
  | .inl (x0, x1, x2, x3, H) => LG53_16 xt ct d q x0 x1 x2 x3 H
  | .inr r => r = q
def B53_16 (xt : mj_X) (ct : Nat → Value) (O : OR) (N : Nat) (s : Int32 × Int32 × Int32 × Int32 × mj_H) : Option ((Int32 × Int32 × Int32 × Int32 × mj_H) ⊕ ((Int32) × mj_H)) :=
  bif mj_c2 .ge s.2.2.2.1 10 then
    some (.inr ((10 + s.2.1), s.2.2.2.2))
  else
  bif mj_c2 .le s.1 s.2.2.1 then
    some (.inl (s.1, s.2.1, (10 * s.2.2.1), (s.2.2.2.1 + 1), s.2.2.2.2))
  else
  some (.inr ((s.2.2.2.1 + s.2.1), s.2.2.2.2))
def L53_16 (xt : mj_X) (ct : Nat → Value) (O : OR) (N : Nat) (s : Int32 × Int32 × Int32 × Int32 × mj_H) : Option ((Int32) × mj_H) := t_lp (B53_16 xt ct O N) N s
theorem B53_16_ok {xt : mj_X} {ct : Nat → Value} {O : OR} {d N : Nat} (hct : ct 0 = .int 1) (hO : oOK xt ct d O) {s : Int32 × Int32 × Int32 × Int32 × mj_H} {o : (Int32 × Int32 × Int32 × Int32 × mj_H) ⊕ ((Int32) × mj_H)} {q : (Int32) × mj_H} (e : B53_16 xt ct O N s = some o) (g : GG53_16 xt ct d q o) : LG53_16 xt ct d q s.1 s.2.1 s.2.2.1 s.2.2.2.1 s.2.2.2.2 := by
  unfold B53_16 at e
  exact (fun l f0 f1 f2 f3 =>
  r_iloadn c53_16 f3 <|
  r_bipush c53_17 <|
  t_if e (fun b3 e4 =>
    r_icmpT c53_19 b3 <|
    r_bipush c53_42 <|
    r_iloadn c53_44 f1 <|
    r_iadd c53_45 rfl <|
    t_rg e4 g (fun (z : ((10 + s.2.1), s.2.2.2.2) = q) => (by cases z; exact (r_iret c53_46 rfl)))
  ) (fun b3 e4 =>
    r_icmpF c53_19 b3 <|
    r_iloadn c53_22 f0 <|
    r_iloadn c53_23 f2 <|
    t_if e4 (fun b5 e6 =>
      r_icmpT c53_24 b5 <|
      r_bipush c53_31 <|
      r_iloadn c53_33 f2 <|
      r_imul c53_34 rfl <|
      r_istoren c53_35 <|
      r_iinc c53_36 (ld1_ne f3 (by decide) (Or.inl (by decide))) <|
      r_goto c53_39 <|
      t_rg e6 g (fun (z : LG53_16 xt ct d q s.1 s.2.1 (10 * s.2.2.1) (s.2.2.2.1 + 1) s.2.2.2.2) => z _ (ld1_ne (ld1_ne f0 (by decide) (Or.inl (by decide))) (by decide) (Or.inl (by decide))) (ld1_ne (ld1_ne f1 (by decide) (Or.inr rfl)) (by decide) (Or.inl (by decide))) (ld1_ne ld1_eq (by decide) (Or.inr rfl)) ld1_eq)
    ) (fun b5 e6 =>
      r_icmpF c53_24 b5 <|
      r_iloadn c53_27 f3 <|
      r_iloadn c53_28 f1 <|
      r_iadd c53_29 rfl <|
      t_rg e6 g (fun (z : ((s.2.2.2.1 + s.2.1), s.2.2.2.2) = q) => (by cases z; exact (r_iret c53_30 rfl)))
    )
  ))
theorem L53_16_ok {xt : mj_X} {ct : Nat → Value} {O : OR} {d N : Nat} (hct : ct 0 = .int 1) (hO : oOK xt ct d O) {x0 : Int32} {x1 : Int32} {x2 : Int32} {x3 : Int32} {H : mj_H} {q : (Int32) × mj_H} (e : L53_16 xt ct O N (x0, x1, x2, x3, H) = some q) : LG53_16 xt ct d q x0 x1 x2 x3 H :=
  t_lp_ok (G := fun s => LG53_16 xt ct d q s.1 s.2.1 s.2.2.1 s.2.2.2.1 s.2.2.2.2) (fun s s' e g => B53_16_ok hct hO e (by obtain ⟨_, _, _, _, _⟩ := s'; exact g)) (fun s e => B53_16_ok hct hO e rfl) N (x0, x1, x2, x3, H) e
def J53_11 (xt : mj_X) (ct : Nat → Value) (O : OR) (N : Nat) (x0 : Int32) (x1 : Int32) (H : mj_H) : Option ((Int32) × mj_H) :=
  L53_16 xt ct O N (x0, x1, (-10), 1, H)
theorem J53_11_ok {xt : mj_X} {ct : Nat → Value} {O : OR} {d N : Nat} (hct : ct 0 = .int 1) (hO : oOK xt ct d O) {l : mj_L} {x0 : Int32} {x1 : Int32} {H : mj_H} {q : (Int32) × mj_H} (f0 : mj_ld l 0 = some (.int x0)) (f1 : mj_ld l 1 = some (.int x1)) (e : J53_11 xt ct O N x0 x1 H = some q) : mj_Run kY xt ct (d + 1) 53 11 l [] H (.inl (vI q.1), q.2) := by
  unfold J53_11 at e
  exact (
  r_bipush c53_11 <|
  r_istoren c53_13 <|
  r_iconst c53_14 <|
  r_istoren c53_15 <|
  L53_16_ok hct hO e _ (ld1_ne (ld1_ne f0 (by decide) (Or.inl (by decide))) (by decide) (Or.inl (by decide))) (ld1_ne (ld1_ne f1 (by decide) (Or.inr rfl)) (by decide) (Or.inl (by decide))) (ld1_ne ld1_eq (by decide) (Or.inr rfl)) ld1_eq)
/-- java.lang.Integer.stringSize(I)I -/
def C53 (xt : mj_X) (ct : Nat → Value) (O : OR) (N : Nat) (x0 : Int32) (H : mj_H) : Option ((Int32) × mj_H) :=
  bif mj_c1 .lt x0 then
    J53_11 xt ct O N x0 1 H
  else
  J53_11 xt ct O N (-x0) 0 H
theorem C53_ok {xt : mj_X} {ct : Nat → Value} {O : OR} {d N : Nat} (hct : ct 0 = .int 1) (hO : oOK xt ct d O) {x0 : Int32} {H : mj_H} {q : (Int32) × mj_H} (e : C53 xt ct O N x0 H = some q) : mj_Run kY xt ct (d + 1) 53 0 (lv_args 0 [.int x0]) [] H (.inl (vI q.1), q.2) := by
  unfold C53 at e
  exact (
  r_iconst c53_0 <|
  r_istoren c53_1 <|
  r_iloadn c53_2 (ld1_ne rfl (by decide) (Or.inr rfl)) <|
  t_if e (fun b1 e2 =>
    r_ifT c53_3 b1 <|
    J53_11_ok hct hO (ld1_ne rfl (by decide) (Or.inr rfl)) ld1_eq e2
  ) (fun b1 e2 =>
    r_ifF c53_3 b1 <|
    r_iconst c53_6 <|
    r_istoren c53_7 <|
    r_iloadn c53_8 (ld1_ne (ld1_ne rfl (by decide) (Or.inr rfl)) (by decide) (Or.inr rfl)) <|
    r_ineg c53_9 rfl <|
    r_istoren c53_10 <|
    J53_11_ok hct hO ld1_eq (ld1_ne ld1_eq (by decide) (Or.inl (by decide))) e2
  ))
def LG54_22 (xt : mj_X) (ct : Nat → Value) (d : Nat) (q : (Int32) × mj_H) (x0 : Int32) (x2 : Nat) (x5 : Int32) (x6 : Int32) (H : mj_H) : Prop := ∀ l, mj_ld l 0 = some (.int x0) → mj_ld l 2 = some (.ref x2) → mj_ld l 5 = some (.int x5) → mj_ld l 6 = some (.int x6) → mj_Run kY xt ct (d + 1) 54 22 l [] H (.inl (vI q.1), q.2)
def GG54_22 (xt : mj_X) (ct : Nat → Value) (d : Nat) (q : (Int32) × mj_H) (o : (Int32 × Nat × Int32 × Int32 × mj_H) ⊕ ((Int32) × mj_H)) : Prop := match o with
  | .inl (x0, x2, x5, x6, H) => LG54_22 xt ct d q x0 x2 x5 x6 H
  | .inr r => r = q
def J54_118 (xt : mj_X) (ct : Nat → Value) (O : OR) (N : Nat) (x5 : Int32) (H : mj_H) : Option ((Int32) × mj_H) :=
  some (x5, H)
theorem J54_118_ok {xt : mj_X} {ct : Nat → Value} {O : OR} {d N : Nat} (hct : ct 0 = .int 1) (hO : oOK xt ct d O) {l : mj_L} {x5 : Int32} {H : mj_H} {q : (Int32) × mj_H} (f5 : mj_ld l 5 = some (.int x5)) (e : J54_118 xt ct O N x5 H = some q) : mj_Run kY xt ct (d + 1) 54 118 l [] H (.inl (vI q.1), q.2) := by
  unfold J54_118 at e
  exact (
  r_iload c54_118 f5 <|
  (by cases e; exact (r_iret c54_120 rfl)))
def J54_104 (xt : mj_X) (ct : Nat → Value) (O : OR) (N : Nat) (x2 : Nat) (x5 : Int32) (x6 : Int32) (H : mj_H) : Option ((Int32) × mj_H) :=
  bif mj_c1 .eq x6 then
    J54_118 xt ct O N x5 H
  else
  (sN .byte H x2 (x5 + (-1)) 45).bind fun H20 =>
  J54_118 xt ct O N (x5 + (-1)) H20
theorem J54_104_ok {xt : mj_X} {ct : Nat → Value} {O : OR} {d N : Nat} (hct : ct 0 = .int 1) (hO : oOK xt ct d O) {l : mj_L} {x2 : Nat} {x5 : Int32} {x6 : Int32} {H : mj_H} {q : (Int32) × mj_H} (f2 : mj_ld l 2 = some (.ref x2)) (f5 : mj_ld l 5 = some (.int x5)) (f6 : mj_ld l 6 = some (.int x6)) (e : J54_104 xt ct O N x2 x5 x6 H = some q) : mj_Run kY xt ct (d + 1) 54 104 l [] H (.inl (vI q.1), q.2) := by
  unfold J54_104 at e
  exact (
  r_iload c54_104 f6 <|
  t_if e (fun b18 e19 =>
    r_ifT c54_106 b18 <|
    J54_118_ok hct hO f5 e19
  ) (fun b18 e19 =>
    r_ifF c54_106 b18 <|
    r_aloadn c54_109 f2 <|
    r_iinc c54_110 f5 <|
    r_iload c54_113 ld1_eq <|
    r_bipush c54_115 <|
    t_bd e19 fun H20 c21 e22 =>
    c_sB c54_117 c21 <|
    J54_118_ok hct hO ld1_eq e22
  ))
def B54_22 (xt : mj_X) (ct : Nat → Value) (O : OR) (N : Nat) (s : Int32 × Nat × Int32 × Int32 × mj_H) : Option ((Int32 × Nat × Int32 × Int32 × mj_H) ⊕ ((Int32) × mj_H)) :=
  bif mj_c2 .gt s.1 (-100) then
    (vtA (ct 2)).bind fun r7 =>
    (aB xt s.2.2.2.2 r7 (-s.1)).bind fun r10 =>
    (sN .byte s.2.2.2.2 s.2.1 (s.2.2.1 + (-1)) r10).bind fun H13 =>
    bif mj_c2 .ge s.1 (-9) then
      (J54_104 xt ct O N s.2.1 (s.2.2.1 + (-1)) s.2.2.2.1 H13).map Sum.inr
    else
    (vtA (ct 3)).bind fun r27 =>
    (aB xt H13 r27 (-s.1)).bind fun r30 =>
    (sN .byte H13 s.2.1 ((s.2.2.1 + (-1)) + (-1)) r30).bind fun H33 =>
    (J54_104 xt ct O N s.2.1 ((s.2.2.1 + (-1)) + (-1)) s.2.2.2.1 H33).map Sum.inr
  else
  (vtA (ct 2)).bind fun r40 =>
  (aB xt s.2.2.2.2 r40 (((s.1 / 100) * 100) - s.1)).bind fun r43 =>
  (sN .byte s.2.2.2.2 s.2.1 (s.2.2.1 + (-1)) r43).bind fun H46 =>
  (vtA (ct 3)).bind fun r49 =>
  (aB xt H46 r49 (((s.1 / 100) * 100) - s.1)).bind fun r52 =>
  (sN .byte H46 s.2.1 ((s.2.2.1 + (-1)) + (-1)) r52).bind fun H55 =>
  some (.inl ((s.1 / 100), s.2.1, ((s.2.2.1 + (-1)) + (-1)), s.2.2.2.1, H55))
def L54_22 (xt : mj_X) (ct : Nat → Value) (O : OR) (N : Nat) (s : Int32 × Nat × Int32 × Int32 × mj_H) : Option ((Int32) × mj_H) := t_lp (B54_22 xt ct O N) N s
theorem B54_22_ok {xt : mj_X} {ct : Nat → Value} {O : OR} {d N : Nat} (hct : ct 0 = .int 1) (hO : oOK xt ct d O) {s : Int32 × Nat × Int32 × Int32 × mj_H} {o : (Int32 × Nat × Int32 × Int32 × mj_H) ⊕ ((Int32) × mj_H)} {q : (Int32) × mj_H} (e : B54_22 xt ct O N s = some o) (g : GG54_22 xt ct d q o) : LG54_22 xt ct d q s.1 s.2.1 s.2.2.1 s.2.2.2.1 s.2.2.2.2 := by
  unfold B54_22 at e
  exact (fun l f0 f2 f5 f6 =>
  r_iloadn c54_22 f0 <|
  r_bipush c54_23 <|
  t_if e (fun b5 e6 =>
    r_icmpT c54_25 b5 <|
    r_aloadn c54_72 f2 <|
    r_iinc c54_73 f5 <|
    r_iload c54_76 ld1_eq <|
    t_bd e6 fun r7 c8 e9 =>
    c_gsA c8 c54_78 <|
    r_iloadn c54_81 (ld1_ne f0 (by decide) (Or.inl (by decide))) <|
    r_ineg c54_82 rfl <|
    t_bd e9 fun r10 c11 e12 =>
    c_aB c54_83 c11 <|
    t_bd e12 fun H13 c14 e15 =>
    c_sB c54_84 c14 <|
    r_iloadn c54_85 (ld1_ne f0 (by decide) (Or.inl (by decide))) <|
    r_bipush c54_86 <|
    t_if e15 (fun b16 e17 =>
      r_icmpT c54_88 b16 <|
      t_up e17 fun o23 e24 u25 =>
      (fun (g26 : o23 = q) =>
      by subst g26; exact (J54_104_ok hct hO (ld1_ne f2 (by decide) (Or.inl (by decide))) ld1_eq (ld1_ne f6 (by decide) (Or.inl (by decide))) e24)
      ) (by have := g; rw [u25] at this; exact this)
    ) (fun b16 e17 =>
      r_icmpF c54_88 b16 <|
      r_aloadn c54_91 (ld1_ne f2 (by decide) (Or.inl (by decide))) <|
      r_iinc c54_92 ld1_eq <|
      r_iload c54_95 ld1_eq <|
      t_bd e17 fun r27 c28 e29 =>
      c_gsA c28 c54_97 <|
      r_iloadn c54_100 (ld1_ne (ld1_ne f0 (by decide) (Or.inl (by decide))) (by decide) (Or.inl (by decide))) <|
      r_ineg c54_101 rfl <|
      t_bd e29 fun r30 c31 e32 =>
      c_aB c54_102 c31 <|
      t_bd e32 fun H33 c34 e35 =>
      c_sB c54_103 c34 <|
      t_up e35 fun o36 e37 u38 =>
      (fun (g39 : o36 = q) =>
      by subst g39; exact (J54_104_ok hct hO (ld1_ne (ld1_ne f2 (by decide) (Or.inl (by decide))) (by decide) (Or.inl (by decide))) ld1_eq (ld1_ne (ld1_ne f6 (by decide) (Or.inl (by decide))) (by decide) (Or.inl (by decide))) e37)
      ) (by have := g; rw [u38] at this; exact this)
    )
  ) (fun b5 e6 =>
    r_icmpF c54_25 b5 <|
    r_iloadn c54_28 f0 <|
    r_bipush c54_29 <|
    r_idiv c54_31 (by decide) rfl <|
    r_istoren c54_32 <|
    r_iloadn c54_33 ld1_eq <|
    r_bipush c54_34 <|
    r_imul c54_36 rfl <|
    r_iloadn c54_37 (ld1_ne f0 (by decide) (Or.inl (by decide))) <|
    r_isub c54_38 rfl <|
    r_istore c54_39 <|
    r_iloadn c54_41 (ld1_ne ld1_eq (by decide) (Or.inr rfl)) <|
    r_istoren c54_42 <|
    r_aloadn c54_43 (ld1_ne (ld1_ne (ld1_ne f2 (by decide) (Or.inr rfl)) (by decide) (Or.inl (by decide))) (by decide) (Or.inl (by decide))) <|
    r_iinc c54_44 (ld1_ne (ld1_ne (ld1_ne f5 (by decide) (Or.inl (by decide))) (by decide) (Or.inl (by decide))) (by decide) (Or.inl (by decide))) <|
    r_iload c54_47 ld1_eq <|
    t_bd e6 fun r40 c41 e42 =>
    c_gsA c41 c54_49 <|
    r_iload c54_52 (ld1_ne (ld1_ne ld1_eq (by decide) (Or.inl (by decide))) (by decide) (Or.inr rfl)) <|
    t_bd e42 fun r43 c44 e45 =>
    c_aB c54_54 c44 <|
    t_bd e45 fun H46 c47 e48 =>
    c_sB c54_55 c47 <|
    r_aloadn c54_56 (ld1_ne (ld1_ne (ld1_ne (ld1_ne f2 (by decide) (Or.inr rfl)) (by decide) (Or.inl (by decide))) (by decide) (Or.inl (by decide))) (by decide) (Or.inl (by decide))) <|
    r_iinc c54_57 ld1_eq <|
    r_iload c54_60 ld1_eq <|
    t_bd e48 fun r49 c50 e51 =>
    c_gsA c50 c54_62 <|
    r_iload c54_65 (ld1_ne (ld1_ne (ld1_ne ld1_eq (by decide) (Or.inl (by decide))) (by decide) (Or.inr rfl)) (by decide) (Or.inr rfl)) <|
    t_bd e51 fun r52 c53 e54 =>
    c_aB c54_67 c53 <|
    t_bd e54 fun H55 c56 e57 =>
    c_sB c54_68 c56 <|
    r_goto c54_69 <|
    t_rg e57 g (fun (z : LG54_22 xt ct d q (s.1 / 100) s.2.1 ((s.2.2.1 + (-1)) + (-1)) s.2.2.2.1 H55) => z _ (ld1_ne (ld1_ne ld1_eq (by decide) (Or.inl (by decide))) (by decide) (Or.inl (by decide))) (ld1_ne (ld1_ne (ld1_ne (ld1_ne (ld1_ne f2 (by decide) (Or.inr rfl)) (by decide) (Or.inl (by decide))) (by decide) (Or.inl (by decide))) (by decide) (Or.inl (by decide))) (by decide) (Or.inl (by decide))) ld1_eq (ld1_ne (ld1_ne (ld1_ne (ld1_ne (ld1_ne f6 (by decide) (Or.inl (by decide))) (by decide) (Or.inl (by decide))) (by decide) (Or.inl (by decide))) (by decide) (Or.inl (by decide))) (by decide) (Or.inl (by decide))))
  ))
theorem L54_22_ok {xt : mj_X} {ct : Nat → Value} {O : OR} {d N : Nat} (hct : ct 0 = .int 1) (hO : oOK xt ct d O) {x0 : Int32} {x2 : Nat} {x5 : Int32} {x6 : Int32} {H : mj_H} {q : (Int32) × mj_H} (e : L54_22 xt ct O N (x0, x2, x5, x6, H) = some q) : LG54_22 xt ct d q x0 x2 x5 x6 H :=
  t_lp_ok (G := fun s => LG54_22 xt ct d q s.1 s.2.1 s.2.2.1 s.2.2.2.1 s.2.2.2.2) (fun s s' e g => B54_22_ok hct hO e (by obtain ⟨_, _, _, _, _⟩ := s'; exact g)) (fun s e => B54_22_ok hct hO e rfl) N (x0, x2, x5, x6, H) e
def J54_12 (xt : mj_X) (ct : Nat → Value) (O : OR) (N : Nat) (x0 : Int32) (x2 : Nat) (x5 : Int32) (s0 : Int32) (H : mj_H) : Option ((Int32) × mj_H) :=
  bif mj_c1 .ne s0 then
    L54_22 xt ct O N (x0, x2, x5, s0, H)
  else
  L54_22 xt ct O N ((-x0), x2, x5, s0, H)
theorem J54_12_ok {xt : mj_X} {ct : Nat → Value} {O : OR} {d N : Nat} (hct : ct 0 = .int 1) (hO : oOK xt ct d O) {l : mj_L} {x0 : Int32} {x2 : Nat} {x5 : Int32} {s0 : Int32} {H : mj_H} {q : (Int32) × mj_H} (f0 : mj_ld l 0 = some (.int x0)) (f2 : mj_ld l 2 = some (.ref x2)) (f5 : mj_ld l 5 = some (.int x5)) (e : J54_12 xt ct O N x0 x2 x5 s0 H = some q) : mj_Run kY xt ct (d + 1) 54 12 l [.int s0] H (.inl (vI q.1), q.2) := by
  unfold J54_12 at e
  exact (
  r_istore c54_12 <|
  r_iload c54_14 ld1_eq <|
  t_if e (fun b3 e4 =>
    r_ifT c54_16 b3 <|
    L54_22_ok hct hO e4 _ (ld1_ne f0 (by decide) (Or.inl (by decide))) (ld1_ne f2 (by decide) (Or.inl (by decide))) (ld1_ne f5 (by decide) (Or.inr rfl)) ld1_eq
  ) (fun b3 e4 =>
    r_ifF c54_16 b3 <|
    r_iloadn c54_19 (ld1_ne f0 (by decide) (Or.inl (by decide))) <|
    r_ineg c54_20 rfl <|
    r_istoren c54_21 <|
    L54_22_ok hct hO e4 _ ld1_eq (ld1_ne (ld1_ne f2 (by decide) (Or.inl (by decide))) (by decide) (Or.inl (by decide))) (ld1_ne (ld1_ne f5 (by decide) (Or.inr rfl)) (by decide) (Or.inl (by decide))) (ld1_ne ld1_eq (by decide) (Or.inl (by decide)))
  ))
/-- java.lang.Integer.getChars(II[B)I -/
def C54 (xt : mj_X) (ct : Nat → Value) (O : OR) (N : Nat) (x0 : Int32) (x1 : Int32) (x2 : Nat) (H : mj_H) : Option ((Int32) × mj_H) :=
  bif mj_c1 .ge x0 then
    J54_12 xt ct O N x0 x2 x1 0 H
  else
  J54_12 xt ct O N x0 x2 x1 1 H
theorem C54_ok {xt : mj_X} {ct : Nat → Value} {O : OR} {d N : Nat} (hct : ct 0 = .int 1) (hO : oOK xt ct d O) {x0 : Int32} {x1 : Int32} {x2 : Nat} {H : mj_H} {q : (Int32) × mj_H} (e : C54 xt ct O N x0 x1 x2 H = some q) : mj_Run kY xt ct (d + 1) 54 0 (lv_args 0 [.int x0, .int x1, .ref x2]) [] H (.inl (vI q.1), q.2) := by
  unfold C54 at e
  exact (
  r_iloadn c54_0 rfl <|
  r_istore c54_1 <|
  r_iloadn c54_3 (ld1_ne rfl (by decide) (Or.inl (by decide))) <|
  t_if e (fun b1 e2 =>
    r_ifT c54_4 b1 <|
    r_iconst c54_11 <|
    J54_12_ok hct hO (ld1_ne rfl (by decide) (Or.inl (by decide))) (ld1_ne rfl (by decide) (Or.inl (by decide))) ld1_eq e2
  ) (fun b1 e2 =>
    r_ifF c54_4 b1 <|
    r_iconst c54_7 <|
    r_goto c54_8 <|
    J54_12_ok hct hO (ld1_ne rfl (by decide) (Or.inl (by decide))) (ld1_ne rfl (by decide) (Or.inl (by decide))) ld1_eq e2
  ))
def J52_48 (xt : mj_X) (ct : Nat → Value) (O : OR) (N : Nat) (x0 : Nat) (x3 : Int32) (H : mj_H) : Option ((Nat) × mj_H) :=
  (uF H x0 0 3 (.int x3)).bind fun H30 =>
  some (x0, H30)
theorem J52_48_ok {xt : mj_X} {ct : Nat → Value} {O : OR} {d N : Nat} (hct : ct 0 = .int 1) (hO : oOK xt ct d O) {l : mj_L} {x0 : Nat} {x3 : Int32} {H : mj_H} {q : (Nat) × mj_H} (f0 : mj_ld l 0 = some (.ref x0)) (f3 : mj_ld l 3 = some (.int x3)) (e : J52_48 xt ct O N x0 x3 H = some q) : mj_Run kY xt ct (d + 5) 52 48 l [] H (.inl (vA q.1), q.2) := by
  unfold J52_48 at e
  exact (
  r_aloadn c52_48 f0 <|
  r_iloadn c52_49 f3 <|
  t_bd e fun H30 c31 e32 =>
  c_uF c52_50 ⟨rfl, rfl⟩ c31 <|
  r_aloadn c52_53 f0 <|
  (by cases e32; exact (r_aret c52_54)))
/-- java.lang.AbstractStringBuilder.append(I)Ljava/lang/AbstractStringBuilder; -/
def C52 (xt : mj_X) (ct : Nat → Value) (O : OR) (N : Nat) (x0 : Nat) (x1 : Int32) (H : mj_H) : Option ((Nat) × mj_H) :=
  (gI H x0 0 3).bind fun r1 =>
  (C53 xt ct O N x1 H).bind fun r4 =>
  (gK r4.2 x0 0).bind fun k7 =>
  (C15 xt ct O N x0 (r1 + r4.1) r4.2).bind fun r10 =>
  (gK r10 x0 0).bind fun k13 =>
  (C22 xt ct O N x0 r10).bind fun r16 =>
  bif mj_c1 .eq r16.1 then
    (gA r16.2 x0 0 0).bind fun r21 =>
    none
  else
  (gA r16.2 x0 0 0).bind fun r24 =>
  (C54 xt ct O N x1 (r1 + r4.1) r24 r16.2).bind fun r27 =>
  J52_48 xt ct O N x0 (r1 + r4.1) r27.2
theorem C52_ok {xt : mj_X} {ct : Nat → Value} {O : OR} {d N : Nat} (hct : ct 0 = .int 1) (hO : oOK xt ct d O) {x0 : Nat} {x1 : Int32} {H : mj_H} {q : (Nat) × mj_H} (e : C52 xt ct O N x0 x1 H = some q) : mj_Run kY xt ct (d + 5) 52 0 (lv_args 0 [.ref x0, .int x1]) [] H (.inl (vA q.1), q.2) := by
  unfold C52 at e
  exact (
  r_aloadn c52_0 rfl <|
  t_bd e fun r1 c2 e3 =>
  c_gI c52_1 c2 <|
  r_istoren c52_4 <|
  r_iloadn c52_5 ld1_eq <|
  r_iloadn c52_6 (ld1_ne rfl (by decide) (Or.inr rfl)) <|
  t_bd e3 fun r4 c5 e6 =>
  c_cal (st2 := [.int r4.1, .int r1]) (s_cs (as := [.int x1]) (st' := [.int r1]) c52_7 ⟨Nat.le_of_ble_eq_true rfl, Nat.le_of_ble_eq_true rfl, Nat.le_of_ble_eq_true rfl⟩ rfl rfl) (C53_ok hct hO c5) (Nat.add_lt_add_left (by decide) d) rfl <|
  r_iadd c52_10 rfl <|
  r_istoren c52_11 <|
  r_aloadn c52_12 (ld1_ne (ld1_ne rfl (by decide) (Or.inl (by decide))) (by decide) (Or.inl (by decide))) <|
  r_iloadn c52_13 ld1_eq <|
  t_bd e6 fun k7 c8 e9 =>
  t_bd e9 fun r10 c11 e12 =>
  c_cal (st2 := []) (s_cv (as := [.ref x0, .int (r1 + r4.1)]) (st' := []) c52_14 rfl (gK_ok c8) ⟨Nat.le_of_ble_eq_true rfl, Nat.le_of_ble_eq_true rfl, Nat.le_of_ble_eq_true rfl⟩ rfl rfl) (C15_ok hct hO c11) (Nat.add_lt_add_left (by decide) d) rfl <|
  r_aloadn c52_17 (ld1_ne (ld1_ne rfl (by decide) (Or.inl (by decide))) (by decide) (Or.inl (by decide))) <|
  t_bd e12 fun k13 c14 e15 =>
  t_bd e15 fun r16 c17 e18 =>
  c_cal (st2 := [.int r16.1]) (s_cv (as := [.ref x0]) (st' := []) c52_18 rfl (gK_ok c14) ⟨Nat.le_of_ble_eq_true rfl, Nat.le_of_ble_eq_true rfl, Nat.le_of_ble_eq_true rfl⟩ rfl rfl) (C22_ok hct hO c17) (Nat.add_lt_add_left (by decide) d) rfl <|
  t_if e18 (fun b19 e20 =>
    r_ifT c52_21 b19 <|
    r_iloadn c52_37 (ld1_ne (ld1_ne rfl (by decide) (Or.inr rfl)) (by decide) (Or.inl (by decide))) <|
    r_iloadn c52_38 (ld1_ne ld1_eq (by decide) (Or.inr rfl)) <|
    r_iloadn c52_39 ld1_eq <|
    r_aloadn c52_40 (ld1_ne (ld1_ne rfl (by decide) (Or.inl (by decide))) (by decide) (Or.inl (by decide))) <|
    t_bd e20 fun r21 c22 e23 =>
    c_gA c52_41 c22 <|
    t_no e23
  ) (fun b19 e20 =>
    r_ifF c52_21 b19 <|
    r_iloadn c52_24 (ld1_ne (ld1_ne rfl (by decide) (Or.inr rfl)) (by decide) (Or.inl (by decide))) <|
    r_iloadn c52_25 ld1_eq <|
    r_aloadn c52_26 (ld1_ne (ld1_ne rfl (by decide) (Or.inl (by decide))) (by decide) (Or.inl (by decide))) <|
    t_bd e20 fun r24 c25 e26 =>
    c_gA c52_27 c25 <|
    t_bd e26 fun r27 c28 e29 =>
    c_cal (st2 := [.int r27.1]) (s_cs (as := [.int x1, .int (r1 + r4.1), .ref r24]) (st' := []) c52_30 ⟨Nat.le_of_ble_eq_true rfl, Nat.le_of_ble_eq_true rfl, Nat.le_of_ble_eq_true rfl⟩ rfl rfl) (C54_ok hct hO c28) (Nat.add_lt_add_left (by decide) d) rfl <|
    r_pop c52_33 rfl <|
    r_goto c52_34 <|
    J52_48_ok hct hO (ld1_ne (ld1_ne rfl (by decide) (Or.inl (by decide))) (by decide) (Or.inl (by decide))) ld1_eq e29
  ))
