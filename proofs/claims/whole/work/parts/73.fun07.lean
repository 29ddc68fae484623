def J292_35 (N : Nat)  (s0 : Int32) (S : mS) : Option (Int32 × mS) :=
  some (s0, S)
theorem J292_35_ok {xt : mj_X} {ct : Nat → Value} {a : Nat} {ra : Nat → Nat} {d N : Nat} {l : mj_L}  {s0 : Int32} {S : mS} {q : Int32 × mS} (h0 : mj_ld l 0 = some (.ref a)) (e : J292_35 N  s0 S = some q) : MR xt ct a ra (d + 4) 292 35 l [.int s0] S (.inl (some (.int q.1))) q.2 := by
  unfold J292_35 at e
  exact (
  M_ri (Option.some.inj e) (fun _ => r_iret c292_35 rfl))
/-- wrongOutcome(II)I -/
def M292 (N : Nat) (x1 : Int32) (x2 : Int32) (S : mS) : Option (Int32 × mS) :=
  (M290 N x1 S).bind fun r1 =>
  bif mj_c1 .le r1.1 then
    if 0 ≤ (x1).toInt ∧ (x1).toInt < mN 58 then
    (M205 N x2 0 ((r1.2.2.1 58 (x1).toInt.toNat) - 1) r1.2).bind fun r8 =>
    bif mj_c1 .ne r8.1 then
      J292_35 N 0 r8.2
    else
    J292_35 N 3 r8.2
    else none
  else
  J292_35 N r1.1 r1.2
theorem M292_ok {xt : mj_X} {ct : Nat → Value} {a : Nat} {ra : Nat → Nat} {d N : Nat} {x1 : Int32} {x2 : Int32} {S : mS} {q : Int32 × mS} (e : M292 N x1 x2 S = some q) : MR xt ct a ra (d + 4) 292 0 (lv_args 0 [.ref a, .int x1, .int x2]) [] S (.inl (some (.int q.1))) q.2 := by
  unfold M292 at e
  exact (
  M_of (fun _ _ H => r_aloadn c292_0 rfl <| r_iloadn c292_1 rfl <| H) <|
  t_bd e fun r1 c2 e3 =>
  M_cv (as := [.ref a, .int x1]) (st' := [.int r1.1]) (v := (some (.int r1.1))) c292_2 rfl ⟨Nat.le_of_ble_eq_true rfl, Nat.le_of_ble_eq_true rfl, Nat.le_of_ble_eq_true rfl⟩ rfl rfl (M290_ok (d := d) c2) (Nat.add_lt_add_left (by decide) d) <|
  M_of (fun _ _ H => r_istoren c292_5 <| r_iloadn c292_6 ld1_eq <| H) <|
  t_if e3 (fun b4 e5 =>
    M_of (fun _ _ H => r_ifT c292_7 b4 <| H) <|
    M_of (fun _ _ H => r_iloadn c292_14 (ld1_ne rfl (by decide) (Or.inr rfl)) <| r_iconst c292_15 <| r_aloadn c292_16 (ld1_ne rfl (by decide) (Or.inl (by decide))) <| H) <|
    M_geta (j := 58) c292_17 (by decide) <|
    M_of (fun _ _ H => r_iloadn c292_20 (ld1_ne rfl (by decide) (Or.inl (by decide))) <| H) <|
    t_ck e5 fun i6 e7 =>
    M_iald (j := 58) (v := (r1.2.2.1 58 (x1).toInt.toNat)) c292_21 (by decide) i6 rfl <|
    M_of (fun _ _ H => r_iconst c292_22 <| r_isub c292_23 rfl <| H) <|
    t_bd e7 fun r8 c9 e10 =>
    M_cs (as := [.int x2, .int 0, .int ((r1.2.2.1 58 (x1).toInt.toNat) - 1)]) (st' := [.int r8.1]) (v := (some (.int r8.1))) c292_24 ⟨Nat.le_of_ble_eq_true rfl, Nat.le_of_ble_eq_true rfl, Nat.le_of_ble_eq_true rfl⟩ rfl rfl (M205_ok (d := d) c9) (Nat.add_lt_add_left (by decide) d) <|
    t_if e10 (fun b11 e12 =>
      M_of (fun _ _ H => r_ifT c292_27 b11 <| H) <|
      M_of (fun _ _ H => r_iconst c292_34 <| H) <|
      J292_35_ok (ld1_ne rfl (by decide) (Or.inl (by decide))) e12
    ) (fun b11 e12 =>
      M_of (fun _ _ H => r_ifF c292_27 b11 <| H) <|
      M_of (fun _ _ H => r_iconst c292_30 <| r_goto c292_31 <| H) <|
      J292_35_ok (ld1_ne rfl (by decide) (Or.inl (by decide))) e12
    )
  ) (fun b4 e5 =>
    M_of (fun _ _ H => r_ifF c292_7 b4 <| H) <|
    M_of (fun _ _ H => r_iloadn c292_10 ld1_eq <| r_goto c292_11 <| H) <|
    J292_35_ok (ld1_ne rfl (by decide) (Or.inl (by decide))) e5
  ))
def J291_32 (N : Nat)  (s0 : Int32) (S : mS) : Option (Int32 × mS) :=
  some (s0, S)
theorem J291_32_ok {xt : mj_X} {ct : Nat → Value} {a : Nat} {ra : Nat → Nat} {d N : Nat} {l : mj_L}  {s0 : Int32} {S : mS} {q : Int32 × mS} (h0 : mj_ld l 0 = some (.ref a)) (e : J291_32 N  s0 S = some q) : MR xt ct a ra (d + 5) 291 32 l [.int s0] S (.inl (some (.int q.1))) q.2 := by
  unfold J291_32 at e
  exact (
  M_ri (Option.some.inj e) (fun _ => r_iret c291_32 rfl))
/-- outcome(II)I -/
def M291 (N : Nat) (x1 : Int32) (x2 : Int32) (S : mS) : Option (Int32 × mS) :=
  (M292 N x1 x2 S).bind fun r1 =>
  bif mj_c1 .le r1.1 then
    if 0 ≤ (((64 * x1) + x2)).toInt ∧ (((64 * x1) + x2)).toInt < mN 59 then
    J291_32 N (r1.2.2.1 59 (((64 * x1) + x2)).toInt.toNat) (m_sV r1.2 0 r1.1)
    else none
  else
  J291_32 N 0 (m_sV r1.2 0 r1.1)
theorem M291_ok {xt : mj_X} {ct : Nat → Value} {a : Nat} {ra : Nat → Nat} {d N : Nat} {x1 : Int32} {x2 : Int32} {S : mS} {q : Int32 × mS} (e : M291 N x1 x2 S = some q) : MR xt ct a ra (d + 5) 291 0 (lv_args 0 [.ref a, .int x1, .int x2]) [] S (.inl (some (.int q.1))) q.2 := by
  unfold M291 at e
  exact (
  M_of (fun _ _ H => r_aloadn c291_0 rfl <| r_aloadn c291_1 rfl <| r_iloadn c291_2 rfl <| r_iloadn c291_3 rfl <| H) <|
  t_bd e fun r1 c2 e3 =>
  M_cv (as := [.ref a, .int x1, .int x2]) (st' := [.int r1.1, .ref a]) (v := (some (.int r1.1))) c291_4 rfl ⟨Nat.le_of_ble_eq_true rfl, Nat.le_of_ble_eq_true rfl, Nat.le_of_ble_eq_true rfl⟩ rfl rfl (M292_ok (d := d) c2) (Nat.add_lt_add_left (by decide) d) <|
  M_put c291_7 (by decide) <|
  M_of (fun _ _ H => r_aloadn c291_10 rfl <| H) <|
  M_get (v := r1.1) c291_11 (by decide) rfl <|
  t_if e3 (fun b4 e5 =>
    M_of (fun _ _ H => r_ifT c291_14 b4 <| H) <|
    M_of (fun _ _ H => r_aloadn c291_21 rfl <| H) <|
    M_geta (j := 59) c291_22 (by decide) <|
    M_of (fun _ _ H => r_bipush c291_25 <| r_iloadn c291_27 rfl <| r_imul c291_28 rfl <| r_iloadn c291_29 rfl <| r_iadd c291_30 rfl <| H) <|
    t_ck e5 fun i6 e7 =>
    M_iald (j := 59) (v := (r1.2.2.1 59 (((64 * x1) + x2)).toInt.toNat)) c291_31 (by decide) i6 rfl <|
    J291_32_ok rfl e7
  ) (fun b4 e5 =>
    M_of (fun _ _ H => r_ifF c291_14 b4 <| H) <|
    M_of (fun _ _ H => r_iconst c291_17 <| r_goto c291_18 <| H) <|
    J291_32_ok rfl e5
  ))
def J293_32 (N : Nat)  (s0 : Int64) (S : mS) : Option (Int64 × mS) :=
  some (s0, S)
theorem J293_32_ok {xt : mj_X} {ct : Nat → Value} {a : Nat} {ra : Nat → Nat} {d N : Nat} {l : mj_L}  {s0 : Int64} {S : mS} {q : Int64 × mS} (h0 : mj_ld l 0 = some (.ref a)) (e : J293_32 N  s0 S = some q) : MR xt ct a ra (d + 5) 293 32 l [.long s0] S (.inl (some (.long q.1))) q.2 := by
  unfold J293_32 at e
  exact (
  M_rl (Option.some.inj e) (fun _ => r_lret c293_32))
/-- ways(II)J -/
def M293 (N : Nat) (x1 : Int32) (x2 : Int32) (S : mS) : Option (Int64 × mS) :=
  (M292 N x1 x2 S).bind fun r1 =>
  bif mj_c1 .le r1.1 then
    if 0 ≤ (((64 * x1) + x2)).toInt ∧ (((64 * x1) + x2)).toInt < mN 60 then
    J293_32 N (r1.2.2.2 60 (((64 * x1) + x2)).toInt.toNat) (m_sV r1.2 0 r1.1)
    else none
  else
  J293_32 N 0 (m_sV r1.2 0 r1.1)
theorem M293_ok {xt : mj_X} {ct : Nat → Value} {a : Nat} {ra : Nat → Nat} {d N : Nat} {x1 : Int32} {x2 : Int32} {S : mS} {q : Int64 × mS} (e : M293 N x1 x2 S = some q) : MR xt ct a ra (d + 5) 293 0 (lv_args 0 [.ref a, .int x1, .int x2]) [] S (.inl (some (.long q.1))) q.2 := by
  unfold M293 at e
  exact (
  M_of (fun _ _ H => r_aloadn c293_0 rfl <| r_aloadn c293_1 rfl <| r_iloadn c293_2 rfl <| r_iloadn c293_3 rfl <| H) <|
  t_bd e fun r1 c2 e3 =>
  M_cv (as := [.ref a, .int x1, .int x2]) (st' := [.int r1.1, .ref a]) (v := (some (.int r1.1))) c293_4 rfl ⟨Nat.le_of_ble_eq_true rfl, Nat.le_of_ble_eq_true rfl, Nat.le_of_ble_eq_true rfl⟩ rfl rfl (M292_ok (d := d) c2) (Nat.add_lt_add_left (by decide) d) <|
  M_put c293_7 (by decide) <|
  M_of (fun _ _ H => r_aloadn c293_10 rfl <| H) <|
  M_get (v := r1.1) c293_11 (by decide) rfl <|
  t_if e3 (fun b4 e5 =>
    M_of (fun _ _ H => r_ifT c293_14 b4 <| H) <|
    M_of (fun _ _ H => r_aloadn c293_21 rfl <| H) <|
    M_geta (j := 60) c293_22 (by decide) <|
    M_of (fun _ _ H => r_bipush c293_25 <| r_iloadn c293_27 rfl <| r_imul c293_28 rfl <| r_iloadn c293_29 rfl <| r_iadd c293_30 rfl <| H) <|
    t_ck e5 fun i6 e7 =>
    M_lald (j := 60) (v := (r1.2.2.2 60 (((64 * x1) + x2)).toInt.toNat)) c293_31 (by decide) i6 rfl <|
    J293_32_ok rfl e7
  ) (fun b4 e5 =>
    M_of (fun _ _ H => r_ifF c293_14 b4 <| H) <|
    M_of (fun _ _ H => r_lconst c293_17 <| r_goto c293_18 <| H) <|
    J293_32_ok rfl e5
  ))
def J294_26 (N : Nat)  (s0 : Int64) (S : mS) : Option (Int64 × mS) :=
  some (s0, S)
theorem J294_26_ok {xt : mj_X} {ct : Nat → Value} {a : Nat} {ra : Nat → Nat} {d N : Nat} {l : mj_L}  {s0 : Int64} {S : mS} {q : Int64 × mS} (h0 : mj_ld l 0 = some (.ref a)) (e : J294_26 N  s0 S = some q) : MR xt ct a ra (d + 4) 294 26 l [.long s0] S (.inl (some (.long q.1))) q.2 := by
  unfold J294_26 at e
  exact (
  M_rl (Option.some.inj e) (fun _ => r_lret c294_26))
/-- total(I)J -/
def M294 (N : Nat) (x1 : Int32) (S : mS) : Option (Int64 × mS) :=
  (M290 N x1 S).bind fun r1 =>
  bif mj_c1 .le r1.1 then
    if 0 ≤ (x1).toInt ∧ (x1).toInt < mN 61 then
    J294_26 N (r1.2.2.2 61 (x1).toInt.toNat) (m_sV r1.2 0 r1.1)
    else none
  else
  J294_26 N 0 (m_sV r1.2 0 r1.1)
theorem M294_ok {xt : mj_X} {ct : Nat → Value} {a : Nat} {ra : Nat → Nat} {d N : Nat} {x1 : Int32} {S : mS} {q : Int64 × mS} (e : M294 N x1 S = some q) : MR xt ct a ra (d + 4) 294 0 (lv_args 0 [.ref a, .int x1]) [] S (.inl (some (.long q.1))) q.2 := by
  unfold M294 at e
  exact (
  M_of (fun _ _ H => r_aloadn c294_0 rfl <| r_aloadn c294_1 rfl <| r_iloadn c294_2 rfl <| H) <|
  t_bd e fun r1 c2 e3 =>
  M_cv (as := [.ref a, .int x1]) (st' := [.int r1.1, .ref a]) (v := (some (.int r1.1))) c294_3 rfl ⟨Nat.le_of_ble_eq_true rfl, Nat.le_of_ble_eq_true rfl, Nat.le_of_ble_eq_true rfl⟩ rfl rfl (M290_ok (d := d) c2) (Nat.add_lt_add_left (by decide) d) <|
  M_put c294_6 (by decide) <|
  M_of (fun _ _ H => r_aloadn c294_9 rfl <| H) <|
  M_get (v := r1.1) c294_10 (by decide) rfl <|
  t_if e3 (fun b4 e5 =>
    M_of (fun _ _ H => r_ifT c294_13 b4 <| H) <|
    M_of (fun _ _ H => r_aloadn c294_20 rfl <| H) <|
    M_geta (j := 61) c294_21 (by decide) <|
    M_of (fun _ _ H => r_iloadn c294_24 rfl <| H) <|
    t_ck e5 fun i6 e7 =>
    M_lald (j := 61) (v := (r1.2.2.2 61 (x1).toInt.toNat)) c294_25 (by decide) i6 rfl <|
    J294_26_ok rfl e7
  ) (fun b4 e5 =>
    M_of (fun _ _ H => r_ifF c294_13 b4 <| H) <|
    M_of (fun _ _ H => r_lconst c294_16 <| r_goto c294_17 <| H) <|
    J294_26_ok rfl e5
  ))
def LG295_46 (xt : mj_X) (ct : Nat → Value) (a : Nat) (ra : Nat → Nat) (d : Nat) (q : Int64 × mS) (x1 : Int32) (x2 : Int32) (x3 : Int64) (x5 : Int32) (S : mS) : Prop := ∀ l, mj_ld l 0 = some (.ref a) → mj_ld l 1 = some (.int x1) → mj_ld l 2 = some (.int x2) → mj_ld l 3 = some (.long x3) → mj_ld l 5 = some (.int x5) → MR xt ct a ra (d + 3) 295 46 l [] S (.inl (some (.long q.1))) q.2
def GG295_46 (xt : mj_X) (ct : Nat → Value) (a : Nat) (ra : Nat → Nat) (d : Nat) (q : Int64 × mS) (o : (Int32 × Int32 × Int64 × Int32 × mS) ⊕ (Int64 × mS)) : Prop := match o with
  | .inl (x1, x2, x3, x5, S) => LG295_46 xt ct a ra d q x1 x2 x3 x5 S
  | .inr r => r = q
def J295_111 (N : Nat) (x3 : Int64)  (S : mS) : Option (Int64 × mS) :=
  some (x3, S)
theorem J295_111_ok {xt : mj_X} {ct : Nat → Value} {a : Nat} {ra : Nat → Nat} {d N : Nat} {l : mj_L} {x3 : Int64}  {S : mS} {q : Int64 × mS} (h0 : mj_ld l 0 = some (.ref a)) (h3 : mj_ld l 3 = some (.long x3)) (e : J295_111 N x3  S = some q) : MR xt ct a ra (d + 3) 295 111 l [] S (.inl (some (.long q.1))) q.2 := by
  unfold J295_111 at e
  exact (
  M_of (fun _ _ H => r_lloadn c295_111 h3 <| H) <|
  M_rl (Option.some.inj e) (fun _ => r_lret c295_112))
def J295_102 (N : Nat) (x1 : Int32) (x2 : Int32) (x5 : Int32) (s0 : Int64) (s1 : Int64) (s2 : Int64) (S : mS) : Option ((Int32 × Int32 × Int64 × Int32 × mS) ⊕ (Int64 × mS)) :=
  some (.inl (x1, x2, (s2 + (s1 * s0)), (x5 + 1), S))
theorem J295_102_ok {xt : mj_X} {ct : Nat → Value} {a : Nat} {ra : Nat → Nat} {d N : Nat} {l : mj_L} {x1 : Int32} {x2 : Int32} {x5 : Int32} {s0 : Int64} {s1 : Int64} {s2 : Int64} {S : mS} {o : (Int32 × Int32 × Int64 × Int32 × mS) ⊕ (Int64 × mS)} {q : Int64 × mS} (h0 : mj_ld l 0 = some (.ref a)) (h1 : mj_ld l 1 = some (.int x1)) (h2 : mj_ld l 2 = some (.int x2)) (h5 : mj_ld l 5 = some (.int x5)) (e : J295_102 N x1 x2 x5 s0 s1 s2 S = some o) (g : GG295_46 xt ct a ra d q o) : MR xt ct a ra (d + 3) 295 102 l [.long s0, .long s1, .long s2] S (.inl (some (.long q.1))) q.2 := by
  unfold J295_102 at e
  exact (
  M_of (fun _ _ H => r_lmul c295_102 rfl <| r_ladd c295_103 rfl <| r_lstoren c295_104 <| r_iinc c295_105 (ld2_ne h5 (by decide) (Or.inl (by decide))) <| r_goto c295_108 <| H) <|
  t_rg e g (fun (e : LG295_46 xt ct a ra d q x1 x2 (s2 + (s1 * s0)) (x5 + 1) S) => e _ (ld1_ne (ld2_ne h0 (by decide) (Or.inl (by decide))) (by decide) (Or.inl (by decide))) (ld1_ne (ld2_ne h1 (by decide) (Or.inl (by decide))) (by decide) (Or.inl (by decide))) (ld1_ne (ld2_ne h2 (by decide) (Or.inr rfl)) (by decide) (Or.inl (by decide))) (ld1_ne ld2_eq (by decide) (Or.inl (by decide))) ld1_eq))
def B295_46 (N : Nat) (s : Int32 × Int32 × Int64 × Int32 × mS) : Option ((Int32 × Int32 × Int64 × Int32 × mS) ⊕ (Int64 × mS)) :=
  bif mj_c1 .ne (s.2.2.2.2.1 0) then
    (J295_111 N s.2.2.1 s.2.2.2.2).map Sum.inr
  else
  if 0 ≤ (s.1).toInt ∧ (s.1).toInt < mN 58 then
  bif mj_c2 .ge s.2.2.2.1 ((64 * s.1) + (s.2.2.2.2.2.1 58 (s.1).toInt.toNat)) then
    (J295_111 N s.2.2.1 s.2.2.2.2).map Sum.inr
  else
  if 0 ≤ (s.2.2.2.1).toInt ∧ (s.2.2.2.1).toInt < mN 59 then
  if 0 ≤ (s.2.2.2.1).toInt ∧ (s.2.2.2.1).toInt < mN 60 then
  bif mj_c2 .ne s.2.1 1 then
    J295_102 N s.1 s.2.1 s.2.2.2.1 ((s.2.2.2.2.2.1 59 (s.2.2.2.1).toInt.toNat).toInt64 * (s.2.2.2.2.2.1 59 (s.2.2.2.1).toInt.toNat).toInt64) (s.2.2.2.2.2.2 60 (s.2.2.2.1).toInt.toNat) s.2.2.1 s.2.2.2.2
  else
  J295_102 N s.1 s.2.1 s.2.2.2.1 (s.2.2.2.2.2.1 59 (s.2.2.2.1).toInt.toNat).toInt64 (s.2.2.2.2.2.2 60 (s.2.2.2.1).toInt.toNat) s.2.2.1 s.2.2.2.2
  else none
  else none
  else none
def L295_46 (N : Nat) (s : Int32 × Int32 × Int64 × Int32 × mS) : Option (Int64 × mS) := t_lp (B295_46 N) N s
theorem B295_46_ok {xt : mj_X} {ct : Nat → Value} {a : Nat} {ra : Nat → Nat} {d N : Nat} {s : Int32 × Int32 × Int64 × Int32 × mS} {o : (Int32 × Int32 × Int64 × Int32 × mS) ⊕ (Int64 × mS)} {q : Int64 × mS} (e : B295_46 N s = some o) (g : GG295_46 xt ct a ra d q o) : LG295_46 xt ct a ra d q s.1 s.2.1 s.2.2.1 s.2.2.2.1 s.2.2.2.2 := by
  unfold B295_46 at e
  exact (fun l h0 h1 h2 h3 h5 =>
  M_of (fun _ _ H => r_aloadn c295_46 h0 <| H) <|
  M_get (v := (s.2.2.2.2.1 0)) c295_47 (by decide) rfl <|
  t_if e (fun b6 e7 =>
    M_of (fun _ _ H => r_ifT c295_50 b6 <| H) <|
    t_up e7 fun o8 e9 u10 =>
    (fun (g11 : o8 = q) =>
    by subst g11; exact (J295_111_ok h0 h3 e9)
    ) (by have := g; rw [u10] at this; exact this)
  ) (fun b6 e7 =>
    M_of (fun _ _ H => r_ifF c295_50 b6 <| H) <|
    M_of (fun _ _ H => r_iload c295_53 h5 <| r_bipush c295_55 <| r_iloadn c295_57 h1 <| r_imul c295_58 rfl <| r_aloadn c295_59 h0 <| H) <|
    M_geta (j := 58) c295_60 (by decide) <|
    M_of (fun _ _ H => r_iloadn c295_63 h1 <| H) <|
    t_ck e7 fun i12 e13 =>
    M_iald (j := 58) (v := (s.2.2.2.2.2.1 58 (s.1).toInt.toNat)) c295_64 (by decide) i12 rfl <|
    M_of (fun _ _ H => r_iadd c295_65 rfl <| H) <|
    t_if e13 (fun b14 e15 =>
      M_of (fun _ _ H => r_icmpT c295_66 b14 <| H) <|
      t_up e15 fun o16 e17 u18 =>
      (fun (g19 : o16 = q) =>
      by subst g19; exact (J295_111_ok h0 h3 e17)
      ) (by have := g; rw [u18] at this; exact this)
    ) (fun b14 e15 =>
      M_of (fun _ _ H => r_icmpF c295_66 b14 <| H) <|
      M_of (fun _ _ H => r_aloadn c295_69 h0 <| H) <|
      M_geta (j := 59) c295_70 (by decide) <|
      M_of (fun _ _ H => r_iload c295_73 h5 <| H) <|
      t_ck e15 fun i20 e21 =>
      M_iald (j := 59) (v := (s.2.2.2.2.2.1 59 (s.2.2.2.1).toInt.toNat)) c295_75 (by decide) i20 rfl <|
      M_of (fun _ _ H => r_i2l c295_76 rfl <| r_lstore c295_77 <| r_lloadn c295_79 (ld2_ne h3 (by decide) (Or.inl (by decide))) <| r_aloadn c295_80 (ld2_ne h0 (by decide) (Or.inl (by decide))) <| H) <|
      M_geta (j := 60) c295_81 (by decide) <|
      M_of (fun _ _ H => r_iload c295_84 (ld2_ne h5 (by decide) (Or.inr rfl)) <| H) <|
      t_ck e21 fun i22 e23 =>
      M_lald (j := 60) (v := (s.2.2.2.2.2.2 60 (s.2.2.2.1).toInt.toNat)) c295_86 (by decide) i22 rfl <|
      M_of (fun _ _ H => r_iloadn c295_87 (ld2_ne h2 (by decide) (Or.inl (by decide))) <| r_iconst c295_88 <| H) <|
      t_if e23 (fun b24 e25 =>
        M_of (fun _ _ H => r_icmpT c295_89 b24 <| H) <|
        M_of (fun _ _ H => r_lload c295_97 ld2_eq <| r_lload c295_99 ld2_eq <| r_lmul c295_101 rfl <| H) <|
        J295_102_ok (ld2_ne h0 (by decide) (Or.inl (by decide))) (ld2_ne h1 (by decide) (Or.inl (by decide))) (ld2_ne h2 (by decide) (Or.inl (by decide))) (ld2_ne h5 (by decide) (Or.inr rfl)) e25 g
      ) (fun b24 e25 =>
        M_of (fun _ _ H => r_icmpF c295_89 b24 <| H) <|
        M_of (fun _ _ H => r_lload c295_92 ld2_eq <| r_goto c295_94 <| H) <|
        J295_102_ok (ld2_ne h0 (by decide) (Or.inl (by decide))) (ld2_ne h1 (by decide) (Or.inl (by decide))) (ld2_ne h2 (by decide) (Or.inl (by decide))) (ld2_ne h5 (by decide) (Or.inr rfl)) e25 g
      )
    )
  ))
theorem L295_46_ok {xt : mj_X} {ct : Nat → Value} {a : Nat} {ra : Nat → Nat} {d N : Nat} {x1 : Int32} {x2 : Int32} {x3 : Int64} {x5 : Int32} {S : mS} {q : Int64 × mS} (e : L295_46 N (x1, x2, x3, x5, S) = some q) : LG295_46 xt ct a ra d q x1 x2 x3 x5 S :=
  t_lp_ok (G := fun s => LG295_46 xt ct a ra d q s.1 s.2.1 s.2.2.1 s.2.2.2.1 s.2.2.2.2) (fun s s' e g => B295_46_ok e (by obtain ⟨_, _, _, _, _⟩ := s'; exact g)) (fun s e => B295_46_ok e rfl) N (x1, x2, x3, x5, S) e
def J295_35 (N : Nat) (x1 : Int32) (x2 : Int32) (s0 : Int32) (S : mS) : Option (Int64 × mS) :=
  L295_46 N (x1, x2, 0, (64 * x1), (m_sV S 0 s0))
theorem J295_35_ok {xt : mj_X} {ct : Nat → Value} {a : Nat} {ra : Nat → Nat} {d N : Nat} {l : mj_L} {x1 : Int32} {x2 : Int32} {s0 : Int32} {S : mS} {q : Int64 × mS} (h0 : mj_ld l 0 = some (.ref a)) (h1 : mj_ld l 1 = some (.int x1)) (h2 : mj_ld l 2 = some (.int x2)) (e : J295_35 N x1 x2 s0 S = some q) : MR xt ct a ra (d + 3) 295 35 l [.int s0, .ref a] S (.inl (some (.long q.1))) q.2 := by
  unfold J295_35 at e
  exact (
  M_put c295_35 (by decide) <|
  M_of (fun _ _ H => r_lconst c295_38 <| r_lstoren c295_39 <| r_bipush c295_40 <| r_iloadn c295_42 (ld2_ne h1 (by decide) (Or.inl (by decide))) <| r_imul c295_43 rfl <| r_istore c295_44 <| H) <|
  L295_46_ok e _ (ld1_ne (ld2_ne h0 (by decide) (Or.inl (by decide))) (by decide) (Or.inl (by decide))) (ld1_ne (ld2_ne h1 (by decide) (Or.inl (by decide))) (by decide) (Or.inl (by decide))) (ld1_ne (ld2_ne h2 (by decide) (Or.inr rfl)) (by decide) (Or.inl (by decide))) (ld1_ne ld2_eq (by decide) (Or.inl (by decide))) ld1_eq)
def J295_17 (N : Nat) (x1 : Int32) (x2 : Int32)  (S : mS) : Option (Int64 × mS) :=
  J295_35 N x1 x2 1 S
theorem J295_17_ok {xt : mj_X} {ct : Nat → Value} {a : Nat} {ra : Nat → Nat} {d N : Nat} {l : mj_L} {x1 : Int32} {x2 : Int32}  {S : mS} {q : Int64 × mS} (h0 : mj_ld l 0 = some (.ref a)) (h1 : mj_ld l 1 = some (.int x1)) (h2 : mj_ld l 2 = some (.int x2)) (e : J295_17 N x1 x2  S = some q) : MR xt ct a ra (d + 3) 295 17 l [.ref a] S (.inl (some (.long q.1))) q.2 := by
  unfold J295_17 at e
  exact (
  M_of (fun _ _ H => r_iconst c295_17 <| r_goto c295_18 <| H) <|
  J295_35_ok h0 h1 h2 e)
/-- moment(II)J -/
def M295 (N : Nat) (x1 : Int32) (x2 : Int32) (S : mS) : Option (Int64 × mS) :=
  (M210 N x1 S).bind fun r1 =>
  bif mj_c1 .eq r1.1 then
    J295_17 N x1 x2 r1.2
  else
  (M205 N x2 1 2 r1.2).bind fun r26 =>
  bif mj_c1 .ne r26.1 then
    if 0 ≤ (x1).toInt ∧ (x1).toInt < mN 57 then
    bif mj_c1 .ne (r26.2.2.1 57 (x1).toInt.toNat) then
      J295_35 N x1 x2 0 r26.2
    else
    J295_35 N x1 x2 2 r26.2
    else none
  else
  J295_17 N x1 x2 r26.2
theorem M295_ok {xt : mj_X} {ct : Nat → Value} {a : Nat} {ra : Nat → Nat} {d N : Nat} {x1 : Int32} {x2 : Int32} {S : mS} {q : Int64 × mS} (e : M295 N x1 x2 S = some q) : MR xt ct a ra (d + 3) 295 0 (lv_args 0 [.ref a, .int x1, .int x2]) [] S (.inl (some (.long q.1))) q.2 := by
  unfold M295 at e
  exact (
  M_of (fun _ _ H => r_aloadn c295_0 rfl <| r_iloadn c295_1 rfl <| H) <|
  t_bd e fun r1 c2 e3 =>
  M_cs (as := [.int x1]) (st' := [.int r1.1, .ref a]) (v := (some (.int r1.1))) c295_2 ⟨Nat.le_of_ble_eq_true rfl, Nat.le_of_ble_eq_true rfl, Nat.le_of_ble_eq_true rfl⟩ rfl rfl (M210_ok (d := d) c2) (Nat.add_lt_add_left (by decide) d) <|
  t_if e3 (fun b4 e5 =>
    M_of (fun _ _ H => r_ifT c295_5 b4 <| H) <|
    J295_17_ok rfl rfl rfl e5
  ) (fun b4 e5 =>
    M_of (fun _ _ H => r_ifF c295_5 b4 <| H) <|
    M_of (fun _ _ H => r_iloadn c295_8 rfl <| r_iconst c295_9 <| r_iconst c295_10 <| H) <|
    t_bd e5 fun r26 c27 e28 =>
    M_cs (as := [.int x2, .int 1, .int 2]) (st' := [.int r26.1, .ref a]) (v := (some (.int r26.1))) c295_11 ⟨Nat.le_of_ble_eq_true rfl, Nat.le_of_ble_eq_true rfl, Nat.le_of_ble_eq_true rfl⟩ rfl rfl (M205_ok (d := d) c27) (Nat.add_lt_add_left (by decide) d) <|
    t_if e28 (fun b29 e30 =>
      M_of (fun _ _ H => r_ifT c295_14 b29 <| H) <|
      M_of (fun _ _ H => r_aloadn c295_21 rfl <| H) <|
      M_geta (j := 57) c295_22 (by decide) <|
      M_of (fun _ _ H => r_iloadn c295_25 rfl <| H) <|
      t_ck e30 fun i31 e32 =>
      M_zald (j := 57) (v := (r26.2.2.1 57 (x1).toInt.toNat)) c295_26 (by decide) i31 rfl <|
      t_if e32 (fun b33 e34 =>
        M_of (fun _ _ H => r_ifT c295_27 b33 <| H) <|
        M_of (fun _ _ H => r_iconst c295_34 <| H) <|
        J295_35_ok rfl rfl rfl e34
      ) (fun b33 e34 =>
        M_of (fun _ _ H => r_ifF c295_27 b33 <| H) <|
        M_of (fun _ _ H => r_iconst c295_30 <| r_goto c295_31 <| H) <|
        J295_35_ok rfl rfl rfl e34
      )
    ) (fun b29 e30 =>
      M_of (fun _ _ H => r_ifF c295_14 b29 <| H) <|
      J295_17_ok rfl rfl rfl e30
    )
  ))
def J296_105 (N : Nat)  (s0 : Int64) (S : mS) : Option (Int32 × mS) :=
  some (s0.toInt32, S)
theorem J296_105_ok {xt : mj_X} {ct : Nat → Value} {a : Nat} {ra : Nat → Nat} {d N : Nat} {l : mj_L}  {s0 : Int64} {S : mS} {q : Int32 × mS} (h0 : mj_ld l 0 = some (.ref a)) (e : J296_105 N  s0 S = some q) : MR xt ct a ra (d + 5) 296 105 l [.long s0] S (.inl (some (.int q.1))) q.2 := by
  unfold J296_105 at e
  exact (
  M_of (fun _ _ H => r_l2i c296_105 rfl <| H) <|
  M_ri (Option.some.inj e) (fun _ => r_iret c296_106 rfl))
def J296_96 (N : Nat) (x5 : Int64)  (S : mS) : Option (Int32 × mS) :=
  J296_105 N (x5 + 1) S
theorem J296_96_ok {xt : mj_X} {ct : Nat → Value} {a : Nat} {ra : Nat → Nat} {d N : Nat} {l : mj_L} {x5 : Int64}  {S : mS} {q : Int32 × mS} (h0 : mj_ld l 0 = some (.ref a)) (h5 : mj_ld l 5 = some (.long x5)) (e : J296_96 N x5  S = some q) : MR xt ct a ra (d + 5) 296 96 l [] S (.inl (some (.int q.1))) q.2 := by
  unfold J296_96 at e
  exact (
  M_of (fun _ _ H => r_lload c296_96 h5 <| r_lconst c296_98 <| r_ladd c296_99 rfl <| r_goto c296_100 <| H) <|
  J296_105_ok h0 e)
def J296_103 (N : Nat) (x5 : Int64)  (S : mS) : Option (Int32 × mS) :=
  J296_105 N x5 S
theorem J296_103_ok {xt : mj_X} {ct : Nat → Value} {a : Nat} {ra : Nat → Nat} {d N : Nat} {l : mj_L} {x5 : Int64}  {S : mS} {q : Int32 × mS} (h0 : mj_ld l 0 = some (.ref a)) (h5 : mj_ld l 5 = some (.long x5)) (e : J296_103 N x5  S = some q) : MR xt ct a ra (d + 5) 296 103 l [] S (.inl (some (.int q.1))) q.2 := by
  unfold J296_103 at e
  exact (
  M_of (fun _ _ H => r_lload c296_103 h5 <| H) <|
  J296_105_ok h0 e)
/-- millionths(II)I -/
def M296 (N : Nat) (x1 : Int32) (x2 : Int32) (S : mS) : Option (Int32 × mS) :=
  (M292 N x1 x2 S).bind fun r1 =>
  bif mj_c1 .le r1.1 then
    if 0 ≤ (((64 * x1) + x2)).toInt ∧ (((64 * x1) + x2)).toInt < mN 60 then
    if 0 ≤ (x1).toInt ∧ (x1).toInt < mN 61 then
    if (r1.2.2.2 61 (x1).toInt.toNat) ≠ 0 then
    if 0 ≤ (x1).toInt ∧ (x1).toInt < mN 61 then
    if 0 ≤ (x1).toInt ∧ (x1).toInt < mN 61 then
    bif mj_c1 .gt (lg_cmp (((r1.2.2.2 60 (((64 * x1) + x2)).toInt.toNat) * 1000000) - ((((r1.2.2.2 60 (((64 * x1) + x2)).toInt.toNat) * 1000000) / (r1.2.2.2 61 (x1).toInt.toNat)) * (r1.2.2.2 61 (x1).toInt.toNat))) ((r1.2.2.2 61 (x1).toInt.toNat) - (((r1.2.2.2 60 (((64 * x1) + x2)).toInt.toNat) * 1000000) - ((((r1.2.2.2 60 (((64 * x1) + x2)).toInt.toNat) * 1000000) / (r1.2.2.2 61 (x1).toInt.toNat)) * (r1.2.2.2 61 (x1).toInt.toNat))))) then
      J296_96 N (((r1.2.2.2 60 (((64 * x1) + x2)).toInt.toNat) * 1000000) / (r1.2.2.2 61 (x1).toInt.toNat)) (m_sV r1.2 0 r1.1)
    else
    bif mj_c1 .ne (lg_cmp (((r1.2.2.2 60 (((64 * x1) + x2)).toInt.toNat) * 1000000) - ((((r1.2.2.2 60 (((64 * x1) + x2)).toInt.toNat) * 1000000) / (r1.2.2.2 61 (x1).toInt.toNat)) * (r1.2.2.2 61 (x1).toInt.toNat))) ((r1.2.2.2 61 (x1).toInt.toNat) - (((r1.2.2.2 60 (((64 * x1) + x2)).toInt.toNat) * 1000000) - ((((r1.2.2.2 60 (((64 * x1) + x2)).toInt.toNat) * 1000000) / (r1.2.2.2 61 (x1).toInt.toNat)) * (r1.2.2.2 61 (x1).toInt.toNat))))) then
      J296_103 N (((r1.2.2.2 60 (((64 * x1) + x2)).toInt.toNat) * 1000000) / (r1.2.2.2 61 (x1).toInt.toNat)) (m_sV r1.2 0 r1.1)
    else
    bif mj_c1 .ne (lg_cmp ((((r1.2.2.2 60 (((64 * x1) + x2)).toInt.toNat) * 1000000) / (r1.2.2.2 61 (x1).toInt.toNat)) - (((r1.2.2.2 60 (((64 * x1) + x2)).toInt.toNat) * 1000000) / (r1.2.2.2 61 (x1).toInt.toNat)) / 2 * 2) 1) then
      J296_103 N (((r1.2.2.2 60 (((64 * x1) + x2)).toInt.toNat) * 1000000) / (r1.2.2.2 61 (x1).toInt.toNat)) (m_sV r1.2 0 r1.1)
    else
    J296_96 N (((r1.2.2.2 60 (((64 * x1) + x2)).toInt.toNat) * 1000000) / (r1.2.2.2 61 (x1).toInt.toNat)) (m_sV r1.2 0 r1.1)
    else none
    else none
    else none
    else none
    else none
  else
  some (0, (m_sV r1.2 0 r1.1))
theorem M296_ok {xt : mj_X} {ct : Nat → Value} {a : Nat} {ra : Nat → Nat} {d N : Nat} {x1 : Int32} {x2 : Int32} {S : mS} {q : Int32 × mS} (e : M296 N x1 x2 S = some q) : MR xt ct a ra (d + 5) 296 0 (lv_args 0 [.ref a, .int x1, .int x2]) [] S (.inl (some (.int q.1))) q.2 := by
  unfold M296 at e
  exact (
  M_of (fun _ _ H => r_aloadn c296_0 rfl <| r_aloadn c296_1 rfl <| r_iloadn c296_2 rfl <| r_iloadn c296_3 rfl <| H) <|
  t_bd e fun r1 c2 e3 =>
  M_cv (as := [.ref a, .int x1, .int x2]) (st' := [.int r1.1, .ref a]) (v := (some (.int r1.1))) c296_4 rfl ⟨Nat.le_of_ble_eq_true rfl, Nat.le_of_ble_eq_true rfl, Nat.le_of_ble_eq_true rfl⟩ rfl rfl (M292_ok (d := d) c2) (Nat.add_lt_add_left (by decide) d) <|
  M_put c296_7 (by decide) <|
  M_of (fun _ _ H => r_aloadn c296_10 rfl <| H) <|
  M_get (v := r1.1) c296_11 (by decide) rfl <|
  t_if e3 (fun b4 e5 =>
    M_of (fun _ _ H => r_ifT c296_14 b4 <| H) <|
    M_of (fun _ _ H => r_aloadn c296_19 rfl <| H) <|
    M_geta (j := 60) c296_20 (by decide) <|
    M_of (fun _ _ H => r_bipush c296_23 <| r_iloadn c296_25 rfl <| r_imul c296_26 rfl <| r_iloadn c296_27 rfl <| r_iadd c296_28 rfl <| H) <|
    t_ck e5 fun i6 e7 =>
    M_lald (j := 60) (v := (r1.2.2.2 60 (((64 * x1) + x2)).toInt.toNat)) c296_29 (by decide) i6 rfl <|
    M_of (fun _ _ H => r_ldc2 c296_30 <| r_lmul c296_33 rfl <| r_lstoren c296_34 <| r_lloadn c296_35 ld2_eq <| r_aloadn c296_36 (ld2_ne rfl (by decide) (Or.inl (by decide))) <| H) <|
    M_geta (j := 61) c296_37 (by decide) <|
    M_of (fun _ _ H => r_iloadn c296_40 (ld2_ne rfl (by decide) (Or.inl (by decide))) <| H) <|
    t_ck e7 fun i8 e9 =>
    M_lald (j := 61) (v := (r1.2.2.2 61 (x1).toInt.toNat)) c296_41 (by decide) i8 rfl <|
    t_ck e9 fun y10 e11 =>
    M_of (fun _ _ H => r_ldiv c296_42 y10 rfl <| H) <|
    M_of (fun _ _ H => r_lstore c296_43 <| r_lloadn c296_45 (ld2_ne ld2_eq (by decide) (Or.inl (by decide))) <| r_lload c296_46 ld2_eq <| r_aloadn c296_48 (ld2_ne (ld2_ne rfl (by decide) (Or.inl (by decide))) (by decide) (Or.inl (by decide))) <| H) <|
    M_geta (j := 61) c296_49 (by decide) <|
    M_of (fun _ _ H => r_iloadn c296_52 (ld2_ne (ld2_ne rfl (by decide) (Or.inl (by decide))) (by decide) (Or.inl (by decide))) <| H) <|
    t_ck e11 fun i12 e13 =>
    M_lald (j := 61) (v := (r1.2.2.2 61 (x1).toInt.toNat)) c296_53 (by decide) i12 rfl <|
    M_of (fun _ _ H => r_lmul c296_54 rfl <| r_lsub c296_55 rfl <| r_lstore c296_56 <| r_aloadn c296_58 (ld2_ne (ld2_ne (ld2_ne rfl (by decide) (Or.inl (by decide))) (by decide) (Or.inl (by decide))) (by decide) (Or.inl (by decide))) <| H) <|
    M_geta (j := 61) c296_59 (by decide) <|
    M_of (fun _ _ H => r_iloadn c296_62 (ld2_ne (ld2_ne (ld2_ne rfl (by decide) (Or.inl (by decide))) (by decide) (Or.inl (by decide))) (by decide) (Or.inl (by decide))) <| H) <|
    t_ck e13 fun i14 e15 =>
    M_lald (j := 61) (v := (r1.2.2.2 61 (x1).toInt.toNat)) c296_63 (by decide) i14 rfl <|
    M_of (fun _ _ H => r_lload c296_64 ld2_eq <| r_lsub c296_66 rfl <| r_lstore c296_67 <| r_lload c296_69 (ld2_ne ld2_eq (by decide) (Or.inl (by decide))) <| r_lload c296_71 ld2_eq <| r_lcmp c296_73 rfl <| H) <|
    t_if e15 (fun b16 e17 =>
      M_of (fun _ _ H => r_ifT c296_74 b16 <| H) <|
      J296_96_ok (ld2_ne (ld2_ne (ld2_ne (ld2_ne rfl (by decide) (Or.inl (by decide))) (by decide) (Or.inl (by decide))) (by decide) (Or.inl (by decide))) (by decide) (Or.inl (by decide))) (ld2_ne (ld2_ne ld2_eq (by decide) (Or.inl (by decide))) (by decide) (Or.inl (by decide))) e17
    ) (fun b16 e17 =>
      M_of (fun _ _ H => r_ifF c296_74 b16 <| H) <|
      M_of (fun _ _ H => r_lload c296_77 (ld2_ne ld2_eq (by decide) (Or.inl (by decide))) <| r_lload c296_79 ld2_eq <| r_lcmp c296_81 rfl <| H) <|
      t_if e17 (fun b18 e19 =>
        M_of (fun _ _ H => r_ifT c296_82 b18 <| H) <|
        J296_103_ok (ld2_ne (ld2_ne (ld2_ne (ld2_ne rfl (by decide) (Or.inl (by decide))) (by decide) (Or.inl (by decide))) (by decide) (Or.inl (by decide))) (by decide) (Or.inl (by decide))) (ld2_ne (ld2_ne ld2_eq (by decide) (Or.inl (by decide))) (by decide) (Or.inl (by decide))) e19
      ) (fun b18 e19 =>
        M_of (fun _ _ H => r_ifF c296_82 b18 <| H) <|
        M_of (fun _ _ H => r_lload c296_85 (ld2_ne (ld2_ne ld2_eq (by decide) (Or.inl (by decide))) (by decide) (Or.inl (by decide))) <| r_ldc2 c296_87 <| r_lrem c296_90 (by decide) rfl <| r_lconst c296_91 <| r_lcmp c296_92 rfl <| H) <|
        t_if e19 (fun b20 e21 =>
          M_of (fun _ _ H => r_ifT c296_93 b20 <| H) <|
          J296_103_ok (ld2_ne (ld2_ne (ld2_ne (ld2_ne rfl (by decide) (Or.inl (by decide))) (by decide) (Or.inl (by decide))) (by decide) (Or.inl (by decide))) (by decide) (Or.inl (by decide))) (ld2_ne (ld2_ne ld2_eq (by decide) (Or.inl (by decide))) (by decide) (Or.inl (by decide))) e21
        ) (fun b20 e21 =>
          M_of (fun _ _ H => r_ifF c296_93 b20 <| H) <|
          J296_96_ok (ld2_ne (ld2_ne (ld2_ne (ld2_ne rfl (by decide) (Or.inl (by decide))) (by decide) (Or.inl (by decide))) (by decide) (Or.inl (by decide))) (by decide) (Or.inl (by decide))) (ld2_ne (ld2_ne ld2_eq (by decide) (Or.inl (by decide))) (by decide) (Or.inl (by decide))) e21
        )
      )
    )
  ) (fun b4 e5 =>
    M_of (fun _ _ H => r_ifF c296_14 b4 <| H) <|
    M_of (fun _ _ H => r_iconst c296_17 <| H) <|
    M_ri (Option.some.inj e5) (fun _ => r_iret c296_18 rfl)
  ))
def LG297_73 (xt : mj_X) (ct : Nat → Value) (a : Nat) (ra : Nat → Nat) (d : Nat) (q : Int32 × mS) (x1 : Int32) (x2 : Int32) (x3 : Int32) (x4 : Int32) (x5 : Int64) (S : mS) : Prop := ∀ l, mj_ld l 0 = some (.ref a) → mj_ld l 1 = some (.int x1) → mj_ld l 2 = some (.int x2) → mj_ld l 3 = some (.int x3) → mj_ld l 4 = some (.int x4) → mj_ld l 5 = some (.long x5) → MR xt ct a ra (d + 3) 297 73 l [] S (.inl (some (.int q.1))) q.2
def GG297_73 (xt : mj_X) (ct : Nat → Value) (a : Nat) (ra : Nat → Nat) (d : Nat) (q : Int32 × mS) (o : (Int32 × Int32 × Int32 × Int32 × Int64 × mS) ⊕ (Int32 × mS)) : Prop := match o with
  | .inl (x1, x2, x3, x4, x5, S) => LG297_73 xt ct a ra d q x1 x2 x3 x4 x5 S
  | .inr r => r = q
def B297_73 (N : Nat) (s : Int32 × Int32 × Int32 × Int32 × Int64 × mS) : Option ((Int32 × Int32 × Int32 × Int32 × Int64 × mS) ⊕ (Int32 × mS)) :=
  if 0 ≤ (s.1).toInt ∧ (s.1).toInt < mN 61 then
  bif mj_c1 .ge (lg_cmp (s.2.2.2.2.1 * s.2.2.1.toInt64) ((s.2.2.2.2.2.2.2 61 (s.1).toInt.toNat) * s.2.1.toInt64)) then
    if 0 ≤ (s.2.2.2.1).toInt ∧ (s.2.2.2.1).toInt < mN 59 then
    some (.inr ((s.2.2.2.2.2.2.1 59 (s.2.2.2.1).toInt.toNat), s.2.2.2.2.2))
    else none
  else
  if 0 ≤ ((s.2.2.2.1 + 1)).toInt ∧ ((s.2.2.2.1 + 1)).toInt < mN 60 then
  some (.inl (s.1, s.2.1, s.2.2.1, (s.2.2.2.1 + 1), (s.2.2.2.2.1 + (s.2.2.2.2.2.2.2 60 ((s.2.2.2.1 + 1)).toInt.toNat)), s.2.2.2.2.2))
  else none
  else none
def L297_73 (N : Nat) (s : Int32 × Int32 × Int32 × Int32 × Int64 × mS) : Option (Int32 × mS) := t_lp (B297_73 N) N s
theorem B297_73_ok {xt : mj_X} {ct : Nat → Value} {a : Nat} {ra : Nat → Nat} {d N : Nat} {s : Int32 × Int32 × Int32 × Int32 × Int64 × mS} {o : (Int32 × Int32 × Int32 × Int32 × Int64 × mS) ⊕ (Int32 × mS)} {q : Int32 × mS} (e : B297_73 N s = some o) (g : GG297_73 xt ct a ra d q o) : LG297_73 xt ct a ra d q s.1 s.2.1 s.2.2.1 s.2.2.2.1 s.2.2.2.2.1 s.2.2.2.2.2 := by
  unfold B297_73 at e
  exact (fun l h0 h1 h2 h3 h4 h5 =>
  M_of (fun _ _ H => r_lload c297_73 h5 <| r_iloadn c297_75 h3 <| r_i2l c297_76 rfl <| r_lmul c297_77 rfl <| r_aloadn c297_78 h0 <| H) <|
  M_geta (j := 61) c297_79 (by decide) <|
  M_of (fun _ _ H => r_iloadn c297_82 h1 <| H) <|
  t_ck e fun i10 e11 =>
  M_lald (j := 61) (v := (s.2.2.2.2.2.2.2 61 (s.1).toInt.toNat)) c297_83 (by decide) i10 rfl <|
  M_of (fun _ _ H => r_iloadn c297_84 h2 <| r_i2l c297_85 rfl <| r_lmul c297_86 rfl <| r_lcmp c297_87 rfl <| H) <|
  t_if e11 (fun b12 e13 =>
    M_of (fun _ _ H => r_ifT c297_88 b12 <| H) <|
    M_of (fun _ _ H => r_aloadn c297_109 h0 <| H) <|
    M_geta (j := 59) c297_110 (by decide) <|
    M_of (fun _ _ H => r_iload c297_113 h4 <| H) <|
    t_ck e13 fun i14 e15 =>
    M_iald (j := 59) (v := (s.2.2.2.2.2.2.1 59 (s.2.2.2.1).toInt.toNat)) c297_115 (by decide) i14 rfl <|
    t_rg e15 g (fun (e : ((s.2.2.2.2.2.2.1 59 (s.2.2.2.1).toInt.toNat), s.2.2.2.2.2) = q) => M_ri (e) (fun _ => r_iret c297_116 rfl))
  ) (fun b12 e13 =>
    M_of (fun _ _ H => r_ifF c297_88 b12 <| H) <|
    M_of (fun _ _ H => r_iinc c297_91 h4 <| r_lload c297_94 (ld1_ne h5 (by decide) (Or.inl (by decide))) <| r_aloadn c297_96 (ld1_ne h0 (by decide) (Or.inl (by decide))) <| H) <|
    M_geta (j := 60) c297_97 (by decide) <|
    M_of (fun _ _ H => r_iload c297_100 ld1_eq <| H) <|
    t_ck e13 fun i16 e17 =>
    M_lald (j := 60) (v := (s.2.2.2.2.2.2.2 60 ((s.2.2.2.1 + 1)).toInt.toNat)) c297_102 (by decide) i16 rfl <|
    M_of (fun _ _ H => r_ladd c297_103 rfl <| r_lstore c297_104 <| r_goto c297_106 <| H) <|
    t_rg e17 g (fun (e : LG297_73 xt ct a ra d q s.1 s.2.1 s.2.2.1 (s.2.2.2.1 + 1) (s.2.2.2.2.1 + (s.2.2.2.2.2.2.2 60 ((s.2.2.2.1 + 1)).toInt.toNat)) s.2.2.2.2.2) => e _ (ld2_ne (ld1_ne h0 (by decide) (Or.inl (by decide))) (by decide) (Or.inl (by decide))) (ld2_ne (ld1_ne h1 (by decide) (Or.inl (by decide))) (by decide) (Or.inl (by decide))) (ld2_ne (ld1_ne h2 (by decide) (Or.inl (by decide))) (by decide) (Or.inl (by decide))) (ld2_ne (ld1_ne h3 (by decide) (Or.inr rfl)) (by decide) (Or.inl (by decide))) (ld2_ne ld1_eq (by decide) (Or.inr rfl)) ld2_eq)
  ))
theorem L297_73_ok {xt : mj_X} {ct : Nat → Value} {a : Nat} {ra : Nat → Nat} {d N : Nat} {x1 : Int32} {x2 : Int32} {x3 : Int32} {x4 : Int32} {x5 : Int64} {S : mS} {q : Int32 × mS} (e : L297_73 N (x1, x2, x3, x4, x5, S) = some q) : LG297_73 xt ct a ra d q x1 x2 x3 x4 x5 S :=
  t_lp_ok (G := fun s => LG297_73 xt ct a ra d q s.1 s.2.1 s.2.2.1 s.2.2.2.1 s.2.2.2.2.1 s.2.2.2.2.2) (fun s s' e g => B297_73_ok e (by obtain ⟨_, _, _, _, _, _⟩ := s'; exact g)) (fun s e => B297_73_ok e rfl) N (x1, x2, x3, x4, x5, S) e
def J297_46 (N : Nat) (x1 : Int32) (x2 : Int32) (x3 : Int32) (s0 : Int32) (S : mS) : Option (Int32 × mS) :=
  bif mj_c1 .le s0 then
    if 0 ≤ ((64 * x1)).toInt ∧ ((64 * x1)).toInt < mN 60 then
    L297_73 N (x1, x2, x3, (64 * x1), (S.2.2 60 ((64 * x1)).toInt.toNat), (m_sV S 0 s0))
    else none
  else
  some (0, (m_sV S 0 s0))
theorem J297_46_ok {xt : mj_X} {ct : Nat → Value} {a : Nat} {ra : Nat → Nat} {d N : Nat} {l : mj_L} {x1 : Int32} {x2 : Int32} {x3 : Int32} {s0 : Int32} {S : mS} {q : Int32 × mS} (h0 : mj_ld l 0 = some (.ref a)) (h1 : mj_ld l 1 = some (.int x1)) (h2 : mj_ld l 2 = some (.int x2)) (h3 : mj_ld l 3 = some (.int x3)) (e : J297_46 N x1 x2 x3 s0 S = some q) : MR xt ct a ra (d + 3) 297 46 l [.int s0, .ref a] S (.inl (some (.int q.1))) q.2 := by
  unfold J297_46 at e
  exact (
  M_put c297_46 (by decide) <|
  M_of (fun _ _ H => r_aloadn c297_49 h0 <| H) <|
  M_get (v := s0) c297_50 (by decide) rfl <|
  t_if e (fun b6 e7 =>
    M_of (fun _ _ H => r_ifT c297_53 b6 <| H) <|
    M_of (fun _ _ H => r_bipush c297_58 <| r_iloadn c297_60 h1 <| r_imul c297_61 rfl <| r_istore c297_62 <| r_aloadn c297_64 (ld1_ne h0 (by decide) (Or.inl (by decide))) <| H) <|
    M_geta (j := 60) c297_65 (by decide) <|
    M_of (fun _ _ H => r_iload c297_68 ld1_eq <| H) <|
    t_ck e7 fun i8 e9 =>
    M_lald (j := 60) (v := (S.2.2 60 ((64 * x1)).toInt.toNat)) c297_70 (by decide) i8 rfl <|
    M_of (fun _ _ H => r_lstore c297_71 <| H) <|
    L297_73_ok e9 _ (ld2_ne (ld1_ne h0 (by decide) (Or.inl (by decide))) (by decide) (Or.inl (by decide))) (ld2_ne (ld1_ne h1 (by decide) (Or.inl (by decide))) (by decide) (Or.inl (by decide))) (ld2_ne (ld1_ne h2 (by decide) (Or.inl (by decide))) (by decide) (Or.inl (by decide))) (ld2_ne (ld1_ne h3 (by decide) (Or.inr rfl)) (by decide) (Or.inl (by decide))) (ld2_ne ld1_eq (by decide) (Or.inr rfl)) ld2_eq
  ) (fun b6 e7 =>
    M_of (fun _ _ H => r_ifF c297_53 b6 <| H) <|
    M_of (fun _ _ H => r_iconst c297_56 <| H) <|
    M_ri (Option.some.inj e7) (fun _ => r_iret c297_57 rfl)
  ))
def J297_28 (N : Nat) (x1 : Int32) (x2 : Int32) (x3 : Int32)  (S : mS) : Option (Int32 × mS) :=
  J297_46 N x1 x2 x3 1 S
theorem J297_28_ok {xt : mj_X} {ct : Nat → Value} {a : Nat} {ra : Nat → Nat} {d N : Nat} {l : mj_L} {x1 : Int32} {x2 : Int32} {x3 : Int32}  {S : mS} {q : Int32 × mS} (h0 : mj_ld l 0 = some (.ref a)) (h1 : mj_ld l 1 = some (.int x1)) (h2 : mj_ld l 2 = some (.int x2)) (h3 : mj_ld l 3 = some (.int x3)) (e : J297_28 N x1 x2 x3  S = some q) : MR xt ct a ra (d + 3) 297 28 l [.ref a] S (.inl (some (.int q.1))) q.2 := by
  unfold J297_28 at e
  exact (
  M_of (fun _ _ H => r_iconst c297_28 <| r_goto c297_29 <| H) <|
  J297_46_ok h0 h1 h2 h3 e)
/-- percentile(III)I -/
def M297 (N : Nat) (x1 : Int32) (x2 : Int32) (x3 : Int32) (S : mS) : Option (Int32 × mS) :=
  (M210 N x1 S).bind fun r1 =>
  bif mj_c1 .eq r1.1 then
    J297_28 N x1 x2 x3 r1.2
  else
  (M205 N x3 1 1000 r1.2).bind fun r18 =>
  bif mj_c1 .eq r18.1 then
    J297_28 N x1 x2 x3 r18.2
  else
  (M205 N x2 0 x3 r18.2).bind fun r23 =>
  bif mj_c1 .ne r23.1 then
    if 0 ≤ (x1).toInt ∧ (x1).toInt < mN 57 then
    bif mj_c1 .ne (r23.2.2.1 57 (x1).toInt.toNat) then
      J297_46 N x1 x2 x3 0 r23.2
    else
    J297_46 N x1 x2 x3 2 r23.2
    else none
  else
  J297_28 N x1 x2 x3 r23.2
theorem M297_ok {xt : mj_X} {ct : Nat → Value} {a : Nat} {ra : Nat → Nat} {d N : Nat} {x1 : Int32} {x2 : Int32} {x3 : Int32} {S : mS} {q : Int32 × mS} (e : M297 N x1 x2 x3 S = some q) : MR xt ct a ra (d + 3) 297 0 (lv_args 0 [.ref a, .int x1, .int x2, .int x3]) [] S (.inl (some (.int q.1))) q.2 := by
  unfold M297 at e
  exact (
  M_of (fun _ _ H => r_aloadn c297_0 rfl <| r_iloadn c297_1 rfl <| H) <|
  t_bd e fun r1 c2 e3 =>
  M_cs (as := [.int x1]) (st' := [.int r1.1, .ref a]) (v := (some (.int r1.1))) c297_2 ⟨Nat.le_of_ble_eq_true rfl, Nat.le_of_ble_eq_true rfl, Nat.le_of_ble_eq_true rfl⟩ rfl rfl (M210_ok (d := d) c2) (Nat.add_lt_add_left (by decide) d) <|
  t_if e3 (fun b4 e5 =>
    M_of (fun _ _ H => r_ifT c297_5 b4 <| H) <|
    J297_28_ok rfl rfl rfl rfl e5
  ) (fun b4 e5 =>
    M_of (fun _ _ H => r_ifF c297_5 b4 <| H) <|
    M_of (fun _ _ H => r_iloadn c297_8 rfl <| r_iconst c297_9 <| r_sipush c297_10 <| H) <|
    t_bd e5 fun r18 c19 e20 =>
    M_cs (as := [.int x3, .int 1, .int 1000]) (st' := [.int r18.1, .ref a]) (v := (some (.int r18.1))) c297_13 ⟨Nat.le_of_ble_eq_true rfl, Nat.le_of_ble_eq_true rfl, Nat.le_of_ble_eq_true rfl⟩ rfl rfl (M205_ok (d := d) c19) (Nat.add_lt_add_left (by decide) d) <|
    t_if e20 (fun b21 e22 =>
      M_of (fun _ _ H => r_ifT c297_16 b21 <| H) <|
      J297_28_ok rfl rfl rfl rfl e22
    ) (fun b21 e22 =>
      M_of (fun _ _ H => r_ifF c297_16 b21 <| H) <|
      M_of (fun _ _ H => r_iloadn c297_19 rfl <| r_iconst c297_20 <| r_iloadn c297_21 rfl <| H) <|
      t_bd e22 fun r23 c24 e25 =>
      M_cs (as := [.int x2, .int 0, .int x3]) (st' := [.int r23.1, .ref a]) (v := (some (.int r23.1))) c297_22 ⟨Nat.le_of_ble_eq_true rfl, Nat.le_of_ble_eq_true rfl, Nat.le_of_ble_eq_true rfl⟩ rfl rfl (M205_ok (d := d) c24) (Nat.add_lt_add_left (by decide) d) <|
      t_if e25 (fun b26 e27 =>
        M_of (fun _ _ H => r_ifT c297_25 b26 <| H) <|
        M_of (fun _ _ H => r_aloadn c297_32 rfl <| H) <|
        M_geta (j := 57) c297_33 (by decide) <|
        M_of (fun _ _ H => r_iloadn c297_36 rfl <| H) <|
        t_ck e27 fun i28 e29 =>
        M_zald (j := 57) (v := (r23.2.2.1 57 (x1).toInt.toNat)) c297_37 (by decide) i28 rfl <|
        t_if e29 (fun b30 e31 =>
          M_of (fun _ _ H => r_ifT c297_38 b30 <| H) <|
          M_of (fun _ _ H => r_iconst c297_45 <| H) <|
          J297_46_ok rfl rfl rfl rfl e31
        ) (fun b30 e31 =>
          M_of (fun _ _ H => r_ifF c297_38 b30 <| H) <|
          M_of (fun _ _ H => r_iconst c297_41 <| r_goto c297_42 <| H) <|
          J297_46_ok rfl rfl rfl rfl e31
        )
      ) (fun b26 e27 =>
        M_of (fun _ _ H => r_ifF c297_25 b26 <| H) <|
        J297_28_ok rfl rfl rfl rfl e27
      )
    )
  ))
def LG298_71 (xt : mj_X) (ct : Nat → Value) (a : Nat) (ra : Nat → Nat) (d : Nat) (q : Int32 × mS) (x4 : Int32) (x5 : Int64) (S : mS) : Prop := ∀ l, mj_ld l 0 = some (.ref a) → mj_ld l 4 = some (.int x4) → mj_ld l 5 = some (.long x5) → MR xt ct a ra (d + 4) 298 71 l [] S (.inl (some (.int q.1))) q.2
def GG298_71 (xt : mj_X) (ct : Nat → Value) (a : Nat) (ra : Nat → Nat) (d : Nat) (q : Int32 × mS) (o : (Int32 × Int64 × mS) ⊕ (Int32 × mS)) : Prop := match o with
  | .inl (x4, x5, S) => LG298_71 xt ct a ra d q x4 x5 S
  | .inr r => r = q
def B298_71 (N : Nat) (s : Int32 × Int64 × mS) : Option ((Int32 × Int64 × mS) ⊕ (Int32 × mS)) :=
  bif mj_c1 .lt (lg_cmp s.2.1 0) then
    if 0 ≤ (s.1).toInt ∧ (s.1).toInt < mN 59 then
    some (.inr ((s.2.2.2.1 59 (s.1).toInt.toNat), s.2.2))
    else none
  else
  if 0 ≤ ((s.1 + 1)).toInt ∧ ((s.1 + 1)).toInt < mN 60 then
  some (.inl ((s.1 + 1), (s.2.1 - (s.2.2.2.2 60 ((s.1 + 1)).toInt.toNat)), s.2.2))
  else none
def L298_71 (N : Nat) (s : Int32 × Int64 × mS) : Option (Int32 × mS) := t_lp (B298_71 N) N s
theorem B298_71_ok {xt : mj_X} {ct : Nat → Value} {a : Nat} {ra : Nat → Nat} {d N : Nat} {s : Int32 × Int64 × mS} {o : (Int32 × Int64 × mS) ⊕ (Int32 × mS)} {q : Int32 × mS} (e : B298_71 N s = some o) (g : GG298_71 xt ct a ra d q o) : LG298_71 xt ct a ra d q s.1 s.2.1 s.2.2 := by
  unfold B298_71 at e
  exact (fun l h0 h4 h5 =>
  M_of (fun _ _ H => r_lload c298_71 h5 <| r_lconst c298_73 <| r_lcmp c298_74 rfl <| H) <|
  t_if e (fun b10 e11 =>
    M_of (fun _ _ H => r_ifT c298_75 b10 <| H) <|
    M_of (fun _ _ H => r_aloadn c298_96 h0 <| H) <|
    M_geta (j := 59) c298_97 (by decide) <|
    M_of (fun _ _ H => r_iload c298_100 h4 <| H) <|
    t_ck e11 fun i12 e13 =>
    M_iald (j := 59) (v := (s.2.2.2.1 59 (s.1).toInt.toNat)) c298_102 (by decide) i12 rfl <|
    t_rg e13 g (fun (e : ((s.2.2.2.1 59 (s.1).toInt.toNat), s.2.2) = q) => M_ri (e) (fun _ => r_iret c298_103 rfl))
  ) (fun b10 e11 =>
    M_of (fun _ _ H => r_ifF c298_75 b10 <| H) <|
    M_of (fun _ _ H => r_iinc c298_78 h4 <| r_lload c298_81 (ld1_ne h5 (by decide) (Or.inl (by decide))) <| r_aloadn c298_83 (ld1_ne h0 (by decide) (Or.inl (by decide))) <| H) <|
    M_geta (j := 60) c298_84 (by decide) <|
    M_of (fun _ _ H => r_iload c298_87 ld1_eq <| H) <|
    t_ck e11 fun i14 e15 =>
    M_lald (j := 60) (v := (s.2.2.2.2 60 ((s.1 + 1)).toInt.toNat)) c298_89 (by decide) i14 rfl <|
    M_of (fun _ _ H => r_lsub c298_90 rfl <| r_lstore c298_91 <| r_goto c298_93 <| H) <|
    t_rg e15 g (fun (e : LG298_71 xt ct a ra d q (s.1 + 1) (s.2.1 - (s.2.2.2.2 60 ((s.1 + 1)).toInt.toNat)) s.2.2) => e _ (ld2_ne (ld1_ne h0 (by decide) (Or.inl (by decide))) (by decide) (Or.inl (by decide))) (ld2_ne ld1_eq (by decide) (Or.inr rfl)) ld2_eq)
  ))
theorem L298_71_ok {xt : mj_X} {ct : Nat → Value} {a : Nat} {ra : Nat → Nat} {d N : Nat} {x4 : Int32} {x5 : Int64} {S : mS} {q : Int32 × mS} (e : L298_71 N (x4, x5, S) = some q) : LG298_71 xt ct a ra d q x4 x5 S :=
  t_lp_ok (G := fun s => LG298_71 xt ct a ra d q s.1 s.2.1 s.2.2) (fun s s' e g => B298_71_ok e (by obtain ⟨_, _, _⟩ := s'; exact g)) (fun s e => B298_71_ok e rfl) N (x4, x5, S) e
def J298_42 (N : Nat) (x1 : Int32) (x2 : Int64) (s0 : Int32) (S : mS) : Option (Int32 × mS) :=
  bif mj_c1 .le s0 then
    if 0 ≤ ((64 * x1)).toInt ∧ ((64 * x1)).toInt < mN 60 then
    L298_71 N ((64 * x1), (x2 - (S.2.2 60 ((64 * x1)).toInt.toNat)), (m_sV S 0 s0))
    else none
  else
  some (0, (m_sV S 0 s0))
theorem J298_42_ok {xt : mj_X} {ct : Nat → Value} {a : Nat} {ra : Nat → Nat} {d N : Nat} {l : mj_L} {x1 : Int32} {x2 : Int64} {s0 : Int32} {S : mS} {q : Int32 × mS} (h0 : mj_ld l 0 = some (.ref a)) (h1 : mj_ld l 1 = some (.int x1)) (h2 : mj_ld l 2 = some (.long x2)) (e : J298_42 N x1 x2 s0 S = some q) : MR xt ct a ra (d + 4) 298 42 l [.int s0, .ref a] S (.inl (some (.int q.1))) q.2 := by
  unfold J298_42 at e
  exact (
  M_put c298_42 (by decide) <|
  M_of (fun _ _ H => r_aloadn c298_45 h0 <| H) <|
  M_get (v := s0) c298_46 (by decide) rfl <|
  t_if e (fun b6 e7 =>
    M_of (fun _ _ H => r_ifT c298_49 b6 <| H) <|
    M_of (fun _ _ H => r_bipush c298_54 <| r_iloadn c298_56 h1 <| r_imul c298_57 rfl <| r_istore c298_58 <| r_lloadn c298_60 (ld1_ne h2 (by decide) (Or.inl (by decide))) <| r_aloadn c298_61 (ld1_ne h0 (by decide) (Or.inl (by decide))) <| H) <|
    M_geta (j := 60) c298_62 (by decide) <|
    M_of (fun _ _ H => r_iload c298_65 ld1_eq <| H) <|
    t_ck e7 fun i8 e9 =>
    M_lald (j := 60) (v := (S.2.2 60 ((64 * x1)).toInt.toNat)) c298_67 (by decide) i8 rfl <|
    M_of (fun _ _ H => r_lsub c298_68 rfl <| r_lstore c298_69 <| H) <|
    L298_71_ok e9 _ (ld2_ne (ld1_ne h0 (by decide) (Or.inl (by decide))) (by decide) (Or.inl (by decide))) (ld2_ne ld1_eq (by decide) (Or.inr rfl)) ld2_eq
  ) (fun b6 e7 =>
    M_of (fun _ _ H => r_ifF c298_49 b6 <| H) <|
    M_of (fun _ _ H => r_iconst c298_52 <| H) <|
    M_ri (Option.some.inj e7) (fun _ => r_iret c298_53 rfl)
  ))
def J298_38 (N : Nat) (x1 : Int32) (x2 : Int64)  (S : mS) : Option (Int32 × mS) :=
  J298_42 N x1 x2 (S.1 0) S
theorem J298_38_ok {xt : mj_X} {ct : Nat → Value} {a : Nat} {ra : Nat → Nat} {d N : Nat} {l : mj_L} {x1 : Int32} {x2 : Int64}  {S : mS} {q : Int32 × mS} (h0 : mj_ld l 0 = some (.ref a)) (h1 : mj_ld l 1 = some (.int x1)) (h2 : mj_ld l 2 = some (.long x2)) (e : J298_38 N x1 x2  S = some q) : MR xt ct a ra (d + 4) 298 38 l [.ref a] S (.inl (some (.int q.1))) q.2 := by
  unfold J298_38 at e
  exact (
  M_of (fun _ _ H => r_aloadn c298_38 h0 <| H) <|
  M_get (v := (S.1 0)) c298_39 (by decide) rfl <|
  J298_42_ok h0 h1 h2 e)
def J298_34 (N : Nat) (x1 : Int32) (x2 : Int64)  (S : mS) : Option (Int32 × mS) :=
  J298_42 N x1 x2 3 S
theorem J298_34_ok {xt : mj_X} {ct : Nat → Value} {a : Nat} {ra : Nat → Nat} {d N : Nat} {l : mj_L} {x1 : Int32} {x2 : Int64}  {S : mS} {q : Int32 × mS} (h0 : mj_ld l 0 = some (.ref a)) (h1 : mj_ld l 1 = some (.int x1)) (h2 : mj_ld l 2 = some (.long x2)) (e : J298_34 N x1 x2  S = some q) : MR xt ct a ra (d + 4) 298 34 l [.ref a] S (.inl (some (.int q.1))) q.2 := by
  unfold J298_34 at e
  exact (
  M_of (fun _ _ H => r_iconst c298_34 <| r_goto c298_35 <| H) <|
  J298_42_ok h0 h1 h2 e)
/-- sample(IJ)I -/
def M298 (N : Nat) (x1 : Int32) (x2 : Int64) (S : mS) : Option (Int32 × mS) :=
  (M290 N x1 S).bind fun r1 =>
  bif mj_c1 .ne r1.1 then
    J298_38 N x1 x2 (m_sV r1.2 0 r1.1)
  else
  bif mj_c1 .lt (lg_cmp x2 0) then
    J298_34 N x1 x2 (m_sV r1.2 0 r1.1)
  else
  if 0 ≤ (x1).toInt ∧ (x1).toInt < mN 61 then
  bif mj_c1 .lt (lg_cmp x2 (r1.2.2.2 61 (x1).toInt.toNat)) then
    J298_38 N x1 x2 (m_sV r1.2 0 r1.1)
  else
  J298_34 N x1 x2 (m_sV r1.2 0 r1.1)
  else none
theorem M298_ok {xt : mj_X} {ct : Nat → Value} {a : Nat} {ra : Nat → Nat} {d N : Nat} {x1 : Int32} {x2 : Int64} {S : mS} {q : Int32 × mS} (e : M298 N x1 x2 S = some q) : MR xt ct a ra (d + 4) 298 0 (lv_args 0 [.ref a, .int x1, .long x2]) [] S (.inl (some (.int q.1))) q.2 := by
  unfold M298 at e
  exact (
  M_of (fun _ _ H => r_aloadn c298_0 rfl <| r_aloadn c298_1 rfl <| r_iloadn c298_2 rfl <| H) <|
  t_bd e fun r1 c2 e3 =>
  M_cv (as := [.ref a, .int x1]) (st' := [.int r1.1, .ref a]) (v := (some (.int r1.1))) c298_3 rfl ⟨Nat.le_of_ble_eq_true rfl, Nat.le_of_ble_eq_true rfl, Nat.le_of_ble_eq_true rfl⟩ rfl rfl (M290_ok (d := d) c2) (Nat.add_lt_add_left (by decide) d) <|
  M_put c298_6 (by decide) <|
  M_of (fun _ _ H => r_aloadn c298_9 rfl <| r_aloadn c298_10 rfl <| H) <|
  M_get (v := r1.1) c298_11 (by decide) rfl <|
  t_if e3 (fun b4 e5 =>
    M_of (fun _ _ H => r_ifT c298_14 b4 <| H) <|
    J298_38_ok rfl rfl rfl e5
  ) (fun b4 e5 =>
    M_of (fun _ _ H => r_ifF c298_14 b4 <| H) <|
    M_of (fun _ _ H => r_lloadn c298_17 rfl <| r_lconst c298_18 <| r_lcmp c298_19 rfl <| H) <|
    t_if e5 (fun b16 e17 =>
      M_of (fun _ _ H => r_ifT c298_20 b16 <| H) <|
      J298_34_ok rfl rfl rfl e17
    ) (fun b16 e17 =>
      M_of (fun _ _ H => r_ifF c298_20 b16 <| H) <|
      M_of (fun _ _ H => r_lloadn c298_23 rfl <| r_aloadn c298_24 rfl <| H) <|
      M_geta (j := 61) c298_25 (by decide) <|
      M_of (fun _ _ H => r_iloadn c298_28 rfl <| H) <|
      t_ck e17 fun i18 e19 =>
      M_lald (j := 61) (v := (r1.2.2.2 61 (x1).toInt.toNat)) c298_29 (by decide) i18 rfl <|
      M_of (fun _ _ H => r_lcmp c298_30 rfl <| H) <|
      t_if e19 (fun b20 e21 =>
        M_of (fun _ _ H => r_ifT c298_31 b20 <| H) <|
        J298_38_ok rfl rfl rfl e21
      ) (fun b20 e21 =>
        M_of (fun _ _ H => r_ifF c298_31 b20 <| H) <|
        J298_34_ok rfl rfl rfl e21
      )
    )
  ))
def LG299_72 (xt : mj_X) (ct : Nat → Value) (a : Nat) (ra : Nat → Nat) (d : Nat) (q : Int64 × mS) (x1 : Int32) (x2 : Int32) (x3 : Int32) (x4 : Int64) (x6 : Int32) (S : mS) : Prop := ∀ l, mj_ld l 0 = some (.ref a) → mj_ld l 1 = some (.int x1) → mj_ld l 2 = some (.int x2) → mj_ld l 3 = some (.int x3) → mj_ld l 4 = some (.long x4) → mj_ld l 6 = some (.int x6) → MR xt ct a ra (d + 3) 299 72 l [] S (.inl (some (.long q.1))) q.2
def GG299_72 (xt : mj_X) (ct : Nat → Value) (a : Nat) (ra : Nat → Nat) (d : Nat) (q : Int64 × mS) (o : (Int32 × Int32 × Int32 × Int64 × Int32 × mS) ⊕ (Int64 × mS)) : Prop := match o with
  | .inl (x1, x2, x3, x4, x6, S) => LG299_72 xt ct a ra d q x1 x2 x3 x4 x6 S
  | .inr r => r = q
def LG299_94 (xt : mj_X) (ct : Nat → Value) (a : Nat) (ra : Nat → Nat) (d : Nat) (q : Int64 × mS) (x1 : Int32) (x2 : Int32) (x3 : Int32) (x4 : Int64) (x6 : Int32) (x7 : Int32) (S : mS) : Prop := ∀ l, mj_ld l 0 = some (.ref a) → mj_ld l 1 = some (.int x1) → mj_ld l 2 = some (.int x2) → mj_ld l 3 = some (.int x3) → mj_ld l 4 = some (.long x4) → mj_ld l 6 = some (.int x6) → mj_ld l 7 = some (.int x7) → MR xt ct a ra (d + 3) 299 94 l [] S (.inl (some (.long q.1))) q.2
def GG299_94 (xt : mj_X) (ct : Nat → Value) (a : Nat) (ra : Nat → Nat) (d : Nat) (q : Int64 × mS) (o : (Int32 × Int32 × Int32 × Int64 × Int32 × Int32 × mS) ⊕ ((Int32 × Int32 × Int32 × Int64 × Int32 × mS) ⊕ (Int64 × mS))) : Prop := match o with
  | .inl (x1, x2, x3, x4, x6, x7, S) => LG299_94 xt ct a ra d q x1 x2 x3 x4 x6 x7 S
  | .inr r => GG299_72 xt ct a ra d q r
def J299_184 (N : Nat) (x1 : Int32) (x2 : Int32) (x3 : Int32) (x6 : Int32) (x7 : Int32) (s0 : Int64) (S : mS) : Option ((Int32 × Int32 × Int32 × Int64 × Int32 × Int32 × mS) ⊕ ((Int32 × Int32 × Int32 × Int64 × Int32 × mS) ⊕ (Int64 × mS))) :=
  some (.inl (x1, x2, x3, s0, x6, (x7 + 1), S))
theorem J299_184_ok {xt : mj_X} {ct : Nat → Value} {a : Nat} {ra : Nat → Nat} {d N : Nat} {l : mj_L} {x1 : Int32} {x2 : Int32} {x3 : Int32} {x6 : Int32} {x7 : Int32} {s0 : Int64} {S : mS} {o : (Int32 × Int32 × Int32 × Int64 × Int32 × Int32 × mS) ⊕ ((Int32 × Int32 × Int32 × Int64 × Int32 × mS) ⊕ (Int64 × mS))} {q : Int64 × mS} (h0 : mj_ld l 0 = some (.ref a)) (h1 : mj_ld l 1 = some (.int x1)) (h2 : mj_ld l 2 = some (.int x2)) (h3 : mj_ld l 3 = some (.int x3)) (h6 : mj_ld l 6 = some (.int x6)) (h7 : mj_ld l 7 = some (.int x7)) (e : J299_184 N x1 x2 x3 x6 x7 s0 S = some o) (g : GG299_94 xt ct a ra d q o) : MR xt ct a ra (d + 3) 299 184 l [.long s0] S (.inl (some (.long q.1))) q.2 := by
  unfold J299_184 at e
  exact (
  M_of (fun _ _ H => r_lstore c299_184 <| r_iinc c299_186 (ld2_ne h7 (by decide) (Or.inl (by decide))) <| r_goto c299_189 <| H) <|
  t_rg e g (fun (e : LG299_94 xt ct a ra d q x1 x2 x3 s0 x6 (x7 + 1) S) => e _ (ld1_ne (ld2_ne h0 (by decide) (Or.inl (by decide))) (by decide) (Or.inl (by decide))) (ld1_ne (ld2_ne h1 (by decide) (Or.inl (by decide))) (by decide) (Or.inl (by decide))) (ld1_ne (ld2_ne h2 (by decide) (Or.inl (by decide))) (by decide) (Or.inl (by decide))) (ld1_ne (ld2_ne h3 (by decide) (Or.inr rfl)) (by decide) (Or.inl (by decide))) (ld1_ne ld2_eq (by decide) (Or.inl (by decide))) (ld1_ne (ld2_ne h6 (by decide) (Or.inl (by decide))) (by decide) (Or.inr rfl)) ld1_eq))
def J299_153 (N : Nat) (x1 : Int32) (x2 : Int32) (x3 : Int32) (x4 : Int64) (x6 : Int32) (x7 : Int32) (s0 : Int32) (S : mS) : Option ((Int32 × Int32 × Int32 × Int64 × Int32 × Int32 × mS) ⊕ ((Int32 × Int32 × Int32 × Int64 × Int32 × mS) ⊕ (Int64 × mS))) :=
  bif mj_c2 .ne s0 x3 then
    J299_184 N x1 x2 x3 x6 x7 x4 S
  else
  if 0 ≤ (x6).toInt ∧ (x6).toInt < mN 60 then
  if 0 ≤ (x7).toInt ∧ (x7).toInt < mN 60 then
  J299_184 N x1 x2 x3 x6 x7 (x4 + ((S.2.2 60 (x6).toInt.toNat) * (S.2.2 60 (x7).toInt.toNat))) S
  else none
  else none
theorem J299_153_ok {xt : mj_X} {ct : Nat → Value} {a : Nat} {ra : Nat → Nat} {d N : Nat} {l : mj_L} {x1 : Int32} {x2 : Int32} {x3 : Int32} {x4 : Int64} {x6 : Int32} {x7 : Int32} {s0 : Int32} {S : mS} {o : (Int32 × Int32 × Int32 × Int64 × Int32 × Int32 × mS) ⊕ ((Int32 × Int32 × Int32 × Int64 × Int32 × mS) ⊕ (Int64 × mS))} {q : Int64 × mS} (h0 : mj_ld l 0 = some (.ref a)) (h1 : mj_ld l 1 = some (.int x1)) (h2 : mj_ld l 2 = some (.int x2)) (h3 : mj_ld l 3 = some (.int x3)) (h4 : mj_ld l 4 = some (.long x4)) (h6 : mj_ld l 6 = some (.int x6)) (h7 : mj_ld l 7 = some (.int x7)) (e : J299_153 N x1 x2 x3 x4 x6 x7 s0 S = some o) (g : GG299_94 xt ct a ra d q o) : MR xt ct a ra (d + 3) 299 153 l [.int s0] S (.inl (some (.long q.1))) q.2 := by
  unfold J299_153 at e
  exact (
  M_of (fun _ _ H => r_istore c299_153 <| r_iload c299_155 ld1_eq <| r_iloadn c299_157 (ld1_ne h3 (by decide) (Or.inl (by decide))) <| H) <|
  t_if e (fun b28 e29 =>
    M_of (fun _ _ H => r_icmpT c299_158 b28 <| H) <|
    M_of (fun _ _ H => r_lload c299_182 (ld1_ne h4 (by decide) (Or.inl (by decide))) <| H) <|
    J299_184_ok (ld1_ne h0 (by decide) (Or.inl (by decide))) (ld1_ne h1 (by decide) (Or.inl (by decide))) (ld1_ne h2 (by decide) (Or.inl (by decide))) (ld1_ne h3 (by decide) (Or.inl (by decide))) (ld1_ne h6 (by decide) (Or.inl (by decide))) (ld1_ne h7 (by decide) (Or.inr rfl)) e29 g
  ) (fun b28 e29 =>
    M_of (fun _ _ H => r_icmpF c299_158 b28 <| H) <|
    M_of (fun _ _ H => r_lload c299_161 (ld1_ne h4 (by decide) (Or.inl (by decide))) <| r_aloadn c299_163 (ld1_ne h0 (by decide) (Or.inl (by decide))) <| H) <|
    M_geta (j := 60) c299_164 (by decide) <|
    M_of (fun _ _ H => r_iload c299_167 (ld1_ne h6 (by decide) (Or.inl (by decide))) <| H) <|
    t_ck e29 fun i30 e31 =>
    M_lald (j := 60) (v := (S.2.2 60 (x6).toInt.toNat)) c299_169 (by decide) i30 rfl <|
    M_of (fun _ _ H => r_aloadn c299_170 (ld1_ne h0 (by decide) (Or.inl (by decide))) <| H) <|
    M_geta (j := 60) c299_171 (by decide) <|
    M_of (fun _ _ H => r_iload c299_174 (ld1_ne h7 (by decide) (Or.inr rfl)) <| H) <|
    t_ck e31 fun i32 e33 =>
    M_lald (j := 60) (v := (S.2.2 60 (x7).toInt.toNat)) c299_176 (by decide) i32 rfl <|
    M_of (fun _ _ H => r_lmul c299_177 rfl <| r_ladd c299_178 rfl <| r_goto c299_179 <| H) <|
    J299_184_ok (ld1_ne h0 (by decide) (Or.inl (by decide))) (ld1_ne h1 (by decide) (Or.inl (by decide))) (ld1_ne h2 (by decide) (Or.inl (by decide))) (ld1_ne h3 (by decide) (Or.inl (by decide))) (ld1_ne h6 (by decide) (Or.inl (by decide))) (ld1_ne h7 (by decide) (Or.inr rfl)) e33 g
  ))
def B299_94 (N : Nat) (s : Int32 × Int32 × Int32 × Int64 × Int32 × Int32 × mS) : Option ((Int32 × Int32 × Int32 × Int64 × Int32 × Int32 × mS) ⊕ ((Int32 × Int32 × Int32 × Int64 × Int32 × mS) ⊕ (Int64 × mS))) :=
  if 0 ≤ (s.2.1).toInt ∧ (s.2.1).toInt < mN 58 then
  bif mj_c2 .ge s.2.2.2.2.2.1 ((64 * s.2.1) + (s.2.2.2.2.2.2.2.1 58 (s.2.1).toInt.toNat)) then
    some (.inr (.inl (s.1, s.2.1, s.2.2.1, s.2.2.2.1, (s.2.2.2.2.1 + 1), s.2.2.2.2.2.2)))
  else
  if 0 ≤ (s.2.2.2.2.1).toInt ∧ (s.2.2.2.2.1).toInt < mN 59 then
  if 0 ≤ (s.2.2.2.2.2.1).toInt ∧ (s.2.2.2.2.2.1).toInt < mN 59 then
  bif mj_c2 .ge (s.2.2.2.2.2.2.2.1 59 (s.2.2.2.2.1).toInt.toNat) (s.2.2.2.2.2.2.2.1 59 (s.2.2.2.2.2.1).toInt.toNat) then
    if 0 ≤ (s.2.2.2.2.1).toInt ∧ (s.2.2.2.2.1).toInt < mN 59 then
    if 0 ≤ (s.2.2.2.2.2.1).toInt ∧ (s.2.2.2.2.2.1).toInt < mN 59 then
    bif mj_c2 .ne (s.2.2.2.2.2.2.2.1 59 (s.2.2.2.2.1).toInt.toNat) (s.2.2.2.2.2.2.2.1 59 (s.2.2.2.2.2.1).toInt.toNat) then
      J299_153 N s.1 s.2.1 s.2.2.1 s.2.2.2.1 s.2.2.2.2.1 s.2.2.2.2.2.1 1 s.2.2.2.2.2.2
    else
    J299_153 N s.1 s.2.1 s.2.2.1 s.2.2.2.1 s.2.2.2.2.1 s.2.2.2.2.2.1 0 s.2.2.2.2.2.2
    else none
    else none
  else
  J299_153 N s.1 s.2.1 s.2.2.1 s.2.2.2.1 s.2.2.2.2.1 s.2.2.2.2.2.1 (-1) s.2.2.2.2.2.2
  else none
  else none
  else none
def L299_94 (N : Nat) (s : Int32 × Int32 × Int32 × Int64 × Int32 × Int32 × mS) : Option ((Int32 × Int32 × Int32 × Int64 × Int32 × mS) ⊕ (Int64 × mS)) := t_lp (B299_94 N) N s
theorem B299_94_ok {xt : mj_X} {ct : Nat → Value} {a : Nat} {ra : Nat → Nat} {d N : Nat} {s : Int32 × Int32 × Int32 × Int64 × Int32 × Int32 × mS} {o : (Int32 × Int32 × Int32 × Int64 × Int32 × Int32 × mS) ⊕ ((Int32 × Int32 × Int32 × Int64 × Int32 × mS) ⊕ (Int64 × mS))} {q : Int64 × mS} (e : B299_94 N s = some o) (g : GG299_94 xt ct a ra d q o) : LG299_94 xt ct a ra d q s.1 s.2.1 s.2.2.1 s.2.2.2.1 s.2.2.2.2.1 s.2.2.2.2.2.1 s.2.2.2.2.2.2 := by
  unfold B299_94 at e
  exact (fun l h0 h1 h2 h3 h4 h6 h7 =>
  M_of (fun _ _ H => r_iload c299_94 h7 <| r_bipush c299_96 <| r_iloadn c299_98 h2 <| r_imul c299_99 rfl <| r_aloadn c299_100 h0 <| H) <|
  M_geta (j := 58) c299_101 (by decide) <|
  M_of (fun _ _ H => r_iloadn c299_104 h2 <| H) <|
  t_ck e fun i12 e13 =>
  M_iald (j := 58) (v := (s.2.2.2.2.2.2.2.1 58 (s.2.1).toInt.toNat)) c299_105 (by decide) i12 rfl <|
  M_of (fun _ _ H => r_iadd c299_106 rfl <| H) <|
  t_if e13 (fun b14 e15 =>
    M_of (fun _ _ H => r_icmpT c299_107 b14 <| H) <|
    M_of (fun _ _ H => r_iinc c299_192 h6 <| r_goto c299_195 <| H) <|
    t_rg e15 g (fun (e : LG299_72 xt ct a ra d q s.1 s.2.1 s.2.2.1 s.2.2.2.1 (s.2.2.2.2.1 + 1) s.2.2.2.2.2.2) => e _ (ld1_ne h0 (by decide) (Or.inl (by decide))) (ld1_ne h1 (by decide) (Or.inl (by decide))) (ld1_ne h2 (by decide) (Or.inl (by decide))) (ld1_ne h3 (by decide) (Or.inl (by decide))) (ld1_ne h4 (by decide) (Or.inl (by decide))) ld1_eq)
  ) (fun b14 e15 =>
    M_of (fun _ _ H => r_icmpF c299_107 b14 <| H) <|
    M_of (fun _ _ H => r_aloadn c299_110 h0 <| H) <|
    M_geta (j := 59) c299_111 (by decide) <|
    M_of (fun _ _ H => r_iload c299_114 h6 <| H) <|
    t_ck e15 fun i16 e17 =>
    M_iald (j := 59) (v := (s.2.2.2.2.2.2.2.1 59 (s.2.2.2.2.1).toInt.toNat)) c299_116 (by decide) i16 rfl <|
    M_of (fun _ _ H => r_aloadn c299_117 h0 <| H) <|
    M_geta (j := 59) c299_118 (by decide) <|
    M_of (fun _ _ H => r_iload c299_121 h7 <| H) <|
    t_ck e17 fun i18 e19 =>
    M_iald (j := 59) (v := (s.2.2.2.2.2.2.2.1 59 (s.2.2.2.2.2.1).toInt.toNat)) c299_123 (by decide) i18 rfl <|
    t_if e19 (fun b20 e21 =>
      M_of (fun _ _ H => r_icmpT c299_124 b20 <| H) <|
      M_of (fun _ _ H => r_aloadn c299_131 h0 <| H) <|
      M_geta (j := 59) c299_132 (by decide) <|
      M_of (fun _ _ H => r_iload c299_135 h6 <| H) <|
      t_ck e21 fun i22 e23 =>
      M_iald (j := 59) (v := (s.2.2.2.2.2.2.2.1 59 (s.2.2.2.2.1).toInt.toNat)) c299_137 (by decide) i22 rfl <|
      M_of (fun _ _ H => r_aloadn c299_138 h0 <| H) <|
      M_geta (j := 59) c299_139 (by decide) <|
      M_of (fun _ _ H => r_iload c299_142 h7 <| H) <|
      t_ck e23 fun i24 e25 =>
      M_iald (j := 59) (v := (s.2.2.2.2.2.2.2.1 59 (s.2.2.2.2.2.1).toInt.toNat)) c299_144 (by decide) i24 rfl <|
      t_if e25 (fun b26 e27 =>
        M_of (fun _ _ H => r_icmpT c299_145 b26 <| H) <|
        M_of (fun _ _ H => r_iconst c299_152 <| H) <|
        J299_153_ok h0 h1 h2 h3 h4 h6 h7 e27 g
      ) (fun b26 e27 =>
        M_of (fun _ _ H => r_icmpF c299_145 b26 <| H) <|
        M_of (fun _ _ H => r_iconst c299_148 <| r_goto c299_149 <| H) <|
        J299_153_ok h0 h1 h2 h3 h4 h6 h7 e27 g
      )
    ) (fun b20 e21 =>
      M_of (fun _ _ H => r_icmpF c299_124 b20 <| H) <|
      M_of (fun _ _ H => r_iconst c299_127 <| r_goto c299_128 <| H) <|
      J299_153_ok h0 h1 h2 h3 h4 h6 h7 e21 g
    )
  ))
theorem L299_94_ok {xt : mj_X} {ct : Nat → Value} {a : Nat} {ra : Nat → Nat} {d N : Nat} {x1 : Int32} {x2 : Int32} {x3 : Int32} {x4 : Int64} {x6 : Int32} {x7 : Int32} {S : mS} {o : (Int32 × Int32 × Int32 × Int64 × Int32 × mS) ⊕ (Int64 × mS)} {q : Int64 × mS} (e : L299_94 N (x1, x2, x3, x4, x6, x7, S) = some o) (g : GG299_72 xt ct a ra d q o) : LG299_94 xt ct a ra d q x1 x2 x3 x4 x6 x7 S :=
  t_lp_ok (G := fun s => LG299_94 xt ct a ra d q s.1 s.2.1 s.2.2.1 s.2.2.2.1 s.2.2.2.2.1 s.2.2.2.2.2.1 s.2.2.2.2.2.2) (fun s s' e g => B299_94_ok e (by obtain ⟨_, _, _, _, _, _, _⟩ := s'; exact g)) (fun s e => B299_94_ok e g) N (x1, x2, x3, x4, x6, x7, S) e
def B299_72 (N : Nat) (s : Int32 × Int32 × Int32 × Int64 × Int32 × mS) : Option ((Int32 × Int32 × Int32 × Int64 × Int32 × mS) ⊕ (Int64 × mS)) :=
  if 0 ≤ (s.1).toInt ∧ (s.1).toInt < mN 58 then
  bif mj_c2 .ge s.2.2.2.2.1 ((64 * s.1) + (s.2.2.2.2.2.2.1 58 (s.1).toInt.toNat)) then
    some (.inr (s.2.2.2.1, s.2.2.2.2.2))
  else
  L299_94 N (s.1, s.2.1, s.2.2.1, s.2.2.2.1, s.2.2.2.2.1, (64 * s.2.1), s.2.2.2.2.2)
  else none
def L299_72 (N : Nat) (s : Int32 × Int32 × Int32 × Int64 × Int32 × mS) : Option (Int64 × mS) := t_lp (B299_72 N) N s
theorem B299_72_ok {xt : mj_X} {ct : Nat → Value} {a : Nat} {ra : Nat → Nat} {d N : Nat} {s : Int32 × Int32 × Int32 × Int64 × Int32 × mS} {o : (Int32 × Int32 × Int32 × Int64 × Int32 × mS) ⊕ (Int64 × mS)} {q : Int64 × mS} (e : B299_72 N s = some o) (g : GG299_72 xt ct a ra d q o) : LG299_72 xt ct a ra d q s.1 s.2.1 s.2.2.1 s.2.2.2.1 s.2.2.2.2.1 s.2.2.2.2.2 := by
  unfold B299_72 at e
  exact (fun l h0 h1 h2 h3 h4 h6 =>
  M_of (fun _ _ H => r_iload c299_72 h6 <| r_bipush c299_74 <| r_iloadn c299_76 h1 <| r_imul c299_77 rfl <| r_aloadn c299_78 h0 <| H) <|
  M_geta (j := 58) c299_79 (by decide) <|
  M_of (fun _ _ H => r_iloadn c299_82 h1 <| H) <|
  t_ck e fun i8 e9 =>
  M_iald (j := 58) (v := (s.2.2.2.2.2.2.1 58 (s.1).toInt.toNat)) c299_83 (by decide) i8 rfl <|
  M_of (fun _ _ H => r_iadd c299_84 rfl <| H) <|
  t_if e9 (fun b10 e11 =>
    M_of (fun _ _ H => r_icmpT c299_85 b10 <| H) <|
    M_of (fun _ _ H => r_lload c299_198 h4 <| H) <|
    t_rg e11 g (fun (e : (s.2.2.2.1, s.2.2.2.2.2) = q) => M_rl (e) (fun _ => r_lret c299_200))
  ) (fun b10 e11 =>
    M_of (fun _ _ H => r_icmpF c299_85 b10 <| H) <|
    M_of (fun _ _ H => r_bipush c299_88 <| r_iloadn c299_90 h2 <| r_imul c299_91 rfl <| r_istore c299_92 <| H) <|
    L299_94_ok e11 g _ (ld1_ne h0 (by decide) (Or.inl (by decide))) (ld1_ne h1 (by decide) (Or.inl (by decide))) (ld1_ne h2 (by decide) (Or.inl (by decide))) (ld1_ne h3 (by decide) (Or.inl (by decide))) (ld1_ne h4 (by decide) (Or.inl (by decide))) (ld1_ne h6 (by decide) (Or.inr rfl)) ld1_eq
  ))
theorem L299_72_ok {xt : mj_X} {ct : Nat → Value} {a : Nat} {ra : Nat → Nat} {d N : Nat} {x1 : Int32} {x2 : Int32} {x3 : Int32} {x4 : Int64} {x6 : Int32} {S : mS} {q : Int64 × mS} (e : L299_72 N (x1, x2, x3, x4, x6, S) = some q) : LG299_72 xt ct a ra d q x1 x2 x3 x4 x6 S :=
  t_lp_ok (G := fun s => LG299_72 xt ct a ra d q s.1 s.2.1 s.2.2.1 s.2.2.2.1 s.2.2.2.2.1 s.2.2.2.2.2) (fun s s' e g => B299_72_ok e (by obtain ⟨_, _, _, _, _, _⟩ := s'; exact g)) (fun s e => B299_72_ok e rfl) N (x1, x2, x3, x4, x6, S) e
def J299_51 (N : Nat) (x1 : Int32) (x2 : Int32) (x3 : Int32) (s0 : Int32) (S : mS) : Option (Int64 × mS) :=
  bif mj_c1 .le s0 then
    L299_72 N (x1, x2, x3, 0, (64 * x1), (m_sV S 0 s0))
  else
  some (0, (m_sV S 0 s0))
theorem J299_51_ok {xt : mj_X} {ct : Nat → Value} {a : Nat} {ra : Nat → Nat} {d N : Nat} {l : mj_L} {x1 : Int32} {x2 : Int32} {x3 : Int32} {s0 : Int32} {S : mS} {q : Int64 × mS} (h0 : mj_ld l 0 = some (.ref a)) (h1 : mj_ld l 1 = some (.int x1)) (h2 : mj_ld l 2 = some (.int x2)) (h3 : mj_ld l 3 = some (.int x3)) (e : J299_51 N x1 x2 x3 s0 S = some q) : MR xt ct a ra (d + 3) 299 51 l [.int s0, .ref a] S (.inl (some (.long q.1))) q.2 := by
  unfold J299_51 at e
  exact (
  M_put c299_51 (by decide) <|
  M_of (fun _ _ H => r_aloadn c299_54 h0 <| H) <|
  M_get (v := s0) c299_55 (by decide) rfl <|
  t_if e (fun b6 e7 =>
    M_of (fun _ _ H => r_ifT c299_58 b6 <| H) <|
    M_of (fun _ _ H => r_lconst c299_63 <| r_lstore c299_64 <| r_bipush c299_66 <| r_iloadn c299_68 (ld2_ne h1 (by decide) (Or.inl (by decide))) <| r_imul c299_69 rfl <| r_istore c299_70 <| H) <|
    L299_72_ok e7 _ (ld1_ne (ld2_ne h0 (by decide) (Or.inl (by decide))) (by decide) (Or.inl (by decide))) (ld1_ne (ld2_ne h1 (by decide) (Or.inl (by decide))) (by decide) (Or.inl (by decide))) (ld1_ne (ld2_ne h2 (by decide) (Or.inl (by decide))) (by decide) (Or.inl (by decide))) (ld1_ne (ld2_ne h3 (by decide) (Or.inr rfl)) (by decide) (Or.inl (by decide))) (ld1_ne ld2_eq (by decide) (Or.inl (by decide))) ld1_eq
  ) (fun b6 e7 =>
    M_of (fun _ _ H => r_ifF c299_58 b6 <| H) <|
    M_of (fun _ _ H => r_lconst c299_61 <| H) <|
    M_rl (Option.some.inj e7) (fun _ => r_lret c299_62)
  ))
def J299_24 (N : Nat) (x1 : Int32) (x2 : Int32) (x3 : Int32)  (S : mS) : Option (Int64 × mS) :=
  J299_51 N x1 x2 x3 1 S
theorem J299_24_ok {xt : mj_X} {ct : Nat → Value} {a : Nat} {ra : Nat → Nat} {d N : Nat} {l : mj_L} {x1 : Int32} {x2 : Int32} {x3 : Int32}  {S : mS} {q : Int64 × mS} (h0 : mj_ld l 0 = some (.ref a)) (h1 : mj_ld l 1 = some (.int x1)) (h2 : mj_ld l 2 = some (.int x2)) (h3 : mj_ld l 3 = some (.int x3)) (e : J299_24 N x1 x2 x3  S = some q) : MR xt ct a ra (d + 3) 299 24 l [.ref a] S (.inl (some (.long q.1))) q.2 := by
  unfold J299_24 at e
  exact (
  M_of (fun _ _ H => r_iconst c299_24 <| r_goto c299_25 <| H) <|
  J299_51_ok h0 h1 h2 h3 e)
def J299_46 (N : Nat) (x1 : Int32) (x2 : Int32) (x3 : Int32)  (S : mS) : Option (Int64 × mS) :=
  J299_51 N x1 x2 x3 2 S
theorem J299_46_ok {xt : mj_X} {ct : Nat → Value} {a : Nat} {ra : Nat → Nat} {d N : Nat} {l : mj_L} {x1 : Int32} {x2 : Int32} {x3 : Int32}  {S : mS} {q : Int64 × mS} (h0 : mj_ld l 0 = some (.ref a)) (h1 : mj_ld l 1 = some (.int x1)) (h2 : mj_ld l 2 = some (.int x2)) (h3 : mj_ld l 3 = some (.int x3)) (e : J299_46 N x1 x2 x3  S = some q) : MR xt ct a ra (d + 3) 299 46 l [.ref a] S (.inl (some (.long q.1))) q.2 := by
  unfold J299_46 at e
  exact (
  M_of (fun _ _ H => r_iconst c299_46 <| r_goto c299_47 <| H) <|
  J299_51_ok h0 h1 h2 h3 e)
/-- compare(III)J -/
def M299 (N : Nat) (x1 : Int32) (x2 : Int32) (x3 : Int32) (S : mS) : Option (Int64 × mS) :=
  (M210 N x1 S).bind fun r1 =>
  bif mj_c1 .eq r1.1 then
    J299_24 N x1 x2 x3 r1.2
  else
  (M210 N x2 r1.2).bind fun r34 =>
  bif mj_c1 .eq r34.1 then
    J299_24 N x1 x2 x3 r34.2
  else
  (M205 N x3 (-1) 1 r34.2).bind fun r39 =>
  bif mj_c1 .ne r39.1 then
    if 0 ≤ (x1).toInt ∧ (x1).toInt < mN 57 then
    bif mj_c1 .eq (r39.2.2.1 57 (x1).toInt.toNat) then
      J299_46 N x1 x2 x3 r39.2
    else
    if 0 ≤ (x2).toInt ∧ (x2).toInt < mN 57 then
    bif mj_c1 .ne (r39.2.2.1 57 (x2).toInt.toNat) then
      J299_51 N x1 x2 x3 0 r39.2
    else
    J299_46 N x1 x2 x3 r39.2
    else none
    else none
  else
  J299_24 N x1 x2 x3 r39.2
theorem M299_ok {xt : mj_X} {ct : Nat → Value} {a : Nat} {ra : Nat → Nat} {d N : Nat} {x1 : Int32} {x2 : Int32} {x3 : Int32} {S : mS} {q : Int64 × mS} (e : M299 N x1 x2 x3 S = some q) : MR xt ct a ra (d + 3) 299 0 (lv_args 0 [.ref a, .int x1, .int x2, .int x3]) [] S (.inl (some (.long q.1))) q.2 := by
  unfold M299 at e
  exact (
  M_of (fun _ _ H => r_aloadn c299_0 rfl <| r_iloadn c299_1 rfl <| H) <|
  t_bd e fun r1 c2 e3 =>
  M_cs (as := [.int x1]) (st' := [.int r1.1, .ref a]) (v := (some (.int r1.1))) c299_2 ⟨Nat.le_of_ble_eq_true rfl, Nat.le_of_ble_eq_true rfl, Nat.le_of_ble_eq_true rfl⟩ rfl rfl (M210_ok (d := d) c2) (Nat.add_lt_add_left (by decide) d) <|
  t_if e3 (fun b4 e5 =>
    M_of (fun _ _ H => r_ifT c299_5 b4 <| H) <|
    J299_24_ok rfl rfl rfl rfl e5
  ) (fun b4 e5 =>
    M_of (fun _ _ H => r_ifF c299_5 b4 <| H) <|
    M_of (fun _ _ H => r_iloadn c299_8 rfl <| H) <|
    t_bd e5 fun r34 c35 e36 =>
    M_cs (as := [.int x2]) (st' := [.int r34.1, .ref a]) (v := (some (.int r34.1))) c299_9 ⟨Nat.le_of_ble_eq_true rfl, Nat.le_of_ble_eq_true rfl, Nat.le_of_ble_eq_true rfl⟩ rfl rfl (M210_ok (d := d) c35) (Nat.add_lt_add_left (by decide) d) <|
    t_if e36 (fun b37 e38 =>
      M_of (fun _ _ H => r_ifT c299_12 b37 <| H) <|
      J299_24_ok rfl rfl rfl rfl e38
    ) (fun b37 e38 =>
      M_of (fun _ _ H => r_ifF c299_12 b37 <| H) <|
      M_of (fun _ _ H => r_iloadn c299_15 rfl <| r_iconst c299_16 <| r_iconst c299_17 <| H) <|
      t_bd e38 fun r39 c40 e41 =>
      M_cs (as := [.int x3, .int (-1), .int 1]) (st' := [.int r39.1, .ref a]) (v := (some (.int r39.1))) c299_18 ⟨Nat.le_of_ble_eq_true rfl, Nat.le_of_ble_eq_true rfl, Nat.le_of_ble_eq_true rfl⟩ rfl rfl (M205_ok (d := d) c40) (Nat.add_lt_add_left (by decide) d) <|
      t_if e41 (fun b42 e43 =>
        M_of (fun _ _ H => r_ifT c299_21 b42 <| H) <|
        M_of (fun _ _ H => r_aloadn c299_28 rfl <| H) <|
        M_geta (j := 57) c299_29 (by decide) <|
        M_of (fun _ _ H => r_iloadn c299_32 rfl <| H) <|
        t_ck e43 fun i44 e45 =>
        M_zald (j := 57) (v := (r39.2.2.1 57 (x1).toInt.toNat)) c299_33 (by decide) i44 rfl <|
        t_if e45 (fun b46 e47 =>
          M_of (fun _ _ H => r_ifT c299_34 b46 <| H) <|
          J299_46_ok rfl rfl rfl rfl e47
        ) (fun b46 e47 =>
          M_of (fun _ _ H => r_ifF c299_34 b46 <| H) <|
          M_of (fun _ _ H => r_aloadn c299_37 rfl <| H) <|
          M_geta (j := 57) c299_38 (by decide) <|
          M_of (fun _ _ H => r_iloadn c299_41 rfl <| H) <|
          t_ck e47 fun i48 e49 =>
          M_zald (j := 57) (v := (r39.2.2.1 57 (x2).toInt.toNat)) c299_42 (by decide) i48 rfl <|
          t_if e49 (fun b50 e51 =>
            M_of (fun _ _ H => r_ifT c299_43 b50 <| H) <|
            M_of (fun _ _ H => r_iconst c299_50 <| H) <|
            J299_51_ok rfl rfl rfl rfl e51
          ) (fun b50 e51 =>
            M_of (fun _ _ H => r_ifF c299_43 b50 <| H) <|
            J299_46_ok rfl rfl rfl rfl e51
          )
        )
      ) (fun b42 e43 =>
        M_of (fun _ _ H => r_ifF c299_21 b42 <| H) <|
        J299_24_ok rfl rfl rfl rfl e43
      )
    )
  ))
