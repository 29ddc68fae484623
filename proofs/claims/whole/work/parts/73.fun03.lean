def J255_67 (N : Nat)   (S : mS) : Option (mS) :=
  some S
theorem J255_67_ok {xt : mj_X} {ct : Nat → Value} {a : Nat} {ra : Nat → Nat} {d N : Nat} {l : mj_L}   {S : mS} {q : mS} (h0 : mj_ld l 0 = some (.ref a)) (e : J255_67 N   S = some q) : MR xt ct a ra (d + 3) 255 67 l [] S (.inl none) q := by
  unfold J255_67 at e
  exact (
  M_rv (Option.some.inj e) (fun _ => r_ret c255_67))
def J255_20 (N : Nat) (x1 : Int32)  (S : mS) : Option (mS) :=
  (M206 N 100 S).bind fun r5 =>
  if 0 ≤ (x1).toInt ∧ (x1).toInt < mN 15 then
  (M249 N (r5.2.1 15 (x1).toInt.toNat) r5).bind fun r10 =>
  if 0 ≤ (x1).toInt ∧ (x1).toInt < mN 16 then
  bif mj_c2 .eq (r10.2.1 16 (x1).toInt.toNat) 32 then
    J255_67 N r10
  else
  if 0 ≤ (x1).toInt ∧ (x1).toInt < mN 16 then
  (M206 N (r10.2.1 16 (x1).toInt.toNat) r10).bind fun r19 =>
  if 0 ≤ (x1).toInt ∧ (x1).toInt < mN 17 then
  (M249 N (r19.2.1 17 (x1).toInt.toNat) r19).bind fun r24 =>
  J255_67 N r24
  else none
  else none
  else none
  else none
theorem J255_20_ok {xt : mj_X} {ct : Nat → Value} {a : Nat} {ra : Nat → Nat} {d N : Nat} {l : mj_L} {x1 : Int32}  {S : mS} {q : mS} (h0 : mj_ld l 0 = some (.ref a)) (h1 : mj_ld l 1 = some (.int x1)) (e : J255_20 N x1  S = some q) : MR xt ct a ra (d + 3) 255 20 l [] S (.inl none) q := by
  unfold J255_20 at e
  exact (
  M_of (fun _ _ H => r_aloadn c255_20 h0 <| r_bipush c255_21 <| H) <|
  t_bd e fun r5 c6 e7 =>
  M_cv (as := [.ref a, .int 100]) (st' := []) (v := none) c255_23 rfl ⟨Nat.le_of_ble_eq_true rfl, Nat.le_of_ble_eq_true rfl, Nat.le_of_ble_eq_true rfl⟩ rfl rfl (M206_ok (d := d) c6) (Nat.add_lt_add_left (by decide) d) <|
  M_of (fun _ _ H => r_aloadn c255_26 h0 <| r_aloadn c255_27 h0 <| H) <|
  M_geta (j := 15) c255_28 (by decide) <|
  M_of (fun _ _ H => r_iloadn c255_31 h1 <| H) <|
  t_ck e7 fun i8 e9 =>
  M_iald (j := 15) (v := (r5.2.1 15 (x1).toInt.toNat)) c255_32 (by decide) i8 rfl <|
  t_bd e9 fun r10 c11 e12 =>
  M_cv (as := [.ref a, .int (r5.2.1 15 (x1).toInt.toNat)]) (st' := []) (v := none) c255_33 rfl ⟨Nat.le_of_ble_eq_true rfl, Nat.le_of_ble_eq_true rfl, Nat.le_of_ble_eq_true rfl⟩ rfl rfl (M249_ok (d := d) c11) (Nat.add_lt_add_left (by decide) d) <|
  M_of (fun _ _ H => r_aloadn c255_36 h0 <| H) <|
  M_geta (j := 16) c255_37 (by decide) <|
  M_of (fun _ _ H => r_iloadn c255_40 h1 <| H) <|
  t_ck e12 fun i13 e14 =>
  M_iald (j := 16) (v := (r10.2.1 16 (x1).toInt.toNat)) c255_41 (by decide) i13 rfl <|
  M_of (fun _ _ H => r_bipush c255_42 <| H) <|
  t_if e14 (fun b15 e16 =>
    M_of (fun _ _ H => r_icmpT c255_44 b15 <| H) <|
    J255_67_ok h0 e16
  ) (fun b15 e16 =>
    M_of (fun _ _ H => r_icmpF c255_44 b15 <| H) <|
    M_of (fun _ _ H => r_aloadn c255_47 h0 <| r_aloadn c255_48 h0 <| H) <|
    M_geta (j := 16) c255_49 (by decide) <|
    M_of (fun _ _ H => r_iloadn c255_52 h1 <| H) <|
    t_ck e16 fun i17 e18 =>
    M_iald (j := 16) (v := (r10.2.1 16 (x1).toInt.toNat)) c255_53 (by decide) i17 rfl <|
    t_bd e18 fun r19 c20 e21 =>
    M_cv (as := [.ref a, .int (r10.2.1 16 (x1).toInt.toNat)]) (st' := []) (v := none) c255_54 rfl ⟨Nat.le_of_ble_eq_true rfl, Nat.le_of_ble_eq_true rfl, Nat.le_of_ble_eq_true rfl⟩ rfl rfl (M206_ok (d := d) c20) (Nat.add_lt_add_left (by decide) d) <|
    M_of (fun _ _ H => r_aloadn c255_57 h0 <| r_aloadn c255_58 h0 <| H) <|
    M_geta (j := 17) c255_59 (by decide) <|
    M_of (fun _ _ H => r_iloadn c255_62 h1 <| H) <|
    t_ck e21 fun i22 e23 =>
    M_iald (j := 17) (v := (r19.2.1 17 (x1).toInt.toNat)) c255_63 (by decide) i22 rfl <|
    t_bd e23 fun r24 c25 e26 =>
    M_cv (as := [.ref a, .int (r19.2.1 17 (x1).toInt.toNat)]) (st' := []) (v := none) c255_64 rfl ⟨Nat.le_of_ble_eq_true rfl, Nat.le_of_ble_eq_true rfl, Nat.le_of_ble_eq_true rfl⟩ rfl rfl (M249_ok (d := d) c25) (Nat.add_lt_add_left (by decide) d) <|
    J255_67_ok h0 e26
  ))
/-- sayDice(I)V -/
def M255 (N : Nat) (x1 : Int32) (S : mS) : Option (mS) :=
  if 0 ≤ (x1).toInt ∧ (x1).toInt < mN 14 then
  bif mj_c2 .le (S.2.1 14 (x1).toInt.toNat) 1 then
    J255_20 N x1 S
  else
  if 0 ≤ (x1).toInt ∧ (x1).toInt < mN 14 then
  (M249 N (S.2.1 14 (x1).toInt.toNat) S).bind fun r29 =>
  J255_20 N x1 r29
  else none
  else none
theorem M255_ok {xt : mj_X} {ct : Nat → Value} {a : Nat} {ra : Nat → Nat} {d N : Nat} {x1 : Int32} {S : mS} {q : mS} (e : M255 N x1 S = some q) : MR xt ct a ra (d + 3) 255 0 (lv_args 0 [.ref a, .int x1]) [] S (.inl none) q := by
  unfold M255 at e
  exact (
  M_of (fun _ _ H => r_aloadn c255_0 rfl <| H) <|
  M_geta (j := 14) c255_1 (by decide) <|
  M_of (fun _ _ H => r_iloadn c255_4 rfl <| H) <|
  t_ck e fun i1 e2 =>
  M_iald (j := 14) (v := (S.2.1 14 (x1).toInt.toNat)) c255_5 (by decide) i1 rfl <|
  M_of (fun _ _ H => r_iconst c255_6 <| H) <|
  t_if e2 (fun b3 e4 =>
    M_of (fun _ _ H => r_icmpT c255_7 b3 <| H) <|
    J255_20_ok rfl rfl e4
  ) (fun b3 e4 =>
    M_of (fun _ _ H => r_icmpF c255_7 b3 <| H) <|
    M_of (fun _ _ H => r_aloadn c255_10 rfl <| r_aloadn c255_11 rfl <| H) <|
    M_geta (j := 14) c255_12 (by decide) <|
    M_of (fun _ _ H => r_iloadn c255_15 rfl <| H) <|
    t_ck e4 fun i27 e28 =>
    M_iald (j := 14) (v := (S.2.1 14 (x1).toInt.toNat)) c255_16 (by decide) i27 rfl <|
    t_bd e28 fun r29 c30 e31 =>
    M_cv (as := [.ref a, .int (S.2.1 14 (x1).toInt.toNat)]) (st' := []) (v := none) c255_17 rfl ⟨Nat.le_of_ble_eq_true rfl, Nat.le_of_ble_eq_true rfl, Nat.le_of_ble_eq_true rfl⟩ rfl rfl (M249_ok (d := d) c30) (Nat.add_lt_add_left (by decide) d) <|
    J255_20_ok rfl rfl e31
  ))
def LG256_2 (xt : mj_X) (ct : Nat → Value) (a : Nat) (ra : Nat → Nat) (d : Nat) (q : mS) (x1 : Int32) (x2 : Int32) (x3 : Int32) (S : mS) : Prop := ∀ l, mj_ld l 0 = some (.ref a) → mj_ld l 1 = some (.int x1) → mj_ld l 2 = some (.int x2) → mj_ld l 3 = some (.int x3) → MR xt ct a ra (d + 3) 256 2 l [] S (.inl none) q
def GG256_2 (xt : mj_X) (ct : Nat → Value) (a : Nat) (ra : Nat → Nat) (d : Nat) (q : mS) (o : (Int32 × Int32 × Int32 × mS) ⊕ (mS)) : Prop := match o with
  | .inl (x1, x2, x3, S) => LG256_2 xt ct a ra d q x1 x2 x3 S
  | .inr r => r = q
def J256_24 (N : Nat) (x1 : Int32) (x2 : Int32) (x3 : Int32) (s0 : Int32) (S : mS) : Option ((Int32 × Int32 × Int32 × mS) ⊕ (mS)) :=
  (M206 N s0 S).bind fun r10 =>
  if 0 ≤ (x2).toInt ∧ (x2).toInt < mN 14 then
  if 0 ≤ ((((160 * x1) + (r10.2.1 14 (x2).toInt.toNat)) + x3)).toInt ∧ ((((160 * x1) + (r10.2.1 14 (x2).toInt.toNat)) + x3)).toInt < mN 20 then
  (M249 N (r10.2.1 20 ((((160 * x1) + (r10.2.1 14 (x2).toInt.toNat)) + x3)).toInt.toNat) r10).bind fun r17 =>
  some (.inl (x1, x2, (x3 + 1), r17))
  else none
  else none
theorem J256_24_ok {xt : mj_X} {ct : Nat → Value} {a : Nat} {ra : Nat → Nat} {d N : Nat} {l : mj_L} {x1 : Int32} {x2 : Int32} {x3 : Int32} {s0 : Int32} {S : mS} {o : (Int32 × Int32 × Int32 × mS) ⊕ (mS)} {q : mS} (h0 : mj_ld l 0 = some (.ref a)) (h1 : mj_ld l 1 = some (.int x1)) (h2 : mj_ld l 2 = some (.int x2)) (h3 : mj_ld l 3 = some (.int x3)) (e : J256_24 N x1 x2 x3 s0 S = some o) (g : GG256_2 xt ct a ra d q o) : MR xt ct a ra (d + 3) 256 24 l [.int s0, .ref a] S (.inl none) q := by
  unfold J256_24 at e
  exact (
  t_bd e fun r10 c11 e12 =>
  M_cv (as := [.ref a, .int s0]) (st' := []) (v := none) c256_24 rfl ⟨Nat.le_of_ble_eq_true rfl, Nat.le_of_ble_eq_true rfl, Nat.le_of_ble_eq_true rfl⟩ rfl rfl (M206_ok (d := d) c11) (Nat.add_lt_add_left (by decide) d) <|
  M_of (fun _ _ H => r_aloadn c256_27 h0 <| r_aloadn c256_28 h0 <| H) <|
  M_geta (j := 20) c256_29 (by decide) <|
  M_of (fun _ _ H => r_sipush c256_32 <| r_iloadn c256_35 h1 <| r_imul c256_36 rfl <| r_aloadn c256_37 h0 <| H) <|
  M_geta (j := 14) c256_38 (by decide) <|
  M_of (fun _ _ H => r_iloadn c256_41 h2 <| H) <|
  t_ck e12 fun i13 e14 =>
  M_iald (j := 14) (v := (r10.2.1 14 (x2).toInt.toNat)) c256_42 (by decide) i13 rfl <|
  M_of (fun _ _ H => r_iadd c256_43 rfl <| r_iloadn c256_44 h3 <| r_iadd c256_45 rfl <| H) <|
  t_ck e14 fun i15 e16 =>
  M_iald (j := 20) (v := (r10.2.1 20 ((((160 * x1) + (r10.2.1 14 (x2).toInt.toNat)) + x3)).toInt.toNat)) c256_46 (by decide) i15 rfl <|
  t_bd e16 fun r17 c18 e19 =>
  M_cv (as := [.ref a, .int (r10.2.1 20 ((((160 * x1) + (r10.2.1 14 (x2).toInt.toNat)) + x3)).toInt.toNat)]) (st' := []) (v := none) c256_47 rfl ⟨Nat.le_of_ble_eq_true rfl, Nat.le_of_ble_eq_true rfl, Nat.le_of_ble_eq_true rfl⟩ rfl rfl (M249_ok (d := d) c18) (Nat.add_lt_add_left (by decide) d) <|
  M_of (fun _ _ H => r_iinc c256_50 h3 <| r_goto c256_53 <| H) <|
  t_rg e19 g (fun (e : LG256_2 xt ct a ra d q x1 x2 (x3 + 1) r17) => e _ (ld1_ne h0 (by decide) (Or.inl (by decide))) (ld1_ne h1 (by decide) (Or.inl (by decide))) (ld1_ne h2 (by decide) (Or.inr rfl)) ld1_eq))
def B256_2 (N : Nat) (s : Int32 × Int32 × Int32 × mS) : Option ((Int32 × Int32 × Int32 × mS) ⊕ (mS)) :=
  if 0 ≤ (s.2.1).toInt ∧ (s.2.1).toInt < mN 15 then
  bif mj_c2 .ge s.2.2.1 (s.2.2.2.2.1 15 (s.2.1).toInt.toNat) then
    (M206 N 93 s.2.2.2).bind fun r5 =>
    some (.inr r5)
  else
  bif mj_c1 .ne s.2.2.1 then
    J256_24 N s.1 s.2.1 s.2.2.1 44 s.2.2.2
  else
  J256_24 N s.1 s.2.1 s.2.2.1 91 s.2.2.2
  else none
def L256_2 (N : Nat) (s : Int32 × Int32 × Int32 × mS) : Option (mS) := t_lp (B256_2 N) N s
theorem B256_2_ok {xt : mj_X} {ct : Nat → Value} {a : Nat} {ra : Nat → Nat} {d N : Nat} {s : Int32 × Int32 × Int32 × mS} {o : (Int32 × Int32 × Int32 × mS) ⊕ (mS)} {q : mS} (e : B256_2 N s = some o) (g : GG256_2 xt ct a ra d q o) : LG256_2 xt ct a ra d q s.1 s.2.1 s.2.2.1 s.2.2.2 := by
  unfold B256_2 at e
  exact (fun l h0 h1 h2 h3 =>
  M_of (fun _ _ H => r_iloadn c256_2 h3 <| r_aloadn c256_3 h0 <| H) <|
  M_geta (j := 15) c256_4 (by decide) <|
  M_of (fun _ _ H => r_iloadn c256_7 h2 <| H) <|
  t_ck e fun i1 e2 =>
  M_iald (j := 15) (v := (s.2.2.2.2.1 15 (s.2.1).toInt.toNat)) c256_8 (by decide) i1 rfl <|
  t_if e2 (fun b3 e4 =>
    M_of (fun _ _ H => r_icmpT c256_9 b3 <| H) <|
    M_of (fun _ _ H => r_aloadn c256_56 h0 <| r_bipush c256_57 <| H) <|
    t_bd e4 fun r5 c6 e7 =>
    M_cv (as := [.ref a, .int 93]) (st' := []) (v := none) c256_59 rfl ⟨Nat.le_of_ble_eq_true rfl, Nat.le_of_ble_eq_true rfl, Nat.le_of_ble_eq_true rfl⟩ rfl rfl (M206_ok (d := d) c6) (Nat.add_lt_add_left (by decide) d) <|
    t_rg e7 g (fun (e : r5 = q) => M_rv (e) (fun _ => r_ret c256_62))
  ) (fun b3 e4 =>
    M_of (fun _ _ H => r_icmpF c256_9 b3 <| H) <|
    M_of (fun _ _ H => r_aloadn c256_12 h0 <| r_iloadn c256_13 h3 <| H) <|
    t_if e4 (fun b8 e9 =>
      M_of (fun _ _ H => r_ifT c256_14 b8 <| H) <|
      M_of (fun _ _ H => r_bipush c256_22 <| H) <|
      J256_24_ok h0 h1 h2 h3 e9 g
    ) (fun b8 e9 =>
      M_of (fun _ _ H => r_ifF c256_14 b8 <| H) <|
      M_of (fun _ _ H => r_bipush c256_17 <| r_goto c256_19 <| H) <|
      J256_24_ok h0 h1 h2 h3 e9 g
    )
  ))
theorem L256_2_ok {xt : mj_X} {ct : Nat → Value} {a : Nat} {ra : Nat → Nat} {d N : Nat} {x1 : Int32} {x2 : Int32} {x3 : Int32} {S : mS} {q : mS} (e : L256_2 N (x1, x2, x3, S) = some q) : LG256_2 xt ct a ra d q x1 x2 x3 S :=
  t_lp_ok (G := fun s => LG256_2 xt ct a ra d q s.1 s.2.1 s.2.2.1 s.2.2.2) (fun s s' e g => B256_2_ok e (by obtain ⟨_, _, _, _⟩ := s'; exact g)) (fun s e => B256_2_ok e rfl) N (x1, x2, x3, S) e
/-- sayFaces(II)V -/
def M256 (N : Nat) (x1 : Int32) (x2 : Int32) (S : mS) : Option (mS) :=
  L256_2 N (x1, x2, 0, S)
theorem M256_ok {xt : mj_X} {ct : Nat → Value} {a : Nat} {ra : Nat → Nat} {d N : Nat} {x1 : Int32} {x2 : Int32} {S : mS} {q : mS} (e : M256 N x1 x2 S = some q) : MR xt ct a ra (d + 3) 256 0 (lv_args 0 [.ref a, .int x1, .int x2]) [] S (.inl none) q := by
  unfold M256 at e
  exact (
  M_of (fun _ _ H => r_iconst c256_0 <| r_istoren c256_1 <| H) <|
  L256_2_ok e _ (ld1_ne rfl (by decide) (Or.inl (by decide))) (ld1_ne rfl (by decide) (Or.inl (by decide))) (ld1_ne rfl (by decide) (Or.inr rfl)) ld1_eq)
def J257_72 (N : Nat)  (s0 : Int32) (S : mS) : Option (Int32 × mS) :=
  some (s0, S)
theorem J257_72_ok {xt : mj_X} {ct : Nat → Value} {a : Nat} {ra : Nat → Nat} {d N : Nat} {l : mj_L}  {s0 : Int32} {S : mS} {q : Int32 × mS}  (e : J257_72 N  s0 S = some q) : MR xt ct a ra (d + 1) 257 72 l [.int s0] S (.inl (some (.int q.1))) q.2 := by
  unfold J257_72 at e
  exact (
  M_ri (Option.some.inj e) (fun _ => r_iret c257_72 rfl))
/-- charOf(I)I -/
def M257 (N : Nat) (x0 : Int32) (S : mS) : Option (Int32 × mS) :=
  bif mj_c1 .ne x0 then
    bif mj_c2 .ne x0 1 then
      bif mj_c2 .ne x0 2 then
        bif mj_c2 .ne x0 3 then
          bif mj_c2 .ne x0 4 then
            bif mj_c2 .ne x0 5 then
              bif mj_c2 .ne x0 6 then
                J257_72 N 37 S
              else
              J257_72 N 47 S
            else
            J257_72 N 42 S
          else
          J257_72 N 45 S
        else
        J257_72 N 43 S
      else
      J257_72 N 61 S
    else
    J257_72 N 62 S
  else
  J257_72 N 60 S
theorem M257_ok {xt : mj_X} {ct : Nat → Value} {a : Nat} {ra : Nat → Nat} {d N : Nat} {x0 : Int32} {S : mS} {q : Int32 × mS} (e : M257 N x0 S = some q) : MR xt ct a ra (d + 1) 257 0 (lv_args 0 [.int x0]) [] S (.inl (some (.int q.1))) q.2 := by
  unfold M257 at e
  exact (
  M_of (fun _ _ H => r_iloadn c257_0 rfl <| H) <|
  t_if e (fun b1 e2 =>
    M_of (fun _ _ H => r_ifT c257_1 b1 <| H) <|
    M_of (fun _ _ H => r_iloadn c257_9 rfl <| r_iconst c257_10 <| H) <|
    t_if e2 (fun b3 e4 =>
      M_of (fun _ _ H => r_icmpT c257_11 b3 <| H) <|
      M_of (fun _ _ H => r_iloadn c257_19 rfl <| r_iconst c257_20 <| H) <|
      t_if e4 (fun b5 e6 =>
        M_of (fun _ _ H => r_icmpT c257_21 b5 <| H) <|
        M_of (fun _ _ H => r_iloadn c257_29 rfl <| r_iconst c257_30 <| H) <|
        t_if e6 (fun b7 e8 =>
          M_of (fun _ _ H => r_icmpT c257_31 b7 <| H) <|
          M_of (fun _ _ H => r_iloadn c257_39 rfl <| r_iconst c257_40 <| H) <|
          t_if e8 (fun b9 e10 =>
            M_of (fun _ _ H => r_icmpT c257_41 b9 <| H) <|
            M_of (fun _ _ H => r_iloadn c257_49 rfl <| r_iconst c257_50 <| H) <|
            t_if e10 (fun b11 e12 =>
              M_of (fun _ _ H => r_icmpT c257_51 b11 <| H) <|
              M_of (fun _ _ H => r_iloadn c257_59 rfl <| r_bipush c257_60 <| H) <|
              t_if e12 (fun b13 e14 =>
                M_of (fun _ _ H => r_icmpT c257_62 b13 <| H) <|
                M_of (fun _ _ H => r_bipush c257_70 <| H) <|
                J257_72_ok  e14
              ) (fun b13 e14 =>
                M_of (fun _ _ H => r_icmpF c257_62 b13 <| H) <|
                M_of (fun _ _ H => r_bipush c257_65 <| r_goto c257_67 <| H) <|
                J257_72_ok  e14
              )
            ) (fun b11 e12 =>
              M_of (fun _ _ H => r_icmpF c257_51 b11 <| H) <|
              M_of (fun _ _ H => r_bipush c257_54 <| r_goto c257_56 <| H) <|
              J257_72_ok  e12
            )
          ) (fun b9 e10 =>
            M_of (fun _ _ H => r_icmpF c257_41 b9 <| H) <|
            M_of (fun _ _ H => r_bipush c257_44 <| r_goto c257_46 <| H) <|
            J257_72_ok  e10
          )
        ) (fun b7 e8 =>
          M_of (fun _ _ H => r_icmpF c257_31 b7 <| H) <|
          M_of (fun _ _ H => r_bipush c257_34 <| r_goto c257_36 <| H) <|
          J257_72_ok  e8
        )
      ) (fun b5 e6 =>
        M_of (fun _ _ H => r_icmpF c257_21 b5 <| H) <|
        M_of (fun _ _ H => r_bipush c257_24 <| r_goto c257_26 <| H) <|
        J257_72_ok  e6
      )
    ) (fun b3 e4 =>
      M_of (fun _ _ H => r_icmpF c257_11 b3 <| H) <|
      M_of (fun _ _ H => r_bipush c257_14 <| r_goto c257_16 <| H) <|
      J257_72_ok  e4
    )
  ) (fun b1 e2 =>
    M_of (fun _ _ H => r_ifF c257_1 b1 <| H) <|
    M_of (fun _ _ H => r_bipush c257_4 <| r_goto c257_6 <| H) <|
    J257_72_ok  e2
  ))
def J252_238 (N : Nat)   (S : mS) : Option (mS) :=
  some S
theorem J252_238_ok {xt : mj_X} {ct : Nat → Value} {a : Nat} {ra : Nat → Nat} {d N : Nat} {l : mj_L}   {S : mS} {q : mS} (h0 : mj_ld l 0 = some (.ref a)) (e : J252_238 N   S = some q) : MR xt ct a ra (d + 4) 252 238 l [] S (.inl none) q := by
  unfold J252_238 at e
  exact (
  M_rv (Option.some.inj e) (fun _ => r_ret c252_238))
def J252_114 (N : Nat)  (s0 : Int32) (s1 : Int32) (S : mS) : Option (mS) :=
  (M254 N s1 s0 S).bind fun r31 =>
  J252_238 N r31
theorem J252_114_ok {xt : mj_X} {ct : Nat → Value} {a : Nat} {ra : Nat → Nat} {d N : Nat} {l : mj_L}  {s0 : Int32} {s1 : Int32} {S : mS} {q : mS} (h0 : mj_ld l 0 = some (.ref a)) (e : J252_114 N  s0 s1 S = some q) : MR xt ct a ra (d + 4) 252 114 l [.int s0, .int s1, .ref a] S (.inl none) q := by
  unfold J252_114 at e
  exact (
  t_bd e fun r31 c32 e33 =>
  M_cv (as := [.ref a, .int s1, .int s0]) (st' := []) (v := none) c252_114 rfl ⟨Nat.le_of_ble_eq_true rfl, Nat.le_of_ble_eq_true rfl, Nat.le_of_ble_eq_true rfl⟩ rfl rfl (M254_ok (d := d) c32) (Nat.add_lt_add_left (by decide) d) <|
  M_of (fun _ _ H => r_goto c252_117 <| H) <|
  J252_238_ok h0 e33)
def J252_235 (N : Nat)  (s0 : Int32) (s1 : Int32) (S : mS) : Option (mS) :=
  (M254 N s1 s0 S).bind fun r78 =>
  J252_238 N r78
theorem J252_235_ok {xt : mj_X} {ct : Nat → Value} {a : Nat} {ra : Nat → Nat} {d N : Nat} {l : mj_L}  {s0 : Int32} {s1 : Int32} {S : mS} {q : mS} (h0 : mj_ld l 0 = some (.ref a)) (e : J252_235 N  s0 s1 S = some q) : MR xt ct a ra (d + 4) 252 235 l [.int s0, .int s1, .ref a] S (.inl none) q := by
  unfold J252_235 at e
  exact (
  t_bd e fun r78 c79 e80 =>
  M_cv (as := [.ref a, .int s1, .int s0]) (st' := []) (v := none) c252_235 rfl ⟨Nat.le_of_ble_eq_true rfl, Nat.le_of_ble_eq_true rfl, Nat.le_of_ble_eq_true rfl⟩ rfl rfl (M254_ok (d := d) c79) (Nat.add_lt_add_left (by decide) d) <|
  J252_238_ok h0 e80)
def J252_230 (N : Nat)  (s0 : Int32) (S : mS) : Option (mS) :=
  J252_235 N 1 s0 S
theorem J252_230_ok {xt : mj_X} {ct : Nat → Value} {a : Nat} {ra : Nat → Nat} {d N : Nat} {l : mj_L}  {s0 : Int32} {S : mS} {q : mS} (h0 : mj_ld l 0 = some (.ref a)) (e : J252_230 N  s0 S = some q) : MR xt ct a ra (d + 4) 252 230 l [.int s0, .ref a] S (.inl none) q := by
  unfold J252_230 at e
  exact (
  M_of (fun _ _ H => r_iconst c252_230 <| r_goto c252_231 <| H) <|
  J252_235_ok h0 e)
def J252_234 (N : Nat)  (s0 : Int32) (S : mS) : Option (mS) :=
  J252_235 N 0 s0 S
theorem J252_234_ok {xt : mj_X} {ct : Nat → Value} {a : Nat} {ra : Nat → Nat} {d N : Nat} {l : mj_L}  {s0 : Int32} {S : mS} {q : mS} (h0 : mj_ld l 0 = some (.ref a)) (e : J252_234 N  s0 S = some q) : MR xt ct a ra (d + 4) 252 234 l [.int s0, .ref a] S (.inl none) q := by
  unfold J252_234 at e
  exact (
  M_of (fun _ _ H => r_iconst c252_234 <| H) <|
  J252_235_ok h0 e)
def J252_189 (N : Nat) (x3 : Int32) (x4 : Int32) (x5 : Int32) (s0 : Int32) (s1 : Int32) (S : mS) : Option (mS) :=
  (M254 N s1 s0 S).bind fun r63 =>
  if 0 ≤ (x3).toInt ∧ (x3).toInt < mN 14 then
  (M257 N (r63.2.1 14 (x3).toInt.toNat) r63).bind fun r68 =>
  (M251 N (-r68.1) r68.2).bind fun r71 =>
  if 0 ≤ (x3).toInt ∧ (x3).toInt < mN 18 then
  bif mj_c2 .lt x5 x4 then
    J252_230 N (r71.2.1 18 (x3).toInt.toNat) r71
  else
  bif mj_c1 .ne x4 then
    J252_234 N (r71.2.1 18 (x3).toInt.toNat) r71
  else
  bif mj_c1 .ne x5 then
    J252_234 N (r71.2.1 18 (x3).toInt.toNat) r71
  else
  J252_230 N (r71.2.1 18 (x3).toInt.toNat) r71
  else none
  else none
theorem J252_189_ok {xt : mj_X} {ct : Nat → Value} {a : Nat} {ra : Nat → Nat} {d N : Nat} {l : mj_L} {x3 : Int32} {x4 : Int32} {x5 : Int32} {s0 : Int32} {s1 : Int32} {S : mS} {q : mS} (h0 : mj_ld l 0 = some (.ref a)) (h3 : mj_ld l 3 = some (.int x3)) (h4 : mj_ld l 4 = some (.int x4)) (h5 : mj_ld l 5 = some (.int x5)) (e : J252_189 N x3 x4 x5 s0 s1 S = some q) : MR xt ct a ra (d + 4) 252 189 l [.int s0, .int s1, .ref a] S (.inl none) q := by
  unfold J252_189 at e
  exact (
  t_bd e fun r63 c64 e65 =>
  M_cv (as := [.ref a, .int s1, .int s0]) (st' := []) (v := none) c252_189 rfl ⟨Nat.le_of_ble_eq_true rfl, Nat.le_of_ble_eq_true rfl, Nat.le_of_ble_eq_true rfl⟩ rfl rfl (M254_ok (d := d) c64) (Nat.add_lt_add_left (by decide) d) <|
  M_of (fun _ _ H => r_aloadn c252_192 h0 <| r_aloadn c252_193 h0 <| H) <|
  M_geta (j := 14) c252_194 (by decide) <|
  M_of (fun _ _ H => r_iloadn c252_197 h3 <| H) <|
  t_ck e65 fun i66 e67 =>
  M_iald (j := 14) (v := (r63.2.1 14 (x3).toInt.toNat)) c252_198 (by decide) i66 rfl <|
  t_bd e67 fun r68 c69 e70 =>
  M_cs (as := [.int (r63.2.1 14 (x3).toInt.toNat)]) (st' := [.int r68.1, .ref a]) (v := (some (.int r68.1))) c252_199 ⟨Nat.le_of_ble_eq_true rfl, Nat.le_of_ble_eq_true rfl, Nat.le_of_ble_eq_true rfl⟩ rfl rfl (M257_ok (d := d) c69) (Nat.add_lt_add_left (by decide) d) <|
  M_of (fun _ _ H => r_ineg c252_202 rfl <| H) <|
  t_bd e70 fun r71 c72 e73 =>
  M_cv (as := [.ref a, .int (-r68.1)]) (st' := []) (v := none) c252_203 rfl ⟨Nat.le_of_ble_eq_true rfl, Nat.le_of_ble_eq_true rfl, Nat.le_of_ble_eq_true rfl⟩ rfl rfl (M251_ok (d := d) c72) (Nat.add_lt_add_left (by decide) d) <|
  M_of (fun _ _ H => r_aloadn c252_206 h0 <| r_aloadn c252_207 h0 <| H) <|
  M_geta (j := 18) c252_208 (by decide) <|
  M_of (fun _ _ H => r_iloadn c252_211 h3 <| H) <|
  t_ck e73 fun i74 e75 =>
  M_iald (j := 18) (v := (r71.2.1 18 (x3).toInt.toNat)) c252_212 (by decide) i74 rfl <|
  M_of (fun _ _ H => r_iload c252_213 h5 <| r_iload c252_215 h4 <| H) <|
  t_if e75 (fun b76 e77 =>
    M_of (fun _ _ H => r_icmpT c252_217 b76 <| H) <|
    J252_230_ok h0 e77
  ) (fun b76 e77 =>
    M_of (fun _ _ H => r_icmpF c252_217 b76 <| H) <|
    M_of (fun _ _ H => r_iload c252_220 h4 <| H) <|
    t_if e77 (fun b81 e82 =>
      M_of (fun _ _ H => r_ifT c252_222 b81 <| H) <|
      J252_234_ok h0 e82
    ) (fun b81 e82 =>
      M_of (fun _ _ H => r_ifF c252_222 b81 <| H) <|
      M_of (fun _ _ H => r_iload c252_225 h5 <| H) <|
      t_if e82 (fun b83 e84 =>
        M_of (fun _ _ H => r_ifT c252_227 b83 <| H) <|
        J252_234_ok h0 e84
      ) (fun b83 e84 =>
        M_of (fun _ _ H => r_ifF c252_227 b83 <| H) <|
        J252_230_ok h0 e84
      )
    )
  ))
/-- sayNode(II)V -/
def M252 (N : Nat) (x1 : Int32) (x2 : Int32) (S : mS) : Option (mS) :=
  if 0 ≤ (((160 * x1) + x2)).toInt ∧ (((160 * x1) + x2)).toInt < mN 13 then
  bif mj_c2 .eq (S.2.1 13 (((160 * x1) + x2)).toInt.toNat) 0 then
    if 0 ≤ (((160 * x1) + x2)).toInt ∧ (((160 * x1) + x2)).toInt < mN 14 then
    (M249 N (S.2.1 14 (((160 * x1) + x2)).toInt.toNat) S).bind fun r7 =>
    J252_238 N r7
    else none
  else
  bif mj_c2 .eq (S.2.1 13 (((160 * x1) + x2)).toInt.toNat) 1 then
    if 0 ≤ (((160 * x1) + x2)).toInt ∧ (((160 * x1) + x2)).toInt < mN 14 then
    (M206 N (65 + (S.2.1 14 (((160 * x1) + x2)).toInt.toNat)) S).bind fun r14 =>
    J252_238 N r14
    else none
  else
  bif mj_c2 .eq (S.2.1 13 (((160 * x1) + x2)).toInt.toNat) 2 then
    (M206 N 45 S).bind fun r19 =>
    if 0 ≤ (((160 * x1) + x2)).toInt ∧ (((160 * x1) + x2)).toInt < mN 18 then
    if 0 ≤ (((160 * x1) + x2)).toInt ∧ (((160 * x1) + x2)).toInt < mN 18 then
    (M253 N x1 (r19.2.1 18 (((160 * x1) + x2)).toInt.toNat) r19).bind fun r26 =>
    bif mj_c2 .ge r26.1 3 then
      J252_114 N 0 (r19.2.1 18 (((160 * x1) + x2)).toInt.toNat) r26.2
    else
    J252_114 N 1 (r19.2.1 18 (((160 * x1) + x2)).toInt.toNat) r26.2
    else none
    else none
  else
  bif mj_c2 .eq (S.2.1 13 (((160 * x1) + x2)).toInt.toNat) 4 then
    (M255 N ((160 * x1) + x2) S).bind fun r36 =>
    J252_238 N r36
  else
  bif mj_c2 .eq (S.2.1 13 (((160 * x1) + x2)).toInt.toNat) 5 then
    (M256 N x1 ((160 * x1) + x2) S).bind fun r41 =>
    J252_238 N r41
  else
  if 0 ≤ (((160 * x1) + x2)).toInt ∧ (((160 * x1) + x2)).toInt < mN 14 then
  (M231 N (S.2.1 14 (((160 * x1) + x2)).toInt.toNat) S).bind fun r46 =>
  if 0 ≤ (((160 * x1) + x2)).toInt ∧ (((160 * x1) + x2)).toInt < mN 18 then
  (M253 N x1 (r46.2.2.1 18 (((160 * x1) + x2)).toInt.toNat) r46.2).bind fun r51 =>
  if 0 ≤ (((160 * x1) + x2)).toInt ∧ (((160 * x1) + x2)).toInt < mN 19 then
  if 0 ≤ (((160 * x1) + x2)).toInt ∧ (((160 * x1) + x2)).toInt < mN 19 then
  (M253 N x1 (r51.2.2.1 19 (((160 * x1) + x2)).toInt.toNat) r51.2).bind fun r58 =>
  bif mj_c2 .gt r58.1 r46.1 then
    J252_189 N ((160 * x1) + x2) r46.1 r51.1 0 (r51.2.2.1 19 (((160 * x1) + x2)).toInt.toNat) r58.2
  else
  J252_189 N ((160 * x1) + x2) r46.1 r51.1 1 (r51.2.2.1 19 (((160 * x1) + x2)).toInt.toNat) r58.2
  else none
  else none
  else none
  else none
  else none
theorem M252_ok {xt : mj_X} {ct : Nat → Value} {a : Nat} {ra : Nat → Nat} {d N : Nat} {x1 : Int32} {x2 : Int32} {S : mS} {q : mS} (e : M252 N x1 x2 S = some q) : MR xt ct a ra (d + 4) 252 0 (lv_args 0 [.ref a, .int x1, .int x2]) [] S (.inl none) q := by
  unfold M252 at e
  exact (
  M_of (fun _ _ H => r_sipush c252_0 <| r_iloadn c252_3 rfl <| r_imul c252_4 rfl <| r_iloadn c252_5 rfl <| r_iadd c252_6 rfl <| r_istoren c252_7 <| r_aloadn c252_8 (ld1_ne rfl (by decide) (Or.inl (by decide))) <| H) <|
  M_geta (j := 13) c252_9 (by decide) <|
  M_of (fun _ _ H => r_iloadn c252_12 ld1_eq <| H) <|
  t_ck e fun i1 e2 =>
  M_iald (j := 13) (v := (S.2.1 13 (((160 * x1) + x2)).toInt.toNat)) c252_13 (by decide) i1 rfl <|
  t_if e2 (fun b3 e4 =>
    M_sw c252_14_0 b3 <|
    M_of (fun _ _ H => r_aloadn c252_52 (ld1_ne rfl (by decide) (Or.inl (by decide))) <| r_aloadn c252_53 (ld1_ne rfl (by decide) (Or.inl (by decide))) <| H) <|
    M_geta (j := 14) c252_54 (by decide) <|
    M_of (fun _ _ H => r_iloadn c252_57 ld1_eq <| H) <|
    t_ck e4 fun i5 e6 =>
    M_iald (j := 14) (v := (S.2.1 14 (((160 * x1) + x2)).toInt.toNat)) c252_58 (by decide) i5 rfl <|
    t_bd e6 fun r7 c8 e9 =>
    M_cv (as := [.ref a, .int (S.2.1 14 (((160 * x1) + x2)).toInt.toNat)]) (st' := []) (v := none) c252_59 rfl ⟨Nat.le_of_ble_eq_true rfl, Nat.le_of_ble_eq_true rfl, Nat.le_of_ble_eq_true rfl⟩ rfl rfl (M249_ok (d := d) c8) (Nat.add_lt_add_left (by decide) d) <|
    M_of (fun _ _ H => r_goto c252_62 <| H) <|
    J252_238_ok (ld1_ne rfl (by decide) (Or.inl (by decide))) e9
  ) (fun b3 e4 =>
  t_if e4 (fun b10 e11 =>
    M_sw c252_14_1 b10 <|
    M_of (fun _ _ H => r_aloadn c252_65 (ld1_ne rfl (by decide) (Or.inl (by decide))) <| r_bipush c252_66 <| r_aloadn c252_68 (ld1_ne rfl (by decide) (Or.inl (by decide))) <| H) <|
    M_geta (j := 14) c252_69 (by decide) <|
    M_of (fun _ _ H => r_iloadn c252_72 ld1_eq <| H) <|
    t_ck e11 fun i12 e13 =>
    M_iald (j := 14) (v := (S.2.1 14 (((160 * x1) + x2)).toInt.toNat)) c252_73 (by decide) i12 rfl <|
    M_of (fun _ _ H => r_iadd c252_74 rfl <| H) <|
    t_bd e13 fun r14 c15 e16 =>
    M_cv (as := [.ref a, .int (65 + (S.2.1 14 (((160 * x1) + x2)).toInt.toNat))]) (st' := []) (v := none) c252_75 rfl ⟨Nat.le_of_ble_eq_true rfl, Nat.le_of_ble_eq_true rfl, Nat.le_of_ble_eq_true rfl⟩ rfl rfl (M206_ok (d := d) c15) (Nat.add_lt_add_left (by decide) d) <|
    M_of (fun _ _ H => r_goto c252_78 <| H) <|
    J252_238_ok (ld1_ne rfl (by decide) (Or.inl (by decide))) e16
  ) (fun b10 e11 =>
  t_if e11 (fun b17 e18 =>
    M_sw c252_14_2 b17 <|
    M_of (fun _ _ H => r_aloadn c252_81 (ld1_ne rfl (by decide) (Or.inl (by decide))) <| r_bipush c252_82 <| H) <|
    t_bd e18 fun r19 c20 e21 =>
    M_cv (as := [.ref a, .int 45]) (st' := []) (v := none) c252_84 rfl ⟨Nat.le_of_ble_eq_true rfl, Nat.le_of_ble_eq_true rfl, Nat.le_of_ble_eq_true rfl⟩ rfl rfl (M206_ok (d := d) c20) (Nat.add_lt_add_left (by decide) d) <|
    M_of (fun _ _ H => r_aloadn c252_87 (ld1_ne rfl (by decide) (Or.inl (by decide))) <| r_aloadn c252_88 (ld1_ne rfl (by decide) (Or.inl (by decide))) <| H) <|
    M_geta (j := 18) c252_89 (by decide) <|
    M_of (fun _ _ H => r_iloadn c252_92 ld1_eq <| H) <|
    t_ck e21 fun i22 e23 =>
    M_iald (j := 18) (v := (r19.2.1 18 (((160 * x1) + x2)).toInt.toNat)) c252_93 (by decide) i22 rfl <|
    M_of (fun _ _ H => r_aloadn c252_94 (ld1_ne rfl (by decide) (Or.inl (by decide))) <| r_iloadn c252_95 (ld1_ne rfl (by decide) (Or.inl (by decide))) <| r_aloadn c252_96 (ld1_ne rfl (by decide) (Or.inl (by decide))) <| H) <|
    M_geta (j := 18) c252_97 (by decide) <|
    M_of (fun _ _ H => r_iloadn c252_100 ld1_eq <| H) <|
    t_ck e23 fun i24 e25 =>
    M_iald (j := 18) (v := (r19.2.1 18 (((160 * x1) + x2)).toInt.toNat)) c252_101 (by decide) i24 rfl <|
    t_bd e25 fun r26 c27 e28 =>
    M_cv (as := [.ref a, .int x1, .int (r19.2.1 18 (((160 * x1) + x2)).toInt.toNat)]) (st' := [.int r26.1, .int (r19.2.1 18 (((160 * x1) + x2)).toInt.toNat), .ref a]) (v := (some (.int r26.1))) c252_102 rfl ⟨Nat.le_of_ble_eq_true rfl, Nat.le_of_ble_eq_true rfl, Nat.le_of_ble_eq_true rfl⟩ rfl rfl (M253_ok (d := d) c27) (Nat.add_lt_add_left (by decide) d) <|
    M_of (fun _ _ H => r_iconst c252_105 <| H) <|
    t_if e28 (fun b29 e30 =>
      M_of (fun _ _ H => r_icmpT c252_106 b29 <| H) <|
      M_of (fun _ _ H => r_iconst c252_113 <| H) <|
      J252_114_ok (ld1_ne rfl (by decide) (Or.inl (by decide))) e30
    ) (fun b29 e30 =>
      M_of (fun _ _ H => r_icmpF c252_106 b29 <| H) <|
      M_of (fun _ _ H => r_iconst c252_109 <| r_goto c252_110 <| H) <|
      J252_114_ok (ld1_ne rfl (by decide) (Or.inl (by decide))) e30
    )
  ) (fun b17 e18 =>
  t_if e18 (fun b34 e35 =>
    M_sw c252_14_4 b34 <|
    M_of (fun _ _ H => r_aloadn c252_120 (ld1_ne rfl (by decide) (Or.inl (by decide))) <| r_iloadn c252_121 ld1_eq <| H) <|
    t_bd e35 fun r36 c37 e38 =>
    M_cv (as := [.ref a, .int ((160 * x1) + x2)]) (st' := []) (v := none) c252_122 rfl ⟨Nat.le_of_ble_eq_true rfl, Nat.le_of_ble_eq_true rfl, Nat.le_of_ble_eq_true rfl⟩ rfl rfl (M255_ok (d := d) c37) (Nat.add_lt_add_left (by decide) d) <|
    M_of (fun _ _ H => r_goto c252_125 <| H) <|
    J252_238_ok (ld1_ne rfl (by decide) (Or.inl (by decide))) e38
  ) (fun b34 e35 =>
  t_if e35 (fun b39 e40 =>
    M_sw c252_14_5 b39 <|
    M_of (fun _ _ H => r_aloadn c252_128 (ld1_ne rfl (by decide) (Or.inl (by decide))) <| r_iloadn c252_129 (ld1_ne rfl (by decide) (Or.inl (by decide))) <| r_iloadn c252_130 ld1_eq <| H) <|
    t_bd e40 fun r41 c42 e43 =>
    M_cv (as := [.ref a, .int x1, .int ((160 * x1) + x2)]) (st' := []) (v := none) c252_131 rfl ⟨Nat.le_of_ble_eq_true rfl, Nat.le_of_ble_eq_true rfl, Nat.le_of_ble_eq_true rfl⟩ rfl rfl (M256_ok (d := d) c42) (Nat.add_lt_add_left (by decide) d) <|
    M_of (fun _ _ H => r_goto c252_134 <| H) <|
    J252_238_ok (ld1_ne rfl (by decide) (Or.inl (by decide))) e43
  ) (fun b39 e40 =>
    M_of (fun _ _ H => r_sw (c252_14_d b3 b10 b17 b34 b39) <| H) <|
    M_of (fun _ _ H => r_aloadn c252_137 (ld1_ne rfl (by decide) (Or.inl (by decide))) <| H) <|
    M_geta (j := 14) c252_138 (by decide) <|
    M_of (fun _ _ H => r_iloadn c252_141 ld1_eq <| H) <|
    t_ck e40 fun i44 e45 =>
    M_iald (j := 14) (v := (S.2.1 14 (((160 * x1) + x2)).toInt.toNat)) c252_142 (by decide) i44 rfl <|
    t_bd e45 fun r46 c47 e48 =>
    M_cs (as := [.int (S.2.1 14 (((160 * x1) + x2)).toInt.toNat)]) (st' := [.int r46.1]) (v := (some (.int r46.1))) c252_143 ⟨Nat.le_of_ble_eq_true rfl, Nat.le_of_ble_eq_true rfl, Nat.le_of_ble_eq_true rfl⟩ rfl rfl (M231_ok (d := d) c47) (Nat.add_lt_add_left (by decide) d) <|
    M_of (fun _ _ H => r_istore c252_146 <| r_aloadn c252_148 (ld1_ne (ld1_ne rfl (by decide) (Or.inl (by decide))) (by decide) (Or.inl (by decide))) <| r_iloadn c252_149 (ld1_ne (ld1_ne rfl (by decide) (Or.inl (by decide))) (by decide) (Or.inl (by decide))) <| r_aloadn c252_150 (ld1_ne (ld1_ne rfl (by decide) (Or.inl (by decide))) (by decide) (Or.inl (by decide))) <| H) <|
    M_geta (j := 18) c252_151 (by decide) <|
    M_of (fun _ _ H => r_iloadn c252_154 (ld1_ne ld1_eq (by decide) (Or.inr rfl)) <| H) <|
    t_ck e48 fun i49 e50 =>
    M_iald (j := 18) (v := (r46.2.2.1 18 (((160 * x1) + x2)).toInt.toNat)) c252_155 (by decide) i49 rfl <|
    t_bd e50 fun r51 c52 e53 =>
    M_cv (as := [.ref a, .int x1, .int (r46.2.2.1 18 (((160 * x1) + x2)).toInt.toNat)]) (st' := [.int r51.1]) (v := (some (.int r51.1))) c252_156 rfl ⟨Nat.le_of_ble_eq_true rfl, Nat.le_of_ble_eq_true rfl, Nat.le_of_ble_eq_true rfl⟩ rfl rfl (M253_ok (d := d) c52) (Nat.add_lt_add_left (by decide) d) <|
    M_of (fun _ _ H => r_istore c252_159 <| r_aloadn c252_161 (ld1_ne (ld1_ne (ld1_ne rfl (by decide) (Or.inl (by decide))) (by decide) (Or.inl (by decide))) (by decide) (Or.inl (by decide))) <| r_aloadn c252_162 (ld1_ne (ld1_ne (ld1_ne rfl (by decide) (Or.inl (by decide))) (by decide) (Or.inl (by decide))) (by decide) (Or.inl (by decide))) <| H) <|
    M_geta (j := 19) c252_163 (by decide) <|
    M_of (fun _ _ H => r_iloadn c252_166 (ld1_ne (ld1_ne ld1_eq (by decide) (Or.inr rfl)) (by decide) (Or.inl (by decide))) <| H) <|
    t_ck e53 fun i54 e55 =>
    M_iald (j := 19) (v := (r51.2.2.1 19 (((160 * x1) + x2)).toInt.toNat)) c252_167 (by decide) i54 rfl <|
    M_of (fun _ _ H => r_aloadn c252_168 (ld1_ne (ld1_ne (ld1_ne rfl (by decide) (Or.inl (by decide))) (by decide) (Or.inl (by decide))) (by decide) (Or.inl (by decide))) <| r_iloadn c252_169 (ld1_ne (ld1_ne (ld1_ne rfl (by decide) (Or.inl (by decide))) (by decide) (Or.inl (by decide))) (by decide) (Or.inl (by decide))) <| r_aloadn c252_170 (ld1_ne (ld1_ne (ld1_ne rfl (by decide) (Or.inl (by decide))) (by decide) (Or.inl (by decide))) (by decide) (Or.inl (by decide))) <| H) <|
    M_geta (j := 19) c252_171 (by decide) <|
    M_of (fun _ _ H => r_iloadn c252_174 (ld1_ne (ld1_ne ld1_eq (by decide) (Or.inr rfl)) (by decide) (Or.inl (by decide))) <| H) <|
    t_ck e55 fun i56 e57 =>
    M_iald (j := 19) (v := (r51.2.2.1 19 (((160 * x1) + x2)).toInt.toNat)) c252_175 (by decide) i56 rfl <|
    t_bd e57 fun r58 c59 e60 =>
    M_cv (as := [.ref a, .int x1, .int (r51.2.2.1 19 (((160 * x1) + x2)).toInt.toNat)]) (st' := [.int r58.1, .int (r51.2.2.1 19 (((160 * x1) + x2)).toInt.toNat), .ref a]) (v := (some (.int r58.1))) c252_176 rfl ⟨Nat.le_of_ble_eq_true rfl, Nat.le_of_ble_eq_true rfl, Nat.le_of_ble_eq_true rfl⟩ rfl rfl (M253_ok (d := d) c59) (Nat.add_lt_add_left (by decide) d) <|
    M_of (fun _ _ H => r_iload c252_179 (ld1_ne ld1_eq (by decide) (Or.inr rfl)) <| H) <|
    t_if e60 (fun b61 e62 =>
      M_of (fun _ _ H => r_icmpT c252_181 b61 <| H) <|
      M_of (fun _ _ H => r_iconst c252_188 <| H) <|
      J252_189_ok (ld1_ne (ld1_ne (ld1_ne rfl (by decide) (Or.inl (by decide))) (by decide) (Or.inl (by decide))) (by decide) (Or.inl (by decide))) (ld1_ne (ld1_ne ld1_eq (by decide) (Or.inr rfl)) (by decide) (Or.inl (by decide))) (ld1_ne ld1_eq (by decide) (Or.inr rfl)) ld1_eq e62
    ) (fun b61 e62 =>
      M_of (fun _ _ H => r_icmpF c252_181 b61 <| H) <|
      M_of (fun _ _ H => r_iconst c252_184 <| r_goto c252_185 <| H) <|
      J252_189_ok (ld1_ne (ld1_ne (ld1_ne rfl (by decide) (Or.inl (by decide))) (by decide) (Or.inl (by decide))) (by decide) (Or.inl (by decide))) (ld1_ne (ld1_ne ld1_eq (by decide) (Or.inr rfl)) (by decide) (Or.inl (by decide))) (ld1_ne ld1_eq (by decide) (Or.inr rfl)) ld1_eq e62
    )
  ))))))
def LG250_20 (xt : mj_X) (ct : Nat → Value) (a : Nat) (ra : Nat → Nat) (d : Nat) (q : mS) (x1 : Int32) (S : mS) : Prop := ∀ l, mj_ld l 0 = some (.ref a) → mj_ld l 1 = some (.int x1) → MR xt ct a ra (d + 5) 250 20 l [] S (.inl none) q
def GG250_20 (xt : mj_X) (ct : Nat → Value) (a : Nat) (ra : Nat → Nat) (d : Nat) (q : mS) (o : (Int32 × mS) ⊕ (mS)) : Prop := match o with
  | .inl (x1, S) => LG250_20 xt ct a ra d q x1 S
  | .inr r => r = q
def J250_66 (N : Nat) (x1 : Int32)  (S : mS) : Option ((Int32 × mS) ⊕ (mS)) :=
  some (.inl (x1, S))
theorem J250_66_ok {xt : mj_X} {ct : Nat → Value} {a : Nat} {ra : Nat → Nat} {d N : Nat} {l : mj_L} {x1 : Int32}  {S : mS} {o : (Int32 × mS) ⊕ (mS)} {q : mS} (h0 : mj_ld l 0 = some (.ref a)) (h1 : mj_ld l 1 = some (.int x1)) (e : J250_66 N x1  S = some o) (g : GG250_20 xt ct a ra d q o) : MR xt ct a ra (d + 5) 250 66 l [] S (.inl none) q := by
  unfold J250_66 at e
  exact (
  M_of (fun _ _ H => r_goto c250_66 <| H) <|
  t_rg e g (fun (e : LG250_20 xt ct a ra d q x1 S) => e _ h0 h1))
def B250_20 (N : Nat) (s : Int32 × mS) : Option ((Int32 × mS) ⊕ (mS)) :=
  bif mj_c1 .le (s.2.1 40) then
    some (.inr s.2)
  else
  if 0 ≤ (((s.2.1 40) - 1)).toInt ∧ (((s.2.1 40) - 1)).toInt < mN 39 then
  bif mj_c1 .ge (s.2.2.1 39 (((s.2.1 40) - 1)).toInt.toNat) then
    (M252 N s.1 (s.2.2.1 39 (((s.2.1 40) - 1)).toInt.toNat) (m_sV s.2 40 ((s.2.1 40) - 1))).bind fun r12 =>
    J250_66 N s.1 r12
  else
  (M206 N (-(s.2.2.1 39 (((s.2.1 40) - 1)).toInt.toNat)) (m_sV s.2 40 ((s.2.1 40) - 1))).bind fun r15 =>
  J250_66 N s.1 r15
  else none
def L250_20 (N : Nat) (s : Int32 × mS) : Option (mS) := t_lp (B250_20 N) N s
theorem B250_20_ok {xt : mj_X} {ct : Nat → Value} {a : Nat} {ra : Nat → Nat} {d N : Nat} {s : Int32 × mS} {o : (Int32 × mS) ⊕ (mS)} {q : mS} (e : B250_20 N s = some o) (g : GG250_20 xt ct a ra d q o) : LG250_20 xt ct a ra d q s.1 s.2 := by
  unfold B250_20 at e
  exact (fun l h0 h1 =>
  M_of (fun _ _ H => r_aloadn c250_20 h0 <| H) <|
  M_get (v := (s.2.1 40)) c250_21 (by decide) rfl <|
  t_if e (fun b6 e7 =>
    M_of (fun _ _ H => r_ifT c250_24 b6 <| H) <|
    t_rg e7 g (fun (e : s.2 = q) => M_rv (e) (fun _ => r_ret c250_69))
  ) (fun b6 e7 =>
    M_of (fun _ _ H => r_ifF c250_24 b6 <| H) <|
    M_of (fun _ _ H => r_aloadn c250_27 h0 <| r_dup c250_28 rfl <| H) <|
    M_get (v := (s.2.1 40)) c250_29 (by decide) rfl <|
    M_of (fun _ _ H => r_iconst c250_32 <| r_isub c250_33 rfl <| H) <|
    M_put c250_34 (by decide) <|
    M_of (fun _ _ H => r_aloadn c250_37 h0 <| H) <|
    M_geta (j := 39) c250_38 (by decide) <|
    M_of (fun _ _ H => r_aloadn c250_41 h0 <| H) <|
    M_get (v := ((s.2.1 40) - 1)) c250_42 (by decide) rfl <|
    t_ck e7 fun i8 e9 =>
    M_iald (j := 39) (v := (s.2.2.1 39 (((s.2.1 40) - 1)).toInt.toNat)) c250_45 (by decide) i8 rfl <|
    M_of (fun _ _ H => r_istoren c250_46 <| r_iloadn c250_47 ld1_eq <| H) <|
    t_if e9 (fun b10 e11 =>
      M_of (fun _ _ H => r_ifT c250_48 b10 <| H) <|
      M_of (fun _ _ H => r_aloadn c250_60 (ld1_ne h0 (by decide) (Or.inl (by decide))) <| r_iloadn c250_61 (ld1_ne h1 (by decide) (Or.inl (by decide))) <| r_iloadn c250_62 ld1_eq <| H) <|
      t_bd e11 fun r12 c13 e14 =>
      M_cv (as := [.ref a, .int s.1, .int (s.2.2.1 39 (((s.2.1 40) - 1)).toInt.toNat)]) (st' := []) (v := none) c250_63 rfl ⟨Nat.le_of_ble_eq_true rfl, Nat.le_of_ble_eq_true rfl, Nat.le_of_ble_eq_true rfl⟩ rfl rfl (M252_ok (d := d) c13) (Nat.add_lt_add_left (by decide) d) <|
      J250_66_ok (ld1_ne h0 (by decide) (Or.inl (by decide))) (ld1_ne h1 (by decide) (Or.inl (by decide))) e14 g
    ) (fun b10 e11 =>
      M_of (fun _ _ H => r_ifF c250_48 b10 <| H) <|
      M_of (fun _ _ H => r_aloadn c250_51 (ld1_ne h0 (by decide) (Or.inl (by decide))) <| r_iloadn c250_52 ld1_eq <| r_ineg c250_53 rfl <| H) <|
      t_bd e11 fun r15 c16 e17 =>
      M_cv (as := [.ref a, .int (-(s.2.2.1 39 (((s.2.1 40) - 1)).toInt.toNat))]) (st' := []) (v := none) c250_54 rfl ⟨Nat.le_of_ble_eq_true rfl, Nat.le_of_ble_eq_true rfl, Nat.le_of_ble_eq_true rfl⟩ rfl rfl (M206_ok (d := d) c16) (Nat.add_lt_add_left (by decide) d) <|
      M_of (fun _ _ H => r_goto c250_57 <| H) <|
      J250_66_ok (ld1_ne h0 (by decide) (Or.inl (by decide))) (ld1_ne h1 (by decide) (Or.inl (by decide))) e17 g
    )
  ))
theorem L250_20_ok {xt : mj_X} {ct : Nat → Value} {a : Nat} {ra : Nat → Nat} {d N : Nat} {x1 : Int32} {S : mS} {q : mS} (e : L250_20 N (x1, S) = some q) : LG250_20 xt ct a ra d q x1 S :=
  t_lp_ok (G := fun s => LG250_20 xt ct a ra d q s.1 s.2) (fun s s' e g => B250_20_ok e (by obtain ⟨_, _⟩ := s'; exact g)) (fun s e => B250_20_ok e rfl) N (x1, S) e
/-- sayExpression(II)V -/
def M250 (N : Nat) (x1 : Int32) (x2 : Int32) (S : mS) : Option (mS) :=
  if 0 ≤ (((24 * x1) + x2)).toInt ∧ (((24 * x1) + x2)).toInt < mN 9 then
  (M251 N (S.2.1 9 (((24 * x1) + x2)).toInt.toNat) (m_sV S 40 0)).bind fun r3 =>
  L250_20 N (x1, r3)
  else none
theorem M250_ok {xt : mj_X} {ct : Nat → Value} {a : Nat} {ra : Nat → Nat} {d N : Nat} {x1 : Int32} {x2 : Int32} {S : mS} {q : mS} (e : M250 N x1 x2 S = some q) : MR xt ct a ra (d + 5) 250 0 (lv_args 0 [.ref a, .int x1, .int x2]) [] S (.inl none) q := by
  unfold M250 at e
  exact (
  M_of (fun _ _ H => r_aloadn c250_0 rfl <| r_iconst c250_1 <| H) <|
  M_put c250_2 (by decide) <|
  M_of (fun _ _ H => r_aloadn c250_5 rfl <| r_aloadn c250_6 rfl <| H) <|
  M_geta (j := 9) c250_7 (by decide) <|
  M_of (fun _ _ H => r_bipush c250_10 <| r_iloadn c250_12 rfl <| r_imul c250_13 rfl <| r_iloadn c250_14 rfl <| r_iadd c250_15 rfl <| H) <|
  t_ck e fun i1 e2 =>
  M_iald (j := 9) (v := (S.2.1 9 (((24 * x1) + x2)).toInt.toNat)) c250_16 (by decide) i1 rfl <|
  t_bd e2 fun r3 c4 e5 =>
  M_cv (as := [.ref a, .int (S.2.1 9 (((24 * x1) + x2)).toInt.toNat)]) (st' := []) (v := none) c250_17 rfl ⟨Nat.le_of_ble_eq_true rfl, Nat.le_of_ble_eq_true rfl, Nat.le_of_ble_eq_true rfl⟩ rfl rfl (M251_ok (d := d) c4) (Nat.add_lt_add_left (by decide) d) <|
  L250_20_ok e5 _ rfl rfl)
def J248_167 (N : Nat)   (S : mS) : Option (mS) :=
  some S
theorem J248_167_ok {xt : mj_X} {ct : Nat → Value} {a : Nat} {ra : Nat → Nat} {d N : Nat} {l : mj_L}   {S : mS} {q : mS} (h0 : mj_ld l 0 = some (.ref a)) (e : J248_167 N   S = some q) : MR xt ct a ra (d + 6) 248 167 l [] S (.inl none) q := by
  unfold J248_167 at e
  exact (
  M_rv (Option.some.inj e) (fun _ => r_ret c248_167))
def J248_122 (N : Nat)   (S : mS) : Option (mS) :=
  (M206 N 59 S).bind fun r27 =>
  J248_167 N r27
theorem J248_122_ok {xt : mj_X} {ct : Nat → Value} {a : Nat} {ra : Nat → Nat} {d N : Nat} {l : mj_L}   {S : mS} {q : mS} (h0 : mj_ld l 0 = some (.ref a)) (e : J248_122 N   S = some q) : MR xt ct a ra (d + 6) 248 122 l [] S (.inl none) q := by
  unfold J248_122 at e
  exact (
  M_of (fun _ _ H => r_aloadn c248_122 h0 <| r_bipush c248_123 <| H) <|
  t_bd e fun r27 c28 e29 =>
  M_cv (as := [.ref a, .int 59]) (st' := []) (v := none) c248_125 rfl ⟨Nat.le_of_ble_eq_true rfl, Nat.le_of_ble_eq_true rfl, Nat.le_of_ble_eq_true rfl⟩ rfl rfl (M206_ok (d := d) c28) (Nat.add_lt_add_left (by decide) d) <|
  M_of (fun _ _ H => r_goto c248_128 <| H) <|
  J248_167_ok h0 e29)
def J248_103 (N : Nat) (x2 : Int32) (x3 : Int32)  (S : mS) : Option (mS) :=
  if 0 ≤ (x3).toInt ∧ (x3).toInt < mN 6 then
  bif mj_c1 .eq (S.2.1 6 (x3).toInt.toNat) then
    J248_122 N S
  else
  if 0 ≤ (x3).toInt ∧ (x3).toInt < mN 6 then
  bif mj_c2 .ne (S.2.1 6 (x3).toInt.toNat) 1 then
    (M206 N 123 S).bind fun r34 =>
    if 0 ≤ ((r34.1 56)).toInt ∧ ((r34.1 56)).toInt < mN 53 then
    if 0 ≤ ((r34.1 56)).toInt ∧ ((r34.1 56)).toInt < mN 55 then
    J248_167 N (m_sV (m_sA (m_sA r34 53 ((r34.1 56)).toInt.toNat x2) 55 ((r34.1 56)).toInt.toNat 0) 56 ((r34.1 56) + 1))
    else none
    else none
  else
  J248_122 N S
  else none
  else none
theorem J248_103_ok {xt : mj_X} {ct : Nat → Value} {a : Nat} {ra : Nat → Nat} {d N : Nat} {l : mj_L} {x2 : Int32} {x3 : Int32}  {S : mS} {q : mS} (h0 : mj_ld l 0 = some (.ref a)) (h2 : mj_ld l 2 = some (.int x2)) (h3 : mj_ld l 3 = some (.int x3)) (e : J248_103 N x2 x3  S = some q) : MR xt ct a ra (d + 6) 248 103 l [] S (.inl none) q := by
  unfold J248_103 at e
  exact (
  M_of (fun _ _ H => r_aloadn c248_103 h0 <| H) <|
  M_geta (j := 6) c248_104 (by decide) <|
  M_of (fun _ _ H => r_iloadn c248_107 h3 <| H) <|
  t_ck e fun i23 e24 =>
  M_iald (j := 6) (v := (S.2.1 6 (x3).toInt.toNat)) c248_108 (by decide) i23 rfl <|
  t_if e24 (fun b25 e26 =>
    M_of (fun _ _ H => r_ifT c248_109 b25 <| H) <|
    J248_122_ok h0 e26
  ) (fun b25 e26 =>
    M_of (fun _ _ H => r_ifF c248_109 b25 <| H) <|
    M_of (fun _ _ H => r_aloadn c248_112 h0 <| H) <|
    M_geta (j := 6) c248_113 (by decide) <|
    M_of (fun _ _ H => r_iloadn c248_116 h3 <| H) <|
    t_ck e26 fun i30 e31 =>
    M_iald (j := 6) (v := (S.2.1 6 (x3).toInt.toNat)) c248_117 (by decide) i30 rfl <|
    M_of (fun _ _ H => r_iconst c248_118 <| H) <|
    t_if e31 (fun b32 e33 =>
      M_of (fun _ _ H => r_icmpT c248_119 b32 <| H) <|
      M_of (fun _ _ H => r_aloadn c248_131 h0 <| r_bipush c248_132 <| H) <|
      t_bd e33 fun r34 c35 e36 =>
      M_cv (as := [.ref a, .int 123]) (st' := []) (v := none) c248_134 rfl ⟨Nat.le_of_ble_eq_true rfl, Nat.le_of_ble_eq_true rfl, Nat.le_of_ble_eq_true rfl⟩ rfl rfl (M206_ok (d := d) c35) (Nat.add_lt_add_left (by decide) d) <|
      M_of (fun _ _ H => r_aloadn c248_137 h0 <| H) <|
      M_geta (j := 53) c248_138 (by decide) <|
      M_of (fun _ _ H => r_aloadn c248_141 h0 <| H) <|
      M_get (v := (r34.1 56)) c248_142 (by decide) rfl <|
      M_of (fun _ _ H => r_iloadn c248_145 h2 <| H) <|
      t_ck e36 fun i37 e38 =>
      M_iast (j := 53) c248_146 (by decide) i37 <|
      M_of (fun _ _ H => r_aloadn c248_147 h0 <| H) <|
      M_geta (j := 55) c248_148 (by decide) <|
      M_of (fun _ _ H => r_aloadn c248_151 h0 <| H) <|
      M_get (v := (r34.1 56)) c248_152 (by decide) rfl <|
      M_of (fun _ _ H => r_iconst c248_155 <| H) <|
      t_ck e38 fun i39 e40 =>
      M_iast (j := 55) c248_156 (by decide) i39 <|
      M_of (fun _ _ H => r_aloadn c248_157 h0 <| r_dup c248_158 rfl <| H) <|
      M_get (v := (r34.1 56)) c248_159 (by decide) rfl <|
      M_of (fun _ _ H => r_iconst c248_162 <| r_iadd c248_163 rfl <| H) <|
      M_put c248_164 (by decide) <|
      J248_167_ok h0 e40
    ) (fun b32 e33 =>
      M_of (fun _ _ H => r_icmpF c248_119 b32 <| H) <|
      J248_122_ok h0 e33
    )
  ))
def J248_74 (N : Nat) (x1 : Int32) (x2 : Int32) (x3 : Int32)  (S : mS) : Option (mS) :=
  if 0 ≤ (x3).toInt ∧ (x3).toInt < mN 6 then
  bif mj_c2 .ne (S.2.1 6 (x3).toInt.toNat) 3 then
    (M250 N x1 x2 S).bind fun r20 =>
    J248_103 N x2 x3 r20
  else
  if 0 ≤ (x3).toInt ∧ (x3).toInt < mN 7 then
  (M249 N (S.2.1 7 (x3).toInt.toNat) S).bind fun r43 =>
  J248_103 N x2 x3 r43
  else none
  else none
theorem J248_74_ok {xt : mj_X} {ct : Nat → Value} {a : Nat} {ra : Nat → Nat} {d N : Nat} {l : mj_L} {x1 : Int32} {x2 : Int32} {x3 : Int32}  {S : mS} {q : mS} (h0 : mj_ld l 0 = some (.ref a)) (h1 : mj_ld l 1 = some (.int x1)) (h2 : mj_ld l 2 = some (.int x2)) (h3 : mj_ld l 3 = some (.int x3)) (e : J248_74 N x1 x2 x3  S = some q) : MR xt ct a ra (d + 6) 248 74 l [] S (.inl none) q := by
  unfold J248_74 at e
  exact (
  M_of (fun _ _ H => r_aloadn c248_74 h0 <| H) <|
  M_geta (j := 6) c248_75 (by decide) <|
  M_of (fun _ _ H => r_iloadn c248_78 h3 <| H) <|
  t_ck e fun i16 e17 =>
  M_iald (j := 6) (v := (S.2.1 6 (x3).toInt.toNat)) c248_79 (by decide) i16 rfl <|
  M_of (fun _ _ H => r_iconst c248_80 <| H) <|
  t_if e17 (fun b18 e19 =>
    M_of (fun _ _ H => r_icmpT c248_81 b18 <| H) <|
    M_of (fun _ _ H => r_aloadn c248_97 h0 <| r_iloadn c248_98 h1 <| r_iloadn c248_99 h2 <| H) <|
    t_bd e19 fun r20 c21 e22 =>
    M_cv (as := [.ref a, .int x1, .int x2]) (st' := []) (v := none) c248_100 rfl ⟨Nat.le_of_ble_eq_true rfl, Nat.le_of_ble_eq_true rfl, Nat.le_of_ble_eq_true rfl⟩ rfl rfl (M250_ok (d := d) c21) (Nat.add_lt_add_left (by decide) d) <|
    J248_103_ok h0 h2 h3 e22
  ) (fun b18 e19 =>
    M_of (fun _ _ H => r_icmpF c248_81 b18 <| H) <|
    M_of (fun _ _ H => r_aloadn c248_84 h0 <| r_aloadn c248_85 h0 <| H) <|
    M_geta (j := 7) c248_86 (by decide) <|
    M_of (fun _ _ H => r_iloadn c248_89 h3 <| H) <|
    t_ck e19 fun i41 e42 =>
    M_iald (j := 7) (v := (S.2.1 7 (x3).toInt.toNat)) c248_90 (by decide) i41 rfl <|
    t_bd e42 fun r43 c44 e45 =>
    M_cv (as := [.ref a, .int (S.2.1 7 (x3).toInt.toNat)]) (st' := []) (v := none) c248_91 rfl ⟨Nat.le_of_ble_eq_true rfl, Nat.le_of_ble_eq_true rfl, Nat.le_of_ble_eq_true rfl⟩ rfl rfl (M249_ok (d := d) c44) (Nat.add_lt_add_left (by decide) d) <|
    M_of (fun _ _ H => r_goto c248_94 <| H) <|
    J248_103_ok h0 h2 h3 e45
  ))
def J248_71 (N : Nat) (x1 : Int32) (x2 : Int32) (x3 : Int32) (s0 : Int32) (S : mS) : Option (mS) :=
  (M206 N s0 S).bind fun r13 =>
  J248_74 N x1 x2 x3 r13
theorem J248_71_ok {xt : mj_X} {ct : Nat → Value} {a : Nat} {ra : Nat → Nat} {d N : Nat} {l : mj_L} {x1 : Int32} {x2 : Int32} {x3 : Int32} {s0 : Int32} {S : mS} {q : mS} (h0 : mj_ld l 0 = some (.ref a)) (h1 : mj_ld l 1 = some (.int x1)) (h2 : mj_ld l 2 = some (.int x2)) (h3 : mj_ld l 3 = some (.int x3)) (e : J248_71 N x1 x2 x3 s0 S = some q) : MR xt ct a ra (d + 6) 248 71 l [.int s0, .ref a] S (.inl none) q := by
  unfold J248_71 at e
  exact (
  t_bd e fun r13 c14 e15 =>
  M_cv (as := [.ref a, .int s0]) (st' := []) (v := none) c248_71 rfl ⟨Nat.le_of_ble_eq_true rfl, Nat.le_of_ble_eq_true rfl, Nat.le_of_ble_eq_true rfl⟩ rfl rfl (M206_ok (d := d) c14) (Nat.add_lt_add_left (by decide) d) <|
  J248_74_ok h0 h1 h2 h3 e15)
/-- sayStatement(II)V -/
def M248 (N : Nat) (x1 : Int32) (x2 : Int32) (S : mS) : Option (mS) :=
  if 0 ≤ (((24 * x1) + x2)).toInt ∧ (((24 * x1) + x2)).toInt < mN 6 then
  bif mj_c1 .ne (S.2.1 6 (((24 * x1) + x2)).toInt.toNat) then
    if 0 ≤ (((24 * x1) + x2)).toInt ∧ (((24 * x1) + x2)).toInt < mN 6 then
    bif mj_c2 .ne (S.2.1 6 (((24 * x1) + x2)).toInt.toNat) 1 then
      if 0 ≤ (((24 * x1) + x2)).toInt ∧ (((24 * x1) + x2)).toInt < mN 6 then
      bif mj_c2 .ne (S.2.1 6 (((24 * x1) + x2)).toInt.toNat) 2 then
        J248_71 N x1 x2 ((24 * x1) + x2) 42 S
      else
      J248_71 N x1 x2 ((24 * x1) + x2) 63 S
      else none
    else
    J248_71 N x1 x2 ((24 * x1) + x2) 33 S
    else none
  else
  if 0 ≤ (((24 * x1) + x2)).toInt ∧ (((24 * x1) + x2)).toInt < mN 7 then
  (M206 N (65 + (S.2.1 7 (((24 * x1) + x2)).toInt.toNat)) S).bind fun r48 =>
  (M206 N 61 r48).bind fun r51 =>
  J248_74 N x1 x2 ((24 * x1) + x2) r51
  else none
  else none
theorem M248_ok {xt : mj_X} {ct : Nat → Value} {a : Nat} {ra : Nat → Nat} {d N : Nat} {x1 : Int32} {x2 : Int32} {S : mS} {q : mS} (e : M248 N x1 x2 S = some q) : MR xt ct a ra (d + 6) 248 0 (lv_args 0 [.ref a, .int x1, .int x2]) [] S (.inl none) q := by
  unfold M248 at e
  exact (
  M_of (fun _ _ H => r_bipush c248_0 <| r_iloadn c248_2 rfl <| r_imul c248_3 rfl <| r_iloadn c248_4 rfl <| r_iadd c248_5 rfl <| r_istoren c248_6 <| r_aloadn c248_7 (ld1_ne rfl (by decide) (Or.inl (by decide))) <| H) <|
  M_geta (j := 6) c248_8 (by decide) <|
  M_of (fun _ _ H => r_iloadn c248_11 ld1_eq <| H) <|
  t_ck e fun i1 e2 =>
  M_iald (j := 6) (v := (S.2.1 6 (((24 * x1) + x2)).toInt.toNat)) c248_12 (by decide) i1 rfl <|
  t_if e2 (fun b3 e4 =>
    M_of (fun _ _ H => r_ifT c248_13 b3 <| H) <|
    M_of (fun _ _ H => r_aloadn c248_38 (ld1_ne rfl (by decide) (Or.inl (by decide))) <| r_aloadn c248_39 (ld1_ne rfl (by decide) (Or.inl (by decide))) <| H) <|
    M_geta (j := 6) c248_40 (by decide) <|
    M_of (fun _ _ H => r_iloadn c248_43 ld1_eq <| H) <|
    t_ck e4 fun i5 e6 =>
    M_iald (j := 6) (v := (S.2.1 6 (((24 * x1) + x2)).toInt.toNat)) c248_44 (by decide) i5 rfl <|
    M_of (fun _ _ H => r_iconst c248_45 <| H) <|
    t_if e6 (fun b7 e8 =>
      M_of (fun _ _ H => r_icmpT c248_46 b7 <| H) <|
      M_of (fun _ _ H => r_aloadn c248_54 (ld1_ne rfl (by decide) (Or.inl (by decide))) <| H) <|
      M_geta (j := 6) c248_55 (by decide) <|
      M_of (fun _ _ H => r_iloadn c248_58 ld1_eq <| H) <|
      t_ck e8 fun i9 e10 =>
      M_iald (j := 6) (v := (S.2.1 6 (((24 * x1) + x2)).toInt.toNat)) c248_59 (by decide) i9 rfl <|
      M_of (fun _ _ H => r_iconst c248_60 <| H) <|
      t_if e10 (fun b11 e12 =>
        M_of (fun _ _ H => r_icmpT c248_61 b11 <| H) <|
        M_of (fun _ _ H => r_bipush c248_69 <| H) <|
        J248_71_ok (ld1_ne rfl (by decide) (Or.inl (by decide))) (ld1_ne rfl (by decide) (Or.inl (by decide))) (ld1_ne rfl (by decide) (Or.inr rfl)) ld1_eq e12
      ) (fun b11 e12 =>
        M_of (fun _ _ H => r_icmpF c248_61 b11 <| H) <|
        M_of (fun _ _ H => r_bipush c248_64 <| r_goto c248_66 <| H) <|
        J248_71_ok (ld1_ne rfl (by decide) (Or.inl (by decide))) (ld1_ne rfl (by decide) (Or.inl (by decide))) (ld1_ne rfl (by decide) (Or.inr rfl)) ld1_eq e12
      )
    ) (fun b7 e8 =>
      M_of (fun _ _ H => r_icmpF c248_46 b7 <| H) <|
      M_of (fun _ _ H => r_bipush c248_49 <| r_goto c248_51 <| H) <|
      J248_71_ok (ld1_ne rfl (by decide) (Or.inl (by decide))) (ld1_ne rfl (by decide) (Or.inl (by decide))) (ld1_ne rfl (by decide) (Or.inr rfl)) ld1_eq e8
    )
  ) (fun b3 e4 =>
    M_of (fun _ _ H => r_ifF c248_13 b3 <| H) <|
    M_of (fun _ _ H => r_aloadn c248_16 (ld1_ne rfl (by decide) (Or.inl (by decide))) <| r_bipush c248_17 <| r_aloadn c248_19 (ld1_ne rfl (by decide) (Or.inl (by decide))) <| H) <|
    M_geta (j := 7) c248_20 (by decide) <|
    M_of (fun _ _ H => r_iloadn c248_23 ld1_eq <| H) <|
    t_ck e4 fun i46 e47 =>
    M_iald (j := 7) (v := (S.2.1 7 (((24 * x1) + x2)).toInt.toNat)) c248_24 (by decide) i46 rfl <|
    M_of (fun _ _ H => r_iadd c248_25 rfl <| H) <|
    t_bd e47 fun r48 c49 e50 =>
    M_cv (as := [.ref a, .int (65 + (S.2.1 7 (((24 * x1) + x2)).toInt.toNat))]) (st' := []) (v := none) c248_26 rfl ⟨Nat.le_of_ble_eq_true rfl, Nat.le_of_ble_eq_true rfl, Nat.le_of_ble_eq_true rfl⟩ rfl rfl (M206_ok (d := d) c49) (Nat.add_lt_add_left (by decide) d) <|
    M_of (fun _ _ H => r_aloadn c248_29 (ld1_ne rfl (by decide) (Or.inl (by decide))) <| r_bipush c248_30 <| H) <|
    t_bd e50 fun r51 c52 e53 =>
    M_cv (as := [.ref a, .int 61]) (st' := []) (v := none) c248_32 rfl ⟨Nat.le_of_ble_eq_true rfl, Nat.le_of_ble_eq_true rfl, Nat.le_of_ble_eq_true rfl⟩ rfl rfl (M206_ok (d := d) c52) (Nat.add_lt_add_left (by decide) d) <|
    M_of (fun _ _ H => r_goto c248_35 <| H) <|
    J248_74_ok (ld1_ne rfl (by decide) (Or.inl (by decide))) (ld1_ne rfl (by decide) (Or.inl (by decide))) (ld1_ne rfl (by decide) (Or.inr rfl)) ld1_eq e53
  ))
def LG245_30 (xt : mj_X) (ct : Nat → Value) (a : Nat) (ra : Nat → Nat) (d : Nat) (q : Int32 × mS) (x1 : Int32) (x2 : Int32) (S : mS) : Prop := ∀ l, mj_ld l 0 = some (.ref a) → mj_ld l 1 = some (.int x1) → mj_ld l 2 = some (.int x2) → MR xt ct a ra (d + 7) 245 30 l [] S (.inl (some (.int q.1))) q.2
def GG245_30 (xt : mj_X) (ct : Nat → Value) (a : Nat) (ra : Nat → Nat) (d : Nat) (q : Int32 × mS) (o : (Int32 × Int32 × mS) ⊕ (Int32 × mS)) : Prop := match o with
  | .inl (x1, x2, S) => LG245_30 xt ct a ra d q x1 x2 S
  | .inr r => r = q
def B245_30 (N : Nat) (s : Int32 × Int32 × mS) : Option ((Int32 × Int32 × mS) ⊕ (Int32 × mS)) :=
  if 0 ≤ (s.1).toInt ∧ (s.1).toInt < mN 5 then
  bif mj_c2 .ge s.2.1 (s.2.2.2.1 5 (s.1).toInt.toNat) then
    if 0 ≤ (s.1).toInt ∧ (s.1).toInt < mN 5 then
    (M247 N s.1 (s.2.2.2.1 5 (s.1).toInt.toNat) s.2.2).bind fun r12 =>
    some (.inr ((r12.1 2), r12))
    else none
  else
  (M247 N s.1 s.2.1 s.2.2).bind fun r15 =>
  (M248 N s.1 s.2.1 r15).bind fun r18 =>
  some (.inl (s.1, (s.2.1 + 1), r18))
  else none
def L245_30 (N : Nat) (s : Int32 × Int32 × mS) : Option (Int32 × mS) := t_lp (B245_30 N) N s
theorem B245_30_ok {xt : mj_X} {ct : Nat → Value} {a : Nat} {ra : Nat → Nat} {d N : Nat} {s : Int32 × Int32 × mS} {o : (Int32 × Int32 × mS) ⊕ (Int32 × mS)} {q : Int32 × mS} (e : B245_30 N s = some o) (g : GG245_30 xt ct a ra d q o) : LG245_30 xt ct a ra d q s.1 s.2.1 s.2.2 := by
  unfold B245_30 at e
  exact (fun l h0 h1 h2 =>
  M_of (fun _ _ H => r_iloadn c245_30 h2 <| r_aloadn c245_31 h0 <| H) <|
  M_geta (j := 5) c245_32 (by decide) <|
  M_of (fun _ _ H => r_iloadn c245_35 h1 <| H) <|
  t_ck e fun i6 e7 =>
  M_iald (j := 5) (v := (s.2.2.2.1 5 (s.1).toInt.toNat)) c245_36 (by decide) i6 rfl <|
  t_if e7 (fun b8 e9 =>
    M_of (fun _ _ H => r_icmpT c245_37 b8 <| H) <|
    M_of (fun _ _ H => r_aloadn c245_58 h0 <| r_iloadn c245_59 h1 <| r_aloadn c245_60 h0 <| H) <|
    M_geta (j := 5) c245_61 (by decide) <|
    M_of (fun _ _ H => r_iloadn c245_64 h1 <| H) <|
    t_ck e9 fun i10 e11 =>
    M_iald (j := 5) (v := (s.2.2.2.1 5 (s.1).toInt.toNat)) c245_65 (by decide) i10 rfl <|
    t_bd e11 fun r12 c13 e14 =>
    M_cv (as := [.ref a, .int s.1, .int (s.2.2.2.1 5 (s.1).toInt.toNat)]) (st' := []) (v := none) c245_66 rfl ⟨Nat.le_of_ble_eq_true rfl, Nat.le_of_ble_eq_true rfl, Nat.le_of_ble_eq_true rfl⟩ rfl rfl (M247_ok (d := d) c13) (Nat.add_lt_add_left (by decide) d) <|
    M_of (fun _ _ H => r_aloadn c245_69 h0 <| H) <|
    M_get (v := (r12.1 2)) c245_70 (by decide) rfl <|
    t_rg e14 g (fun (e : ((r12.1 2), r12) = q) => M_ri (e) (fun _ => r_iret c245_73 rfl))
  ) (fun b8 e9 =>
    M_of (fun _ _ H => r_icmpF c245_37 b8 <| H) <|
    M_of (fun _ _ H => r_aloadn c245_40 h0 <| r_iloadn c245_41 h1 <| r_iloadn c245_42 h2 <| H) <|
    t_bd e9 fun r15 c16 e17 =>
    M_cv (as := [.ref a, .int s.1, .int s.2.1]) (st' := []) (v := none) c245_43 rfl ⟨Nat.le_of_ble_eq_true rfl, Nat.le_of_ble_eq_true rfl, Nat.le_of_ble_eq_true rfl⟩ rfl rfl (M247_ok (d := d) c16) (Nat.add_lt_add_left (by decide) d) <|
    M_of (fun _ _ H => r_aloadn c245_46 h0 <| r_iloadn c245_47 h1 <| r_iloadn c245_48 h2 <| H) <|
    t_bd e17 fun r18 c19 e20 =>
    M_cv (as := [.ref a, .int s.1, .int s.2.1]) (st' := []) (v := none) c245_49 rfl ⟨Nat.le_of_ble_eq_true rfl, Nat.le_of_ble_eq_true rfl, Nat.le_of_ble_eq_true rfl⟩ rfl rfl (M248_ok (d := d) c19) (Nat.add_lt_add_left (by decide) d) <|
    M_of (fun _ _ H => r_iinc c245_52 h2 <| r_goto c245_55 <| H) <|
    t_rg e20 g (fun (e : LG245_30 xt ct a ra d q s.1 (s.2.1 + 1) r18) => e _ (ld1_ne h0 (by decide) (Or.inl (by decide))) (ld1_ne h1 (by decide) (Or.inr rfl)) ld1_eq)
  ))
theorem L245_30_ok {xt : mj_X} {ct : Nat → Value} {a : Nat} {ra : Nat → Nat} {d N : Nat} {x1 : Int32} {x2 : Int32} {S : mS} {q : Int32 × mS} (e : L245_30 N (x1, x2, S) = some q) : LG245_30 xt ct a ra d q x1 x2 S :=
  t_lp_ok (G := fun s => LG245_30 xt ct a ra d q s.1 s.2.1 s.2.2) (fun s s' e g => B245_30_ok e (by obtain ⟨_, _, _⟩ := s'; exact g)) (fun s e => B245_30_ok e rfl) N (x1, x2, S) e
/-- print(I)I -/
def M245 (N : Nat) (x1 : Int32) (S : mS) : Option (Int32 × mS) :=
  (M246 N x1 S).bind fun r1 =>
  bif mj_c1 .le r1.1 then
    L245_30 N (x1, 0, (m_sV (m_sV (m_sV r1.2 0 r1.1) 2 0) 56 0))
  else
  some (0, (m_sV r1.2 0 r1.1))
theorem M245_ok {xt : mj_X} {ct : Nat → Value} {a : Nat} {ra : Nat → Nat} {d N : Nat} {x1 : Int32} {S : mS} {q : Int32 × mS} (e : M245 N x1 S = some q) : MR xt ct a ra (d + 7) 245 0 (lv_args 0 [.ref a, .int x1]) [] S (.inl (some (.int q.1))) q.2 := by
  unfold M245 at e
  exact (
  M_of (fun _ _ H => r_aloadn c245_0 rfl <| r_aloadn c245_1 rfl <| r_iloadn c245_2 rfl <| H) <|
  t_bd e fun r1 c2 e3 =>
  M_cv (as := [.ref a, .int x1]) (st' := [.int r1.1, .ref a]) (v := (some (.int r1.1))) c245_3 rfl ⟨Nat.le_of_ble_eq_true rfl, Nat.le_of_ble_eq_true rfl, Nat.le_of_ble_eq_true rfl⟩ rfl rfl (M246_ok (d := d) c2) (Nat.add_lt_add_left (by decide) d) <|
  M_put c245_6 (by decide) <|
  M_of (fun _ _ H => r_aloadn c245_9 rfl <| H) <|
  M_get (v := r1.1) c245_10 (by decide) rfl <|
  t_if e3 (fun b4 e5 =>
    M_of (fun _ _ H => r_ifT c245_13 b4 <| H) <|
    M_of (fun _ _ H => r_aloadn c245_18 rfl <| r_iconst c245_19 <| H) <|
    M_put c245_20 (by decide) <|
    M_of (fun _ _ H => r_aloadn c245_23 rfl <| r_iconst c245_24 <| H) <|
    M_put c245_25 (by decide) <|
    M_of (fun _ _ H => r_iconst c245_28 <| r_istoren c245_29 <| H) <|
    L245_30_ok e5 _ (ld1_ne rfl (by decide) (Or.inl (by decide))) (ld1_ne rfl (by decide) (Or.inr rfl)) ld1_eq
  ) (fun b4 e5 =>
    M_of (fun _ _ H => r_ifF c245_13 b4 <| H) <|
    M_of (fun _ _ H => r_iconst c245_16 <| H) <|
    M_ri (Option.some.inj e5) (fun _ => r_iret c245_17 rfl)
  ))
def J258_32 (N : Nat)  (s0 : Int64) (S : mS) : Option (Int64 × mS) :=
  some (s0, S)
theorem J258_32_ok {xt : mj_X} {ct : Nat → Value} {a : Nat} {ra : Nat → Nat} {d N : Nat} {l : mj_L}  {s0 : Int64} {S : mS} {q : Int64 × mS} (h0 : mj_ld l 0 = some (.ref a)) (e : J258_32 N  s0 S = some q) : MR xt ct a ra (d + 4) 258 32 l [.long s0] S (.inl (some (.long q.1))) q.2 := by
  unfold J258_32 at e
  exact (
  M_rl (Option.some.inj e) (fun _ => r_lret c258_32))
/-- factor(I)J -/
def M258 (N : Nat) (x1 : Int32) (S : mS) : Option (Int64 × mS) :=
  (M246 N x1 S).bind fun r1 =>
  bif mj_c1 .le r1.1 then
    if 0 ≤ (x1).toInt ∧ (x1).toInt < mN 5 then
    (M236 N x1 0 (r1.2.2.1 5 (x1).toInt.toNat) (m_sV r1.2 0 r1.1)).bind fun r8 =>
    J258_32 N r8.1 r8.2
    else none
  else
  J258_32 N 0 (m_sV r1.2 0 r1.1)
theorem M258_ok {xt : mj_X} {ct : Nat → Value} {a : Nat} {ra : Nat → Nat} {d N : Nat} {x1 : Int32} {S : mS} {q : Int64 × mS} (e : M258 N x1 S = some q) : MR xt ct a ra (d + 4) 258 0 (lv_args 0 [.ref a, .int x1]) [] S (.inl (some (.long q.1))) q.2 := by
  unfold M258 at e
  exact (
  M_of (fun _ _ H => r_aloadn c258_0 rfl <| r_aloadn c258_1 rfl <| r_iloadn c258_2 rfl <| H) <|
  t_bd e fun r1 c2 e3 =>
  M_cv (as := [.ref a, .int x1]) (st' := [.int r1.1, .ref a]) (v := (some (.int r1.1))) c258_3 rfl ⟨Nat.le_of_ble_eq_true rfl, Nat.le_of_ble_eq_true rfl, Nat.le_of_ble_eq_true rfl⟩ rfl rfl (M246_ok (d := d) c2) (Nat.add_lt_add_left (by decide) d) <|
  M_put c258_6 (by decide) <|
  M_of (fun _ _ H => r_aloadn c258_9 rfl <| H) <|
  M_get (v := r1.1) c258_10 (by decide) rfl <|
  t_if e3 (fun b4 e5 =>
    M_of (fun _ _ H => r_ifT c258_13 b4 <| H) <|
    M_of (fun _ _ H => r_aloadn c258_20 rfl <| r_iloadn c258_21 rfl <| r_iconst c258_22 <| r_aloadn c258_23 rfl <| H) <|
    M_geta (j := 5) c258_24 (by decide) <|
    M_of (fun _ _ H => r_iloadn c258_27 rfl <| H) <|
    t_ck e5 fun i6 e7 =>
    M_iald (j := 5) (v := (r1.2.2.1 5 (x1).toInt.toNat)) c258_28 (by decide) i6 rfl <|
    t_bd e7 fun r8 c9 e10 =>
    M_cv (as := [.ref a, .int x1, .int 0, .int (r1.2.2.1 5 (x1).toInt.toNat)]) (st' := [.long r8.1]) (v := (some (.long r8.1))) c258_29 rfl ⟨Nat.le_of_ble_eq_true rfl, Nat.le_of_ble_eq_true rfl, Nat.le_of_ble_eq_true rfl⟩ rfl rfl (M236_ok (d := d) c9) (Nat.add_lt_add_left (by decide) d) <|
    J258_32_ok rfl e10
  ) (fun b4 e5 =>
    M_of (fun _ _ H => r_ifF c258_13 b4 <| H) <|
    M_of (fun _ _ H => r_lconst c258_16 <| r_goto c258_17 <| H) <|
    J258_32_ok rfl e5
  ))
def LG262_2 (xt : mj_X) (ct : Nat → Value) (a : Nat) (ra : Nat → Nat) (d : Nat) (q : mS) (x1 : Int32) (x2 : Int32) (x3 : Int32) (S : mS) : Prop := ∀ l, mj_ld l 0 = some (.ref a) → mj_ld l 1 = some (.int x1) → mj_ld l 2 = some (.int x2) → mj_ld l 3 = some (.int x3) → MR xt ct a ra (d + 3) 262 2 l [] S (.inl none) q
def GG262_2 (xt : mj_X) (ct : Nat → Value) (a : Nat) (ra : Nat → Nat) (d : Nat) (q : mS) (o : (Int32 × Int32 × Int32 × mS) ⊕ (mS)) : Prop := match o with
  | .inl (x1, x2, x3, S) => LG262_2 xt ct a ra d q x1 x2 x3 S
  | .inr r => r = q
def LG262_10 (xt : mj_X) (ct : Nat → Value) (a : Nat) (ra : Nat → Nat) (d : Nat) (q : mS) (x1 : Int32) (x2 : Int32) (x3 : Int32) (x4 : Int32) (S : mS) : Prop := ∀ l, mj_ld l 0 = some (.ref a) → mj_ld l 1 = some (.int x1) → mj_ld l 2 = some (.int x2) → mj_ld l 3 = some (.int x3) → mj_ld l 4 = some (.int x4) → MR xt ct a ra (d + 3) 262 10 l [] S (.inl none) q
def GG262_10 (xt : mj_X) (ct : Nat → Value) (a : Nat) (ra : Nat → Nat) (d : Nat) (q : mS) (o : (Int32 × Int32 × Int32 × Int32 × mS) ⊕ ((Int32 × Int32 × Int32 × mS) ⊕ (mS))) : Prop := match o with
  | .inl (x1, x2, x3, x4, S) => LG262_10 xt ct a ra d q x1 x2 x3 x4 S
  | .inr r => GG262_2 xt ct a ra d q r
def J262_58 (N : Nat) (x1 : Int32) (x2 : Int32) (x3 : Int32) (x4 : Int32)  (S : mS) : Option ((Int32 × Int32 × Int32 × Int32 × mS) ⊕ ((Int32 × Int32 × Int32 × mS) ⊕ (mS))) :=
  some (.inl (x1, x2, x3, (x4 + 1), S))
theorem J262_58_ok {xt : mj_X} {ct : Nat → Value} {a : Nat} {ra : Nat → Nat} {d N : Nat} {l : mj_L} {x1 : Int32} {x2 : Int32} {x3 : Int32} {x4 : Int32}  {S : mS} {o : (Int32 × Int32 × Int32 × Int32 × mS) ⊕ ((Int32 × Int32 × Int32 × mS) ⊕ (mS))} {q : mS} (h0 : mj_ld l 0 = some (.ref a)) (h1 : mj_ld l 1 = some (.int x1)) (h2 : mj_ld l 2 = some (.int x2)) (h3 : mj_ld l 3 = some (.int x3)) (h4 : mj_ld l 4 = some (.int x4)) (e : J262_58 N x1 x2 x3 x4  S = some o) (g : GG262_10 xt ct a ra d q o) : MR xt ct a ra (d + 3) 262 58 l [] S (.inl none) q := by
  unfold J262_58 at e
  exact (
  M_of (fun _ _ H => r_iinc c262_58 h4 <| r_goto c262_61 <| H) <|
  t_rg e g (fun (e : LG262_10 xt ct a ra d q x1 x2 x3 (x4 + 1) S) => e _ (ld1_ne h0 (by decide) (Or.inl (by decide))) (ld1_ne h1 (by decide) (Or.inl (by decide))) (ld1_ne h2 (by decide) (Or.inl (by decide))) (ld1_ne h3 (by decide) (Or.inr rfl)) ld1_eq))
def J262_27 (N : Nat) (x1 : Int32) (x2 : Int32) (x3 : Int32) (x4 : Int32)  (S : mS) : Option ((Int32 × Int32 × Int32 × Int32 × mS) ⊕ ((Int32 × Int32 × Int32 × mS) ⊕ (mS))) :=
  if 0 ≤ (((x1 * x3) + x4)).toInt ∧ (((x1 * x3) + x4)).toInt < mN 38 then
  (M238 N x1.toInt64 (x2 - x3) S).bind fun r9 =>
  if 0 ≤ (((x1 * x3) + x4)).toInt ∧ (((x1 * x3) + x4)).toInt < mN 38 then
  J262_58 N x1 x2 x3 x4 (m_sB r9.2 38 (((x1 * x3) + x4)).toInt.toNat ((S.2.2 38 (((x1 * x3) + x4)).toInt.toNat) + r9.1))
  else none
  else none
theorem J262_27_ok {xt : mj_X} {ct : Nat → Value} {a : Nat} {ra : Nat → Nat} {d N : Nat} {l : mj_L} {x1 : Int32} {x2 : Int32} {x3 : Int32} {x4 : Int32}  {S : mS} {o : (Int32 × Int32 × Int32 × Int32 × mS) ⊕ ((Int32 × Int32 × Int32 × mS) ⊕ (mS))} {q : mS} (h0 : mj_ld l 0 = some (.ref a)) (h1 : mj_ld l 1 = some (.int x1)) (h2 : mj_ld l 2 = some (.int x2)) (h3 : mj_ld l 3 = some (.int x3)) (h4 : mj_ld l 4 = some (.int x4)) (e : J262_27 N x1 x2 x3 x4  S = some o) (g : GG262_10 xt ct a ra d q o) : MR xt ct a ra (d + 3) 262 27 l [] S (.inl none) q := by
  unfold J262_27 at e
  exact (
  M_of (fun _ _ H => r_aloadn c262_27 h0 <| H) <|
  M_geta (j := 38) c262_28 (by decide) <|
  M_of (fun _ _ H => r_iloadn c262_31 h1 <| r_iloadn c262_32 h3 <| r_imul c262_33 rfl <| r_iload c262_34 h4 <| r_iadd c262_36 rfl <| r_aloadn c262_37 h0 <| H) <|
  M_geta (j := 38) c262_38 (by decide) <|
  M_of (fun _ _ H => r_iloadn c262_41 h1 <| r_iloadn c262_42 h3 <| r_imul c262_43 rfl <| r_iload c262_44 h4 <| r_iadd c262_46 rfl <| H) <|
  t_ck e fun i7 e8 =>
  M_lald (j := 38) (v := (S.2.2 38 (((x1 * x3) + x4)).toInt.toNat)) c262_47 (by decide) i7 rfl <|
  M_of (fun _ _ H => r_iloadn c262_48 h1 <| r_i2l c262_49 rfl <| r_iloadn c262_50 h2 <| r_iloadn c262_51 h3 <| r_isub c262_52 rfl <| H) <|
  t_bd e8 fun r9 c10 e11 =>
  M_cs (as := [.long x1.toInt64, .int (x2 - x3)]) (st' := [.long r9.1, .long (S.2.2 38 (((x1 * x3) + x4)).toInt.toNat), .int ((x1 * x3) + x4), .ref (ra 38)]) (v := (some (.long r9.1))) c262_53 ⟨Nat.le_of_ble_eq_true rfl, Nat.le_of_ble_eq_true rfl, Nat.le_of_ble_eq_true rfl⟩ rfl rfl (M238_ok (d := d) c10) (Nat.add_lt_add_left (by decide) d) <|
  M_of (fun _ _ H => r_ladd c262_56 rfl <| H) <|
  t_ck e11 fun i12 e13 =>
  M_last (j := 38) c262_57 (by decide) i12 <|
  J262_58_ok h0 h1 h2 h3 h4 e13 g)
def B262_10 (N : Nat) (s : Int32 × Int32 × Int32 × Int32 × mS) : Option ((Int32 × Int32 × Int32 × Int32 × mS) ⊕ ((Int32 × Int32 × Int32 × mS) ⊕ (mS))) :=
  bif mj_c2 .gt s.2.2.2.1 s.1 then
    some (.inr (.inl (s.1, s.2.1, (s.2.2.1 + 1), s.2.2.2.2)))
  else
  bif mj_c2 .lt s.2.2.2.1 s.1 then
    J262_27 N s.1 s.2.1 s.2.2.1 s.2.2.2.1 s.2.2.2.2
  else
  bif mj_c2 .ne s.2.2.1 s.2.1 then
    J262_58 N s.1 s.2.1 s.2.2.1 s.2.2.2.1 s.2.2.2.2
  else
  J262_27 N s.1 s.2.1 s.2.2.1 s.2.2.2.1 s.2.2.2.2
def L262_10 (N : Nat) (s : Int32 × Int32 × Int32 × Int32 × mS) : Option ((Int32 × Int32 × Int32 × mS) ⊕ (mS)) := t_lp (B262_10 N) N s
theorem B262_10_ok {xt : mj_X} {ct : Nat → Value} {a : Nat} {ra : Nat → Nat} {d N : Nat} {s : Int32 × Int32 × Int32 × Int32 × mS} {o : (Int32 × Int32 × Int32 × Int32 × mS) ⊕ ((Int32 × Int32 × Int32 × mS) ⊕ (mS))} {q : mS} (e : B262_10 N s = some o) (g : GG262_10 xt ct a ra d q o) : LG262_10 xt ct a ra d q s.1 s.2.1 s.2.2.1 s.2.2.2.1 s.2.2.2.2 := by
  unfold B262_10 at e
  exact (fun l h0 h1 h2 h3 h4 =>
  M_of (fun _ _ H => r_iload c262_10 h4 <| r_iloadn c262_12 h1 <| H) <|
  t_if e (fun b3 e4 =>
    M_of (fun _ _ H => r_icmpT c262_13 b3 <| H) <|
    M_of (fun _ _ H => r_iinc c262_64 h3 <| r_goto c262_67 <| H) <|
    t_rg e4 g (fun (e : LG262_2 xt ct a ra d q s.1 s.2.1 (s.2.2.1 + 1) s.2.2.2.2) => e _ (ld1_ne h0 (by decide) (Or.inl (by decide))) (ld1_ne h1 (by decide) (Or.inl (by decide))) (ld1_ne h2 (by decide) (Or.inr rfl)) ld1_eq)
  ) (fun b3 e4 =>
    M_of (fun _ _ H => r_icmpF c262_13 b3 <| H) <|
    M_of (fun _ _ H => r_iload c262_16 h4 <| r_iloadn c262_18 h1 <| H) <|
    t_if e4 (fun b5 e6 =>
      M_of (fun _ _ H => r_icmpT c262_19 b5 <| H) <|
      J262_27_ok h0 h1 h2 h3 h4 e6 g
    ) (fun b5 e6 =>
      M_of (fun _ _ H => r_icmpF c262_19 b5 <| H) <|
      M_of (fun _ _ H => r_iloadn c262_22 h3 <| r_iloadn c262_23 h2 <| H) <|
      t_if e6 (fun b14 e15 =>
        M_of (fun _ _ H => r_icmpT c262_24 b14 <| H) <|
        J262_58_ok h0 h1 h2 h3 h4 e15 g
      ) (fun b14 e15 =>
        M_of (fun _ _ H => r_icmpF c262_24 b14 <| H) <|
        J262_27_ok h0 h1 h2 h3 h4 e15 g
      )
    )
  ))
theorem L262_10_ok {xt : mj_X} {ct : Nat → Value} {a : Nat} {ra : Nat → Nat} {d N : Nat} {x1 : Int32} {x2 : Int32} {x3 : Int32} {x4 : Int32} {S : mS} {o : (Int32 × Int32 × Int32 × mS) ⊕ (mS)} {q : mS} (e : L262_10 N (x1, x2, x3, x4, S) = some o) (g : GG262_2 xt ct a ra d q o) : LG262_10 xt ct a ra d q x1 x2 x3 x4 S :=
  t_lp_ok (G := fun s => LG262_10 xt ct a ra d q s.1 s.2.1 s.2.2.1 s.2.2.2.1 s.2.2.2.2) (fun s s' e g => B262_10_ok e (by obtain ⟨_, _, _, _, _⟩ := s'; exact g)) (fun s e => B262_10_ok e g) N (x1, x2, x3, x4, S) e
def B262_2 (N : Nat) (s : Int32 × Int32 × Int32 × mS) : Option ((Int32 × Int32 × Int32 × mS) ⊕ (mS)) :=
  bif mj_c2 .gt s.2.2.1 s.2.1 then
    some (.inr s.2.2.2)
  else
  L262_10 N (s.1, s.2.1, s.2.2.1, 1, s.2.2.2)
def L262_2 (N : Nat) (s : Int32 × Int32 × Int32 × mS) : Option (mS) := t_lp (B262_2 N) N s
theorem B262_2_ok {xt : mj_X} {ct : Nat → Value} {a : Nat} {ra : Nat → Nat} {d N : Nat} {s : Int32 × Int32 × Int32 × mS} {o : (Int32 × Int32 × Int32 × mS) ⊕ (mS)} {q : mS} (e : B262_2 N s = some o) (g : GG262_2 xt ct a ra d q o) : LG262_2 xt ct a ra d q s.1 s.2.1 s.2.2.1 s.2.2.2 := by
  unfold B262_2 at e
  exact (fun l h0 h1 h2 h3 =>
  M_of (fun _ _ H => r_iloadn c262_2 h3 <| r_iloadn c262_3 h2 <| H) <|
  t_if e (fun b1 e2 =>
    M_of (fun _ _ H => r_icmpT c262_4 b1 <| H) <|
    t_rg e2 g (fun (e : s.2.2.2 = q) => M_rv (e) (fun _ => r_ret c262_70))
  ) (fun b1 e2 =>
    M_of (fun _ _ H => r_icmpF c262_4 b1 <| H) <|
    M_of (fun _ _ H => r_iconst c262_7 <| r_istore c262_8 <| H) <|
    L262_10_ok e2 g _ (ld1_ne h0 (by decide) (Or.inl (by decide))) (ld1_ne h1 (by decide) (Or.inl (by decide))) (ld1_ne h2 (by decide) (Or.inl (by decide))) (ld1_ne h3 (by decide) (Or.inr rfl)) ld1_eq
  ))
theorem L262_2_ok {xt : mj_X} {ct : Nat → Value} {a : Nat} {ra : Nat → Nat} {d N : Nat} {x1 : Int32} {x2 : Int32} {x3 : Int32} {S : mS} {q : mS} (e : L262_2 N (x1, x2, x3, S) = some q) : LG262_2 xt ct a ra d q x1 x2 x3 S :=
  t_lp_ok (G := fun s => LG262_2 xt ct a ra d q s.1 s.2.1 s.2.2.1 s.2.2.2) (fun s s' e g => B262_2_ok e (by obtain ⟨_, _, _, _⟩ := s'; exact g)) (fun s e => B262_2_ok e rfl) N (x1, x2, x3, S) e
/-- rollAgain(II)V -/
def M262 (N : Nat) (x1 : Int32) (x2 : Int32) (S : mS) : Option (mS) :=
  L262_2 N (x1, x2, 0, S)
theorem M262_ok {xt : mj_X} {ct : Nat → Value} {a : Nat} {ra : Nat → Nat} {d N : Nat} {x1 : Int32} {x2 : Int32} {S : mS} {q : mS} (e : M262 N x1 x2 S = some q) : MR xt ct a ra (d + 3) 262 0 (lv_args 0 [.ref a, .int x1, .int x2]) [] S (.inl none) q := by
  unfold M262 at e
  exact (
  M_of (fun _ _ H => r_iconst c262_0 <| r_istoren c262_1 <| H) <|
  L262_2_ok e _ (ld1_ne rfl (by decide) (Or.inl (by decide))) (ld1_ne rfl (by decide) (Or.inl (by decide))) (ld1_ne rfl (by decide) (Or.inr rfl)) ld1_eq)
def LG263_9 (xt : mj_X) (ct : Nat → Value) (a : Nat) (ra : Nat → Nat) (d : Nat) (q : mS) (x1 : Int32) (x2 : Int32) (x3 : Int32) (S : mS) : Prop := ∀ l, mj_ld l 0 = some (.ref a) → mj_ld l 1 = some (.int x1) → mj_ld l 2 = some (.int x2) → mj_ld l 3 = some (.int x3) → MR xt ct a ra (d + 1) 263 9 l [] S (.inl none) q
def GG263_9 (xt : mj_X) (ct : Nat → Value) (a : Nat) (ra : Nat → Nat) (d : Nat) (q : mS) (o : (Int32 × Int32 × Int32 × mS) ⊕ (mS)) : Prop := match o with
  | .inl (x1, x2, x3, S) => LG263_9 xt ct a ra d q x1 x2 x3 S
  | .inr r => r = q
def LG263_18 (xt : mj_X) (ct : Nat → Value) (a : Nat) (ra : Nat → Nat) (d : Nat) (q : mS) (x1 : Int32) (x2 : Int32) (x3 : Int32) (x4 : Int32) (S : mS) : Prop := ∀ l, mj_ld l 0 = some (.ref a) → mj_ld l 1 = some (.int x1) → mj_ld l 2 = some (.int x2) → mj_ld l 3 = some (.int x3) → mj_ld l 4 = some (.int x4) → MR xt ct a ra (d + 1) 263 18 l [] S (.inl none) q
def GG263_18 (xt : mj_X) (ct : Nat → Value) (a : Nat) (ra : Nat → Nat) (d : Nat) (q : mS) (o : (Int32 × Int32 × Int32 × Int32 × mS) ⊕ ((Int32 × Int32 × Int32 × mS) ⊕ (mS))) : Prop := match o with
  | .inl (x1, x2, x3, x4, S) => LG263_18 xt ct a ra d q x1 x2 x3 x4 S
  | .inr r => GG263_9 xt ct a ra d q r
def LG263_29 (xt : mj_X) (ct : Nat → Value) (a : Nat) (ra : Nat → Nat) (d : Nat) (q : mS) (x1 : Int32) (x2 : Int32) (x3 : Int32) (x4 : Int32) (x5 : Int64) (x7 : Int32) (S : mS) : Prop := ∀ l, mj_ld l 0 = some (.ref a) → mj_ld l 1 = some (.int x1) → mj_ld l 2 = some (.int x2) → mj_ld l 3 = some (.int x3) → mj_ld l 4 = some (.int x4) → mj_ld l 5 = some (.long x5) → mj_ld l 7 = some (.int x7) → MR xt ct a ra (d + 1) 263 29 l [] S (.inl none) q
def GG263_29 (xt : mj_X) (ct : Nat → Value) (a : Nat) (ra : Nat → Nat) (d : Nat) (q : mS) (o : (Int32 × Int32 × Int32 × Int32 × Int64 × Int32 × mS) ⊕ ((Int32 × Int32 × Int32 × Int32 × mS) ⊕ ((Int32 × Int32 × Int32 × mS) ⊕ (mS)))) : Prop := match o with
  | .inl (x1, x2, x3, x4, x5, x7, S) => LG263_29 xt ct a ra d q x1 x2 x3 x4 x5 x7 S
  | .inr r => GG263_18 xt ct a ra d q r
def J263_63 (N : Nat) (x1 : Int32) (x2 : Int32) (x3 : Int32) (x4 : Int32) (x5 : Int64)  (S : mS) : Option ((Int32 × Int32 × Int32 × Int32 × mS) ⊕ ((Int32 × Int32 × Int32 × mS) ⊕ (mS))) :=
  if 0 ≤ (x4).toInt ∧ (x4).toInt < mN 38 then
  some (.inl (x1, x2, x3, (x4 + (-1)), (m_sB S 38 (x4).toInt.toNat x5)))
  else none
theorem J263_63_ok {xt : mj_X} {ct : Nat → Value} {a : Nat} {ra : Nat → Nat} {d N : Nat} {l : mj_L} {x1 : Int32} {x2 : Int32} {x3 : Int32} {x4 : Int32} {x5 : Int64}  {S : mS} {o : (Int32 × Int32 × Int32 × Int32 × mS) ⊕ ((Int32 × Int32 × Int32 × mS) ⊕ (mS))} {q : mS} (h0 : mj_ld l 0 = some (.ref a)) (h1 : mj_ld l 1 = some (.int x1)) (h2 : mj_ld l 2 = some (.int x2)) (h3 : mj_ld l 3 = some (.int x3)) (h4 : mj_ld l 4 = some (.int x4)) (h5 : mj_ld l 5 = some (.long x5)) (e : J263_63 N x1 x2 x3 x4 x5  S = some o) (g : GG263_18 xt ct a ra d q o) : MR xt ct a ra (d + 1) 263 63 l [] S (.inl none) q := by
  unfold J263_63 at e
  exact (
  M_of (fun _ _ H => r_aloadn c263_63 h0 <| H) <|
  M_geta (j := 38) c263_64 (by decide) <|
  M_of (fun _ _ H => r_iload c263_67 h4 <| r_lload c263_69 h5 <| H) <|
  t_ck e fun i7 e8 =>
  M_last (j := 38) c263_71 (by decide) i7 <|
  M_of (fun _ _ H => r_iinc c263_72 h4 <| r_goto c263_75 <| H) <|
  t_rg e8 g (fun (e : LG263_18 xt ct a ra d q x1 x2 x3 (x4 + (-1)) (m_sB S 38 (x4).toInt.toNat x5)) => e _ (ld1_ne h0 (by decide) (Or.inl (by decide))) (ld1_ne h1 (by decide) (Or.inl (by decide))) (ld1_ne h2 (by decide) (Or.inl (by decide))) (ld1_ne h3 (by decide) (Or.inr rfl)) ld1_eq))
def B263_29 (N : Nat) (s : Int32 × Int32 × Int32 × Int32 × Int64 × Int32 × mS) : Option ((Int32 × Int32 × Int32 × Int32 × Int64 × Int32 × mS) ⊕ ((Int32 × Int32 × Int32 × Int32 × mS) ⊕ ((Int32 × Int32 × Int32 × mS) ⊕ (mS)))) :=
  bif mj_c2 .gt s.2.2.2.2.2.1 s.2.1 then
    (J263_63 N s.1 s.2.1 s.2.2.1 s.2.2.2.1 s.2.2.2.2.1 s.2.2.2.2.2.2).map Sum.inr
  else
  bif mj_c2 .gt s.2.2.2.2.2.1 s.2.2.2.1 then
    (J263_63 N s.1 s.2.1 s.2.2.1 s.2.2.2.1 s.2.2.2.2.1 s.2.2.2.2.2.2).map Sum.inr
  else
  if 0 ≤ ((s.2.2.2.1 - s.2.2.2.2.2.1)).toInt ∧ ((s.2.2.2.1 - s.2.2.2.2.2.1)).toInt < mN 38 then
  some (.inl (s.1, s.2.1, s.2.2.1, s.2.2.2.1, (s.2.2.2.2.1 + (s.2.2.2.2.2.2.2.2 38 ((s.2.2.2.1 - s.2.2.2.2.2.1)).toInt.toNat)), (s.2.2.2.2.2.1 + 1), s.2.2.2.2.2.2))
  else none
def L263_29 (N : Nat) (s : Int32 × Int32 × Int32 × Int32 × Int64 × Int32 × mS) : Option ((Int32 × Int32 × Int32 × Int32 × mS) ⊕ ((Int32 × Int32 × Int32 × mS) ⊕ (mS))) := t_lp (B263_29 N) N s
theorem B263_29_ok {xt : mj_X} {ct : Nat → Value} {a : Nat} {ra : Nat → Nat} {d N : Nat} {s : Int32 × Int32 × Int32 × Int32 × Int64 × Int32 × mS} {o : (Int32 × Int32 × Int32 × Int32 × Int64 × Int32 × mS) ⊕ ((Int32 × Int32 × Int32 × Int32 × mS) ⊕ ((Int32 × Int32 × Int32 × mS) ⊕ (mS)))} {q : mS} (e : B263_29 N s = some o) (g : GG263_29 xt ct a ra d q o) : LG263_29 xt ct a ra d q s.1 s.2.1 s.2.2.1 s.2.2.2.1 s.2.2.2.2.1 s.2.2.2.2.2.1 s.2.2.2.2.2.2 := by
  unfold B263_29 at e
  exact (fun l h0 h1 h2 h3 h4 h5 h7 =>
  M_of (fun _ _ H => r_iload c263_29 h7 <| r_iloadn c263_31 h2 <| H) <|
  t_if e (fun b5 e6 =>
    M_of (fun _ _ H => r_icmpT c263_32 b5 <| H) <|
    t_up e6 fun o9 e10 u11 =>
    (fun (g12 : GG263_18 xt ct a ra d q o9) =>
    J263_63_ok h0 h1 h2 h3 h4 h5 e10 g12
    ) (by have := g; rw [u11] at this; exact this)
  ) (fun b5 e6 =>
    M_of (fun _ _ H => r_icmpF c263_32 b5 <| H) <|
    M_of (fun _ _ H => r_iload c263_35 h7 <| r_iload c263_37 h4 <| H) <|
    t_if e6 (fun b13 e14 =>
      M_of (fun _ _ H => r_icmpT c263_39 b13 <| H) <|
      t_up e14 fun o15 e16 u17 =>
      (fun (g18 : GG263_18 xt ct a ra d q o15) =>
      J263_63_ok h0 h1 h2 h3 h4 h5 e16 g18
      ) (by have := g; rw [u17] at this; exact this)
    ) (fun b13 e14 =>
      M_of (fun _ _ H => r_icmpF c263_39 b13 <| H) <|
      M_of (fun _ _ H => r_lload c263_42 h5 <| r_aloadn c263_44 h0 <| H) <|
      M_geta (j := 38) c263_45 (by decide) <|
      M_of (fun _ _ H => r_iload c263_48 h4 <| r_iload c263_50 h7 <| r_isub c263_52 rfl <| H) <|
      t_ck e14 fun i19 e20 =>
      M_lald (j := 38) (v := (s.2.2.2.2.2.2.2.2 38 ((s.2.2.2.1 - s.2.2.2.2.2.1)).toInt.toNat)) c263_53 (by decide) i19 rfl <|
      M_of (fun _ _ H => r_ladd c263_54 rfl <| r_lstore c263_55 <| r_iinc c263_57 (ld2_ne h7 (by decide) (Or.inl (by decide))) <| r_goto c263_60 <| H) <|
      t_rg e20 g (fun (e : LG263_29 xt ct a ra d q s.1 s.2.1 s.2.2.1 s.2.2.2.1 (s.2.2.2.2.1 + (s.2.2.2.2.2.2.2.2 38 ((s.2.2.2.1 - s.2.2.2.2.2.1)).toInt.toNat)) (s.2.2.2.2.2.1 + 1) s.2.2.2.2.2.2) => e _ (ld1_ne (ld2_ne h0 (by decide) (Or.inl (by decide))) (by decide) (Or.inl (by decide))) (ld1_ne (ld2_ne h1 (by decide) (Or.inl (by decide))) (by decide) (Or.inl (by decide))) (ld1_ne (ld2_ne h2 (by decide) (Or.inl (by decide))) (by decide) (Or.inl (by decide))) (ld1_ne (ld2_ne h3 (by decide) (Or.inl (by decide))) (by decide) (Or.inl (by decide))) (ld1_ne (ld2_ne h4 (by decide) (Or.inr rfl)) (by decide) (Or.inl (by decide))) (ld1_ne ld2_eq (by decide) (Or.inl (by decide))) ld1_eq)
    )
  ))
theorem L263_29_ok {xt : mj_X} {ct : Nat → Value} {a : Nat} {ra : Nat → Nat} {d N : Nat} {x1 : Int32} {x2 : Int32} {x3 : Int32} {x4 : Int32} {x5 : Int64} {x7 : Int32} {S : mS} {o : (Int32 × Int32 × Int32 × Int32 × mS) ⊕ ((Int32 × Int32 × Int32 × mS) ⊕ (mS))} {q : mS} (e : L263_29 N (x1, x2, x3, x4, x5, x7, S) = some o) (g : GG263_18 xt ct a ra d q o) : LG263_29 xt ct a ra d q x1 x2 x3 x4 x5 x7 S :=
  t_lp_ok (G := fun s => LG263_29 xt ct a ra d q s.1 s.2.1 s.2.2.1 s.2.2.2.1 s.2.2.2.2.1 s.2.2.2.2.2.1 s.2.2.2.2.2.2) (fun s s' e g => B263_29_ok e (by obtain ⟨_, _, _, _, _, _, _⟩ := s'; exact g)) (fun s e => B263_29_ok e g) N (x1, x2, x3, x4, x5, x7, S) e
def B263_18 (N : Nat) (s : Int32 × Int32 × Int32 × Int32 × mS) : Option ((Int32 × Int32 × Int32 × Int32 × mS) ⊕ ((Int32 × Int32 × Int32 × mS) ⊕ (mS))) :=
  bif mj_c1 .lt s.2.2.2.1 then
    some (.inr (.inl (s.1, s.2.1, (s.2.2.1 + 1), s.2.2.2.2)))
  else
  L263_29 N (s.1, s.2.1, s.2.2.1, s.2.2.2.1, 0, 1, s.2.2.2.2)
def L263_18 (N : Nat) (s : Int32 × Int32 × Int32 × Int32 × mS) : Option ((Int32 × Int32 × Int32 × mS) ⊕ (mS)) := t_lp (B263_18 N) N s
theorem B263_18_ok {xt : mj_X} {ct : Nat → Value} {a : Nat} {ra : Nat → Nat} {d N : Nat} {s : Int32 × Int32 × Int32 × Int32 × mS} {o : (Int32 × Int32 × Int32 × Int32 × mS) ⊕ ((Int32 × Int32 × Int32 × mS) ⊕ (mS))} {q : mS} (e : B263_18 N s = some o) (g : GG263_18 xt ct a ra d q o) : LG263_18 xt ct a ra d q s.1 s.2.1 s.2.2.1 s.2.2.2.1 s.2.2.2.2 := by
  unfold B263_18 at e
  exact (fun l h0 h1 h2 h3 h4 =>
  M_of (fun _ _ H => r_iload c263_18 h4 <| H) <|
  t_if e (fun b3 e4 =>
    M_of (fun _ _ H => r_ifT c263_20 b3 <| H) <|
    M_of (fun _ _ H => r_iinc c263_78 h3 <| r_goto c263_81 <| H) <|
    t_rg e4 g (fun (e : LG263_9 xt ct a ra d q s.1 s.2.1 (s.2.2.1 + 1) s.2.2.2.2) => e _ (ld1_ne h0 (by decide) (Or.inl (by decide))) (ld1_ne h1 (by decide) (Or.inl (by decide))) (ld1_ne h2 (by decide) (Or.inr rfl)) ld1_eq)
  ) (fun b3 e4 =>
    M_of (fun _ _ H => r_ifF c263_20 b3 <| H) <|
    M_of (fun _ _ H => r_lconst c263_23 <| r_lstore c263_24 <| r_iconst c263_26 <| r_istore c263_27 <| H) <|
    L263_29_ok e4 g _ (ld1_ne (ld2_ne h0 (by decide) (Or.inl (by decide))) (by decide) (Or.inl (by decide))) (ld1_ne (ld2_ne h1 (by decide) (Or.inl (by decide))) (by decide) (Or.inl (by decide))) (ld1_ne (ld2_ne h2 (by decide) (Or.inl (by decide))) (by decide) (Or.inl (by decide))) (ld1_ne (ld2_ne h3 (by decide) (Or.inl (by decide))) (by decide) (Or.inl (by decide))) (ld1_ne (ld2_ne h4 (by decide) (Or.inr rfl)) (by decide) (Or.inl (by decide))) (ld1_ne ld2_eq (by decide) (Or.inl (by decide))) ld1_eq
  ))
theorem L263_18_ok {xt : mj_X} {ct : Nat → Value} {a : Nat} {ra : Nat → Nat} {d N : Nat} {x1 : Int32} {x2 : Int32} {x3 : Int32} {x4 : Int32} {S : mS} {o : (Int32 × Int32 × Int32 × mS) ⊕ (mS)} {q : mS} (e : L263_18 N (x1, x2, x3, x4, S) = some o) (g : GG263_9 xt ct a ra d q o) : LG263_18 xt ct a ra d q x1 x2 x3 x4 S :=
  t_lp_ok (G := fun s => LG263_18 xt ct a ra d q s.1 s.2.1 s.2.2.1 s.2.2.2.1 s.2.2.2.2) (fun s s' e g => B263_18_ok e (by obtain ⟨_, _, _, _, _⟩ := s'; exact g)) (fun s e => B263_18_ok e g) N (x1, x2, x3, x4, S) e
def B263_9 (N : Nat) (s : Int32 × Int32 × Int32 × mS) : Option ((Int32 × Int32 × Int32 × mS) ⊕ (mS)) :=
  bif mj_c2 .ge s.2.2.1 s.1 then
    some (.inr s.2.2.2)
  else
  L263_18 N (s.1, s.2.1, s.2.2.1, 120, s.2.2.2)
def L263_9 (N : Nat) (s : Int32 × Int32 × Int32 × mS) : Option (mS) := t_lp (B263_9 N) N s
theorem B263_9_ok {xt : mj_X} {ct : Nat → Value} {a : Nat} {ra : Nat → Nat} {d N : Nat} {s : Int32 × Int32 × Int32 × mS} {o : (Int32 × Int32 × Int32 × mS) ⊕ (mS)} {q : mS} (e : B263_9 N s = some o) (g : GG263_9 xt ct a ra d q o) : LG263_9 xt ct a ra d q s.1 s.2.1 s.2.2.1 s.2.2.2 := by
  unfold B263_9 at e
  exact (fun l h0 h1 h2 h3 =>
  M_of (fun _ _ H => r_iloadn c263_9 h3 <| r_iloadn c263_10 h1 <| H) <|
  t_if e (fun b1 e2 =>
    M_of (fun _ _ H => r_icmpT c263_11 b1 <| H) <|
    t_rg e2 g (fun (e : s.2.2.2 = q) => M_rv (e) (fun _ => r_ret c263_84))
  ) (fun b1 e2 =>
    M_of (fun _ _ H => r_icmpF c263_11 b1 <| H) <|
    M_of (fun _ _ H => r_bipush c263_14 <| r_istore c263_16 <| H) <|
    L263_18_ok e2 g _ (ld1_ne h0 (by decide) (Or.inl (by decide))) (ld1_ne h1 (by decide) (Or.inl (by decide))) (ld1_ne h2 (by decide) (Or.inl (by decide))) (ld1_ne h3 (by decide) (Or.inr rfl)) ld1_eq
  ))
theorem L263_9_ok {xt : mj_X} {ct : Nat → Value} {a : Nat} {ra : Nat → Nat} {d N : Nat} {x1 : Int32} {x2 : Int32} {x3 : Int32} {S : mS} {q : mS} (e : L263_9 N (x1, x2, x3, S) = some q) : LG263_9 xt ct a ra d q x1 x2 x3 S :=
  t_lp_ok (G := fun s => LG263_9 xt ct a ra d q s.1 s.2.1 s.2.2.1 s.2.2.2) (fun s s' e g => B263_9_ok e (by obtain ⟨_, _, _, _⟩ := s'; exact g)) (fun s e => B263_9_ok e rfl) N (x1, x2, x3, S) e
/-- addDice(II)V -/
def M263 (N : Nat) (x1 : Int32) (x2 : Int32) (S : mS) : Option (mS) :=
  L263_9 N (x1, x2, 0, (m_sB S 38 0 1))
theorem M263_ok {xt : mj_X} {ct : Nat → Value} {a : Nat} {ra : Nat → Nat} {d N : Nat} {x1 : Int32} {x2 : Int32} {S : mS} {q : mS} (e : M263 N x1 x2 S = some q) : MR xt ct a ra (d + 1) 263 0 (lv_args 0 [.ref a, .int x1, .int x2]) [] S (.inl none) q := by
  unfold M263 at e
  exact (
  M_of (fun _ _ H => r_aloadn c263_0 rfl <| H) <|
  M_geta (j := 38) c263_1 (by decide) <|
  M_of (fun _ _ H => r_iconst c263_4 <| r_lconst c263_5 <| H) <|
  M_last (j := 38) c263_6 (by decide) (by decide) <|
  M_of (fun _ _ H => r_iconst c263_7 <| r_istoren c263_8 <| H) <|
  L263_9_ok e _ (ld1_ne rfl (by decide) (Or.inl (by decide))) (ld1_ne rfl (by decide) (Or.inl (by decide))) (ld1_ne rfl (by decide) (Or.inr rfl)) ld1_eq)
def LG265_8 (xt : mj_X) (ct : Nat → Value) (a : Nat) (ra : Nat → Nat) (d : Nat) (q : Int64 × mS) (x1 : Int32) (x2 : Int64) (x4 : Int32) (x5 : Int32) (S : mS) : Prop := ∀ l, mj_ld l 0 = some (.ref a) → mj_ld l 1 = some (.int x1) → mj_ld l 2 = some (.long x2) → mj_ld l 4 = some (.int x4) → mj_ld l 5 = some (.int x5) → MR xt ct a ra (d + 1) 265 8 l [] S (.inl (some (.long q.1))) q.2
def GG265_8 (xt : mj_X) (ct : Nat → Value) (a : Nat) (ra : Nat → Nat) (d : Nat) (q : Int64 × mS) (o : (Int32 × Int64 × Int32 × Int32 × mS) ⊕ (Int64 × mS)) : Prop := match o with
  | .inl (x1, x2, x4, x5, S) => LG265_8 xt ct a ra d q x1 x2 x4 x5 S
  | .inr r => r = q
def J265_46 (N : Nat) (x1 : Int32) (x2 : Int64) (x5 : Int32) (s0 : Int32) (S : mS) : Option ((Int32 × Int64 × Int32 × Int32 × mS) ⊕ (Int64 × mS)) :=
  if s0.toInt64 ≠ 0 then
  some (.inl (x1, ((x2 * (x5 + 1).toInt64) / s0.toInt64), s0, (x5 + 1), S))
  else none
theorem J265_46_ok {xt : mj_X} {ct : Nat → Value} {a : Nat} {ra : Nat → Nat} {d N : Nat} {l : mj_L} {x1 : Int32} {x2 : Int64} {x5 : Int32} {s0 : Int32} {S : mS} {o : (Int32 × Int64 × Int32 × Int32 × mS) ⊕ (Int64 × mS)} {q : Int64 × mS} (h0 : mj_ld l 0 = some (.ref a)) (h1 : mj_ld l 1 = some (.int x1)) (h2 : mj_ld l 2 = some (.long x2)) (h5 : mj_ld l 5 = some (.int x5)) (e : J265_46 N x1 x2 x5 s0 S = some o) (g : GG265_8 xt ct a ra d q o) : MR xt ct a ra (d + 1) 265 46 l [.int s0] S (.inl (some (.long q.1))) q.2 := by
  unfold J265_46 at e
  exact (
  M_of (fun _ _ H => r_istore c265_46 <| r_lloadn c265_48 (ld1_ne h2 (by decide) (Or.inl (by decide))) <| r_iload c265_49 (ld1_ne h5 (by decide) (Or.inl (by decide))) <| r_iconst c265_51 <| r_iadd c265_52 rfl <| r_i2l c265_53 rfl <| r_lmul c265_54 rfl <| r_iload c265_55 ld1_eq <| r_i2l c265_57 rfl <| H) <|
  t_ck e fun y5 e6 =>
  M_of (fun _ _ H => r_ldiv c265_58 y5 rfl <| H) <|
  M_of (fun _ _ H => r_lstoren c265_59 <| r_iinc c265_60 (ld2_ne (ld1_ne h5 (by decide) (Or.inl (by decide))) (by decide) (Or.inl (by decide))) <| r_goto c265_63 <| H) <|
  t_rg e6 g (fun (e : LG265_8 xt ct a ra d q x1 ((x2 * (x5 + 1).toInt64) / s0.toInt64) s0 (x5 + 1) S) => e _ (ld1_ne (ld2_ne (ld1_ne h0 (by decide) (Or.inl (by decide))) (by decide) (Or.inl (by decide))) (by decide) (Or.inl (by decide))) (ld1_ne (ld2_ne (ld1_ne h1 (by decide) (Or.inl (by decide))) (by decide) (Or.inr rfl)) (by decide) (Or.inl (by decide))) (ld1_ne ld2_eq (by decide) (Or.inl (by decide))) (ld1_ne (ld2_ne ld1_eq (by decide) (Or.inl (by decide))) (by decide) (Or.inr rfl)) ld1_eq))
def J265_45 (N : Nat) (x1 : Int32) (x2 : Int64) (x5 : Int32)  (S : mS) : Option ((Int32 × Int64 × Int32 × Int32 × mS) ⊕ (Int64 × mS)) :=
  J265_46 N x1 x2 x5 1 S
theorem J265_45_ok {xt : mj_X} {ct : Nat → Value} {a : Nat} {ra : Nat → Nat} {d N : Nat} {l : mj_L} {x1 : Int32} {x2 : Int64} {x5 : Int32}  {S : mS} {o : (Int32 × Int64 × Int32 × Int32 × mS) ⊕ (Int64 × mS)} {q : Int64 × mS} (h0 : mj_ld l 0 = some (.ref a)) (h1 : mj_ld l 1 = some (.int x1)) (h2 : mj_ld l 2 = some (.long x2)) (h5 : mj_ld l 5 = some (.int x5)) (e : J265_45 N x1 x2 x5  S = some o) (g : GG265_8 xt ct a ra d q o) : MR xt ct a ra (d + 1) 265 45 l [] S (.inl (some (.long q.1))) q.2 := by
  unfold J265_45 at e
  exact (
  M_of (fun _ _ H => r_iconst c265_45 <| H) <|
  J265_46_ok h0 h1 h2 h5 e g)
def B265_8 (N : Nat) (s : Int32 × Int64 × Int32 × Int32 × mS) : Option ((Int32 × Int64 × Int32 × Int32 × mS) ⊕ (Int64 × mS)) :=
  bif mj_c2 .ge s.2.2.2.1 s.1 then
    some (.inr (s.2.1, s.2.2.2.2))
  else
  bif mj_c1 .le s.2.2.2.1 then
    J265_45 N s.1 s.2.1 s.2.2.2.1 s.2.2.2.2
  else
  if 0 ≤ (s.2.2.2.1).toInt ∧ (s.2.2.2.1).toInt < mN 37 then
  if 0 ≤ ((s.2.2.2.1 - 1)).toInt ∧ ((s.2.2.2.1 - 1)).toInt < mN 37 then
  bif mj_c2 .ne (s.2.2.2.2.2.1 37 (s.2.2.2.1).toInt.toNat) (s.2.2.2.2.2.1 37 ((s.2.2.2.1 - 1)).toInt.toNat) then
    J265_45 N s.1 s.2.1 s.2.2.2.1 s.2.2.2.2
  else
  J265_46 N s.1 s.2.1 s.2.2.2.1 (s.2.2.1 + 1) s.2.2.2.2
  else none
  else none
def L265_8 (N : Nat) (s : Int32 × Int64 × Int32 × Int32 × mS) : Option (Int64 × mS) := t_lp (B265_8 N) N s
theorem B265_8_ok {xt : mj_X} {ct : Nat → Value} {a : Nat} {ra : Nat → Nat} {d N : Nat} {s : Int32 × Int64 × Int32 × Int32 × mS} {o : (Int32 × Int64 × Int32 × Int32 × mS) ⊕ (Int64 × mS)} {q : Int64 × mS} (e : B265_8 N s = some o) (g : GG265_8 xt ct a ra d q o) : LG265_8 xt ct a ra d q s.1 s.2.1 s.2.2.1 s.2.2.2.1 s.2.2.2.2 := by
  unfold B265_8 at e
  exact (fun l h0 h1 h2 h4 h5 =>
  M_of (fun _ _ H => r_iload c265_8 h5 <| r_iloadn c265_10 h1 <| H) <|
  t_if e (fun b1 e2 =>
    M_of (fun _ _ H => r_icmpT c265_11 b1 <| H) <|
    M_of (fun _ _ H => r_lloadn c265_66 h2 <| H) <|
    t_rg e2 g (fun (e : (s.2.1, s.2.2.2.2) = q) => M_rl (e) (fun _ => r_lret c265_67))
  ) (fun b1 e2 =>
    M_of (fun _ _ H => r_icmpF c265_11 b1 <| H) <|
    M_of (fun _ _ H => r_iload c265_14 h5 <| H) <|
    t_if e2 (fun b3 e4 =>
      M_of (fun _ _ H => r_ifT c265_16 b3 <| H) <|
      J265_45_ok h0 h1 h2 h5 e4 g
    ) (fun b3 e4 =>
      M_of (fun _ _ H => r_ifF c265_16 b3 <| H) <|
      M_of (fun _ _ H => r_aloadn c265_19 h0 <| H) <|
      M_geta (j := 37) c265_20 (by decide) <|
      M_of (fun _ _ H => r_iload c265_23 h5 <| H) <|
      t_ck e4 fun i7 e8 =>
      M_iald (j := 37) (v := (s.2.2.2.2.2.1 37 (s.2.2.2.1).toInt.toNat)) c265_25 (by decide) i7 rfl <|
      M_of (fun _ _ H => r_aloadn c265_26 h0 <| H) <|
      M_geta (j := 37) c265_27 (by decide) <|
      M_of (fun _ _ H => r_iload c265_30 h5 <| r_iconst c265_32 <| r_isub c265_33 rfl <| H) <|
      t_ck e8 fun i9 e10 =>
      M_iald (j := 37) (v := (s.2.2.2.2.2.1 37 ((s.2.2.2.1 - 1)).toInt.toNat)) c265_34 (by decide) i9 rfl <|
      t_if e10 (fun b11 e12 =>
        M_of (fun _ _ H => r_icmpT c265_35 b11 <| H) <|
        J265_45_ok h0 h1 h2 h5 e12 g
      ) (fun b11 e12 =>
        M_of (fun _ _ H => r_icmpF c265_35 b11 <| H) <|
        M_of (fun _ _ H => r_iload c265_38 h4 <| r_iconst c265_40 <| r_iadd c265_41 rfl <| r_goto c265_42 <| H) <|
        J265_46_ok h0 h1 h2 h5 e12 g
      )
    )
  ))
theorem L265_8_ok {xt : mj_X} {ct : Nat → Value} {a : Nat} {ra : Nat → Nat} {d N : Nat} {x1 : Int32} {x2 : Int64} {x4 : Int32} {x5 : Int32} {S : mS} {q : Int64 × mS} (e : L265_8 N (x1, x2, x4, x5, S) = some q) : LG265_8 xt ct a ra d q x1 x2 x4 x5 S :=
  t_lp_ok (G := fun s => LG265_8 xt ct a ra d q s.1 s.2.1 s.2.2.1 s.2.2.2.1 s.2.2.2.2) (fun s s' e g => B265_8_ok e (by obtain ⟨_, _, _, _, _⟩ := s'; exact g)) (fun s e => B265_8_ok e rfl) N (x1, x2, x4, x5, S) e
/-- orders(I)J -/
def M265 (N : Nat) (x1 : Int32) (S : mS) : Option (Int64 × mS) :=
  L265_8 N (x1, 1, 0, 0, S)
theorem M265_ok {xt : mj_X} {ct : Nat → Value} {a : Nat} {ra : Nat → Nat} {d N : Nat} {x1 : Int32} {S : mS} {q : Int64 × mS} (e : M265 N x1 S = some q) : MR xt ct a ra (d + 1) 265 0 (lv_args 0 [.ref a, .int x1]) [] S (.inl (some (.long q.1))) q.2 := by
  unfold M265 at e
  exact (
  M_of (fun _ _ H => r_lconst c265_0 <| r_lstoren c265_1 <| r_iconst c265_2 <| r_istore c265_3 <| r_iconst c265_5 <| r_istore c265_6 <| H) <|
  L265_8_ok e _ (ld1_ne (ld1_ne (ld2_ne rfl (by decide) (Or.inl (by decide))) (by decide) (Or.inl (by decide))) (by decide) (Or.inl (by decide))) (ld1_ne (ld1_ne (ld2_ne rfl (by decide) (Or.inr rfl)) (by decide) (Or.inl (by decide))) (by decide) (Or.inl (by decide))) (ld1_ne (ld1_ne ld2_eq (by decide) (Or.inl (by decide))) (by decide) (Or.inl (by decide))) (ld1_ne ld1_eq (by decide) (Or.inr rfl)) ld1_eq)
