def LG221_0 (xt : mj_X) (ct : Nat → Value) (a : Nat) (ra : Nat → Nat) (d : Nat) (q : Int32 × mS)  (S : mS) : Prop := ∀ l, mj_ld l 0 = some (.ref a) → MR xt ct a ra (d + 6) 221 0 l [] S (.inl (some (.int q.1))) q.2
def GG221_0 (xt : mj_X) (ct : Nat → Value) (a : Nat) (ra : Nat → Nat) (d : Nat) (q : Int32 × mS) (o : (mS) ⊕ (Int32 × mS)) : Prop := match o with
  | .inl S => LG221_0 xt ct a ra d q S
  | .inr r => r = q
def J221_84 (N : Nat)  (s0 : Int32) (S : mS) : Option ((mS) ⊕ (Int32 × mS)) :=
  if s0 = 0 ∨ s0 = 1 then
  some (.inl (m_sV (m_sV (m_sV S 31 s0) 30 ((S.1 30) + 1)) 22 ((S.1 22) + 1)))
  else none
theorem J221_84_ok {xt : mj_X} {ct : Nat → Value} {a : Nat} {ra : Nat → Nat} {d N : Nat} {l : mj_L}  {s0 : Int32} {S : mS} {o : (mS) ⊕ (Int32 × mS)} {q : Int32 × mS} (h0 : mj_ld l 0 = some (.ref a)) (e : J221_84 N  s0 S = some o) (g : GG221_0 xt ct a ra d q o) : MR xt ct a ra (d + 6) 221 84 l [.int s0, .ref a] S (.inl (some (.int q.1))) q.2 := by
  unfold J221_84 at e
  exact (
  t_ck e fun z20 e21 =>
  M_putz c221_84 (by decide) z20 <|
  M_of (fun _ _ H => r_aloadn c221_87 h0 <| r_dup c221_88 rfl <| H) <|
  M_get (v := (S.1 30)) c221_89 (by decide) rfl <|
  M_of (fun _ _ H => r_iconst c221_92 <| r_iadd c221_93 rfl <| H) <|
  M_put c221_94 (by decide) <|
  M_of (fun _ _ H => r_aloadn c221_97 h0 <| r_dup c221_98 rfl <| H) <|
  M_get (v := (S.1 22)) c221_99 (by decide) rfl <|
  M_of (fun _ _ H => r_iconst c221_102 <| r_iadd c221_103 rfl <| H) <|
  M_put c221_104 (by decide) <|
  M_of (fun _ _ H => r_goto c221_107 <| H) <|
  t_rg e21 g (fun (e : LG221_0 xt ct a ra d q (m_sV (m_sV (m_sV S 31 s0) 30 ((S.1 30) + 1)) 22 ((S.1 22) + 1))) => e _ h0))
def J221_83 (N : Nat)   (S : mS) : Option ((mS) ⊕ (Int32 × mS)) :=
  J221_84 N 0 S
theorem J221_83_ok {xt : mj_X} {ct : Nat → Value} {a : Nat} {ra : Nat → Nat} {d N : Nat} {l : mj_L}   {S : mS} {o : (mS) ⊕ (Int32 × mS)} {q : Int32 × mS} (h0 : mj_ld l 0 = some (.ref a)) (e : J221_83 N   S = some o) (g : GG221_0 xt ct a ra d q o) : MR xt ct a ra (d + 6) 221 83 l [.ref a] S (.inl (some (.int q.1))) q.2 := by
  unfold J221_83 at e
  exact (
  M_of (fun _ _ H => r_iconst c221_83 <| H) <|
  J221_84_ok h0 e g)
def J221_52 (N : Nat)  (s0 : Int32) (S : mS) : Option ((mS) ⊕ (Int32 × mS)) :=
  (M222 N s0 S).bind fun r13 =>
  if 0 ≤ (((r13.1 29) - 1)).toInt ∧ (((r13.1 29) - 1)).toInt < mN 27 then
  bif mj_c2 .eq (r13.2.1 27 (((r13.1 29) - 1)).toInt.toNat) 20 then
    J221_83 N r13
  else
  bif mj_c1 .eq (r13.1 31) then
    J221_83 N r13
  else
  J221_84 N 1 r13
  else none
theorem J221_52_ok {xt : mj_X} {ct : Nat → Value} {a : Nat} {ra : Nat → Nat} {d N : Nat} {l : mj_L}  {s0 : Int32} {S : mS} {o : (mS) ⊕ (Int32 × mS)} {q : Int32 × mS} (h0 : mj_ld l 0 = some (.ref a)) (e : J221_52 N  s0 S = some o) (g : GG221_0 xt ct a ra d q o) : MR xt ct a ra (d + 6) 221 52 l [.int s0, .ref a] S (.inl (some (.int q.1))) q.2 := by
  unfold J221_52 at e
  exact (
  t_bd e fun r13 c14 e15 =>
  M_cv (as := [.ref a, .int s0]) (st' := []) (v := none) c221_52 rfl ⟨Nat.le_of_ble_eq_true rfl, Nat.le_of_ble_eq_true rfl, Nat.le_of_ble_eq_true rfl⟩ rfl rfl (M222_ok (d := d) c14) (Nat.add_lt_add_left (by decide) d) <|
  M_of (fun _ _ H => r_aloadn c221_55 h0 <| r_aloadn c221_56 h0 <| H) <|
  M_geta (j := 27) c221_57 (by decide) <|
  M_of (fun _ _ H => r_aloadn c221_60 h0 <| H) <|
  M_get (v := (r13.1 29)) c221_61 (by decide) rfl <|
  M_of (fun _ _ H => r_iconst c221_64 <| r_isub c221_65 rfl <| H) <|
  t_ck e15 fun i16 e17 =>
  M_iald (j := 27) (v := (r13.2.1 27 (((r13.1 29) - 1)).toInt.toNat)) c221_66 (by decide) i16 rfl <|
  M_of (fun _ _ H => r_bipush c221_67 <| H) <|
  t_if e17 (fun b18 e19 =>
    M_of (fun _ _ H => r_icmpT c221_69 b18 <| H) <|
    J221_83_ok h0 e19 g
  ) (fun b18 e19 =>
    M_of (fun _ _ H => r_icmpF c221_69 b18 <| H) <|
    M_of (fun _ _ H => r_aloadn c221_72 h0 <| H) <|
    M_get (v := (r13.1 31)) c221_73 (by decide) rfl <|
    t_if e19 (fun b22 e23 =>
      M_of (fun _ _ H => r_ifT c221_76 b22 <| H) <|
      J221_83_ok h0 e23 g
    ) (fun b22 e23 =>
      M_of (fun _ _ H => r_ifF c221_76 b22 <| H) <|
      M_of (fun _ _ H => r_iconst c221_79 <| r_goto c221_80 <| H) <|
      J221_84_ok h0 e23 g
    )
  ))
def J221_18 (N : Nat)   (S : mS) : Option ((mS) ⊕ (Int32 × mS)) :=
  bif mj_c2 .ne (S.1 30) 5 then
    (M212 N S).bind fun r8 =>
    bif mj_c2 .ne r8.1 45 then
      J221_52 N 20 r8.2
    else
    J221_52 N 21 r8.2
  else
  (M213 N (S.1 22) S).bind fun r24 =>
  if r24.1 = 0 ∨ r24.1 = 1 then
  some (.inr (r24.1, r24.2))
  else none
theorem J221_18_ok {xt : mj_X} {ct : Nat → Value} {a : Nat} {ra : Nat → Nat} {d N : Nat} {l : mj_L}   {S : mS} {o : (mS) ⊕ (Int32 × mS)} {q : Int32 × mS} (h0 : mj_ld l 0 = some (.ref a)) (e : J221_18 N   S = some o) (g : GG221_0 xt ct a ra d q o) : MR xt ct a ra (d + 6) 221 18 l [] S (.inl (some (.int q.1))) q.2 := by
  unfold J221_18 at e
  exact (
  M_of (fun _ _ H => r_aloadn c221_18 h0 <| H) <|
  M_get (v := (S.1 30)) c221_19 (by decide) rfl <|
  M_of (fun _ _ H => r_iconst c221_22 <| H) <|
  t_if e (fun b6 e7 =>
    M_of (fun _ _ H => r_icmpT c221_23 b6 <| H) <|
    M_of (fun _ _ H => r_aloadn c221_35 h0 <| r_aloadn c221_36 h0 <| H) <|
    t_bd e7 fun r8 c9 e10 =>
    M_cv (as := [.ref a]) (st' := [.int r8.1, .ref a]) (v := (some (.int r8.1))) c221_37 rfl ⟨Nat.le_of_ble_eq_true rfl, Nat.le_of_ble_eq_true rfl, Nat.le_of_ble_eq_true rfl⟩ rfl rfl (M212_ok (d := d) c9) (Nat.add_lt_add_left (by decide) d) <|
    M_of (fun _ _ H => r_bipush c221_40 <| H) <|
    t_if e10 (fun b11 e12 =>
      M_of (fun _ _ H => r_icmpT c221_42 b11 <| H) <|
      M_of (fun _ _ H => r_bipush c221_50 <| H) <|
      J221_52_ok h0 e12 g
    ) (fun b11 e12 =>
      M_of (fun _ _ H => r_icmpF c221_42 b11 <| H) <|
      M_of (fun _ _ H => r_bipush c221_45 <| r_goto c221_47 <| H) <|
      J221_52_ok h0 e12 g
    )
  ) (fun b6 e7 =>
    M_of (fun _ _ H => r_icmpF c221_23 b6 <| H) <|
    M_of (fun _ _ H => r_aloadn c221_26 h0 <| r_aloadn c221_27 h0 <| H) <|
    M_get (v := (S.1 22)) c221_28 (by decide) rfl <|
    t_bd e7 fun r24 c25 e26 =>
    M_cv (as := [.ref a, .int (S.1 22)]) (st' := [.int r24.1]) (v := (some (.int r24.1))) c221_31 rfl ⟨Nat.le_of_ble_eq_true rfl, Nat.le_of_ble_eq_true rfl, Nat.le_of_ble_eq_true rfl⟩ rfl rfl (M213_ok (d := d) c25) (Nat.add_lt_add_left (by decide) d) <|
    t_ck e26 fun z27 e28 =>
    t_rg e28 g (fun (e : (r24.1, r24.2) = q) => M_ri (e) (fun _ => r_iret c221_34 (m_z1 z27)))
  ))
def B221_0 (N : Nat) (s : mS) : Option ((mS) ⊕ (Int32 × mS)) :=
  (M212 N s).bind fun r1 =>
  bif mj_c2 .eq r1.1 45 then
    J221_18 N r1.2
  else
  (M212 N r1.2).bind fun r29 =>
  bif mj_c2 .ne r29.1 40 then
    (M223 N r29.2).bind fun r34 =>
    bif mj_c1 .ne r34.1 then
      (M227 N r34.2).bind fun r39 =>
      some (.inr (1, r39))
    else
    some (.inr (0, r34.2))
  else
  J221_18 N r29.2
def L221_0 (N : Nat) (s : mS) : Option (Int32 × mS) := t_lp (B221_0 N) N s
theorem B221_0_ok {xt : mj_X} {ct : Nat → Value} {a : Nat} {ra : Nat → Nat} {d N : Nat} {s : mS} {o : (mS) ⊕ (Int32 × mS)} {q : Int32 × mS} (e : B221_0 N s = some o) (g : GG221_0 xt ct a ra d q o) : LG221_0 xt ct a ra d q s := by
  unfold B221_0 at e
  exact (fun l h0 =>
  M_of (fun _ _ H => r_aloadn c221_0 h0 <| H) <|
  t_bd e fun r1 c2 e3 =>
  M_cv (as := [.ref a]) (st' := [.int r1.1]) (v := (some (.int r1.1))) c221_1 rfl ⟨Nat.le_of_ble_eq_true rfl, Nat.le_of_ble_eq_true rfl, Nat.le_of_ble_eq_true rfl⟩ rfl rfl (M212_ok (d := d) c2) (Nat.add_lt_add_left (by decide) d) <|
  M_of (fun _ _ H => r_bipush c221_4 <| H) <|
  t_if e3 (fun b4 e5 =>
    M_of (fun _ _ H => r_icmpT c221_6 b4 <| H) <|
    J221_18_ok h0 e5 g
  ) (fun b4 e5 =>
    M_of (fun _ _ H => r_icmpF c221_6 b4 <| H) <|
    M_of (fun _ _ H => r_aloadn c221_9 h0 <| H) <|
    t_bd e5 fun r29 c30 e31 =>
    M_cv (as := [.ref a]) (st' := [.int r29.1]) (v := (some (.int r29.1))) c221_10 rfl ⟨Nat.le_of_ble_eq_true rfl, Nat.le_of_ble_eq_true rfl, Nat.le_of_ble_eq_true rfl⟩ rfl rfl (M212_ok (d := d) c30) (Nat.add_lt_add_left (by decide) d) <|
    M_of (fun _ _ H => r_bipush c221_13 <| H) <|
    t_if e31 (fun b32 e33 =>
      M_of (fun _ _ H => r_icmpT c221_15 b32 <| H) <|
      M_of (fun _ _ H => r_aloadn c221_110 h0 <| H) <|
      t_bd e33 fun r34 c35 e36 =>
      M_cv (as := [.ref a]) (st' := [.int r34.1]) (v := (some (.int r34.1))) c221_111 rfl ⟨Nat.le_of_ble_eq_true rfl, Nat.le_of_ble_eq_true rfl, Nat.le_of_ble_eq_true rfl⟩ rfl rfl (M223_ok (d := d) c35) (Nat.add_lt_add_left (by decide) d) <|
      t_if e36 (fun b37 e38 =>
        M_of (fun _ _ H => r_ifT c221_114 b37 <| H) <|
        M_of (fun _ _ H => r_aloadn c221_119 h0 <| H) <|
        t_bd e38 fun r39 c40 e41 =>
        M_cv (as := [.ref a]) (st' := []) (v := none) c221_120 rfl ⟨Nat.le_of_ble_eq_true rfl, Nat.le_of_ble_eq_true rfl, Nat.le_of_ble_eq_true rfl⟩ rfl rfl (M227_ok (d := d) c40) (Nat.add_lt_add_left (by decide) d) <|
        M_of (fun _ _ H => r_iconst c221_123 <| H) <|
        t_rg e41 g (fun (e : (1, r39) = q) => M_ri (e) (fun _ => r_iret c221_124 rfl))
      ) (fun b37 e38 =>
        M_of (fun _ _ H => r_ifF c221_114 b37 <| H) <|
        M_of (fun _ _ H => r_iconst c221_117 <| H) <|
        t_rg e38 g (fun (e : (0, r34.2) = q) => M_ri (e) (fun _ => r_iret c221_118 rfl))
      )
    ) (fun b32 e33 =>
      M_of (fun _ _ H => r_icmpF c221_15 b32 <| H) <|
      J221_18_ok h0 e33 g
    )
  ))
theorem L221_0_ok {xt : mj_X} {ct : Nat → Value} {a : Nat} {ra : Nat → Nat} {d N : Nat}  {S : mS} {q : Int32 × mS} (e : L221_0 N S = some q) : LG221_0 xt ct a ra d q S :=
  t_lp_ok (G := fun s => LG221_0 xt ct a ra d q s) (fun s s' e g => B221_0_ok e (by exact g)) (fun s e => B221_0_ok e rfl) N S e
/-- readAtom()Z -/
def M221 (N : Nat)  (S : mS) : Option (Int32 × mS) :=
  L221_0 N S
theorem M221_ok {xt : mj_X} {ct : Nat → Value} {a : Nat} {ra : Nat → Nat} {d N : Nat}  {S : mS} {q : Int32 × mS} (e : M221 N  S = some q) : MR xt ct a ra (d + 6) 221 0 (lv_args 0 [.ref a]) [] S (.inl (some (.int q.1))) q.2 := by
  unfold M221 at e
  exact (
  L221_0_ok e _ rfl)
def J230_83 (N : Nat)  (s0 : Int32) (S : mS) : Option (Int32 × mS) :=
  some (s0, S)
theorem J230_83_ok {xt : mj_X} {ct : Nat → Value} {a : Nat} {ra : Nat → Nat} {d N : Nat} {l : mj_L}  {s0 : Int32} {S : mS} {q : Int32 × mS}  (e : J230_83 N  s0 S = some q) : MR xt ct a ra (d + 1) 230 83 l [.int s0] S (.inl (some (.int q.1))) q.2 := by
  unfold J230_83 at e
  exact (
  M_ri (Option.some.inj e) (fun _ => r_iret c230_83 rfl))
/-- signOf(I)I -/
def M230 (N : Nat) (x0 : Int32) (S : mS) : Option (Int32 × mS) :=
  bif mj_c2 .ne x0 60 then
    bif mj_c2 .ne x0 62 then
      bif mj_c2 .ne x0 61 then
        bif mj_c2 .ne x0 43 then
          bif mj_c2 .ne x0 45 then
            bif mj_c2 .ne x0 42 then
              bif mj_c2 .ne x0 47 then
                bif mj_c2 .ne x0 37 then
                  J230_83 N (-1) S
                else
                J230_83 N 7 S
              else
              J230_83 N 6 S
            else
            J230_83 N 5 S
          else
          J230_83 N 4 S
        else
        J230_83 N 3 S
      else
      J230_83 N 2 S
    else
    J230_83 N 1 S
  else
  J230_83 N 0 S
theorem M230_ok {xt : mj_X} {ct : Nat → Value} {a : Nat} {ra : Nat → Nat} {d N : Nat} {x0 : Int32} {S : mS} {q : Int32 × mS} (e : M230 N x0 S = some q) : MR xt ct a ra (d + 1) 230 0 (lv_args 0 [.int x0]) [] S (.inl (some (.int q.1))) q.2 := by
  unfold M230 at e
  exact (
  M_of (fun _ _ H => r_iloadn c230_0 rfl <| r_bipush c230_1 <| H) <|
  t_if e (fun b1 e2 =>
    M_of (fun _ _ H => r_icmpT c230_3 b1 <| H) <|
    M_of (fun _ _ H => r_iloadn c230_10 rfl <| r_bipush c230_11 <| H) <|
    t_if e2 (fun b3 e4 =>
      M_of (fun _ _ H => r_icmpT c230_13 b3 <| H) <|
      M_of (fun _ _ H => r_iloadn c230_20 rfl <| r_bipush c230_21 <| H) <|
      t_if e4 (fun b5 e6 =>
        M_of (fun _ _ H => r_icmpT c230_23 b5 <| H) <|
        M_of (fun _ _ H => r_iloadn c230_30 rfl <| r_bipush c230_31 <| H) <|
        t_if e6 (fun b7 e8 =>
          M_of (fun _ _ H => r_icmpT c230_33 b7 <| H) <|
          M_of (fun _ _ H => r_iloadn c230_40 rfl <| r_bipush c230_41 <| H) <|
          t_if e8 (fun b9 e10 =>
            M_of (fun _ _ H => r_icmpT c230_43 b9 <| H) <|
            M_of (fun _ _ H => r_iloadn c230_50 rfl <| r_bipush c230_51 <| H) <|
            t_if e10 (fun b11 e12 =>
              M_of (fun _ _ H => r_icmpT c230_53 b11 <| H) <|
              M_of (fun _ _ H => r_iloadn c230_60 rfl <| r_bipush c230_61 <| H) <|
              t_if e12 (fun b13 e14 =>
                M_of (fun _ _ H => r_icmpT c230_63 b13 <| H) <|
                M_of (fun _ _ H => r_iloadn c230_71 rfl <| r_bipush c230_72 <| H) <|
                t_if e14 (fun b15 e16 =>
                  M_of (fun _ _ H => r_icmpT c230_74 b15 <| H) <|
                  M_of (fun _ _ H => r_iconst c230_82 <| H) <|
                  J230_83_ok  e16
                ) (fun b15 e16 =>
                  M_of (fun _ _ H => r_icmpF c230_74 b15 <| H) <|
                  M_of (fun _ _ H => r_bipush c230_77 <| r_goto c230_79 <| H) <|
                  J230_83_ok  e16
                )
              ) (fun b13 e14 =>
                M_of (fun _ _ H => r_icmpF c230_63 b13 <| H) <|
                M_of (fun _ _ H => r_bipush c230_66 <| r_goto c230_68 <| H) <|
                J230_83_ok  e14
              )
            ) (fun b11 e12 =>
              M_of (fun _ _ H => r_icmpF c230_53 b11 <| H) <|
              M_of (fun _ _ H => r_iconst c230_56 <| r_goto c230_57 <| H) <|
              J230_83_ok  e12
            )
          ) (fun b9 e10 =>
            M_of (fun _ _ H => r_icmpF c230_43 b9 <| H) <|
            M_of (fun _ _ H => r_iconst c230_46 <| r_goto c230_47 <| H) <|
            J230_83_ok  e10
          )
        ) (fun b7 e8 =>
          M_of (fun _ _ H => r_icmpF c230_33 b7 <| H) <|
          M_of (fun _ _ H => r_iconst c230_36 <| r_goto c230_37 <| H) <|
          J230_83_ok  e8
        )
      ) (fun b5 e6 =>
        M_of (fun _ _ H => r_icmpF c230_23 b5 <| H) <|
        M_of (fun _ _ H => r_iconst c230_26 <| r_goto c230_27 <| H) <|
        J230_83_ok  e6
      )
    ) (fun b3 e4 =>
      M_of (fun _ _ H => r_icmpF c230_13 b3 <| H) <|
      M_of (fun _ _ H => r_iconst c230_16 <| r_goto c230_17 <| H) <|
      J230_83_ok  e4
    )
  ) (fun b1 e2 =>
    M_of (fun _ _ H => r_icmpF c230_3 b1 <| H) <|
    M_of (fun _ _ H => r_iconst c230_6 <| r_goto c230_7 <| H) <|
    J230_83_ok  e2
  ))
def J231_19 (N : Nat)  (s0 : Int32) (S : mS) : Option (Int32 × mS) :=
  some (s0, S)
theorem J231_19_ok {xt : mj_X} {ct : Nat → Value} {a : Nat} {ra : Nat → Nat} {d N : Nat} {l : mj_L}  {s0 : Int32} {S : mS} {q : Int32 × mS}  (e : J231_19 N  s0 S = some q) : MR xt ct a ra (d + 1) 231 19 l [.int s0] S (.inl (some (.int q.1))) q.2 := by
  unfold J231_19 at e
  exact (
  M_ri (Option.some.inj e) (fun _ => r_iret c231_19 rfl))
/-- tight(I)I -/
def M231 (N : Nat) (x0 : Int32) (S : mS) : Option (Int32 × mS) :=
  bif mj_c2 .ge x0 3 then
    bif mj_c2 .ge x0 5 then
      J231_19 N 2 S
    else
    J231_19 N 1 S
  else
  J231_19 N 0 S
theorem M231_ok {xt : mj_X} {ct : Nat → Value} {a : Nat} {ra : Nat → Nat} {d N : Nat} {x0 : Int32} {S : mS} {q : Int32 × mS} (e : M231 N x0 S = some q) : MR xt ct a ra (d + 1) 231 0 (lv_args 0 [.int x0]) [] S (.inl (some (.int q.1))) q.2 := by
  unfold M231 at e
  exact (
  M_of (fun _ _ H => r_iloadn c231_0 rfl <| r_iconst c231_1 <| H) <|
  t_if e (fun b1 e2 =>
    M_of (fun _ _ H => r_icmpT c231_2 b1 <| H) <|
    M_of (fun _ _ H => r_iloadn c231_9 rfl <| r_iconst c231_10 <| H) <|
    t_if e2 (fun b3 e4 =>
      M_of (fun _ _ H => r_icmpT c231_11 b3 <| H) <|
      M_of (fun _ _ H => r_iconst c231_18 <| H) <|
      J231_19_ok  e4
    ) (fun b3 e4 =>
      M_of (fun _ _ H => r_icmpF c231_11 b3 <| H) <|
      M_of (fun _ _ H => r_iconst c231_14 <| r_goto c231_15 <| H) <|
      J231_19_ok  e4
    )
  ) (fun b1 e2 =>
    M_of (fun _ _ H => r_icmpF c231_2 b1 <| H) <|
    M_of (fun _ _ H => r_iconst c231_5 <| r_goto c231_6 <| H) <|
    J231_19_ok  e2
  ))
/-- makeOperation(I)V -/
def M233 (N : Nat) (x1 : Int32) (S : mS) : Option (mS) :=
  if 0 ≤ (((S.1 33) - 1)).toInt ∧ (((S.1 33) - 1)).toInt < mN 32 then
  if 0 ≤ (((S.1 33) - 2)).toInt ∧ (((S.1 33) - 2)).toInt < mN 32 then
  (M224 N 3 x1 0 0 0 (m_sV S 33 ((S.1 33) - 2))).bind fun r5 =>
  if 0 ≤ (((480 + (r5.1 23)) - 1)).toInt ∧ (((480 + (r5.1 23)) - 1)).toInt < mN 18 then
  if 0 ≤ (((480 + (r5.1 23)) - 1)).toInt ∧ (((480 + (r5.1 23)) - 1)).toInt < mN 19 then
  some (m_sA (m_sA r5 18 (((480 + (r5.1 23)) - 1)).toInt.toNat (S.2.1 32 (((S.1 33) - 2)).toInt.toNat)) 19 (((480 + (r5.1 23)) - 1)).toInt.toNat (S.2.1 32 (((S.1 33) - 1)).toInt.toNat))
  else none
  else none
  else none
  else none
theorem M233_ok {xt : mj_X} {ct : Nat → Value} {a : Nat} {ra : Nat → Nat} {d N : Nat} {x1 : Int32} {S : mS} {q : mS} (e : M233 N x1 S = some q) : MR xt ct a ra (d + 2) 233 0 (lv_args 0 [.ref a, .int x1]) [] S (.inl none) q := by
  unfold M233 at e
  exact (
  M_of (fun _ _ H => r_aloadn c233_0 rfl <| H) <|
  M_geta (j := 32) c233_1 (by decide) <|
  M_of (fun _ _ H => r_aloadn c233_4 rfl <| H) <|
  M_get (v := (S.1 33)) c233_5 (by decide) rfl <|
  M_of (fun _ _ H => r_iconst c233_8 <| r_isub c233_9 rfl <| H) <|
  t_ck e fun i1 e2 =>
  M_iald (j := 32) (v := (S.2.1 32 (((S.1 33) - 1)).toInt.toNat)) c233_10 (by decide) i1 rfl <|
  M_of (fun _ _ H => r_istoren c233_11 <| r_aloadn c233_12 (ld1_ne rfl (by decide) (Or.inl (by decide))) <| H) <|
  M_geta (j := 32) c233_13 (by decide) <|
  M_of (fun _ _ H => r_aloadn c233_16 (ld1_ne rfl (by decide) (Or.inl (by decide))) <| H) <|
  M_get (v := (S.1 33)) c233_17 (by decide) rfl <|
  M_of (fun _ _ H => r_iconst c233_20 <| r_isub c233_21 rfl <| H) <|
  t_ck e2 fun i3 e4 =>
  M_iald (j := 32) (v := (S.2.1 32 (((S.1 33) - 2)).toInt.toNat)) c233_22 (by decide) i3 rfl <|
  M_of (fun _ _ H => r_istoren c233_23 <| r_aloadn c233_24 (ld1_ne (ld1_ne rfl (by decide) (Or.inl (by decide))) (by decide) (Or.inl (by decide))) <| r_aloadn c233_25 (ld1_ne (ld1_ne rfl (by decide) (Or.inl (by decide))) (by decide) (Or.inl (by decide))) <| H) <|
  M_get (v := (S.1 33)) c233_26 (by decide) rfl <|
  M_of (fun _ _ H => r_iconst c233_29 <| r_isub c233_30 rfl <| H) <|
  M_put c233_31 (by decide) <|
  M_of (fun _ _ H => r_aloadn c233_34 (ld1_ne (ld1_ne rfl (by decide) (Or.inl (by decide))) (by decide) (Or.inl (by decide))) <| r_iconst c233_35 <| r_iloadn c233_36 (ld1_ne (ld1_ne rfl (by decide) (Or.inr rfl)) (by decide) (Or.inl (by decide))) <| r_iconst c233_37 <| r_iconst c233_38 <| r_iconst c233_39 <| H) <|
  t_bd e4 fun r5 c6 e7 =>
  M_cv (as := [.ref a, .int 3, .int x1, .int 0, .int 0, .int 0]) (st' := []) (v := none) c233_40 rfl ⟨Nat.le_of_ble_eq_true rfl, Nat.le_of_ble_eq_true rfl, Nat.le_of_ble_eq_true rfl⟩ rfl rfl (M224_ok (d := d) c6) (Nat.add_lt_add_left (by decide) d) <|
  M_of (fun _ _ H => r_aloadn c233_43 (ld1_ne (ld1_ne rfl (by decide) (Or.inl (by decide))) (by decide) (Or.inl (by decide))) <| H) <|
  M_geta (j := 18) c233_44 (by decide) <|
  M_of (fun _ _ H => r_sipush c233_47 <| r_aloadn c233_50 (ld1_ne (ld1_ne rfl (by decide) (Or.inl (by decide))) (by decide) (Or.inl (by decide))) <| H) <|
  M_get (v := (r5.1 23)) c233_51 (by decide) rfl <|
  M_of (fun _ _ H => r_iadd c233_54 rfl <| r_iconst c233_55 <| r_isub c233_56 rfl <| r_iloadn c233_57 ld1_eq <| H) <|
  t_ck e7 fun i8 e9 =>
  M_iast (j := 18) c233_58 (by decide) i8 <|
  M_of (fun _ _ H => r_aloadn c233_59 (ld1_ne (ld1_ne rfl (by decide) (Or.inl (by decide))) (by decide) (Or.inl (by decide))) <| H) <|
  M_geta (j := 19) c233_60 (by decide) <|
  M_of (fun _ _ H => r_sipush c233_63 <| r_aloadn c233_66 (ld1_ne (ld1_ne rfl (by decide) (Or.inl (by decide))) (by decide) (Or.inl (by decide))) <| H) <|
  M_get (v := (r5.1 23)) c233_67 (by decide) rfl <|
  M_of (fun _ _ H => r_iadd c233_70 rfl <| r_iconst c233_71 <| r_isub c233_72 rfl <| r_iloadn c233_73 (ld1_ne ld1_eq (by decide) (Or.inr rfl)) <| H) <|
  t_ck e9 fun i10 e11 =>
  M_iast (j := 19) c233_74 (by decide) i10 <|
  M_rv (Option.some.inj e11) (fun _ => r_ret c233_75))
def LG232_0 (xt : mj_X) (ct : Nat → Value) (a : Nat) (ra : Nat → Nat) (d : Nat) (q : mS) (x1 : Int32) (S : mS) : Prop := ∀ l, mj_ld l 0 = some (.ref a) → mj_ld l 1 = some (.int x1) → MR xt ct a ra (d + 3) 232 0 l [] S (.inl none) q
def GG232_0 (xt : mj_X) (ct : Nat → Value) (a : Nat) (ra : Nat → Nat) (d : Nat) (q : mS) (o : (Int32 × mS) ⊕ (mS)) : Prop := match o with
  | .inl (x1, S) => LG232_0 xt ct a ra d q x1 S
  | .inr r => r = q
def J232_67 (N : Nat)   (S : mS) : Option (mS) :=
  some S
theorem J232_67_ok {xt : mj_X} {ct : Nat → Value} {a : Nat} {ra : Nat → Nat} {d N : Nat} {l : mj_L}   {S : mS} {q : mS} (h0 : mj_ld l 0 = some (.ref a)) (e : J232_67 N   S = some q) : MR xt ct a ra (d + 3) 232 67 l [] S (.inl none) q := by
  unfold J232_67 at e
  exact (
  M_rv (Option.some.inj e) (fun _ => r_ret c232_67))
def B232_0 (N : Nat) (s : Int32 × mS) : Option ((Int32 × mS) ⊕ (mS)) :=
  bif mj_c1 .le (s.2.1 29) then
    (J232_67 N s.2).map Sum.inr
  else
  if 0 ≤ (((s.2.1 29) - 1)).toInt ∧ (((s.2.1 29) - 1)).toInt < mN 27 then
  bif mj_c2 .ge (s.2.2.1 27 (((s.2.1 29) - 1)).toInt.toNat) 20 then
    (J232_67 N s.2).map Sum.inr
  else
  if 0 ≤ (((s.2.1 29) - 1)).toInt ∧ (((s.2.1 29) - 1)).toInt < mN 27 then
  (M231 N (s.2.2.1 27 (((s.2.1 29) - 1)).toInt.toNat) s.2).bind fun r17 =>
  bif mj_c2 .lt r17.1 s.1 then
    (J232_67 N r17.2).map Sum.inr
  else
  if 0 ≤ (((r17.2.1 29) - 1)).toInt ∧ (((r17.2.1 29) - 1)).toInt < mN 27 then
  (M233 N (r17.2.2.1 27 (((r17.2.1 29) - 1)).toInt.toNat) (m_sV r17.2 29 ((r17.2.1 29) - 1))).bind fun r28 =>
  some (.inl (s.1, r28))
  else none
  else none
  else none
def L232_0 (N : Nat) (s : Int32 × mS) : Option (mS) := t_lp (B232_0 N) N s
theorem B232_0_ok {xt : mj_X} {ct : Nat → Value} {a : Nat} {ra : Nat → Nat} {d N : Nat} {s : Int32 × mS} {o : (Int32 × mS) ⊕ (mS)} {q : mS} (e : B232_0 N s = some o) (g : GG232_0 xt ct a ra d q o) : LG232_0 xt ct a ra d q s.1 s.2 := by
  unfold B232_0 at e
  exact (fun l h0 h1 =>
  M_of (fun _ _ H => r_aloadn c232_0 h0 <| H) <|
  M_get (v := (s.2.1 29)) c232_1 (by decide) rfl <|
  t_if e (fun b1 e2 =>
    M_of (fun _ _ H => r_ifT c232_4 b1 <| H) <|
    t_up e2 fun o3 e4 u5 =>
    (fun (g6 : o3 = q) =>
    by subst g6; exact (J232_67_ok h0 e4)
    ) (by have := g; rw [u5] at this; exact this)
  ) (fun b1 e2 =>
    M_of (fun _ _ H => r_ifF c232_4 b1 <| H) <|
    M_of (fun _ _ H => r_aloadn c232_7 h0 <| H) <|
    M_geta (j := 27) c232_8 (by decide) <|
    M_of (fun _ _ H => r_aloadn c232_11 h0 <| H) <|
    M_get (v := (s.2.1 29)) c232_12 (by decide) rfl <|
    M_of (fun _ _ H => r_iconst c232_15 <| r_isub c232_16 rfl <| H) <|
    t_ck e2 fun i7 e8 =>
    M_iald (j := 27) (v := (s.2.2.1 27 (((s.2.1 29) - 1)).toInt.toNat)) c232_17 (by decide) i7 rfl <|
    M_of (fun _ _ H => r_bipush c232_18 <| H) <|
    t_if e8 (fun b9 e10 =>
      M_of (fun _ _ H => r_icmpT c232_20 b9 <| H) <|
      t_up e10 fun o11 e12 u13 =>
      (fun (g14 : o11 = q) =>
      by subst g14; exact (J232_67_ok h0 e12)
      ) (by have := g; rw [u13] at this; exact this)
    ) (fun b9 e10 =>
      M_of (fun _ _ H => r_icmpF c232_20 b9 <| H) <|
      M_of (fun _ _ H => r_aloadn c232_23 h0 <| H) <|
      M_geta (j := 27) c232_24 (by decide) <|
      M_of (fun _ _ H => r_aloadn c232_27 h0 <| H) <|
      M_get (v := (s.2.1 29)) c232_28 (by decide) rfl <|
      M_of (fun _ _ H => r_iconst c232_31 <| r_isub c232_32 rfl <| H) <|
      t_ck e10 fun i15 e16 =>
      M_iald (j := 27) (v := (s.2.2.1 27 (((s.2.1 29) - 1)).toInt.toNat)) c232_33 (by decide) i15 rfl <|
      t_bd e16 fun r17 c18 e19 =>
      M_cs (as := [.int (s.2.2.1 27 (((s.2.1 29) - 1)).toInt.toNat)]) (st' := [.int r17.1]) (v := (some (.int r17.1))) c232_34 ⟨Nat.le_of_ble_eq_true rfl, Nat.le_of_ble_eq_true rfl, Nat.le_of_ble_eq_true rfl⟩ rfl rfl (M231_ok (d := d) c18) (Nat.add_lt_add_left (by decide) d) <|
      M_of (fun _ _ H => r_iloadn c232_37 h1 <| H) <|
      t_if e19 (fun b20 e21 =>
        M_of (fun _ _ H => r_icmpT c232_38 b20 <| H) <|
        t_up e21 fun o22 e23 u24 =>
        (fun (g25 : o22 = q) =>
        by subst g25; exact (J232_67_ok h0 e23)
        ) (by have := g; rw [u24] at this; exact this)
      ) (fun b20 e21 =>
        M_of (fun _ _ H => r_icmpF c232_38 b20 <| H) <|
        M_of (fun _ _ H => r_aloadn c232_41 h0 <| r_dup c232_42 rfl <| H) <|
        M_get (v := (r17.2.1 29)) c232_43 (by decide) rfl <|
        M_of (fun _ _ H => r_iconst c232_46 <| r_isub c232_47 rfl <| H) <|
        M_put c232_48 (by decide) <|
        M_of (fun _ _ H => r_aloadn c232_51 h0 <| r_aloadn c232_52 h0 <| H) <|
        M_geta (j := 27) c232_53 (by decide) <|
        M_of (fun _ _ H => r_aloadn c232_56 h0 <| H) <|
        M_get (v := ((r17.2.1 29) - 1)) c232_57 (by decide) rfl <|
        t_ck e21 fun i26 e27 =>
        M_iald (j := 27) (v := (r17.2.2.1 27 (((r17.2.1 29) - 1)).toInt.toNat)) c232_60 (by decide) i26 rfl <|
        t_bd e27 fun r28 c29 e30 =>
        M_cv (as := [.ref a, .int (r17.2.2.1 27 (((r17.2.1 29) - 1)).toInt.toNat)]) (st' := []) (v := none) c232_61 rfl ⟨Nat.le_of_ble_eq_true rfl, Nat.le_of_ble_eq_true rfl, Nat.le_of_ble_eq_true rfl⟩ rfl rfl (M233_ok (d := d) c29) (Nat.add_lt_add_left (by decide) d) <|
        M_of (fun _ _ H => r_goto c232_64 <| H) <|
        t_rg e30 g (fun (e : LG232_0 xt ct a ra d q s.1 r28) => e _ h0 h1)
      )
    )
  ))
theorem L232_0_ok {xt : mj_X} {ct : Nat → Value} {a : Nat} {ra : Nat → Nat} {d N : Nat} {x1 : Int32} {S : mS} {q : mS} (e : L232_0 N (x1, S) = some q) : LG232_0 xt ct a ra d q x1 S :=
  t_lp_ok (G := fun s => LG232_0 xt ct a ra d q s.1 s.2) (fun s s' e g => B232_0_ok e (by obtain ⟨_, _⟩ := s'; exact g)) (fun s e => B232_0_ok e rfl) N (x1, S) e
/-- close(I)V -/
def M232 (N : Nat) (x1 : Int32) (S : mS) : Option (mS) :=
  L232_0 N (x1, S)
theorem M232_ok {xt : mj_X} {ct : Nat → Value} {a : Nat} {ra : Nat → Nat} {d N : Nat} {x1 : Int32} {S : mS} {q : mS} (e : M232 N x1 S = some q) : MR xt ct a ra (d + 3) 232 0 (lv_args 0 [.ref a, .int x1]) [] S (.inl none) q := by
  unfold M232 at e
  exact (
  L232_0_ok e _ rfl rfl)
def LG229_0 (xt : mj_X) (ct : Nat → Value) (a : Nat) (ra : Nat → Nat) (d : Nat) (q : Int32 × mS)  (S : mS) : Prop := ∀ l, mj_ld l 0 = some (.ref a) → MR xt ct a ra (d + 4) 229 0 l [] S (.inl (some (.int q.1))) q.2
def GG229_0 (xt : mj_X) (ct : Nat → Value) (a : Nat) (ra : Nat → Nat) (d : Nat) (q : Int32 × mS) (o : (mS) ⊕ (Int32 × mS)) : Prop := match o with
  | .inl S => LG229_0 xt ct a ra d q S
  | .inr r => r = q
def J229_50 (N : Nat) (x1 : Int32) (s0 : Int32) (S : mS) : Option (Int32 × mS) :=
  if s0 = 0 ∨ s0 = 1 then
  (M222 N x1 (m_sV S 31 s0)).bind fun r19 =>
  some (1, (m_sV r19 22 ((r19.1 22) + 1)))
  else none
theorem J229_50_ok {xt : mj_X} {ct : Nat → Value} {a : Nat} {ra : Nat → Nat} {d N : Nat} {l : mj_L} {x1 : Int32} {s0 : Int32} {S : mS} {q : Int32 × mS} (h0 : mj_ld l 0 = some (.ref a)) (h1 : mj_ld l 1 = some (.int x1)) (e : J229_50 N x1 s0 S = some q) : MR xt ct a ra (d + 4) 229 50 l [.int s0, .ref a] S (.inl (some (.int q.1))) q.2 := by
  unfold J229_50 at e
  exact (
  t_ck e fun z17 e18 =>
  M_putz c229_50 (by decide) z17 <|
  M_of (fun _ _ H => r_aloadn c229_53 h0 <| r_iloadn c229_54 h1 <| H) <|
  t_bd e18 fun r19 c20 e21 =>
  M_cv (as := [.ref a, .int x1]) (st' := []) (v := none) c229_55 rfl ⟨Nat.le_of_ble_eq_true rfl, Nat.le_of_ble_eq_true rfl, Nat.le_of_ble_eq_true rfl⟩ rfl rfl (M222_ok (d := d) c20) (Nat.add_lt_add_left (by decide) d) <|
  M_of (fun _ _ H => r_aloadn c229_58 h0 <| r_dup c229_59 rfl <| H) <|
  M_get (v := (r19.1 22)) c229_60 (by decide) rfl <|
  M_of (fun _ _ H => r_iconst c229_63 <| r_iadd c229_64 rfl <| H) <|
  M_put c229_65 (by decide) <|
  M_of (fun _ _ H => r_iconst c229_68 <| H) <|
  M_ri (Option.some.inj e21) (fun _ => r_iret c229_69 rfl))
def J229_45 (N : Nat) (x1 : Int32)  (S : mS) : Option (Int32 × mS) :=
  J229_50 N x1 1 S
theorem J229_45_ok {xt : mj_X} {ct : Nat → Value} {a : Nat} {ra : Nat → Nat} {d N : Nat} {l : mj_L} {x1 : Int32}  {S : mS} {q : Int32 × mS} (h0 : mj_ld l 0 = some (.ref a)) (h1 : mj_ld l 1 = some (.int x1)) (e : J229_45 N x1  S = some q) : MR xt ct a ra (d + 4) 229 45 l [.ref a] S (.inl (some (.int q.1))) q.2 := by
  unfold J229_45 at e
  exact (
  M_of (fun _ _ H => r_iconst c229_45 <| r_goto c229_46 <| H) <|
  J229_50_ok h0 h1 e)
def J229_24 (N : Nat) (x1 : Int32)  (S : mS) : Option (Int32 × mS) :=
  (M231 N x1 S).bind fun r9 =>
  (M232 N r9.1 r9.2).bind fun r12 =>
  bif mj_c1 .ne (r12.1 31) then
    J229_45 N x1 r12
  else
  bif mj_c2 .ge x1 3 then
    J229_50 N x1 0 r12
  else
  J229_45 N x1 r12
theorem J229_24_ok {xt : mj_X} {ct : Nat → Value} {a : Nat} {ra : Nat → Nat} {d N : Nat} {l : mj_L} {x1 : Int32}  {S : mS} {q : Int32 × mS} (h0 : mj_ld l 0 = some (.ref a)) (h1 : mj_ld l 1 = some (.int x1)) (e : J229_24 N x1  S = some q) : MR xt ct a ra (d + 4) 229 24 l [] S (.inl (some (.int q.1))) q.2 := by
  unfold J229_24 at e
  exact (
  M_of (fun _ _ H => r_aloadn c229_24 h0 <| r_iloadn c229_25 h1 <| H) <|
  t_bd e fun r9 c10 e11 =>
  M_cs (as := [.int x1]) (st' := [.int r9.1, .ref a]) (v := (some (.int r9.1))) c229_26 ⟨Nat.le_of_ble_eq_true rfl, Nat.le_of_ble_eq_true rfl, Nat.le_of_ble_eq_true rfl⟩ rfl rfl (M231_ok (d := d) c10) (Nat.add_lt_add_left (by decide) d) <|
  t_bd e11 fun r12 c13 e14 =>
  M_cv (as := [.ref a, .int r9.1]) (st' := []) (v := none) c229_29 rfl ⟨Nat.le_of_ble_eq_true rfl, Nat.le_of_ble_eq_true rfl, Nat.le_of_ble_eq_true rfl⟩ rfl rfl (M232_ok (d := d) c13) (Nat.add_lt_add_left (by decide) d) <|
  M_of (fun _ _ H => r_aloadn c229_32 h0 <| r_aloadn c229_33 h0 <| H) <|
  M_get (v := (r12.1 31)) c229_34 (by decide) rfl <|
  t_if e14 (fun b15 e16 =>
    M_of (fun _ _ H => r_ifT c229_37 b15 <| H) <|
    J229_45_ok h0 h1 e16
  ) (fun b15 e16 =>
    M_of (fun _ _ H => r_ifF c229_37 b15 <| H) <|
    M_of (fun _ _ H => r_iloadn c229_40 h1 <| r_iconst c229_41 <| H) <|
    t_if e16 (fun b22 e23 =>
      M_of (fun _ _ H => r_icmpT c229_42 b22 <| H) <|
      M_of (fun _ _ H => r_iconst c229_49 <| H) <|
      J229_50_ok h0 h1 e23
    ) (fun b22 e23 =>
      M_of (fun _ _ H => r_icmpF c229_42 b22 <| H) <|
      J229_45_ok h0 h1 e23
    )
  ))
def J229_70 (N : Nat)   (S : mS) : Option ((mS) ⊕ (Int32 × mS)) :=
  (M232 N 0 S).bind fun r30 =>
  bif mj_c1 .ne (r30.1 29) then
    (M219 N 41 r30).bind fun r35 =>
    bif mj_c1 .ne r35.1 then
      if 0 ≤ (((r35.2.1 29) - 1)).toInt ∧ (((r35.2.1 29) - 1)).toInt < mN 28 then
      if (r35.2.2.1 28 (((r35.2.1 29) - 1)).toInt.toNat) = 0 ∨ (r35.2.2.1 28 (((r35.2.1 29) - 1)).toInt.toNat) = 1 then
      (M227 N (m_sV (m_sV (m_sV r35.2 29 ((r35.2.1 29) - 1)) 30 ((r35.2.1 30) - 1)) 31 (r35.2.2.1 28 (((r35.2.1 29) - 1)).toInt.toNat))).bind fun r44 =>
      some (.inl r44)
      else none
      else none
    else
    some (.inr (0, r35.2))
  else
  some (.inr (1, r30))
theorem J229_70_ok {xt : mj_X} {ct : Nat → Value} {a : Nat} {ra : Nat → Nat} {d N : Nat} {l : mj_L}   {S : mS} {o : (mS) ⊕ (Int32 × mS)} {q : Int32 × mS} (h0 : mj_ld l 0 = some (.ref a)) (e : J229_70 N   S = some o) (g : GG229_0 xt ct a ra d q o) : MR xt ct a ra (d + 4) 229 70 l [] S (.inl (some (.int q.1))) q.2 := by
  unfold J229_70 at e
  exact (
  M_of (fun _ _ H => r_aloadn c229_70 h0 <| r_iconst c229_71 <| H) <|
  t_bd e fun r30 c31 e32 =>
  M_cv (as := [.ref a, .int 0]) (st' := []) (v := none) c229_72 rfl ⟨Nat.le_of_ble_eq_true rfl, Nat.le_of_ble_eq_true rfl, Nat.le_of_ble_eq_true rfl⟩ rfl rfl (M232_ok (d := d) c31) (Nat.add_lt_add_left (by decide) d) <|
  M_of (fun _ _ H => r_aloadn c229_75 h0 <| H) <|
  M_get (v := (r30.1 29)) c229_76 (by decide) rfl <|
  t_if e32 (fun b33 e34 =>
    M_of (fun _ _ H => r_ifT c229_79 b33 <| H) <|
    M_of (fun _ _ H => r_aloadn c229_84 h0 <| r_bipush c229_85 <| H) <|
    t_bd e34 fun r35 c36 e37 =>
    M_cv (as := [.ref a, .int 41]) (st' := [.int r35.1]) (v := (some (.int r35.1))) c229_87 rfl ⟨Nat.le_of_ble_eq_true rfl, Nat.le_of_ble_eq_true rfl, Nat.le_of_ble_eq_true rfl⟩ rfl rfl (M219_ok (d := d) c36) (Nat.add_lt_add_left (by decide) d) <|
    t_if e37 (fun b38 e39 =>
      M_of (fun _ _ H => r_ifT c229_90 b38 <| H) <|
      M_of (fun _ _ H => r_aloadn c229_95 h0 <| r_dup c229_96 rfl <| H) <|
      M_get (v := (r35.2.1 29)) c229_97 (by decide) rfl <|
      M_of (fun _ _ H => r_iconst c229_100 <| r_isub c229_101 rfl <| H) <|
      M_put c229_102 (by decide) <|
      M_of (fun _ _ H => r_aloadn c229_105 h0 <| r_dup c229_106 rfl <| H) <|
      M_get (v := (r35.2.1 30)) c229_107 (by decide) rfl <|
      M_of (fun _ _ H => r_iconst c229_110 <| r_isub c229_111 rfl <| H) <|
      M_put c229_112 (by decide) <|
      M_of (fun _ _ H => r_aloadn c229_115 h0 <| r_aloadn c229_116 h0 <| H) <|
      M_geta (j := 28) c229_117 (by decide) <|
      M_of (fun _ _ H => r_aloadn c229_120 h0 <| H) <|
      M_get (v := ((r35.2.1 29) - 1)) c229_121 (by decide) rfl <|
      t_ck e39 fun i40 e41 =>
      M_zald (j := 28) (v := (r35.2.2.1 28 (((r35.2.1 29) - 1)).toInt.toNat)) c229_124 (by decide) i40 rfl <|
      t_ck e41 fun z42 e43 =>
      M_putz c229_125 (by decide) z42 <|
      M_of (fun _ _ H => r_aloadn c229_128 h0 <| H) <|
      t_bd e43 fun r44 c45 e46 =>
      M_cv (as := [.ref a]) (st' := []) (v := none) c229_129 rfl ⟨Nat.le_of_ble_eq_true rfl, Nat.le_of_ble_eq_true rfl, Nat.le_of_ble_eq_true rfl⟩ rfl rfl (M227_ok (d := d) c45) (Nat.add_lt_add_left (by decide) d) <|
      M_of (fun _ _ H => r_goto c229_132 <| H) <|
      t_rg e46 g (fun (e : LG229_0 xt ct a ra d q r44) => e _ h0)
    ) (fun b38 e39 =>
      M_of (fun _ _ H => r_ifF c229_90 b38 <| H) <|
      M_of (fun _ _ H => r_iconst c229_93 <| H) <|
      t_rg e39 g (fun (e : (0, r35.2) = q) => M_ri (e) (fun _ => r_iret c229_94 rfl))
    )
  ) (fun b33 e34 =>
    M_of (fun _ _ H => r_ifF c229_79 b33 <| H) <|
    M_of (fun _ _ H => r_iconst c229_82 <| H) <|
    t_rg e34 g (fun (e : (1, r30) = q) => M_ri (e) (fun _ => r_iret c229_83 rfl))
  ))
def B229_0 (N : Nat) (s : mS) : Option ((mS) ⊕ (Int32 × mS)) :=
  (M212 N s).bind fun r1 =>
  (M230 N r1.1 r1.2).bind fun r4 =>
  bif mj_c2 .gt r4.1 2 then
    (J229_24 N r4.1 r4.2).map Sum.inr
  else
  bif mj_c1 .lt r4.1 then
    J229_70 N r4.2
  else
  bif mj_c1 .ne (r4.2.1 31) then
    J229_70 N r4.2
  else
  (J229_24 N r4.1 r4.2).map Sum.inr
def L229_0 (N : Nat) (s : mS) : Option (Int32 × mS) := t_lp (B229_0 N) N s
theorem B229_0_ok {xt : mj_X} {ct : Nat → Value} {a : Nat} {ra : Nat → Nat} {d N : Nat} {s : mS} {o : (mS) ⊕ (Int32 × mS)} {q : Int32 × mS} (e : B229_0 N s = some o) (g : GG229_0 xt ct a ra d q o) : LG229_0 xt ct a ra d q s := by
  unfold B229_0 at e
  exact (fun l h0 =>
  M_of (fun _ _ H => r_aloadn c229_0 h0 <| H) <|
  t_bd e fun r1 c2 e3 =>
  M_cv (as := [.ref a]) (st' := [.int r1.1]) (v := (some (.int r1.1))) c229_1 rfl ⟨Nat.le_of_ble_eq_true rfl, Nat.le_of_ble_eq_true rfl, Nat.le_of_ble_eq_true rfl⟩ rfl rfl (M212_ok (d := d) c2) (Nat.add_lt_add_left (by decide) d) <|
  t_bd e3 fun r4 c5 e6 =>
  M_cs (as := [.int r1.1]) (st' := [.int r4.1]) (v := (some (.int r4.1))) c229_4 ⟨Nat.le_of_ble_eq_true rfl, Nat.le_of_ble_eq_true rfl, Nat.le_of_ble_eq_true rfl⟩ rfl rfl (M230_ok (d := d) c5) (Nat.add_lt_add_left (by decide) d) <|
  M_of (fun _ _ H => r_istoren c229_7 <| r_iloadn c229_8 ld1_eq <| r_iconst c229_9 <| H) <|
  t_if e6 (fun b7 e8 =>
    M_of (fun _ _ H => r_icmpT c229_10 b7 <| H) <|
    t_up e8 fun o24 e25 u26 =>
    (fun (g27 : o24 = q) =>
    by subst g27; exact (J229_24_ok (ld1_ne h0 (by decide) (Or.inr rfl)) ld1_eq e25)
    ) (by have := g; rw [u26] at this; exact this)
  ) (fun b7 e8 =>
    M_of (fun _ _ H => r_icmpF c229_10 b7 <| H) <|
    M_of (fun _ _ H => r_iloadn c229_13 ld1_eq <| H) <|
    t_if e8 (fun b28 e29 =>
      M_of (fun _ _ H => r_ifT c229_14 b28 <| H) <|
      J229_70_ok (ld1_ne h0 (by decide) (Or.inr rfl)) e29 g
    ) (fun b28 e29 =>
      M_of (fun _ _ H => r_ifF c229_14 b28 <| H) <|
      M_of (fun _ _ H => r_aloadn c229_17 (ld1_ne h0 (by decide) (Or.inr rfl)) <| H) <|
      M_get (v := (r4.2.1 31)) c229_18 (by decide) rfl <|
      t_if e29 (fun b47 e48 =>
        M_of (fun _ _ H => r_ifT c229_21 b47 <| H) <|
        J229_70_ok (ld1_ne h0 (by decide) (Or.inr rfl)) e48 g
      ) (fun b47 e48 =>
        M_of (fun _ _ H => r_ifF c229_21 b47 <| H) <|
        t_up e48 fun o49 e50 u51 =>
        (fun (g52 : o49 = q) =>
        by subst g52; exact (J229_24_ok (ld1_ne h0 (by decide) (Or.inr rfl)) ld1_eq e50)
        ) (by have := g; rw [u51] at this; exact this)
      )
    )
  ))
theorem L229_0_ok {xt : mj_X} {ct : Nat → Value} {a : Nat} {ra : Nat → Nat} {d N : Nat}  {S : mS} {q : Int32 × mS} (e : L229_0 N S = some q) : LG229_0 xt ct a ra d q S :=
  t_lp_ok (G := fun s => LG229_0 xt ct a ra d q s) (fun s s' e g => B229_0_ok e (by exact g)) (fun s e => B229_0_ok e rfl) N S e
/-- readSign()Z -/
def M229 (N : Nat)  (S : mS) : Option (Int32 × mS) :=
  L229_0 N S
theorem M229_ok {xt : mj_X} {ct : Nat → Value} {a : Nat} {ra : Nat → Nat} {d N : Nat}  {S : mS} {q : Int32 × mS} (e : M229 N  S = some q) : MR xt ct a ra (d + 4) 229 0 (lv_args 0 [.ref a]) [] S (.inl (some (.int q.1))) q.2 := by
  unfold M229 at e
  exact (
  L229_0_ok e _ rfl)
def LG220_35 (xt : mj_X) (ct : Nat → Value) (a : Nat) (ra : Nat → Nat) (d : Nat) (q : Int32 × mS) (x1 : Int32) (x2 : Int32) (S : mS) : Prop := ∀ l, mj_ld l 0 = some (.ref a) → mj_ld l 1 = some (.int x1) → mj_ld l 2 = some (.int x2) → MR xt ct a ra (d + 7) 220 35 l [] S (.inl (some (.int q.1))) q.2
def GG220_35 (xt : mj_X) (ct : Nat → Value) (a : Nat) (ra : Nat → Nat) (d : Nat) (q : Int32 × mS) (o : (Int32 × Int32 × mS) ⊕ (Int32 × mS)) : Prop := match o with
  | .inl (x1, x2, S) => LG220_35 xt ct a ra d q x1 x2 S
  | .inr r => r = q
def J220_53 (N : Nat)   (S : mS) : Option (Int32 × mS) :=
  some (0, S)
theorem J220_53_ok {xt : mj_X} {ct : Nat → Value} {a : Nat} {ra : Nat → Nat} {d N : Nat} {l : mj_L}   {S : mS} {q : Int32 × mS} (h0 : mj_ld l 0 = some (.ref a)) (e : J220_53 N   S = some q) : MR xt ct a ra (d + 7) 220 53 l [] S (.inl (some (.int q.1))) q.2 := by
  unfold J220_53 at e
  exact (
  M_of (fun _ _ H => r_iconst c220_53 <| H) <|
  M_ri (Option.some.inj e) (fun _ => r_iret c220_54 rfl))
def J220_67 (N : Nat) (x1 : Int32) (s0 : Int32) (S : mS) : Option ((Int32 × Int32 × mS) ⊕ (Int32 × mS)) :=
  some (.inl (x1, s0, S))
theorem J220_67_ok {xt : mj_X} {ct : Nat → Value} {a : Nat} {ra : Nat → Nat} {d N : Nat} {l : mj_L} {x1 : Int32} {s0 : Int32} {S : mS} {o : (Int32 × Int32 × mS) ⊕ (Int32 × mS)} {q : Int32 × mS} (h0 : mj_ld l 0 = some (.ref a)) (h1 : mj_ld l 1 = some (.int x1)) (e : J220_67 N x1 s0 S = some o) (g : GG220_35 xt ct a ra d q o) : MR xt ct a ra (d + 7) 220 67 l [.int s0] S (.inl (some (.int q.1))) q.2 := by
  unfold J220_67 at e
  exact (
  M_of (fun _ _ H => r_istoren c220_67 <| r_goto c220_68 <| H) <|
  t_rg e g (fun (e : LG220_35 xt ct a ra d q x1 s0 S) => e _ (ld1_ne h0 (by decide) (Or.inl (by decide))) (ld1_ne h1 (by decide) (Or.inr rfl)) ld1_eq))
def B220_35 (N : Nat) (s : Int32 × Int32 × mS) : Option ((Int32 × Int32 × mS) ⊕ (Int32 × mS)) :=
  bif mj_c1 .eq s.2.1 then
    if 0 ≤ ((72 + s.1)).toInt ∧ ((72 + s.1)).toInt < mN 9 then
    some (.inr (1, (m_sA s.2.2 9 ((72 + s.1)).toInt.toNat ((s.2.2.1 23) - 1))))
    else none
  else
  (M221 N s.2.2).bind fun r7 =>
  bif mj_c1 .eq r7.1 then
    (J220_53 N r7.2).map Sum.inr
  else
  (M229 N r7.2).bind fun r16 =>
  bif mj_c1 .ne r16.1 then
    bif mj_c1 .le (r16.2.1 29) then
      J220_67 N s.1 0 r16.2
    else
    J220_67 N s.1 1 r16.2
  else
  (J220_53 N r16.2).map Sum.inr
def L220_35 (N : Nat) (s : Int32 × Int32 × mS) : Option (Int32 × mS) := t_lp (B220_35 N) N s
theorem B220_35_ok {xt : mj_X} {ct : Nat → Value} {a : Nat} {ra : Nat → Nat} {d N : Nat} {s : Int32 × Int32 × mS} {o : (Int32 × Int32 × mS) ⊕ (Int32 × mS)} {q : Int32 × mS} (e : B220_35 N s = some o) (g : GG220_35 xt ct a ra d q o) : LG220_35 xt ct a ra d q s.1 s.2.1 s.2.2 := by
  unfold B220_35 at e
  exact (fun l h0 h1 h2 =>
  M_of (fun _ _ H => r_iloadn c220_35 h2 <| H) <|
  t_if e (fun b3 e4 =>
    M_of (fun _ _ H => r_ifT c220_36 b3 <| H) <|
    M_of (fun _ _ H => r_aloadn c220_71 h0 <| H) <|
    M_geta (j := 9) c220_72 (by decide) <|
    M_of (fun _ _ H => r_bipush c220_75 <| r_iloadn c220_77 h1 <| r_iadd c220_78 rfl <| r_aloadn c220_79 h0 <| H) <|
    M_get (v := (s.2.2.1 23)) c220_80 (by decide) rfl <|
    M_of (fun _ _ H => r_iconst c220_83 <| r_isub c220_84 rfl <| H) <|
    t_ck e4 fun i5 e6 =>
    M_iast (j := 9) c220_85 (by decide) i5 <|
    M_of (fun _ _ H => r_iconst c220_86 <| H) <|
    t_rg e6 g (fun (e : (1, (m_sA s.2.2 9 ((72 + s.1)).toInt.toNat ((s.2.2.1 23) - 1))) = q) => M_ri (e) (fun _ => r_iret c220_87 rfl))
  ) (fun b3 e4 =>
    M_of (fun _ _ H => r_ifF c220_36 b3 <| H) <|
    M_of (fun _ _ H => r_aloadn c220_39 h0 <| H) <|
    t_bd e4 fun r7 c8 e9 =>
    M_cv (as := [.ref a]) (st' := [.int r7.1]) (v := (some (.int r7.1))) c220_40 rfl ⟨Nat.le_of_ble_eq_true rfl, Nat.le_of_ble_eq_true rfl, Nat.le_of_ble_eq_true rfl⟩ rfl rfl (M221_ok (d := d) c8) (Nat.add_lt_add_left (by decide) d) <|
    t_if e9 (fun b10 e11 =>
      M_of (fun _ _ H => r_ifT c220_43 b10 <| H) <|
      t_up e11 fun o12 e13 u14 =>
      (fun (g15 : o12 = q) =>
      by subst g15; exact (J220_53_ok h0 e13)
      ) (by have := g; rw [u14] at this; exact this)
    ) (fun b10 e11 =>
      M_of (fun _ _ H => r_ifF c220_43 b10 <| H) <|
      M_of (fun _ _ H => r_aloadn c220_46 h0 <| H) <|
      t_bd e11 fun r16 c17 e18 =>
      M_cv (as := [.ref a]) (st' := [.int r16.1]) (v := (some (.int r16.1))) c220_47 rfl ⟨Nat.le_of_ble_eq_true rfl, Nat.le_of_ble_eq_true rfl, Nat.le_of_ble_eq_true rfl⟩ rfl rfl (M229_ok (d := d) c17) (Nat.add_lt_add_left (by decide) d) <|
      t_if e18 (fun b19 e20 =>
        M_of (fun _ _ H => r_ifT c220_50 b19 <| H) <|
        M_of (fun _ _ H => r_aloadn c220_55 h0 <| H) <|
        M_get (v := (r16.2.1 29)) c220_56 (by decide) rfl <|
        t_if e20 (fun b21 e22 =>
          M_of (fun _ _ H => r_ifT c220_59 b21 <| H) <|
          M_of (fun _ _ H => r_iconst c220_66 <| H) <|
          J220_67_ok h0 h1 e22 g
        ) (fun b21 e22 =>
          M_of (fun _ _ H => r_ifF c220_59 b21 <| H) <|
          M_of (fun _ _ H => r_iconst c220_62 <| r_goto c220_63 <| H) <|
          J220_67_ok h0 h1 e22 g
        )
      ) (fun b19 e20 =>
        M_of (fun _ _ H => r_ifF c220_50 b19 <| H) <|
        t_up e20 fun o23 e24 u25 =>
        (fun (g26 : o23 = q) =>
        by subst g26; exact (J220_53_ok h0 e24)
        ) (by have := g; rw [u25] at this; exact this)
      )
    )
  ))
theorem L220_35_ok {xt : mj_X} {ct : Nat → Value} {a : Nat} {ra : Nat → Nat} {d N : Nat} {x1 : Int32} {x2 : Int32} {S : mS} {q : Int32 × mS} (e : L220_35 N (x1, x2, S) = some q) : LG220_35 xt ct a ra d q x1 x2 S :=
  t_lp_ok (G := fun s => LG220_35 xt ct a ra d q s.1 s.2.1 s.2.2) (fun s s' e g => B220_35_ok e (by obtain ⟨_, _, _⟩ := s'; exact g)) (fun s e => B220_35_ok e rfl) N (x1, x2, S) e
/-- expression(I)Z -/
def M220 (N : Nat) (x1 : Int32) (S : mS) : Option (Int32 × mS) :=
  if 0 ≤ ((72 + x1)).toInt ∧ ((72 + x1)).toInt < mN 8 then
  L220_35 N (x1, 1, (m_sA (m_sV (m_sV (m_sV (m_sV S 29 0) 30 0) 31 0) 33 0) 8 ((72 + x1)).toInt.toNat (S.1 23)))
  else none
theorem M220_ok {xt : mj_X} {ct : Nat → Value} {a : Nat} {ra : Nat → Nat} {d N : Nat} {x1 : Int32} {S : mS} {q : Int32 × mS} (e : M220 N x1 S = some q) : MR xt ct a ra (d + 7) 220 0 (lv_args 0 [.ref a, .int x1]) [] S (.inl (some (.int q.1))) q.2 := by
  unfold M220 at e
  exact (
  M_of (fun _ _ H => r_aloadn c220_0 rfl <| r_iconst c220_1 <| H) <|
  M_put c220_2 (by decide) <|
  M_of (fun _ _ H => r_aloadn c220_5 rfl <| r_iconst c220_6 <| H) <|
  M_put c220_7 (by decide) <|
  M_of (fun _ _ H => r_aloadn c220_10 rfl <| r_iconst c220_11 <| H) <|
  M_putz c220_12 (by decide) (by decide) <|
  M_of (fun _ _ H => r_aloadn c220_15 rfl <| r_iconst c220_16 <| H) <|
  M_put c220_17 (by decide) <|
  M_of (fun _ _ H => r_aloadn c220_20 rfl <| H) <|
  M_geta (j := 8) c220_21 (by decide) <|
  M_of (fun _ _ H => r_bipush c220_24 <| r_iloadn c220_26 rfl <| r_iadd c220_27 rfl <| r_aloadn c220_28 rfl <| H) <|
  M_get (v := (S.1 23)) c220_29 (by decide) rfl <|
  t_ck e fun i1 e2 =>
  M_iast (j := 8) c220_32 (by decide) i1 <|
  M_of (fun _ _ H => r_iconst c220_33 <| r_istoren c220_34 <| H) <|
  L220_35_ok e2 _ (ld1_ne rfl (by decide) (Or.inl (by decide))) (ld1_ne rfl (by decide) (Or.inr rfl)) ld1_eq)
def J214_51 (N : Nat)   (S : mS) : Option (Int32 × mS) :=
  (M213 N (S.1 22) S).bind fun r11 =>
  if r11.1 = 0 ∨ r11.1 = 1 then
  some (r11.1, r11.2)
  else none
theorem J214_51_ok {xt : mj_X} {ct : Nat → Value} {a : Nat} {ra : Nat → Nat} {d N : Nat} {l : mj_L}   {S : mS} {q : Int32 × mS} (h0 : mj_ld l 0 = some (.ref a)) (e : J214_51 N   S = some q) : MR xt ct a ra (d + 8) 214 51 l [] S (.inl (some (.int q.1))) q.2 := by
  unfold J214_51 at e
  exact (
  M_of (fun _ _ H => r_aloadn c214_51 h0 <| r_aloadn c214_52 h0 <| H) <|
  M_get (v := (S.1 22)) c214_53 (by decide) rfl <|
  t_bd e fun r11 c12 e13 =>
  M_cv (as := [.ref a, .int (S.1 22)]) (st' := [.int r11.1]) (v := (some (.int r11.1))) c214_56 rfl ⟨Nat.le_of_ble_eq_true rfl, Nat.le_of_ble_eq_true rfl, Nat.le_of_ble_eq_true rfl⟩ rfl rfl (M213_ok (d := d) c12) (Nat.add_lt_add_left (by decide) d) <|
  t_ck e13 fun z14 e15 =>
  M_ri (Option.some.inj e15) (fun _ => r_iret c214_59 (m_z1 z14)))
def J214_271 (N : Nat)  (s0 : Int32) (S : mS) : Option (Int32 × mS) :=
  if s0 = 0 ∨ s0 = 1 then
  some (s0, S)
  else none
theorem J214_271_ok {xt : mj_X} {ct : Nat → Value} {a : Nat} {ra : Nat → Nat} {d N : Nat} {l : mj_L}  {s0 : Int32} {S : mS} {q : Int32 × mS} (h0 : mj_ld l 0 = some (.ref a)) (e : J214_271 N  s0 S = some q) : MR xt ct a ra (d + 8) 214 271 l [.int s0] S (.inl (some (.int q.1))) q.2 := by
  unfold J214_271 at e
  exact (
  t_ck e fun z57 e58 =>
  M_ri (Option.some.inj e58) (fun _ => r_iret c214_271 (m_z1 z57)))
def J214_235 (N : Nat) (x3 : Int32) (x4 : Int32)  (S : mS) : Option (Int32 × mS) :=
  (M220 N x3 S).bind fun r45 =>
  bif mj_c1 .ne r45.1 then
    if 0 ≤ (x4).toInt ∧ (x4).toInt < mN 6 then
    bif mj_c2 .ne (r45.2.2.1 6 (x4).toInt.toNat) 2 then
      (M219 N 59 r45.2).bind fun r54 =>
      J214_271 N r54.1 r54.2
    else
    (M218 N x3 0 r45.2).bind fun r59 =>
    J214_271 N r59.1 r59.2
    else none
  else
  some (0, r45.2)
theorem J214_235_ok {xt : mj_X} {ct : Nat → Value} {a : Nat} {ra : Nat → Nat} {d N : Nat} {l : mj_L} {x3 : Int32} {x4 : Int32}  {S : mS} {q : Int32 × mS} (h0 : mj_ld l 0 = some (.ref a)) (h3 : mj_ld l 3 = some (.int x3)) (h4 : mj_ld l 4 = some (.int x4)) (e : J214_235 N x3 x4  S = some q) : MR xt ct a ra (d + 8) 214 235 l [] S (.inl (some (.int q.1))) q.2 := by
  unfold J214_235 at e
  exact (
  M_of (fun _ _ H => r_aloadn c214_235 h0 <| r_iloadn c214_236 h3 <| H) <|
  t_bd e fun r45 c46 e47 =>
  M_cv (as := [.ref a, .int x3]) (st' := [.int r45.1]) (v := (some (.int r45.1))) c214_237 rfl ⟨Nat.le_of_ble_eq_true rfl, Nat.le_of_ble_eq_true rfl, Nat.le_of_ble_eq_true rfl⟩ rfl rfl (M220_ok (d := d) c46) (Nat.add_lt_add_left (by decide) d) <|
  t_if e47 (fun b48 e49 =>
    M_of (fun _ _ H => r_ifT c214_240 b48 <| H) <|
    M_of (fun _ _ H => r_aloadn c214_245 h0 <| H) <|
    M_geta (j := 6) c214_246 (by decide) <|
    M_of (fun _ _ H => r_iload c214_249 h4 <| H) <|
    t_ck e49 fun i50 e51 =>
    M_iald (j := 6) (v := (r45.2.2.1 6 (x4).toInt.toNat)) c214_251 (by decide) i50 rfl <|
    M_of (fun _ _ H => r_iconst c214_252 <| H) <|
    t_if e51 (fun b52 e53 =>
      M_of (fun _ _ H => r_icmpT c214_253 b52 <| H) <|
      M_of (fun _ _ H => r_aloadn c214_265 h0 <| r_bipush c214_266 <| H) <|
      t_bd e53 fun r54 c55 e56 =>
      M_cv (as := [.ref a, .int 59]) (st' := [.int r54.1]) (v := (some (.int r54.1))) c214_268 rfl ⟨Nat.le_of_ble_eq_true rfl, Nat.le_of_ble_eq_true rfl, Nat.le_of_ble_eq_true rfl⟩ rfl rfl (M219_ok (d := d) c55) (Nat.add_lt_add_left (by decide) d) <|
      J214_271_ok h0 e56
    ) (fun b52 e53 =>
      M_of (fun _ _ H => r_icmpF c214_253 b52 <| H) <|
      M_of (fun _ _ H => r_aloadn c214_256 h0 <| r_iloadn c214_257 h3 <| r_iconst c214_258 <| H) <|
      t_bd e53 fun r59 c60 e61 =>
      M_cv (as := [.ref a, .int x3, .int 0]) (st' := [.int r59.1]) (v := (some (.int r59.1))) c214_259 rfl ⟨Nat.le_of_ble_eq_true rfl, Nat.le_of_ble_eq_true rfl, Nat.le_of_ble_eq_true rfl⟩ rfl rfl (M218_ok (d := d) c60) (Nat.add_lt_add_left (by decide) d) <|
      M_of (fun _ _ H => r_goto c214_262 <| H) <|
      J214_271_ok h0 e61
    )
  ) (fun b48 e49 =>
    M_of (fun _ _ H => r_ifF c214_240 b48 <| H) <|
    M_of (fun _ _ H => r_iconst c214_243 <| H) <|
    M_ri (Option.some.inj e49) (fun _ => r_iret c214_244 rfl)
  ))
def J214_142 (N : Nat) (x3 : Int32) (x4 : Int32) (s0 : Int32) (s1 : Int32) (S : mS) : Option (Int32 × mS) :=
  if 0 ≤ (s1).toInt ∧ (s1).toInt < mN 7 then
  if 0 ≤ (x4).toInt ∧ (x4).toInt < mN 10 then
  if 0 ≤ (x4).toInt ∧ (x4).toInt < mN 11 then
  if 0 ≤ (x4).toInt ∧ (x4).toInt < mN 6 then
  bif mj_c2 .ne (S.2.1 6 (x4).toInt.toNat) 3 then
    if 0 ≤ (x4).toInt ∧ (x4).toInt < mN 6 then
    bif mj_c1 .ne (S.2.1 6 (x4).toInt.toNat) then
      J214_235 N x3 x4 (m_sV (m_sA (m_sA (m_sA S 7 (s1).toInt.toNat s0) 10 (x4).toInt.toNat (x3 + 1)) 11 (x4).toInt.toNat (x3 + 1)) 22 ((S.1 22) + 1))
    else
    (M219 N 61 (m_sV (m_sA (m_sA (m_sA S 7 (s1).toInt.toNat s0) 10 (x4).toInt.toNat (x3 + 1)) 11 (x4).toInt.toNat (x3 + 1)) 22 ((S.1 22) + 1))).bind fun r62 =>
    bif mj_c1 .ne r62.1 then
      J214_235 N x3 x4 r62.2
    else
    some (0, r62.2)
    else none
  else
  (M216 N 0 20 (m_sV (m_sA (m_sA (m_sA S 7 (s1).toInt.toNat s0) 10 (x4).toInt.toNat (x3 + 1)) 11 (x4).toInt.toNat (x3 + 1)) 22 ((S.1 22) + 1))).bind fun r67 =>
  bif mj_c1 .ne r67.1 then
    if 0 ≤ (x4).toInt ∧ (x4).toInt < mN 7 then
    (M218 N x3 0 (m_sA r67.2 7 (x4).toInt.toNat (r67.2.1 26))).bind fun r74 =>
    if r74.1 = 0 ∨ r74.1 = 1 then
    some (r74.1, r74.2)
    else none
    else none
  else
  some (0, r67.2)
  else none
  else none
  else none
  else none
theorem J214_142_ok {xt : mj_X} {ct : Nat → Value} {a : Nat} {ra : Nat → Nat} {d N : Nat} {l : mj_L} {x3 : Int32} {x4 : Int32} {s0 : Int32} {s1 : Int32} {S : mS} {q : Int32 × mS} (h0 : mj_ld l 0 = some (.ref a)) (h3 : mj_ld l 3 = some (.int x3)) (h4 : mj_ld l 4 = some (.int x4)) (e : J214_142 N x3 x4 s0 s1 S = some q) : MR xt ct a ra (d + 8) 214 142 l [.int s0, .int s1, .ref (ra 7)] S (.inl (some (.int q.1))) q.2 := by
  unfold J214_142 at e
  exact (
  t_ck e fun i31 e32 =>
  M_iast (j := 7) c214_142 (by decide) i31 <|
  M_of (fun _ _ H => r_aloadn c214_143 h0 <| H) <|
  M_geta (j := 10) c214_144 (by decide) <|
  M_of (fun _ _ H => r_iload c214_147 h4 <| r_iloadn c214_149 h3 <| r_iconst c214_150 <| r_iadd c214_151 rfl <| H) <|
  t_ck e32 fun i33 e34 =>
  M_iast (j := 10) c214_152 (by decide) i33 <|
  M_of (fun _ _ H => r_aloadn c214_153 h0 <| H) <|
  M_geta (j := 11) c214_154 (by decide) <|
  M_of (fun _ _ H => r_iload c214_157 h4 <| r_iloadn c214_159 h3 <| r_iconst c214_160 <| r_iadd c214_161 rfl <| H) <|
  t_ck e34 fun i35 e36 =>
  M_iast (j := 11) c214_162 (by decide) i35 <|
  M_of (fun _ _ H => r_aloadn c214_163 h0 <| r_dup c214_164 rfl <| H) <|
  M_get (v := (S.1 22)) c214_165 (by decide) rfl <|
  M_of (fun _ _ H => r_iconst c214_168 <| r_iadd c214_169 rfl <| H) <|
  M_put c214_170 (by decide) <|
  M_of (fun _ _ H => r_aloadn c214_173 h0 <| H) <|
  M_geta (j := 6) c214_174 (by decide) <|
  M_of (fun _ _ H => r_iload c214_177 h4 <| H) <|
  t_ck e36 fun i37 e38 =>
  M_iald (j := 6) (v := (S.2.1 6 (x4).toInt.toNat)) c214_179 (by decide) i37 rfl <|
  M_of (fun _ _ H => r_iconst c214_180 <| H) <|
  t_if e38 (fun b39 e40 =>
    M_of (fun _ _ H => r_icmpT c214_181 b39 <| H) <|
    M_of (fun _ _ H => r_aloadn c214_214 h0 <| H) <|
    M_geta (j := 6) c214_215 (by decide) <|
    M_of (fun _ _ H => r_iload c214_218 h4 <| H) <|
    t_ck e40 fun i41 e42 =>
    M_iald (j := 6) (v := (S.2.1 6 (x4).toInt.toNat)) c214_220 (by decide) i41 rfl <|
    t_if e42 (fun b43 e44 =>
      M_of (fun _ _ H => r_ifT c214_221 b43 <| H) <|
      J214_235_ok h0 h3 h4 e44
    ) (fun b43 e44 =>
      M_of (fun _ _ H => r_ifF c214_221 b43 <| H) <|
      M_of (fun _ _ H => r_aloadn c214_224 h0 <| r_bipush c214_225 <| H) <|
      t_bd e44 fun r62 c63 e64 =>
      M_cv (as := [.ref a, .int 61]) (st' := [.int r62.1]) (v := (some (.int r62.1))) c214_227 rfl ⟨Nat.le_of_ble_eq_true rfl, Nat.le_of_ble_eq_true rfl, Nat.le_of_ble_eq_true rfl⟩ rfl rfl (M219_ok (d := d) c63) (Nat.add_lt_add_left (by decide) d) <|
      t_if e64 (fun b65 e66 =>
        M_of (fun _ _ H => r_ifT c214_230 b65 <| H) <|
        J214_235_ok h0 h3 h4 e66
      ) (fun b65 e66 =>
        M_of (fun _ _ H => r_ifF c214_230 b65 <| H) <|
        M_of (fun _ _ H => r_iconst c214_233 <| H) <|
        M_ri (Option.some.inj e66) (fun _ => r_iret c214_234 rfl)
      )
    )
  ) (fun b39 e40 =>
    M_of (fun _ _ H => r_icmpF c214_181 b39 <| H) <|
    M_of (fun _ _ H => r_aloadn c214_184 h0 <| r_iconst c214_185 <| r_bipush c214_186 <| H) <|
    t_bd e40 fun r67 c68 e69 =>
    M_cv (as := [.ref a, .int 0, .int 20]) (st' := [.int r67.1]) (v := (some (.int r67.1))) c214_188 rfl ⟨Nat.le_of_ble_eq_true rfl, Nat.le_of_ble_eq_true rfl, Nat.le_of_ble_eq_true rfl⟩ rfl rfl (M216_ok (d := d) c68) (Nat.add_lt_add_left (by decide) d) <|
    t_if e69 (fun b70 e71 =>
      M_of (fun _ _ H => r_ifT c214_191 b70 <| H) <|
      M_of (fun _ _ H => r_aloadn c214_196 h0 <| H) <|
      M_geta (j := 7) c214_197 (by decide) <|
      M_of (fun _ _ H => r_iload c214_200 h4 <| r_aloadn c214_202 h0 <| H) <|
      M_get (v := (r67.2.1 26)) c214_203 (by decide) rfl <|
      t_ck e71 fun i72 e73 =>
      M_iast (j := 7) c214_206 (by decide) i72 <|
      M_of (fun _ _ H => r_aloadn c214_207 h0 <| r_iloadn c214_208 h3 <| r_iconst c214_209 <| H) <|
      t_bd e73 fun r74 c75 e76 =>
      M_cv (as := [.ref a, .int x3, .int 0]) (st' := [.int r74.1]) (v := (some (.int r74.1))) c214_210 rfl ⟨Nat.le_of_ble_eq_true rfl, Nat.le_of_ble_eq_true rfl, Nat.le_of_ble_eq_true rfl⟩ rfl rfl (M218_ok (d := d) c75) (Nat.add_lt_add_left (by decide) d) <|
      t_ck e76 fun z77 e78 =>
      M_ri (Option.some.inj e78) (fun _ => r_iret c214_213 (m_z1 z77))
    ) (fun b70 e71 =>
      M_of (fun _ _ H => r_ifF c214_191 b70 <| H) <|
      M_of (fun _ _ H => r_iconst c214_194 <| H) <|
      M_ri (Option.some.inj e71) (fun _ => r_iret c214_195 rfl)
    )
  ))
def J214_120 (N : Nat) (x1 : Int32) (x3 : Int32) (x4 : Int32) (s0 : Int32) (s1 : Int32) (S : mS) : Option (Int32 × mS) :=
  if 0 ≤ (s1).toInt ∧ (s1).toInt < mN 6 then
  (M215 N (m_sA S 6 (s1).toInt.toNat s0)).bind fun r26 =>
  bif mj_c1 .eq r26.1 then
    J214_142 N x3 x4 0 x4 r26.2
  else
  J214_142 N x3 x4 (x1 - 65) x4 r26.2
  else none
theorem J214_120_ok {xt : mj_X} {ct : Nat → Value} {a : Nat} {ra : Nat → Nat} {d N : Nat} {l : mj_L} {x1 : Int32} {x3 : Int32} {x4 : Int32} {s0 : Int32} {s1 : Int32} {S : mS} {q : Int32 × mS} (h0 : mj_ld l 0 = some (.ref a)) (h1 : mj_ld l 1 = some (.int x1)) (h3 : mj_ld l 3 = some (.int x3)) (h4 : mj_ld l 4 = some (.int x4)) (e : J214_120 N x1 x3 x4 s0 s1 S = some q) : MR xt ct a ra (d + 8) 214 120 l [.int s0, .int s1, .ref (ra 6)] S (.inl (some (.int q.1))) q.2 := by
  unfold J214_120 at e
  exact (
  t_ck e fun i24 e25 =>
  M_iast (j := 6) c214_120 (by decide) i24 <|
  M_of (fun _ _ H => r_aloadn c214_121 h0 <| H) <|
  M_geta (j := 7) c214_122 (by decide) <|
  M_of (fun _ _ H => r_iload c214_125 h4 <| r_aloadn c214_127 h0 <| H) <|
  t_bd e25 fun r26 c27 e28 =>
  M_cv (as := [.ref a]) (st' := [.int r26.1, .int x4, .ref (ra 7)]) (v := (some (.int r26.1))) c214_128 rfl ⟨Nat.le_of_ble_eq_true rfl, Nat.le_of_ble_eq_true rfl, Nat.le_of_ble_eq_true rfl⟩ rfl rfl (M215_ok (d := d) c27) (Nat.add_lt_add_left (by decide) d) <|
  t_if e28 (fun b29 e30 =>
    M_of (fun _ _ H => r_ifT c214_131 b29 <| H) <|
    M_of (fun _ _ H => r_iconst c214_141 <| H) <|
    J214_142_ok h0 h3 h4 e30
  ) (fun b29 e30 =>
    M_of (fun _ _ H => r_ifF c214_131 b29 <| H) <|
    M_of (fun _ _ H => r_iloadn c214_134 h1 <| r_bipush c214_135 <| r_isub c214_137 rfl <| r_goto c214_138 <| H) <|
    J214_142_ok h0 h3 h4 e30
  ))
def J214_35 (N : Nat) (x1 : Int32) (s0 : Int32) (S : mS) : Option (Int32 × mS) :=
  bif mj_c1 .eq s0 then
    J214_51 N S
  else
  bif mj_c2 .ne (S.2.1 5 3) 24 then
    bif mj_c2 .ne x1 33 then
      bif mj_c2 .ne x1 63 then
        bif mj_c2 .ne x1 42 then
          J214_120 N x1 (S.2.1 5 3) (72 + (S.2.1 5 3)) 0 (72 + (S.2.1 5 3)) (m_sA S 5 3 ((S.2.1 5 3) + 1))
        else
        J214_120 N x1 (S.2.1 5 3) (72 + (S.2.1 5 3)) 3 (72 + (S.2.1 5 3)) (m_sA S 5 3 ((S.2.1 5 3) + 1))
      else
      J214_120 N x1 (S.2.1 5 3) (72 + (S.2.1 5 3)) 2 (72 + (S.2.1 5 3)) (m_sA S 5 3 ((S.2.1 5 3) + 1))
    else
    J214_120 N x1 (S.2.1 5 3) (72 + (S.2.1 5 3)) 1 (72 + (S.2.1 5 3)) (m_sA S 5 3 ((S.2.1 5 3) + 1))
  else
  J214_51 N S
theorem J214_35_ok {xt : mj_X} {ct : Nat → Value} {a : Nat} {ra : Nat → Nat} {d N : Nat} {l : mj_L} {x1 : Int32} {s0 : Int32} {S : mS} {q : Int32 × mS} (h0 : mj_ld l 0 = some (.ref a)) (h1 : mj_ld l 1 = some (.int x1)) (e : J214_35 N x1 s0 S = some q) : MR xt ct a ra (d + 8) 214 35 l [.int s0] S (.inl (some (.int q.1))) q.2 := by
  unfold J214_35 at e
  exact (
  M_of (fun _ _ H => r_istoren c214_35 <| r_iloadn c214_36 ld1_eq <| H) <|
  t_if e (fun b9 e10 =>
    M_of (fun _ _ H => r_ifT c214_37 b9 <| H) <|
    J214_51_ok (ld1_ne h0 (by decide) (Or.inl (by decide))) e10
  ) (fun b9 e10 =>
    M_of (fun _ _ H => r_ifF c214_37 b9 <| H) <|
    M_of (fun _ _ H => r_aloadn c214_40 (ld1_ne h0 (by decide) (Or.inl (by decide))) <| H) <|
    M_geta (j := 5) c214_41 (by decide) <|
    M_of (fun _ _ H => r_iconst c214_44 <| H) <|
    M_iald (j := 5) (v := (S.2.1 5 3)) c214_45 (by decide) (by decide) rfl <|
    M_of (fun _ _ H => r_bipush c214_46 <| H) <|
    t_if e10 (fun b16 e17 =>
      M_of (fun _ _ H => r_icmpT c214_48 b16 <| H) <|
      M_of (fun _ _ H => r_aloadn c214_60 (ld1_ne h0 (by decide) (Or.inl (by decide))) <| H) <|
      M_geta (j := 5) c214_61 (by decide) <|
      M_of (fun _ _ H => r_iconst c214_64 <| H) <|
      M_iald (j := 5) (v := (S.2.1 5 3)) c214_65 (by decide) (by decide) rfl <|
      M_of (fun _ _ H => r_istoren c214_66 <| r_bipush c214_67 <| r_iloadn c214_69 ld1_eq <| r_iadd c214_70 rfl <| r_istore c214_71 <| r_aloadn c214_73 (ld1_ne (ld1_ne (ld1_ne h0 (by decide) (Or.inl (by decide))) (by decide) (Or.inl (by decide))) (by decide) (Or.inl (by decide))) <| H) <|
      M_geta (j := 5) c214_74 (by decide) <|
      M_of (fun _ _ H => r_iconst c214_77 <| r_dup2ia c214_78 <| H) <|
      M_iald (j := 5) (v := (S.2.1 5 3)) c214_79 (by decide) (by decide) rfl <|
      M_of (fun _ _ H => r_iconst c214_80 <| r_iadd c214_81 rfl <| H) <|
      M_iast (j := 5) c214_82 (by decide) (by decide) <|
      M_of (fun _ _ H => r_aloadn c214_83 (ld1_ne (ld1_ne (ld1_ne h0 (by decide) (Or.inl (by decide))) (by decide) (Or.inl (by decide))) (by decide) (Or.inl (by decide))) <| H) <|
      M_geta (j := 6) c214_84 (by decide) <|
      M_of (fun _ _ H => r_iload c214_87 ld1_eq <| r_iloadn c214_89 (ld1_ne (ld1_ne (ld1_ne h1 (by decide) (Or.inr rfl)) (by decide) (Or.inl (by decide))) (by decide) (Or.inl (by decide))) <| r_bipush c214_90 <| H) <|
      t_if e17 (fun b18 e19 =>
        M_of (fun _ _ H => r_icmpT c214_92 b18 <| H) <|
        M_of (fun _ _ H => r_iloadn c214_99 (ld1_ne (ld1_ne (ld1_ne h1 (by decide) (Or.inr rfl)) (by decide) (Or.inl (by decide))) (by decide) (Or.inl (by decide))) <| r_bipush c214_100 <| H) <|
        t_if e19 (fun b20 e21 =>
          M_of (fun _ _ H => r_icmpT c214_102 b20 <| H) <|
          M_of (fun _ _ H => r_iloadn c214_109 (ld1_ne (ld1_ne (ld1_ne h1 (by decide) (Or.inr rfl)) (by decide) (Or.inl (by decide))) (by decide) (Or.inl (by decide))) <| r_bipush c214_110 <| H) <|
          t_if e21 (fun b22 e23 =>
            M_of (fun _ _ H => r_icmpT c214_112 b22 <| H) <|
            M_of (fun _ _ H => r_iconst c214_119 <| H) <|
            J214_120_ok (ld1_ne (ld1_ne (ld1_ne h0 (by decide) (Or.inl (by decide))) (by decide) (Or.inl (by decide))) (by decide) (Or.inl (by decide))) (ld1_ne (ld1_ne (ld1_ne h1 (by decide) (Or.inr rfl)) (by decide) (Or.inl (by decide))) (by decide) (Or.inl (by decide))) (ld1_ne ld1_eq (by decide) (Or.inr rfl)) ld1_eq e23
          ) (fun b22 e23 =>
            M_of (fun _ _ H => r_icmpF c214_112 b22 <| H) <|
            M_of (fun _ _ H => r_iconst c214_115 <| r_goto c214_116 <| H) <|
            J214_120_ok (ld1_ne (ld1_ne (ld1_ne h0 (by decide) (Or.inl (by decide))) (by decide) (Or.inl (by decide))) (by decide) (Or.inl (by decide))) (ld1_ne (ld1_ne (ld1_ne h1 (by decide) (Or.inr rfl)) (by decide) (Or.inl (by decide))) (by decide) (Or.inl (by decide))) (ld1_ne ld1_eq (by decide) (Or.inr rfl)) ld1_eq e23
          )
        ) (fun b20 e21 =>
          M_of (fun _ _ H => r_icmpF c214_102 b20 <| H) <|
          M_of (fun _ _ H => r_iconst c214_105 <| r_goto c214_106 <| H) <|
          J214_120_ok (ld1_ne (ld1_ne (ld1_ne h0 (by decide) (Or.inl (by decide))) (by decide) (Or.inl (by decide))) (by decide) (Or.inl (by decide))) (ld1_ne (ld1_ne (ld1_ne h1 (by decide) (Or.inr rfl)) (by decide) (Or.inl (by decide))) (by decide) (Or.inl (by decide))) (ld1_ne ld1_eq (by decide) (Or.inr rfl)) ld1_eq e21
        )
      ) (fun b18 e19 =>
        M_of (fun _ _ H => r_icmpF c214_92 b18 <| H) <|
        M_of (fun _ _ H => r_iconst c214_95 <| r_goto c214_96 <| H) <|
        J214_120_ok (ld1_ne (ld1_ne (ld1_ne h0 (by decide) (Or.inl (by decide))) (by decide) (Or.inl (by decide))) (by decide) (Or.inl (by decide))) (ld1_ne (ld1_ne (ld1_ne h1 (by decide) (Or.inr rfl)) (by decide) (Or.inl (by decide))) (by decide) (Or.inl (by decide))) (ld1_ne ld1_eq (by decide) (Or.inr rfl)) ld1_eq e19
      )
    ) (fun b16 e17 =>
      M_of (fun _ _ H => r_icmpF c214_48 b16 <| H) <|
      J214_51_ok (ld1_ne h0 (by decide) (Or.inl (by decide))) e17
    )
  ))
def J214_30 (N : Nat) (x1 : Int32)  (S : mS) : Option (Int32 × mS) :=
  J214_35 N x1 1 S
theorem J214_30_ok {xt : mj_X} {ct : Nat → Value} {a : Nat} {ra : Nat → Nat} {d N : Nat} {l : mj_L} {x1 : Int32}  {S : mS} {q : Int32 × mS} (h0 : mj_ld l 0 = some (.ref a)) (h1 : mj_ld l 1 = some (.int x1)) (e : J214_30 N x1  S = some q) : MR xt ct a ra (d + 8) 214 30 l [] S (.inl (some (.int q.1))) q.2 := by
  unfold J214_30 at e
  exact (
  M_of (fun _ _ H => r_iconst c214_30 <| r_goto c214_31 <| H) <|
  J214_35_ok h0 h1 e)
/-- statement()Z -/
def M214 (N : Nat)  (S : mS) : Option (Int32 × mS) :=
  (M212 N S).bind fun r1 =>
  (M215 N r1.2).bind fun r4 =>
  bif mj_c1 .ne r4.1 then
    J214_30 N r1.1 r4.2
  else
  bif mj_c2 .eq r1.1 33 then
    J214_30 N r1.1 r4.2
  else
  bif mj_c2 .eq r1.1 63 then
    J214_30 N r1.1 r4.2
  else
  bif mj_c2 .ne r1.1 42 then
    J214_35 N r1.1 0 r4.2
  else
  J214_30 N r1.1 r4.2
theorem M214_ok {xt : mj_X} {ct : Nat → Value} {a : Nat} {ra : Nat → Nat} {d N : Nat}  {S : mS} {q : Int32 × mS} (e : M214 N  S = some q) : MR xt ct a ra (d + 8) 214 0 (lv_args 0 [.ref a]) [] S (.inl (some (.int q.1))) q.2 := by
  unfold M214 at e
  exact (
  M_of (fun _ _ H => r_aloadn c214_0 rfl <| H) <|
  t_bd e fun r1 c2 e3 =>
  M_cv (as := [.ref a]) (st' := [.int r1.1]) (v := (some (.int r1.1))) c214_1 rfl ⟨Nat.le_of_ble_eq_true rfl, Nat.le_of_ble_eq_true rfl, Nat.le_of_ble_eq_true rfl⟩ rfl rfl (M212_ok (d := d) c2) (Nat.add_lt_add_left (by decide) d) <|
  M_of (fun _ _ H => r_istoren c214_4 <| r_aloadn c214_5 (ld1_ne rfl (by decide) (Or.inr rfl)) <| H) <|
  t_bd e3 fun r4 c5 e6 =>
  M_cv (as := [.ref a]) (st' := [.int r4.1]) (v := (some (.int r4.1))) c214_6 rfl ⟨Nat.le_of_ble_eq_true rfl, Nat.le_of_ble_eq_true rfl, Nat.le_of_ble_eq_true rfl⟩ rfl rfl (M215_ok (d := d) c5) (Nat.add_lt_add_left (by decide) d) <|
  t_if e6 (fun b7 e8 =>
    M_of (fun _ _ H => r_ifT c214_9 b7 <| H) <|
    J214_30_ok (ld1_ne rfl (by decide) (Or.inr rfl)) ld1_eq e8
  ) (fun b7 e8 =>
    M_of (fun _ _ H => r_ifF c214_9 b7 <| H) <|
    M_of (fun _ _ H => r_iloadn c214_12 ld1_eq <| r_bipush c214_13 <| H) <|
    t_if e8 (fun b79 e80 =>
      M_of (fun _ _ H => r_icmpT c214_15 b79 <| H) <|
      J214_30_ok (ld1_ne rfl (by decide) (Or.inr rfl)) ld1_eq e80
    ) (fun b79 e80 =>
      M_of (fun _ _ H => r_icmpF c214_15 b79 <| H) <|
      M_of (fun _ _ H => r_iloadn c214_18 ld1_eq <| r_bipush c214_19 <| H) <|
      t_if e80 (fun b81 e82 =>
        M_of (fun _ _ H => r_icmpT c214_21 b81 <| H) <|
        J214_30_ok (ld1_ne rfl (by decide) (Or.inr rfl)) ld1_eq e82
      ) (fun b81 e82 =>
        M_of (fun _ _ H => r_icmpF c214_21 b81 <| H) <|
        M_of (fun _ _ H => r_iloadn c214_24 ld1_eq <| r_bipush c214_25 <| H) <|
        t_if e82 (fun b83 e84 =>
          M_of (fun _ _ H => r_icmpT c214_27 b83 <| H) <|
          M_of (fun _ _ H => r_iconst c214_34 <| H) <|
          J214_35_ok (ld1_ne rfl (by decide) (Or.inr rfl)) ld1_eq e84
        ) (fun b83 e84 =>
          M_of (fun _ _ H => r_icmpF c214_27 b83 <| H) <|
          J214_30_ok (ld1_ne rfl (by decide) (Or.inr rfl)) ld1_eq e84
        )
      )
    )
  ))
def J234_114 (N : Nat)   (S : mS) : Option (Int32 × mS) :=
  some (1, S)
theorem J234_114_ok {xt : mj_X} {ct : Nat → Value} {a : Nat} {ra : Nat → Nat} {d N : Nat} {l : mj_L}   {S : mS} {q : Int32 × mS} (h0 : mj_ld l 0 = some (.ref a)) (e : J234_114 N   S = some q) : MR xt ct a ra (d + 3) 234 114 l [] S (.inl (some (.int q.1))) q.2 := by
  unfold J234_114 at e
  exact (
  M_of (fun _ _ H => r_iconst c234_114 <| H) <|
  M_ri (Option.some.inj e) (fun _ => r_iret c234_115 rfl))
/-- leave()Z -/
def M234 (N : Nat)  (S : mS) : Option (Int32 × mS) :=
  (M219 N 125 S).bind fun r1 =>
  bif mj_c1 .ne r1.1 then
    if 0 ≤ (((r1.2.1 36) - 1)).toInt ∧ (((r1.2.1 36) - 1)).toInt < mN 34 then
    if 0 ≤ ((72 + (r1.2.2.1 34 (((r1.2.1 36) - 1)).toInt.toNat))).toInt ∧ ((72 + (r1.2.2.1 34 (((r1.2.1 36) - 1)).toInt.toNat))).toInt < mN 11 then
    if 0 ≤ ((72 + (r1.2.2.1 34 (((r1.2.1 36) - 1)).toInt.toNat))).toInt ∧ ((72 + (r1.2.2.1 34 (((r1.2.1 36) - 1)).toInt.toNat))).toInt < mN 6 then
    bif mj_c2 .ne (r1.2.2.1 6 ((72 + (r1.2.2.1 34 (((r1.2.1 36) - 1)).toInt.toNat))).toInt.toNat) 2 then
      J234_114 N (m_sA (m_sV r1.2 36 ((r1.2.1 36) - 1)) 11 ((72 + (r1.2.2.1 34 (((r1.2.1 36) - 1)).toInt.toNat))).toInt.toNat (r1.2.2.1 5 3))
    else
    if 0 ≤ (((r1.2.1 36) - 1)).toInt ∧ (((r1.2.1 36) - 1)).toInt < mN 35 then
    bif mj_c1 .ne (r1.2.2.1 35 (((r1.2.1 36) - 1)).toInt.toNat) then
      J234_114 N (m_sA (m_sV r1.2 36 ((r1.2.1 36) - 1)) 11 ((72 + (r1.2.2.1 34 (((r1.2.1 36) - 1)).toInt.toNat))).toInt.toNat (r1.2.2.1 5 3))
    else
    if 0 ≤ ((72 + (r1.2.2.1 34 (((r1.2.1 36) - 1)).toInt.toNat))).toInt ∧ ((72 + (r1.2.2.1 34 (((r1.2.1 36) - 1)).toInt.toNat))).toInt < mN 10 then
    (M212 N (m_sA (m_sA (m_sV r1.2 36 ((r1.2.1 36) - 1)) 11 ((72 + (r1.2.2.1 34 (((r1.2.1 36) - 1)).toInt.toNat))).toInt.toNat (r1.2.2.1 5 3)) 10 ((72 + (r1.2.2.1 34 (((r1.2.1 36) - 1)).toInt.toNat))).toInt.toNat (r1.2.2.1 5 3))).bind fun r20 =>
    bif mj_c2 .ne r20.1 58 then
      J234_114 N r20.2
    else
    if 0 ≤ ((r20.2.1 36)).toInt ∧ ((r20.2.1 36)).toInt < mN 34 then
    (M218 N (r20.2.2.1 34 ((r20.2.1 36)).toInt.toNat) 1 (m_sV r20.2 22 ((r20.2.1 22) + 1))).bind fun r27 =>
    if r27.1 = 0 ∨ r27.1 = 1 then
    some (r27.1, r27.2)
    else none
    else none
    else none
    else none
    else none
    else none
    else none
  else
  some (0, r1.2)
theorem M234_ok {xt : mj_X} {ct : Nat → Value} {a : Nat} {ra : Nat → Nat} {d N : Nat}  {S : mS} {q : Int32 × mS} (e : M234 N  S = some q) : MR xt ct a ra (d + 3) 234 0 (lv_args 0 [.ref a]) [] S (.inl (some (.int q.1))) q.2 := by
  unfold M234 at e
  exact (
  M_of (fun _ _ H => r_aloadn c234_0 rfl <| r_bipush c234_1 <| H) <|
  t_bd e fun r1 c2 e3 =>
  M_cv (as := [.ref a, .int 125]) (st' := [.int r1.1]) (v := (some (.int r1.1))) c234_3 rfl ⟨Nat.le_of_ble_eq_true rfl, Nat.le_of_ble_eq_true rfl, Nat.le_of_ble_eq_true rfl⟩ rfl rfl (M219_ok (d := d) c2) (Nat.add_lt_add_left (by decide) d) <|
  t_if e3 (fun b4 e5 =>
    M_of (fun _ _ H => r_ifT c234_6 b4 <| H) <|
    M_of (fun _ _ H => r_aloadn c234_11 rfl <| r_dup c234_12 rfl <| H) <|
    M_get (v := (r1.2.1 36)) c234_13 (by decide) rfl <|
    M_of (fun _ _ H => r_iconst c234_16 <| r_isub c234_17 rfl <| H) <|
    M_put c234_18 (by decide) <|
    M_of (fun _ _ H => r_bipush c234_21 <| r_aloadn c234_23 rfl <| H) <|
    M_geta (j := 34) c234_24 (by decide) <|
    M_of (fun _ _ H => r_aloadn c234_27 rfl <| H) <|
    M_get (v := ((r1.2.1 36) - 1)) c234_28 (by decide) rfl <|
    t_ck e5 fun i6 e7 =>
    M_iald (j := 34) (v := (r1.2.2.1 34 (((r1.2.1 36) - 1)).toInt.toNat)) c234_31 (by decide) i6 rfl <|
    M_of (fun _ _ H => r_iadd c234_32 rfl <| r_istoren c234_33 <| r_aloadn c234_34 (ld1_ne rfl (by decide) (Or.inr rfl)) <| H) <|
    M_geta (j := 11) c234_35 (by decide) <|
    M_of (fun _ _ H => r_iloadn c234_38 ld1_eq <| r_aloadn c234_39 (ld1_ne rfl (by decide) (Or.inr rfl)) <| H) <|
    M_geta (j := 5) c234_40 (by decide) <|
    M_of (fun _ _ H => r_iconst c234_43 <| H) <|
    M_iald (j := 5) (v := (r1.2.2.1 5 3)) c234_44 (by decide) (by decide) rfl <|
    t_ck e7 fun i8 e9 =>
    M_iast (j := 11) c234_45 (by decide) i8 <|
    M_of (fun _ _ H => r_aloadn c234_46 (ld1_ne rfl (by decide) (Or.inr rfl)) <| H) <|
    M_geta (j := 6) c234_47 (by decide) <|
    M_of (fun _ _ H => r_iloadn c234_50 ld1_eq <| H) <|
    t_ck e9 fun i10 e11 =>
    M_iald (j := 6) (v := (r1.2.2.1 6 ((72 + (r1.2.2.1 34 (((r1.2.1 36) - 1)).toInt.toNat))).toInt.toNat)) c234_51 (by decide) i10 rfl <|
    M_of (fun _ _ H => r_iconst c234_52 <| H) <|
    t_if e11 (fun b12 e13 =>
      M_of (fun _ _ H => r_icmpT c234_53 b12 <| H) <|
      J234_114_ok (ld1_ne rfl (by decide) (Or.inr rfl)) e13
    ) (fun b12 e13 =>
      M_of (fun _ _ H => r_icmpF c234_53 b12 <| H) <|
      M_of (fun _ _ H => r_aloadn c234_56 (ld1_ne rfl (by decide) (Or.inr rfl)) <| H) <|
      M_geta (j := 35) c234_57 (by decide) <|
      M_of (fun _ _ H => r_aloadn c234_60 (ld1_ne rfl (by decide) (Or.inr rfl)) <| H) <|
      M_get (v := ((r1.2.1 36) - 1)) c234_61 (by decide) rfl <|
      t_ck e13 fun i14 e15 =>
      M_zald (j := 35) (v := (r1.2.2.1 35 (((r1.2.1 36) - 1)).toInt.toNat)) c234_64 (by decide) i14 rfl <|
      t_if e15 (fun b16 e17 =>
        M_of (fun _ _ H => r_ifT c234_65 b16 <| H) <|
        J234_114_ok (ld1_ne rfl (by decide) (Or.inr rfl)) e17
      ) (fun b16 e17 =>
        M_of (fun _ _ H => r_ifF c234_65 b16 <| H) <|
        M_of (fun _ _ H => r_aloadn c234_68 (ld1_ne rfl (by decide) (Or.inr rfl)) <| H) <|
        M_geta (j := 10) c234_69 (by decide) <|
        M_of (fun _ _ H => r_iloadn c234_72 ld1_eq <| r_aloadn c234_73 (ld1_ne rfl (by decide) (Or.inr rfl)) <| H) <|
        M_geta (j := 5) c234_74 (by decide) <|
        M_of (fun _ _ H => r_iconst c234_77 <| H) <|
        M_iald (j := 5) (v := (r1.2.2.1 5 3)) c234_78 (by decide) (by decide) rfl <|
        t_ck e17 fun i18 e19 =>
        M_iast (j := 10) c234_79 (by decide) i18 <|
        M_of (fun _ _ H => r_aloadn c234_80 (ld1_ne rfl (by decide) (Or.inr rfl)) <| H) <|
        t_bd e19 fun r20 c21 e22 =>
        M_cv (as := [.ref a]) (st' := [.int r20.1]) (v := (some (.int r20.1))) c234_81 rfl ⟨Nat.le_of_ble_eq_true rfl, Nat.le_of_ble_eq_true rfl, Nat.le_of_ble_eq_true rfl⟩ rfl rfl (M212_ok (d := d) c21) (Nat.add_lt_add_left (by decide) d) <|
        M_of (fun _ _ H => r_bipush c234_84 <| H) <|
        t_if e22 (fun b23 e24 =>
          M_of (fun _ _ H => r_icmpT c234_86 b23 <| H) <|
          J234_114_ok (ld1_ne rfl (by decide) (Or.inr rfl)) e24
        ) (fun b23 e24 =>
          M_of (fun _ _ H => r_icmpF c234_86 b23 <| H) <|
          M_of (fun _ _ H => r_aloadn c234_89 (ld1_ne rfl (by decide) (Or.inr rfl)) <| r_dup c234_90 rfl <| H) <|
          M_get (v := (r20.2.1 22)) c234_91 (by decide) rfl <|
          M_of (fun _ _ H => r_iconst c234_94 <| r_iadd c234_95 rfl <| H) <|
          M_put c234_96 (by decide) <|
          M_of (fun _ _ H => r_aloadn c234_99 (ld1_ne rfl (by decide) (Or.inr rfl)) <| r_aloadn c234_100 (ld1_ne rfl (by decide) (Or.inr rfl)) <| H) <|
          M_geta (j := 34) c234_101 (by decide) <|
          M_of (fun _ _ H => r_aloadn c234_104 (ld1_ne rfl (by decide) (Or.inr rfl)) <| H) <|
          M_get (v := (r20.2.1 36)) c234_105 (by decide) rfl <|
          t_ck e24 fun i25 e26 =>
          M_iald (j := 34) (v := (r20.2.2.1 34 ((r20.2.1 36)).toInt.toNat)) c234_108 (by decide) i25 rfl <|
          M_of (fun _ _ H => r_iconst c234_109 <| H) <|
          t_bd e26 fun r27 c28 e29 =>
          M_cv (as := [.ref a, .int (r20.2.2.1 34 ((r20.2.1 36)).toInt.toNat), .int 1]) (st' := [.int r27.1]) (v := (some (.int r27.1))) c234_110 rfl ⟨Nat.le_of_ble_eq_true rfl, Nat.le_of_ble_eq_true rfl, Nat.le_of_ble_eq_true rfl⟩ rfl rfl (M218_ok (d := d) c28) (Nat.add_lt_add_left (by decide) d) <|
          t_ck e29 fun z30 e31 =>
          M_ri (Option.some.inj e31) (fun _ => r_iret c234_113 (m_z1 z30))
        )
      )
    )
  ) (fun b4 e5 =>
    M_of (fun _ _ H => r_ifF c234_6 b4 <| H) <|
    M_of (fun _ _ H => r_iconst c234_9 <| H) <|
    M_ri (Option.some.inj e5) (fun _ => r_iret c234_10 rfl)
  ))
def J237_19 (N : Nat)  (s0 : Int64) (S : mS) : Option (Int64 × mS) :=
  some (s0, S)
theorem J237_19_ok {xt : mj_X} {ct : Nat → Value} {a : Nat} {ra : Nat → Nat} {d N : Nat} {l : mj_L}  {s0 : Int64} {S : mS} {q : Int64 × mS}  (e : J237_19 N  s0 S = some q) : MR xt ct a ra (d + 1) 237 19 l [.long s0] S (.inl (some (.long q.1))) q.2 := by
  unfold J237_19 at e
  exact (
  M_rl (Option.some.inj e) (fun _ => r_lret c237_19))
/-- product(JJ)J -/
def M237 (N : Nat) (x0 : Int64) (x2 : Int64) (S : mS) : Option (Int64 × mS) :=
  if x2 ≠ 0 then
  bif mj_c1 .le (lg_cmp x0 (2147483648 / x2)) then
    J237_19 N (x0 * x2) S
  else
  J237_19 N 2147483649 S
  else none
theorem M237_ok {xt : mj_X} {ct : Nat → Value} {a : Nat} {ra : Nat → Nat} {d N : Nat} {x0 : Int64} {x2 : Int64} {S : mS} {q : Int64 × mS} (e : M237 N x0 x2 S = some q) : MR xt ct a ra (d + 1) 237 0 (lv_args 0 [.long x0, .long x2]) [] S (.inl (some (.long q.1))) q.2 := by
  unfold M237 at e
  exact (
  M_of (fun _ _ H => r_lloadn c237_0 rfl <| r_ldc2 c237_1 <| r_lloadn c237_4 rfl <| H) <|
  t_ck e fun y1 e2 =>
  M_of (fun _ _ H => r_ldiv c237_5 y1 rfl <| H) <|
  M_of (fun _ _ H => r_lcmp c237_6 rfl <| H) <|
  t_if e2 (fun b3 e4 =>
    M_of (fun _ _ H => r_ifT c237_7 b3 <| H) <|
    M_of (fun _ _ H => r_lloadn c237_16 rfl <| r_lloadn c237_17 rfl <| r_lmul c237_18 rfl <| H) <|
    J237_19_ok  e4
  ) (fun b3 e4 =>
    M_of (fun _ _ H => r_ifF c237_7 b3 <| H) <|
    M_of (fun _ _ H => r_ldc2 c237_10 <| r_goto c237_13 <| H) <|
    J237_19_ok  e4
  ))
def LG236_6 (xt : mj_X) (ct : Nat → Value) (a : Nat) (ra : Nat → Nat) (d : Nat) (q : Int64 × mS) (x1 : Int32) (x3 : Int32) (x4 : Int64) (x6 : Int32) (S : mS) : Prop := ∀ l, mj_ld l 0 = some (.ref a) → mj_ld l 1 = some (.int x1) → mj_ld l 3 = some (.int x3) → mj_ld l 4 = some (.long x4) → mj_ld l 6 = some (.int x6) → MR xt ct a ra (d + 2) 236 6 l [] S (.inl (some (.long q.1))) q.2
def GG236_6 (xt : mj_X) (ct : Nat → Value) (a : Nat) (ra : Nat → Nat) (d : Nat) (q : Int64 × mS) (o : (Int32 × Int32 × Int64 × Int32 × mS) ⊕ (Int64 × mS)) : Prop := match o with
  | .inl (x1, x3, x4, x6, S) => LG236_6 xt ct a ra d q x1 x3 x4 x6 S
  | .inr r => r = q
def B236_6 (N : Nat) (s : Int32 × Int32 × Int64 × Int32 × mS) : Option ((Int32 × Int32 × Int64 × Int32 × mS) ⊕ (Int64 × mS)) :=
  bif mj_c2 .ge s.2.2.2.1 s.2.1 then
    some (.inr (s.2.2.1, s.2.2.2.2))
  else
  if 0 ≤ (((24 * s.1) + s.2.2.2.1)).toInt ∧ (((24 * s.1) + s.2.2.2.1)).toInt < mN 12 then
  (M237 N s.2.2.1 (s.2.2.2.2.2.2 12 (((24 * s.1) + s.2.2.2.1)).toInt.toNat) s.2.2.2.2).bind fun r5 =>
  if 0 ≤ (((24 * s.1) + s.2.2.2.1)).toInt ∧ (((24 * s.1) + s.2.2.2.1)).toInt < mN 11 then
  some (.inl (s.1, s.2.1, r5.1, (r5.2.2.1 11 (((24 * s.1) + s.2.2.2.1)).toInt.toNat), r5.2))
  else none
  else none
def L236_6 (N : Nat) (s : Int32 × Int32 × Int64 × Int32 × mS) : Option (Int64 × mS) := t_lp (B236_6 N) N s
theorem B236_6_ok {xt : mj_X} {ct : Nat → Value} {a : Nat} {ra : Nat → Nat} {d N : Nat} {s : Int32 × Int32 × Int64 × Int32 × mS} {o : (Int32 × Int32 × Int64 × Int32 × mS) ⊕ (Int64 × mS)} {q : Int64 × mS} (e : B236_6 N s = some o) (g : GG236_6 xt ct a ra d q o) : LG236_6 xt ct a ra d q s.1 s.2.1 s.2.2.1 s.2.2.2.1 s.2.2.2.2 := by
  unfold B236_6 at e
  exact (fun l h0 h1 h3 h4 h6 =>
  M_of (fun _ _ H => r_iload c236_6 h6 <| r_iloadn c236_8 h3 <| H) <|
  t_if e (fun b1 e2 =>
    M_of (fun _ _ H => r_icmpT c236_9 b1 <| H) <|
    M_of (fun _ _ H => r_lload c236_48 h4 <| H) <|
    t_rg e2 g (fun (e : (s.2.2.1, s.2.2.2.2) = q) => M_rl (e) (fun _ => r_lret c236_50))
  ) (fun b1 e2 =>
    M_of (fun _ _ H => r_icmpF c236_9 b1 <| H) <|
    M_of (fun _ _ H => r_lload c236_12 h4 <| r_aloadn c236_14 h0 <| H) <|
    M_geta (j := 12) c236_15 (by decide) <|
    M_of (fun _ _ H => r_bipush c236_18 <| r_iloadn c236_20 h1 <| r_imul c236_21 rfl <| r_iload c236_22 h6 <| r_iadd c236_24 rfl <| H) <|
    t_ck e2 fun i3 e4 =>
    M_lald (j := 12) (v := (s.2.2.2.2.2.2 12 (((24 * s.1) + s.2.2.2.1)).toInt.toNat)) c236_25 (by decide) i3 rfl <|
    t_bd e4 fun r5 c6 e7 =>
    M_cs (as := [.long s.2.2.1, .long (s.2.2.2.2.2.2 12 (((24 * s.1) + s.2.2.2.1)).toInt.toNat)]) (st' := [.long r5.1]) (v := (some (.long r5.1))) c236_26 ⟨Nat.le_of_ble_eq_true rfl, Nat.le_of_ble_eq_true rfl, Nat.le_of_ble_eq_true rfl⟩ rfl rfl (M237_ok (d := d) c6) (Nat.add_lt_add_left (by decide) d) <|
    M_of (fun _ _ H => r_lstore c236_29 <| r_aloadn c236_31 (ld2_ne h0 (by decide) (Or.inl (by decide))) <| H) <|
    M_geta (j := 11) c236_32 (by decide) <|
    M_of (fun _ _ H => r_bipush c236_35 <| r_iloadn c236_37 (ld2_ne h1 (by decide) (Or.inl (by decide))) <| r_imul c236_38 rfl <| r_iload c236_39 (ld2_ne h6 (by decide) (Or.inl (by decide))) <| r_iadd c236_41 rfl <| H) <|
    t_ck e7 fun i8 e9 =>
    M_iald (j := 11) (v := (r5.2.2.1 11 (((24 * s.1) + s.2.2.2.1)).toInt.toNat)) c236_42 (by decide) i8 rfl <|
    M_of (fun _ _ H => r_istore c236_43 <| r_goto c236_45 <| H) <|
    t_rg e9 g (fun (e : LG236_6 xt ct a ra d q s.1 s.2.1 r5.1 (r5.2.2.1 11 (((24 * s.1) + s.2.2.2.1)).toInt.toNat) r5.2) => e _ (ld1_ne (ld2_ne h0 (by decide) (Or.inl (by decide))) (by decide) (Or.inl (by decide))) (ld1_ne (ld2_ne h1 (by decide) (Or.inl (by decide))) (by decide) (Or.inl (by decide))) (ld1_ne (ld2_ne h3 (by decide) (Or.inr rfl)) (by decide) (Or.inl (by decide))) (ld1_ne ld2_eq (by decide) (Or.inl (by decide))) ld1_eq)
  ))
theorem L236_6_ok {xt : mj_X} {ct : Nat → Value} {a : Nat} {ra : Nat → Nat} {d N : Nat} {x1 : Int32} {x3 : Int32} {x4 : Int64} {x6 : Int32} {S : mS} {q : Int64 × mS} (e : L236_6 N (x1, x3, x4, x6, S) = some q) : LG236_6 xt ct a ra d q x1 x3 x4 x6 S :=
  t_lp_ok (G := fun s => LG236_6 xt ct a ra d q s.1 s.2.1 s.2.2.1 s.2.2.2.1 s.2.2.2.2) (fun s s' e g => B236_6_ok e (by obtain ⟨_, _, _, _, _⟩ := s'; exact g)) (fun s e => B236_6_ok e rfl) N (x1, x3, x4, x6, S) e
/-- blockFactor(III)J -/
def M236 (N : Nat) (x1 : Int32) (x2 : Int32) (x3 : Int32) (S : mS) : Option (Int64 × mS) :=
  L236_6 N (x1, x3, 1, x2, S)
theorem M236_ok {xt : mj_X} {ct : Nat → Value} {a : Nat} {ra : Nat → Nat} {d N : Nat} {x1 : Int32} {x2 : Int32} {x3 : Int32} {S : mS} {q : Int64 × mS} (e : M236 N x1 x2 x3 S = some q) : MR xt ct a ra (d + 2) 236 0 (lv_args 0 [.ref a, .int x1, .int x2, .int x3]) [] S (.inl (some (.long q.1))) q.2 := by
  unfold M236 at e
  exact (
  M_of (fun _ _ H => r_lconst c236_0 <| r_lstore c236_1 <| r_iloadn c236_3 (ld2_ne rfl (by decide) (Or.inl (by decide))) <| r_istore c236_4 <| H) <|
  L236_6_ok e _ (ld1_ne (ld2_ne rfl (by decide) (Or.inl (by decide))) (by decide) (Or.inl (by decide))) (ld1_ne (ld2_ne rfl (by decide) (Or.inl (by decide))) (by decide) (Or.inl (by decide))) (ld1_ne (ld2_ne rfl (by decide) (Or.inr rfl)) (by decide) (Or.inl (by decide))) (ld1_ne ld2_eq (by decide) (Or.inl (by decide))) ld1_eq)
def LG238_5 (xt : mj_X) (ct : Nat → Value) (a : Nat) (ra : Nat → Nat) (d : Nat) (q : Int64 × mS) (x0 : Int64) (x2 : Int32) (x3 : Int64) (x5 : Int32) (S : mS) : Prop := ∀ l, mj_ld l 0 = some (.long x0) → mj_ld l 2 = some (.int x2) → mj_ld l 3 = some (.long x3) → mj_ld l 5 = some (.int x5) → MR xt ct a ra (d + 2) 238 5 l [] S (.inl (some (.long q.1))) q.2
def GG238_5 (xt : mj_X) (ct : Nat → Value) (a : Nat) (ra : Nat → Nat) (d : Nat) (q : Int64 × mS) (o : (Int64 × Int32 × Int64 × Int32 × mS) ⊕ (Int64 × mS)) : Prop := match o with
  | .inl (x0, x2, x3, x5, S) => LG238_5 xt ct a ra d q x0 x2 x3 x5 S
  | .inr r => r = q
def B238_5 (N : Nat) (s : Int64 × Int32 × Int64 × Int32 × mS) : Option ((Int64 × Int32 × Int64 × Int32 × mS) ⊕ (Int64 × mS)) :=
  bif mj_c2 .ge s.2.2.2.1 s.2.1 then
    some (.inr (s.2.2.1, s.2.2.2.2))
  else
  (M237 N s.2.2.1 s.1 s.2.2.2.2).bind fun r3 =>
  some (.inl (s.1, s.2.1, r3.1, (s.2.2.2.1 + 1), r3.2))
def L238_5 (N : Nat) (s : Int64 × Int32 × Int64 × Int32 × mS) : Option (Int64 × mS) := t_lp (B238_5 N) N s
theorem B238_5_ok {xt : mj_X} {ct : Nat → Value} {a : Nat} {ra : Nat → Nat} {d N : Nat} {s : Int64 × Int32 × Int64 × Int32 × mS} {o : (Int64 × Int32 × Int64 × Int32 × mS) ⊕ (Int64 × mS)} {q : Int64 × mS} (e : B238_5 N s = some o) (g : GG238_5 xt ct a ra d q o) : LG238_5 xt ct a ra d q s.1 s.2.1 s.2.2.1 s.2.2.2.1 s.2.2.2.2 := by
  unfold B238_5 at e
  exact (fun l h0 h2 h3 h5 =>
  M_of (fun _ _ H => r_iload c238_5 h5 <| r_iloadn c238_7 h2 <| H) <|
  t_if e (fun b1 e2 =>
    M_of (fun _ _ H => r_icmpT c238_8 b1 <| H) <|
    M_of (fun _ _ H => r_lloadn c238_23 h3 <| H) <|
    t_rg e2 g (fun (e : (s.2.2.1, s.2.2.2.2) = q) => M_rl (e) (fun _ => r_lret c238_24))
  ) (fun b1 e2 =>
    M_of (fun _ _ H => r_icmpF c238_8 b1 <| H) <|
    M_of (fun _ _ H => r_lloadn c238_11 h3 <| r_lloadn c238_12 h0 <| H) <|
    t_bd e2 fun r3 c4 e5 =>
    M_cs (as := [.long s.2.2.1, .long s.1]) (st' := [.long r3.1]) (v := (some (.long r3.1))) c238_13 ⟨Nat.le_of_ble_eq_true rfl, Nat.le_of_ble_eq_true rfl, Nat.le_of_ble_eq_true rfl⟩ rfl rfl (M237_ok (d := d) c4) (Nat.add_lt_add_left (by decide) d) <|
    M_of (fun _ _ H => r_lstoren c238_16 <| r_iinc c238_17 (ld2_ne h5 (by decide) (Or.inl (by decide))) <| r_goto c238_20 <| H) <|
    t_rg e5 g (fun (e : LG238_5 xt ct a ra d q s.1 s.2.1 r3.1 (s.2.2.2.1 + 1) r3.2) => e _ (ld1_ne (ld2_ne h0 (by decide) (Or.inl (by decide))) (by decide) (Or.inl (by decide))) (ld1_ne (ld2_ne h2 (by decide) (Or.inr rfl)) (by decide) (Or.inl (by decide))) (ld1_ne ld2_eq (by decide) (Or.inl (by decide))) ld1_eq)
  ))
theorem L238_5_ok {xt : mj_X} {ct : Nat → Value} {a : Nat} {ra : Nat → Nat} {d N : Nat} {x0 : Int64} {x2 : Int32} {x3 : Int64} {x5 : Int32} {S : mS} {q : Int64 × mS} (e : L238_5 N (x0, x2, x3, x5, S) = some q) : LG238_5 xt ct a ra d q x0 x2 x3 x5 S :=
  t_lp_ok (G := fun s => LG238_5 xt ct a ra d q s.1 s.2.1 s.2.2.1 s.2.2.2.1 s.2.2.2.2) (fun s s' e g => B238_5_ok e (by obtain ⟨_, _, _, _, _⟩ := s'; exact g)) (fun s e => B238_5_ok e rfl) N (x0, x2, x3, x5, S) e
/-- power(JI)J -/
def M238 (N : Nat) (x0 : Int64) (x2 : Int32) (S : mS) : Option (Int64 × mS) :=
  L238_5 N (x0, x2, 1, 0, S)
theorem M238_ok {xt : mj_X} {ct : Nat → Value} {a : Nat} {ra : Nat → Nat} {d N : Nat} {x0 : Int64} {x2 : Int32} {S : mS} {q : Int64 × mS} (e : M238 N x0 x2 S = some q) : MR xt ct a ra (d + 2) 238 0 (lv_args 0 [.long x0, .int x2]) [] S (.inl (some (.long q.1))) q.2 := by
  unfold M238 at e
  exact (
  M_of (fun _ _ H => r_lconst c238_0 <| r_lstoren c238_1 <| r_iconst c238_2 <| r_istore c238_3 <| H) <|
  L238_5_ok e _ (ld1_ne (ld2_ne rfl (by decide) (Or.inl (by decide))) (by decide) (Or.inl (by decide))) (ld1_ne (ld2_ne rfl (by decide) (Or.inr rfl)) (by decide) (Or.inl (by decide))) (ld1_ne ld2_eq (by decide) (Or.inl (by decide))) ld1_eq)
def J239_65 (N : Nat)  (s0 : Int32) (s1 : Int64) (S : mS) : Option (Int64 × mS) :=
  (M238 N s1 s0 S).bind fun r17 =>
  some (r17.1, r17.2)
theorem J239_65_ok {xt : mj_X} {ct : Nat → Value} {a : Nat} {ra : Nat → Nat} {d N : Nat} {l : mj_L}  {s0 : Int32} {s1 : Int64} {S : mS} {q : Int64 × mS} (h0 : mj_ld l 0 = some (.ref a)) (e : J239_65 N  s0 s1 S = some q) : MR xt ct a ra (d + 3) 239 65 l [.int s0, .long s1] S (.inl (some (.long q.1))) q.2 := by
  unfold J239_65 at e
  exact (
  t_bd e fun r17 c18 e19 =>
  M_cs (as := [.long s1, .int s0]) (st' := [.long r17.1]) (v := (some (.long r17.1))) c239_65 ⟨Nat.le_of_ble_eq_true rfl, Nat.le_of_ble_eq_true rfl, Nat.le_of_ble_eq_true rfl⟩ rfl rfl (M238_ok (d := d) c18) (Nat.add_lt_add_left (by decide) d) <|
  M_rl (Option.some.inj e19) (fun _ => r_lret c239_68))
/-- nodeFactor(I)J -/
def M239 (N : Nat) (x1 : Int32) (S : mS) : Option (Int64 × mS) :=
  if 0 ≤ (x1).toInt ∧ (x1).toInt < mN 13 then
  bif mj_c2 .ne (S.2.1 13 (x1).toInt.toNat) 5 then
    if 0 ≤ (x1).toInt ∧ (x1).toInt < mN 13 then
    bif mj_c2 .eq (S.2.1 13 (x1).toInt.toNat) 4 then
      if 0 ≤ (x1).toInt ∧ (x1).toInt < mN 15 then
      if 0 ≤ (x1).toInt ∧ (x1).toInt < mN 16 then
      bif mj_c2 .ne (S.2.1 16 (x1).toInt.toNat) 101 then
        if 0 ≤ (x1).toInt ∧ (x1).toInt < mN 14 then
        J239_65 N (S.2.1 14 (x1).toInt.toNat) (S.2.1 15 (x1).toInt.toNat).toInt64 S
        else none
      else
      if 0 ≤ (x1).toInt ∧ (x1).toInt < mN 17 then
      J239_65 N ((S.2.1 17 (x1).toInt.toNat) + 1) (S.2.1 15 (x1).toInt.toNat).toInt64 S
      else none
      else none
      else none
    else
    some (1, S)
    else none
  else
  if 0 ≤ (x1).toInt ∧ (x1).toInt < mN 15 then
  some ((S.2.1 15 (x1).toInt.toNat).toInt64, S)
  else none
  else none
theorem M239_ok {xt : mj_X} {ct : Nat → Value} {a : Nat} {ra : Nat → Nat} {d N : Nat} {x1 : Int32} {S : mS} {q : Int64 × mS} (e : M239 N x1 S = some q) : MR xt ct a ra (d + 3) 239 0 (lv_args 0 [.ref a, .int x1]) [] S (.inl (some (.long q.1))) q.2 := by
  unfold M239 at e
  exact (
  M_of (fun _ _ H => r_aloadn c239_0 rfl <| H) <|
  M_geta (j := 13) c239_1 (by decide) <|
  M_of (fun _ _ H => r_iloadn c239_4 rfl <| H) <|
  t_ck e fun i1 e2 =>
  M_iald (j := 13) (v := (S.2.1 13 (x1).toInt.toNat)) c239_5 (by decide) i1 rfl <|
  M_of (fun _ _ H => r_iconst c239_6 <| H) <|
  t_if e2 (fun b3 e4 =>
    M_of (fun _ _ H => r_icmpT c239_7 b3 <| H) <|
    M_of (fun _ _ H => r_aloadn c239_18 rfl <| H) <|
    M_geta (j := 13) c239_19 (by decide) <|
    M_of (fun _ _ H => r_iloadn c239_22 rfl <| H) <|
    t_ck e4 fun i5 e6 =>
    M_iald (j := 13) (v := (S.2.1 13 (x1).toInt.toNat)) c239_23 (by decide) i5 rfl <|
    M_of (fun _ _ H => r_iconst c239_24 <| H) <|
    t_if e6 (fun b7 e8 =>
      M_of (fun _ _ H => r_icmpT c239_25 b7 <| H) <|
      M_of (fun _ _ H => r_aloadn c239_30 rfl <| H) <|
      M_geta (j := 15) c239_31 (by decide) <|
      M_of (fun _ _ H => r_iloadn c239_34 rfl <| H) <|
      t_ck e8 fun i9 e10 =>
      M_iald (j := 15) (v := (S.2.1 15 (x1).toInt.toNat)) c239_35 (by decide) i9 rfl <|
      M_of (fun _ _ H => r_i2l c239_36 rfl <| r_aloadn c239_37 rfl <| H) <|
      M_geta (j := 16) c239_38 (by decide) <|
      M_of (fun _ _ H => r_iloadn c239_41 rfl <| H) <|
      t_ck e10 fun i11 e12 =>
      M_iald (j := 16) (v := (S.2.1 16 (x1).toInt.toNat)) c239_42 (by decide) i11 rfl <|
      M_of (fun _ _ H => r_bipush c239_43 <| H) <|
      t_if e12 (fun b13 e14 =>
        M_of (fun _ _ H => r_icmpT c239_45 b13 <| H) <|
        M_of (fun _ _ H => r_aloadn c239_59 rfl <| H) <|
        M_geta (j := 14) c239_60 (by decide) <|
        M_of (fun _ _ H => r_iloadn c239_63 rfl <| H) <|
        t_ck e14 fun i15 e16 =>
        M_iald (j := 14) (v := (S.2.1 14 (x1).toInt.toNat)) c239_64 (by decide) i15 rfl <|
        J239_65_ok rfl e16
      ) (fun b13 e14 =>
        M_of (fun _ _ H => r_icmpF c239_45 b13 <| H) <|
        M_of (fun _ _ H => r_aloadn c239_48 rfl <| H) <|
        M_geta (j := 17) c239_49 (by decide) <|
        M_of (fun _ _ H => r_iloadn c239_52 rfl <| H) <|
        t_ck e14 fun i20 e21 =>
        M_iald (j := 17) (v := (S.2.1 17 (x1).toInt.toNat)) c239_53 (by decide) i20 rfl <|
        M_of (fun _ _ H => r_iconst c239_54 <| r_iadd c239_55 rfl <| r_goto c239_56 <| H) <|
        J239_65_ok rfl e21
      )
    ) (fun b7 e8 =>
      M_of (fun _ _ H => r_icmpF c239_25 b7 <| H) <|
      M_of (fun _ _ H => r_lconst c239_28 <| H) <|
      M_rl (Option.some.inj e8) (fun _ => r_lret c239_29)
    )
  ) (fun b3 e4 =>
    M_of (fun _ _ H => r_icmpF c239_7 b3 <| H) <|
    M_of (fun _ _ H => r_aloadn c239_10 rfl <| H) <|
    M_geta (j := 15) c239_11 (by decide) <|
    M_of (fun _ _ H => r_iloadn c239_14 rfl <| H) <|
    t_ck e4 fun i22 e23 =>
    M_iald (j := 15) (v := (S.2.1 15 (x1).toInt.toNat)) c239_15 (by decide) i22 rfl <|
    M_of (fun _ _ H => r_i2l c239_16 rfl <| H) <|
    M_rl (Option.some.inj e23) (fun _ => r_lret c239_17)
  ))
def LG241_6 (xt : mj_X) (ct : Nat → Value) (a : Nat) (ra : Nat → Nat) (d : Nat) (q : Int64 × mS) (x4 : Int64) (x6 : Int64) (S : mS) : Prop := ∀ l, mj_ld l 4 = some (.long x4) → mj_ld l 6 = some (.long x6) → MR xt ct a ra (d + 1) 241 6 l [] S (.inl (some (.long q.1))) q.2
def GG241_6 (xt : mj_X) (ct : Nat → Value) (a : Nat) (ra : Nat → Nat) (d : Nat) (q : Int64 × mS) (o : (Int64 × Int64 × mS) ⊕ (Int64 × mS)) : Prop := match o with
  | .inl (x4, x6, S) => LG241_6 xt ct a ra d q x4 x6 S
  | .inr r => r = q
def B241_6 (N : Nat) (s : Int64 × Int64 × mS) : Option ((Int64 × Int64 × mS) ⊕ (Int64 × mS)) :=
  bif mj_c1 .le (lg_cmp s.2.1 0) then
    some (.inr (s.1, s.2.2))
  else
  if s.2.1 ≠ 0 then
  some (.inl (s.2.1, (s.1 - s.1 / s.2.1 * s.2.1), s.2.2))
  else none
def L241_6 (N : Nat) (s : Int64 × Int64 × mS) : Option (Int64 × mS) := t_lp (B241_6 N) N s
theorem B241_6_ok {xt : mj_X} {ct : Nat → Value} {a : Nat} {ra : Nat → Nat} {d N : Nat} {s : Int64 × Int64 × mS} {o : (Int64 × Int64 × mS) ⊕ (Int64 × mS)} {q : Int64 × mS} (e : B241_6 N s = some o) (g : GG241_6 xt ct a ra d q o) : LG241_6 xt ct a ra d q s.1 s.2.1 s.2.2 := by
  unfold B241_6 at e
  exact (fun l h4 h6 =>
  M_of (fun _ _ H => r_lload c241_6 h6 <| r_lconst c241_8 <| r_lcmp c241_9 rfl <| H) <|
  t_if e (fun b1 e2 =>
    M_of (fun _ _ H => r_ifT c241_10 b1 <| H) <|
    M_of (fun _ _ H => r_lload c241_31 h4 <| H) <|
    t_rg e2 g (fun (e : (s.1, s.2.2) = q) => M_rl (e) (fun _ => r_lret c241_33))
  ) (fun b1 e2 =>
    M_of (fun _ _ H => r_ifF c241_10 b1 <| H) <|
    M_of (fun _ _ H => r_lload c241_13 h4 <| r_lload c241_15 h6 <| H) <|
    t_ck e2 fun y3 e4 =>
    M_of (fun _ _ H => r_lrem c241_17 y3 rfl <| H) <|
    M_of (fun _ _ H => r_lstore c241_18 <| r_lload c241_20 (ld2_ne h6 (by decide) (Or.inl (by decide))) <| r_lstore c241_22 <| r_lload c241_24 (ld2_ne ld2_eq (by decide) (Or.inl (by decide))) <| r_lstore c241_26 <| r_goto c241_28 <| H) <|
    t_rg e4 g (fun (e : LG241_6 xt ct a ra d q s.2.1 (s.1 - s.1 / s.2.1 * s.2.1) s.2.2) => e _ (ld2_ne ld2_eq (by decide) (Or.inl (by decide))) ld2_eq)
  ))
theorem L241_6_ok {xt : mj_X} {ct : Nat → Value} {a : Nat} {ra : Nat → Nat} {d N : Nat} {x4 : Int64} {x6 : Int64} {S : mS} {q : Int64 × mS} (e : L241_6 N (x4, x6, S) = some q) : LG241_6 xt ct a ra d q x4 x6 S :=
  t_lp_ok (G := fun s => LG241_6 xt ct a ra d q s.1 s.2.1 s.2.2) (fun s s' e g => B241_6_ok e (by obtain ⟨_, _, _⟩ := s'; exact g)) (fun s e => B241_6_ok e rfl) N (x4, x6, S) e
/-- divisor(JJ)J -/
def M241 (N : Nat) (x0 : Int64) (x2 : Int64) (S : mS) : Option (Int64 × mS) :=
  L241_6 N (x0, x2, S)
theorem M241_ok {xt : mj_X} {ct : Nat → Value} {a : Nat} {ra : Nat → Nat} {d N : Nat} {x0 : Int64} {x2 : Int64} {S : mS} {q : Int64 × mS} (e : M241 N x0 x2 S = some q) : MR xt ct a ra (d + 1) 241 0 (lv_args 0 [.long x0, .long x2]) [] S (.inl (some (.long q.1))) q.2 := by
  unfold M241 at e
  exact (
  M_of (fun _ _ H => r_lloadn c241_0 rfl <| r_lstore c241_1 <| r_lloadn c241_3 (ld2_ne rfl (by decide) (Or.inl (by decide))) <| r_lstore c241_4 <| H) <|
  L241_6_ok e _ (ld2_ne ld2_eq (by decide) (Or.inl (by decide))) ld2_eq)
