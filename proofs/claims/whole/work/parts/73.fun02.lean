/-- multiple(JJ)J -/
def M240 (N : Nat) (x0 : Int64) (x2 : Int64) (S : mS) : Option (Int64 × mS) :=
  (M241 N x0 x2 S).bind fun r1 =>
  if r1.1 ≠ 0 then
  (M237 N (x0 / r1.1) x2 r1.2).bind fun r6 =>
  some (r6.1, r6.2)
  else none
theorem M240_ok {xt : mj_X} {ct : Nat → Value} {a : Nat} {ra : Nat → Nat} {d N : Nat} {x0 : Int64} {x2 : Int64} {S : mS} {q : Int64 × mS} (e : M240 N x0 x2 S = some q) : MR xt ct a ra (d + 2) 240 0 (lv_args 0 [.long x0, .long x2]) [] S (.inl (some (.long q.1))) q.2 := by
  unfold M240 at e
  exact (
  M_of (fun _ _ H => r_lloadn c240_0 rfl <| r_lloadn c240_1 rfl <| r_lloadn c240_2 rfl <| H) <|
  t_bd e fun r1 c2 e3 =>
  M_cs (as := [.long x0, .long x2]) (st' := [.long r1.1, .long x0]) (v := (some (.long r1.1))) c240_3 ⟨Nat.le_of_ble_eq_true rfl, Nat.le_of_ble_eq_true rfl, Nat.le_of_ble_eq_true rfl⟩ rfl rfl (M241_ok (d := d) c2) (Nat.add_lt_add_left (by decide) d) <|
  t_ck e3 fun y4 e5 =>
  M_of (fun _ _ H => r_ldiv c240_6 y4 rfl <| H) <|
  M_of (fun _ _ H => r_lloadn c240_7 rfl <| H) <|
  t_bd e5 fun r6 c7 e8 =>
  M_cs (as := [.long (x0 / r1.1), .long x2]) (st' := [.long r6.1]) (v := (some (.long r6.1))) c240_8 ⟨Nat.le_of_ble_eq_true rfl, Nat.le_of_ble_eq_true rfl, Nat.le_of_ble_eq_true rfl⟩ rfl rfl (M237_ok (d := d) c7) (Nat.add_lt_add_left (by decide) d) <|
  M_rl (Option.some.inj e8) (fun _ => r_lret c240_11))
def LG235_9 (xt : mj_X) (ct : Nat → Value) (a : Nat) (ra : Nat → Nat) (d : Nat) (q : mS) (x1 : Int32) (S : mS) : Prop := ∀ l, mj_ld l 0 = some (.ref a) → mj_ld l 1 = some (.int x1) → MR xt ct a ra (d + 4) 235 9 l [] S (.inl none) q
def GG235_9 (xt : mj_X) (ct : Nat → Value) (a : Nat) (ra : Nat → Nat) (d : Nat) (q : mS) (o : (Int32 × mS) ⊕ (mS)) : Prop := match o with
  | .inl (x1, S) => LG235_9 xt ct a ra d q x1 S
  | .inr r => r = q
def LG235_65 (xt : mj_X) (ct : Nat → Value) (a : Nat) (ra : Nat → Nat) (d : Nat) (q : mS) (x1 : Int32) (x2 : Int32) (x3 : Int64) (x5 : Int32) (S : mS) : Prop := ∀ l, mj_ld l 0 = some (.ref a) → mj_ld l 1 = some (.int x1) → mj_ld l 2 = some (.int x2) → mj_ld l 3 = some (.long x3) → mj_ld l 5 = some (.int x5) → MR xt ct a ra (d + 4) 235 65 l [] S (.inl none) q
def GG235_65 (xt : mj_X) (ct : Nat → Value) (a : Nat) (ra : Nat → Nat) (d : Nat) (q : mS) (o : (Int32 × Int32 × Int64 × Int32 × mS) ⊕ ((Int32 × mS) ⊕ (mS))) : Prop := match o with
  | .inl (x1, x2, x3, x5, S) => LG235_65 xt ct a ra d q x1 x2 x3 x5 S
  | .inr r => GG235_9 xt ct a ra d q r
def J235_146 (N : Nat) (x1 : Int32) (x2 : Int32) (x3 : Int64)  (S : mS) : Option ((Int32 × mS) ⊕ (mS)) :=
  if 0 ≤ (x2).toInt ∧ (x2).toInt < mN 12 then
  some (.inl ((x1 + (-1)), (m_sB S 12 (x2).toInt.toNat x3)))
  else none
theorem J235_146_ok {xt : mj_X} {ct : Nat → Value} {a : Nat} {ra : Nat → Nat} {d N : Nat} {l : mj_L} {x1 : Int32} {x2 : Int32} {x3 : Int64}  {S : mS} {o : (Int32 × mS) ⊕ (mS)} {q : mS} (h0 : mj_ld l 0 = some (.ref a)) (h1 : mj_ld l 1 = some (.int x1)) (h2 : mj_ld l 2 = some (.int x2)) (h3 : mj_ld l 3 = some (.long x3)) (e : J235_146 N x1 x2 x3  S = some o) (g : GG235_9 xt ct a ra d q o) : MR xt ct a ra (d + 4) 235 146 l [] S (.inl none) q := by
  unfold J235_146 at e
  exact (
  M_of (fun _ _ H => r_aloadn c235_146 h0 <| H) <|
  M_geta (j := 12) c235_147 (by decide) <|
  M_of (fun _ _ H => r_iloadn c235_150 h2 <| r_lloadn c235_151 h3 <| H) <|
  t_ck e fun i17 e18 =>
  M_last (j := 12) c235_152 (by decide) i17 <|
  M_of (fun _ _ H => r_iinc c235_153 h1 <| r_goto c235_156 <| H) <|
  t_rg e18 g (fun (e : LG235_9 xt ct a ra d q (x1 + (-1)) (m_sB S 12 (x2).toInt.toNat x3)) => e _ (ld1_ne h0 (by decide) (Or.inr rfl)) ld1_eq))
def J235_97 (N : Nat) (x1 : Int32) (x2 : Int32) (x3 : Int64)  (S : mS) : Option ((Int32 × mS) ⊕ (mS)) :=
  if 0 ≤ (x2).toInt ∧ (x2).toInt < mN 6 then
  bif mj_c2 .ne (S.2.1 6 (x2).toInt.toNat) 2 then
    J235_146 N x1 x2 x3 S
  else
  if 0 ≤ (x2).toInt ∧ (x2).toInt < mN 10 then
  (M236 N 3 (x1 + 1) (S.2.1 10 (x2).toInt.toNat) S).bind fun r21 =>
  if 0 ≤ (x2).toInt ∧ (x2).toInt < mN 10 then
  if 0 ≤ (x2).toInt ∧ (x2).toInt < mN 11 then
  (M236 N 3 (r21.2.2.1 10 (x2).toInt.toNat) (r21.2.2.1 11 (x2).toInt.toNat) r21.2).bind fun r28 =>
  (M240 N r21.1 r28.1 r28.2).bind fun r31 =>
  (M237 N x3 r31.1 r31.2).bind fun r34 =>
  J235_146 N x1 x2 r34.1 r34.2
  else none
  else none
  else none
  else none
theorem J235_97_ok {xt : mj_X} {ct : Nat → Value} {a : Nat} {ra : Nat → Nat} {d N : Nat} {l : mj_L} {x1 : Int32} {x2 : Int32} {x3 : Int64}  {S : mS} {o : (Int32 × mS) ⊕ (mS)} {q : mS} (h0 : mj_ld l 0 = some (.ref a)) (h1 : mj_ld l 1 = some (.int x1)) (h2 : mj_ld l 2 = some (.int x2)) (h3 : mj_ld l 3 = some (.long x3)) (e : J235_97 N x1 x2 x3  S = some o) (g : GG235_9 xt ct a ra d q o) : MR xt ct a ra (d + 4) 235 97 l [] S (.inl none) q := by
  unfold J235_97 at e
  exact (
  M_of (fun _ _ H => r_aloadn c235_97 h0 <| H) <|
  M_geta (j := 6) c235_98 (by decide) <|
  M_of (fun _ _ H => r_iloadn c235_101 h2 <| H) <|
  t_ck e fun i13 e14 =>
  M_iald (j := 6) (v := (S.2.1 6 (x2).toInt.toNat)) c235_102 (by decide) i13 rfl <|
  M_of (fun _ _ H => r_iconst c235_103 <| H) <|
  t_if e14 (fun b15 e16 =>
    M_of (fun _ _ H => r_icmpT c235_104 b15 <| H) <|
    J235_146_ok h0 h1 h2 h3 e16 g
  ) (fun b15 e16 =>
    M_of (fun _ _ H => r_icmpF c235_104 b15 <| H) <|
    M_of (fun _ _ H => r_lloadn c235_107 h3 <| r_aloadn c235_108 h0 <| r_iconst c235_109 <| r_iloadn c235_110 h1 <| r_iconst c235_111 <| r_iadd c235_112 rfl <| r_aloadn c235_113 h0 <| H) <|
    M_geta (j := 10) c235_114 (by decide) <|
    M_of (fun _ _ H => r_iloadn c235_117 h2 <| H) <|
    t_ck e16 fun i19 e20 =>
    M_iald (j := 10) (v := (S.2.1 10 (x2).toInt.toNat)) c235_118 (by decide) i19 rfl <|
    t_bd e20 fun r21 c22 e23 =>
    M_cv (as := [.ref a, .int 3, .int (x1 + 1), .int (S.2.1 10 (x2).toInt.toNat)]) (st' := [.long r21.1, .long x3]) (v := (some (.long r21.1))) c235_119 rfl ⟨Nat.le_of_ble_eq_true rfl, Nat.le_of_ble_eq_true rfl, Nat.le_of_ble_eq_true rfl⟩ rfl rfl (M236_ok (d := d) c22) (Nat.add_lt_add_left (by decide) d) <|
    M_of (fun _ _ H => r_aloadn c235_122 h0 <| r_iconst c235_123 <| r_aloadn c235_124 h0 <| H) <|
    M_geta (j := 10) c235_125 (by decide) <|
    M_of (fun _ _ H => r_iloadn c235_128 h2 <| H) <|
    t_ck e23 fun i24 e25 =>
    M_iald (j := 10) (v := (r21.2.2.1 10 (x2).toInt.toNat)) c235_129 (by decide) i24 rfl <|
    M_of (fun _ _ H => r_aloadn c235_130 h0 <| H) <|
    M_geta (j := 11) c235_131 (by decide) <|
    M_of (fun _ _ H => r_iloadn c235_134 h2 <| H) <|
    t_ck e25 fun i26 e27 =>
    M_iald (j := 11) (v := (r21.2.2.1 11 (x2).toInt.toNat)) c235_135 (by decide) i26 rfl <|
    t_bd e27 fun r28 c29 e30 =>
    M_cv (as := [.ref a, .int 3, .int (r21.2.2.1 10 (x2).toInt.toNat), .int (r21.2.2.1 11 (x2).toInt.toNat)]) (st' := [.long r28.1, .long r21.1, .long x3]) (v := (some (.long r28.1))) c235_136 rfl ⟨Nat.le_of_ble_eq_true rfl, Nat.le_of_ble_eq_true rfl, Nat.le_of_ble_eq_true rfl⟩ rfl rfl (M236_ok (d := d) c29) (Nat.add_lt_add_left (by decide) d) <|
    t_bd e30 fun r31 c32 e33 =>
    M_cs (as := [.long r21.1, .long r28.1]) (st' := [.long r31.1, .long x3]) (v := (some (.long r31.1))) c235_139 ⟨Nat.le_of_ble_eq_true rfl, Nat.le_of_ble_eq_true rfl, Nat.le_of_ble_eq_true rfl⟩ rfl rfl (M240_ok (d := d) c32) (Nat.add_lt_add_left (by decide) d) <|
    t_bd e33 fun r34 c35 e36 =>
    M_cs (as := [.long x3, .long r31.1]) (st' := [.long r34.1]) (v := (some (.long r34.1))) c235_142 ⟨Nat.le_of_ble_eq_true rfl, Nat.le_of_ble_eq_true rfl, Nat.le_of_ble_eq_true rfl⟩ rfl rfl (M237_ok (d := d) c35) (Nat.add_lt_add_left (by decide) d) <|
    M_of (fun _ _ H => r_lstoren c235_145 <| H) <|
    J235_146_ok (ld2_ne h0 (by decide) (Or.inl (by decide))) (ld2_ne h1 (by decide) (Or.inl (by decide))) (ld2_ne h2 (by decide) (Or.inr rfl)) ld2_eq e36 g
  ))
def B235_65 (N : Nat) (s : Int32 × Int32 × Int64 × Int32 × mS) : Option ((Int32 × Int32 × Int64 × Int32 × mS) ⊕ ((Int32 × mS) ⊕ (mS))) :=
  if 0 ≤ (s.2.1).toInt ∧ (s.2.1).toInt < mN 9 then
  bif mj_c2 .gt s.2.2.2.1 (s.2.2.2.2.2.1 9 (s.2.1).toInt.toNat) then
    (J235_97 N s.1 s.2.1 s.2.2.1 s.2.2.2.2).map Sum.inr
  else
  (M239 N (480 + s.2.2.2.1) s.2.2.2.2).bind fun r41 =>
  (M237 N s.2.2.1 r41.1 r41.2).bind fun r44 =>
  some (.inl (s.1, s.2.1, r44.1, (s.2.2.2.1 + 1), r44.2))
  else none
def L235_65 (N : Nat) (s : Int32 × Int32 × Int64 × Int32 × mS) : Option ((Int32 × mS) ⊕ (mS)) := t_lp (B235_65 N) N s
theorem B235_65_ok {xt : mj_X} {ct : Nat → Value} {a : Nat} {ra : Nat → Nat} {d N : Nat} {s : Int32 × Int32 × Int64 × Int32 × mS} {o : (Int32 × Int32 × Int64 × Int32 × mS) ⊕ ((Int32 × mS) ⊕ (mS))} {q : mS} (e : B235_65 N s = some o) (g : GG235_65 xt ct a ra d q o) : LG235_65 xt ct a ra d q s.1 s.2.1 s.2.2.1 s.2.2.2.1 s.2.2.2.2 := by
  unfold B235_65 at e
  exact (fun l h0 h1 h2 h3 h5 =>
  M_of (fun _ _ H => r_iload c235_65 h5 <| r_aloadn c235_67 h0 <| H) <|
  M_geta (j := 9) c235_68 (by decide) <|
  M_of (fun _ _ H => r_iloadn c235_71 h2 <| H) <|
  t_ck e fun i9 e10 =>
  M_iald (j := 9) (v := (s.2.2.2.2.2.1 9 (s.2.1).toInt.toNat)) c235_72 (by decide) i9 rfl <|
  t_if e10 (fun b11 e12 =>
    M_of (fun _ _ H => r_icmpT c235_73 b11 <| H) <|
    t_up e12 fun o37 e38 u39 =>
    (fun (g40 : GG235_9 xt ct a ra d q o37) =>
    J235_97_ok h0 h1 h2 h3 e38 g40
    ) (by have := g; rw [u39] at this; exact this)
  ) (fun b11 e12 =>
    M_of (fun _ _ H => r_icmpF c235_73 b11 <| H) <|
    M_of (fun _ _ H => r_lloadn c235_76 h3 <| r_aloadn c235_77 h0 <| r_sipush c235_78 <| r_iload c235_81 h5 <| r_iadd c235_83 rfl <| H) <|
    t_bd e12 fun r41 c42 e43 =>
    M_cv (as := [.ref a, .int (480 + s.2.2.2.1)]) (st' := [.long r41.1, .long s.2.2.1]) (v := (some (.long r41.1))) c235_84 rfl ⟨Nat.le_of_ble_eq_true rfl, Nat.le_of_ble_eq_true rfl, Nat.le_of_ble_eq_true rfl⟩ rfl rfl (M239_ok (d := d) c42) (Nat.add_lt_add_left (by decide) d) <|
    t_bd e43 fun r44 c45 e46 =>
    M_cs (as := [.long s.2.2.1, .long r41.1]) (st' := [.long r44.1]) (v := (some (.long r44.1))) c235_87 ⟨Nat.le_of_ble_eq_true rfl, Nat.le_of_ble_eq_true rfl, Nat.le_of_ble_eq_true rfl⟩ rfl rfl (M237_ok (d := d) c45) (Nat.add_lt_add_left (by decide) d) <|
    M_of (fun _ _ H => r_lstoren c235_90 <| r_iinc c235_91 (ld2_ne h5 (by decide) (Or.inl (by decide))) <| r_goto c235_94 <| H) <|
    t_rg e46 g (fun (e : LG235_65 xt ct a ra d q s.1 s.2.1 r44.1 (s.2.2.2.1 + 1) r44.2) => e _ (ld1_ne (ld2_ne h0 (by decide) (Or.inl (by decide))) (by decide) (Or.inl (by decide))) (ld1_ne (ld2_ne h1 (by decide) (Or.inl (by decide))) (by decide) (Or.inl (by decide))) (ld1_ne (ld2_ne h2 (by decide) (Or.inr rfl)) (by decide) (Or.inl (by decide))) (ld1_ne ld2_eq (by decide) (Or.inl (by decide))) ld1_eq)
  ))
theorem L235_65_ok {xt : mj_X} {ct : Nat → Value} {a : Nat} {ra : Nat → Nat} {d N : Nat} {x1 : Int32} {x2 : Int32} {x3 : Int64} {x5 : Int32} {S : mS} {o : (Int32 × mS) ⊕ (mS)} {q : mS} (e : L235_65 N (x1, x2, x3, x5, S) = some o) (g : GG235_9 xt ct a ra d q o) : LG235_65 xt ct a ra d q x1 x2 x3 x5 S :=
  t_lp_ok (G := fun s => LG235_65 xt ct a ra d q s.1 s.2.1 s.2.2.1 s.2.2.2.1 s.2.2.2.2) (fun s s' e g => B235_65_ok e (by obtain ⟨_, _, _, _, _⟩ := s'; exact g)) (fun s e => B235_65_ok e g) N (x1, x2, x3, x5, S) e
def B235_9 (N : Nat) (s : Int32 × mS) : Option ((Int32 × mS) ⊕ (mS)) :=
  bif mj_c1 .lt s.1 then
    some (.inr s.2)
  else
  if 0 ≤ ((72 + s.1)).toInt ∧ ((72 + s.1)).toInt < mN 6 then
  bif mj_c2 .ne (s.2.2.1 6 ((72 + s.1)).toInt.toNat) 3 then
    if 0 ≤ ((72 + s.1)).toInt ∧ ((72 + s.1)).toInt < mN 8 then
    L235_65 N (s.1, (72 + s.1), 1, (s.2.2.1 8 ((72 + s.1)).toInt.toNat), s.2)
    else none
  else
  if 0 ≤ ((72 + s.1)).toInt ∧ ((72 + s.1)).toInt < mN 11 then
  (M236 N 3 (s.1 + 1) (s.2.2.1 11 ((72 + s.1)).toInt.toNat) s.2).bind fun r49 =>
  if 0 ≤ ((72 + s.1)).toInt ∧ ((72 + s.1)).toInt < mN 7 then
  (M238 N r49.1 (r49.2.2.1 7 ((72 + s.1)).toInt.toNat) r49.2).bind fun r54 =>
  J235_97 N s.1 (72 + s.1) r54.1 r54.2
  else none
  else none
  else none
def L235_9 (N : Nat) (s : Int32 × mS) : Option (mS) := t_lp (B235_9 N) N s
theorem B235_9_ok {xt : mj_X} {ct : Nat → Value} {a : Nat} {ra : Nat → Nat} {d N : Nat} {s : Int32 × mS} {o : (Int32 × mS) ⊕ (mS)} {q : mS} (e : B235_9 N s = some o) (g : GG235_9 xt ct a ra d q o) : LG235_9 xt ct a ra d q s.1 s.2 := by
  unfold B235_9 at e
  exact (fun l h0 h1 =>
  M_of (fun _ _ H => r_iloadn c235_9 h1 <| H) <|
  t_if e (fun b1 e2 =>
    M_of (fun _ _ H => r_ifT c235_10 b1 <| H) <|
    t_rg e2 g (fun (e : s.2 = q) => M_rv (e) (fun _ => r_ret c235_159))
  ) (fun b1 e2 =>
    M_of (fun _ _ H => r_ifF c235_10 b1 <| H) <|
    M_of (fun _ _ H => r_bipush c235_13 <| r_iloadn c235_15 h1 <| r_iadd c235_16 rfl <| r_istoren c235_17 <| r_lconst c235_18 <| r_lstoren c235_19 <| r_aloadn c235_20 (ld2_ne (ld1_ne h0 (by decide) (Or.inl (by decide))) (by decide) (Or.inl (by decide))) <| H) <|
    M_geta (j := 6) c235_21 (by decide) <|
    M_of (fun _ _ H => r_iloadn c235_24 (ld2_ne ld1_eq (by decide) (Or.inr rfl)) <| H) <|
    t_ck e2 fun i3 e4 =>
    M_iald (j := 6) (v := (s.2.2.1 6 ((72 + s.1)).toInt.toNat)) c235_25 (by decide) i3 rfl <|
    M_of (fun _ _ H => r_iconst c235_26 <| H) <|
    t_if e4 (fun b5 e6 =>
      M_of (fun _ _ H => r_icmpT c235_27 b5 <| H) <|
      M_of (fun _ _ H => r_aloadn c235_57 (ld2_ne (ld1_ne h0 (by decide) (Or.inl (by decide))) (by decide) (Or.inl (by decide))) <| H) <|
      M_geta (j := 8) c235_58 (by decide) <|
      M_of (fun _ _ H => r_iloadn c235_61 (ld2_ne ld1_eq (by decide) (Or.inr rfl)) <| H) <|
      t_ck e6 fun i7 e8 =>
      M_iald (j := 8) (v := (s.2.2.1 8 ((72 + s.1)).toInt.toNat)) c235_62 (by decide) i7 rfl <|
      M_of (fun _ _ H => r_istore c235_63 <| H) <|
      L235_65_ok e8 g _ (ld1_ne (ld2_ne (ld1_ne h0 (by decide) (Or.inl (by decide))) (by decide) (Or.inl (by decide))) (by decide) (Or.inl (by decide))) (ld1_ne (ld2_ne (ld1_ne h1 (by decide) (Or.inr rfl)) (by decide) (Or.inl (by decide))) (by decide) (Or.inl (by decide))) (ld1_ne (ld2_ne ld1_eq (by decide) (Or.inr rfl)) (by decide) (Or.inl (by decide))) (ld1_ne ld2_eq (by decide) (Or.inl (by decide))) ld1_eq
    ) (fun b5 e6 =>
      M_of (fun _ _ H => r_icmpF c235_27 b5 <| H) <|
      M_of (fun _ _ H => r_aloadn c235_30 (ld2_ne (ld1_ne h0 (by decide) (Or.inl (by decide))) (by decide) (Or.inl (by decide))) <| r_iconst c235_31 <| r_iloadn c235_32 (ld2_ne (ld1_ne h1 (by decide) (Or.inr rfl)) (by decide) (Or.inl (by decide))) <| r_iconst c235_33 <| r_iadd c235_34 rfl <| r_aloadn c235_35 (ld2_ne (ld1_ne h0 (by decide) (Or.inl (by decide))) (by decide) (Or.inl (by decide))) <| H) <|
      M_geta (j := 11) c235_36 (by decide) <|
      M_of (fun _ _ H => r_iloadn c235_39 (ld2_ne ld1_eq (by decide) (Or.inr rfl)) <| H) <|
      t_ck e6 fun i47 e48 =>
      M_iald (j := 11) (v := (s.2.2.1 11 ((72 + s.1)).toInt.toNat)) c235_40 (by decide) i47 rfl <|
      t_bd e48 fun r49 c50 e51 =>
      M_cv (as := [.ref a, .int 3, .int (s.1 + 1), .int (s.2.2.1 11 ((72 + s.1)).toInt.toNat)]) (st' := [.long r49.1]) (v := (some (.long r49.1))) c235_41 rfl ⟨Nat.le_of_ble_eq_true rfl, Nat.le_of_ble_eq_true rfl, Nat.le_of_ble_eq_true rfl⟩ rfl rfl (M236_ok (d := d) c50) (Nat.add_lt_add_left (by decide) d) <|
      M_of (fun _ _ H => r_aloadn c235_44 (ld2_ne (ld1_ne h0 (by decide) (Or.inl (by decide))) (by decide) (Or.inl (by decide))) <| H) <|
      M_geta (j := 7) c235_45 (by decide) <|
      M_of (fun _ _ H => r_iloadn c235_48 (ld2_ne ld1_eq (by decide) (Or.inr rfl)) <| H) <|
      t_ck e51 fun i52 e53 =>
      M_iald (j := 7) (v := (r49.2.2.1 7 ((72 + s.1)).toInt.toNat)) c235_49 (by decide) i52 rfl <|
      t_bd e53 fun r54 c55 e56 =>
      M_cs (as := [.long r49.1, .int (r49.2.2.1 7 ((72 + s.1)).toInt.toNat)]) (st' := [.long r54.1]) (v := (some (.long r54.1))) c235_50 ⟨Nat.le_of_ble_eq_true rfl, Nat.le_of_ble_eq_true rfl, Nat.le_of_ble_eq_true rfl⟩ rfl rfl (M238_ok (d := d) c55) (Nat.add_lt_add_left (by decide) d) <|
      M_of (fun _ _ H => r_lstoren c235_53 <| r_goto c235_54 <| H) <|
      J235_97_ok (ld2_ne (ld2_ne (ld1_ne h0 (by decide) (Or.inl (by decide))) (by decide) (Or.inl (by decide))) (by decide) (Or.inl (by decide))) (ld2_ne (ld2_ne (ld1_ne h1 (by decide) (Or.inr rfl)) (by decide) (Or.inl (by decide))) (by decide) (Or.inl (by decide))) (ld2_ne (ld2_ne ld1_eq (by decide) (Or.inr rfl)) (by decide) (Or.inr rfl)) ld2_eq e56 g
    )
  ))
theorem L235_9_ok {xt : mj_X} {ct : Nat → Value} {a : Nat} {ra : Nat → Nat} {d N : Nat} {x1 : Int32} {S : mS} {q : mS} (e : L235_9 N (x1, S) = some q) : LG235_9 xt ct a ra d q x1 S :=
  t_lp_ok (G := fun s => LG235_9 xt ct a ra d q s.1 s.2) (fun s s' e g => B235_9_ok e (by obtain ⟨_, _⟩ := s'; exact g)) (fun s e => B235_9_ok e rfl) N (x1, S) e
/-- findFactors()V -/
def M235 (N : Nat)  (S : mS) : Option (mS) :=
  L235_9 N (((S.2.1 5 3) - 1), S)
theorem M235_ok {xt : mj_X} {ct : Nat → Value} {a : Nat} {ra : Nat → Nat} {d N : Nat}  {S : mS} {q : mS} (e : M235 N  S = some q) : MR xt ct a ra (d + 4) 235 0 (lv_args 0 [.ref a]) [] S (.inl none) q := by
  unfold M235 at e
  exact (
  M_of (fun _ _ H => r_aloadn c235_0 rfl <| H) <|
  M_geta (j := 5) c235_1 (by decide) <|
  M_of (fun _ _ H => r_iconst c235_4 <| H) <|
  M_iald (j := 5) (v := (S.2.1 5 3)) c235_5 (by decide) (by decide) rfl <|
  M_of (fun _ _ H => r_iconst c235_6 <| r_isub c235_7 rfl <| r_istoren c235_8 <| H) <|
  L235_9_ok e _ (ld1_ne rfl (by decide) (Or.inr rfl)) ld1_eq)
def LG211_34 (xt : mj_X) (ct : Nat → Value) (a : Nat) (ra : Nat → Nat) (d : Nat) (q : Int32 × mS) (x1 : Int32) (S : mS) : Prop := ∀ l, mj_ld l 0 = some (.ref a) → mj_ld l 1 = some (.int x1) → MR xt ct a ra (d + 9) 211 34 l [] S (.inl (some (.int q.1))) q.2
def GG211_34 (xt : mj_X) (ct : Nat → Value) (a : Nat) (ra : Nat → Nat) (d : Nat) (q : Int32 × mS) (o : (Int32 × mS) ⊕ (Int32 × mS)) : Prop := match o with
  | .inl (x1, S) => LG211_34 xt ct a ra d q x1 S
  | .inr r => r = q
def J211_166 (N : Nat)  (s0 : Int32) (S : mS) : Option (Int32 × mS) :=
  if s0 = 0 ∨ s0 = 1 then
  some (s0, S)
  else none
theorem J211_166_ok {xt : mj_X} {ct : Nat → Value} {a : Nat} {ra : Nat → Nat} {d N : Nat} {l : mj_L}  {s0 : Int32} {S : mS} {q : Int32 × mS} (h0 : mj_ld l 0 = some (.ref a)) (e : J211_166 N  s0 S = some q) : MR xt ct a ra (d + 9) 211 166 l [.int s0] S (.inl (some (.int q.1))) q.2 := by
  unfold J211_166 at e
  exact (
  t_ck e fun z13 e14 =>
  M_ri (Option.some.inj e14) (fun _ => r_iret c211_166 (m_z1 z13)))
def J211_161 (N : Nat)   (S : mS) : Option (Int32 × mS) :=
  J211_166 N 1 S
theorem J211_161_ok {xt : mj_X} {ct : Nat → Value} {a : Nat} {ra : Nat → Nat} {d N : Nat} {l : mj_L}   {S : mS} {q : Int32 × mS} (h0 : mj_ld l 0 = some (.ref a)) (e : J211_161 N   S = some q) : MR xt ct a ra (d + 9) 211 161 l [] S (.inl (some (.int q.1))) q.2 := by
  unfold J211_161 at e
  exact (
  M_of (fun _ _ H => r_iconst c211_161 <| r_goto c211_162 <| H) <|
  J211_166_ok h0 e)
def J211_121 (N : Nat) (x1 : Int32)  (S : mS) : Option (Int32 × mS) :=
  bif mj_c1 .ne x1 then
    (M235 N S).bind fun r5 =>
    (M236 N 3 0 (r5.2.1 5 3) r5).bind fun r8 =>
    bif mj_c1 .le (lg_cmp r8.1 2147483648) then
      J211_161 N r8.2
    else
    (M213 N (r8.2.1 2) r8.2).bind fun r15 =>
    bif mj_c1 .eq r15.1 then
      J211_166 N 0 r15.2
    else
    J211_161 N r15.2
  else
  some (0, S)
theorem J211_121_ok {xt : mj_X} {ct : Nat → Value} {a : Nat} {ra : Nat → Nat} {d N : Nat} {l : mj_L} {x1 : Int32}  {S : mS} {q : Int32 × mS} (h0 : mj_ld l 0 = some (.ref a)) (h1 : mj_ld l 1 = some (.int x1)) (e : J211_121 N x1  S = some q) : MR xt ct a ra (d + 9) 211 121 l [] S (.inl (some (.int q.1))) q.2 := by
  unfold J211_121 at e
  exact (
  M_of (fun _ _ H => r_iloadn c211_121 h1 <| H) <|
  t_if e (fun b3 e4 =>
    M_of (fun _ _ H => r_ifT c211_122 b3 <| H) <|
    M_of (fun _ _ H => r_aloadn c211_127 h0 <| H) <|
    t_bd e4 fun r5 c6 e7 =>
    M_cv (as := [.ref a]) (st' := []) (v := none) c211_128 rfl ⟨Nat.le_of_ble_eq_true rfl, Nat.le_of_ble_eq_true rfl, Nat.le_of_ble_eq_true rfl⟩ rfl rfl (M235_ok (d := d) c6) (Nat.add_lt_add_left (by decide) d) <|
    M_of (fun _ _ H => r_aloadn c211_131 h0 <| r_iconst c211_132 <| r_iconst c211_133 <| r_aloadn c211_134 h0 <| H) <|
    M_geta (j := 5) c211_135 (by decide) <|
    M_of (fun _ _ H => r_iconst c211_138 <| H) <|
    M_iald (j := 5) (v := (r5.2.1 5 3)) c211_139 (by decide) (by decide) rfl <|
    t_bd e7 fun r8 c9 e10 =>
    M_cv (as := [.ref a, .int 3, .int 0, .int (r5.2.1 5 3)]) (st' := [.long r8.1]) (v := (some (.long r8.1))) c211_140 rfl ⟨Nat.le_of_ble_eq_true rfl, Nat.le_of_ble_eq_true rfl, Nat.le_of_ble_eq_true rfl⟩ rfl rfl (M236_ok (d := d) c9) (Nat.add_lt_add_left (by decide) d) <|
    M_of (fun _ _ H => r_ldc2 c211_143 <| r_lcmp c211_146 rfl <| H) <|
    t_if e10 (fun b11 e12 =>
      M_of (fun _ _ H => r_ifT c211_147 b11 <| H) <|
      J211_161_ok h0 e12
    ) (fun b11 e12 =>
      M_of (fun _ _ H => r_ifF c211_147 b11 <| H) <|
      M_of (fun _ _ H => r_aloadn c211_150 h0 <| r_aloadn c211_151 h0 <| H) <|
      M_get (v := (r8.2.1 2)) c211_152 (by decide) rfl <|
      t_bd e12 fun r15 c16 e17 =>
      M_cv (as := [.ref a, .int (r8.2.1 2)]) (st' := [.int r15.1]) (v := (some (.int r15.1))) c211_155 rfl ⟨Nat.le_of_ble_eq_true rfl, Nat.le_of_ble_eq_true rfl, Nat.le_of_ble_eq_true rfl⟩ rfl rfl (M213_ok (d := d) c16) (Nat.add_lt_add_left (by decide) d) <|
      t_if e17 (fun b18 e19 =>
        M_of (fun _ _ H => r_ifT c211_158 b18 <| H) <|
        M_of (fun _ _ H => r_iconst c211_165 <| H) <|
        J211_166_ok h0 e19
      ) (fun b18 e19 =>
        M_of (fun _ _ H => r_ifF c211_158 b18 <| H) <|
        J211_161_ok h0 e19
      )
    )
  ) (fun b3 e4 =>
    M_of (fun _ _ H => r_ifF c211_122 b3 <| H) <|
    M_of (fun _ _ H => r_iconst c211_125 <| H) <|
    M_ri (Option.some.inj e4) (fun _ => r_iret c211_126 rfl)
  ))
def J211_117 (N : Nat)  (s0 : Int32) (S : mS) : Option ((Int32 × mS) ⊕ (Int32 × mS)) :=
  some (.inl (s0, S))
theorem J211_117_ok {xt : mj_X} {ct : Nat → Value} {a : Nat} {ra : Nat → Nat} {d N : Nat} {l : mj_L}  {s0 : Int32} {S : mS} {o : (Int32 × mS) ⊕ (Int32 × mS)} {q : Int32 × mS} (h0 : mj_ld l 0 = some (.ref a)) (e : J211_117 N  s0 S = some o) (g : GG211_34 xt ct a ra d q o) : MR xt ct a ra (d + 9) 211 117 l [.int s0] S (.inl (some (.int q.1))) q.2 := by
  unfold J211_117 at e
  exact (
  M_of (fun _ _ H => r_istoren c211_117 <| r_goto c211_118 <| H) <|
  t_rg e g (fun (e : LG211_34 xt ct a ra d q s0 S) => e _ (ld1_ne h0 (by decide) (Or.inr rfl)) ld1_eq))
def J211_102 (N : Nat) (x2 : Int32)  (S : mS) : Option ((Int32 × mS) ⊕ (Int32 × mS)) :=
  bif mj_c1 .eq x2 then
    (M234 N S).bind fun r32 =>
    J211_117 N r32.1 r32.2
  else
  (M214 N S).bind fun r35 =>
  J211_117 N r35.1 r35.2
theorem J211_102_ok {xt : mj_X} {ct : Nat → Value} {a : Nat} {ra : Nat → Nat} {d N : Nat} {l : mj_L} {x2 : Int32}  {S : mS} {o : (Int32 × mS) ⊕ (Int32 × mS)} {q : Int32 × mS} (h0 : mj_ld l 0 = some (.ref a)) (h2 : mj_ld l 2 = some (.int x2)) (e : J211_102 N x2  S = some o) (g : GG211_34 xt ct a ra d q o) : MR xt ct a ra (d + 9) 211 102 l [] S (.inl (some (.int q.1))) q.2 := by
  unfold J211_102 at e
  exact (
  M_of (fun _ _ H => r_iloadn c211_102 h2 <| H) <|
  t_if e (fun b30 e31 =>
    M_of (fun _ _ H => r_ifT c211_103 b30 <| H) <|
    M_of (fun _ _ H => r_aloadn c211_113 h0 <| H) <|
    t_bd e31 fun r32 c33 e34 =>
    M_cv (as := [.ref a]) (st' := [.int r32.1]) (v := (some (.int r32.1))) c211_114 rfl ⟨Nat.le_of_ble_eq_true rfl, Nat.le_of_ble_eq_true rfl, Nat.le_of_ble_eq_true rfl⟩ rfl rfl (M234_ok (d := d) c33) (Nat.add_lt_add_left (by decide) d) <|
    J211_117_ok h0 e34 g
  ) (fun b30 e31 =>
    M_of (fun _ _ H => r_ifF c211_103 b30 <| H) <|
    M_of (fun _ _ H => r_aloadn c211_106 h0 <| H) <|
    t_bd e31 fun r35 c36 e37 =>
    M_cv (as := [.ref a]) (st' := [.int r35.1]) (v := (some (.int r35.1))) c211_107 rfl ⟨Nat.le_of_ble_eq_true rfl, Nat.le_of_ble_eq_true rfl, Nat.le_of_ble_eq_true rfl⟩ rfl rfl (M214_ok (d := d) c36) (Nat.add_lt_add_left (by decide) d) <|
    M_of (fun _ _ H => r_goto c211_110 <| H) <|
    J211_117_ok h0 e37 g
  ))
def J211_81 (N : Nat)  (s0 : Int32) (S : mS) : Option ((Int32 × mS) ⊕ (Int32 × mS)) :=
  bif mj_c1 .ne s0 then
    J211_102 N s0 S
  else
  bif mj_c1 .ne (S.1 36) then
    J211_102 N s0 S
  else
  (M213 N (S.1 22) S).bind fun r40 =>
  if r40.1 = 0 ∨ r40.1 = 1 then
  some (.inr (r40.1, r40.2))
  else none
theorem J211_81_ok {xt : mj_X} {ct : Nat → Value} {a : Nat} {ra : Nat → Nat} {d N : Nat} {l : mj_L}  {s0 : Int32} {S : mS} {o : (Int32 × mS) ⊕ (Int32 × mS)} {q : Int32 × mS} (h0 : mj_ld l 0 = some (.ref a)) (e : J211_81 N  s0 S = some o) (g : GG211_34 xt ct a ra d q o) : MR xt ct a ra (d + 9) 211 81 l [.int s0] S (.inl (some (.int q.1))) q.2 := by
  unfold J211_81 at e
  exact (
  M_of (fun _ _ H => r_istoren c211_81 <| r_iloadn c211_82 ld1_eq <| H) <|
  t_if e (fun b28 e29 =>
    M_of (fun _ _ H => r_ifT c211_83 b28 <| H) <|
    J211_102_ok (ld1_ne h0 (by decide) (Or.inl (by decide))) ld1_eq e29 g
  ) (fun b28 e29 =>
    M_of (fun _ _ H => r_ifF c211_83 b28 <| H) <|
    M_of (fun _ _ H => r_aloadn c211_86 (ld1_ne h0 (by decide) (Or.inl (by decide))) <| H) <|
    M_get (v := (S.1 36)) c211_87 (by decide) rfl <|
    t_if e29 (fun b38 e39 =>
      M_of (fun _ _ H => r_ifT c211_90 b38 <| H) <|
      J211_102_ok (ld1_ne h0 (by decide) (Or.inl (by decide))) ld1_eq e39 g
    ) (fun b38 e39 =>
      M_of (fun _ _ H => r_ifF c211_90 b38 <| H) <|
      M_of (fun _ _ H => r_aloadn c211_93 (ld1_ne h0 (by decide) (Or.inl (by decide))) <| r_aloadn c211_94 (ld1_ne h0 (by decide) (Or.inl (by decide))) <| H) <|
      M_get (v := (S.1 22)) c211_95 (by decide) rfl <|
      t_bd e39 fun r40 c41 e42 =>
      M_cv (as := [.ref a, .int (S.1 22)]) (st' := [.int r40.1]) (v := (some (.int r40.1))) c211_98 rfl ⟨Nat.le_of_ble_eq_true rfl, Nat.le_of_ble_eq_true rfl, Nat.le_of_ble_eq_true rfl⟩ rfl rfl (M213_ok (d := d) c41) (Nat.add_lt_add_left (by decide) d) <|
      t_ck e42 fun z43 e44 =>
      t_rg e44 g (fun (e : (r40.1, r40.2) = q) => M_ri (e) (fun _ => r_iret c211_101 (m_z1 z43)))
    )
  ))
def J211_80 (N : Nat)   (S : mS) : Option ((Int32 × mS) ⊕ (Int32 × mS)) :=
  J211_81 N 0 S
theorem J211_80_ok {xt : mj_X} {ct : Nat → Value} {a : Nat} {ra : Nat → Nat} {d N : Nat} {l : mj_L}   {S : mS} {o : (Int32 × mS) ⊕ (Int32 × mS)} {q : Int32 × mS} (h0 : mj_ld l 0 = some (.ref a)) (e : J211_80 N   S = some o) (g : GG211_34 xt ct a ra d q o) : MR xt ct a ra (d + 9) 211 80 l [] S (.inl (some (.int q.1))) q.2 := by
  unfold J211_80 at e
  exact (
  M_of (fun _ _ H => r_iconst c211_80 <| H) <|
  J211_81_ok h0 e g)
def J211_56 (N : Nat)   (S : mS) : Option ((Int32 × mS) ⊕ (Int32 × mS)) :=
  bif mj_c2 .ge (S.1 22) (S.1 2) then
    J211_80 N S
  else
  (M212 N S).bind fun r45 =>
  bif mj_c2 .eq r45.1 125 then
    J211_80 N r45.2
  else
  J211_81 N 1 r45.2
theorem J211_56_ok {xt : mj_X} {ct : Nat → Value} {a : Nat} {ra : Nat → Nat} {d N : Nat} {l : mj_L}   {S : mS} {o : (Int32 × mS) ⊕ (Int32 × mS)} {q : Int32 × mS} (h0 : mj_ld l 0 = some (.ref a)) (e : J211_56 N   S = some o) (g : GG211_34 xt ct a ra d q o) : MR xt ct a ra (d + 9) 211 56 l [] S (.inl (some (.int q.1))) q.2 := by
  unfold J211_56 at e
  exact (
  M_of (fun _ _ H => r_aloadn c211_56 h0 <| H) <|
  M_get (v := (S.1 22)) c211_57 (by decide) rfl <|
  M_of (fun _ _ H => r_aloadn c211_60 h0 <| H) <|
  M_get (v := (S.1 2)) c211_61 (by decide) rfl <|
  t_if e (fun b26 e27 =>
    M_of (fun _ _ H => r_icmpT c211_64 b26 <| H) <|
    J211_80_ok h0 e27 g
  ) (fun b26 e27 =>
    M_of (fun _ _ H => r_icmpF c211_64 b26 <| H) <|
    M_of (fun _ _ H => r_aloadn c211_67 h0 <| H) <|
    t_bd e27 fun r45 c46 e47 =>
    M_cv (as := [.ref a]) (st' := [.int r45.1]) (v := (some (.int r45.1))) c211_68 rfl ⟨Nat.le_of_ble_eq_true rfl, Nat.le_of_ble_eq_true rfl, Nat.le_of_ble_eq_true rfl⟩ rfl rfl (M212_ok (d := d) c46) (Nat.add_lt_add_left (by decide) d) <|
    M_of (fun _ _ H => r_bipush c211_71 <| H) <|
    t_if e47 (fun b48 e49 =>
      M_of (fun _ _ H => r_icmpT c211_73 b48 <| H) <|
      J211_80_ok h0 e49 g
    ) (fun b48 e49 =>
      M_of (fun _ _ H => r_icmpF c211_73 b48 <| H) <|
      M_of (fun _ _ H => r_iconst c211_76 <| r_goto c211_77 <| H) <|
      J211_81_ok h0 e49 g
    )
  ))
def B211_34 (N : Nat) (s : Int32 × mS) : Option ((Int32 × mS) ⊕ (Int32 × mS)) :=
  bif mj_c1 .eq s.1 then
    (J211_121 N s.1 s.2).map Sum.inr
  else
  bif mj_c2 .lt (s.2.1 22) (s.2.1 2) then
    J211_56 N s.2
  else
  bif mj_c1 .le (s.2.1 36) then
    (J211_121 N s.1 s.2).map Sum.inr
  else
  J211_56 N s.2
def L211_34 (N : Nat) (s : Int32 × mS) : Option (Int32 × mS) := t_lp (B211_34 N) N s
theorem B211_34_ok {xt : mj_X} {ct : Nat → Value} {a : Nat} {ra : Nat → Nat} {d N : Nat} {s : Int32 × mS} {o : (Int32 × mS) ⊕ (Int32 × mS)} {q : Int32 × mS} (e : B211_34 N s = some o) (g : GG211_34 xt ct a ra d q o) : LG211_34 xt ct a ra d q s.1 s.2 := by
  unfold B211_34 at e
  exact (fun l h0 h1 =>
  M_of (fun _ _ H => r_iloadn c211_34 h1 <| H) <|
  t_if e (fun b1 e2 =>
    M_of (fun _ _ H => r_ifT c211_35 b1 <| H) <|
    t_up e2 fun o20 e21 u22 =>
    (fun (g23 : o20 = q) =>
    by subst g23; exact (J211_121_ok h0 h1 e21)
    ) (by have := g; rw [u22] at this; exact this)
  ) (fun b1 e2 =>
    M_of (fun _ _ H => r_ifF c211_35 b1 <| H) <|
    M_of (fun _ _ H => r_aloadn c211_38 h0 <| H) <|
    M_get (v := (s.2.1 22)) c211_39 (by decide) rfl <|
    M_of (fun _ _ H => r_aloadn c211_42 h0 <| H) <|
    M_get (v := (s.2.1 2)) c211_43 (by decide) rfl <|
    t_if e2 (fun b24 e25 =>
      M_of (fun _ _ H => r_icmpT c211_46 b24 <| H) <|
      J211_56_ok h0 e25 g
    ) (fun b24 e25 =>
      M_of (fun _ _ H => r_icmpF c211_46 b24 <| H) <|
      M_of (fun _ _ H => r_aloadn c211_49 h0 <| H) <|
      M_get (v := (s.2.1 36)) c211_50 (by decide) rfl <|
      t_if e25 (fun b50 e51 =>
        M_of (fun _ _ H => r_ifT c211_53 b50 <| H) <|
        t_up e51 fun o52 e53 u54 =>
        (fun (g55 : o52 = q) =>
        by subst g55; exact (J211_121_ok h0 h1 e53)
        ) (by have := g; rw [u54] at this; exact this)
      ) (fun b50 e51 =>
        M_of (fun _ _ H => r_ifF c211_53 b50 <| H) <|
        J211_56_ok h0 e51 g
      )
    )
  ))
theorem L211_34_ok {xt : mj_X} {ct : Nat → Value} {a : Nat} {ra : Nat → Nat} {d N : Nat} {x1 : Int32} {S : mS} {q : Int32 × mS} (e : L211_34 N (x1, S) = some q) : LG211_34 xt ct a ra d q x1 S :=
  t_lp_ok (G := fun s => LG211_34 xt ct a ra d q s.1 s.2) (fun s s' e g => B211_34_ok e (by obtain ⟨_, _⟩ := s'; exact g)) (fun s e => B211_34_ok e rfl) N (x1, S) e
/-- parse()Z -/
def M211 (N : Nat)  (S : mS) : Option (Int32 × mS) :=
  L211_34 N (1, (m_sA (m_sV (m_sV (m_sV (m_sV (m_sV S 22 0) 23 0) 24 0) 25 0) 36 0) 5 3 0))
theorem M211_ok {xt : mj_X} {ct : Nat → Value} {a : Nat} {ra : Nat → Nat} {d N : Nat}  {S : mS} {q : Int32 × mS} (e : M211 N  S = some q) : MR xt ct a ra (d + 9) 211 0 (lv_args 0 [.ref a]) [] S (.inl (some (.int q.1))) q.2 := by
  unfold M211 at e
  exact (
  M_of (fun _ _ H => r_aloadn c211_0 rfl <| r_iconst c211_1 <| H) <|
  M_put c211_2 (by decide) <|
  M_of (fun _ _ H => r_aloadn c211_5 rfl <| r_iconst c211_6 <| H) <|
  M_put c211_7 (by decide) <|
  M_of (fun _ _ H => r_aloadn c211_10 rfl <| r_iconst c211_11 <| H) <|
  M_put c211_12 (by decide) <|
  M_of (fun _ _ H => r_aloadn c211_15 rfl <| r_iconst c211_16 <| H) <|
  M_put c211_17 (by decide) <|
  M_of (fun _ _ H => r_aloadn c211_20 rfl <| r_iconst c211_21 <| H) <|
  M_put c211_22 (by decide) <|
  M_of (fun _ _ H => r_aloadn c211_25 rfl <| H) <|
  M_geta (j := 5) c211_26 (by decide) <|
  M_of (fun _ _ H => r_iconst c211_29 <| r_iconst c211_30 <| H) <|
  M_iast (j := 5) c211_31 (by decide) (by decide) <|
  M_of (fun _ _ H => r_iconst c211_32 <| r_istoren c211_33 <| H) <|
  L211_34_ok e _ (ld1_ne rfl (by decide) (Or.inr rfl)) ld1_eq)
/-- refuse(I)I -/
def M242 (N : Nat) (x1 : Int32) (S : mS) : Option (Int32 × mS) :=
  some (0, (m_sV S 0 x1))
theorem M242_ok {xt : mj_X} {ct : Nat → Value} {a : Nat} {ra : Nat → Nat} {d N : Nat} {x1 : Int32} {S : mS} {q : Int32 × mS} (e : M242 N x1 S = some q) : MR xt ct a ra (d + 1) 242 0 (lv_args 0 [.ref a, .int x1]) [] S (.inl (some (.int q.1))) q.2 := by
  unfold M242 at e
  exact (
  M_of (fun _ _ H => r_aloadn c242_0 rfl <| r_iloadn c242_1 rfl <| H) <|
  M_put c242_2 (by decide) <|
  M_of (fun _ _ H => r_iconst c242_5 <| H) <|
  M_ri (Option.some.inj e) (fun _ => r_iret c242_6 rfl))
def LG243_21 (xt : mj_X) (ct : Nat → Value) (a : Nat) (ra : Nat → Nat) (d : Nat) (q : mS) (x1 : Int32) (x2 : Int32) (S : mS) : Prop := ∀ l, mj_ld l 0 = some (.ref a) → mj_ld l 1 = some (.int x1) → mj_ld l 2 = some (.int x2) → MR xt ct a ra (d + 1) 243 21 l [] S (.inl none) q
def GG243_21 (xt : mj_X) (ct : Nat → Value) (a : Nat) (ra : Nat → Nat) (d : Nat) (q : mS) (o : (Int32 × Int32 × mS) ⊕ (mS)) : Prop := match o with
  | .inl (x1, x2, S) => LG243_21 xt ct a ra d q x1 x2 S
  | .inr r => r = q
def LG243_139 (xt : mj_X) (ct : Nat → Value) (a : Nat) (ra : Nat → Nat) (d : Nat) (q : mS) (x1 : Int32) (x2 : Int32) (S : mS) : Prop := ∀ l, mj_ld l 0 = some (.ref a) → mj_ld l 1 = some (.int x1) → mj_ld l 2 = some (.int x2) → MR xt ct a ra (d + 1) 243 139 l [] S (.inl none) q
def GG243_139 (xt : mj_X) (ct : Nat → Value) (a : Nat) (ra : Nat → Nat) (d : Nat) (q : mS) (o : (Int32 × Int32 × mS) ⊕ (mS)) : Prop := match o with
  | .inl (x1, x2, S) => LG243_139 xt ct a ra d q x1 x2 S
  | .inr r => r = q
def B243_139 (N : Nat) (s : Int32 × Int32 × mS) : Option ((Int32 × Int32 × mS) ⊕ (mS)) :=
  bif mj_c2 .ge s.2.1 160 then
    some (.inr s.2.2)
  else
  if 0 ≤ ((480 + s.2.1)).toInt ∧ ((480 + s.2.1)).toInt < mN 13 then
  if 0 ≤ (((160 * s.1) + s.2.1)).toInt ∧ (((160 * s.1) + s.2.1)).toInt < mN 13 then
  if 0 ≤ ((480 + s.2.1)).toInt ∧ ((480 + s.2.1)).toInt < mN 14 then
  if 0 ≤ (((160 * s.1) + s.2.1)).toInt ∧ (((160 * s.1) + s.2.1)).toInt < mN 14 then
  if 0 ≤ ((480 + s.2.1)).toInt ∧ ((480 + s.2.1)).toInt < mN 15 then
  if 0 ≤ (((160 * s.1) + s.2.1)).toInt ∧ (((160 * s.1) + s.2.1)).toInt < mN 15 then
  if 0 ≤ ((480 + s.2.1)).toInt ∧ ((480 + s.2.1)).toInt < mN 16 then
  if 0 ≤ (((160 * s.1) + s.2.1)).toInt ∧ (((160 * s.1) + s.2.1)).toInt < mN 16 then
  if 0 ≤ ((480 + s.2.1)).toInt ∧ ((480 + s.2.1)).toInt < mN 17 then
  if 0 ≤ (((160 * s.1) + s.2.1)).toInt ∧ (((160 * s.1) + s.2.1)).toInt < mN 17 then
  if 0 ≤ ((480 + s.2.1)).toInt ∧ ((480 + s.2.1)).toInt < mN 18 then
  if 0 ≤ (((160 * s.1) + s.2.1)).toInt ∧ (((160 * s.1) + s.2.1)).toInt < mN 18 then
  if 0 ≤ ((480 + s.2.1)).toInt ∧ ((480 + s.2.1)).toInt < mN 19 then
  if 0 ≤ (((160 * s.1) + s.2.1)).toInt ∧ (((160 * s.1) + s.2.1)).toInt < mN 19 then
  if 0 ≤ ((480 + s.2.1)).toInt ∧ ((480 + s.2.1)).toInt < mN 20 then
  if 0 ≤ (((160 * s.1) + s.2.1)).toInt ∧ (((160 * s.1) + s.2.1)).toInt < mN 20 then
  some (.inl (s.1, (s.2.1 + 1), (m_sA (m_sA (m_sA (m_sA (m_sA (m_sA (m_sA (m_sA s.2.2 13 (((160 * s.1) + s.2.1)).toInt.toNat (s.2.2.2.1 13 ((480 + s.2.1)).toInt.toNat)) 14 (((160 * s.1) + s.2.1)).toInt.toNat (s.2.2.2.1 14 ((480 + s.2.1)).toInt.toNat)) 15 (((160 * s.1) + s.2.1)).toInt.toNat (s.2.2.2.1 15 ((480 + s.2.1)).toInt.toNat)) 16 (((160 * s.1) + s.2.1)).toInt.toNat (s.2.2.2.1 16 ((480 + s.2.1)).toInt.toNat)) 17 (((160 * s.1) + s.2.1)).toInt.toNat (s.2.2.2.1 17 ((480 + s.2.1)).toInt.toNat)) 18 (((160 * s.1) + s.2.1)).toInt.toNat (s.2.2.2.1 18 ((480 + s.2.1)).toInt.toNat)) 19 (((160 * s.1) + s.2.1)).toInt.toNat (s.2.2.2.1 19 ((480 + s.2.1)).toInt.toNat)) 20 (((160 * s.1) + s.2.1)).toInt.toNat (s.2.2.2.1 20 ((480 + s.2.1)).toInt.toNat))))
  else none
  else none
  else none
  else none
  else none
  else none
  else none
  else none
  else none
  else none
  else none
  else none
  else none
  else none
  else none
  else none
def L243_139 (N : Nat) (s : Int32 × Int32 × mS) : Option (mS) := t_lp (B243_139 N) N s
theorem B243_139_ok {xt : mj_X} {ct : Nat → Value} {a : Nat} {ra : Nat → Nat} {d N : Nat} {s : Int32 × Int32 × mS} {o : (Int32 × Int32 × mS) ⊕ (mS)} {q : mS} (e : B243_139 N s = some o) (g : GG243_139 xt ct a ra d q o) : LG243_139 xt ct a ra d q s.1 s.2.1 s.2.2 := by
  unfold B243_139 at e
  exact (fun l h0 h1 h2 =>
  M_of (fun _ _ H => r_iloadn c243_139 h2 <| r_sipush c243_140 <| H) <|
  t_if e (fun b7 e8 =>
    M_of (fun _ _ H => r_icmpT c243_143 b7 <| H) <|
    t_rg e8 g (fun (e : s.2.2 = q) => M_rv (e) (fun _ => r_ret c243_271))
  ) (fun b7 e8 =>
    M_of (fun _ _ H => r_icmpF c243_143 b7 <| H) <|
    M_of (fun _ _ H => r_sipush c243_146 <| r_iloadn c243_149 h2 <| r_iadd c243_150 rfl <| r_istoren c243_151 <| r_sipush c243_152 <| r_iloadn c243_155 (ld1_ne h1 (by decide) (Or.inl (by decide))) <| r_imul c243_156 rfl <| r_iloadn c243_157 (ld1_ne h2 (by decide) (Or.inr rfl)) <| r_iadd c243_158 rfl <| r_istore c243_159 <| r_aloadn c243_161 (ld1_ne (ld1_ne h0 (by decide) (Or.inl (by decide))) (by decide) (Or.inl (by decide))) <| H) <|
    M_geta (j := 13) c243_162 (by decide) <|
    M_of (fun _ _ H => r_iload c243_165 ld1_eq <| r_aloadn c243_167 (ld1_ne (ld1_ne h0 (by decide) (Or.inl (by decide))) (by decide) (Or.inl (by decide))) <| H) <|
    M_geta (j := 13) c243_168 (by decide) <|
    M_of (fun _ _ H => r_iloadn c243_171 (ld1_ne ld1_eq (by decide) (Or.inr rfl)) <| H) <|
    t_ck e8 fun i9 e10 =>
    M_iald (j := 13) (v := (s.2.2.2.1 13 ((480 + s.2.1)).toInt.toNat)) c243_172 (by decide) i9 rfl <|
    t_ck e10 fun i11 e12 =>
    M_iast (j := 13) c243_173 (by decide) i11 <|
    M_of (fun _ _ H => r_aloadn c243_174 (ld1_ne (ld1_ne h0 (by decide) (Or.inl (by decide))) (by decide) (Or.inl (by decide))) <| H) <|
    M_geta (j := 14) c243_175 (by decide) <|
    M_of (fun _ _ H => r_iload c243_178 ld1_eq <| r_aloadn c243_180 (ld1_ne (ld1_ne h0 (by decide) (Or.inl (by decide))) (by decide) (Or.inl (by decide))) <| H) <|
    M_geta (j := 14) c243_181 (by decide) <|
    M_of (fun _ _ H => r_iloadn c243_184 (ld1_ne ld1_eq (by decide) (Or.inr rfl)) <| H) <|
    t_ck e12 fun i13 e14 =>
    M_iald (j := 14) (v := (s.2.2.2.1 14 ((480 + s.2.1)).toInt.toNat)) c243_185 (by decide) i13 rfl <|
    t_ck e14 fun i15 e16 =>
    M_iast (j := 14) c243_186 (by decide) i15 <|
    M_of (fun _ _ H => r_aloadn c243_187 (ld1_ne (ld1_ne h0 (by decide) (Or.inl (by decide))) (by decide) (Or.inl (by decide))) <| H) <|
    M_geta (j := 15) c243_188 (by decide) <|
    M_of (fun _ _ H => r_iload c243_191 ld1_eq <| r_aloadn c243_193 (ld1_ne (ld1_ne h0 (by decide) (Or.inl (by decide))) (by decide) (Or.inl (by decide))) <| H) <|
    M_geta (j := 15) c243_194 (by decide) <|
    M_of (fun _ _ H => r_iloadn c243_197 (ld1_ne ld1_eq (by decide) (Or.inr rfl)) <| H) <|
    t_ck e16 fun i17 e18 =>
    M_iald (j := 15) (v := (s.2.2.2.1 15 ((480 + s.2.1)).toInt.toNat)) c243_198 (by decide) i17 rfl <|
    t_ck e18 fun i19 e20 =>
    M_iast (j := 15) c243_199 (by decide) i19 <|
    M_of (fun _ _ H => r_aloadn c243_200 (ld1_ne (ld1_ne h0 (by decide) (Or.inl (by decide))) (by decide) (Or.inl (by decide))) <| H) <|
    M_geta (j := 16) c243_201 (by decide) <|
    M_of (fun _ _ H => r_iload c243_204 ld1_eq <| r_aloadn c243_206 (ld1_ne (ld1_ne h0 (by decide) (Or.inl (by decide))) (by decide) (Or.inl (by decide))) <| H) <|
    M_geta (j := 16) c243_207 (by decide) <|
    M_of (fun _ _ H => r_iloadn c243_210 (ld1_ne ld1_eq (by decide) (Or.inr rfl)) <| H) <|
    t_ck e20 fun i21 e22 =>
    M_iald (j := 16) (v := (s.2.2.2.1 16 ((480 + s.2.1)).toInt.toNat)) c243_211 (by decide) i21 rfl <|
    t_ck e22 fun i23 e24 =>
    M_iast (j := 16) c243_212 (by decide) i23 <|
    M_of (fun _ _ H => r_aloadn c243_213 (ld1_ne (ld1_ne h0 (by decide) (Or.inl (by decide))) (by decide) (Or.inl (by decide))) <| H) <|
    M_geta (j := 17) c243_214 (by decide) <|
    M_of (fun _ _ H => r_iload c243_217 ld1_eq <| r_aloadn c243_219 (ld1_ne (ld1_ne h0 (by decide) (Or.inl (by decide))) (by decide) (Or.inl (by decide))) <| H) <|
    M_geta (j := 17) c243_220 (by decide) <|
    M_of (fun _ _ H => r_iloadn c243_223 (ld1_ne ld1_eq (by decide) (Or.inr rfl)) <| H) <|
    t_ck e24 fun i25 e26 =>
    M_iald (j := 17) (v := (s.2.2.2.1 17 ((480 + s.2.1)).toInt.toNat)) c243_224 (by decide) i25 rfl <|
    t_ck e26 fun i27 e28 =>
    M_iast (j := 17) c243_225 (by decide) i27 <|
    M_of (fun _ _ H => r_aloadn c243_226 (ld1_ne (ld1_ne h0 (by decide) (Or.inl (by decide))) (by decide) (Or.inl (by decide))) <| H) <|
    M_geta (j := 18) c243_227 (by decide) <|
    M_of (fun _ _ H => r_iload c243_230 ld1_eq <| r_aloadn c243_232 (ld1_ne (ld1_ne h0 (by decide) (Or.inl (by decide))) (by decide) (Or.inl (by decide))) <| H) <|
    M_geta (j := 18) c243_233 (by decide) <|
    M_of (fun _ _ H => r_iloadn c243_236 (ld1_ne ld1_eq (by decide) (Or.inr rfl)) <| H) <|
    t_ck e28 fun i29 e30 =>
    M_iald (j := 18) (v := (s.2.2.2.1 18 ((480 + s.2.1)).toInt.toNat)) c243_237 (by decide) i29 rfl <|
    t_ck e30 fun i31 e32 =>
    M_iast (j := 18) c243_238 (by decide) i31 <|
    M_of (fun _ _ H => r_aloadn c243_239 (ld1_ne (ld1_ne h0 (by decide) (Or.inl (by decide))) (by decide) (Or.inl (by decide))) <| H) <|
    M_geta (j := 19) c243_240 (by decide) <|
    M_of (fun _ _ H => r_iload c243_243 ld1_eq <| r_aloadn c243_245 (ld1_ne (ld1_ne h0 (by decide) (Or.inl (by decide))) (by decide) (Or.inl (by decide))) <| H) <|
    M_geta (j := 19) c243_246 (by decide) <|
    M_of (fun _ _ H => r_iloadn c243_249 (ld1_ne ld1_eq (by decide) (Or.inr rfl)) <| H) <|
    t_ck e32 fun i33 e34 =>
    M_iald (j := 19) (v := (s.2.2.2.1 19 ((480 + s.2.1)).toInt.toNat)) c243_250 (by decide) i33 rfl <|
    t_ck e34 fun i35 e36 =>
    M_iast (j := 19) c243_251 (by decide) i35 <|
    M_of (fun _ _ H => r_aloadn c243_252 (ld1_ne (ld1_ne h0 (by decide) (Or.inl (by decide))) (by decide) (Or.inl (by decide))) <| H) <|
    M_geta (j := 20) c243_253 (by decide) <|
    M_of (fun _ _ H => r_iload c243_256 ld1_eq <| r_aloadn c243_258 (ld1_ne (ld1_ne h0 (by decide) (Or.inl (by decide))) (by decide) (Or.inl (by decide))) <| H) <|
    M_geta (j := 20) c243_259 (by decide) <|
    M_of (fun _ _ H => r_iloadn c243_262 (ld1_ne ld1_eq (by decide) (Or.inr rfl)) <| H) <|
    t_ck e36 fun i37 e38 =>
    M_iald (j := 20) (v := (s.2.2.2.1 20 ((480 + s.2.1)).toInt.toNat)) c243_263 (by decide) i37 rfl <|
    t_ck e38 fun i39 e40 =>
    M_iast (j := 20) c243_264 (by decide) i39 <|
    M_of (fun _ _ H => r_iinc c243_265 (ld1_ne (ld1_ne h2 (by decide) (Or.inr rfl)) (by decide) (Or.inl (by decide))) <| r_goto c243_268 <| H) <|
    t_rg e40 g (fun (e : LG243_139 xt ct a ra d q s.1 (s.2.1 + 1) (m_sA (m_sA (m_sA (m_sA (m_sA (m_sA (m_sA (m_sA s.2.2 13 (((160 * s.1) + s.2.1)).toInt.toNat (s.2.2.2.1 13 ((480 + s.2.1)).toInt.toNat)) 14 (((160 * s.1) + s.2.1)).toInt.toNat (s.2.2.2.1 14 ((480 + s.2.1)).toInt.toNat)) 15 (((160 * s.1) + s.2.1)).toInt.toNat (s.2.2.2.1 15 ((480 + s.2.1)).toInt.toNat)) 16 (((160 * s.1) + s.2.1)).toInt.toNat (s.2.2.2.1 16 ((480 + s.2.1)).toInt.toNat)) 17 (((160 * s.1) + s.2.1)).toInt.toNat (s.2.2.2.1 17 ((480 + s.2.1)).toInt.toNat)) 18 (((160 * s.1) + s.2.1)).toInt.toNat (s.2.2.2.1 18 ((480 + s.2.1)).toInt.toNat)) 19 (((160 * s.1) + s.2.1)).toInt.toNat (s.2.2.2.1 19 ((480 + s.2.1)).toInt.toNat)) 20 (((160 * s.1) + s.2.1)).toInt.toNat (s.2.2.2.1 20 ((480 + s.2.1)).toInt.toNat))) => e _ (ld1_ne (ld1_ne (ld1_ne h0 (by decide) (Or.inl (by decide))) (by decide) (Or.inl (by decide))) (by decide) (Or.inl (by decide))) (ld1_ne (ld1_ne (ld1_ne h1 (by decide) (Or.inl (by decide))) (by decide) (Or.inl (by decide))) (by decide) (Or.inr rfl)) ld1_eq)
  ))
theorem L243_139_ok {xt : mj_X} {ct : Nat → Value} {a : Nat} {ra : Nat → Nat} {d N : Nat} {x1 : Int32} {x2 : Int32} {S : mS} {q : mS} (e : L243_139 N (x1, x2, S) = some q) : LG243_139 xt ct a ra d q x1 x2 S :=
  t_lp_ok (G := fun s => LG243_139 xt ct a ra d q s.1 s.2.1 s.2.2) (fun s s' e g => B243_139_ok e (by obtain ⟨_, _, _⟩ := s'; exact g)) (fun s e => B243_139_ok e rfl) N (x1, x2, S) e
def B243_21 (N : Nat) (s : Int32 × Int32 × mS) : Option ((Int32 × Int32 × mS) ⊕ (mS)) :=
  bif mj_c2 .ge s.2.1 24 then
    (L243_139 N (s.1, 0, s.2.2)).map Sum.inr
  else
  if 0 ≤ ((72 + s.2.1)).toInt ∧ ((72 + s.2.1)).toInt < mN 6 then
  if 0 ≤ (((24 * s.1) + s.2.1)).toInt ∧ (((24 * s.1) + s.2.1)).toInt < mN 6 then
  if 0 ≤ ((72 + s.2.1)).toInt ∧ ((72 + s.2.1)).toInt < mN 7 then
  if 0 ≤ (((24 * s.1) + s.2.1)).toInt ∧ (((24 * s.1) + s.2.1)).toInt < mN 7 then
  if 0 ≤ ((72 + s.2.1)).toInt ∧ ((72 + s.2.1)).toInt < mN 8 then
  if 0 ≤ (((24 * s.1) + s.2.1)).toInt ∧ (((24 * s.1) + s.2.1)).toInt < mN 8 then
  if 0 ≤ ((72 + s.2.1)).toInt ∧ ((72 + s.2.1)).toInt < mN 9 then
  if 0 ≤ (((24 * s.1) + s.2.1)).toInt ∧ (((24 * s.1) + s.2.1)).toInt < mN 9 then
  if 0 ≤ ((72 + s.2.1)).toInt ∧ ((72 + s.2.1)).toInt < mN 10 then
  if 0 ≤ (((24 * s.1) + s.2.1)).toInt ∧ (((24 * s.1) + s.2.1)).toInt < mN 10 then
  if 0 ≤ ((72 + s.2.1)).toInt ∧ ((72 + s.2.1)).toInt < mN 11 then
  if 0 ≤ (((24 * s.1) + s.2.1)).toInt ∧ (((24 * s.1) + s.2.1)).toInt < mN 11 then
  if 0 ≤ ((72 + s.2.1)).toInt ∧ ((72 + s.2.1)).toInt < mN 12 then
  if 0 ≤ (((24 * s.1) + s.2.1)).toInt ∧ (((24 * s.1) + s.2.1)).toInt < mN 12 then
  some (.inl (s.1, (s.2.1 + 1), (m_sB (m_sA (m_sA (m_sA (m_sA (m_sA (m_sA s.2.2 6 (((24 * s.1) + s.2.1)).toInt.toNat (s.2.2.2.1 6 ((72 + s.2.1)).toInt.toNat)) 7 (((24 * s.1) + s.2.1)).toInt.toNat (s.2.2.2.1 7 ((72 + s.2.1)).toInt.toNat)) 8 (((24 * s.1) + s.2.1)).toInt.toNat (s.2.2.2.1 8 ((72 + s.2.1)).toInt.toNat)) 9 (((24 * s.1) + s.2.1)).toInt.toNat (s.2.2.2.1 9 ((72 + s.2.1)).toInt.toNat)) 10 (((24 * s.1) + s.2.1)).toInt.toNat (s.2.2.2.1 10 ((72 + s.2.1)).toInt.toNat)) 11 (((24 * s.1) + s.2.1)).toInt.toNat (s.2.2.2.1 11 ((72 + s.2.1)).toInt.toNat)) 12 (((24 * s.1) + s.2.1)).toInt.toNat (s.2.2.2.2 12 ((72 + s.2.1)).toInt.toNat))))
  else none
  else none
  else none
  else none
  else none
  else none
  else none
  else none
  else none
  else none
  else none
  else none
  else none
  else none
def L243_21 (N : Nat) (s : Int32 × Int32 × mS) : Option (mS) := t_lp (B243_21 N) N s
theorem B243_21_ok {xt : mj_X} {ct : Nat → Value} {a : Nat} {ra : Nat → Nat} {d N : Nat} {s : Int32 × Int32 × mS} {o : (Int32 × Int32 × mS) ⊕ (mS)} {q : mS} (e : B243_21 N s = some o) (g : GG243_21 xt ct a ra d q o) : LG243_21 xt ct a ra d q s.1 s.2.1 s.2.2 := by
  unfold B243_21 at e
  exact (fun l h0 h1 h2 =>
  M_of (fun _ _ H => r_iloadn c243_21 h2 <| r_bipush c243_22 <| H) <|
  t_if e (fun b5 e6 =>
    M_of (fun _ _ H => r_icmpT c243_24 b5 <| H) <|
    M_of (fun _ _ H => r_iconst c243_137 <| r_istoren c243_138 <| H) <|
    t_up e6 fun o41 e42 u43 =>
    (fun (g44 : o41 = q) =>
    by subst g44; exact (L243_139_ok e42 _ (ld1_ne h0 (by decide) (Or.inl (by decide))) (ld1_ne h1 (by decide) (Or.inr rfl)) ld1_eq)
    ) (by have := g; rw [u43] at this; exact this)
  ) (fun b5 e6 =>
    M_of (fun _ _ H => r_icmpF c243_24 b5 <| H) <|
    M_of (fun _ _ H => r_bipush c243_27 <| r_iloadn c243_29 h2 <| r_iadd c243_30 rfl <| r_istoren c243_31 <| r_bipush c243_32 <| r_iloadn c243_34 (ld1_ne h1 (by decide) (Or.inl (by decide))) <| r_imul c243_35 rfl <| r_iloadn c243_36 (ld1_ne h2 (by decide) (Or.inr rfl)) <| r_iadd c243_37 rfl <| r_istore c243_38 <| r_aloadn c243_40 (ld1_ne (ld1_ne h0 (by decide) (Or.inl (by decide))) (by decide) (Or.inl (by decide))) <| H) <|
    M_geta (j := 6) c243_41 (by decide) <|
    M_of (fun _ _ H => r_iload c243_44 ld1_eq <| r_aloadn c243_46 (ld1_ne (ld1_ne h0 (by decide) (Or.inl (by decide))) (by decide) (Or.inl (by decide))) <| H) <|
    M_geta (j := 6) c243_47 (by decide) <|
    M_of (fun _ _ H => r_iloadn c243_50 (ld1_ne ld1_eq (by decide) (Or.inr rfl)) <| H) <|
    t_ck e6 fun i45 e46 =>
    M_iald (j := 6) (v := (s.2.2.2.1 6 ((72 + s.2.1)).toInt.toNat)) c243_51 (by decide) i45 rfl <|
    t_ck e46 fun i47 e48 =>
    M_iast (j := 6) c243_52 (by decide) i47 <|
    M_of (fun _ _ H => r_aloadn c243_53 (ld1_ne (ld1_ne h0 (by decide) (Or.inl (by decide))) (by decide) (Or.inl (by decide))) <| H) <|
    M_geta (j := 7) c243_54 (by decide) <|
    M_of (fun _ _ H => r_iload c243_57 ld1_eq <| r_aloadn c243_59 (ld1_ne (ld1_ne h0 (by decide) (Or.inl (by decide))) (by decide) (Or.inl (by decide))) <| H) <|
    M_geta (j := 7) c243_60 (by decide) <|
    M_of (fun _ _ H => r_iloadn c243_63 (ld1_ne ld1_eq (by decide) (Or.inr rfl)) <| H) <|
    t_ck e48 fun i49 e50 =>
    M_iald (j := 7) (v := (s.2.2.2.1 7 ((72 + s.2.1)).toInt.toNat)) c243_64 (by decide) i49 rfl <|
    t_ck e50 fun i51 e52 =>
    M_iast (j := 7) c243_65 (by decide) i51 <|
    M_of (fun _ _ H => r_aloadn c243_66 (ld1_ne (ld1_ne h0 (by decide) (Or.inl (by decide))) (by decide) (Or.inl (by decide))) <| H) <|
    M_geta (j := 8) c243_67 (by decide) <|
    M_of (fun _ _ H => r_iload c243_70 ld1_eq <| r_aloadn c243_72 (ld1_ne (ld1_ne h0 (by decide) (Or.inl (by decide))) (by decide) (Or.inl (by decide))) <| H) <|
    M_geta (j := 8) c243_73 (by decide) <|
    M_of (fun _ _ H => r_iloadn c243_76 (ld1_ne ld1_eq (by decide) (Or.inr rfl)) <| H) <|
    t_ck e52 fun i53 e54 =>
    M_iald (j := 8) (v := (s.2.2.2.1 8 ((72 + s.2.1)).toInt.toNat)) c243_77 (by decide) i53 rfl <|
    t_ck e54 fun i55 e56 =>
    M_iast (j := 8) c243_78 (by decide) i55 <|
    M_of (fun _ _ H => r_aloadn c243_79 (ld1_ne (ld1_ne h0 (by decide) (Or.inl (by decide))) (by decide) (Or.inl (by decide))) <| H) <|
    M_geta (j := 9) c243_80 (by decide) <|
    M_of (fun _ _ H => r_iload c243_83 ld1_eq <| r_aloadn c243_85 (ld1_ne (ld1_ne h0 (by decide) (Or.inl (by decide))) (by decide) (Or.inl (by decide))) <| H) <|
    M_geta (j := 9) c243_86 (by decide) <|
    M_of (fun _ _ H => r_iloadn c243_89 (ld1_ne ld1_eq (by decide) (Or.inr rfl)) <| H) <|
    t_ck e56 fun i57 e58 =>
    M_iald (j := 9) (v := (s.2.2.2.1 9 ((72 + s.2.1)).toInt.toNat)) c243_90 (by decide) i57 rfl <|
    t_ck e58 fun i59 e60 =>
    M_iast (j := 9) c243_91 (by decide) i59 <|
    M_of (fun _ _ H => r_aloadn c243_92 (ld1_ne (ld1_ne h0 (by decide) (Or.inl (by decide))) (by decide) (Or.inl (by decide))) <| H) <|
    M_geta (j := 10) c243_93 (by decide) <|
    M_of (fun _ _ H => r_iload c243_96 ld1_eq <| r_aloadn c243_98 (ld1_ne (ld1_ne h0 (by decide) (Or.inl (by decide))) (by decide) (Or.inl (by decide))) <| H) <|
    M_geta (j := 10) c243_99 (by decide) <|
    M_of (fun _ _ H => r_iloadn c243_102 (ld1_ne ld1_eq (by decide) (Or.inr rfl)) <| H) <|
    t_ck e60 fun i61 e62 =>
    M_iald (j := 10) (v := (s.2.2.2.1 10 ((72 + s.2.1)).toInt.toNat)) c243_103 (by decide) i61 rfl <|
    t_ck e62 fun i63 e64 =>
    M_iast (j := 10) c243_104 (by decide) i63 <|
    M_of (fun _ _ H => r_aloadn c243_105 (ld1_ne (ld1_ne h0 (by decide) (Or.inl (by decide))) (by decide) (Or.inl (by decide))) <| H) <|
    M_geta (j := 11) c243_106 (by decide) <|
    M_of (fun _ _ H => r_iload c243_109 ld1_eq <| r_aloadn c243_111 (ld1_ne (ld1_ne h0 (by decide) (Or.inl (by decide))) (by decide) (Or.inl (by decide))) <| H) <|
    M_geta (j := 11) c243_112 (by decide) <|
    M_of (fun _ _ H => r_iloadn c243_115 (ld1_ne ld1_eq (by decide) (Or.inr rfl)) <| H) <|
    t_ck e64 fun i65 e66 =>
    M_iald (j := 11) (v := (s.2.2.2.1 11 ((72 + s.2.1)).toInt.toNat)) c243_116 (by decide) i65 rfl <|
    t_ck e66 fun i67 e68 =>
    M_iast (j := 11) c243_117 (by decide) i67 <|
    M_of (fun _ _ H => r_aloadn c243_118 (ld1_ne (ld1_ne h0 (by decide) (Or.inl (by decide))) (by decide) (Or.inl (by decide))) <| H) <|
    M_geta (j := 12) c243_119 (by decide) <|
    M_of (fun _ _ H => r_iload c243_122 ld1_eq <| r_aloadn c243_124 (ld1_ne (ld1_ne h0 (by decide) (Or.inl (by decide))) (by decide) (Or.inl (by decide))) <| H) <|
    M_geta (j := 12) c243_125 (by decide) <|
    M_of (fun _ _ H => r_iloadn c243_128 (ld1_ne ld1_eq (by decide) (Or.inr rfl)) <| H) <|
    t_ck e68 fun i69 e70 =>
    M_lald (j := 12) (v := (s.2.2.2.2 12 ((72 + s.2.1)).toInt.toNat)) c243_129 (by decide) i69 rfl <|
    t_ck e70 fun i71 e72 =>
    M_last (j := 12) c243_130 (by decide) i71 <|
    M_of (fun _ _ H => r_iinc c243_131 (ld1_ne (ld1_ne h2 (by decide) (Or.inr rfl)) (by decide) (Or.inl (by decide))) <| r_goto c243_134 <| H) <|
    t_rg e72 g (fun (e : LG243_21 xt ct a ra d q s.1 (s.2.1 + 1) (m_sB (m_sA (m_sA (m_sA (m_sA (m_sA (m_sA s.2.2 6 (((24 * s.1) + s.2.1)).toInt.toNat (s.2.2.2.1 6 ((72 + s.2.1)).toInt.toNat)) 7 (((24 * s.1) + s.2.1)).toInt.toNat (s.2.2.2.1 7 ((72 + s.2.1)).toInt.toNat)) 8 (((24 * s.1) + s.2.1)).toInt.toNat (s.2.2.2.1 8 ((72 + s.2.1)).toInt.toNat)) 9 (((24 * s.1) + s.2.1)).toInt.toNat (s.2.2.2.1 9 ((72 + s.2.1)).toInt.toNat)) 10 (((24 * s.1) + s.2.1)).toInt.toNat (s.2.2.2.1 10 ((72 + s.2.1)).toInt.toNat)) 11 (((24 * s.1) + s.2.1)).toInt.toNat (s.2.2.2.1 11 ((72 + s.2.1)).toInt.toNat)) 12 (((24 * s.1) + s.2.1)).toInt.toNat (s.2.2.2.2 12 ((72 + s.2.1)).toInt.toNat))) => e _ (ld1_ne (ld1_ne (ld1_ne h0 (by decide) (Or.inl (by decide))) (by decide) (Or.inl (by decide))) (by decide) (Or.inl (by decide))) (ld1_ne (ld1_ne (ld1_ne h1 (by decide) (Or.inl (by decide))) (by decide) (Or.inl (by decide))) (by decide) (Or.inr rfl)) ld1_eq)
  ))
theorem L243_21_ok {xt : mj_X} {ct : Nat → Value} {a : Nat} {ra : Nat → Nat} {d N : Nat} {x1 : Int32} {x2 : Int32} {S : mS} {q : mS} (e : L243_21 N (x1, x2, S) = some q) : LG243_21 xt ct a ra d q x1 x2 S :=
  t_lp_ok (G := fun s => LG243_21 xt ct a ra d q s.1 s.2.1 s.2.2) (fun s s' e g => B243_21_ok e (by obtain ⟨_, _, _⟩ := s'; exact g)) (fun s e => B243_21_ok e rfl) N (x1, x2, S) e
/-- keepDraft(I)V -/
def M243 (N : Nat) (x1 : Int32) (S : mS) : Option (mS) :=
  if 0 ≤ (x1).toInt ∧ (x1).toInt < mN 4 then
  if 0 ≤ (x1).toInt ∧ (x1).toInt < mN 5 then
  L243_21 N (x1, 0, (m_sA (m_sA S 4 (x1).toInt.toNat 1) 5 (x1).toInt.toNat (S.2.1 5 3)))
  else none
  else none
theorem M243_ok {xt : mj_X} {ct : Nat → Value} {a : Nat} {ra : Nat → Nat} {d N : Nat} {x1 : Int32} {S : mS} {q : mS} (e : M243 N x1 S = some q) : MR xt ct a ra (d + 1) 243 0 (lv_args 0 [.ref a, .int x1]) [] S (.inl none) q := by
  unfold M243 at e
  exact (
  M_of (fun _ _ H => r_aloadn c243_0 rfl <| H) <|
  M_geta (j := 4) c243_1 (by decide) <|
  M_of (fun _ _ H => r_iloadn c243_4 rfl <| r_iconst c243_5 <| H) <|
  t_ck e fun i1 e2 =>
  M_zast (j := 4) c243_6 (by decide) i1 (by decide) <|
  M_of (fun _ _ H => r_aloadn c243_7 rfl <| H) <|
  M_geta (j := 5) c243_8 (by decide) <|
  M_of (fun _ _ H => r_iloadn c243_11 rfl <| r_aloadn c243_12 rfl <| H) <|
  M_geta (j := 5) c243_13 (by decide) <|
  M_of (fun _ _ H => r_iconst c243_16 <| H) <|
  M_iald (j := 5) (v := (S.2.1 5 3)) c243_17 (by decide) (by decide) rfl <|
  t_ck e2 fun i3 e4 =>
  M_iast (j := 5) c243_18 (by decide) i3 <|
  M_of (fun _ _ H => r_iconst c243_19 <| r_istoren c243_20 <| H) <|
  L243_21_ok e4 _ (ld1_ne rfl (by decide) (Or.inl (by decide))) (ld1_ne rfl (by decide) (Or.inr rfl)) ld1_eq)
def J209_19 (N : Nat)   (S : mS) : Option (Int32 × mS) :=
  (M242 N 1 S).bind fun r6 =>
  some (r6.1, r6.2)
theorem J209_19_ok {xt : mj_X} {ct : Nat → Value} {a : Nat} {ra : Nat → Nat} {d N : Nat} {l : mj_L}   {S : mS} {q : Int32 × mS} (h0 : mj_ld l 0 = some (.ref a)) (e : J209_19 N   S = some q) : MR xt ct a ra (d + 10) 209 19 l [] S (.inl (some (.int q.1))) q.2 := by
  unfold J209_19 at e
  exact (
  M_of (fun _ _ H => r_aloadn c209_19 h0 <| r_iconst c209_20 <| H) <|
  t_bd e fun r6 c7 e8 =>
  M_cv (as := [.ref a, .int 1]) (st' := [.int r6.1]) (v := (some (.int r6.1))) c209_21 rfl ⟨Nat.le_of_ble_eq_true rfl, Nat.le_of_ble_eq_true rfl, Nat.le_of_ble_eq_true rfl⟩ rfl rfl (M242_ok (d := d) c7) (Nat.add_lt_add_left (by decide) d) <|
  M_ri (Option.some.inj e8) (fun _ => r_iret c209_24 rfl))
/-- read(I)I -/
def M209 (N : Nat) (x1 : Int32) (S : mS) : Option (Int32 × mS) :=
  (M210 N x1 (m_sV S 0 0)).bind fun r1 =>
  bif mj_c1 .eq r1.1 then
    J209_19 N r1.2
  else
  (M211 N r1.2).bind fun r9 =>
  bif mj_c1 .ne r9.1 then
    (M243 N x1 r9.2).bind fun r14 =>
    if 0 ≤ (x1).toInt ∧ (x1).toInt < mN 57 then
    if 0 ≤ (x1).toInt ∧ (x1).toInt < mN 5 then
    some ((r14.2.1 5 (x1).toInt.toNat), (m_sV (m_sA r14 57 (x1).toInt.toNat 0) 2 0))
    else none
    else none
  else
  J209_19 N r9.2
theorem M209_ok {xt : mj_X} {ct : Nat → Value} {a : Nat} {ra : Nat → Nat} {d N : Nat} {x1 : Int32} {S : mS} {q : Int32 × mS} (e : M209 N x1 S = some q) : MR xt ct a ra (d + 10) 209 0 (lv_args 0 [.ref a, .int x1]) [] S (.inl (some (.int q.1))) q.2 := by
  unfold M209 at e
  exact (
  M_of (fun _ _ H => r_aloadn c209_0 rfl <| r_iconst c209_1 <| H) <|
  M_put c209_2 (by decide) <|
  M_of (fun _ _ H => r_iloadn c209_5 rfl <| H) <|
  t_bd e fun r1 c2 e3 =>
  M_cs (as := [.int x1]) (st' := [.int r1.1]) (v := (some (.int r1.1))) c209_6 ⟨Nat.le_of_ble_eq_true rfl, Nat.le_of_ble_eq_true rfl, Nat.le_of_ble_eq_true rfl⟩ rfl rfl (M210_ok (d := d) c2) (Nat.add_lt_add_left (by decide) d) <|
  t_if e3 (fun b4 e5 =>
    M_of (fun _ _ H => r_ifT c209_9 b4 <| H) <|
    J209_19_ok rfl e5
  ) (fun b4 e5 =>
    M_of (fun _ _ H => r_ifF c209_9 b4 <| H) <|
    M_of (fun _ _ H => r_aloadn c209_12 rfl <| H) <|
    t_bd e5 fun r9 c10 e11 =>
    M_cv (as := [.ref a]) (st' := [.int r9.1]) (v := (some (.int r9.1))) c209_13 rfl ⟨Nat.le_of_ble_eq_true rfl, Nat.le_of_ble_eq_true rfl, Nat.le_of_ble_eq_true rfl⟩ rfl rfl (M211_ok (d := d) c10) (Nat.add_lt_add_left (by decide) d) <|
    t_if e11 (fun b12 e13 =>
      M_of (fun _ _ H => r_ifT c209_16 b12 <| H) <|
      M_of (fun _ _ H => r_aloadn c209_25 rfl <| r_iloadn c209_26 rfl <| H) <|
      t_bd e13 fun r14 c15 e16 =>
      M_cv (as := [.ref a, .int x1]) (st' := []) (v := none) c209_27 rfl ⟨Nat.le_of_ble_eq_true rfl, Nat.le_of_ble_eq_true rfl, Nat.le_of_ble_eq_true rfl⟩ rfl rfl (M243_ok (d := d) c15) (Nat.add_lt_add_left (by decide) d) <|
      M_of (fun _ _ H => r_aloadn c209_30 rfl <| H) <|
      M_geta (j := 57) c209_31 (by decide) <|
      M_of (fun _ _ H => r_iloadn c209_34 rfl <| r_iconst c209_35 <| H) <|
      t_ck e16 fun i17 e18 =>
      M_zast (j := 57) c209_36 (by decide) i17 (by decide) <|
      M_of (fun _ _ H => r_aloadn c209_37 rfl <| r_iconst c209_38 <| H) <|
      M_put c209_39 (by decide) <|
      M_of (fun _ _ H => r_aloadn c209_42 rfl <| H) <|
      M_geta (j := 5) c209_43 (by decide) <|
      M_of (fun _ _ H => r_iloadn c209_46 rfl <| H) <|
      t_ck e18 fun i19 e20 =>
      M_iald (j := 5) (v := (r14.2.1 5 (x1).toInt.toNat)) c209_47 (by decide) i19 rfl <|
      M_ri (Option.some.inj e20) (fun _ => r_iret c209_48 rfl)
    ) (fun b12 e13 =>
      M_of (fun _ _ H => r_ifF c209_16 b12 <| H) <|
      J209_19_ok rfl e13
    )
  ))
/-- place()I -/
def M244 (N : Nat)  (S : mS) : Option (Int32 × mS) :=
  some ((S.1 3), (m_sV S 0 0))
theorem M244_ok {xt : mj_X} {ct : Nat → Value} {a : Nat} {ra : Nat → Nat} {d N : Nat}  {S : mS} {q : Int32 × mS} (e : M244 N  S = some q) : MR xt ct a ra (d + 1) 244 0 (lv_args 0 [.ref a]) [] S (.inl (some (.int q.1))) q.2 := by
  unfold M244 at e
  exact (
  M_of (fun _ _ H => r_aloadn c244_0 rfl <| r_iconst c244_1 <| H) <|
  M_put c244_2 (by decide) <|
  M_of (fun _ _ H => r_aloadn c244_5 rfl <| H) <|
  M_get (v := (S.1 3)) c244_6 (by decide) rfl <|
  M_ri (Option.some.inj e) (fun _ => r_iret c244_9 rfl))
def J246_25 (N : Nat)  (s0 : Int32) (S : mS) : Option (Int32 × mS) :=
  some (s0, S)
theorem J246_25_ok {xt : mj_X} {ct : Nat → Value} {a : Nat} {ra : Nat → Nat} {d N : Nat} {l : mj_L}  {s0 : Int32} {S : mS} {q : Int32 × mS} (h0 : mj_ld l 0 = some (.ref a)) (e : J246_25 N  s0 S = some q) : MR xt ct a ra (d + 3) 246 25 l [.int s0] S (.inl (some (.int q.1))) q.2 := by
  unfold J246_25 at e
  exact (
  M_ri (Option.some.inj e) (fun _ => r_iret c246_25 rfl))
/-- wrongProgram(I)I -/
def M246 (N : Nat) (x1 : Int32) (S : mS) : Option (Int32 × mS) :=
  (M210 N x1 S).bind fun r1 =>
  bif mj_c1 .ne r1.1 then
    if 0 ≤ (x1).toInt ∧ (x1).toInt < mN 4 then
    bif mj_c1 .ne (r1.2.2.1 4 (x1).toInt.toNat) then
      J246_25 N 0 r1.2
    else
    J246_25 N 2 r1.2
    else none
  else
  J246_25 N 1 r1.2
theorem M246_ok {xt : mj_X} {ct : Nat → Value} {a : Nat} {ra : Nat → Nat} {d N : Nat} {x1 : Int32} {S : mS} {q : Int32 × mS} (e : M246 N x1 S = some q) : MR xt ct a ra (d + 3) 246 0 (lv_args 0 [.ref a, .int x1]) [] S (.inl (some (.int q.1))) q.2 := by
  unfold M246 at e
  exact (
  M_of (fun _ _ H => r_iloadn c246_0 rfl <| H) <|
  t_bd e fun r1 c2 e3 =>
  M_cs (as := [.int x1]) (st' := [.int r1.1]) (v := (some (.int r1.1))) c246_1 ⟨Nat.le_of_ble_eq_true rfl, Nat.le_of_ble_eq_true rfl, Nat.le_of_ble_eq_true rfl⟩ rfl rfl (M210_ok (d := d) c2) (Nat.add_lt_add_left (by decide) d) <|
  t_if e3 (fun b4 e5 =>
    M_of (fun _ _ H => r_ifT c246_4 b4 <| H) <|
    M_of (fun _ _ H => r_aloadn c246_11 rfl <| H) <|
    M_geta (j := 4) c246_12 (by decide) <|
    M_of (fun _ _ H => r_iloadn c246_15 rfl <| H) <|
    t_ck e5 fun i6 e7 =>
    M_zald (j := 4) (v := (r1.2.2.1 4 (x1).toInt.toNat)) c246_16 (by decide) i6 rfl <|
    t_if e7 (fun b8 e9 =>
      M_of (fun _ _ H => r_ifT c246_17 b8 <| H) <|
      M_of (fun _ _ H => r_iconst c246_24 <| H) <|
      J246_25_ok rfl e9
    ) (fun b8 e9 =>
      M_of (fun _ _ H => r_ifF c246_17 b8 <| H) <|
      M_of (fun _ _ H => r_iconst c246_20 <| r_goto c246_21 <| H) <|
      J246_25_ok rfl e9
    )
  ) (fun b4 e5 =>
    M_of (fun _ _ H => r_ifF c246_4 b4 <| H) <|
    M_of (fun _ _ H => r_iconst c246_7 <| r_goto c246_8 <| H) <|
    J246_25_ok rfl e5
  ))
def LG247_13 (xt : mj_X) (ct : Nat → Value) (a : Nat) (ra : Nat → Nat) (d : Nat) (q : mS) (x1 : Int32) (x2 : Int32) (x3 : Int32) (S : mS) : Prop := ∀ l, mj_ld l 0 = some (.ref a) → mj_ld l 1 = some (.int x1) → mj_ld l 2 = some (.int x2) → mj_ld l 3 = some (.int x3) → MR xt ct a ra (d + 2) 247 13 l [] S (.inl none) q
def GG247_13 (xt : mj_X) (ct : Nat → Value) (a : Nat) (ra : Nat → Nat) (d : Nat) (q : mS) (o : (Int32 × Int32 × Int32 × mS) ⊕ (mS)) : Prop := match o with
  | .inl (x1, x2, x3, S) => LG247_13 xt ct a ra d q x1 x2 x3 S
  | .inr r => r = q
def J247_183 (N : Nat) (x1 : Int32) (x2 : Int32) (x3 : Int32)  (S : mS) : Option ((Int32 × Int32 × Int32 × mS) ⊕ (mS)) :=
  some (.inl (x1, x2, x3, S))
theorem J247_183_ok {xt : mj_X} {ct : Nat → Value} {a : Nat} {ra : Nat → Nat} {d N : Nat} {l : mj_L} {x1 : Int32} {x2 : Int32} {x3 : Int32}  {S : mS} {o : (Int32 × Int32 × Int32 × mS) ⊕ (mS)} {q : mS} (h0 : mj_ld l 0 = some (.ref a)) (h1 : mj_ld l 1 = some (.int x1)) (h2 : mj_ld l 2 = some (.int x2)) (h3 : mj_ld l 3 = some (.int x3)) (e : J247_183 N x1 x2 x3  S = some o) (g : GG247_13 xt ct a ra d q o) : MR xt ct a ra (d + 2) 247 183 l [] S (.inl none) q := by
  unfold J247_183 at e
  exact (
  M_of (fun _ _ H => r_goto c247_183 <| H) <|
  t_rg e g (fun (e : LG247_13 xt ct a ra d q x1 x2 x3 S) => e _ h0 h1 h2 h3))
def J247_182 (N : Nat) (x1 : Int32) (x2 : Int32) (s0 : Int32) (S : mS) : Option ((Int32 × Int32 × Int32 × mS) ⊕ (mS)) :=
  J247_183 N x1 x2 s0 S
theorem J247_182_ok {xt : mj_X} {ct : Nat → Value} {a : Nat} {ra : Nat → Nat} {d N : Nat} {l : mj_L} {x1 : Int32} {x2 : Int32} {s0 : Int32} {S : mS} {o : (Int32 × Int32 × Int32 × mS) ⊕ (mS)} {q : mS} (h0 : mj_ld l 0 = some (.ref a)) (h1 : mj_ld l 1 = some (.int x1)) (h2 : mj_ld l 2 = some (.int x2)) (e : J247_182 N x1 x2 s0 S = some o) (g : GG247_13 xt ct a ra d q o) : MR xt ct a ra (d + 2) 247 182 l [.int s0] S (.inl none) q := by
  unfold J247_182 at e
  exact (
  M_of (fun _ _ H => r_istoren c247_182 <| H) <|
  J247_183_ok (ld1_ne h0 (by decide) (Or.inl (by decide))) (ld1_ne h1 (by decide) (Or.inl (by decide))) (ld1_ne h2 (by decide) (Or.inr rfl)) ld1_eq e g)
def J247_160 (N : Nat) (x1 : Int32) (x2 : Int32)  (S : mS) : Option ((Int32 × Int32 × Int32 × mS) ⊕ (mS)) :=
  bif mj_c1 .le ((S.1 56) - 1) then
    J247_182 N x1 x2 0 (m_sV S 56 ((S.1 56) - 1))
  else
  J247_182 N x1 x2 1 (m_sV S 56 ((S.1 56) - 1))
theorem J247_160_ok {xt : mj_X} {ct : Nat → Value} {a : Nat} {ra : Nat → Nat} {d N : Nat} {l : mj_L} {x1 : Int32} {x2 : Int32}  {S : mS} {o : (Int32 × Int32 × Int32 × mS) ⊕ (mS)} {q : mS} (h0 : mj_ld l 0 = some (.ref a)) (h1 : mj_ld l 1 = some (.int x1)) (h2 : mj_ld l 2 = some (.int x2)) (e : J247_160 N x1 x2  S = some o) (g : GG247_13 xt ct a ra d q o) : MR xt ct a ra (d + 2) 247 160 l [] S (.inl none) q := by
  unfold J247_160 at e
  exact (
  M_of (fun _ _ H => r_aloadn c247_160 h0 <| r_dup c247_161 rfl <| H) <|
  M_get (v := (S.1 56)) c247_162 (by decide) rfl <|
  M_of (fun _ _ H => r_iconst c247_165 <| r_isub c247_166 rfl <| H) <|
  M_put c247_167 (by decide) <|
  M_of (fun _ _ H => r_aloadn c247_170 h0 <| H) <|
  M_get (v := ((S.1 56) - 1)) c247_171 (by decide) rfl <|
  t_if e (fun b24 e25 =>
    M_of (fun _ _ H => r_ifT c247_174 b24 <| H) <|
    M_of (fun _ _ H => r_iconst c247_181 <| H) <|
    J247_182_ok h0 h1 h2 e25 g
  ) (fun b24 e25 =>
    M_of (fun _ _ H => r_ifF c247_174 b24 <| H) <|
    M_of (fun _ _ H => r_iconst c247_177 <| r_goto c247_178 <| H) <|
    J247_182_ok h0 h1 h2 e25 g
  ))
def J247_98 (N : Nat) (x1 : Int32) (x2 : Int32) (x4 : Int32) (x5 : Int32) (s0 : Int32) (S : mS) : Option ((Int32 × Int32 × Int32 × mS) ⊕ (mS)) :=
  bif mj_c1 .eq s0 then
    J247_183 N x1 x2 s0 S
  else
  (M206 N 125 S).bind fun r19 =>
  bif mj_c1 .eq x5 then
    J247_160 N x1 x2 r19
  else
  if 0 ≤ (x4).toInt ∧ (x4).toInt < mN 10 then
  if 0 ≤ (x4).toInt ∧ (x4).toInt < mN 11 then
  bif mj_c2 .ge (r19.2.1 10 (x4).toInt.toNat) (r19.2.1 11 (x4).toInt.toNat) then
    J247_160 N x1 x2 r19
  else
  (M206 N 58 r19).bind fun r32 =>
  (M206 N 123 r32).bind fun r35 =>
  if 0 ≤ (((r35.1 56) - 1)).toInt ∧ (((r35.1 56) - 1)).toInt < mN 55 then
  J247_183 N x1 x2 0 (m_sA r35 55 (((r35.1 56) - 1)).toInt.toNat 1)
  else none
  else none
  else none
theorem J247_98_ok {xt : mj_X} {ct : Nat → Value} {a : Nat} {ra : Nat → Nat} {d N : Nat} {l : mj_L} {x1 : Int32} {x2 : Int32} {x4 : Int32} {x5 : Int32} {s0 : Int32} {S : mS} {o : (Int32 × Int32 × Int32 × mS) ⊕ (mS)} {q : mS} (h0 : mj_ld l 0 = some (.ref a)) (h1 : mj_ld l 1 = some (.int x1)) (h2 : mj_ld l 2 = some (.int x2)) (h4 : mj_ld l 4 = some (.int x4)) (h5 : mj_ld l 5 = some (.int x5)) (e : J247_98 N x1 x2 x4 x5 s0 S = some o) (g : GG247_13 xt ct a ra d q o) : MR xt ct a ra (d + 2) 247 98 l [.int s0] S (.inl none) q := by
  unfold J247_98 at e
  exact (
  M_of (fun _ _ H => r_istoren c247_98 <| r_iloadn c247_99 ld1_eq <| H) <|
  t_if e (fun b17 e18 =>
    M_of (fun _ _ H => r_ifT c247_100 b17 <| H) <|
    J247_183_ok (ld1_ne h0 (by decide) (Or.inl (by decide))) (ld1_ne h1 (by decide) (Or.inl (by decide))) (ld1_ne h2 (by decide) (Or.inr rfl)) ld1_eq e18 g
  ) (fun b17 e18 =>
    M_of (fun _ _ H => r_ifF c247_100 b17 <| H) <|
    M_of (fun _ _ H => r_aloadn c247_103 (ld1_ne h0 (by decide) (Or.inl (by decide))) <| r_bipush c247_104 <| H) <|
    t_bd e18 fun r19 c20 e21 =>
    M_cv (as := [.ref a, .int 125]) (st' := []) (v := none) c247_106 rfl ⟨Nat.le_of_ble_eq_true rfl, Nat.le_of_ble_eq_true rfl, Nat.le_of_ble_eq_true rfl⟩ rfl rfl (M206_ok (d := d) c20) (Nat.add_lt_add_left (by decide) d) <|
    M_of (fun _ _ H => r_iload c247_109 (ld1_ne h5 (by decide) (Or.inl (by decide))) <| H) <|
    t_if e21 (fun b22 e23 =>
      M_of (fun _ _ H => r_ifT c247_111 b22 <| H) <|
      J247_160_ok (ld1_ne h0 (by decide) (Or.inl (by decide))) (ld1_ne h1 (by decide) (Or.inl (by decide))) (ld1_ne h2 (by decide) (Or.inr rfl)) e23 g
    ) (fun b22 e23 =>
      M_of (fun _ _ H => r_ifF c247_111 b22 <| H) <|
      M_of (fun _ _ H => r_aloadn c247_114 (ld1_ne h0 (by decide) (Or.inl (by decide))) <| H) <|
      M_geta (j := 10) c247_115 (by decide) <|
      M_of (fun _ _ H => r_iload c247_118 (ld1_ne h4 (by decide) (Or.inl (by decide))) <| H) <|
      t_ck e23 fun i26 e27 =>
      M_iald (j := 10) (v := (r19.2.1 10 (x4).toInt.toNat)) c247_120 (by decide) i26 rfl <|
      M_of (fun _ _ H => r_aloadn c247_121 (ld1_ne h0 (by decide) (Or.inl (by decide))) <| H) <|
      M_geta (j := 11) c247_122 (by decide) <|
      M_of (fun _ _ H => r_iload c247_125 (ld1_ne h4 (by decide) (Or.inl (by decide))) <| H) <|
      t_ck e27 fun i28 e29 =>
      M_iald (j := 11) (v := (r19.2.1 11 (x4).toInt.toNat)) c247_127 (by decide) i28 rfl <|
      t_if e29 (fun b30 e31 =>
        M_of (fun _ _ H => r_icmpT c247_128 b30 <| H) <|
        J247_160_ok (ld1_ne h0 (by decide) (Or.inl (by decide))) (ld1_ne h1 (by decide) (Or.inl (by decide))) (ld1_ne h2 (by decide) (Or.inr rfl)) e31 g
      ) (fun b30 e31 =>
        M_of (fun _ _ H => r_icmpF c247_128 b30 <| H) <|
        M_of (fun _ _ H => r_aloadn c247_131 (ld1_ne h0 (by decide) (Or.inl (by decide))) <| r_bipush c247_132 <| H) <|
        t_bd e31 fun r32 c33 e34 =>
        M_cv (as := [.ref a, .int 58]) (st' := []) (v := none) c247_134 rfl ⟨Nat.le_of_ble_eq_true rfl, Nat.le_of_ble_eq_true rfl, Nat.le_of_ble_eq_true rfl⟩ rfl rfl (M206_ok (d := d) c33) (Nat.add_lt_add_left (by decide) d) <|
        M_of (fun _ _ H => r_aloadn c247_137 (ld1_ne h0 (by decide) (Or.inl (by decide))) <| r_bipush c247_138 <| H) <|
        t_bd e34 fun r35 c36 e37 =>
        M_cv (as := [.ref a, .int 123]) (st' := []) (v := none) c247_140 rfl ⟨Nat.le_of_ble_eq_true rfl, Nat.le_of_ble_eq_true rfl, Nat.le_of_ble_eq_true rfl⟩ rfl rfl (M206_ok (d := d) c36) (Nat.add_lt_add_left (by decide) d) <|
        M_of (fun _ _ H => r_aloadn c247_143 (ld1_ne h0 (by decide) (Or.inl (by decide))) <| H) <|
        M_geta (j := 55) c247_144 (by decide) <|
        M_of (fun _ _ H => r_aloadn c247_147 (ld1_ne h0 (by decide) (Or.inl (by decide))) <| H) <|
        M_get (v := (r35.1 56)) c247_148 (by decide) rfl <|
        M_of (fun _ _ H => r_iconst c247_151 <| r_isub c247_152 rfl <| r_iconst c247_153 <| H) <|
        t_ck e37 fun i38 e39 =>
        M_iast (j := 55) c247_154 (by decide) i38 <|
        M_of (fun _ _ H => r_iconst c247_155 <| r_istoren c247_156 <| r_goto c247_157 <| H) <|
        J247_183_ok (ld1_ne (ld1_ne h0 (by decide) (Or.inl (by decide))) (by decide) (Or.inl (by decide))) (ld1_ne (ld1_ne h1 (by decide) (Or.inl (by decide))) (by decide) (Or.inl (by decide))) (ld1_ne (ld1_ne h2 (by decide) (Or.inr rfl)) (by decide) (Or.inr rfl)) ld1_eq e39 g
      )
    )
  ))
def J247_90 (N : Nat) (x1 : Int32) (x2 : Int32) (x4 : Int32) (x5 : Int32) (s0 : Int32) (s1 : Int32) (S : mS) : Option ((Int32 × Int32 × Int32 × mS) ⊕ (mS)) :=
  bif mj_c2 .ne s1 s0 then
    J247_98 N x1 x2 x4 x5 0 S
  else
  J247_98 N x1 x2 x4 x5 1 S
theorem J247_90_ok {xt : mj_X} {ct : Nat → Value} {a : Nat} {ra : Nat → Nat} {d N : Nat} {l : mj_L} {x1 : Int32} {x2 : Int32} {x4 : Int32} {x5 : Int32} {s0 : Int32} {s1 : Int32} {S : mS} {o : (Int32 × Int32 × Int32 × mS) ⊕ (mS)} {q : mS} (h0 : mj_ld l 0 = some (.ref a)) (h1 : mj_ld l 1 = some (.int x1)) (h2 : mj_ld l 2 = some (.int x2)) (h4 : mj_ld l 4 = some (.int x4)) (h5 : mj_ld l 5 = some (.int x5)) (e : J247_90 N x1 x2 x4 x5 s0 s1 S = some o) (g : GG247_13 xt ct a ra d q o) : MR xt ct a ra (d + 2) 247 90 l [.int s0, .int s1] S (.inl none) q := by
  unfold J247_90 at e
  exact (
  t_if e (fun b15 e16 =>
    M_of (fun _ _ H => r_icmpT c247_90 b15 <| H) <|
    M_of (fun _ _ H => r_iconst c247_97 <| H) <|
    J247_98_ok h0 h1 h2 h4 h5 e16 g
  ) (fun b15 e16 =>
    M_of (fun _ _ H => r_icmpF c247_90 b15 <| H) <|
    M_of (fun _ _ H => r_iconst c247_93 <| r_goto c247_94 <| H) <|
    J247_98_ok h0 h1 h2 h4 h5 e16 g
  ))
def J247_65 (N : Nat) (x1 : Int32) (x2 : Int32) (x4 : Int32) (s0 : Int32) (S : mS) : Option ((Int32 × Int32 × Int32 × mS) ⊕ (mS)) :=
  bif mj_c1 .eq s0 then
    if 0 ≤ (x4).toInt ∧ (x4).toInt < mN 11 then
    J247_90 N x1 x2 x4 s0 (S.2.1 11 (x4).toInt.toNat) x2 S
    else none
  else
  if 0 ≤ (x4).toInt ∧ (x4).toInt < mN 10 then
  J247_90 N x1 x2 x4 s0 (S.2.1 10 (x4).toInt.toNat) x2 S
  else none
theorem J247_65_ok {xt : mj_X} {ct : Nat → Value} {a : Nat} {ra : Nat → Nat} {d N : Nat} {l : mj_L} {x1 : Int32} {x2 : Int32} {x4 : Int32} {s0 : Int32} {S : mS} {o : (Int32 × Int32 × Int32 × mS) ⊕ (mS)} {q : mS} (h0 : mj_ld l 0 = some (.ref a)) (h1 : mj_ld l 1 = some (.int x1)) (h2 : mj_ld l 2 = some (.int x2)) (h4 : mj_ld l 4 = some (.int x4)) (e : J247_65 N x1 x2 x4 s0 S = some o) (g : GG247_13 xt ct a ra d q o) : MR xt ct a ra (d + 2) 247 65 l [.int s0] S (.inl none) q := by
  unfold J247_65 at e
  exact (
  M_of (fun _ _ H => r_istore c247_65 <| r_iloadn c247_67 (ld1_ne h2 (by decide) (Or.inl (by decide))) <| r_iload c247_68 ld1_eq <| H) <|
  t_if e (fun b11 e12 =>
    M_of (fun _ _ H => r_ifT c247_70 b11 <| H) <|
    M_of (fun _ _ H => r_aloadn c247_83 (ld1_ne h0 (by decide) (Or.inl (by decide))) <| H) <|
    M_geta (j := 11) c247_84 (by decide) <|
    M_of (fun _ _ H => r_iload c247_87 (ld1_ne h4 (by decide) (Or.inr rfl)) <| H) <|
    t_ck e12 fun i13 e14 =>
    M_iald (j := 11) (v := (S.2.1 11 (x4).toInt.toNat)) c247_89 (by decide) i13 rfl <|
    J247_90_ok (ld1_ne h0 (by decide) (Or.inl (by decide))) (ld1_ne h1 (by decide) (Or.inl (by decide))) (ld1_ne h2 (by decide) (Or.inl (by decide))) (ld1_ne h4 (by decide) (Or.inr rfl)) ld1_eq e14 g
  ) (fun b11 e12 =>
    M_of (fun _ _ H => r_ifF c247_70 b11 <| H) <|
    M_of (fun _ _ H => r_aloadn c247_73 (ld1_ne h0 (by decide) (Or.inl (by decide))) <| H) <|
    M_geta (j := 10) c247_74 (by decide) <|
    M_of (fun _ _ H => r_iload c247_77 (ld1_ne h4 (by decide) (Or.inr rfl)) <| H) <|
    t_ck e12 fun i40 e41 =>
    M_iald (j := 10) (v := (S.2.1 10 (x4).toInt.toNat)) c247_79 (by decide) i40 rfl <|
    M_of (fun _ _ H => r_goto c247_80 <| H) <|
    J247_90_ok (ld1_ne h0 (by decide) (Or.inl (by decide))) (ld1_ne h1 (by decide) (Or.inl (by decide))) (ld1_ne h2 (by decide) (Or.inl (by decide))) (ld1_ne h4 (by decide) (Or.inr rfl)) ld1_eq e41 g
  ))
def J247_64 (N : Nat) (x1 : Int32) (x2 : Int32) (x4 : Int32)  (S : mS) : Option ((Int32 × Int32 × Int32 × mS) ⊕ (mS)) :=
  J247_65 N x1 x2 x4 0 S
theorem J247_64_ok {xt : mj_X} {ct : Nat → Value} {a : Nat} {ra : Nat → Nat} {d N : Nat} {l : mj_L} {x1 : Int32} {x2 : Int32} {x4 : Int32}  {S : mS} {o : (Int32 × Int32 × Int32 × mS) ⊕ (mS)} {q : mS} (h0 : mj_ld l 0 = some (.ref a)) (h1 : mj_ld l 1 = some (.int x1)) (h2 : mj_ld l 2 = some (.int x2)) (h4 : mj_ld l 4 = some (.int x4)) (e : J247_64 N x1 x2 x4  S = some o) (g : GG247_13 xt ct a ra d q o) : MR xt ct a ra (d + 2) 247 64 l [] S (.inl none) q := by
  unfold J247_64 at e
  exact (
  M_of (fun _ _ H => r_iconst c247_64 <| H) <|
  J247_65_ok h0 h1 h2 h4 e g)
def B247_13 (N : Nat) (s : Int32 × Int32 × Int32 × mS) : Option ((Int32 × Int32 × Int32 × mS) ⊕ (mS)) :=
  bif mj_c1 .eq s.2.2.1 then
    some (.inr s.2.2.2)
  else
  if 0 ≤ (((s.2.2.2.1 56) - 1)).toInt ∧ (((s.2.2.2.1 56) - 1)).toInt < mN 53 then
  if 0 ≤ (((24 * s.1) + (s.2.2.2.2.1 53 (((s.2.2.2.1 56) - 1)).toInt.toNat))).toInt ∧ (((24 * s.1) + (s.2.2.2.2.1 53 (((s.2.2.2.1 56) - 1)).toInt.toNat))).toInt < mN 6 then
  bif mj_c2 .ne (s.2.2.2.2.1 6 (((24 * s.1) + (s.2.2.2.2.1 53 (((s.2.2.2.1 56) - 1)).toInt.toNat))).toInt.toNat) 2 then
    J247_64 N s.1 s.2.1 ((24 * s.1) + (s.2.2.2.2.1 53 (((s.2.2.2.1 56) - 1)).toInt.toNat)) s.2.2.2
  else
  if 0 ≤ (((s.2.2.2.1 56) - 1)).toInt ∧ (((s.2.2.2.1 56) - 1)).toInt < mN 55 then
  bif mj_c1 .ne (s.2.2.2.2.1 55 (((s.2.2.2.1 56) - 1)).toInt.toNat) then
    J247_64 N s.1 s.2.1 ((24 * s.1) + (s.2.2.2.2.1 53 (((s.2.2.2.1 56) - 1)).toInt.toNat)) s.2.2.2
  else
  J247_65 N s.1 s.2.1 ((24 * s.1) + (s.2.2.2.2.1 53 (((s.2.2.2.1 56) - 1)).toInt.toNat)) 1 s.2.2.2
  else none
  else none
  else none
def L247_13 (N : Nat) (s : Int32 × Int32 × Int32 × mS) : Option (mS) := t_lp (B247_13 N) N s
theorem B247_13_ok {xt : mj_X} {ct : Nat → Value} {a : Nat} {ra : Nat → Nat} {d N : Nat} {s : Int32 × Int32 × Int32 × mS} {o : (Int32 × Int32 × Int32 × mS) ⊕ (mS)} {q : mS} (e : B247_13 N s = some o) (g : GG247_13 xt ct a ra d q o) : LG247_13 xt ct a ra d q s.1 s.2.1 s.2.2.1 s.2.2.2 := by
  unfold B247_13 at e
  exact (fun l h0 h1 h2 h3 =>
  M_of (fun _ _ H => r_iloadn c247_13 h3 <| H) <|
  t_if e (fun b3 e4 =>
    M_of (fun _ _ H => r_ifT c247_14 b3 <| H) <|
    t_rg e4 g (fun (e : s.2.2.2 = q) => M_rv (e) (fun _ => r_ret c247_186))
  ) (fun b3 e4 =>
    M_of (fun _ _ H => r_ifF c247_14 b3 <| H) <|
    M_of (fun _ _ H => r_bipush c247_17 <| r_iloadn c247_19 h1 <| r_imul c247_20 rfl <| r_aloadn c247_21 h0 <| H) <|
    M_geta (j := 53) c247_22 (by decide) <|
    M_of (fun _ _ H => r_aloadn c247_25 h0 <| H) <|
    M_get (v := (s.2.2.2.1 56)) c247_26 (by decide) rfl <|
    M_of (fun _ _ H => r_iconst c247_29 <| r_isub c247_30 rfl <| H) <|
    t_ck e4 fun i5 e6 =>
    M_iald (j := 53) (v := (s.2.2.2.2.1 53 (((s.2.2.2.1 56) - 1)).toInt.toNat)) c247_31 (by decide) i5 rfl <|
    M_of (fun _ _ H => r_iadd c247_32 rfl <| r_istore c247_33 <| r_aloadn c247_35 (ld1_ne h0 (by decide) (Or.inl (by decide))) <| H) <|
    M_geta (j := 6) c247_36 (by decide) <|
    M_of (fun _ _ H => r_iload c247_39 ld1_eq <| H) <|
    t_ck e6 fun i7 e8 =>
    M_iald (j := 6) (v := (s.2.2.2.2.1 6 (((24 * s.1) + (s.2.2.2.2.1 53 (((s.2.2.2.1 56) - 1)).toInt.toNat))).toInt.toNat)) c247_41 (by decide) i7 rfl <|
    M_of (fun _ _ H => r_iconst c247_42 <| H) <|
    t_if e8 (fun b9 e10 =>
      M_of (fun _ _ H => r_icmpT c247_43 b9 <| H) <|
      J247_64_ok (ld1_ne h0 (by decide) (Or.inl (by decide))) (ld1_ne h1 (by decide) (Or.inl (by decide))) (ld1_ne h2 (by decide) (Or.inl (by decide))) ld1_eq e10 g
    ) (fun b9 e10 =>
      M_of (fun _ _ H => r_icmpF c247_43 b9 <| H) <|
      M_of (fun _ _ H => r_aloadn c247_46 (ld1_ne h0 (by decide) (Or.inl (by decide))) <| H) <|
      M_geta (j := 55) c247_47 (by decide) <|
      M_of (fun _ _ H => r_aloadn c247_50 (ld1_ne h0 (by decide) (Or.inl (by decide))) <| H) <|
      M_get (v := (s.2.2.2.1 56)) c247_51 (by decide) rfl <|
      M_of (fun _ _ H => r_iconst c247_54 <| r_isub c247_55 rfl <| H) <|
      t_ck e10 fun i42 e43 =>
      M_iald (j := 55) (v := (s.2.2.2.2.1 55 (((s.2.2.2.1 56) - 1)).toInt.toNat)) c247_56 (by decide) i42 rfl <|
      t_if e43 (fun b44 e45 =>
        M_of (fun _ _ H => r_ifT c247_57 b44 <| H) <|
        J247_64_ok (ld1_ne h0 (by decide) (Or.inl (by decide))) (ld1_ne h1 (by decide) (Or.inl (by decide))) (ld1_ne h2 (by decide) (Or.inl (by decide))) ld1_eq e45 g
      ) (fun b44 e45 =>
        M_of (fun _ _ H => r_ifF c247_57 b44 <| H) <|
        M_of (fun _ _ H => r_iconst c247_60 <| r_goto c247_61 <| H) <|
        J247_65_ok (ld1_ne h0 (by decide) (Or.inl (by decide))) (ld1_ne h1 (by decide) (Or.inl (by decide))) (ld1_ne h2 (by decide) (Or.inl (by decide))) ld1_eq e45 g
      )
    )
  ))
theorem L247_13_ok {xt : mj_X} {ct : Nat → Value} {a : Nat} {ra : Nat → Nat} {d N : Nat} {x1 : Int32} {x2 : Int32} {x3 : Int32} {S : mS} {q : mS} (e : L247_13 N (x1, x2, x3, S) = some q) : LG247_13 xt ct a ra d q x1 x2 x3 S :=
  t_lp_ok (G := fun s => LG247_13 xt ct a ra d q s.1 s.2.1 s.2.2.1 s.2.2.2) (fun s s' e g => B247_13_ok e (by obtain ⟨_, _, _, _⟩ := s'; exact g)) (fun s e => B247_13_ok e rfl) N (x1, x2, x3, S) e
def J247_12 (N : Nat) (x1 : Int32) (x2 : Int32) (s0 : Int32) (S : mS) : Option (mS) :=
  L247_13 N (x1, x2, s0, S)
theorem J247_12_ok {xt : mj_X} {ct : Nat → Value} {a : Nat} {ra : Nat → Nat} {d N : Nat} {l : mj_L} {x1 : Int32} {x2 : Int32} {s0 : Int32} {S : mS} {q : mS} (h0 : mj_ld l 0 = some (.ref a)) (h1 : mj_ld l 1 = some (.int x1)) (h2 : mj_ld l 2 = some (.int x2)) (e : J247_12 N x1 x2 s0 S = some q) : MR xt ct a ra (d + 2) 247 12 l [.int s0] S (.inl none) q := by
  unfold J247_12 at e
  exact (
  M_of (fun _ _ H => r_istoren c247_12 <| H) <|
  L247_13_ok e _ (ld1_ne h0 (by decide) (Or.inl (by decide))) (ld1_ne h1 (by decide) (Or.inl (by decide))) (ld1_ne h2 (by decide) (Or.inr rfl)) ld1_eq)
/-- sayEnds(II)V -/
def M247 (N : Nat) (x1 : Int32) (x2 : Int32) (S : mS) : Option (mS) :=
  bif mj_c1 .le (S.1 56) then
    J247_12 N x1 x2 0 S
  else
  J247_12 N x1 x2 1 S
theorem M247_ok {xt : mj_X} {ct : Nat → Value} {a : Nat} {ra : Nat → Nat} {d N : Nat} {x1 : Int32} {x2 : Int32} {S : mS} {q : mS} (e : M247 N x1 x2 S = some q) : MR xt ct a ra (d + 2) 247 0 (lv_args 0 [.ref a, .int x1, .int x2]) [] S (.inl none) q := by
  unfold M247 at e
  exact (
  M_of (fun _ _ H => r_aloadn c247_0 rfl <| H) <|
  M_get (v := (S.1 56)) c247_1 (by decide) rfl <|
  t_if e (fun b1 e2 =>
    M_of (fun _ _ H => r_ifT c247_4 b1 <| H) <|
    M_of (fun _ _ H => r_iconst c247_11 <| H) <|
    J247_12_ok rfl rfl rfl e2
  ) (fun b1 e2 =>
    M_of (fun _ _ H => r_ifF c247_4 b1 <| H) <|
    M_of (fun _ _ H => r_iconst c247_7 <| r_goto c247_8 <| H) <|
    J247_12_ok rfl rfl rfl e2
  ))
def J249_37 (N : Nat) (x1 : Int32)  (S : mS) : Option (mS) :=
  (M206 N (48 + (x1 - x1 / 10 * 10)) S).bind fun r5 =>
  some r5
theorem J249_37_ok {xt : mj_X} {ct : Nat → Value} {a : Nat} {ra : Nat → Nat} {d N : Nat} {l : mj_L} {x1 : Int32}  {S : mS} {q : mS} (h0 : mj_ld l 0 = some (.ref a)) (h1 : mj_ld l 1 = some (.int x1)) (e : J249_37 N x1  S = some q) : MR xt ct a ra (d + 2) 249 37 l [] S (.inl none) q := by
  unfold J249_37 at e
  exact (
  M_of (fun _ _ H => r_aloadn c249_37 h0 <| r_bipush c249_38 <| r_iloadn c249_40 h1 <| r_bipush c249_41 <| r_irem c249_43 (by decide) rfl <| r_iadd c249_44 rfl <| H) <|
  t_bd e fun r5 c6 e7 =>
  M_cv (as := [.ref a, .int (48 + (x1 - x1 / 10 * 10))]) (st' := []) (v := none) c249_45 rfl ⟨Nat.le_of_ble_eq_true rfl, Nat.le_of_ble_eq_true rfl, Nat.le_of_ble_eq_true rfl⟩ rfl rfl (M206_ok (d := d) c6) (Nat.add_lt_add_left (by decide) d) <|
  M_rv (Option.some.inj e7) (fun _ => r_ret c249_48))
def J249_17 (N : Nat) (x1 : Int32)  (S : mS) : Option (mS) :=
  bif mj_c2 .le x1 9 then
    J249_37 N x1 S
  else
  (M206 N (48 + ((x1 / 10) - (x1 / 10) / 10 * 10)) S).bind fun r8 =>
  J249_37 N x1 r8
theorem J249_17_ok {xt : mj_X} {ct : Nat → Value} {a : Nat} {ra : Nat → Nat} {d N : Nat} {l : mj_L} {x1 : Int32}  {S : mS} {q : mS} (h0 : mj_ld l 0 = some (.ref a)) (h1 : mj_ld l 1 = some (.int x1)) (e : J249_17 N x1  S = some q) : MR xt ct a ra (d + 2) 249 17 l [] S (.inl none) q := by
  unfold J249_17 at e
  exact (
  M_of (fun _ _ H => r_iloadn c249_17 h1 <| r_bipush c249_18 <| H) <|
  t_if e (fun b3 e4 =>
    M_of (fun _ _ H => r_icmpT c249_20 b3 <| H) <|
    J249_37_ok h0 h1 e4
  ) (fun b3 e4 =>
    M_of (fun _ _ H => r_icmpF c249_20 b3 <| H) <|
    M_of (fun _ _ H => r_aloadn c249_23 h0 <| r_bipush c249_24 <| r_iloadn c249_26 h1 <| r_bipush c249_27 <| r_idiv c249_29 (by decide) rfl <| r_bipush c249_30 <| r_irem c249_32 (by decide) rfl <| r_iadd c249_33 rfl <| H) <|
    t_bd e4 fun r8 c9 e10 =>
    M_cv (as := [.ref a, .int (48 + ((x1 / 10) - (x1 / 10) / 10 * 10))]) (st' := []) (v := none) c249_34 rfl ⟨Nat.le_of_ble_eq_true rfl, Nat.le_of_ble_eq_true rfl, Nat.le_of_ble_eq_true rfl⟩ rfl rfl (M206_ok (d := d) c9) (Nat.add_lt_add_left (by decide) d) <|
    J249_37_ok h0 h1 e10
  ))
/-- sayNumber(I)V -/
def M249 (N : Nat) (x1 : Int32) (S : mS) : Option (mS) :=
  bif mj_c2 .le x1 99 then
    J249_17 N x1 S
  else
  (M206 N (48 + (x1 / 100)) S).bind fun r11 =>
  J249_17 N x1 r11
theorem M249_ok {xt : mj_X} {ct : Nat → Value} {a : Nat} {ra : Nat → Nat} {d N : Nat} {x1 : Int32} {S : mS} {q : mS} (e : M249 N x1 S = some q) : MR xt ct a ra (d + 2) 249 0 (lv_args 0 [.ref a, .int x1]) [] S (.inl none) q := by
  unfold M249 at e
  exact (
  M_of (fun _ _ H => r_iloadn c249_0 rfl <| r_bipush c249_1 <| H) <|
  t_if e (fun b1 e2 =>
    M_of (fun _ _ H => r_icmpT c249_3 b1 <| H) <|
    J249_17_ok rfl rfl e2
  ) (fun b1 e2 =>
    M_of (fun _ _ H => r_icmpF c249_3 b1 <| H) <|
    M_of (fun _ _ H => r_aloadn c249_6 rfl <| r_bipush c249_7 <| r_iloadn c249_9 rfl <| r_bipush c249_10 <| r_idiv c249_12 (by decide) rfl <| r_iadd c249_13 rfl <| H) <|
    t_bd e2 fun r11 c12 e13 =>
    M_cv (as := [.ref a, .int (48 + (x1 / 100))]) (st' := []) (v := none) c249_14 rfl ⟨Nat.le_of_ble_eq_true rfl, Nat.le_of_ble_eq_true rfl, Nat.le_of_ble_eq_true rfl⟩ rfl rfl (M206_ok (d := d) c12) (Nat.add_lt_add_left (by decide) d) <|
    J249_17_ok rfl rfl e13
  ))
/-- task(I)V -/
def M251 (N : Nat) (x1 : Int32) (S : mS) : Option (mS) :=
  if 0 ≤ ((S.1 40)).toInt ∧ ((S.1 40)).toInt < mN 39 then
  some (m_sV (m_sA S 39 ((S.1 40)).toInt.toNat x1) 40 ((S.1 40) + 1))
  else none
theorem M251_ok {xt : mj_X} {ct : Nat → Value} {a : Nat} {ra : Nat → Nat} {d N : Nat} {x1 : Int32} {S : mS} {q : mS} (e : M251 N x1 S = some q) : MR xt ct a ra (d + 1) 251 0 (lv_args 0 [.ref a, .int x1]) [] S (.inl none) q := by
  unfold M251 at e
  exact (
  M_of (fun _ _ H => r_aloadn c251_0 rfl <| H) <|
  M_geta (j := 39) c251_1 (by decide) <|
  M_of (fun _ _ H => r_aloadn c251_4 rfl <| H) <|
  M_get (v := (S.1 40)) c251_5 (by decide) rfl <|
  M_of (fun _ _ H => r_iloadn c251_8 rfl <| H) <|
  t_ck e fun i1 e2 =>
  M_iast (j := 39) c251_9 (by decide) i1 <|
  M_of (fun _ _ H => r_aloadn c251_10 rfl <| r_dup c251_11 rfl <| H) <|
  M_get (v := (S.1 40)) c251_12 (by decide) rfl <|
  M_of (fun _ _ H => r_iconst c251_15 <| r_iadd c251_16 rfl <| H) <|
  M_put c251_17 (by decide) <|
  M_rv (Option.some.inj e2) (fun _ => r_ret c251_20))
def J253_31 (N : Nat)  (s0 : Int32) (S : mS) : Option (Int32 × mS) :=
  some (s0, S)
theorem J253_31_ok {xt : mj_X} {ct : Nat → Value} {a : Nat} {ra : Nat → Nat} {d N : Nat} {l : mj_L}  {s0 : Int32} {S : mS} {q : Int32 × mS} (h0 : mj_ld l 0 = some (.ref a)) (e : J253_31 N  s0 S = some q) : MR xt ct a ra (d + 2) 253 31 l [.int s0] S (.inl (some (.int q.1))) q.2 := by
  unfold J253_31 at e
  exact (
  M_ri (Option.some.inj e) (fun _ => r_iret c253_31 rfl))
/-- tightOf(II)I -/
def M253 (N : Nat) (x1 : Int32) (x2 : Int32) (S : mS) : Option (Int32 × mS) :=
  if 0 ≤ (((160 * x1) + x2)).toInt ∧ (((160 * x1) + x2)).toInt < mN 13 then
  bif mj_c2 .ne (S.2.1 13 (((160 * x1) + x2)).toInt.toNat) 3 then
    J253_31 N 3 S
  else
  if 0 ≤ (((160 * x1) + x2)).toInt ∧ (((160 * x1) + x2)).toInt < mN 14 then
  (M231 N (S.2.1 14 (((160 * x1) + x2)).toInt.toNat) S).bind fun r7 =>
  J253_31 N r7.1 r7.2
  else none
  else none
theorem M253_ok {xt : mj_X} {ct : Nat → Value} {a : Nat} {ra : Nat → Nat} {d N : Nat} {x1 : Int32} {x2 : Int32} {S : mS} {q : Int32 × mS} (e : M253 N x1 x2 S = some q) : MR xt ct a ra (d + 2) 253 0 (lv_args 0 [.ref a, .int x1, .int x2]) [] S (.inl (some (.int q.1))) q.2 := by
  unfold M253 at e
  exact (
  M_of (fun _ _ H => r_sipush c253_0 <| r_iloadn c253_3 rfl <| r_imul c253_4 rfl <| r_iloadn c253_5 rfl <| r_iadd c253_6 rfl <| r_istoren c253_7 <| r_aloadn c253_8 (ld1_ne rfl (by decide) (Or.inl (by decide))) <| H) <|
  M_geta (j := 13) c253_9 (by decide) <|
  M_of (fun _ _ H => r_iloadn c253_12 ld1_eq <| H) <|
  t_ck e fun i1 e2 =>
  M_iald (j := 13) (v := (S.2.1 13 (((160 * x1) + x2)).toInt.toNat)) c253_13 (by decide) i1 rfl <|
  M_of (fun _ _ H => r_iconst c253_14 <| H) <|
  t_if e2 (fun b3 e4 =>
    M_of (fun _ _ H => r_icmpT c253_15 b3 <| H) <|
    M_of (fun _ _ H => r_iconst c253_30 <| H) <|
    J253_31_ok (ld1_ne rfl (by decide) (Or.inl (by decide))) e4
  ) (fun b3 e4 =>
    M_of (fun _ _ H => r_icmpF c253_15 b3 <| H) <|
    M_of (fun _ _ H => r_aloadn c253_18 (ld1_ne rfl (by decide) (Or.inl (by decide))) <| H) <|
    M_geta (j := 14) c253_19 (by decide) <|
    M_of (fun _ _ H => r_iloadn c253_22 ld1_eq <| H) <|
    t_ck e4 fun i5 e6 =>
    M_iald (j := 14) (v := (S.2.1 14 (((160 * x1) + x2)).toInt.toNat)) c253_23 (by decide) i5 rfl <|
    t_bd e6 fun r7 c8 e9 =>
    M_cs (as := [.int (S.2.1 14 (((160 * x1) + x2)).toInt.toNat)]) (st' := [.int r7.1]) (v := (some (.int r7.1))) c253_24 ⟨Nat.le_of_ble_eq_true rfl, Nat.le_of_ble_eq_true rfl, Nat.le_of_ble_eq_true rfl⟩ rfl rfl (M231_ok (d := d) c8) (Nat.add_lt_add_left (by decide) d) <|
    M_of (fun _ _ H => r_goto c253_27 <| H) <|
    J253_31_ok (ld1_ne rfl (by decide) (Or.inl (by decide))) e9
  ))
def J254_25 (N : Nat)   (S : mS) : Option (mS) :=
  some S
theorem J254_25_ok {xt : mj_X} {ct : Nat → Value} {a : Nat} {ra : Nat → Nat} {d N : Nat} {l : mj_L}   {S : mS} {q : mS} (h0 : mj_ld l 0 = some (.ref a)) (e : J254_25 N   S = some q) : MR xt ct a ra (d + 2) 254 25 l [] S (.inl none) q := by
  unfold J254_25 at e
  exact (
  M_rv (Option.some.inj e) (fun _ => r_ret c254_25))
def J254_10 (N : Nat) (x1 : Int32) (x2 : Int32)  (S : mS) : Option (mS) :=
  (M251 N x1 S).bind fun r3 =>
  bif mj_c1 .eq x2 then
    J254_25 N r3
  else
  (M251 N (-40) r3).bind fun r8 =>
  J254_25 N r8
theorem J254_10_ok {xt : mj_X} {ct : Nat → Value} {a : Nat} {ra : Nat → Nat} {d N : Nat} {l : mj_L} {x1 : Int32} {x2 : Int32}  {S : mS} {q : mS} (h0 : mj_ld l 0 = some (.ref a)) (h1 : mj_ld l 1 = some (.int x1)) (h2 : mj_ld l 2 = some (.int x2)) (e : J254_10 N x1 x2  S = some q) : MR xt ct a ra (d + 2) 254 10 l [] S (.inl none) q := by
  unfold J254_10 at e
  exact (
  M_of (fun _ _ H => r_aloadn c254_10 h0 <| r_iloadn c254_11 h1 <| H) <|
  t_bd e fun r3 c4 e5 =>
  M_cv (as := [.ref a, .int x1]) (st' := []) (v := none) c254_12 rfl ⟨Nat.le_of_ble_eq_true rfl, Nat.le_of_ble_eq_true rfl, Nat.le_of_ble_eq_true rfl⟩ rfl rfl (M251_ok (d := d) c4) (Nat.add_lt_add_left (by decide) d) <|
  M_of (fun _ _ H => r_iloadn c254_15 h2 <| H) <|
  t_if e5 (fun b6 e7 =>
    M_of (fun _ _ H => r_ifT c254_16 b6 <| H) <|
    J254_25_ok h0 e7
  ) (fun b6 e7 =>
    M_of (fun _ _ H => r_ifF c254_16 b6 <| H) <|
    M_of (fun _ _ H => r_aloadn c254_19 h0 <| r_bipush c254_20 <| H) <|
    t_bd e7 fun r8 c9 e10 =>
    M_cv (as := [.ref a, .int (-40)]) (st' := []) (v := none) c254_22 rfl ⟨Nat.le_of_ble_eq_true rfl, Nat.le_of_ble_eq_true rfl, Nat.le_of_ble_eq_true rfl⟩ rfl rfl (M251_ok (d := d) c9) (Nat.add_lt_add_left (by decide) d) <|
    J254_25_ok h0 e10
  ))
/-- taskInside(IZ)V -/
def M254 (N : Nat) (x1 : Int32) (x2 : Int32) (S : mS) : Option (mS) :=
  bif mj_c1 .eq x2 then
    J254_10 N x1 x2 S
  else
  (M251 N (-41) S).bind fun r11 =>
  J254_10 N x1 x2 r11
theorem M254_ok {xt : mj_X} {ct : Nat → Value} {a : Nat} {ra : Nat → Nat} {d N : Nat} {x1 : Int32} {x2 : Int32} {S : mS} {q : mS} (e : M254 N x1 x2 S = some q) : MR xt ct a ra (d + 2) 254 0 (lv_args 0 [.ref a, .int x1, .int x2]) [] S (.inl none) q := by
  unfold M254 at e
  exact (
  M_of (fun _ _ H => r_iloadn c254_0 rfl <| H) <|
  t_if e (fun b1 e2 =>
    M_of (fun _ _ H => r_ifT c254_1 b1 <| H) <|
    J254_10_ok rfl rfl rfl e2
  ) (fun b1 e2 =>
    M_of (fun _ _ H => r_ifF c254_1 b1 <| H) <|
    M_of (fun _ _ H => r_aloadn c254_4 rfl <| r_bipush c254_5 <| H) <|
    t_bd e2 fun r11 c12 e13 =>
    M_cv (as := [.ref a, .int (-41)]) (st' := []) (v := none) c254_7 rfl ⟨Nat.le_of_ble_eq_true rfl, Nat.le_of_ble_eq_true rfl, Nat.le_of_ble_eq_true rfl⟩ rfl rfl (M251_ok (d := d) c12) (Nat.add_lt_add_left (by decide) d) <|
    J254_10_ok rfl rfl rfl e13
  ))
