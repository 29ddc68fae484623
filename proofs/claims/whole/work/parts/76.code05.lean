theorem c157_0 : mj_Y.code kY 157 0 = some (.iload_n 2) ∧ ((2 : Fin 4) : Nat) = 2 ∧ 1 = 0 + 1 := by decide +kernel
theorem c157_1 : mj_Y.code kY 157 1 = some (.istore 5) ∧ 5 = 5 ∧ 5 < mj_Y.nL kY 157 ∧ 3 = 1 + 2 := by decide +kernel
theorem c157_3 : mj_Y.code kY 157 3 = some (.iload 5) ∧ 5 = 5 ∧ 5 = 3 + 2 := by decide +kernel
theorem c157_5 : mj_Y.code kY 157 5 = some (.iload_n 3) ∧ ((3 : Fin 4) : Nat) = 3 ∧ 6 = 5 + 1 := by decide +kernel
theorem c157_6 : mj_Y.code kY 157 6 = some (.if_icmp .ge 129) ∧ mj_tg 6 129 = some 135 ∧ 9 = 6 + 3 := by decide +kernel
theorem c157_9 : mj_Y.code kY 157 9 = some (.iload_n 3) ∧ ((3 : Fin 4) : Nat) = 3 ∧ 10 = 9 + 1 := by decide +kernel
theorem c157_10 : mj_Y.code kY 157 10 = some (.istore 6) ∧ 6 = 6 ∧ 6 < mj_Y.nL kY 157 ∧ 12 = 10 + 2 := by decide +kernel
theorem c157_12 : mj_Y.code kY 157 12 = some (.iload 6) ∧ 6 = 6 ∧ 14 = 12 + 2 := by decide +kernel
theorem c157_14 : mj_Y.code kY 157 14 = some (.iload 4) ∧ 4 = 4 ∧ 16 = 14 + 2 := by decide +kernel
theorem c157_16 : mj_Y.code kY 157 16 = some (.if_icmp .ge 113) ∧ mj_tg 16 113 = some 129 ∧ 19 = 16 + 3 := by decide +kernel
theorem c157_19 : mj_Y.code kY 157 19 = some (.iload_n 1) ∧ ((1 : Fin 4) : Nat) = 1 ∧ 20 = 19 + 1 := by decide +kernel
theorem c157_20 : mj_Y.code kY 157 20 = some (.aload_n 0) ∧ ((0 : Fin 4) : Nat) = 0 ∧ 21 = 20 + 1 := by decide +kernel
theorem c157_21 : mj_Y.code kY 157 21 = some (.getfield 11) ∧ mj_Y.fl kY 157 11 3 = some (0, (.array .int), false) ∧ 24 = 21 + 3 := by decide +kernel
theorem c157_24 : mj_Y.code kY 157 24 = some (.iload 5) ∧ 5 = 5 ∧ 26 = 24 + 2 := by decide +kernel
theorem c157_26 : mj_Y.code kY 157 26 = some .iaload ∧ 27 = 26 + 1 := by decide +kernel
theorem c157_27 : mj_Y.code kY 157 27 = some (.aload_n 0) ∧ ((0 : Fin 4) : Nat) = 0 ∧ 28 = 27 + 1 := by decide +kernel
theorem c157_28 : mj_Y.code kY 157 28 = some (.getfield 11) ∧ mj_Y.fl kY 157 11 3 = some (0, (.array .int), false) ∧ 31 = 28 + 3 := by decide +kernel
theorem c157_31 : mj_Y.code kY 157 31 = some (.iload 6) ∧ 6 = 6 ∧ 33 = 31 + 2 := by decide +kernel
theorem c157_33 : mj_Y.code kY 157 33 = some .iaload ∧ 34 = 33 + 1 := by decide +kernel
theorem c157_34 : mj_Y.code kY 157 34 = some (.invokestatic 83) ∧ mj_Y.pr kY 157 83 = none ∧ mj_Y.cs kY 157 83 = some (158, 3) ∧ mj_Y.nL kY 158 = 3 ∧ 37 = 34 + 3 := by decide +kernel
theorem c157_37 : mj_Y.code kY 157 37 = some (.istore 7) ∧ 7 = 7 ∧ 7 < mj_Y.nL kY 157 ∧ 39 = 37 + 2 := by decide +kernel
theorem c157_39 : mj_Y.code kY 157 39 = some (.iload 7) ∧ 7 = 7 ∧ 41 = 39 + 2 := by decide +kernel
theorem c157_41 : mj_Y.code kY 157 41 = some (.sipush (-999)) ∧ (Int16.ofInt (-999)).toInt32 = (-999) ∧ 44 = 41 + 3 := by decide +kernel
theorem c157_44 : mj_Y.code kY 157 44 = some (.if_icmp .lt 11) ∧ mj_tg 44 11 = some 55 ∧ 47 = 44 + 3 := by decide +kernel
theorem c157_47 : mj_Y.code kY 157 47 = some (.iload 7) ∧ 7 = 7 ∧ 49 = 47 + 2 := by decide +kernel
theorem c157_49 : mj_Y.code kY 157 49 = some (.sipush 999) ∧ (Int16.ofInt 999).toInt32 = 999 ∧ 52 = 49 + 3 := by decide +kernel
theorem c157_52 : mj_Y.code kY 157 52 = some (.if_icmp .le 5) ∧ mj_tg 52 5 = some 57 ∧ 55 = 52 + 3 := by decide +kernel
theorem c157_55 : mj_Y.code kY 157 55 = some (.iconst 0) ∧ Int32.ofInt 0 = 0 ∧ 56 = 55 + 1 := by decide +kernel
theorem c157_56 : mj_Y.code kY 157 56 = some .ireturn ∧ mj_Y.rt kY 157 = some .boolean := by decide +kernel
theorem c157_57 : mj_Y.code kY 157 57 = some (.aload_n 0) ∧ ((0 : Fin 4) : Nat) = 0 ∧ 58 = 57 + 1 := by decide +kernel
theorem c157_58 : mj_Y.code kY 157 58 = some (.getfield 26) ∧ mj_Y.fl kY 157 26 3 = some (4, (.array .long), false) ∧ 61 = 58 + 3 := by decide +kernel
theorem c157_61 : mj_Y.code kY 157 61 = some (.iload 7) ∧ 7 = 7 ∧ 63 = 61 + 2 := by decide +kernel
theorem c157_63 : mj_Y.code kY 157 63 = some (.sipush 999) ∧ (Int16.ofInt 999).toInt32 = 999 ∧ 66 = 63 + 3 := by decide +kernel
theorem c157_66 : mj_Y.code kY 157 66 = some .iadd ∧ 67 = 66 + 1 := by decide +kernel
theorem c157_67 : mj_Y.code kY 157 67 = some .laload ∧ 68 = 67 + 1 := by decide +kernel
theorem c157_68 : mj_Y.code kY 157 68 = some (.lconst 0) ∧ Int64.ofNat ((0 : Fin 2) : Nat) = 0 ∧ 69 = 68 + 1 := by decide +kernel
theorem c157_69 : mj_Y.code kY 157 69 = some .lcmp ∧ 70 = 69 + 1 := by decide +kernel
theorem c157_70 : mj_Y.code kY 157 70 = some (.ifCond .ne 24) ∧ mj_tg 70 24 = some 94 ∧ 73 = 70 + 3 := by decide +kernel
theorem c157_73 : mj_Y.code kY 157 73 = some (.aload_n 0) ∧ ((0 : Fin 4) : Nat) = 0 ∧ 74 = 73 + 1 := by decide +kernel
theorem c157_74 : mj_Y.code kY 157 74 = some (.getfield 29) ∧ mj_Y.fl kY 157 29 3 = some (5, (.array .int), false) ∧ 77 = 74 + 3 := by decide +kernel
theorem c157_77 : mj_Y.code kY 157 77 = some (.aload_n 0) ∧ ((0 : Fin 4) : Nat) = 0 ∧ 78 = 77 + 1 := by decide +kernel
theorem c157_78 : mj_Y.code kY 157 78 = some (.getfield 32) ∧ mj_Y.fl kY 157 32 3 = some (6, .int, true) ∧ 81 = 78 + 3 := by decide +kernel
theorem c157_81 : mj_Y.code kY 157 81 = some (.iload 7) ∧ 7 = 7 ∧ 83 = 81 + 2 := by decide +kernel
theorem c157_83 : mj_Y.code kY 157 83 = some .iastore ∧ 84 = 83 + 1 := by decide +kernel
theorem c157_84 : mj_Y.code kY 157 84 = some (.aload_n 0) ∧ ((0 : Fin 4) : Nat) = 0 ∧ 85 = 84 + 1 := by decide +kernel
theorem c157_85 : mj_Y.code kY 157 85 = some .dup ∧ 86 = 85 + 1 := by decide +kernel
theorem c157_86 : mj_Y.code kY 157 86 = some (.getfield 32) ∧ mj_Y.fl kY 157 32 3 = some (6, .int, true) ∧ 89 = 86 + 3 := by decide +kernel
theorem c157_89 : mj_Y.code kY 157 89 = some (.iconst 1) ∧ Int32.ofInt 1 = 1 ∧ 90 = 89 + 1 := by decide +kernel
theorem c157_90 : mj_Y.code kY 157 90 = some .iadd ∧ 91 = 90 + 1 := by decide +kernel
theorem c157_91 : mj_Y.code kY 157 91 = some (.putfield 32) ∧ mj_Y.fl kY 157 32 3 = some (6, .int, true) ∧ 94 = 91 + 3 := by decide +kernel
theorem c157_94 : mj_Y.code kY 157 94 = some (.aload_n 0) ∧ ((0 : Fin 4) : Nat) = 0 ∧ 95 = 94 + 1 := by decide +kernel
theorem c157_95 : mj_Y.code kY 157 95 = some (.getfield 26) ∧ mj_Y.fl kY 157 26 3 = some (4, (.array .long), false) ∧ 98 = 95 + 3 := by decide +kernel
theorem c157_98 : mj_Y.code kY 157 98 = some (.iload 7) ∧ 7 = 7 ∧ 100 = 98 + 2 := by decide +kernel
theorem c157_100 : mj_Y.code kY 157 100 = some (.sipush 999) ∧ (Int16.ofInt 999).toInt32 = 999 ∧ 103 = 100 + 3 := by decide +kernel
theorem c157_103 : mj_Y.code kY 157 103 = some .iadd ∧ 104 = 103 + 1 := by decide +kernel
theorem c157_104 : mj_Y.code kY 157 104 = some .dup2 ∧ 105 = 104 + 1 := by decide +kernel
theorem c157_105 : mj_Y.code kY 157 105 = some .laload ∧ 106 = 105 + 1 := by decide +kernel
theorem c157_106 : mj_Y.code kY 157 106 = some (.aload_n 0) ∧ ((0 : Fin 4) : Nat) = 0 ∧ 107 = 106 + 1 := by decide +kernel
theorem c157_107 : mj_Y.code kY 157 107 = some (.getfield 15) ∧ mj_Y.fl kY 157 15 3 = some (1, (.array .long), false) ∧ 110 = 107 + 3 := by decide +kernel
theorem c157_110 : mj_Y.code kY 157 110 = some (.iload 5) ∧ 5 = 5 ∧ 112 = 110 + 2 := by decide +kernel
theorem c157_112 : mj_Y.code kY 157 112 = some .laload ∧ 113 = 112 + 1 := by decide +kernel
theorem c157_113 : mj_Y.code kY 157 113 = some (.aload_n 0) ∧ ((0 : Fin 4) : Nat) = 0 ∧ 114 = 113 + 1 := by decide +kernel
theorem c157_114 : mj_Y.code kY 157 114 = some (.getfield 15) ∧ mj_Y.fl kY 157 15 3 = some (1, (.array .long), false) ∧ 117 = 114 + 3 := by decide +kernel
theorem c157_117 : mj_Y.code kY 157 117 = some (.iload 6) ∧ 6 = 6 ∧ 119 = 117 + 2 := by decide +kernel
theorem c157_119 : mj_Y.code kY 157 119 = some .laload ∧ 120 = 119 + 1 := by decide +kernel
theorem c157_120 : mj_Y.code kY 157 120 = some .lmul ∧ 121 = 120 + 1 := by decide +kernel
theorem c157_121 : mj_Y.code kY 157 121 = some .ladd ∧ 122 = 121 + 1 := by decide +kernel
theorem c157_122 : mj_Y.code kY 157 122 = some .lastore ∧ 123 = 122 + 1 := by decide +kernel
theorem c157_123 : mj_Y.code kY 157 123 = some (.iinc 6 1) ∧ 6 < mj_Y.nL kY 157 ∧ Int32.ofInt 1 = 1 ∧ 126 = 123 + 3 := by decide +kernel
theorem c157_126 : mj_Y.code kY 157 126 = some (.goto (-114)) ∧ mj_tg 126 (-114) = some 12 := by decide +kernel
theorem c157_129 : mj_Y.code kY 157 129 = some (.iinc 5 1) ∧ 5 < mj_Y.nL kY 157 ∧ Int32.ofInt 1 = 1 ∧ 132 = 129 + 3 := by decide +kernel
theorem c157_132 : mj_Y.code kY 157 132 = some (.goto (-129)) ∧ mj_tg 132 (-129) = some 3 := by decide +kernel
theorem c157_135 : mj_Y.code kY 157 135 = some (.iconst 1) ∧ Int32.ofInt 1 = 1 ∧ 136 = 135 + 1 := by decide +kernel
theorem c157_136 : mj_Y.code kY 157 136 = some .ireturn ∧ mj_Y.rt kY 157 = some .boolean := by decide +kernel
theorem c158_0 : mj_Y.code kY 158 0 = some (.iload_n 0) ∧ ((0 : Fin 4) : Nat) = 0 ∧ 1 = 0 + 1 := by decide +kernel
theorem c158_1_d {x : Int32} (b0 : mj_c2 .eq x 37 = false) (b1 : mj_c2 .eq x 42 = false) (b2 : mj_c2 .eq x 43 = false) (b3 : mj_c2 .eq x 45 = false) (b4 : mj_c2 .eq x 47 = false) (b5 : mj_c2 .eq x 60 = false) (b6 : mj_c2 .eq x 62 = false) : mj_Y.code kY 158 1 = some (.lookupswitch 133 #[(37, 95), (42, 75), (43, 67), (45, 71), (47, 79), (60, 111), (62, 122)]) ∧ r_np (.lookupswitch 133 #[(37, 95), (42, 75), (43, 67), (45, 71), (47, 79), (60, 111), (62, 122)]) = true ∧ ∀ (l : mj_L) (st : List Value), mj_p (mj_Y.nL kY 158) 1 (.lookupswitch 133 #[(37, 95), (42, 75), (43, 67), (45, 71), (47, 79), (60, 111), (62, 122)]) l (.int x :: st) = some (134, l, st) := by
  refine ⟨by decide +kernel, rfl, fun l st => ?_⟩
  have n0 : x.toInt ≠ 37 := fun h => of_decide_eq_false b0 (Int32.toInt_inj.mp (h.trans (show 37 = (37 : Int32).toInt from rfl)))
  have n1 : x.toInt ≠ 42 := fun h => of_decide_eq_false b1 (Int32.toInt_inj.mp (h.trans (show 42 = (42 : Int32).toInt from rfl)))
  have n2 : x.toInt ≠ 43 := fun h => of_decide_eq_false b2 (Int32.toInt_inj.mp (h.trans (show 43 = (43 : Int32).toInt from rfl)))
  have n3 : x.toInt ≠ 45 := fun h => of_decide_eq_false b3 (Int32.toInt_inj.mp (h.trans (show 45 = (45 : Int32).toInt from rfl)))
  have n4 : x.toInt ≠ 47 := fun h => of_decide_eq_false b4 (Int32.toInt_inj.mp (h.trans (show 47 = (47 : Int32).toInt from rfl)))
  have n5 : x.toInt ≠ 60 := fun h => of_decide_eq_false b5 (Int32.toInt_inj.mp (h.trans (show 60 = (60 : Int32).toInt from rfl)))
  have n6 : x.toInt ≠ 62 := fun h => of_decide_eq_false b6 (Int32.toInt_inj.mp (h.trans (show 62 = (62 : Int32).toInt from rfl)))
  refine sw_dfl (by decide) (by decide) (fun p hp => ?_)
  simp only [List.mem_cons, List.not_mem_nil, or_false] at hp
  rcases hp with rfl | rfl | rfl | rfl | rfl | rfl | rfl
  · exact fun z => n0 z.symm
  · exact fun z => n1 z.symm
  · exact fun z => n2 z.symm
  · exact fun z => n3 z.symm
  · exact fun z => n4 z.symm
  · exact fun z => n5 z.symm
  · exact fun z => n6 z.symm
theorem c158_1_37 : mj_Y.code kY 158 1 = some (.lookupswitch 133 #[(37, 95), (42, 75), (43, 67), (45, 71), (47, 79), (60, 111), (62, 122)]) ∧ r_np (.lookupswitch 133 #[(37, 95), (42, 75), (43, 67), (45, 71), (47, 79), (60, 111), (62, 122)]) = true ∧ ∀ (l : mj_L) (st : List Value), mj_p (mj_Y.nL kY 158) 1 (.lookupswitch 133 #[(37, 95), (42, 75), (43, 67), (45, 71), (47, 79), (60, 111), (62, 122)]) l (.int 37 :: st) = some (96, l, st) := ⟨by decide +kernel, rfl, fun _ _ => rfl⟩
theorem c158_1_42 : mj_Y.code kY 158 1 = some (.lookupswitch 133 #[(37, 95), (42, 75), (43, 67), (45, 71), (47, 79), (60, 111), (62, 122)]) ∧ r_np (.lookupswitch 133 #[(37, 95), (42, 75), (43, 67), (45, 71), (47, 79), (60, 111), (62, 122)]) = true ∧ ∀ (l : mj_L) (st : List Value), mj_p (mj_Y.nL kY 158) 1 (.lookupswitch 133 #[(37, 95), (42, 75), (43, 67), (45, 71), (47, 79), (60, 111), (62, 122)]) l (.int 42 :: st) = some (76, l, st) := ⟨by decide +kernel, rfl, fun _ _ => rfl⟩
theorem c158_1_43 : mj_Y.code kY 158 1 = some (.lookupswitch 133 #[(37, 95), (42, 75), (43, 67), (45, 71), (47, 79), (60, 111), (62, 122)]) ∧ r_np (.lookupswitch 133 #[(37, 95), (42, 75), (43, 67), (45, 71), (47, 79), (60, 111), (62, 122)]) = true ∧ ∀ (l : mj_L) (st : List Value), mj_p (mj_Y.nL kY 158) 1 (.lookupswitch 133 #[(37, 95), (42, 75), (43, 67), (45, 71), (47, 79), (60, 111), (62, 122)]) l (.int 43 :: st) = some (68, l, st) := ⟨by decide +kernel, rfl, fun _ _ => rfl⟩
theorem c158_1_45 : mj_Y.code kY 158 1 = some (.lookupswitch 133 #[(37, 95), (42, 75), (43, 67), (45, 71), (47, 79), (60, 111), (62, 122)]) ∧ r_np (.lookupswitch 133 #[(37, 95), (42, 75), (43, 67), (45, 71), (47, 79), (60, 111), (62, 122)]) = true ∧ ∀ (l : mj_L) (st : List Value), mj_p (mj_Y.nL kY 158) 1 (.lookupswitch 133 #[(37, 95), (42, 75), (43, 67), (45, 71), (47, 79), (60, 111), (62, 122)]) l (.int 45 :: st) = some (72, l, st) := ⟨by decide +kernel, rfl, fun _ _ => rfl⟩
theorem c158_1_47 : mj_Y.code kY 158 1 = some (.lookupswitch 133 #[(37, 95), (42, 75), (43, 67), (45, 71), (47, 79), (60, 111), (62, 122)]) ∧ r_np (.lookupswitch 133 #[(37, 95), (42, 75), (43, 67), (45, 71), (47, 79), (60, 111), (62, 122)]) = true ∧ ∀ (l : mj_L) (st : List Value), mj_p (mj_Y.nL kY 158) 1 (.lookupswitch 133 #[(37, 95), (42, 75), (43, 67), (45, 71), (47, 79), (60, 111), (62, 122)]) l (.int 47 :: st) = some (80, l, st) := ⟨by decide +kernel, rfl, fun _ _ => rfl⟩
theorem c158_1_60 : mj_Y.code kY 158 1 = some (.lookupswitch 133 #[(37, 95), (42, 75), (43, 67), (45, 71), (47, 79), (60, 111), (62, 122)]) ∧ r_np (.lookupswitch 133 #[(37, 95), (42, 75), (43, 67), (45, 71), (47, 79), (60, 111), (62, 122)]) = true ∧ ∀ (l : mj_L) (st : List Value), mj_p (mj_Y.nL kY 158) 1 (.lookupswitch 133 #[(37, 95), (42, 75), (43, 67), (45, 71), (47, 79), (60, 111), (62, 122)]) l (.int 60 :: st) = some (112, l, st) := ⟨by decide +kernel, rfl, fun _ _ => rfl⟩
theorem c158_1_62 : mj_Y.code kY 158 1 = some (.lookupswitch 133 #[(37, 95), (42, 75), (43, 67), (45, 71), (47, 79), (60, 111), (62, 122)]) ∧ r_np (.lookupswitch 133 #[(37, 95), (42, 75), (43, 67), (45, 71), (47, 79), (60, 111), (62, 122)]) = true ∧ ∀ (l : mj_L) (st : List Value), mj_p (mj_Y.nL kY 158) 1 (.lookupswitch 133 #[(37, 95), (42, 75), (43, 67), (45, 71), (47, 79), (60, 111), (62, 122)]) l (.int 62 :: st) = some (123, l, st) := ⟨by decide +kernel, rfl, fun _ _ => rfl⟩
theorem c158_68 : mj_Y.code kY 158 68 = some (.iload_n 1) ∧ ((1 : Fin 4) : Nat) = 1 ∧ 69 = 68 + 1 := by decide +kernel
theorem c158_69 : mj_Y.code kY 158 69 = some (.iload_n 2) ∧ ((2 : Fin 4) : Nat) = 2 ∧ 70 = 69 + 1 := by decide +kernel
theorem c158_70 : mj_Y.code kY 158 70 = some .iadd ∧ 71 = 70 + 1 := by decide +kernel
theorem c158_71 : mj_Y.code kY 158 71 = some .ireturn ∧ mj_Y.rt kY 158 = some .int := by decide +kernel
theorem c158_72 : mj_Y.code kY 158 72 = some (.iload_n 1) ∧ ((1 : Fin 4) : Nat) = 1 ∧ 73 = 72 + 1 := by decide +kernel
theorem c158_73 : mj_Y.code kY 158 73 = some (.iload_n 2) ∧ ((2 : Fin 4) : Nat) = 2 ∧ 74 = 73 + 1 := by decide +kernel
theorem c158_74 : mj_Y.code kY 158 74 = some .isub ∧ 75 = 74 + 1 := by decide +kernel
theorem c158_75 : mj_Y.code kY 158 75 = some .ireturn ∧ mj_Y.rt kY 158 = some .int := by decide +kernel
theorem c158_76 : mj_Y.code kY 158 76 = some (.iload_n 1) ∧ ((1 : Fin 4) : Nat) = 1 ∧ 77 = 76 + 1 := by decide +kernel
theorem c158_77 : mj_Y.code kY 158 77 = some (.iload_n 2) ∧ ((2 : Fin 4) : Nat) = 2 ∧ 78 = 77 + 1 := by decide +kernel
theorem c158_78 : mj_Y.code kY 158 78 = some .imul ∧ 79 = 78 + 1 := by decide +kernel
theorem c158_79 : mj_Y.code kY 158 79 = some .ireturn ∧ mj_Y.rt kY 158 = some .int := by decide +kernel
theorem c158_80 : mj_Y.code kY 158 80 = some (.iload_n 2) ∧ ((2 : Fin 4) : Nat) = 2 ∧ 81 = 80 + 1 := by decide +kernel
theorem c158_81 : mj_Y.code kY 158 81 = some (.ifCond .ne 9) ∧ mj_tg 81 9 = some 90 ∧ 84 = 81 + 3 := by decide +kernel
theorem c158_84 : mj_Y.code kY 158 84 = some (.sipush 1000) ∧ (Int16.ofInt 1000).toInt32 = 1000 ∧ 87 = 84 + 3 := by decide +kernel
theorem c158_87 : mj_Y.code kY 158 87 = some (.goto 8) ∧ mj_tg 87 8 = some 95 := by decide +kernel
theorem c158_90 : mj_Y.code kY 158 90 = some (.iload_n 1) ∧ ((1 : Fin 4) : Nat) = 1 ∧ 91 = 90 + 1 := by decide +kernel
theorem c158_91 : mj_Y.code kY 158 91 = some (.iload_n 2) ∧ ((2 : Fin 4) : Nat) = 2 ∧ 92 = 91 + 1 := by decide +kernel
theorem c158_92 : mj_Y.code kY 158 92 = some (.invokestatic 59) ∧ mj_Y.pr kY 158 59 = none ∧ mj_Y.cs kY 158 59 = some (159, 2) ∧ mj_Y.nL kY 159 = 3 ∧ 95 = 92 + 3 := by decide +kernel
theorem c158_95 : mj_Y.code kY 158 95 = some .ireturn ∧ mj_Y.rt kY 158 = some .int := by decide +kernel
theorem c158_96 : mj_Y.code kY 158 96 = some (.iload_n 2) ∧ ((2 : Fin 4) : Nat) = 2 ∧ 97 = 96 + 1 := by decide +kernel
theorem c158_97 : mj_Y.code kY 158 97 = some (.ifCond .ne 9) ∧ mj_tg 97 9 = some 106 ∧ 100 = 97 + 3 := by decide +kernel
theorem c158_100 : mj_Y.code kY 158 100 = some (.sipush 1000) ∧ (Int16.ofInt 1000).toInt32 = 1000 ∧ 103 = 100 + 3 := by decide +kernel
theorem c158_103 : mj_Y.code kY 158 103 = some (.goto 8) ∧ mj_tg 103 8 = some 111 := by decide +kernel
theorem c158_106 : mj_Y.code kY 158 106 = some (.iload_n 1) ∧ ((1 : Fin 4) : Nat) = 1 ∧ 107 = 106 + 1 := by decide +kernel
theorem c158_107 : mj_Y.code kY 158 107 = some (.iload_n 2) ∧ ((2 : Fin 4) : Nat) = 2 ∧ 108 = 107 + 1 := by decide +kernel
theorem c158_108 : mj_Y.code kY 158 108 = some (.invokestatic 65) ∧ mj_Y.pr kY 158 65 = none ∧ mj_Y.cs kY 158 65 = some (160, 2) ∧ mj_Y.nL kY 160 = 3 ∧ 111 = 108 + 3 := by decide +kernel
theorem c158_111 : mj_Y.code kY 158 111 = some .ireturn ∧ mj_Y.rt kY 158 = some .int := by decide +kernel
theorem c158_112 : mj_Y.code kY 158 112 = some (.iload_n 1) ∧ ((1 : Fin 4) : Nat) = 1 ∧ 113 = 112 + 1 := by decide +kernel
theorem c158_113 : mj_Y.code kY 158 113 = some (.iload_n 2) ∧ ((2 : Fin 4) : Nat) = 2 ∧ 114 = 113 + 1 := by decide +kernel
theorem c158_114 : mj_Y.code kY 158 114 = some (.if_icmp .ge 7) ∧ mj_tg 114 7 = some 121 ∧ 117 = 114 + 3 := by decide +kernel
theorem c158_117 : mj_Y.code kY 158 117 = some (.iconst 1) ∧ Int32.ofInt 1 = 1 ∧ 118 = 117 + 1 := by decide +kernel
theorem c158_118 : mj_Y.code kY 158 118 = some (.goto 4) ∧ mj_tg 118 4 = some 122 := by decide +kernel
theorem c158_121 : mj_Y.code kY 158 121 = some (.iconst 0) ∧ Int32.ofInt 0 = 0 ∧ 122 = 121 + 1 := by decide +kernel
theorem c158_122 : mj_Y.code kY 158 122 = some .ireturn ∧ mj_Y.rt kY 158 = some .int := by decide +kernel
theorem c158_123 : mj_Y.code kY 158 123 = some (.iload_n 1) ∧ ((1 : Fin 4) : Nat) = 1 ∧ 124 = 123 + 1 := by decide +kernel
theorem c158_124 : mj_Y.code kY 158 124 = some (.iload_n 2) ∧ ((2 : Fin 4) : Nat) = 2 ∧ 125 = 124 + 1 := by decide +kernel
theorem c158_125 : mj_Y.code kY 158 125 = some (.if_icmp .le 7) ∧ mj_tg 125 7 = some 132 ∧ 128 = 125 + 3 := by decide +kernel
theorem c158_128 : mj_Y.code kY 158 128 = some (.iconst 1) ∧ Int32.ofInt 1 = 1 ∧ 129 = 128 + 1 := by decide +kernel
theorem c158_129 : mj_Y.code kY 158 129 = some (.goto 4) ∧ mj_tg 129 4 = some 133 := by decide +kernel
theorem c158_132 : mj_Y.code kY 158 132 = some (.iconst 0) ∧ Int32.ofInt 0 = 0 ∧ 133 = 132 + 1 := by decide +kernel
theorem c158_133 : mj_Y.code kY 158 133 = some .ireturn ∧ mj_Y.rt kY 158 = some .int := by decide +kernel
theorem c158_134 : mj_Y.code kY 158 134 = some (.iload_n 1) ∧ ((1 : Fin 4) : Nat) = 1 ∧ 135 = 134 + 1 := by decide +kernel
theorem c158_135 : mj_Y.code kY 158 135 = some (.iload_n 2) ∧ ((2 : Fin 4) : Nat) = 2 ∧ 136 = 135 + 1 := by decide +kernel
theorem c158_136 : mj_Y.code kY 158 136 = some (.if_icmp .ne 7) ∧ mj_tg 136 7 = some 143 ∧ 139 = 136 + 3 := by decide +kernel
theorem c158_139 : mj_Y.code kY 158 139 = some (.iconst 1) ∧ Int32.ofInt 1 = 1 ∧ 140 = 139 + 1 := by decide +kernel
theorem c158_140 : mj_Y.code kY 158 140 = some (.goto 4) ∧ mj_tg 140 4 = some 144 := by decide +kernel
theorem c158_143 : mj_Y.code kY 158 143 = some (.iconst 0) ∧ Int32.ofInt 0 = 0 ∧ 144 = 143 + 1 := by decide +kernel
theorem c158_144 : mj_Y.code kY 158 144 = some .ireturn ∧ mj_Y.rt kY 158 = some .int := by decide +kernel
theorem c159_0 : mj_Y.code kY 159 0 = some (.iload_n 0) ∧ ((0 : Fin 4) : Nat) = 0 ∧ 1 = 0 + 1 := by decide +kernel
theorem c159_1 : mj_Y.code kY 159 1 = some (.iload_n 1) ∧ ((1 : Fin 4) : Nat) = 1 ∧ 2 = 1 + 1 := by decide +kernel
theorem c159_2 : mj_Y.code kY 159 2 = some .idiv ∧ 3 = 2 + 1 := by decide +kernel
theorem c159_3 : mj_Y.code kY 159 3 = some (.istore_n 2) ∧ ((2 : Fin 4) : Nat) = 2 ∧ 2 < mj_Y.nL kY 159 ∧ 4 = 3 + 1 := by decide +kernel
theorem c159_4 : mj_Y.code kY 159 4 = some (.iload_n 0) ∧ ((0 : Fin 4) : Nat) = 0 ∧ 5 = 4 + 1 := by decide +kernel
theorem c159_5 : mj_Y.code kY 159 5 = some (.iload_n 1) ∧ ((1 : Fin 4) : Nat) = 1 ∧ 6 = 5 + 1 := by decide +kernel
theorem c159_6 : mj_Y.code kY 159 6 = some .ixor ∧ 7 = 6 + 1 := by decide +kernel
theorem c159_7 : mj_Y.code kY 159 7 = some (.ifCond .ge 14) ∧ mj_tg 7 14 = some 21 ∧ 10 = 7 + 3 := by decide +kernel
theorem c159_10 : mj_Y.code kY 159 10 = some (.iload_n 2) ∧ ((2 : Fin 4) : Nat) = 2 ∧ 11 = 10 + 1 := by decide +kernel
theorem c159_11 : mj_Y.code kY 159 11 = some (.iload_n 1) ∧ ((1 : Fin 4) : Nat) = 1 ∧ 12 = 11 + 1 := by decide +kernel
theorem c159_12 : mj_Y.code kY 159 12 = some .imul ∧ 13 = 12 + 1 := by decide +kernel
theorem c159_13 : mj_Y.code kY 159 13 = some (.iload_n 0) ∧ ((0 : Fin 4) : Nat) = 0 ∧ 14 = 13 + 1 := by decide +kernel
theorem c159_14 : mj_Y.code kY 159 14 = some (.if_icmp .eq 7) ∧ mj_tg 14 7 = some 21 ∧ 17 = 14 + 3 := by decide +kernel
theorem c159_17 : mj_Y.code kY 159 17 = some (.iload_n 2) ∧ ((2 : Fin 4) : Nat) = 2 ∧ 18 = 17 + 1 := by decide +kernel
theorem c159_18 : mj_Y.code kY 159 18 = some (.iconst 1) ∧ Int32.ofInt 1 = 1 ∧ 19 = 18 + 1 := by decide +kernel
theorem c159_19 : mj_Y.code kY 159 19 = some .isub ∧ 20 = 19 + 1 := by decide +kernel
theorem c159_20 : mj_Y.code kY 159 20 = some .ireturn ∧ mj_Y.rt kY 159 = some .int := by decide +kernel
theorem c159_21 : mj_Y.code kY 159 21 = some (.iload_n 2) ∧ ((2 : Fin 4) : Nat) = 2 ∧ 22 = 21 + 1 := by decide +kernel
theorem c159_22 : mj_Y.code kY 159 22 = some .ireturn ∧ mj_Y.rt kY 159 = some .int := by decide +kernel
theorem c160_0 : mj_Y.code kY 160 0 = some (.iload_n 0) ∧ ((0 : Fin 4) : Nat) = 0 ∧ 1 = 0 + 1 := by decide +kernel
theorem c160_1 : mj_Y.code kY 160 1 = some (.iload_n 1) ∧ ((1 : Fin 4) : Nat) = 1 ∧ 2 = 1 + 1 := by decide +kernel
theorem c160_2 : mj_Y.code kY 160 2 = some .irem ∧ 3 = 2 + 1 := by decide +kernel
theorem c160_3 : mj_Y.code kY 160 3 = some (.istore_n 2) ∧ ((2 : Fin 4) : Nat) = 2 ∧ 2 < mj_Y.nL kY 160 ∧ 4 = 3 + 1 := by decide +kernel
theorem c160_4 : mj_Y.code kY 160 4 = some (.iload_n 0) ∧ ((0 : Fin 4) : Nat) = 0 ∧ 5 = 4 + 1 := by decide +kernel
theorem c160_5 : mj_Y.code kY 160 5 = some (.iload_n 1) ∧ ((1 : Fin 4) : Nat) = 1 ∧ 6 = 5 + 1 := by decide +kernel
theorem c160_6 : mj_Y.code kY 160 6 = some .ixor ∧ 7 = 6 + 1 := by decide +kernel
theorem c160_7 : mj_Y.code kY 160 7 = some (.ifCond .ge 11) ∧ mj_tg 7 11 = some 18 ∧ 10 = 7 + 3 := by decide +kernel
theorem c160_10 : mj_Y.code kY 160 10 = some (.iload_n 2) ∧ ((2 : Fin 4) : Nat) = 2 ∧ 11 = 10 + 1 := by decide +kernel
theorem c160_11 : mj_Y.code kY 160 11 = some (.ifCond .eq 7) ∧ mj_tg 11 7 = some 18 ∧ 14 = 11 + 3 := by decide +kernel
theorem c160_14 : mj_Y.code kY 160 14 = some (.iload_n 2) ∧ ((2 : Fin 4) : Nat) = 2 ∧ 15 = 14 + 1 := by decide +kernel
theorem c160_15 : mj_Y.code kY 160 15 = some (.iload_n 1) ∧ ((1 : Fin 4) : Nat) = 1 ∧ 16 = 15 + 1 := by decide +kernel
theorem c160_16 : mj_Y.code kY 160 16 = some .iadd ∧ 17 = 16 + 1 := by decide +kernel
theorem c160_17 : mj_Y.code kY 160 17 = some .ireturn ∧ mj_Y.rt kY 160 = some .int := by decide +kernel
theorem c160_18 : mj_Y.code kY 160 18 = some (.iload_n 2) ∧ ((2 : Fin 4) : Nat) = 2 ∧ 19 = 18 + 1 := by decide +kernel
theorem c160_19 : mj_Y.code kY 160 19 = some .ireturn ∧ mj_Y.rt kY 160 = some .int := by decide +kernel
theorem c161_0 : mj_Y.code kY 161 0 = some (.aload_n 0) ∧ ((0 : Fin 4) : Nat) = 0 ∧ 1 = 0 + 1 := by decide +kernel
theorem c161_1 : mj_Y.code kY 161 1 = some (.getfield 22) ∧ mj_Y.fl kY 161 22 3 = some (3, .int, true) ∧ 4 = 1 + 3 := by decide +kernel
theorem c161_4 : mj_Y.code kY 161 4 = some (.iconst 1) ∧ Int32.ofInt 1 = 1 ∧ 5 = 4 + 1 := by decide +kernel
theorem c161_5 : mj_Y.code kY 161 5 = some (.if_icmp .ge 4) ∧ mj_tg 5 4 = some 9 ∧ 8 = 5 + 3 := by decide +kernel
theorem c161_8 : mj_Y.code kY 161 8 = some .return_ ∧ mj_Y.rt kY 161 = none := by decide +kernel
theorem c161_9 : mj_Y.code kY 161 9 = some (.aload_n 0) ∧ ((0 : Fin 4) : Nat) = 0 ∧ 10 = 9 + 1 := by decide +kernel
theorem c161_10 : mj_Y.code kY 161 10 = some (.getfield 19) ∧ mj_Y.fl kY 161 19 3 = some (2, (.array .int), false) ∧ 13 = 10 + 3 := by decide +kernel
theorem c161_13 : mj_Y.code kY 161 13 = some (.aload_n 0) ∧ ((0 : Fin 4) : Nat) = 0 ∧ 14 = 13 + 1 := by decide +kernel
theorem c161_14 : mj_Y.code kY 161 14 = some (.getfield 22) ∧ mj_Y.fl kY 161 22 3 = some (3, .int, true) ∧ 17 = 14 + 3 := by decide +kernel
theorem c161_17 : mj_Y.code kY 161 17 = some (.iconst 1) ∧ Int32.ofInt 1 = 1 ∧ 18 = 17 + 1 := by decide +kernel
theorem c161_18 : mj_Y.code kY 161 18 = some .isub ∧ 19 = 18 + 1 := by decide +kernel
theorem c161_19 : mj_Y.code kY 161 19 = some .iaload ∧ 20 = 19 + 1 := by decide +kernel
theorem c161_20 : mj_Y.code kY 161 20 = some (.istore_n 1) ∧ ((1 : Fin 4) : Nat) = 1 ∧ 1 < mj_Y.nL kY 161 ∧ 21 = 20 + 1 := by decide +kernel
theorem c161_21 : mj_Y.code kY 161 21 = some (.iload_n 1) ∧ ((1 : Fin 4) : Nat) = 1 ∧ 22 = 21 + 1 := by decide +kernel
theorem c161_22 : mj_Y.code kY 161 22 = some (.aload_n 0) ∧ ((0 : Fin 4) : Nat) = 0 ∧ 23 = 22 + 1 := by decide +kernel
theorem c161_23 : mj_Y.code kY 161 23 = some (.getfield 19) ∧ mj_Y.fl kY 161 19 3 = some (2, (.array .int), false) ∧ 26 = 23 + 3 := by decide +kernel
theorem c161_26 : mj_Y.code kY 161 26 = some (.aload_n 0) ∧ ((0 : Fin 4) : Nat) = 0 ∧ 27 = 26 + 1 := by decide +kernel
theorem c161_27 : mj_Y.code kY 161 27 = some (.getfield 22) ∧ mj_Y.fl kY 161 22 3 = some (3, .int, true) ∧ 30 = 27 + 3 := by decide +kernel
theorem c161_30 : mj_Y.code kY 161 30 = some .iaload ∧ 31 = 30 + 1 := by decide +kernel
theorem c161_31 : mj_Y.code kY 161 31 = some (.if_icmp .ge 22) ∧ mj_tg 31 22 = some 53 ∧ 34 = 31 + 3 := by decide +kernel
theorem c161_34 : mj_Y.code kY 161 34 = some (.aload_n 0) ∧ ((0 : Fin 4) : Nat) = 0 ∧ 35 = 34 + 1 := by decide +kernel
theorem c161_35 : mj_Y.code kY 161 35 = some (.getfield 11) ∧ mj_Y.fl kY 161 11 3 = some (0, (.array .int), false) ∧ 38 = 35 + 3 := by decide +kernel
theorem c161_38 : mj_Y.code kY 161 38 = some (.iload_n 1) ∧ ((1 : Fin 4) : Nat) = 1 ∧ 39 = 38 + 1 := by decide +kernel
theorem c161_39 : mj_Y.code kY 161 39 = some (.aload_n 0) ∧ ((0 : Fin 4) : Nat) = 0 ∧ 40 = 39 + 1 := by decide +kernel
theorem c161_40 : mj_Y.code kY 161 40 = some (.getfield 11) ∧ mj_Y.fl kY 161 11 3 = some (0, (.array .int), false) ∧ 43 = 40 + 3 := by decide +kernel
theorem c161_43 : mj_Y.code kY 161 43 = some (.iload_n 1) ∧ ((1 : Fin 4) : Nat) = 1 ∧ 44 = 43 + 1 := by decide +kernel
theorem c161_44 : mj_Y.code kY 161 44 = some .iaload ∧ 45 = 44 + 1 := by decide +kernel
theorem c161_45 : mj_Y.code kY 161 45 = some .ineg ∧ 46 = 45 + 1 := by decide +kernel
theorem c161_46 : mj_Y.code kY 161 46 = some .iastore ∧ 47 = 46 + 1 := by decide +kernel
theorem c161_47 : mj_Y.code kY 161 47 = some (.iinc 1 1) ∧ 1 < mj_Y.nL kY 161 ∧ Int32.ofInt 1 = 1 ∧ 50 = 47 + 3 := by decide +kernel
theorem c161_50 : mj_Y.code kY 161 50 = some (.goto (-29)) ∧ mj_tg 50 (-29) = some 21 := by decide +kernel
theorem c161_53 : mj_Y.code kY 161 53 = some .return_ ∧ mj_Y.rt kY 161 = none := by decide +kernel
theorem c162_0 : mj_Y.code kY 162 0 = some (.lconst 0) ∧ Int64.ofNat ((0 : Fin 2) : Nat) = 0 ∧ 1 = 0 + 1 := by decide +kernel
theorem c162_1 : mj_Y.code kY 162 1 = some (.lstore_n 1) ∧ ((1 : Fin 4) : Nat) = 1 ∧ 1 + 1 < mj_Y.nL kY 162 ∧ 2 = 1 + 1 := by decide +kernel
theorem c162_2 : mj_Y.code kY 162 2 = some (.iconst 0) ∧ Int32.ofInt 0 = 0 ∧ 3 = 2 + 1 := by decide +kernel
theorem c162_3 : mj_Y.code kY 162 3 = some (.istore_n 3) ∧ ((3 : Fin 4) : Nat) = 3 ∧ 3 < mj_Y.nL kY 162 ∧ 4 = 3 + 1 := by decide +kernel
theorem c162_4 : mj_Y.code kY 162 4 = some (.iload_n 3) ∧ ((3 : Fin 4) : Nat) = 3 ∧ 5 = 4 + 1 := by decide +kernel
theorem c162_5 : mj_Y.code kY 162 5 = some (.aload_n 0) ∧ ((0 : Fin 4) : Nat) = 0 ∧ 6 = 5 + 1 := by decide +kernel
theorem c162_6 : mj_Y.code kY 162 6 = some (.getfield 19) ∧ mj_Y.fl kY 162 19 3 = some (2, (.array .int), false) ∧ 9 = 6 + 3 := by decide +kernel
theorem c162_9 : mj_Y.code kY 162 9 = some (.iconst 1) ∧ Int32.ofInt 1 = 1 ∧ 10 = 9 + 1 := by decide +kernel
theorem c162_10 : mj_Y.code kY 162 10 = some .iaload ∧ 11 = 10 + 1 := by decide +kernel
theorem c162_11 : mj_Y.code kY 162 11 = some (.if_icmp .ge 31) ∧ mj_tg 11 31 = some 42 ∧ 14 = 11 + 3 := by decide +kernel
theorem c162_14 : mj_Y.code kY 162 14 = some (.lload_n 1) ∧ ((1 : Fin 4) : Nat) = 1 ∧ 15 = 14 + 1 := by decide +kernel
theorem c162_15 : mj_Y.code kY 162 15 = some (.aload_n 0) ∧ ((0 : Fin 4) : Nat) = 0 ∧ 16 = 15 + 1 := by decide +kernel
theorem c162_16 : mj_Y.code kY 162 16 = some (.getfield 11) ∧ mj_Y.fl kY 162 11 3 = some (0, (.array .int), false) ∧ 19 = 16 + 3 := by decide +kernel
theorem c162_19 : mj_Y.code kY 162 19 = some (.iload_n 3) ∧ ((3 : Fin 4) : Nat) = 3 ∧ 20 = 19 + 1 := by decide +kernel
theorem c162_20 : mj_Y.code kY 162 20 = some .iaload ∧ 21 = 20 + 1 := by decide +kernel
theorem c162_21 : mj_Y.code kY 162 21 = some (.ifCond .eq 12) ∧ mj_tg 21 12 = some 33 ∧ 24 = 21 + 3 := by decide +kernel
theorem c162_24 : mj_Y.code kY 162 24 = some (.aload_n 0) ∧ ((0 : Fin 4) : Nat) = 0 ∧ 25 = 24 + 1 := by decide +kernel
theorem c162_25 : mj_Y.code kY 162 25 = some (.getfield 15) ∧ mj_Y.fl kY 162 15 3 = some (1, (.array .long), false) ∧ 28 = 25 + 3 := by decide +kernel
theorem c162_28 : mj_Y.code kY 162 28 = some (.iload_n 3) ∧ ((3 : Fin 4) : Nat) = 3 ∧ 29 = 28 + 1 := by decide +kernel
theorem c162_29 : mj_Y.code kY 162 29 = some .laload ∧ 30 = 29 + 1 := by decide +kernel
theorem c162_30 : mj_Y.code kY 162 30 = some (.goto 4) ∧ mj_tg 30 4 = some 34 := by decide +kernel
theorem c162_33 : mj_Y.code kY 162 33 = some (.lconst 0) ∧ Int64.ofNat ((0 : Fin 2) : Nat) = 0 ∧ 34 = 33 + 1 := by decide +kernel
theorem c162_34 : mj_Y.code kY 162 34 = some .ladd ∧ 35 = 34 + 1 := by decide +kernel
theorem c162_35 : mj_Y.code kY 162 35 = some (.lstore_n 1) ∧ ((1 : Fin 4) : Nat) = 1 ∧ 1 + 1 < mj_Y.nL kY 162 ∧ 36 = 35 + 1 := by decide +kernel
theorem c162_36 : mj_Y.code kY 162 36 = some (.iinc 3 1) ∧ 3 < mj_Y.nL kY 162 ∧ Int32.ofInt 1 = 1 ∧ 39 = 36 + 3 := by decide +kernel
theorem c162_39 : mj_Y.code kY 162 39 = some (.goto (-35)) ∧ mj_tg 39 (-35) = some 4 := by decide +kernel
theorem c162_42 : mj_Y.code kY 162 42 = some (.lload_n 1) ∧ ((1 : Fin 4) : Nat) = 1 ∧ 43 = 42 + 1 := by decide +kernel
theorem c162_43 : mj_Y.code kY 162 43 = some .lreturn ∧ mj_Y.rt kY 162 = some .long := by decide +kernel
theorem c163_0 : mj_Y.code kY 163 0 = some (.lload_n 3) ∧ ((3 : Fin 4) : Nat) = 3 ∧ 1 = 0 + 1 := by decide +kernel
theorem c163_1 : mj_Y.code kY 163 1 = some (.lconst 0) ∧ Int64.ofNat ((0 : Fin 2) : Nat) = 0 ∧ 2 = 1 + 1 := by decide +kernel
theorem c163_2 : mj_Y.code kY 163 2 = some .lcmp ∧ 3 = 2 + 1 := by decide +kernel
theorem c163_3 : mj_Y.code kY 163 3 = some (.ifCond .le 45) ∧ mj_tg 3 45 = some 48 ∧ 6 = 3 + 3 := by decide +kernel
theorem c163_6 : mj_Y.code kY 163 6 = some (.aload_n 0) ∧ ((0 : Fin 4) : Nat) = 0 ∧ 7 = 6 + 1 := by decide +kernel
theorem c163_7 : mj_Y.code kY 163 7 = some (.getfield 19) ∧ mj_Y.fl kY 163 19 2 = some (2, .int, true) ∧ 10 = 7 + 3 := by decide +kernel
theorem c163_10 : mj_Y.code kY 163 10 = some (.bipush 64) ∧ (Int8.ofInt 64).toInt32 = 64 ∧ 12 = 10 + 2 := by decide +kernel
theorem c163_12 : mj_Y.code kY 163 12 = some (.if_icmp .ge 36) ∧ mj_tg 12 36 = some 48 ∧ 15 = 12 + 3 := by decide +kernel
theorem c163_15 : mj_Y.code kY 163 15 = some (.aload_n 0) ∧ ((0 : Fin 4) : Nat) = 0 ∧ 16 = 15 + 1 := by decide +kernel
theorem c163_16 : mj_Y.code kY 163 16 = some (.aload_n 1) ∧ ((1 : Fin 4) : Nat) = 1 ∧ 17 = 16 + 1 := by decide +kernel
theorem c163_17 : mj_Y.code kY 163 17 = some (.iload_n 2) ∧ ((2 : Fin 4) : Nat) = 2 ∧ 18 = 17 + 1 := by decide +kernel
theorem c163_18 : mj_Y.code kY 163 18 = some (.invokevirtual 23) ∧ mj_Y.na kY 163 23 = some 2 ∧ mj_Y.cv kY 163 23 2 = some 164 ∧ mj_Y.nL kY 164 = 3 ∧ 21 = 18 + 3 := by decide +kernel
theorem c163_21 : mj_Y.code kY 163 21 = some (.aload_n 0) ∧ ((0 : Fin 4) : Nat) = 0 ∧ 22 = 21 + 1 := by decide +kernel
theorem c163_22 : mj_Y.code kY 163 22 = some (.getfield 15) ∧ mj_Y.fl kY 163 15 2 = some (1, (.array .long), true) ∧ 25 = 22 + 3 := by decide +kernel
theorem c163_25 : mj_Y.code kY 163 25 = some (.aload_n 0) ∧ ((0 : Fin 4) : Nat) = 0 ∧ 26 = 25 + 1 := by decide +kernel
theorem c163_26 : mj_Y.code kY 163 26 = some (.getfield 19) ∧ mj_Y.fl kY 163 19 2 = some (2, .int, true) ∧ 29 = 26 + 3 := by decide +kernel
theorem c163_29 : mj_Y.code kY 163 29 = some (.aload_n 1) ∧ ((1 : Fin 4) : Nat) = 1 ∧ 30 = 29 + 1 := by decide +kernel
theorem c163_30 : mj_Y.code kY 163 30 = some (.getfield 15) ∧ mj_Y.fl kY 163 15 2 = some (1, (.array .long), true) ∧ 33 = 30 + 3 := by decide +kernel
theorem c163_33 : mj_Y.code kY 163 33 = some (.iload_n 2) ∧ ((2 : Fin 4) : Nat) = 2 ∧ 34 = 33 + 1 := by decide +kernel
theorem c163_34 : mj_Y.code kY 163 34 = some .laload ∧ 35 = 34 + 1 := by decide +kernel
theorem c163_35 : mj_Y.code kY 163 35 = some (.lload_n 3) ∧ ((3 : Fin 4) : Nat) = 3 ∧ 36 = 35 + 1 := by decide +kernel
theorem c163_36 : mj_Y.code kY 163 36 = some .lmul ∧ 37 = 36 + 1 := by decide +kernel
theorem c163_37 : mj_Y.code kY 163 37 = some .lastore ∧ 38 = 37 + 1 := by decide +kernel
theorem c163_38 : mj_Y.code kY 163 38 = some (.aload_n 0) ∧ ((0 : Fin 4) : Nat) = 0 ∧ 39 = 38 + 1 := by decide +kernel
theorem c163_39 : mj_Y.code kY 163 39 = some .dup ∧ 40 = 39 + 1 := by decide +kernel
theorem c163_40 : mj_Y.code kY 163 40 = some (.getfield 19) ∧ mj_Y.fl kY 163 19 2 = some (2, .int, true) ∧ 43 = 40 + 3 := by decide +kernel
theorem c163_43 : mj_Y.code kY 163 43 = some (.iconst 1) ∧ Int32.ofInt 1 = 1 ∧ 44 = 43 + 1 := by decide +kernel
theorem c163_44 : mj_Y.code kY 163 44 = some .iadd ∧ 45 = 44 + 1 := by decide +kernel
theorem c163_45 : mj_Y.code kY 163 45 = some (.putfield 19) ∧ mj_Y.fl kY 163 19 2 = some (2, .int, true) ∧ 48 = 45 + 3 := by decide +kernel
theorem c163_48 : mj_Y.code kY 163 48 = some .return_ ∧ mj_Y.rt kY 163 = none := by decide +kernel
theorem c164_0 : mj_Y.code kY 164 0 = some (.aload_n 1) ∧ ((1 : Fin 4) : Nat) = 1 ∧ 1 = 0 + 1 := by decide +kernel
theorem c164_1 : mj_Y.code kY 164 1 = some (.getfield 9) ∧ mj_Y.fl kY 164 9 2 = some (0, (.array .int), true) ∧ 4 = 1 + 3 := by decide +kernel
theorem c164_4 : mj_Y.code kY 164 4 = some (.iload_n 2) ∧ ((2 : Fin 4) : Nat) = 2 ∧ 5 = 4 + 1 := by decide +kernel
theorem c164_5 : mj_Y.code kY 164 5 = some (.bipush 6) ∧ (Int8.ofInt 6).toInt32 = 6 ∧ 7 = 5 + 2 := by decide +kernel
theorem c164_7 : mj_Y.code kY 164 7 = some .imul ∧ 8 = 7 + 1 := by decide +kernel
theorem c164_8 : mj_Y.code kY 164 8 = some (.aload_n 0) ∧ ((0 : Fin 4) : Nat) = 0 ∧ 9 = 8 + 1 := by decide +kernel
theorem c164_9 : mj_Y.code kY 164 9 = some (.getfield 9) ∧ mj_Y.fl kY 164 9 2 = some (0, (.array .int), true) ∧ 12 = 9 + 3 := by decide +kernel
theorem c164_12 : mj_Y.code kY 164 12 = some (.aload_n 0) ∧ ((0 : Fin 4) : Nat) = 0 ∧ 13 = 12 + 1 := by decide +kernel
theorem c164_13 : mj_Y.code kY 164 13 = some (.getfield 19) ∧ mj_Y.fl kY 164 19 2 = some (2, .int, true) ∧ 16 = 13 + 3 := by decide +kernel
theorem c164_16 : mj_Y.code kY 164 16 = some (.bipush 6) ∧ (Int8.ofInt 6).toInt32 = 6 ∧ 18 = 16 + 2 := by decide +kernel
theorem c164_18 : mj_Y.code kY 164 18 = some .imul ∧ 19 = 18 + 1 := by decide +kernel
theorem c164_19 : mj_Y.code kY 164 19 = some (.bipush 6) ∧ (Int8.ofInt 6).toInt32 = 6 ∧ 21 = 19 + 2 := by decide +kernel
theorem c164_21 : mj_Y.code kY 164 21 = some (.invokestatic 31) ∧ mj_Y.pr kY 164 31 = some 0 ∧ 24 = 21 + 3 := by decide +kernel
theorem c164_24 : mj_Y.code kY 164 24 = some .return_ ∧ mj_Y.rt kY 164 = none := by decide +kernel
theorem c165_0 : mj_Y.code kY 165 0 = some (.aload_n 1) ∧ ((1 : Fin 4) : Nat) = 1 ∧ 1 = 0 + 1 := by decide +kernel
theorem c165_1 : mj_Y.code kY 165 1 = some (.getfield 9) ∧ mj_Y.fl kY 165 9 2 = some (0, (.array .int), true) ∧ 4 = 1 + 3 := by decide +kernel
theorem c165_4 : mj_Y.code kY 165 4 = some (.astore_n 2) ∧ ((2 : Fin 4) : Nat) = 2 ∧ 2 < mj_Y.nL kY 165 ∧ 5 = 4 + 1 := by decide +kernel
theorem c165_5 : mj_Y.code kY 165 5 = some (.aload_n 1) ∧ ((1 : Fin 4) : Nat) = 1 ∧ 6 = 5 + 1 := by decide +kernel
theorem c165_6 : mj_Y.code kY 165 6 = some (.getfield 15) ∧ mj_Y.fl kY 165 15 2 = some (1, (.array .long), true) ∧ 9 = 6 + 3 := by decide +kernel
theorem c165_9 : mj_Y.code kY 165 9 = some (.astore_n 3) ∧ ((3 : Fin 4) : Nat) = 3 ∧ 3 < mj_Y.nL kY 165 ∧ 10 = 9 + 1 := by decide +kernel
theorem c165_10 : mj_Y.code kY 165 10 = some (.aload_n 1) ∧ ((1 : Fin 4) : Nat) = 1 ∧ 11 = 10 + 1 := by decide +kernel
theorem c165_11 : mj_Y.code kY 165 11 = some (.getfield 19) ∧ mj_Y.fl kY 165 19 2 = some (2, .int, true) ∧ 14 = 11 + 3 := by decide +kernel
theorem c165_14 : mj_Y.code kY 165 14 = some (.istore 4) ∧ 4 = 4 ∧ 4 < mj_Y.nL kY 165 ∧ 16 = 14 + 2 := by decide +kernel
theorem c165_16 : mj_Y.code kY 165 16 = some (.aload_n 1) ∧ ((1 : Fin 4) : Nat) = 1 ∧ 17 = 16 + 1 := by decide +kernel
theorem c165_17 : mj_Y.code kY 165 17 = some (.aload_n 0) ∧ ((0 : Fin 4) : Nat) = 0 ∧ 18 = 17 + 1 := by decide +kernel
theorem c165_18 : mj_Y.code kY 165 18 = some (.getfield 9) ∧ mj_Y.fl kY 165 9 2 = some (0, (.array .int), true) ∧ 21 = 18 + 3 := by decide +kernel
theorem c165_21 : mj_Y.code kY 165 21 = some (.putfield 9) ∧ mj_Y.fl kY 165 9 2 = some (0, (.array .int), true) ∧ 24 = 21 + 3 := by decide +kernel
theorem c165_24 : mj_Y.code kY 165 24 = some (.aload_n 1) ∧ ((1 : Fin 4) : Nat) = 1 ∧ 25 = 24 + 1 := by decide +kernel
theorem c165_25 : mj_Y.code kY 165 25 = some (.aload_n 0) ∧ ((0 : Fin 4) : Nat) = 0 ∧ 26 = 25 + 1 := by decide +kernel
theorem c165_26 : mj_Y.code kY 165 26 = some (.getfield 15) ∧ mj_Y.fl kY 165 15 2 = some (1, (.array .long), true) ∧ 29 = 26 + 3 := by decide +kernel
theorem c165_29 : mj_Y.code kY 165 29 = some (.putfield 15) ∧ mj_Y.fl kY 165 15 2 = some (1, (.array .long), true) ∧ 32 = 29 + 3 := by decide +kernel
theorem c165_32 : mj_Y.code kY 165 32 = some (.aload_n 1) ∧ ((1 : Fin 4) : Nat) = 1 ∧ 33 = 32 + 1 := by decide +kernel
theorem c165_33 : mj_Y.code kY 165 33 = some (.aload_n 0) ∧ ((0 : Fin 4) : Nat) = 0 ∧ 34 = 33 + 1 := by decide +kernel
theorem c165_34 : mj_Y.code kY 165 34 = some (.getfield 19) ∧ mj_Y.fl kY 165 19 2 = some (2, .int, true) ∧ 37 = 34 + 3 := by decide +kernel
theorem c165_37 : mj_Y.code kY 165 37 = some (.putfield 19) ∧ mj_Y.fl kY 165 19 2 = some (2, .int, true) ∧ 40 = 37 + 3 := by decide +kernel
theorem c165_40 : mj_Y.code kY 165 40 = some (.aload_n 0) ∧ ((0 : Fin 4) : Nat) = 0 ∧ 41 = 40 + 1 := by decide +kernel
theorem c165_41 : mj_Y.code kY 165 41 = some (.aload_n 2) ∧ ((2 : Fin 4) : Nat) = 2 ∧ 42 = 41 + 1 := by decide +kernel
theorem c165_42 : mj_Y.code kY 165 42 = some (.putfield 9) ∧ mj_Y.fl kY 165 9 2 = some (0, (.array .int), true) ∧ 45 = 42 + 3 := by decide +kernel
theorem c165_45 : mj_Y.code kY 165 45 = some (.aload_n 0) ∧ ((0 : Fin 4) : Nat) = 0 ∧ 46 = 45 + 1 := by decide +kernel
theorem c165_46 : mj_Y.code kY 165 46 = some (.aload_n 3) ∧ ((3 : Fin 4) : Nat) = 3 ∧ 47 = 46 + 1 := by decide +kernel
theorem c165_47 : mj_Y.code kY 165 47 = some (.putfield 15) ∧ mj_Y.fl kY 165 15 2 = some (1, (.array .long), true) ∧ 50 = 47 + 3 := by decide +kernel
theorem c165_50 : mj_Y.code kY 165 50 = some (.aload_n 0) ∧ ((0 : Fin 4) : Nat) = 0 ∧ 51 = 50 + 1 := by decide +kernel
theorem c165_51 : mj_Y.code kY 165 51 = some (.iload 4) ∧ 4 = 4 ∧ 53 = 51 + 2 := by decide +kernel
theorem c165_53 : mj_Y.code kY 165 53 = some (.putfield 19) ∧ mj_Y.fl kY 165 19 2 = some (2, .int, true) ∧ 56 = 53 + 3 := by decide +kernel
theorem c165_56 : mj_Y.code kY 165 56 = some .return_ ∧ mj_Y.rt kY 165 = none := by decide +kernel
theorem c166_0 : mj_Y.code kY 166 0 = some (.iload_n 3) ∧ ((3 : Fin 4) : Nat) = 3 ∧ 1 = 0 + 1 := by decide +kernel
theorem c166_1 : mj_Y.code kY 166 1 = some (.ifCond .lt 8) ∧ mj_tg 1 8 = some 9 ∧ 4 = 1 + 3 := by decide +kernel
theorem c166_4 : mj_Y.code kY 166 4 = some (.iload_n 3) ∧ ((3 : Fin 4) : Nat) = 3 ∧ 5 = 4 + 1 := by decide +kernel
theorem c166_5 : mj_Y.code kY 166 5 = some (.iconst 4) ∧ Int32.ofInt 4 = 4 ∧ 6 = 5 + 1 := by decide +kernel
theorem c166_6 : mj_Y.code kY 166 6 = some (.if_icmp .lt 6) ∧ mj_tg 6 6 = some 12 ∧ 9 = 6 + 3 := by decide +kernel
theorem c166_9 : mj_Y.code kY 166 9 = some (.bipush (-2)) ∧ (Int8.ofInt (-2)).toInt32 = (-2) ∧ 11 = 9 + 2 := by decide +kernel
theorem c166_11 : mj_Y.code kY 166 11 = some .ireturn ∧ mj_Y.rt kY 166 = some .int := by decide +kernel
theorem c166_12 : mj_Y.code kY 166 12 = some (.aload_n 2) ∧ ((2 : Fin 4) : Nat) = 2 ∧ 13 = 12 + 1 := by decide +kernel
theorem c166_13 : mj_Y.code kY 166 13 = some (.getfield 145) ∧ mj_Y.fl kY 166 145 3 = some (10, (.array (.object "DiceOdds$States")), false) ∧ 16 = 13 + 3 := by decide +kernel
theorem c166_16 : mj_Y.code kY 166 16 = some (.iload_n 3) ∧ ((3 : Fin 4) : Nat) = 3 ∧ 17 = 16 + 1 := by decide +kernel
theorem c166_17 : mj_Y.code kY 166 17 = some .aaload ∧ 18 = 17 + 1 := by decide +kernel
theorem c166_18 : mj_Y.code kY 166 18 = some (.astore 4) ∧ 4 = 4 ∧ 4 < mj_Y.nL kY 166 ∧ 20 = 18 + 2 := by decide +kernel
theorem c166_20 : mj_Y.code kY 166 20 = some (.aload_n 2) ∧ ((2 : Fin 4) : Nat) = 2 ∧ 21 = 20 + 1 := by decide +kernel
theorem c166_21 : mj_Y.code kY 166 21 = some (.getfield 149) ∧ mj_Y.fl kY 166 149 3 = some (11, (.array (.object "DiceOdds$States")), false) ∧ 24 = 21 + 3 := by decide +kernel
theorem c166_24 : mj_Y.code kY 166 24 = some (.iload_n 3) ∧ ((3 : Fin 4) : Nat) = 3 ∧ 25 = 24 + 1 := by decide +kernel
theorem c166_25 : mj_Y.code kY 166 25 = some .aaload ∧ 26 = 25 + 1 := by decide +kernel
theorem c166_26 : mj_Y.code kY 166 26 = some (.astore 5) ∧ 5 = 5 ∧ 5 < mj_Y.nL kY 166 ∧ 28 = 26 + 2 := by decide +kernel
theorem c166_28 : mj_Y.code kY 166 28 = some (.aload 4) ∧ 4 = 4 ∧ 30 = 28 + 2 := by decide +kernel
theorem c166_30 : mj_Y.code kY 166 30 = some (.invokevirtual 123) ∧ mj_Y.na kY 166 123 = some 0 ∧ mj_Y.cv kY 166 123 2 = some 136 ∧ mj_Y.nL kY 136 = 1 ∧ 33 = 30 + 3 := by decide +kernel
theorem c166_33 : mj_Y.code kY 166 33 = some (.aload 5) ∧ 5 = 5 ∧ 35 = 33 + 2 := by decide +kernel
theorem c166_35 : mj_Y.code kY 166 35 = some (.invokevirtual 123) ∧ mj_Y.na kY 166 123 = some 0 ∧ mj_Y.cv kY 166 123 2 = some 136 ∧ mj_Y.nL kY 136 = 1 ∧ 38 = 35 + 3 := by decide +kernel
theorem c166_38 : mj_Y.code kY 166 38 = some (.iconst 0) ∧ Int32.ofInt 0 = 0 ∧ 39 = 38 + 1 := by decide +kernel
theorem c166_39 : mj_Y.code kY 166 39 = some (.istore 6) ∧ 6 = 6 ∧ 6 < mj_Y.nL kY 166 ∧ 41 = 39 + 2 := by decide +kernel
theorem c166_41 : mj_Y.code kY 166 41 = some (.iload 6) ∧ 6 = 6 ∧ 43 = 41 + 2 := by decide +kernel
theorem c166_43 : mj_Y.code kY 166 43 = some (.aload_n 1) ∧ ((1 : Fin 4) : Nat) = 1 ∧ 44 = 43 + 1 := by decide +kernel
theorem c166_44 : mj_Y.code kY 166 44 = some (.getfield 86) ∧ mj_Y.fl kY 166 86 2 = some (2, .int, true) ∧ 47 = 44 + 3 := by decide +kernel
theorem c166_47 : mj_Y.code kY 166 47 = some (.if_icmp .ge 59) ∧ mj_tg 47 59 = some 106 ∧ 50 = 47 + 3 := by decide +kernel
theorem c166_50 : mj_Y.code kY 166 50 = some (.aload_n 2) ∧ ((2 : Fin 4) : Nat) = 2 ∧ 51 = 50 + 1 := by decide +kernel
theorem c166_51 : mj_Y.code kY 166 51 = some (.aload_n 0) ∧ ((0 : Fin 4) : Nat) = 0 ∧ 52 = 51 + 1 := by decide +kernel
theorem c166_52 : mj_Y.code kY 166 52 = some (.getfield 19) ∧ mj_Y.fl kY 166 19 11 = some (1, (.object "DiceOdds$Expression"), false) ∧ 55 = 52 + 3 := by decide +kernel
theorem c166_55 : mj_Y.code kY 166 55 = some (.aload_n 1) ∧ ((1 : Fin 4) : Nat) = 1 ∧ 56 = 55 + 1 := by decide +kernel
theorem c166_56 : mj_Y.code kY 166 56 = some (.iload 6) ∧ 6 = 6 ∧ 58 = 56 + 2 := by decide +kernel
theorem c166_58 : mj_Y.code kY 166 58 = some (.invokevirtual 126) ∧ mj_Y.na kY 166 126 = some 3 ∧ mj_Y.cv kY 166 126 3 = some 141 ∧ mj_Y.nL kY 141 = 4 ∧ 61 = 58 + 3 := by decide +kernel
theorem c166_61 : mj_Y.code kY 166 61 = some (.ifCond .ne 5) ∧ mj_tg 61 5 = some 66 ∧ 64 = 61 + 3 := by decide +kernel
theorem c166_64 : mj_Y.code kY 166 64 = some (.iconst (-1)) ∧ Int32.ofInt (-1) = (-1) ∧ 65 = 64 + 1 := by decide +kernel
theorem c166_65 : mj_Y.code kY 166 65 = some .ireturn ∧ mj_Y.rt kY 166 = some .int := by decide +kernel
theorem c166_66 : mj_Y.code kY 166 66 = some (.aload_n 2) ∧ ((2 : Fin 4) : Nat) = 2 ∧ 67 = 66 + 1 := by decide +kernel
theorem c166_67 : mj_Y.code kY 166 67 = some (.invokevirtual 138) ∧ mj_Y.na kY 166 138 = some 0 ∧ mj_Y.cv kY 166 138 3 = some 162 ∧ mj_Y.nL kY 162 = 4 ∧ 70 = 67 + 3 := by decide +kernel
theorem c166_70 : mj_Y.code kY 166 70 = some (.lstore 7) ∧ 7 = 7 ∧ 7 + 1 < mj_Y.nL kY 166 ∧ 72 = 70 + 2 := by decide +kernel
theorem c166_72 : mj_Y.code kY 166 72 = some (.aload 4) ∧ 4 = 4 ∧ 74 = 72 + 2 := by decide +kernel
theorem c166_74 : mj_Y.code kY 166 74 = some (.aload_n 1) ∧ ((1 : Fin 4) : Nat) = 1 ∧ 75 = 74 + 1 := by decide +kernel
theorem c166_75 : mj_Y.code kY 166 75 = some (.iload 6) ∧ 6 = 6 ∧ 77 = 75 + 2 := by decide +kernel
theorem c166_77 : mj_Y.code kY 166 77 = some (.lload 7) ∧ 7 = 7 ∧ 79 = 77 + 2 := by decide +kernel
theorem c166_79 : mj_Y.code kY 166 79 = some (.invokevirtual 142) ∧ mj_Y.na kY 166 142 = some 3 ∧ mj_Y.cv kY 166 142 2 = some 163 ∧ mj_Y.nL kY 163 = 5 ∧ 82 = 79 + 3 := by decide +kernel
theorem c166_82 : mj_Y.code kY 166 82 = some (.aload 5) ∧ 5 = 5 ∧ 84 = 82 + 2 := by decide +kernel
theorem c166_84 : mj_Y.code kY 166 84 = some (.aload_n 1) ∧ ((1 : Fin 4) : Nat) = 1 ∧ 85 = 84 + 1 := by decide +kernel
theorem c166_85 : mj_Y.code kY 166 85 = some (.iload 6) ∧ 6 = 6 ∧ 87 = 85 + 2 := by decide +kernel
theorem c166_87 : mj_Y.code kY 166 87 = some (.aload_n 0) ∧ ((0 : Fin 4) : Nat) = 0 ∧ 88 = 87 + 1 := by decide +kernel
theorem c166_88 : mj_Y.code kY 166 88 = some (.getfield 19) ∧ mj_Y.fl kY 166 19 11 = some (1, (.object "DiceOdds$Expression"), false) ∧ 91 = 88 + 3 := by decide +kernel
theorem c166_91_t : ∀ c n, df c = some n → mj_Y.fl kY 166 55 c = some (n, .long, false) := by
  intro c n h
  have hc : c = 6 ∨ c = 7 ∨ c = 8 ∨ c = 9 ∨ c = 10 := df_c h
  rcases hc with rfl | rfl | rfl | rfl | rfl <;> (cases h; decide +kernel)
theorem c166_91 : mj_Y.code kY 166 91 = some (.getfield 55) ∧ 94 = 91 + 3 := by decide +kernel
theorem c166_94 : mj_Y.code kY 166 94 = some (.lload 7) ∧ 7 = 7 ∧ 96 = 94 + 2 := by decide +kernel
theorem c166_96 : mj_Y.code kY 166 96 = some .lsub ∧ 97 = 96 + 1 := by decide +kernel
theorem c166_97 : mj_Y.code kY 166 97 = some (.invokevirtual 142) ∧ mj_Y.na kY 166 142 = some 3 ∧ mj_Y.cv kY 166 142 2 = some 163 ∧ mj_Y.nL kY 163 = 5 ∧ 100 = 97 + 3 := by decide +kernel
theorem c166_100 : mj_Y.code kY 166 100 = some (.iinc 6 1) ∧ 6 < mj_Y.nL kY 166 ∧ Int32.ofInt 1 = 1 ∧ 103 = 100 + 3 := by decide +kernel
theorem c166_103 : mj_Y.code kY 166 103 = some (.goto (-62)) ∧ mj_tg 103 (-62) = some 41 := by decide +kernel
theorem c166_106 : mj_Y.code kY 166 106 = some (.aload_n 0) ∧ ((0 : Fin 4) : Nat) = 0 ∧ 107 = 106 + 1 := by decide +kernel
theorem c166_107 : mj_Y.code kY 166 107 = some (.getfield 27) ∧ mj_Y.fl kY 166 27 11 = some (3, (.object "DiceOdds$Statement"), false) ∧ 110 = 107 + 3 := by decide +kernel
theorem c166_110 : mj_Y.code kY 166 110 = some (.aload 4) ∧ 4 = 4 ∧ 112 = 110 + 2 := by decide +kernel
theorem c166_112 : mj_Y.code kY 166 112 = some (.aload_n 2) ∧ ((2 : Fin 4) : Nat) = 2 ∧ 113 = 112 + 1 := by decide +kernel
theorem c166_113 : mj_Y.code kY 166 113 = some (.iload_n 3) ∧ ((3 : Fin 4) : Nat) = 3 ∧ 114 = 113 + 1 := by decide +kernel
theorem c166_114 : mj_Y.code kY 166 114 = some (.iconst 1) ∧ Int32.ofInt 1 = 1 ∧ 115 = 114 + 1 := by decide +kernel
theorem c166_115 : mj_Y.code kY 166 115 = some .iadd ∧ 116 = 115 + 1 := by decide +kernel
theorem c166_116 : mj_Y.code kY 166 116 = some (.invokestatic 152) ∧ mj_Y.pr kY 166 152 = none ∧ mj_Y.cs kY 166 152 = some (138, 4) ∧ mj_Y.nL kY 138 = 6 ∧ 119 = 116 + 3 := by decide +kernel
theorem c166_119 : mj_Y.code kY 166 119 = some (.istore 6) ∧ 6 = 6 ∧ 6 < mj_Y.nL kY 166 ∧ 121 = 119 + 2 := by decide +kernel
theorem c166_121 : mj_Y.code kY 166 121 = some (.iload 6) ∧ 6 = 6 ∧ 123 = 121 + 2 := by decide +kernel
theorem c166_123 : mj_Y.code kY 166 123 = some (.ifCond .ne 18) ∧ mj_tg 123 18 = some 141 ∧ 126 = 123 + 3 := by decide +kernel
theorem c166_126 : mj_Y.code kY 166 126 = some (.aload_n 0) ∧ ((0 : Fin 4) : Nat) = 0 ∧ 127 = 126 + 1 := by decide +kernel
theorem c166_127 : mj_Y.code kY 166 127 = some (.getfield 30) ∧ mj_Y.fl kY 166 30 11 = some (4, (.object "DiceOdds$Statement"), false) ∧ 130 = 127 + 3 := by decide +kernel
theorem c166_130 : mj_Y.code kY 166 130 = some (.aload 5) ∧ 5 = 5 ∧ 132 = 130 + 2 := by decide +kernel
theorem c166_132 : mj_Y.code kY 166 132 = some (.aload_n 2) ∧ ((2 : Fin 4) : Nat) = 2 ∧ 133 = 132 + 1 := by decide +kernel
theorem c166_133 : mj_Y.code kY 166 133 = some (.iload_n 3) ∧ ((3 : Fin 4) : Nat) = 3 ∧ 134 = 133 + 1 := by decide +kernel
theorem c166_134 : mj_Y.code kY 166 134 = some (.iconst 1) ∧ Int32.ofInt 1 = 1 ∧ 135 = 134 + 1 := by decide +kernel
theorem c166_135 : mj_Y.code kY 166 135 = some .iadd ∧ 136 = 135 + 1 := by decide +kernel
theorem c166_136 : mj_Y.code kY 166 136 = some (.invokestatic 152) ∧ mj_Y.pr kY 166 152 = none ∧ mj_Y.cs kY 166 152 = some (138, 4) ∧ mj_Y.nL kY 138 = 6 ∧ 139 = 136 + 3 := by decide +kernel
theorem c166_139 : mj_Y.code kY 166 139 = some (.istore 6) ∧ 6 = 6 ∧ 6 < mj_Y.nL kY 166 ∧ 141 = 139 + 2 := by decide +kernel
theorem c166_141 : mj_Y.code kY 166 141 = some (.iload 6) ∧ 6 = 6 ∧ 143 = 141 + 2 := by decide +kernel
theorem c166_143 : mj_Y.code kY 166 143 = some (.ifCond .eq 6) ∧ mj_tg 143 6 = some 149 ∧ 146 = 143 + 3 := by decide +kernel
theorem c166_146 : mj_Y.code kY 166 146 = some (.iload 6) ∧ 6 = 6 ∧ 148 = 146 + 2 := by decide +kernel
theorem c166_148 : mj_Y.code kY 166 148 = some .ireturn ∧ mj_Y.rt kY 166 = some .int := by decide +kernel
theorem c166_149 : mj_Y.code kY 166 149 = some (.aload_n 1) ∧ ((1 : Fin 4) : Nat) = 1 ∧ 150 = 149 + 1 := by decide +kernel
theorem c166_150 : mj_Y.code kY 166 150 = some (.invokevirtual 123) ∧ mj_Y.na kY 166 123 = some 0 ∧ mj_Y.cv kY 166 123 2 = some 136 ∧ mj_Y.nL kY 136 = 1 ∧ 153 = 150 + 3 := by decide +kernel
theorem c166_153 : mj_Y.code kY 166 153 = some (.aload_n 1) ∧ ((1 : Fin 4) : Nat) = 1 ∧ 154 = 153 + 1 := by decide +kernel
theorem c166_154 : mj_Y.code kY 166 154 = some (.aload 4) ∧ 4 = 4 ∧ 156 = 154 + 2 := by decide +kernel
theorem c166_156 : mj_Y.code kY 166 156 = some (.aload_n 0) ∧ ((0 : Fin 4) : Nat) = 0 ∧ 157 = 156 + 1 := by decide +kernel
theorem c166_157 : mj_Y.code kY 166 157 = some (.getfield 44) ∧ mj_Y.fl kY 166 44 11 = some (6, .long, false) ∧ 160 = 157 + 3 := by decide +kernel
theorem c166_160 : mj_Y.code kY 166 160 = some (.invokevirtual 156) ∧ mj_Y.na kY 166 156 = some 2 ∧ mj_Y.cv kY 166 156 2 = some 167 ∧ mj_Y.nL kY 167 = 6 ∧ 163 = 160 + 3 := by decide +kernel
theorem c166_163 : mj_Y.code kY 166 163 = some (.ifCond .eq 20) ∧ mj_tg 163 20 = some 183 ∧ 166 = 163 + 3 := by decide +kernel
theorem c166_166 : mj_Y.code kY 166 166 = some (.aload_n 1) ∧ ((1 : Fin 4) : Nat) = 1 ∧ 167 = 166 + 1 := by decide +kernel
theorem c166_167 : mj_Y.code kY 166 167 = some (.aload 5) ∧ 5 = 5 ∧ 169 = 167 + 2 := by decide +kernel
theorem c166_169 : mj_Y.code kY 166 169 = some (.aload_n 0) ∧ ((0 : Fin 4) : Nat) = 0 ∧ 170 = 169 + 1 := by decide +kernel
theorem c166_170 : mj_Y.code kY 166 170 = some (.getfield 48) ∧ mj_Y.fl kY 166 48 11 = some (7, .long, false) ∧ 173 = 170 + 3 := by decide +kernel
theorem c166_173 : mj_Y.code kY 166 173 = some (.invokevirtual 156) ∧ mj_Y.na kY 166 156 = some 2 ∧ mj_Y.cv kY 166 156 2 = some 167 ∧ mj_Y.nL kY 167 = 6 ∧ 176 = 173 + 3 := by decide +kernel
theorem c166_176 : mj_Y.code kY 166 176 = some (.ifCond .eq 7) ∧ mj_tg 176 7 = some 183 ∧ 179 = 176 + 3 := by decide +kernel
theorem c166_179 : mj_Y.code kY 166 179 = some (.iconst 0) ∧ Int32.ofInt 0 = 0 ∧ 180 = 179 + 1 := by decide +kernel
theorem c166_180 : mj_Y.code kY 166 180 = some (.goto 5) ∧ mj_tg 180 5 = some 185 := by decide +kernel
theorem c166_183 : mj_Y.code kY 166 183 = some (.bipush (-2)) ∧ (Int8.ofInt (-2)).toInt32 = (-2) ∧ 185 = 183 + 2 := by decide +kernel
theorem c166_185 : mj_Y.code kY 166 185 = some .ireturn ∧ mj_Y.rt kY 166 = some .int := by decide +kernel
theorem c167_0 : mj_Y.code kY 167 0 = some (.iconst 1) ∧ Int32.ofInt 1 = 1 ∧ 1 = 0 + 1 := by decide +kernel
theorem c167_1 : mj_Y.code kY 167 1 = some (.istore 4) ∧ 4 = 4 ∧ 4 < mj_Y.nL kY 167 ∧ 3 = 1 + 2 := by decide +kernel
theorem c167_3 : mj_Y.code kY 167 3 = some (.iconst 0) ∧ Int32.ofInt 0 = 0 ∧ 4 = 3 + 1 := by decide +kernel
theorem c167_4 : mj_Y.code kY 167 4 = some (.istore 5) ∧ 5 = 5 ∧ 5 < mj_Y.nL kY 167 ∧ 6 = 4 + 2 := by decide +kernel
theorem c167_6 : mj_Y.code kY 167 6 = some (.iload 5) ∧ 5 = 5 ∧ 8 = 6 + 2 := by decide +kernel
theorem c167_8 : mj_Y.code kY 167 8 = some (.aload_n 1) ∧ ((1 : Fin 4) : Nat) = 1 ∧ 9 = 8 + 1 := by decide +kernel
theorem c167_9 : mj_Y.code kY 167 9 = some (.getfield 19) ∧ mj_Y.fl kY 167 19 2 = some (2, .int, true) ∧ 12 = 9 + 3 := by decide +kernel
theorem c167_12 : mj_Y.code kY 167 12 = some (.if_icmp .ge 36) ∧ mj_tg 12 36 = some 48 ∧ 15 = 12 + 3 := by decide +kernel
theorem c167_15 : mj_Y.code kY 167 15 = some (.iload 4) ∧ 4 = 4 ∧ 17 = 15 + 2 := by decide +kernel
theorem c167_17 : mj_Y.code kY 167 17 = some (.ifCond .eq 31) ∧ mj_tg 17 31 = some 48 ∧ 20 = 17 + 3 := by decide +kernel
theorem c167_20 : mj_Y.code kY 167 20 = some (.aload_n 0) ∧ ((0 : Fin 4) : Nat) = 0 ∧ 21 = 20 + 1 := by decide +kernel
theorem c167_21 : mj_Y.code kY 167 21 = some (.aload_n 1) ∧ ((1 : Fin 4) : Nat) = 1 ∧ 22 = 21 + 1 := by decide +kernel
theorem c167_22 : mj_Y.code kY 167 22 = some (.iload 5) ∧ 5 = 5 ∧ 24 = 22 + 2 := by decide +kernel
theorem c167_24 : mj_Y.code kY 167 24 = some (.invokevirtual 23) ∧ mj_Y.na kY 167 23 = some 2 ∧ mj_Y.cv kY 167 23 2 = some 164 ∧ mj_Y.nL kY 164 = 3 ∧ 27 = 24 + 3 := by decide +kernel
theorem c167_27 : mj_Y.code kY 167 27 = some (.aload_n 0) ∧ ((0 : Fin 4) : Nat) = 0 ∧ 28 = 27 + 1 := by decide +kernel
theorem c167_28 : mj_Y.code kY 167 28 = some (.aload_n 1) ∧ ((1 : Fin 4) : Nat) = 1 ∧ 29 = 28 + 1 := by decide +kernel
theorem c167_29 : mj_Y.code kY 167 29 = some (.getfield 15) ∧ mj_Y.fl kY 167 15 2 = some (1, (.array .long), true) ∧ 32 = 29 + 3 := by decide +kernel
theorem c167_32 : mj_Y.code kY 167 32 = some (.iload 5) ∧ 5 = 5 ∧ 34 = 32 + 2 := by decide +kernel
theorem c167_34 : mj_Y.code kY 167 34 = some .laload ∧ 35 = 34 + 1 := by decide +kernel
theorem c167_35 : mj_Y.code kY 167 35 = some (.lload_n 2) ∧ ((2 : Fin 4) : Nat) = 2 ∧ 36 = 35 + 1 := by decide +kernel
theorem c167_36 : mj_Y.code kY 167 36 = some .lmul ∧ 37 = 36 + 1 := by decide +kernel
theorem c167_37 : mj_Y.code kY 167 37 = some (.invokevirtual 27) ∧ mj_Y.na kY 167 27 = some 1 ∧ mj_Y.cv kY 167 27 2 = some 168 ∧ mj_Y.nL kY 168 = 4 ∧ 40 = 37 + 3 := by decide +kernel
theorem c167_40 : mj_Y.code kY 167 40 = some (.istore 4) ∧ 4 = 4 ∧ 4 < mj_Y.nL kY 167 ∧ 42 = 40 + 2 := by decide +kernel
theorem c167_42 : mj_Y.code kY 167 42 = some (.iinc 5 1) ∧ 5 < mj_Y.nL kY 167 ∧ Int32.ofInt 1 = 1 ∧ 45 = 42 + 3 := by decide +kernel
theorem c167_45 : mj_Y.code kY 167 45 = some (.goto (-39)) ∧ mj_tg 45 (-39) = some 6 := by decide +kernel
theorem c167_48 : mj_Y.code kY 167 48 = some (.iload 4) ∧ 4 = 4 ∧ 50 = 48 + 2 := by decide +kernel
theorem c167_50 : mj_Y.code kY 167 50 = some .ireturn ∧ mj_Y.rt kY 167 = some .boolean := by decide +kernel
theorem c168_0 : mj_Y.code kY 168 0 = some (.iconst 0) ∧ Int32.ofInt 0 = 0 ∧ 1 = 0 + 1 := by decide +kernel
theorem c168_1 : mj_Y.code kY 168 1 = some (.istore_n 3) ∧ ((3 : Fin 4) : Nat) = 3 ∧ 3 < mj_Y.nL kY 168 ∧ 2 = 1 + 1 := by decide +kernel
theorem c168_2 : mj_Y.code kY 168 2 = some (.iload_n 3) ∧ ((3 : Fin 4) : Nat) = 3 ∧ 3 = 2 + 1 := by decide +kernel
theorem c168_3 : mj_Y.code kY 168 3 = some (.aload_n 0) ∧ ((0 : Fin 4) : Nat) = 0 ∧ 4 = 3 + 1 := by decide +kernel
theorem c168_4 : mj_Y.code kY 168 4 = some (.getfield 19) ∧ mj_Y.fl kY 168 19 2 = some (2, .int, true) ∧ 7 = 4 + 3 := by decide +kernel
theorem c168_7 : mj_Y.code kY 168 7 = some (.if_icmp .ge 29) ∧ mj_tg 7 29 = some 36 ∧ 10 = 7 + 3 := by decide +kernel
theorem c168_10 : mj_Y.code kY 168 10 = some (.aload_n 0) ∧ ((0 : Fin 4) : Nat) = 0 ∧ 11 = 10 + 1 := by decide +kernel
theorem c168_11 : mj_Y.code kY 168 11 = some (.iload_n 3) ∧ ((3 : Fin 4) : Nat) = 3 ∧ 12 = 11 + 1 := by decide +kernel
theorem c168_12 : mj_Y.code kY 168 12 = some (.invokevirtual 37) ∧ mj_Y.na kY 168 37 = some 1 ∧ mj_Y.cv kY 168 37 2 = some 169 ∧ mj_Y.nL kY 169 = 3 ∧ 15 = 12 + 3 := by decide +kernel
theorem c168_15 : mj_Y.code kY 168 15 = some (.ifCond .eq 15) ∧ mj_tg 15 15 = some 30 ∧ 18 = 15 + 3 := by decide +kernel
theorem c168_18 : mj_Y.code kY 168 18 = some (.aload_n 0) ∧ ((0 : Fin 4) : Nat) = 0 ∧ 19 = 18 + 1 := by decide +kernel
theorem c168_19 : mj_Y.code kY 168 19 = some (.getfield 15) ∧ mj_Y.fl kY 168 15 2 = some (1, (.array .long), true) ∧ 22 = 19 + 3 := by decide +kernel
theorem c168_22 : mj_Y.code kY 168 22 = some (.iload_n 3) ∧ ((3 : Fin 4) : Nat) = 3 ∧ 23 = 22 + 1 := by decide +kernel
theorem c168_23 : mj_Y.code kY 168 23 = some .dup2 ∧ 24 = 23 + 1 := by decide +kernel
theorem c168_24 : mj_Y.code kY 168 24 = some .laload ∧ 25 = 24 + 1 := by decide +kernel
theorem c168_25 : mj_Y.code kY 168 25 = some (.lload_n 1) ∧ ((1 : Fin 4) : Nat) = 1 ∧ 26 = 25 + 1 := by decide +kernel
theorem c168_26 : mj_Y.code kY 168 26 = some .ladd ∧ 27 = 26 + 1 := by decide +kernel
theorem c168_27 : mj_Y.code kY 168 27 = some .lastore ∧ 28 = 27 + 1 := by decide +kernel
theorem c168_28 : mj_Y.code kY 168 28 = some (.iconst 1) ∧ Int32.ofInt 1 = 1 ∧ 29 = 28 + 1 := by decide +kernel
theorem c168_29 : mj_Y.code kY 168 29 = some .ireturn ∧ mj_Y.rt kY 168 = some .boolean := by decide +kernel
theorem c168_30 : mj_Y.code kY 168 30 = some (.iinc 3 1) ∧ 3 < mj_Y.nL kY 168 ∧ Int32.ofInt 1 = 1 ∧ 33 = 30 + 3 := by decide +kernel
theorem c168_33 : mj_Y.code kY 168 33 = some (.goto (-31)) ∧ mj_tg 33 (-31) = some 2 := by decide +kernel
theorem c168_36 : mj_Y.code kY 168 36 = some (.aload_n 0) ∧ ((0 : Fin 4) : Nat) = 0 ∧ 37 = 36 + 1 := by decide +kernel
theorem c168_37 : mj_Y.code kY 168 37 = some (.getfield 19) ∧ mj_Y.fl kY 168 19 2 = some (2, .int, true) ∧ 40 = 37 + 3 := by decide +kernel
theorem c168_40 : mj_Y.code kY 168 40 = some (.bipush 64) ∧ (Int8.ofInt 64).toInt32 = 64 ∧ 42 = 40 + 2 := by decide +kernel
theorem c168_42 : mj_Y.code kY 168 42 = some (.if_icmp .lt 5) ∧ mj_tg 42 5 = some 47 ∧ 45 = 42 + 3 := by decide +kernel
theorem c168_45 : mj_Y.code kY 168 45 = some (.iconst 0) ∧ Int32.ofInt 0 = 0 ∧ 46 = 45 + 1 := by decide +kernel
theorem c168_46 : mj_Y.code kY 168 46 = some .ireturn ∧ mj_Y.rt kY 168 = some .boolean := by decide +kernel
theorem c168_47 : mj_Y.code kY 168 47 = some (.aload_n 0) ∧ ((0 : Fin 4) : Nat) = 0 ∧ 48 = 47 + 1 := by decide +kernel
theorem c168_48 : mj_Y.code kY 168 48 = some (.getfield 15) ∧ mj_Y.fl kY 168 15 2 = some (1, (.array .long), true) ∧ 51 = 48 + 3 := by decide +kernel
theorem c168_51 : mj_Y.code kY 168 51 = some (.aload_n 0) ∧ ((0 : Fin 4) : Nat) = 0 ∧ 52 = 51 + 1 := by decide +kernel
theorem c168_52 : mj_Y.code kY 168 52 = some (.getfield 19) ∧ mj_Y.fl kY 168 19 2 = some (2, .int, true) ∧ 55 = 52 + 3 := by decide +kernel
theorem c168_55 : mj_Y.code kY 168 55 = some (.lload_n 1) ∧ ((1 : Fin 4) : Nat) = 1 ∧ 56 = 55 + 1 := by decide +kernel
theorem c168_56 : mj_Y.code kY 168 56 = some .lastore ∧ 57 = 56 + 1 := by decide +kernel
theorem c168_57 : mj_Y.code kY 168 57 = some (.aload_n 0) ∧ ((0 : Fin 4) : Nat) = 0 ∧ 58 = 57 + 1 := by decide +kernel
theorem c168_58 : mj_Y.code kY 168 58 = some .dup ∧ 59 = 58 + 1 := by decide +kernel
theorem c168_59 : mj_Y.code kY 168 59 = some (.getfield 19) ∧ mj_Y.fl kY 168 19 2 = some (2, .int, true) ∧ 62 = 59 + 3 := by decide +kernel
theorem c168_62 : mj_Y.code kY 168 62 = some (.iconst 1) ∧ Int32.ofInt 1 = 1 ∧ 63 = 62 + 1 := by decide +kernel
theorem c168_63 : mj_Y.code kY 168 63 = some .iadd ∧ 64 = 63 + 1 := by decide +kernel
theorem c168_64 : mj_Y.code kY 168 64 = some (.putfield 19) ∧ mj_Y.fl kY 168 19 2 = some (2, .int, true) ∧ 67 = 64 + 3 := by decide +kernel
theorem c168_67 : mj_Y.code kY 168 67 = some (.iconst 1) ∧ Int32.ofInt 1 = 1 ∧ 68 = 67 + 1 := by decide +kernel
theorem c168_68 : mj_Y.code kY 168 68 = some .ireturn ∧ mj_Y.rt kY 168 = some .boolean := by decide +kernel
theorem c169_0 : mj_Y.code kY 169 0 = some (.iconst 0) ∧ Int32.ofInt 0 = 0 ∧ 1 = 0 + 1 := by decide +kernel
theorem c169_1 : mj_Y.code kY 169 1 = some (.istore_n 2) ∧ ((2 : Fin 4) : Nat) = 2 ∧ 2 < mj_Y.nL kY 169 ∧ 2 = 1 + 1 := by decide +kernel
theorem c169_2 : mj_Y.code kY 169 2 = some (.iload_n 2) ∧ ((2 : Fin 4) : Nat) = 2 ∧ 3 = 2 + 1 := by decide +kernel
theorem c169_3 : mj_Y.code kY 169 3 = some (.bipush 6) ∧ (Int8.ofInt 6).toInt32 = 6 ∧ 5 = 3 + 2 := by decide +kernel
theorem c169_5 : mj_Y.code kY 169 5 = some (.if_icmp .ge 29) ∧ mj_tg 5 29 = some 34 ∧ 8 = 5 + 3 := by decide +kernel
theorem c169_8 : mj_Y.code kY 169 8 = some (.aload_n 0) ∧ ((0 : Fin 4) : Nat) = 0 ∧ 9 = 8 + 1 := by decide +kernel
theorem c169_9 : mj_Y.code kY 169 9 = some (.iload_n 1) ∧ ((1 : Fin 4) : Nat) = 1 ∧ 10 = 9 + 1 := by decide +kernel
theorem c169_10 : mj_Y.code kY 169 10 = some (.iload_n 2) ∧ ((2 : Fin 4) : Nat) = 2 ∧ 11 = 10 + 1 := by decide +kernel
theorem c169_11 : mj_Y.code kY 169 11 = some (.invokevirtual 41) ∧ mj_Y.na kY 169 41 = some 2 ∧ mj_Y.cv kY 169 41 2 = some 154 ∧ mj_Y.nL kY 154 = 3 ∧ 14 = 11 + 3 := by decide +kernel
theorem c169_14 : mj_Y.code kY 169 14 = some (.aload_n 0) ∧ ((0 : Fin 4) : Nat) = 0 ∧ 15 = 14 + 1 := by decide +kernel
theorem c169_15 : mj_Y.code kY 169 15 = some (.aload_n 0) ∧ ((0 : Fin 4) : Nat) = 0 ∧ 16 = 15 + 1 := by decide +kernel
theorem c169_16 : mj_Y.code kY 169 16 = some (.getfield 19) ∧ mj_Y.fl kY 169 19 2 = some (2, .int, true) ∧ 19 = 16 + 3 := by decide +kernel
theorem c169_19 : mj_Y.code kY 169 19 = some (.iload_n 2) ∧ ((2 : Fin 4) : Nat) = 2 ∧ 20 = 19 + 1 := by decide +kernel
theorem c169_20 : mj_Y.code kY 169 20 = some (.invokevirtual 41) ∧ mj_Y.na kY 169 41 = some 2 ∧ mj_Y.cv kY 169 41 2 = some 154 ∧ mj_Y.nL kY 154 = 3 ∧ 23 = 20 + 3 := by decide +kernel
theorem c169_23 : mj_Y.code kY 169 23 = some (.if_icmp .eq 5) ∧ mj_tg 23 5 = some 28 ∧ 26 = 23 + 3 := by decide +kernel
theorem c169_26 : mj_Y.code kY 169 26 = some (.iconst 0) ∧ Int32.ofInt 0 = 0 ∧ 27 = 26 + 1 := by decide +kernel
theorem c169_27 : mj_Y.code kY 169 27 = some .ireturn ∧ mj_Y.rt kY 169 = some .boolean := by decide +kernel
theorem c169_28 : mj_Y.code kY 169 28 = some (.iinc 2 1) ∧ 2 < mj_Y.nL kY 169 ∧ Int32.ofInt 1 = 1 ∧ 31 = 28 + 3 := by decide +kernel
theorem c169_31 : mj_Y.code kY 169 31 = some (.goto (-29)) ∧ mj_tg 31 (-29) = some 2 := by decide +kernel
theorem c169_34 : mj_Y.code kY 169 34 = some (.iconst 1) ∧ Int32.ofInt 1 = 1 ∧ 35 = 34 + 1 := by decide +kernel
theorem c169_35 : mj_Y.code kY 169 35 = some .ireturn ∧ mj_Y.rt kY 169 = some .boolean := by decide +kernel
