theorem c98_0 : mj_Y.code kY 98 0 = some (.aload_n 0) ∧ ((0 : Fin 4) : Nat) = 0 ∧ 1 = 0 + 1 := by decide +kernel
theorem c98_1 : mj_Y.code kY 98 1 = some (.bipush 100) ∧ (Int8.ofInt 100).toInt32 = 100 ∧ 3 = 1 + 2 := by decide +kernel
theorem c98_3 : mj_Y.code kY 98 3 = some (.invokevirtual 98) ∧ mj_Y.na kY 98 98 = some 1 ∧ mj_Y.cv kY 98 98 1 = some 94 ∧ mj_Y.nL kY 94 = 2 ∧ 6 = 3 + 3 := by decide +kernel
theorem c98_6 : mj_Y.code kY 98 6 = some (.aload_n 0) ∧ ((0 : Fin 4) : Nat) = 0 ∧ 7 = 6 + 1 := by decide +kernel
theorem c98_7 : mj_Y.code kY 98 7 = some (.iconst 2) ∧ Int32.ofInt 2 = 2 ∧ 8 = 7 + 1 := by decide +kernel
theorem c98_8 : mj_Y.code kY 98 8 = some (.bipush 20) ∧ (Int8.ofInt 20).toInt32 = 20 ∧ 10 = 8 + 2 := by decide +kernel
theorem c98_10 : mj_Y.code kY 98 10 = some (.invokevirtual 112) ∧ mj_Y.na kY 98 112 = some 2 ∧ mj_Y.cv kY 98 112 1 = some 99 ∧ mj_Y.nL kY 99 = 6 ∧ 13 = 10 + 3 := by decide +kernel
theorem c98_13 : mj_Y.code kY 98 13 = some (.istore_n 2) ∧ ((2 : Fin 4) : Nat) = 2 ∧ 2 < mj_Y.nL kY 98 ∧ 14 = 13 + 1 := by decide +kernel
theorem c98_14 : mj_Y.code kY 98 14 = some (.aload_n 0) ∧ ((0 : Fin 4) : Nat) = 0 ∧ 15 = 14 + 1 := by decide +kernel
theorem c98_15 : mj_Y.code kY 98 15 = some (.invokevirtual 77) ∧ mj_Y.na kY 98 77 = some 0 ∧ mj_Y.cv kY 98 77 1 = some 84 ∧ mj_Y.nL kY 84 = 1 ∧ 18 = 15 + 3 := by decide +kernel
theorem c98_18 : mj_Y.code kY 98 18 = some (.istore_n 3) ∧ ((3 : Fin 4) : Nat) = 3 ∧ 3 < mj_Y.nL kY 98 ∧ 19 = 18 + 1 := by decide +kernel
theorem c98_19 : mj_Y.code kY 98 19 = some (.iload_n 3) ∧ ((3 : Fin 4) : Nat) = 3 ∧ 20 = 19 + 1 := by decide +kernel
theorem c98_20 : mj_Y.code kY 98 20 = some (.bipush 101) ∧ (Int8.ofInt 101).toInt32 = 101 ∧ 22 = 20 + 2 := by decide +kernel
theorem c98_22 : mj_Y.code kY 98 22 = some (.if_icmp .ne 48) ∧ mj_tg 22 48 = some 70 ∧ 25 = 22 + 3 := by decide +kernel
theorem c98_25 : mj_Y.code kY 98 25 = some (.aload_n 0) ∧ ((0 : Fin 4) : Nat) = 0 ∧ 26 = 25 + 1 := by decide +kernel
theorem c98_26 : mj_Y.code kY 98 26 = some (.iload_n 1) ∧ ((1 : Fin 4) : Nat) = 1 ∧ 27 = 26 + 1 := by decide +kernel
theorem c98_27 : mj_Y.code kY 98 27 = some (.iconst 1) ∧ Int32.ofInt 1 = 1 ∧ 28 = 27 + 1 := by decide +kernel
theorem c98_28 : mj_Y.code kY 98 28 = some (.if_icmp .ne 7) ∧ mj_tg 28 7 = some 35 ∧ 31 = 28 + 3 := by decide +kernel
theorem c98_31 : mj_Y.code kY 98 31 = some (.iconst 1) ∧ Int32.ofInt 1 = 1 ∧ 32 = 31 + 1 := by decide +kernel
theorem c98_32 : mj_Y.code kY 98 32 = some (.goto 4) ∧ mj_tg 32 4 = some 36 := by decide +kernel
theorem c98_35 : mj_Y.code kY 98 35 = some (.iconst 0) ∧ Int32.ofInt 0 = 0 ∧ 36 = 35 + 1 := by decide +kernel
theorem c98_36 : mj_Y.code kY 98 36 = some (.aload_n 0) ∧ ((0 : Fin 4) : Nat) = 0 ∧ 37 = 36 + 1 := by decide +kernel
theorem c98_37 : mj_Y.code kY 98 37 = some (.getfield 23) ∧ mj_Y.fl kY 98 23 1 = some (3, .int, true) ∧ 40 = 37 + 3 := by decide +kernel
theorem c98_40 : mj_Y.code kY 98 40 = some (.invokevirtual 43) ∧ mj_Y.na kY 98 43 = some 2 ∧ mj_Y.cv kY 98 43 1 = some 87 ∧ mj_Y.nL kY 87 = 3 ∧ 43 = 40 + 3 := by decide +kernel
theorem c98_43 : mj_Y.code kY 98 43 = some (.aload_n 0) ∧ ((0 : Fin 4) : Nat) = 0 ∧ 44 = 43 + 1 := by decide +kernel
theorem c98_44 : mj_Y.code kY 98 44 = some .dup ∧ 45 = 44 + 1 := by decide +kernel
theorem c98_45 : mj_Y.code kY 98 45 = some (.getfield 23) ∧ mj_Y.fl kY 98 23 1 = some (3, .int, true) ∧ 48 = 45 + 3 := by decide +kernel
theorem c98_48 : mj_Y.code kY 98 48 = some (.iconst 1) ∧ Int32.ofInt 1 = 1 ∧ 49 = 48 + 1 := by decide +kernel
theorem c98_49 : mj_Y.code kY 98 49 = some .iadd ∧ 50 = 49 + 1 := by decide +kernel
theorem c98_50 : mj_Y.code kY 98 50 = some (.putfield 23) ∧ mj_Y.fl kY 98 23 1 = some (3, .int, true) ∧ 53 = 50 + 3 := by decide +kernel
theorem c98_53 : mj_Y.code kY 98 53 = some (.new 154) ∧ mj_Y.ex kY 98 154 = none ∧ mj_Y.nw kY 98 154 = some (8, 6, [.int 0, .int 0, .int 0, .int 0, .null, .long 0]) ∧ 56 = 53 + 3 := by decide +kernel
theorem c98_56 : mj_Y.code kY 98 56 = some .dup ∧ 57 = 56 + 1 := by decide +kernel
theorem c98_57 : mj_Y.code kY 98 57 = some (.iload_n 1) ∧ ((1 : Fin 4) : Nat) = 1 ∧ 58 = 57 + 1 := by decide +kernel
theorem c98_58 : mj_Y.code kY 98 58 = some (.iload_n 2) ∧ ((2 : Fin 4) : Nat) = 2 ∧ 59 = 58 + 1 := by decide +kernel
theorem c98_59 : mj_Y.code kY 98 59 = some (.iload_n 3) ∧ ((3 : Fin 4) : Nat) = 3 ∧ 60 = 59 + 1 := by decide +kernel
theorem c98_60 : mj_Y.code kY 98 60 = some (.aload_n 0) ∧ ((0 : Fin 4) : Nat) = 0 ∧ 61 = 60 + 1 := by decide +kernel
theorem c98_61 : mj_Y.code kY 98 61 = some (.iconst 1) ∧ Int32.ofInt 1 = 1 ∧ 62 = 61 + 1 := by decide +kernel
theorem c98_62 : mj_Y.code kY 98 62 = some (.iconst 3) ∧ Int32.ofInt 3 = 3 ∧ 63 = 62 + 1 := by decide +kernel
theorem c98_63 : mj_Y.code kY 98 63 = some (.invokevirtual 112) ∧ mj_Y.na kY 98 112 = some 2 ∧ mj_Y.cv kY 98 112 1 = some 99 ∧ mj_Y.nL kY 99 = 6 ∧ 66 = 63 + 3 := by decide +kernel
theorem c98_66 : mj_Y.code kY 98 66 = some (.invokespecial 156) ∧ mj_Y.pr kY 98 156 = none ∧ mj_Y.cp kY 98 156 = some (100, 4) ∧ mj_Y.nL kY 100 = 5 ∧ 69 = 66 + 3 := by decide +kernel
theorem c98_69 : mj_Y.code kY 98 69 = some .areturn ∧ mj_Y.rt kY 98 = some (.object "DiceOdds$Expression") ∧ ((.object "DiceOdds$Expression") : FieldType).isReference = true := by decide +kernel
theorem c98_70 : mj_Y.code kY 98 70 = some (.iload_n 3) ∧ ((3 : Fin 4) : Nat) = 3 ∧ 71 = 70 + 1 := by decide +kernel
theorem c98_71 : mj_Y.code kY 98 71 = some (.bipush 104) ∧ (Int8.ofInt 104).toInt32 = 104 ∧ 73 = 71 + 2 := by decide +kernel
theorem c98_73 : mj_Y.code kY 98 73 = some (.if_icmp .eq 9) ∧ mj_tg 73 9 = some 82 ∧ 76 = 73 + 3 := by decide +kernel
theorem c98_76 : mj_Y.code kY 98 76 = some (.iload_n 3) ∧ ((3 : Fin 4) : Nat) = 3 ∧ 77 = 76 + 1 := by decide +kernel
theorem c98_77 : mj_Y.code kY 98 77 = some (.bipush 108) ∧ (Int8.ofInt 108).toInt32 = 108 ∧ 79 = 77 + 2 := by decide +kernel
theorem c98_79 : mj_Y.code kY 98 79 = some (.if_icmp .ne 30) ∧ mj_tg 79 30 = some 109 ∧ 82 = 79 + 3 := by decide +kernel
theorem c98_82 : mj_Y.code kY 98 82 = some (.aload_n 0) ∧ ((0 : Fin 4) : Nat) = 0 ∧ 83 = 82 + 1 := by decide +kernel
theorem c98_83 : mj_Y.code kY 98 83 = some .dup ∧ 84 = 83 + 1 := by decide +kernel
theorem c98_84 : mj_Y.code kY 98 84 = some (.getfield 23) ∧ mj_Y.fl kY 98 23 1 = some (3, .int, true) ∧ 87 = 84 + 3 := by decide +kernel
theorem c98_87 : mj_Y.code kY 98 87 = some (.iconst 1) ∧ Int32.ofInt 1 = 1 ∧ 88 = 87 + 1 := by decide +kernel
theorem c98_88 : mj_Y.code kY 98 88 = some .iadd ∧ 89 = 88 + 1 := by decide +kernel
theorem c98_89 : mj_Y.code kY 98 89 = some (.putfield 23) ∧ mj_Y.fl kY 98 23 1 = some (3, .int, true) ∧ 92 = 89 + 3 := by decide +kernel
theorem c98_92 : mj_Y.code kY 98 92 = some (.new 154) ∧ mj_Y.ex kY 98 154 = none ∧ mj_Y.nw kY 98 154 = some (8, 6, [.int 0, .int 0, .int 0, .int 0, .null, .long 0]) ∧ 95 = 92 + 3 := by decide +kernel
theorem c98_95 : mj_Y.code kY 98 95 = some .dup ∧ 96 = 95 + 1 := by decide +kernel
theorem c98_96 : mj_Y.code kY 98 96 = some (.iload_n 1) ∧ ((1 : Fin 4) : Nat) = 1 ∧ 97 = 96 + 1 := by decide +kernel
theorem c98_97 : mj_Y.code kY 98 97 = some (.iload_n 2) ∧ ((2 : Fin 4) : Nat) = 2 ∧ 98 = 97 + 1 := by decide +kernel
theorem c98_98 : mj_Y.code kY 98 98 = some (.iload_n 3) ∧ ((3 : Fin 4) : Nat) = 3 ∧ 99 = 98 + 1 := by decide +kernel
theorem c98_99 : mj_Y.code kY 98 99 = some (.aload_n 0) ∧ ((0 : Fin 4) : Nat) = 0 ∧ 100 = 99 + 1 := by decide +kernel
theorem c98_100 : mj_Y.code kY 98 100 = some (.iconst 1) ∧ Int32.ofInt 1 = 1 ∧ 101 = 100 + 1 := by decide +kernel
theorem c98_101 : mj_Y.code kY 98 101 = some (.iload_n 1) ∧ ((1 : Fin 4) : Nat) = 1 ∧ 102 = 101 + 1 := by decide +kernel
theorem c98_102 : mj_Y.code kY 98 102 = some (.invokevirtual 112) ∧ mj_Y.na kY 98 112 = some 2 ∧ mj_Y.cv kY 98 112 1 = some 99 ∧ mj_Y.nL kY 99 = 6 ∧ 105 = 102 + 3 := by decide +kernel
theorem c98_105 : mj_Y.code kY 98 105 = some (.invokespecial 156) ∧ mj_Y.pr kY 98 156 = none ∧ mj_Y.cp kY 98 156 = some (100, 4) ∧ mj_Y.nL kY 100 = 5 ∧ 108 = 105 + 3 := by decide +kernel
theorem c98_108 : mj_Y.code kY 98 108 = some .areturn ∧ mj_Y.rt kY 98 = some (.object "DiceOdds$Expression") ∧ ((.object "DiceOdds$Expression") : FieldType).isReference = true := by decide +kernel
theorem c98_109 : mj_Y.code kY 98 109 = some (.new 154) ∧ mj_Y.ex kY 98 154 = none ∧ mj_Y.nw kY 98 154 = some (8, 6, [.int 0, .int 0, .int 0, .int 0, .null, .long 0]) ∧ 112 = 109 + 3 := by decide +kernel
theorem c98_112 : mj_Y.code kY 98 112 = some .dup ∧ 113 = 112 + 1 := by decide +kernel
theorem c98_113 : mj_Y.code kY 98 113 = some (.iload_n 1) ∧ ((1 : Fin 4) : Nat) = 1 ∧ 114 = 113 + 1 := by decide +kernel
theorem c98_114 : mj_Y.code kY 98 114 = some (.iload_n 2) ∧ ((2 : Fin 4) : Nat) = 2 ∧ 115 = 114 + 1 := by decide +kernel
theorem c98_115 : mj_Y.code kY 98 115 = some (.bipush 97) ∧ (Int8.ofInt 97).toInt32 = 97 ∧ 117 = 115 + 2 := by decide +kernel
theorem c98_117 : mj_Y.code kY 98 117 = some (.iload_n 1) ∧ ((1 : Fin 4) : Nat) = 1 ∧ 118 = 117 + 1 := by decide +kernel
theorem c98_118 : mj_Y.code kY 98 118 = some (.invokespecial 156) ∧ mj_Y.pr kY 98 156 = none ∧ mj_Y.cp kY 98 156 = some (100, 4) ∧ mj_Y.nL kY 100 = 5 ∧ 121 = 118 + 3 := by decide +kernel
theorem c98_121 : mj_Y.code kY 98 121 = some .areturn ∧ mj_Y.rt kY 98 = some (.object "DiceOdds$Expression") ∧ ((.object "DiceOdds$Expression") : FieldType).isReference = true := by decide +kernel
theorem nh98 : mj_Y.nh kY 98 = true := by decide +kernel
theorem c99_0 : mj_Y.code kY 99 0 = some (.aload_n 0) ∧ ((0 : Fin 4) : Nat) = 0 ∧ 1 = 0 + 1 := by decide +kernel
theorem c99_1 : mj_Y.code kY 99 1 = some (.getfield 23) ∧ mj_Y.fl kY 99 23 1 = some (3, .int, true) ∧ 4 = 1 + 3 := by decide +kernel
theorem c99_4 : mj_Y.code kY 99 4 = some (.istore_n 3) ∧ ((3 : Fin 4) : Nat) = 3 ∧ 3 < mj_Y.nL kY 99 ∧ 5 = 4 + 1 := by decide +kernel
theorem c99_5 : mj_Y.code kY 99 5 = some (.iconst 0) ∧ Int32.ofInt 0 = 0 ∧ 6 = 5 + 1 := by decide +kernel
theorem c99_6 : mj_Y.code kY 99 6 = some (.istore 4) ∧ 4 = 4 ∧ 4 < mj_Y.nL kY 99 ∧ 8 = 6 + 2 := by decide +kernel
theorem c99_8 : mj_Y.code kY 99 8 = some (.iconst 0) ∧ Int32.ofInt 0 = 0 ∧ 9 = 8 + 1 := by decide +kernel
theorem c99_9 : mj_Y.code kY 99 9 = some (.istore 5) ∧ 5 = 5 ∧ 5 < mj_Y.nL kY 99 ∧ 11 = 9 + 2 := by decide +kernel
theorem c99_11 : mj_Y.code kY 99 11 = some (.iload 5) ∧ 5 = 5 ∧ 13 = 11 + 2 := by decide +kernel
theorem c99_13 : mj_Y.code kY 99 13 = some (.sipush 160) ∧ (Int16.ofInt 160).toInt32 = 160 ∧ 16 = 13 + 3 := by decide +kernel
theorem c99_16 : mj_Y.code kY 99 16 = some (.if_icmp .ge 50) ∧ mj_tg 16 50 = some 66 ∧ 19 = 16 + 3 := by decide +kernel
theorem c99_19 : mj_Y.code kY 99 19 = some (.aload_n 0) ∧ ((0 : Fin 4) : Nat) = 0 ∧ 20 = 19 + 1 := by decide +kernel
theorem c99_20 : mj_Y.code kY 99 20 = some (.invokevirtual 77) ∧ mj_Y.na kY 99 77 = some 0 ∧ mj_Y.cv kY 99 77 1 = some 84 ∧ mj_Y.nL kY 84 = 1 ∧ 23 = 20 + 3 := by decide +kernel
theorem c99_23 : mj_Y.code kY 99 23 = some (.invokestatic 141) ∧ mj_Y.pr kY 99 141 = none ∧ mj_Y.cs kY 99 141 = some (95, 1) ∧ mj_Y.nL kY 95 = 1 ∧ 26 = 23 + 3 := by decide +kernel
theorem c99_26 : mj_Y.code kY 99 26 = some (.ifCond .eq 40) ∧ mj_tg 26 40 = some 66 ∧ 29 = 26 + 3 := by decide +kernel
theorem c99_29 : mj_Y.code kY 99 29 = some (.iload 4) ∧ 4 = 4 ∧ 31 = 29 + 2 := by decide +kernel
theorem c99_31 : mj_Y.code kY 99 31 = some (.bipush 10) ∧ (Int8.ofInt 10).toInt32 = 10 ∧ 33 = 31 + 2 := by decide +kernel
theorem c99_33 : mj_Y.code kY 99 33 = some .imul ∧ 34 = 33 + 1 := by decide +kernel
theorem c99_34 : mj_Y.code kY 99 34 = some (.aload_n 0) ∧ ((0 : Fin 4) : Nat) = 0 ∧ 35 = 34 + 1 := by decide +kernel
theorem c99_35 : mj_Y.code kY 99 35 = some (.invokevirtual 77) ∧ mj_Y.na kY 99 77 = some 0 ∧ mj_Y.cv kY 99 77 1 = some 84 ∧ mj_Y.nL kY 84 = 1 ∧ 38 = 35 + 3 := by decide +kernel
theorem c99_38 : mj_Y.code kY 99 38 = some .iadd ∧ 39 = 38 + 1 := by decide +kernel
theorem c99_39 : mj_Y.code kY 99 39 = some (.bipush 48) ∧ (Int8.ofInt 48).toInt32 = 48 ∧ 41 = 39 + 2 := by decide +kernel
theorem c99_41 : mj_Y.code kY 99 41 = some .isub ∧ 42 = 41 + 1 := by decide +kernel
theorem c99_42 : mj_Y.code kY 99 42 = some (.sipush 1000) ∧ (Int16.ofInt 1000).toInt32 = 1000 ∧ 45 = 42 + 3 := by decide +kernel
theorem c99_45 : mj_Y.code kY 99 45 = some (.invokestatic 60) ∧ mj_Y.pr kY 99 60 = none ∧ mj_Y.cs kY 99 60 = some (21, 2) ∧ mj_Y.nL kY 21 = 2 ∧ 48 = 45 + 3 := by decide +kernel
theorem c99_48 : mj_Y.code kY 99 48 = some (.istore 4) ∧ 4 = 4 ∧ 4 < mj_Y.nL kY 99 ∧ 50 = 48 + 2 := by decide +kernel
theorem c99_50 : mj_Y.code kY 99 50 = some (.aload_n 0) ∧ ((0 : Fin 4) : Nat) = 0 ∧ 51 = 50 + 1 := by decide +kernel
theorem c99_51 : mj_Y.code kY 99 51 = some .dup ∧ 52 = 51 + 1 := by decide +kernel
theorem c99_52 : mj_Y.code kY 99 52 = some (.getfield 23) ∧ mj_Y.fl kY 99 23 1 = some (3, .int, true) ∧ 55 = 52 + 3 := by decide +kernel
theorem c99_55 : mj_Y.code kY 99 55 = some (.iconst 1) ∧ Int32.ofInt 1 = 1 ∧ 56 = 55 + 1 := by decide +kernel
theorem c99_56 : mj_Y.code kY 99 56 = some .iadd ∧ 57 = 56 + 1 := by decide +kernel
theorem c99_57 : mj_Y.code kY 99 57 = some (.putfield 23) ∧ mj_Y.fl kY 99 23 1 = some (3, .int, true) ∧ 60 = 57 + 3 := by decide +kernel
theorem c99_60 : mj_Y.code kY 99 60 = some (.iinc 5 1) ∧ 5 < mj_Y.nL kY 99 ∧ Int32.ofInt 1 = 1 ∧ 63 = 60 + 3 := by decide +kernel
theorem c99_63 : mj_Y.code kY 99 63 = some (.goto (-52)) ∧ mj_tg 63 (-52) = some 11 := by decide +kernel
theorem c99_66 : mj_Y.code kY 99 66 = some (.aload_n 0) ∧ ((0 : Fin 4) : Nat) = 0 ∧ 67 = 66 + 1 := by decide +kernel
theorem c99_67 : mj_Y.code kY 99 67 = some (.getfield 23) ∧ mj_Y.fl kY 99 23 1 = some (3, .int, true) ∧ 70 = 67 + 3 := by decide +kernel
theorem c99_70 : mj_Y.code kY 99 70 = some (.iload_n 3) ∧ ((3 : Fin 4) : Nat) = 3 ∧ 71 = 70 + 1 := by decide +kernel
theorem c99_71 : mj_Y.code kY 99 71 = some .isub ∧ 72 = 71 + 1 := by decide +kernel
theorem c99_72 : mj_Y.code kY 99 72 = some (.istore 5) ∧ 5 = 5 ∧ 5 < mj_Y.nL kY 99 ∧ 74 = 72 + 2 := by decide +kernel
theorem c99_74 : mj_Y.code kY 99 74 = some (.aload_n 0) ∧ ((0 : Fin 4) : Nat) = 0 ∧ 75 = 74 + 1 := by decide +kernel
theorem c99_75 : mj_Y.code kY 99 75 = some (.iload 5) ∧ 5 = 5 ∧ 77 = 75 + 2 := by decide +kernel
theorem c99_77 : mj_Y.code kY 99 77 = some (.ifCond .le 13) ∧ mj_tg 77 13 = some 90 ∧ 80 = 77 + 3 := by decide +kernel
theorem c99_80 : mj_Y.code kY 99 80 = some (.iload 5) ∧ 5 = 5 ∧ 82 = 80 + 2 := by decide +kernel
theorem c99_82 : mj_Y.code kY 99 82 = some (.iconst 3) ∧ Int32.ofInt 3 = 3 ∧ 83 = 82 + 1 := by decide +kernel
theorem c99_83 : mj_Y.code kY 99 83 = some (.if_icmp .gt 7) ∧ mj_tg 83 7 = some 90 ∧ 86 = 83 + 3 := by decide +kernel
theorem c99_86 : mj_Y.code kY 99 86 = some (.iconst 1) ∧ Int32.ofInt 1 = 1 ∧ 87 = 86 + 1 := by decide +kernel
theorem c99_87 : mj_Y.code kY 99 87 = some (.goto 4) ∧ mj_tg 87 4 = some 91 := by decide +kernel
theorem c99_90 : mj_Y.code kY 99 90 = some (.iconst 0) ∧ Int32.ofInt 0 = 0 ∧ 91 = 90 + 1 := by decide +kernel
theorem c99_91 : mj_Y.code kY 99 91 = some (.iload_n 3) ∧ ((3 : Fin 4) : Nat) = 3 ∧ 92 = 91 + 1 := by decide +kernel
theorem c99_92 : mj_Y.code kY 99 92 = some (.invokevirtual 43) ∧ mj_Y.na kY 99 43 = some 2 ∧ mj_Y.cv kY 99 43 1 = some 87 ∧ mj_Y.nL kY 87 = 3 ∧ 95 = 92 + 3 := by decide +kernel
theorem c99_95 : mj_Y.code kY 99 95 = some (.aload_n 0) ∧ ((0 : Fin 4) : Nat) = 0 ∧ 96 = 95 + 1 := by decide +kernel
theorem c99_96 : mj_Y.code kY 99 96 = some (.iload 5) ∧ 5 = 5 ∧ 98 = 96 + 2 := by decide +kernel
theorem c99_98 : mj_Y.code kY 99 98 = some (.iconst 1) ∧ Int32.ofInt 1 = 1 ∧ 99 = 98 + 1 := by decide +kernel
theorem c99_99 : mj_Y.code kY 99 99 = some (.if_icmp .eq 14) ∧ mj_tg 99 14 = some 113 ∧ 102 = 99 + 3 := by decide +kernel
theorem c99_102 : mj_Y.code kY 99 102 = some (.aload_n 0) ∧ ((0 : Fin 4) : Nat) = 0 ∧ 103 = 102 + 1 := by decide +kernel
theorem c99_103 : mj_Y.code kY 99 103 = some (.getfield 9) ∧ mj_Y.fl kY 99 9 1 = some (0, (.array .char), false) ∧ 106 = 103 + 3 := by decide +kernel
theorem c99_106 : mj_Y.code kY 99 106 = some (.iload_n 3) ∧ ((3 : Fin 4) : Nat) = 3 ∧ 107 = 106 + 1 := by decide +kernel
theorem c99_107 : mj_Y.code kY 99 107 = some .caload ∧ 108 = 107 + 1 := by decide +kernel
theorem c99_108 : mj_Y.code kY 99 108 = some (.bipush 48) ∧ (Int8.ofInt 48).toInt32 = 48 ∧ 110 = 108 + 2 := by decide +kernel
theorem c99_110 : mj_Y.code kY 99 110 = some (.if_icmp .eq 7) ∧ mj_tg 110 7 = some 117 ∧ 113 = 110 + 3 := by decide +kernel
theorem c99_113 : mj_Y.code kY 99 113 = some (.iconst 1) ∧ Int32.ofInt 1 = 1 ∧ 114 = 113 + 1 := by decide +kernel
theorem c99_114 : mj_Y.code kY 99 114 = some (.goto 4) ∧ mj_tg 114 4 = some 118 := by decide +kernel
theorem c99_117 : mj_Y.code kY 99 117 = some (.iconst 0) ∧ Int32.ofInt 0 = 0 ∧ 118 = 117 + 1 := by decide +kernel
theorem c99_118 : mj_Y.code kY 99 118 = some (.iload_n 3) ∧ ((3 : Fin 4) : Nat) = 3 ∧ 119 = 118 + 1 := by decide +kernel
theorem c99_119 : mj_Y.code kY 99 119 = some (.invokevirtual 43) ∧ mj_Y.na kY 99 43 = some 2 ∧ mj_Y.cv kY 99 43 1 = some 87 ∧ mj_Y.nL kY 87 = 3 ∧ 122 = 119 + 3 := by decide +kernel
theorem c99_122 : mj_Y.code kY 99 122 = some (.aload_n 0) ∧ ((0 : Fin 4) : Nat) = 0 ∧ 123 = 122 + 1 := by decide +kernel
theorem c99_123 : mj_Y.code kY 99 123 = some (.iload 4) ∧ 4 = 4 ∧ 125 = 123 + 2 := by decide +kernel
theorem c99_125 : mj_Y.code kY 99 125 = some (.iload_n 1) ∧ ((1 : Fin 4) : Nat) = 1 ∧ 126 = 125 + 1 := by decide +kernel
theorem c99_126 : mj_Y.code kY 99 126 = some (.if_icmp .lt 13) ∧ mj_tg 126 13 = some 139 ∧ 129 = 126 + 3 := by decide +kernel
theorem c99_129 : mj_Y.code kY 99 129 = some (.iload 4) ∧ 4 = 4 ∧ 131 = 129 + 2 := by decide +kernel
theorem c99_131 : mj_Y.code kY 99 131 = some (.iload_n 2) ∧ ((2 : Fin 4) : Nat) = 2 ∧ 132 = 131 + 1 := by decide +kernel
theorem c99_132 : mj_Y.code kY 99 132 = some (.if_icmp .gt 7) ∧ mj_tg 132 7 = some 139 ∧ 135 = 132 + 3 := by decide +kernel
theorem c99_135 : mj_Y.code kY 99 135 = some (.iconst 1) ∧ Int32.ofInt 1 = 1 ∧ 136 = 135 + 1 := by decide +kernel
theorem c99_136 : mj_Y.code kY 99 136 = some (.goto 4) ∧ mj_tg 136 4 = some 140 := by decide +kernel
theorem c99_139 : mj_Y.code kY 99 139 = some (.iconst 0) ∧ Int32.ofInt 0 = 0 ∧ 140 = 139 + 1 := by decide +kernel
theorem c99_140 : mj_Y.code kY 99 140 = some (.iload_n 3) ∧ ((3 : Fin 4) : Nat) = 3 ∧ 141 = 140 + 1 := by decide +kernel
theorem c99_141 : mj_Y.code kY 99 141 = some (.invokevirtual 43) ∧ mj_Y.na kY 99 43 = some 2 ∧ mj_Y.cv kY 99 43 1 = some 87 ∧ mj_Y.nL kY 87 = 3 ∧ 144 = 141 + 3 := by decide +kernel
theorem c99_144 : mj_Y.code kY 99 144 = some (.iload 4) ∧ 4 = 4 ∧ 146 = 144 + 2 := by decide +kernel
theorem c99_146 : mj_Y.code kY 99 146 = some .ireturn ∧ mj_Y.rt kY 99 = some .int := by decide +kernel
theorem nh99 : mj_Y.nh kY 99 = true := by decide +kernel
theorem c100_0 : mj_Y.code kY 100 0 = some (.aload_n 0) ∧ ((0 : Fin 4) : Nat) = 0 ∧ 1 = 0 + 1 := by decide +kernel
theorem c100_1 : mj_Y.code kY 100 1 = some (.iload_n 2) ∧ ((2 : Fin 4) : Nat) = 2 ∧ 2 = 1 + 1 := by decide +kernel
theorem c100_2 : mj_Y.code kY 100 2 = some .i2l ∧ 3 = 2 + 1 := by decide +kernel
theorem c100_3 : mj_Y.code kY 100 3 = some (.iload_n 3) ∧ ((3 : Fin 4) : Nat) = 3 ∧ 4 = 3 + 1 := by decide +kernel
theorem c100_4 : mj_Y.code kY 100 4 = some (.bipush 101) ∧ (Int8.ofInt 101).toInt32 = 101 ∧ 6 = 4 + 2 := by decide +kernel
theorem c100_6 : mj_Y.code kY 100 6 = some (.if_icmp .ne 10) ∧ mj_tg 6 10 = some 16 ∧ 9 = 6 + 3 := by decide +kernel
theorem c100_9 : mj_Y.code kY 100 9 = some (.iload 4) ∧ 4 = 4 ∧ 11 = 9 + 2 := by decide +kernel
theorem c100_11 : mj_Y.code kY 100 11 = some (.iconst 1) ∧ Int32.ofInt 1 = 1 ∧ 12 = 11 + 1 := by decide +kernel
theorem c100_12 : mj_Y.code kY 100 12 = some .iadd ∧ 13 = 12 + 1 := by decide +kernel
theorem c100_13 : mj_Y.code kY 100 13 = some (.goto 4) ∧ mj_tg 13 4 = some 17 := by decide +kernel
theorem c100_16 : mj_Y.code kY 100 16 = some (.iload_n 1) ∧ ((1 : Fin 4) : Nat) = 1 ∧ 17 = 16 + 1 := by decide +kernel
theorem c100_17 : mj_Y.code kY 100 17 = some (.invokestatic 3) ∧ mj_Y.pr kY 100 3 = none ∧ mj_Y.cs kY 100 3 = some (101, 2) ∧ mj_Y.nL kY 101 = 6 ∧ 20 = 17 + 3 := by decide +kernel
theorem c100_20 : mj_Y.code kY 100 20 = some (.invokespecial 7) ∧ mj_Y.pr kY 100 7 = none ∧ mj_Y.cp kY 100 7 = some (92, 1) ∧ mj_Y.nL kY 92 = 3 ∧ 23 = 20 + 3 := by decide +kernel
theorem c100_23 : mj_Y.code kY 100 23 = some (.aload_n 0) ∧ ((0 : Fin 4) : Nat) = 0 ∧ 24 = 23 + 1 := by decide +kernel
theorem c100_24 : mj_Y.code kY 100 24 = some .aconst_null ∧ 25 = 24 + 1 := by decide +kernel
theorem c100_25 : mj_Y.code kY 100 25 = some (.putfield 13) ∧ mj_Y.fl kY 100 13 8 = some (4, (.array .long), true) ∧ 28 = 25 + 3 := by decide +kernel
theorem c100_28 : mj_Y.code kY 100 28 = some (.aload_n 0) ∧ ((0 : Fin 4) : Nat) = 0 ∧ 29 = 28 + 1 := by decide +kernel
theorem c100_29 : mj_Y.code kY 100 29 = some (.iload_n 1) ∧ ((1 : Fin 4) : Nat) = 1 ∧ 30 = 29 + 1 := by decide +kernel
theorem c100_30 : mj_Y.code kY 100 30 = some (.putfield 19) ∧ mj_Y.fl kY 100 19 8 = some (0, .int, true) ∧ 33 = 30 + 3 := by decide +kernel
theorem c100_33 : mj_Y.code kY 100 33 = some (.aload_n 0) ∧ ((0 : Fin 4) : Nat) = 0 ∧ 34 = 33 + 1 := by decide +kernel
theorem c100_34 : mj_Y.code kY 100 34 = some (.iload_n 2) ∧ ((2 : Fin 4) : Nat) = 2 ∧ 35 = 34 + 1 := by decide +kernel
theorem c100_35 : mj_Y.code kY 100 35 = some (.putfield 23) ∧ mj_Y.fl kY 100 23 8 = some (1, .int, true) ∧ 38 = 35 + 3 := by decide +kernel
theorem c100_38 : mj_Y.code kY 100 38 = some (.aload_n 0) ∧ ((0 : Fin 4) : Nat) = 0 ∧ 39 = 38 + 1 := by decide +kernel
theorem c100_39 : mj_Y.code kY 100 39 = some (.iload_n 3) ∧ ((3 : Fin 4) : Nat) = 3 ∧ 40 = 39 + 1 := by decide +kernel
theorem c100_40 : mj_Y.code kY 100 40 = some (.putfield 26) ∧ mj_Y.fl kY 100 26 8 = some (2, .char, true) ∧ 43 = 40 + 3 := by decide +kernel
theorem c100_43 : mj_Y.code kY 100 43 = some (.aload_n 0) ∧ ((0 : Fin 4) : Nat) = 0 ∧ 44 = 43 + 1 := by decide +kernel
theorem c100_44 : mj_Y.code kY 100 44 = some (.iload 4) ∧ 4 = 4 ∧ 46 = 44 + 2 := by decide +kernel
theorem c100_46 : mj_Y.code kY 100 46 = some (.putfield 30) ∧ mj_Y.fl kY 100 30 8 = some (3, .int, true) ∧ 49 = 46 + 3 := by decide +kernel
theorem c100_49 : mj_Y.code kY 100 49 = some .return_ ∧ mj_Y.rt kY 100 = none := by decide +kernel
theorem c101_0 : mj_Y.code kY 101 0 = some (.lconst 1) ∧ Int64.ofNat ((1 : Fin 2) : Nat) = 1 ∧ 1 = 0 + 1 := by decide +kernel
theorem c101_1 : mj_Y.code kY 101 1 = some (.lstore_n 3) ∧ ((3 : Fin 4) : Nat) = 3 ∧ 3 + 1 < mj_Y.nL kY 101 ∧ 2 = 1 + 1 := by decide +kernel
theorem c101_2 : mj_Y.code kY 101 2 = some (.iconst 0) ∧ Int32.ofInt 0 = 0 ∧ 3 = 2 + 1 := by decide +kernel
theorem c101_3 : mj_Y.code kY 101 3 = some (.istore 5) ∧ 5 = 5 ∧ 5 < mj_Y.nL kY 101 ∧ 5 = 3 + 2 := by decide +kernel
theorem c101_5 : mj_Y.code kY 101 5 = some (.iload 5) ∧ 5 = 5 ∧ 7 = 5 + 2 := by decide +kernel
theorem c101_7 : mj_Y.code kY 101 7 = some (.iload_n 2) ∧ ((2 : Fin 4) : Nat) = 2 ∧ 8 = 7 + 1 := by decide +kernel
theorem c101_8 : mj_Y.code kY 101 8 = some (.if_icmp .ge 19) ∧ mj_tg 8 19 = some 27 ∧ 11 = 8 + 3 := by decide +kernel
theorem c101_11 : mj_Y.code kY 101 11 = some (.lload_n 3) ∧ ((3 : Fin 4) : Nat) = 3 ∧ 12 = 11 + 1 := by decide +kernel
theorem c101_12 : mj_Y.code kY 101 12 = some (.lload_n 0) ∧ ((0 : Fin 4) : Nat) = 0 ∧ 13 = 12 + 1 := by decide +kernel
theorem c101_13 : mj_Y.code kY 101 13 = some .lmul ∧ 14 = 13 + 1 := by decide +kernel
theorem c101_14 : mj_Y.code kY 101 14 = some (.ldc2_w 188) ∧ mj_Y.ck kY 101 188 = some (.long 2147483649) ∧ 17 = 14 + 3 := by decide +kernel
theorem c101_17 : mj_Y.code kY 101 17 = some (.invokestatic 190) ∧ mj_Y.pr kY 101 190 = none ∧ mj_Y.cs kY 101 190 = some (103, 2) ∧ mj_Y.nL kY 103 = 4 ∧ 20 = 17 + 3 := by decide +kernel
theorem c101_20 : mj_Y.code kY 101 20 = some (.lstore_n 3) ∧ ((3 : Fin 4) : Nat) = 3 ∧ 3 + 1 < mj_Y.nL kY 101 ∧ 21 = 20 + 1 := by decide +kernel
theorem c101_21 : mj_Y.code kY 101 21 = some (.iinc 5 1) ∧ 5 < mj_Y.nL kY 101 ∧ Int32.ofInt 1 = 1 ∧ 24 = 21 + 3 := by decide +kernel
theorem c101_24 : mj_Y.code kY 101 24 = some (.goto (-19)) ∧ mj_tg 24 (-19) = some 5 := by decide +kernel
theorem c101_27 : mj_Y.code kY 101 27 = some (.lload_n 3) ∧ ((3 : Fin 4) : Nat) = 3 ∧ 28 = 27 + 1 := by decide +kernel
theorem c101_28 : mj_Y.code kY 101 28 = some .lreturn ∧ mj_Y.rt kY 101 = some .long := by decide +kernel
theorem c102_0 : mj_Y.code kY 102 0 = some (.lload_n 0) ∧ ((0 : Fin 4) : Nat) = 0 ∧ 1 = 0 + 1 := by decide +kernel
theorem c102_1 : mj_Y.code kY 102 1 = some (.lload_n 2) ∧ ((2 : Fin 4) : Nat) = 2 ∧ 2 = 1 + 1 := by decide +kernel
theorem c102_2 : mj_Y.code kY 102 2 = some .lmul ∧ 3 = 2 + 1 := by decide +kernel
theorem c102_3 : mj_Y.code kY 102 3 = some (.ldc2_w 188) ∧ mj_Y.ck kY 102 188 = some (.long 2147483649) ∧ 6 = 3 + 3 := by decide +kernel
theorem c102_6 : mj_Y.code kY 102 6 = some (.invokestatic 190) ∧ mj_Y.pr kY 102 190 = none ∧ mj_Y.cs kY 102 190 = some (103, 2) ∧ mj_Y.nL kY 103 = 4 ∧ 9 = 6 + 3 := by decide +kernel
theorem c102_9 : mj_Y.code kY 102 9 = some .lreturn ∧ mj_Y.rt kY 102 = some .long := by decide +kernel
theorem c103_0 : mj_Y.code kY 103 0 = some (.lload_n 0) ∧ ((0 : Fin 4) : Nat) = 0 ∧ 1 = 0 + 1 := by decide +kernel
theorem c103_1 : mj_Y.code kY 103 1 = some (.lload_n 2) ∧ ((2 : Fin 4) : Nat) = 2 ∧ 2 = 1 + 1 := by decide +kernel
theorem c103_2 : mj_Y.code kY 103 2 = some .lcmp ∧ 3 = 2 + 1 := by decide +kernel
theorem c103_3 : mj_Y.code kY 103 3 = some (.ifCond .gt 7) ∧ mj_tg 3 7 = some 10 ∧ 6 = 3 + 3 := by decide +kernel
theorem c103_6 : mj_Y.code kY 103 6 = some (.lload_n 0) ∧ ((0 : Fin 4) : Nat) = 0 ∧ 7 = 6 + 1 := by decide +kernel
theorem c103_7 : mj_Y.code kY 103 7 = some (.goto 4) ∧ mj_tg 7 4 = some 11 := by decide +kernel
theorem c103_10 : mj_Y.code kY 103 10 = some (.lload_n 2) ∧ ((2 : Fin 4) : Nat) = 2 ∧ 11 = 10 + 1 := by decide +kernel
theorem c103_11 : mj_Y.code kY 103 11 = some .lreturn ∧ mj_Y.rt kY 103 = some .long := by decide +kernel
theorem c104_0 : mj_Y.code kY 104 0 = some (.aload_n 0) ∧ ((0 : Fin 4) : Nat) = 0 ∧ 1 = 0 + 1 := by decide +kernel
theorem c104_1 : mj_Y.code kY 104 1 = some (.bipush 91) ∧ (Int8.ofInt 91).toInt32 = 91 ∧ 3 = 1 + 2 := by decide +kernel
theorem c104_3 : mj_Y.code kY 104 3 = some (.invokevirtual 98) ∧ mj_Y.na kY 104 98 = some 1 ∧ mj_Y.cv kY 104 98 1 = some 94 ∧ mj_Y.nL kY 94 = 2 ∧ 6 = 3 + 3 := by decide +kernel
theorem c104_6 : mj_Y.code kY 104 6 = some (.aload_n 0) ∧ ((0 : Fin 4) : Nat) = 0 ∧ 7 = 6 + 1 := by decide +kernel
theorem c104_7 : mj_Y.code kY 104 7 = some (.getfield 15) ∧ mj_Y.fl kY 104 15 1 = some (1, (.array .int), false) ∧ 10 = 7 + 3 := by decide +kernel
theorem c104_10 : mj_Y.code kY 104 10 = some (.iconst 0) ∧ Int32.ofInt 0 = 0 ∧ 11 = 10 + 1 := by decide +kernel
theorem c104_11 : mj_Y.code kY 104 11 = some (.aload_n 0) ∧ ((0 : Fin 4) : Nat) = 0 ∧ 12 = 11 + 1 := by decide +kernel
theorem c104_12 : mj_Y.code kY 104 12 = some (.iconst 0) ∧ Int32.ofInt 0 = 0 ∧ 13 = 12 + 1 := by decide +kernel
theorem c104_13 : mj_Y.code kY 104 13 = some (.sipush 999) ∧ (Int16.ofInt 999).toInt32 = 999 ∧ 16 = 13 + 3 := by decide +kernel
theorem c104_16 : mj_Y.code kY 104 16 = some (.invokevirtual 112) ∧ mj_Y.na kY 104 112 = some 2 ∧ mj_Y.cv kY 104 112 1 = some 99 ∧ mj_Y.nL kY 99 = 6 ∧ 19 = 16 + 3 := by decide +kernel
theorem c104_19 : mj_Y.code kY 104 19 = some .iastore ∧ 20 = 19 + 1 := by decide +kernel
theorem c104_20 : mj_Y.code kY 104 20 = some (.iconst 1) ∧ Int32.ofInt 1 = 1 ∧ 21 = 20 + 1 := by decide +kernel
theorem c104_21 : mj_Y.code kY 104 21 = some (.istore_n 1) ∧ ((1 : Fin 4) : Nat) = 1 ∧ 1 < mj_Y.nL kY 104 ∧ 22 = 21 + 1 := by decide +kernel
theorem c104_22 : mj_Y.code kY 104 22 = some (.iload_n 1) ∧ ((1 : Fin 4) : Nat) = 1 ∧ 23 = 22 + 1 := by decide +kernel
theorem c104_23 : mj_Y.code kY 104 23 = some (.bipush 8) ∧ (Int8.ofInt 8).toInt32 = 8 ∧ 25 = 23 + 2 := by decide +kernel
theorem c104_25 : mj_Y.code kY 104 25 = some (.if_icmp .ge 42) ∧ mj_tg 25 42 = some 67 ∧ 28 = 25 + 3 := by decide +kernel
theorem c104_28 : mj_Y.code kY 104 28 = some (.aload_n 0) ∧ ((0 : Fin 4) : Nat) = 0 ∧ 29 = 28 + 1 := by decide +kernel
theorem c104_29 : mj_Y.code kY 104 29 = some (.invokevirtual 77) ∧ mj_Y.na kY 104 77 = some 0 ∧ mj_Y.cv kY 104 77 1 = some 84 ∧ mj_Y.nL kY 84 = 1 ∧ 32 = 29 + 3 := by decide +kernel
theorem c104_32 : mj_Y.code kY 104 32 = some (.bipush 44) ∧ (Int8.ofInt 44).toInt32 = 44 ∧ 34 = 32 + 2 := by decide +kernel
theorem c104_34 : mj_Y.code kY 104 34 = some (.if_icmp .ne 33) ∧ mj_tg 34 33 = some 67 ∧ 37 = 34 + 3 := by decide +kernel
theorem c104_37 : mj_Y.code kY 104 37 = some (.aload_n 0) ∧ ((0 : Fin 4) : Nat) = 0 ∧ 38 = 37 + 1 := by decide +kernel
theorem c104_38 : mj_Y.code kY 104 38 = some .dup ∧ 39 = 38 + 1 := by decide +kernel
theorem c104_39 : mj_Y.code kY 104 39 = some (.getfield 23) ∧ mj_Y.fl kY 104 23 1 = some (3, .int, true) ∧ 42 = 39 + 3 := by decide +kernel
theorem c104_42 : mj_Y.code kY 104 42 = some (.iconst 1) ∧ Int32.ofInt 1 = 1 ∧ 43 = 42 + 1 := by decide +kernel
theorem c104_43 : mj_Y.code kY 104 43 = some .iadd ∧ 44 = 43 + 1 := by decide +kernel
theorem c104_44 : mj_Y.code kY 104 44 = some (.putfield 23) ∧ mj_Y.fl kY 104 23 1 = some (3, .int, true) ∧ 47 = 44 + 3 := by decide +kernel
theorem c104_47 : mj_Y.code kY 104 47 = some (.aload_n 0) ∧ ((0 : Fin 4) : Nat) = 0 ∧ 48 = 47 + 1 := by decide +kernel
theorem c104_48 : mj_Y.code kY 104 48 = some (.getfield 15) ∧ mj_Y.fl kY 104 15 1 = some (1, (.array .int), false) ∧ 51 = 48 + 3 := by decide +kernel
theorem c104_51 : mj_Y.code kY 104 51 = some (.iload_n 1) ∧ ((1 : Fin 4) : Nat) = 1 ∧ 52 = 51 + 1 := by decide +kernel
theorem c104_52 : mj_Y.code kY 104 52 = some (.aload_n 0) ∧ ((0 : Fin 4) : Nat) = 0 ∧ 53 = 52 + 1 := by decide +kernel
theorem c104_53 : mj_Y.code kY 104 53 = some (.iconst 0) ∧ Int32.ofInt 0 = 0 ∧ 54 = 53 + 1 := by decide +kernel
theorem c104_54 : mj_Y.code kY 104 54 = some (.sipush 999) ∧ (Int16.ofInt 999).toInt32 = 999 ∧ 57 = 54 + 3 := by decide +kernel
theorem c104_57 : mj_Y.code kY 104 57 = some (.invokevirtual 112) ∧ mj_Y.na kY 104 112 = some 2 ∧ mj_Y.cv kY 104 112 1 = some 99 ∧ mj_Y.nL kY 99 = 6 ∧ 60 = 57 + 3 := by decide +kernel
theorem c104_60 : mj_Y.code kY 104 60 = some .iastore ∧ 61 = 60 + 1 := by decide +kernel
theorem c104_61 : mj_Y.code kY 104 61 = some (.iinc 1 1) ∧ 1 < mj_Y.nL kY 104 ∧ Int32.ofInt 1 = 1 ∧ 64 = 61 + 3 := by decide +kernel
theorem c104_64 : mj_Y.code kY 104 64 = some (.goto (-42)) ∧ mj_tg 64 (-42) = some 22 := by decide +kernel
theorem c104_67 : mj_Y.code kY 104 67 = some (.aload_n 0) ∧ ((0 : Fin 4) : Nat) = 0 ∧ 68 = 67 + 1 := by decide +kernel
theorem c104_68 : mj_Y.code kY 104 68 = some (.bipush 93) ∧ (Int8.ofInt 93).toInt32 = 93 ∧ 70 = 68 + 2 := by decide +kernel
theorem c104_70 : mj_Y.code kY 104 70 = some (.invokevirtual 98) ∧ mj_Y.na kY 104 98 = some 1 ∧ mj_Y.cv kY 104 98 1 = some 94 ∧ mj_Y.nL kY 94 = 2 ∧ 73 = 70 + 3 := by decide +kernel
theorem c104_73 : mj_Y.code kY 104 73 = some (.new 159) ∧ mj_Y.ex kY 104 159 = none ∧ mj_Y.nw kY 104 159 = some (9, 2, [.null, .long 0]) ∧ 76 = 73 + 3 := by decide +kernel
theorem c104_76 : mj_Y.code kY 104 76 = some .dup ∧ 77 = 76 + 1 := by decide +kernel
theorem c104_77 : mj_Y.code kY 104 77 = some (.aload_n 0) ∧ ((0 : Fin 4) : Nat) = 0 ∧ 78 = 77 + 1 := by decide +kernel
theorem c104_78 : mj_Y.code kY 104 78 = some (.getfield 15) ∧ mj_Y.fl kY 104 15 1 = some (1, (.array .int), false) ∧ 81 = 78 + 3 := by decide +kernel
theorem c104_81 : mj_Y.code kY 104 81 = some (.iload_n 1) ∧ ((1 : Fin 4) : Nat) = 1 ∧ 82 = 81 + 1 := by decide +kernel
theorem c104_82 : mj_Y.code kY 104 82 = some (.invokestatic 161) ∧ mj_Y.pr kY 104 161 = none ∧ mj_Y.cs kY 104 161 = some (105, 2) ∧ mj_Y.nL kY 105 = 3 ∧ 85 = 82 + 3 := by decide +kernel
theorem c104_85 : mj_Y.code kY 104 85 = some (.invokespecial 167) ∧ mj_Y.pr kY 104 167 = none ∧ mj_Y.cp kY 104 167 = some (106, 1) ∧ mj_Y.nL kY 106 = 2 ∧ 88 = 85 + 3 := by decide +kernel
theorem c104_88 : mj_Y.code kY 104 88 = some .areturn ∧ mj_Y.rt kY 104 = some (.object "DiceOdds$Expression") ∧ ((.object "DiceOdds$Expression") : FieldType).isReference = true := by decide +kernel
theorem nh104 : mj_Y.nh kY 104 = true := by decide +kernel
theorem c105_0 : mj_Y.code kY 105 0 = some (.iload_n 1) ∧ ((1 : Fin 4) : Nat) = 1 ∧ 1 = 0 + 1 := by decide +kernel
theorem c105_1 : mj_Y.code kY 105 1 = some (.aload_n 0) ∧ ((0 : Fin 4) : Nat) = 0 ∧ 2 = 1 + 1 := by decide +kernel
theorem c105_2 : mj_Y.code kY 105 2 = some .arraylength ∧ 3 = 2 + 1 := by decide +kernel
theorem c105_3 : mj_Y.code kY 105 3 = some (.if_icmp .ne 11) ∧ mj_tg 3 11 = some 14 ∧ 6 = 3 + 3 := by decide +kernel
theorem c105_6 : mj_Y.code kY 105 6 = some (.aload_n 0) ∧ ((0 : Fin 4) : Nat) = 0 ∧ 7 = 6 + 1 := by decide +kernel
theorem c105_7 : mj_Y.code kY 105 7 = some (.invokevirtual 316) ∧ mj_Y.na kY 105 316 = none ∧ mj_Y.pr kY 105 316 = some 7 ∧ 10 = 7 + 3 := by decide +kernel
theorem c105_10 : mj_Y.code kY 105 10 = some (.checkcast 317) ∧ mj_Y.pr kY 105 317 = some 3 ∧ 13 = 10 + 3 := by decide +kernel
theorem c105_13 : mj_Y.code kY 105 13 = some .areturn ∧ mj_Y.rt kY 105 = some (.array .int) ∧ ((.array .int) : FieldType).isReference = true := by decide +kernel
theorem c105_14 : mj_Y.code kY 105 14 = some (.iload_n 1) ∧ ((1 : Fin 4) : Nat) = 1 ∧ 15 = 14 + 1 := by decide +kernel
theorem c105_15 : mj_Y.code kY 105 15 = some (.newarray .int) ∧ newarray.typeOf .int = .int ∧ 17 = 15 + 2 := by decide +kernel
theorem c105_17 : mj_Y.code kY 105 17 = some (.astore_n 2) ∧ ((2 : Fin 4) : Nat) = 2 ∧ 2 < mj_Y.nL kY 105 ∧ 18 = 17 + 1 := by decide +kernel
theorem c105_18 : mj_Y.code kY 105 18 = some (.aload_n 0) ∧ ((0 : Fin 4) : Nat) = 0 ∧ 19 = 18 + 1 := by decide +kernel
theorem c105_19 : mj_Y.code kY 105 19 = some (.iconst 0) ∧ Int32.ofInt 0 = 0 ∧ 20 = 19 + 1 := by decide +kernel
theorem c105_20 : mj_Y.code kY 105 20 = some (.aload_n 2) ∧ ((2 : Fin 4) : Nat) = 2 ∧ 21 = 20 + 1 := by decide +kernel
theorem c105_21 : mj_Y.code kY 105 21 = some (.iconst 0) ∧ Int32.ofInt 0 = 0 ∧ 22 = 21 + 1 := by decide +kernel
theorem c105_22 : mj_Y.code kY 105 22 = some (.aload_n 0) ∧ ((0 : Fin 4) : Nat) = 0 ∧ 23 = 22 + 1 := by decide +kernel
theorem c105_23 : mj_Y.code kY 105 23 = some .arraylength ∧ 24 = 23 + 1 := by decide +kernel
theorem c105_24 : mj_Y.code kY 105 24 = some (.iload_n 1) ∧ ((1 : Fin 4) : Nat) = 1 ∧ 25 = 24 + 1 := by decide +kernel
theorem c105_25 : mj_Y.code kY 105 25 = some (.invokestatic 304) ∧ mj_Y.pr kY 105 304 = none ∧ mj_Y.cs kY 105 304 = some (21, 2) ∧ mj_Y.nL kY 21 = 2 ∧ 28 = 25 + 3 := by decide +kernel
theorem c105_28 : mj_Y.code kY 105 28 = some (.invokestatic 150) ∧ mj_Y.pr kY 105 150 = some 0 ∧ 31 = 28 + 3 := by decide +kernel
theorem c105_31 : mj_Y.code kY 105 31 = some (.aload_n 2) ∧ ((2 : Fin 4) : Nat) = 2 ∧ 32 = 31 + 1 := by decide +kernel
theorem c105_32 : mj_Y.code kY 105 32 = some .areturn ∧ mj_Y.rt kY 105 = some (.array .int) ∧ ((.array .int) : FieldType).isReference = true := by decide +kernel
theorem c106_0 : mj_Y.code kY 106 0 = some (.aload_n 0) ∧ ((0 : Fin 4) : Nat) = 0 ∧ 1 = 0 + 1 := by decide +kernel
theorem c106_1 : mj_Y.code kY 106 1 = some (.aload_n 1) ∧ ((1 : Fin 4) : Nat) = 1 ∧ 2 = 1 + 1 := by decide +kernel
theorem c106_2 : mj_Y.code kY 106 2 = some .arraylength ∧ 3 = 2 + 1 := by decide +kernel
theorem c106_3 : mj_Y.code kY 106 3 = some .i2l ∧ 4 = 3 + 1 := by decide +kernel
theorem c106_4 : mj_Y.code kY 106 4 = some (.invokespecial 1) ∧ mj_Y.pr kY 106 1 = none ∧ mj_Y.cp kY 106 1 = some (92, 1) ∧ mj_Y.nL kY 92 = 3 ∧ 7 = 4 + 3 := by decide +kernel
theorem c106_7 : mj_Y.code kY 106 7 = some (.aload_n 0) ∧ ((0 : Fin 4) : Nat) = 0 ∧ 8 = 7 + 1 := by decide +kernel
theorem c106_8 : mj_Y.code kY 106 8 = some (.aload_n 1) ∧ ((1 : Fin 4) : Nat) = 1 ∧ 9 = 8 + 1 := by decide +kernel
theorem c106_9 : mj_Y.code kY 106 9 = some (.putfield 7) ∧ mj_Y.fl kY 106 7 9 = some (0, (.array .int), true) ∧ 12 = 9 + 3 := by decide +kernel
theorem c106_12 : mj_Y.code kY 106 12 = some .return_ ∧ mj_Y.rt kY 106 = none := by decide +kernel
theorem c107_0 : mj_Y.code kY 107 0 = some (.aload_n 0) ∧ ((0 : Fin 4) : Nat) = 0 ∧ 1 = 0 + 1 := by decide +kernel
theorem c107_1 : mj_Y.code kY 107 1 = some (.getfield 23) ∧ mj_Y.fl kY 107 23 1 = some (3, .int, true) ∧ 4 = 1 + 3 := by decide +kernel
theorem c107_4 : mj_Y.code kY 107 4 = some (.istore_n 1) ∧ ((1 : Fin 4) : Nat) = 1 ∧ 1 < mj_Y.nL kY 107 ∧ 5 = 4 + 1 := by decide +kernel
theorem c107_5 : mj_Y.code kY 107 5 = some (.aload_n 0) ∧ ((0 : Fin 4) : Nat) = 0 ∧ 6 = 5 + 1 := by decide +kernel
theorem c107_6 : mj_Y.code kY 107 6 = some (.iconst 0) ∧ Int32.ofInt 0 = 0 ∧ 7 = 6 + 1 := by decide +kernel
theorem c107_7 : mj_Y.code kY 107 7 = some (.sipush 999) ∧ (Int16.ofInt 999).toInt32 = 999 ∧ 10 = 7 + 3 := by decide +kernel
theorem c107_10 : mj_Y.code kY 107 10 = some (.invokevirtual 112) ∧ mj_Y.na kY 107 112 = some 2 ∧ mj_Y.cv kY 107 112 1 = some 99 ∧ mj_Y.nL kY 99 = 6 ∧ 13 = 10 + 3 := by decide +kernel
theorem c107_13 : mj_Y.code kY 107 13 = some (.istore_n 2) ∧ ((2 : Fin 4) : Nat) = 2 ∧ 2 < mj_Y.nL kY 107 ∧ 14 = 13 + 1 := by decide +kernel
theorem c107_14 : mj_Y.code kY 107 14 = some (.aload_n 0) ∧ ((0 : Fin 4) : Nat) = 0 ∧ 15 = 14 + 1 := by decide +kernel
theorem c107_15 : mj_Y.code kY 107 15 = some (.invokevirtual 77) ∧ mj_Y.na kY 107 77 = some 0 ∧ mj_Y.cv kY 107 77 1 = some 84 ∧ mj_Y.nL kY 84 = 1 ∧ 18 = 15 + 3 := by decide +kernel
theorem c107_18 : mj_Y.code kY 107 18 = some (.bipush 100) ∧ (Int8.ofInt 100).toInt32 = 100 ∧ 20 = 18 + 2 := by decide +kernel
theorem c107_20 : mj_Y.code kY 107 20 = some (.if_icmp .eq 15) ∧ mj_tg 20 15 = some 35 ∧ 23 = 20 + 3 := by decide +kernel
theorem c107_23 : mj_Y.code kY 107 23 = some (.new 115) ∧ mj_Y.ex kY 107 115 = none ∧ mj_Y.nw kY 107 115 = some (7, 3, [.int 0, .int 0, .long 0]) ∧ 26 = 23 + 3 := by decide +kernel
theorem c107_26 : mj_Y.code kY 107 26 = some .dup ∧ 27 = 26 + 1 := by decide +kernel
theorem c107_27 : mj_Y.code kY 107 27 = some (.sipush (-1000)) ∧ (Int16.ofInt (-1000)).toInt32 = (-1000) ∧ 30 = 27 + 3 := by decide +kernel
theorem c107_30 : mj_Y.code kY 107 30 = some (.iload_n 2) ∧ ((2 : Fin 4) : Nat) = 2 ∧ 31 = 30 + 1 := by decide +kernel
theorem c107_31 : mj_Y.code kY 107 31 = some (.invokespecial 117) ∧ mj_Y.pr kY 107 117 = none ∧ mj_Y.cp kY 107 117 = some (97, 2) ∧ mj_Y.nL kY 97 = 3 ∧ 34 = 31 + 3 := by decide +kernel
theorem c107_34 : mj_Y.code kY 107 34 = some .areturn ∧ mj_Y.rt kY 107 = some (.object "DiceOdds$Expression") ∧ ((.object "DiceOdds$Expression") : FieldType).isReference = true := by decide +kernel
theorem c107_35 : mj_Y.code kY 107 35 = some (.aload_n 0) ∧ ((0 : Fin 4) : Nat) = 0 ∧ 36 = 35 + 1 := by decide +kernel
theorem c107_36 : mj_Y.code kY 107 36 = some (.iload_n 2) ∧ ((2 : Fin 4) : Nat) = 2 ∧ 37 = 36 + 1 := by decide +kernel
theorem c107_37 : mj_Y.code kY 107 37 = some (.iconst 1) ∧ Int32.ofInt 1 = 1 ∧ 38 = 37 + 1 := by decide +kernel
theorem c107_38 : mj_Y.code kY 107 38 = some (.if_icmp .lt 13) ∧ mj_tg 38 13 = some 51 ∧ 41 = 38 + 3 := by decide +kernel
theorem c107_41 : mj_Y.code kY 107 41 = some (.iload_n 2) ∧ ((2 : Fin 4) : Nat) = 2 ∧ 42 = 41 + 1 := by decide +kernel
theorem c107_42 : mj_Y.code kY 107 42 = some (.bipush 6) ∧ (Int8.ofInt 6).toInt32 = 6 ∧ 44 = 42 + 2 := by decide +kernel
theorem c107_44 : mj_Y.code kY 107 44 = some (.if_icmp .gt 7) ∧ mj_tg 44 7 = some 51 ∧ 47 = 44 + 3 := by decide +kernel
theorem c107_47 : mj_Y.code kY 107 47 = some (.iconst 1) ∧ Int32.ofInt 1 = 1 ∧ 48 = 47 + 1 := by decide +kernel
theorem c107_48 : mj_Y.code kY 107 48 = some (.goto 4) ∧ mj_tg 48 4 = some 52 := by decide +kernel
theorem c107_51 : mj_Y.code kY 107 51 = some (.iconst 0) ∧ Int32.ofInt 0 = 0 ∧ 52 = 51 + 1 := by decide +kernel
theorem c107_52 : mj_Y.code kY 107 52 = some (.iload_n 1) ∧ ((1 : Fin 4) : Nat) = 1 ∧ 53 = 52 + 1 := by decide +kernel
theorem c107_53 : mj_Y.code kY 107 53 = some (.invokevirtual 43) ∧ mj_Y.na kY 107 43 = some 2 ∧ mj_Y.cv kY 107 43 1 = some 87 ∧ mj_Y.nL kY 87 = 3 ∧ 56 = 53 + 3 := by decide +kernel
theorem c107_56 : mj_Y.code kY 107 56 = some (.aload_n 0) ∧ ((0 : Fin 4) : Nat) = 0 ∧ 57 = 56 + 1 := by decide +kernel
theorem c107_57 : mj_Y.code kY 107 57 = some (.iload_n 2) ∧ ((2 : Fin 4) : Nat) = 2 ∧ 58 = 57 + 1 := by decide +kernel
theorem c107_58 : mj_Y.code kY 107 58 = some (.invokevirtual 148) ∧ mj_Y.na kY 107 148 = some 1 ∧ mj_Y.cv kY 107 148 1 = some 98 ∧ mj_Y.nL kY 98 = 4 ∧ 61 = 58 + 3 := by decide +kernel
theorem c107_61 : mj_Y.code kY 107 61 = some .areturn ∧ mj_Y.rt kY 107 = some (.object "DiceOdds$Expression") ∧ ((.object "DiceOdds$Expression") : FieldType).isReference = true := by decide +kernel
theorem nh107 : mj_Y.nh kY 107 = true := by decide +kernel
theorem c108_0 : mj_Y.code kY 108 0 = some (.iload_n 0) ∧ ((0 : Fin 4) : Nat) = 0 ∧ 1 = 0 + 1 := by decide +kernel
theorem c108_1_d {x : Int32} (b0 : mj_c2 .eq x 37 = false) (b1 : mj_c2 .eq x 42 = false) (b2 : mj_c2 .eq x 43 = false) (b3 : mj_c2 .eq x 45 = false) (b4 : mj_c2 .eq x 47 = false) (b5 : mj_c2 .eq x 60 = false) (b6 : mj_c2 .eq x 61 = false) (b7 : mj_c2 .eq x 62 = false) : mj_Y.code kY 108 1 = some (.tableswitch 125 37 62 #[123, 125, 125, 125, 125, 123, 121, 125, 121, 125, 123, 125, 125, 125, 125, 125, 125, 125, 125, 125, 125, 125, 125, 119, 119, 119]) ∧ r_np (.tableswitch 125 37 62 #[123, 125, 125, 125, 125, 123, 121, 125, 121, 125, 123, 125, 125, 125, 125, 125, 125, 125, 125, 125, 125, 125, 125, 119, 119, 119]) = true ∧ ∀ (l : mj_L) (st : List Value), mj_p (mj_Y.nL kY 108) 1 (.tableswitch 125 37 62 #[123, 125, 125, 125, 125, 123, 121, 125, 121, 125, 123, 125, 125, 125, 125, 125, 125, 125, 125, 125, 125, 125, 125, 119, 119, 119]) l (.int x :: st) = some (126, l, st) := by
  refine ⟨by decide +kernel, rfl, fun l st => ?_⟩
  by_cases g38 : x = 38
  · subst g38
    rfl
  have m38 : x.toInt ≠ 38 := fun h => g38 (Int32.toInt_inj.mp (h.trans (show 38 = (38 : Int32).toInt from rfl)))
  by_cases g39 : x = 39
  · subst g39
    rfl
  have m39 : x.toInt ≠ 39 := fun h => g39 (Int32.toInt_inj.mp (h.trans (show 39 = (39 : Int32).toInt from rfl)))
  by_cases g40 : x = 40
  · subst g40
    rfl
  have m40 : x.toInt ≠ 40 := fun h => g40 (Int32.toInt_inj.mp (h.trans (show 40 = (40 : Int32).toInt from rfl)))
  by_cases g41 : x = 41
  · subst g41
    rfl
  have m41 : x.toInt ≠ 41 := fun h => g41 (Int32.toInt_inj.mp (h.trans (show 41 = (41 : Int32).toInt from rfl)))
  by_cases g44 : x = 44
  · subst g44
    rfl
  have m44 : x.toInt ≠ 44 := fun h => g44 (Int32.toInt_inj.mp (h.trans (show 44 = (44 : Int32).toInt from rfl)))
  by_cases g46 : x = 46
  · subst g46
    rfl
  have m46 : x.toInt ≠ 46 := fun h => g46 (Int32.toInt_inj.mp (h.trans (show 46 = (46 : Int32).toInt from rfl)))
  by_cases g48 : x = 48
  · subst g48
    rfl
  have m48 : x.toInt ≠ 48 := fun h => g48 (Int32.toInt_inj.mp (h.trans (show 48 = (48 : Int32).toInt from rfl)))
  by_cases g49 : x = 49
  · subst g49
    rfl
  have m49 : x.toInt ≠ 49 := fun h => g49 (Int32.toInt_inj.mp (h.trans (show 49 = (49 : Int32).toInt from rfl)))
  by_cases g50 : x = 50
  · subst g50
    rfl
  have m50 : x.toInt ≠ 50 := fun h => g50 (Int32.toInt_inj.mp (h.trans (show 50 = (50 : Int32).toInt from rfl)))
  by_cases g51 : x = 51
  · subst g51
    rfl
  have m51 : x.toInt ≠ 51 := fun h => g51 (Int32.toInt_inj.mp (h.trans (show 51 = (51 : Int32).toInt from rfl)))
  by_cases g52 : x = 52
  · subst g52
    rfl
  have m52 : x.toInt ≠ 52 := fun h => g52 (Int32.toInt_inj.mp (h.trans (show 52 = (52 : Int32).toInt from rfl)))
  by_cases g53 : x = 53
  · subst g53
    rfl
  have m53 : x.toInt ≠ 53 := fun h => g53 (Int32.toInt_inj.mp (h.trans (show 53 = (53 : Int32).toInt from rfl)))
  by_cases g54 : x = 54
  · subst g54
    rfl
  have m54 : x.toInt ≠ 54 := fun h => g54 (Int32.toInt_inj.mp (h.trans (show 54 = (54 : Int32).toInt from rfl)))
  by_cases g55 : x = 55
  · subst g55
    rfl
  have m55 : x.toInt ≠ 55 := fun h => g55 (Int32.toInt_inj.mp (h.trans (show 55 = (55 : Int32).toInt from rfl)))
  by_cases g56 : x = 56
  · subst g56
    rfl
  have m56 : x.toInt ≠ 56 := fun h => g56 (Int32.toInt_inj.mp (h.trans (show 56 = (56 : Int32).toInt from rfl)))
  by_cases g57 : x = 57
  · subst g57
    rfl
  have m57 : x.toInt ≠ 57 := fun h => g57 (Int32.toInt_inj.mp (h.trans (show 57 = (57 : Int32).toInt from rfl)))
  by_cases g58 : x = 58
  · subst g58
    rfl
  have m58 : x.toInt ≠ 58 := fun h => g58 (Int32.toInt_inj.mp (h.trans (show 58 = (58 : Int32).toInt from rfl)))
  by_cases g59 : x = 59
  · subst g59
    rfl
  have m59 : x.toInt ≠ 59 := fun h => g59 (Int32.toInt_inj.mp (h.trans (show 59 = (59 : Int32).toInt from rfl)))
  have n0 : x.toInt ≠ 37 := fun h => of_decide_eq_false b0 (Int32.toInt_inj.mp (h.trans (show 37 = (37 : Int32).toInt from rfl)))
  have n1 : x.toInt ≠ 42 := fun h => of_decide_eq_false b1 (Int32.toInt_inj.mp (h.trans (show 42 = (42 : Int32).toInt from rfl)))
  have n2 : x.toInt ≠ 43 := fun h => of_decide_eq_false b2 (Int32.toInt_inj.mp (h.trans (show 43 = (43 : Int32).toInt from rfl)))
  have n3 : x.toInt ≠ 45 := fun h => of_decide_eq_false b3 (Int32.toInt_inj.mp (h.trans (show 45 = (45 : Int32).toInt from rfl)))
  have n4 : x.toInt ≠ 47 := fun h => of_decide_eq_false b4 (Int32.toInt_inj.mp (h.trans (show 47 = (47 : Int32).toInt from rfl)))
  have n5 : x.toInt ≠ 60 := fun h => of_decide_eq_false b5 (Int32.toInt_inj.mp (h.trans (show 60 = (60 : Int32).toInt from rfl)))
  have n6 : x.toInt ≠ 61 := fun h => of_decide_eq_false b6 (Int32.toInt_inj.mp (h.trans (show 61 = (61 : Int32).toInt from rfl)))
  have n7 : x.toInt ≠ 62 := fun h => of_decide_eq_false b7 (Int32.toInt_inj.mp (h.trans (show 62 = (62 : Int32).toInt from rfl)))
  have hx : x.toInt < 37 ∨ 62 < x.toInt := by omega
  show (if x.toInt < 37 ∨ 62 < x.toInt then _ else _) = _
  rw [if_pos hx]
  rfl
theorem c108_1_37 : mj_Y.code kY 108 1 = some (.tableswitch 125 37 62 #[123, 125, 125, 125, 125, 123, 121, 125, 121, 125, 123, 125, 125, 125, 125, 125, 125, 125, 125, 125, 125, 125, 125, 119, 119, 119]) ∧ r_np (.tableswitch 125 37 62 #[123, 125, 125, 125, 125, 123, 121, 125, 121, 125, 123, 125, 125, 125, 125, 125, 125, 125, 125, 125, 125, 125, 125, 119, 119, 119]) = true ∧ ∀ (l : mj_L) (st : List Value), mj_p (mj_Y.nL kY 108) 1 (.tableswitch 125 37 62 #[123, 125, 125, 125, 125, 123, 121, 125, 121, 125, 123, 125, 125, 125, 125, 125, 125, 125, 125, 125, 125, 125, 125, 119, 119, 119]) l (.int 37 :: st) = some (124, l, st) := ⟨by decide +kernel, rfl, fun _ _ => rfl⟩
theorem c108_1_42 : mj_Y.code kY 108 1 = some (.tableswitch 125 37 62 #[123, 125, 125, 125, 125, 123, 121, 125, 121, 125, 123, 125, 125, 125, 125, 125, 125, 125, 125, 125, 125, 125, 125, 119, 119, 119]) ∧ r_np (.tableswitch 125 37 62 #[123, 125, 125, 125, 125, 123, 121, 125, 121, 125, 123, 125, 125, 125, 125, 125, 125, 125, 125, 125, 125, 125, 125, 119, 119, 119]) = true ∧ ∀ (l : mj_L) (st : List Value), mj_p (mj_Y.nL kY 108) 1 (.tableswitch 125 37 62 #[123, 125, 125, 125, 125, 123, 121, 125, 121, 125, 123, 125, 125, 125, 125, 125, 125, 125, 125, 125, 125, 125, 125, 119, 119, 119]) l (.int 42 :: st) = some (124, l, st) := ⟨by decide +kernel, rfl, fun _ _ => rfl⟩
theorem c108_1_43 : mj_Y.code kY 108 1 = some (.tableswitch 125 37 62 #[123, 125, 125, 125, 125, 123, 121, 125, 121, 125, 123, 125, 125, 125, 125, 125, 125, 125, 125, 125, 125, 125, 125, 119, 119, 119]) ∧ r_np (.tableswitch 125 37 62 #[123, 125, 125, 125, 125, 123, 121, 125, 121, 125, 123, 125, 125, 125, 125, 125, 125, 125, 125, 125, 125, 125, 125, 119, 119, 119]) = true ∧ ∀ (l : mj_L) (st : List Value), mj_p (mj_Y.nL kY 108) 1 (.tableswitch 125 37 62 #[123, 125, 125, 125, 125, 123, 121, 125, 121, 125, 123, 125, 125, 125, 125, 125, 125, 125, 125, 125, 125, 125, 125, 119, 119, 119]) l (.int 43 :: st) = some (122, l, st) := ⟨by decide +kernel, rfl, fun _ _ => rfl⟩
theorem c108_1_45 : mj_Y.code kY 108 1 = some (.tableswitch 125 37 62 #[123, 125, 125, 125, 125, 123, 121, 125, 121, 125, 123, 125, 125, 125, 125, 125, 125, 125, 125, 125, 125, 125, 125, 119, 119, 119]) ∧ r_np (.tableswitch 125 37 62 #[123, 125, 125, 125, 125, 123, 121, 125, 121, 125, 123, 125, 125, 125, 125, 125, 125, 125, 125, 125, 125, 125, 125, 119, 119, 119]) = true ∧ ∀ (l : mj_L) (st : List Value), mj_p (mj_Y.nL kY 108) 1 (.tableswitch 125 37 62 #[123, 125, 125, 125, 125, 123, 121, 125, 121, 125, 123, 125, 125, 125, 125, 125, 125, 125, 125, 125, 125, 125, 125, 119, 119, 119]) l (.int 45 :: st) = some (122, l, st) := ⟨by decide +kernel, rfl, fun _ _ => rfl⟩
theorem c108_1_47 : mj_Y.code kY 108 1 = some (.tableswitch 125 37 62 #[123, 125, 125, 125, 125, 123, 121, 125, 121, 125, 123, 125, 125, 125, 125, 125, 125, 125, 125, 125, 125, 125, 125, 119, 119, 119]) ∧ r_np (.tableswitch 125 37 62 #[123, 125, 125, 125, 125, 123, 121, 125, 121, 125, 123, 125, 125, 125, 125, 125, 125, 125, 125, 125, 125, 125, 125, 119, 119, 119]) = true ∧ ∀ (l : mj_L) (st : List Value), mj_p (mj_Y.nL kY 108) 1 (.tableswitch 125 37 62 #[123, 125, 125, 125, 125, 123, 121, 125, 121, 125, 123, 125, 125, 125, 125, 125, 125, 125, 125, 125, 125, 125, 125, 119, 119, 119]) l (.int 47 :: st) = some (124, l, st) := ⟨by decide +kernel, rfl, fun _ _ => rfl⟩
theorem c108_1_60 : mj_Y.code kY 108 1 = some (.tableswitch 125 37 62 #[123, 125, 125, 125, 125, 123, 121, 125, 121, 125, 123, 125, 125, 125, 125, 125, 125, 125, 125, 125, 125, 125, 125, 119, 119, 119]) ∧ r_np (.tableswitch 125 37 62 #[123, 125, 125, 125, 125, 123, 121, 125, 121, 125, 123, 125, 125, 125, 125, 125, 125, 125, 125, 125, 125, 125, 125, 119, 119, 119]) = true ∧ ∀ (l : mj_L) (st : List Value), mj_p (mj_Y.nL kY 108) 1 (.tableswitch 125 37 62 #[123, 125, 125, 125, 125, 123, 121, 125, 121, 125, 123, 125, 125, 125, 125, 125, 125, 125, 125, 125, 125, 125, 125, 119, 119, 119]) l (.int 60 :: st) = some (120, l, st) := ⟨by decide +kernel, rfl, fun _ _ => rfl⟩
theorem c108_1_61 : mj_Y.code kY 108 1 = some (.tableswitch 125 37 62 #[123, 125, 125, 125, 125, 123, 121, 125, 121, 125, 123, 125, 125, 125, 125, 125, 125, 125, 125, 125, 125, 125, 125, 119, 119, 119]) ∧ r_np (.tableswitch 125 37 62 #[123, 125, 125, 125, 125, 123, 121, 125, 121, 125, 123, 125, 125, 125, 125, 125, 125, 125, 125, 125, 125, 125, 125, 119, 119, 119]) = true ∧ ∀ (l : mj_L) (st : List Value), mj_p (mj_Y.nL kY 108) 1 (.tableswitch 125 37 62 #[123, 125, 125, 125, 125, 123, 121, 125, 121, 125, 123, 125, 125, 125, 125, 125, 125, 125, 125, 125, 125, 125, 125, 119, 119, 119]) l (.int 61 :: st) = some (120, l, st) := ⟨by decide +kernel, rfl, fun _ _ => rfl⟩
theorem c108_1_62 : mj_Y.code kY 108 1 = some (.tableswitch 125 37 62 #[123, 125, 125, 125, 125, 123, 121, 125, 121, 125, 123, 125, 125, 125, 125, 125, 125, 125, 125, 125, 125, 125, 125, 119, 119, 119]) ∧ r_np (.tableswitch 125 37 62 #[123, 125, 125, 125, 125, 123, 121, 125, 121, 125, 123, 125, 125, 125, 125, 125, 125, 125, 125, 125, 125, 125, 125, 119, 119, 119]) = true ∧ ∀ (l : mj_L) (st : List Value), mj_p (mj_Y.nL kY 108) 1 (.tableswitch 125 37 62 #[123, 125, 125, 125, 125, 123, 121, 125, 121, 125, 123, 125, 125, 125, 125, 125, 125, 125, 125, 125, 125, 125, 125, 119, 119, 119]) l (.int 62 :: st) = some (120, l, st) := ⟨by decide +kernel, rfl, fun _ _ => rfl⟩
theorem c108_120 : mj_Y.code kY 108 120 = some (.iconst 0) ∧ Int32.ofInt 0 = 0 ∧ 121 = 120 + 1 := by decide +kernel
theorem c108_121 : mj_Y.code kY 108 121 = some .ireturn ∧ mj_Y.rt kY 108 = some .int := by decide +kernel
theorem c108_122 : mj_Y.code kY 108 122 = some (.iconst 1) ∧ Int32.ofInt 1 = 1 ∧ 123 = 122 + 1 := by decide +kernel
theorem c108_123 : mj_Y.code kY 108 123 = some .ireturn ∧ mj_Y.rt kY 108 = some .int := by decide +kernel
theorem c108_124 : mj_Y.code kY 108 124 = some (.iconst 2) ∧ Int32.ofInt 2 = 2 ∧ 125 = 124 + 1 := by decide +kernel
theorem c108_125 : mj_Y.code kY 108 125 = some .ireturn ∧ mj_Y.rt kY 108 = some .int := by decide +kernel
theorem c108_126 : mj_Y.code kY 108 126 = some (.sipush (-1000)) ∧ (Int16.ofInt (-1000)).toInt32 = (-1000) ∧ 129 = 126 + 3 := by decide +kernel
theorem c108_129 : mj_Y.code kY 108 129 = some .ireturn ∧ mj_Y.rt kY 108 = some .int := by decide +kernel
theorem c109_0 : mj_Y.code kY 109 0 = some (.aload_n 0) ∧ ((0 : Fin 4) : Nat) = 0 ∧ 1 = 0 + 1 := by decide +kernel
theorem c109_1 : mj_Y.code kY 109 1 = some (.aload_n 2) ∧ ((2 : Fin 4) : Nat) = 2 ∧ 2 = 1 + 1 := by decide +kernel
theorem c109_2_t : ∀ c n, df c = some n → mj_Y.fl kY 109 3 c = some (n, .long, false) := by
  intro c n h
  have hc : c = 6 ∨ c = 7 ∨ c = 8 ∨ c = 9 ∨ c = 10 := df_c h
  rcases hc with rfl | rfl | rfl | rfl | rfl <;> (cases h; decide +kernel)
theorem c109_2 : mj_Y.code kY 109 2 = some (.getfield 3) ∧ 5 = 2 + 3 := by decide +kernel
theorem c109_5 : mj_Y.code kY 109 5 = some (.aload_n 3) ∧ ((3 : Fin 4) : Nat) = 3 ∧ 6 = 5 + 1 := by decide +kernel
theorem c109_6_t : ∀ c n, df c = some n → mj_Y.fl kY 109 3 c = some (n, .long, false) := by
  intro c n h
  have hc : c = 6 ∨ c = 7 ∨ c = 8 ∨ c = 9 ∨ c = 10 := df_c h
  rcases hc with rfl | rfl | rfl | rfl | rfl <;> (cases h; decide +kernel)
theorem c109_6 : mj_Y.code kY 109 6 = some (.getfield 3) ∧ 9 = 6 + 3 := by decide +kernel
theorem c109_9 : mj_Y.code kY 109 9 = some (.invokestatic 9) ∧ mj_Y.pr kY 109 9 = none ∧ mj_Y.cs kY 109 9 = some (102, 2) ∧ mj_Y.nL kY 102 = 4 ∧ 12 = 9 + 3 := by decide +kernel
theorem c109_12 : mj_Y.code kY 109 12 = some (.invokespecial 13) ∧ mj_Y.pr kY 109 13 = none ∧ mj_Y.cp kY 109 13 = some (92, 1) ∧ mj_Y.nL kY 92 = 3 ∧ 15 = 12 + 3 := by decide +kernel
theorem c109_15 : mj_Y.code kY 109 15 = some (.aload_n 0) ∧ ((0 : Fin 4) : Nat) = 0 ∧ 16 = 15 + 1 := by decide +kernel
theorem c109_16 : mj_Y.code kY 109 16 = some (.iload_n 1) ∧ ((1 : Fin 4) : Nat) = 1 ∧ 17 = 16 + 1 := by decide +kernel
theorem c109_17 : mj_Y.code kY 109 17 = some (.putfield 17) ∧ mj_Y.fl kY 109 17 10 = some (0, .char, true) ∧ 20 = 17 + 3 := by decide +kernel
theorem c109_20 : mj_Y.code kY 109 20 = some (.aload_n 0) ∧ ((0 : Fin 4) : Nat) = 0 ∧ 21 = 20 + 1 := by decide +kernel
theorem c109_21 : mj_Y.code kY 109 21 = some (.aload_n 2) ∧ ((2 : Fin 4) : Nat) = 2 ∧ 22 = 21 + 1 := by decide +kernel
theorem c109_22 : mj_Y.code kY 109 22 = some (.putfield 23) ∧ mj_Y.fl kY 109 23 10 = some (1, (.object "DiceOdds$Expression"), true) ∧ 25 = 22 + 3 := by decide +kernel
theorem c109_25 : mj_Y.code kY 109 25 = some (.aload_n 0) ∧ ((0 : Fin 4) : Nat) = 0 ∧ 26 = 25 + 1 := by decide +kernel
theorem c109_26 : mj_Y.code kY 109 26 = some (.aload_n 3) ∧ ((3 : Fin 4) : Nat) = 3 ∧ 27 = 26 + 1 := by decide +kernel
theorem c109_27 : mj_Y.code kY 109 27 = some (.putfield 27) ∧ mj_Y.fl kY 109 27 10 = some (2, (.object "DiceOdds$Expression"), true) ∧ 30 = 27 + 3 := by decide +kernel
theorem c109_30 : mj_Y.code kY 109 30 = some .return_ ∧ mj_Y.rt kY 109 = none := by decide +kernel
theorem c110_0 : mj_Y.code kY 110 0 = some (.aload_n 0) ∧ ((0 : Fin 4) : Nat) = 0 ∧ 1 = 0 + 1 := by decide +kernel
theorem c110_1 : mj_Y.code kY 110 1 = some (.iload_n 1) ∧ ((1 : Fin 4) : Nat) = 1 ∧ 2 = 1 + 1 := by decide +kernel
theorem c110_2 : mj_Y.code kY 110 2 = some (.iconst 4) ∧ Int32.ofInt 4 = 4 ∧ 3 = 2 + 1 := by decide +kernel
theorem c110_3 : mj_Y.code kY 110 3 = some (.if_icmp .ge 7) ∧ mj_tg 3 7 = some 10 ∧ 6 = 3 + 3 := by decide +kernel
theorem c110_6 : mj_Y.code kY 110 6 = some (.iconst 1) ∧ Int32.ofInt 1 = 1 ∧ 7 = 6 + 1 := by decide +kernel
theorem c110_7 : mj_Y.code kY 110 7 = some (.goto 4) ∧ mj_tg 7 4 = some 11 := by decide +kernel
theorem c110_10 : mj_Y.code kY 110 10 = some (.iconst 0) ∧ Int32.ofInt 0 = 0 ∧ 11 = 10 + 1 := by decide +kernel
theorem c110_11 : mj_Y.code kY 110 11 = some (.aload_n 0) ∧ ((0 : Fin 4) : Nat) = 0 ∧ 12 = 11 + 1 := by decide +kernel
theorem c110_12 : mj_Y.code kY 110 12 = some (.getfield 23) ∧ mj_Y.fl kY 110 23 1 = some (3, .int, true) ∧ 15 = 12 + 3 := by decide +kernel
theorem c110_15 : mj_Y.code kY 110 15 = some (.invokevirtual 43) ∧ mj_Y.na kY 110 43 = some 2 ∧ mj_Y.cv kY 110 43 1 = some 87 ∧ mj_Y.nL kY 87 = 3 ∧ 18 = 15 + 3 := by decide +kernel
theorem c110_18 : mj_Y.code kY 110 18 = some (.aload_n 0) ∧ ((0 : Fin 4) : Nat) = 0 ∧ 19 = 18 + 1 := by decide +kernel
theorem c110_19 : mj_Y.code kY 110 19 = some (.bipush 123) ∧ (Int8.ofInt 123).toInt32 = 123 ∧ 21 = 19 + 2 := by decide +kernel
theorem c110_21 : mj_Y.code kY 110 21 = some (.invokevirtual 98) ∧ mj_Y.na kY 110 98 = some 1 ∧ mj_Y.cv kY 110 98 1 = some 94 ∧ mj_Y.nL kY 94 = 2 ∧ 24 = 21 + 3 := by decide +kernel
theorem c110_24 : mj_Y.code kY 110 24 = some (.aload_n 0) ∧ ((0 : Fin 4) : Nat) = 0 ∧ 25 = 24 + 1 := by decide +kernel
theorem c110_25 : mj_Y.code kY 110 25 = some (.iload_n 1) ∧ ((1 : Fin 4) : Nat) = 1 ∧ 26 = 25 + 1 := by decide +kernel
theorem c110_26 : mj_Y.code kY 110 26 = some (.iconst 1) ∧ Int32.ofInt 1 = 1 ∧ 27 = 26 + 1 := by decide +kernel
theorem c110_27 : mj_Y.code kY 110 27 = some .iadd ∧ 28 = 27 + 1 := by decide +kernel
theorem c110_28 : mj_Y.code kY 110 28 = some (.invokevirtual 39) ∧ mj_Y.na kY 110 39 = some 1 ∧ mj_Y.cv kY 110 39 1 = some 83 ∧ mj_Y.nL kY 83 = 6 ∧ 31 = 28 + 3 := by decide +kernel
theorem c110_31 : mj_Y.code kY 110 31 = some (.astore_n 2) ∧ ((2 : Fin 4) : Nat) = 2 ∧ 2 < mj_Y.nL kY 110 ∧ 32 = 31 + 1 := by decide +kernel
theorem c110_32 : mj_Y.code kY 110 32 = some (.aload_n 0) ∧ ((0 : Fin 4) : Nat) = 0 ∧ 33 = 32 + 1 := by decide +kernel
theorem c110_33 : mj_Y.code kY 110 33 = some (.bipush 125) ∧ (Int8.ofInt 125).toInt32 = 125 ∧ 35 = 33 + 2 := by decide +kernel
theorem c110_35 : mj_Y.code kY 110 35 = some (.invokevirtual 98) ∧ mj_Y.na kY 110 98 = some 1 ∧ mj_Y.cv kY 110 98 1 = some 94 ∧ mj_Y.nL kY 94 = 2 ∧ 38 = 35 + 3 := by decide +kernel
theorem c110_38 : mj_Y.code kY 110 38 = some (.aload_n 2) ∧ ((2 : Fin 4) : Nat) = 2 ∧ 39 = 38 + 1 := by decide +kernel
theorem c110_39 : mj_Y.code kY 110 39 = some .areturn ∧ mj_Y.rt kY 110 = some (.object "DiceOdds$Statement") ∧ ((.object "DiceOdds$Statement") : FieldType).isReference = true := by decide +kernel
theorem nh110 : mj_Y.nh kY 110 = true := by decide +kernel
theorem c111_0 : mj_Y.code kY 111 0 = some (.aload_n 0) ∧ ((0 : Fin 4) : Nat) = 0 ∧ 1 = 0 + 1 := by decide +kernel
theorem c111_1 : mj_Y.code kY 111 1 = some (.invokespecial 3) ∧ mj_Y.pr kY 111 3 = some 1 ∧ 4 = 1 + 3 := by decide +kernel
theorem c111_4 : mj_Y.code kY 111 4 = some (.aload_n 0) ∧ ((0 : Fin 4) : Nat) = 0 ∧ 5 = 4 + 1 := by decide +kernel
theorem c111_5 : mj_Y.code kY 111 5 = some .aconst_null ∧ 6 = 5 + 1 := by decide +kernel
theorem c111_6 : mj_Y.code kY 111 6 = some (.putfield 9) ∧ mj_Y.fl kY 111 9 11 = some (8, (.object "DiceOdds$Statement"), true) ∧ 9 = 6 + 3 := by decide +kernel
theorem c111_9 : mj_Y.code kY 111 9 = some (.aload_n 0) ∧ ((0 : Fin 4) : Nat) = 0 ∧ 10 = 9 + 1 := by decide +kernel
theorem c111_10 : mj_Y.code kY 111 10 = some (.iload_n 1) ∧ ((1 : Fin 4) : Nat) = 1 ∧ 11 = 10 + 1 := by decide +kernel
theorem c111_11 : mj_Y.code kY 111 11 = some (.putfield 15) ∧ mj_Y.fl kY 111 15 11 = some (0, .char, true) ∧ 14 = 11 + 3 := by decide +kernel
theorem c111_14 : mj_Y.code kY 111 14 = some (.aload_n 0) ∧ ((0 : Fin 4) : Nat) = 0 ∧ 15 = 14 + 1 := by decide +kernel
theorem c111_15 : mj_Y.code kY 111 15 = some (.aload_n 2) ∧ ((2 : Fin 4) : Nat) = 2 ∧ 16 = 15 + 1 := by decide +kernel
theorem c111_16 : mj_Y.code kY 111 16 = some (.putfield 19) ∧ mj_Y.fl kY 111 19 11 = some (1, (.object "DiceOdds$Expression"), true) ∧ 19 = 16 + 3 := by decide +kernel
theorem c111_19 : mj_Y.code kY 111 19 = some (.aload_n 0) ∧ ((0 : Fin 4) : Nat) = 0 ∧ 20 = 19 + 1 := by decide +kernel
theorem c111_20 : mj_Y.code kY 111 20 = some (.iload_n 3) ∧ ((3 : Fin 4) : Nat) = 3 ∧ 21 = 20 + 1 := by decide +kernel
theorem c111_21 : mj_Y.code kY 111 21 = some (.putfield 23) ∧ mj_Y.fl kY 111 23 11 = some (2, .int, true) ∧ 24 = 21 + 3 := by decide +kernel
theorem c111_24 : mj_Y.code kY 111 24 = some (.aload_n 0) ∧ ((0 : Fin 4) : Nat) = 0 ∧ 25 = 24 + 1 := by decide +kernel
theorem c111_25 : mj_Y.code kY 111 25 = some (.aload 4) ∧ 4 = 4 ∧ 27 = 25 + 2 := by decide +kernel
theorem c111_27 : mj_Y.code kY 111 27 = some (.putfield 27) ∧ mj_Y.fl kY 111 27 11 = some (3, (.object "DiceOdds$Statement"), true) ∧ 30 = 27 + 3 := by decide +kernel
theorem c111_30 : mj_Y.code kY 111 30 = some (.aload_n 0) ∧ ((0 : Fin 4) : Nat) = 0 ∧ 31 = 30 + 1 := by decide +kernel
theorem c111_31 : mj_Y.code kY 111 31 = some (.aload 5) ∧ 5 = 5 ∧ 33 = 31 + 2 := by decide +kernel
theorem c111_33 : mj_Y.code kY 111 33 = some (.putfield 30) ∧ mj_Y.fl kY 111 30 11 = some (4, (.object "DiceOdds$Statement"), true) ∧ 36 = 33 + 3 := by decide +kernel
theorem c111_36 : mj_Y.code kY 111 36 = some (.aload 4) ∧ 4 = 4 ∧ 38 = 36 + 2 := by decide +kernel
theorem c111_38 : mj_Y.code kY 111 38 = some (.invokestatic 33) ∧ mj_Y.pr kY 111 33 = none ∧ mj_Y.cs kY 111 33 = some (112, 1) ∧ mj_Y.nL kY 112 = 4 ∧ 41 = 38 + 3 := by decide +kernel
theorem c111_41 : mj_Y.code kY 111 41 = some (.lstore 6) ∧ 6 = 6 ∧ 6 + 1 < mj_Y.nL kY 111 ∧ 43 = 41 + 2 := by decide +kernel
theorem c111_43 : mj_Y.code kY 111 43 = some (.aload 5) ∧ 5 = 5 ∧ 45 = 43 + 2 := by decide +kernel
theorem c111_45 : mj_Y.code kY 111 45 = some (.invokestatic 33) ∧ mj_Y.pr kY 111 33 = none ∧ mj_Y.cs kY 111 33 = some (112, 1) ∧ mj_Y.nL kY 112 = 4 ∧ 48 = 45 + 3 := by decide +kernel
theorem c111_48 : mj_Y.code kY 111 48 = some (.lstore 8) ∧ 8 = 8 ∧ 8 + 1 < mj_Y.nL kY 111 ∧ 50 = 48 + 2 := by decide +kernel
theorem c111_50 : mj_Y.code kY 111 50 = some (.lload 6) ∧ 6 = 6 ∧ 52 = 50 + 2 := by decide +kernel
theorem c111_52 : mj_Y.code kY 111 52 = some (.lload 8) ∧ 8 = 8 ∧ 54 = 52 + 2 := by decide +kernel
theorem c111_54 : mj_Y.code kY 111 54 = some (.invokestatic 37) ∧ mj_Y.pr kY 111 37 = none ∧ mj_Y.cs kY 111 37 = some (113, 2) ∧ mj_Y.nL kY 113 = 4 ∧ 57 = 54 + 3 := by decide +kernel
theorem c111_57 : mj_Y.code kY 111 57 = some (.lstore 10) ∧ 10 = 10 ∧ 10 + 1 < mj_Y.nL kY 111 ∧ 59 = 57 + 2 := by decide +kernel
theorem c111_59 : mj_Y.code kY 111 59 = some (.aload_n 0) ∧ ((0 : Fin 4) : Nat) = 0 ∧ 60 = 59 + 1 := by decide +kernel
theorem c111_60 : mj_Y.code kY 111 60 = some (.lload 10) ∧ 10 = 10 ∧ 62 = 60 + 2 := by decide +kernel
theorem c111_62 : mj_Y.code kY 111 62 = some (.lload 6) ∧ 6 = 6 ∧ 64 = 62 + 2 := by decide +kernel
theorem c111_64 : mj_Y.code kY 111 64 = some (.invokestatic 41) ∧ mj_Y.pr kY 111 41 = none ∧ mj_Y.cs kY 111 41 = some (115, 2) ∧ mj_Y.nL kY 115 = 4 ∧ 67 = 64 + 3 := by decide +kernel
theorem c111_67 : mj_Y.code kY 111 67 = some (.putfield 44) ∧ mj_Y.fl kY 111 44 11 = some (6, .long, true) ∧ 70 = 67 + 3 := by decide +kernel
theorem c111_70 : mj_Y.code kY 111 70 = some (.aload_n 0) ∧ ((0 : Fin 4) : Nat) = 0 ∧ 71 = 70 + 1 := by decide +kernel
theorem c111_71 : mj_Y.code kY 111 71 = some (.lload 10) ∧ 10 = 10 ∧ 73 = 71 + 2 := by decide +kernel
theorem c111_73 : mj_Y.code kY 111 73 = some (.lload 8) ∧ 8 = 8 ∧ 75 = 73 + 2 := by decide +kernel
theorem c111_75 : mj_Y.code kY 111 75 = some (.invokestatic 41) ∧ mj_Y.pr kY 111 41 = none ∧ mj_Y.cs kY 111 41 = some (115, 2) ∧ mj_Y.nL kY 115 = 4 ∧ 78 = 75 + 3 := by decide +kernel
theorem c111_78 : mj_Y.code kY 111 78 = some (.putfield 48) ∧ mj_Y.fl kY 111 48 11 = some (7, .long, true) ∧ 81 = 78 + 3 := by decide +kernel
theorem c111_81 : mj_Y.code kY 111 81 = some (.aload_n 0) ∧ ((0 : Fin 4) : Nat) = 0 ∧ 82 = 81 + 1 := by decide +kernel
theorem c111_82 : mj_Y.code kY 111 82 = some (.iload_n 1) ∧ ((1 : Fin 4) : Nat) = 1 ∧ 83 = 82 + 1 := by decide +kernel
theorem c111_83 : mj_Y.code kY 111 83 = some (.bipush 42) ∧ (Int8.ofInt 42).toInt32 = 42 ∧ 85 = 83 + 2 := by decide +kernel
theorem c111_85 : mj_Y.code kY 111 85 = some (.if_icmp .ne 12) ∧ mj_tg 85 12 = some 97 ∧ 88 = 85 + 3 := by decide +kernel
theorem c111_88 : mj_Y.code kY 111 88 = some (.lload 6) ∧ 6 = 6 ∧ 90 = 88 + 2 := by decide +kernel
theorem c111_90 : mj_Y.code kY 111 90 = some (.iload_n 3) ∧ ((3 : Fin 4) : Nat) = 3 ∧ 91 = 90 + 1 := by decide +kernel
theorem c111_91 : mj_Y.code kY 111 91 = some (.invokestatic 51) ∧ mj_Y.pr kY 111 51 = none ∧ mj_Y.cs kY 111 51 = some (101, 2) ∧ mj_Y.nL kY 101 = 6 ∧ 94 = 91 + 3 := by decide +kernel
theorem c111_94 : mj_Y.code kY 111 94 = some (.goto 12) ∧ mj_tg 94 12 = some 106 := by decide +kernel
theorem c111_97 : mj_Y.code kY 111 97 = some (.aload_n 2) ∧ ((2 : Fin 4) : Nat) = 2 ∧ 98 = 97 + 1 := by decide +kernel
theorem c111_98_t : ∀ c n, df c = some n → mj_Y.fl kY 111 55 c = some (n, .long, false) := by
  intro c n h
  have hc : c = 6 ∨ c = 7 ∨ c = 8 ∨ c = 9 ∨ c = 10 := df_c h
  rcases hc with rfl | rfl | rfl | rfl | rfl <;> (cases h; decide +kernel)
theorem c111_98 : mj_Y.code kY 111 98 = some (.getfield 55) ∧ 101 = 98 + 3 := by decide +kernel
theorem c111_101 : mj_Y.code kY 111 101 = some (.lload 10) ∧ 10 = 10 ∧ 103 = 101 + 2 := by decide +kernel
theorem c111_103 : mj_Y.code kY 111 103 = some (.invokestatic 60) ∧ mj_Y.pr kY 111 60 = none ∧ mj_Y.cs kY 111 60 = some (102, 2) ∧ mj_Y.nL kY 102 = 4 ∧ 106 = 103 + 3 := by decide +kernel
theorem c111_106 : mj_Y.code kY 111 106 = some (.putfield 63) ∧ mj_Y.fl kY 111 63 11 = some (5, .long, true) ∧ 109 = 106 + 3 := by decide +kernel
theorem c111_109 : mj_Y.code kY 111 109 = some .return_ ∧ mj_Y.rt kY 111 = none := by decide +kernel
