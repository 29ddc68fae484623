theorem c271_0 : mj_Y.code kY 271 0 = some (.iconst 1) ∧ Int32.ofInt 1 = 1 ∧ 1 = 0 + 1 := by decide +kernel
theorem c271_1 : mj_Y.code kY 271 1 = some (.istore 7) ∧ 7 = 7 ∧ 7 < mj_Y.nL kY 271 ∧ 3 = 1 + 2 := by decide +kernel
theorem c271_3 : mj_Y.code kY 271 3 = some (.iconst 0) ∧ Int32.ofInt 0 = 0 ∧ 4 = 3 + 1 := by decide +kernel
theorem c271_4 : mj_Y.code kY 271 4 = some (.istore 8) ∧ 8 = 8 ∧ 8 < mj_Y.nL kY 271 ∧ 6 = 4 + 2 := by decide +kernel
theorem c271_6 : mj_Y.code kY 271 6 = some (.iload 8) ∧ 8 = 8 ∧ 8 = 6 + 2 := by decide +kernel
theorem c271_8 : mj_Y.code kY 271 8 = some (.bipush 6) ∧ (Int8.ofInt 6).toInt32 = 6 ∧ 10 = 8 + 2 := by decide +kernel
theorem c271_10 : mj_Y.code kY 271 10 = some (.if_icmp .ge 77) ∧ mj_tg 10 77 = some 87 ∧ 13 = 10 + 3 := by decide +kernel
theorem c271_13 : mj_Y.code kY 271 13 = some (.iload 8) ∧ 8 = 8 ∧ 15 = 13 + 2 := by decide +kernel
theorem c271_15 : mj_Y.code kY 271 15 = some (.iload 5) ∧ 5 = 5 ∧ 17 = 15 + 2 := by decide +kernel
theorem c271_17 : mj_Y.code kY 271 17 = some (.if_icmp .ne 8) ∧ mj_tg 17 8 = some 25 ∧ 20 = 17 + 3 := by decide +kernel
theorem c271_20 : mj_Y.code kY 271 20 = some (.iload 6) ∧ 6 = 6 ∧ 22 = 20 + 2 := by decide +kernel
theorem c271_22 : mj_Y.code kY 271 22 = some (.goto 22) ∧ mj_tg 22 22 = some 44 := by decide +kernel
theorem c271_25 : mj_Y.code kY 271 25 = some (.aload_n 0) ∧ ((0 : Fin 4) : Nat) = 0 ∧ 26 = 25 + 1 := by decide +kernel
theorem c271_26 : mj_Y.code kY 271 26 = some (.getfield 109) ∧ mj_Y.fl kY 271 109 12 = some (47, (.array .int), false) ∧ 29 = 26 + 3 := by decide +kernel
theorem c271_29 : mj_Y.code kY 271 29 = some (.sipush 384) ∧ (Int16.ofInt 384).toInt32 = 384 ∧ 32 = 29 + 3 := by decide +kernel
theorem c271_32 : mj_Y.code kY 271 32 = some (.iload_n 3) ∧ ((3 : Fin 4) : Nat) = 3 ∧ 33 = 32 + 1 := by decide +kernel
theorem c271_33 : mj_Y.code kY 271 33 = some .imul ∧ 34 = 33 + 1 := by decide +kernel
theorem c271_34 : mj_Y.code kY 271 34 = some (.bipush 6) ∧ (Int8.ofInt 6).toInt32 = 6 ∧ 36 = 34 + 2 := by decide +kernel
theorem c271_36 : mj_Y.code kY 271 36 = some (.iload 4) ∧ 4 = 4 ∧ 38 = 36 + 2 := by decide +kernel
theorem c271_38 : mj_Y.code kY 271 38 = some .imul ∧ 39 = 38 + 1 := by decide +kernel
theorem c271_39 : mj_Y.code kY 271 39 = some .iadd ∧ 40 = 39 + 1 := by decide +kernel
theorem c271_40 : mj_Y.code kY 271 40 = some (.iload 8) ∧ 8 = 8 ∧ 42 = 40 + 2 := by decide +kernel
theorem c271_42 : mj_Y.code kY 271 42 = some .iadd ∧ 43 = 42 + 1 := by decide +kernel
theorem c271_43 : mj_Y.code kY 271 43 = some .iaload ∧ 44 = 43 + 1 := by decide +kernel
theorem c271_44 : mj_Y.code kY 271 44 = some (.istore 9) ∧ 9 = 9 ∧ 9 < mj_Y.nL kY 271 ∧ 46 = 44 + 2 := by decide +kernel
theorem c271_46 : mj_Y.code kY 271 46 = some (.iload 7) ∧ 7 = 7 ∧ 48 = 46 + 2 := by decide +kernel
theorem c271_48 : mj_Y.code kY 271 48 = some (.ifCond .eq 30) ∧ mj_tg 48 30 = some 78 ∧ 51 = 48 + 3 := by decide +kernel
theorem c271_51 : mj_Y.code kY 271 51 = some (.aload_n 0) ∧ ((0 : Fin 4) : Nat) = 0 ∧ 52 = 51 + 1 := by decide +kernel
theorem c271_52 : mj_Y.code kY 271 52 = some (.getfield 109) ∧ mj_Y.fl kY 271 109 12 = some (47, (.array .int), false) ∧ 55 = 52 + 3 := by decide +kernel
theorem c271_55 : mj_Y.code kY 271 55 = some (.sipush 384) ∧ (Int16.ofInt 384).toInt32 = 384 ∧ 58 = 55 + 3 := by decide +kernel
theorem c271_58 : mj_Y.code kY 271 58 = some (.iload_n 1) ∧ ((1 : Fin 4) : Nat) = 1 ∧ 59 = 58 + 1 := by decide +kernel
theorem c271_59 : mj_Y.code kY 271 59 = some .imul ∧ 60 = 59 + 1 := by decide +kernel
theorem c271_60 : mj_Y.code kY 271 60 = some (.bipush 6) ∧ (Int8.ofInt 6).toInt32 = 6 ∧ 62 = 60 + 2 := by decide +kernel
theorem c271_62 : mj_Y.code kY 271 62 = some (.iload_n 2) ∧ ((2 : Fin 4) : Nat) = 2 ∧ 63 = 62 + 1 := by decide +kernel
theorem c271_63 : mj_Y.code kY 271 63 = some .imul ∧ 64 = 63 + 1 := by decide +kernel
theorem c271_64 : mj_Y.code kY 271 64 = some .iadd ∧ 65 = 64 + 1 := by decide +kernel
theorem c271_65 : mj_Y.code kY 271 65 = some (.iload 8) ∧ 8 = 8 ∧ 67 = 65 + 2 := by decide +kernel
theorem c271_67 : mj_Y.code kY 271 67 = some .iadd ∧ 68 = 67 + 1 := by decide +kernel
theorem c271_68 : mj_Y.code kY 271 68 = some .iaload ∧ 69 = 68 + 1 := by decide +kernel
theorem c271_69 : mj_Y.code kY 271 69 = some (.iload 9) ∧ 9 = 9 ∧ 71 = 69 + 2 := by decide +kernel
theorem c271_71 : mj_Y.code kY 271 71 = some (.if_icmp .ne 7) ∧ mj_tg 71 7 = some 78 ∧ 74 = 71 + 3 := by decide +kernel
theorem c271_74 : mj_Y.code kY 271 74 = some (.iconst 1) ∧ Int32.ofInt 1 = 1 ∧ 75 = 74 + 1 := by decide +kernel
theorem c271_75 : mj_Y.code kY 271 75 = some (.goto 4) ∧ mj_tg 75 4 = some 79 := by decide +kernel
theorem c271_78 : mj_Y.code kY 271 78 = some (.iconst 0) ∧ Int32.ofInt 0 = 0 ∧ 79 = 78 + 1 := by decide +kernel
theorem c271_79 : mj_Y.code kY 271 79 = some (.istore 7) ∧ 7 = 7 ∧ 7 < mj_Y.nL kY 271 ∧ 81 = 79 + 2 := by decide +kernel
theorem c271_81 : mj_Y.code kY 271 81 = some (.iinc 8 1) ∧ 8 < mj_Y.nL kY 271 ∧ Int32.ofInt 1 = 1 ∧ 84 = 81 + 3 := by decide +kernel
theorem c271_84 : mj_Y.code kY 271 84 = some (.goto (-78)) ∧ mj_tg 84 (-78) = some 6 := by decide +kernel
theorem c271_87 : mj_Y.code kY 271 87 = some (.iload 7) ∧ 7 = 7 ∧ 89 = 87 + 2 := by decide +kernel
theorem c271_89 : mj_Y.code kY 271 89 = some .ireturn ∧ mj_Y.rt kY 271 = some .boolean := by decide +kernel
theorem c272_0 : mj_Y.code kY 272 0 = some (.bipush 24) ∧ (Int8.ofInt 24).toInt32 = 24 ∧ 2 = 0 + 2 := by decide +kernel
theorem c272_2 : mj_Y.code kY 272 2 = some (.iload_n 1) ∧ ((1 : Fin 4) : Nat) = 1 ∧ 3 = 2 + 1 := by decide +kernel
theorem c272_3 : mj_Y.code kY 272 3 = some .imul ∧ 4 = 3 + 1 := by decide +kernel
theorem c272_4 : mj_Y.code kY 272 4 = some (.iload_n 2) ∧ ((2 : Fin 4) : Nat) = 2 ∧ 5 = 4 + 1 := by decide +kernel
theorem c272_5 : mj_Y.code kY 272 5 = some .iadd ∧ 6 = 5 + 1 := by decide +kernel
theorem c272_6 : mj_Y.code kY 272 6 = some (.istore 4) ∧ 4 = 4 ∧ 4 < mj_Y.nL kY 272 ∧ 8 = 6 + 2 := by decide +kernel
theorem c272_8 : mj_Y.code kY 272 8 = some (.aload_n 0) ∧ ((0 : Fin 4) : Nat) = 0 ∧ 9 = 8 + 1 := by decide +kernel
theorem c272_9 : mj_Y.code kY 272 9 = some (.iload_n 1) ∧ ((1 : Fin 4) : Nat) = 1 ∧ 10 = 9 + 1 := by decide +kernel
theorem c272_10 : mj_Y.code kY 272 10 = some (.iload_n 2) ∧ ((2 : Fin 4) : Nat) = 2 ∧ 11 = 10 + 1 := by decide +kernel
theorem c272_11 : mj_Y.code kY 272 11 = some (.iconst 1) ∧ Int32.ofInt 1 = 1 ∧ 12 = 11 + 1 := by decide +kernel
theorem c272_12 : mj_Y.code kY 272 12 = some .iadd ∧ 13 = 12 + 1 := by decide +kernel
theorem c272_13 : mj_Y.code kY 272 13 = some (.aload_n 0) ∧ ((0 : Fin 4) : Nat) = 0 ∧ 14 = 13 + 1 := by decide +kernel
theorem c272_14 : mj_Y.code kY 272 14 = some (.getfield 36) ∧ mj_Y.fl kY 272 36 12 = some (10, (.array .int), false) ∧ 17 = 14 + 3 := by decide +kernel
theorem c272_17 : mj_Y.code kY 272 17 = some (.iload 4) ∧ 4 = 4 ∧ 19 = 17 + 2 := by decide +kernel
theorem c272_19 : mj_Y.code kY 272 19 = some .iaload ∧ 20 = 19 + 1 := by decide +kernel
theorem c272_20 : mj_Y.code kY 272 20 = some (.invokevirtual 272) ∧ mj_Y.na kY 272 272 = some 3 ∧ mj_Y.cv kY 272 272 12 = some 236 ∧ mj_Y.nL kY 236 = 7 ∧ 23 = 20 + 3 := by decide +kernel
theorem c272_23 : mj_Y.code kY 272 23 = some (.lstore 5) ∧ 5 = 5 ∧ 5 + 1 < mj_Y.nL kY 272 ∧ 25 = 23 + 2 := by decide +kernel
theorem c272_25 : mj_Y.code kY 272 25 = some (.aload_n 0) ∧ ((0 : Fin 4) : Nat) = 0 ∧ 26 = 25 + 1 := by decide +kernel
theorem c272_26 : mj_Y.code kY 272 26 = some (.iload_n 1) ∧ ((1 : Fin 4) : Nat) = 1 ∧ 27 = 26 + 1 := by decide +kernel
theorem c272_27 : mj_Y.code kY 272 27 = some (.aload_n 0) ∧ ((0 : Fin 4) : Nat) = 0 ∧ 28 = 27 + 1 := by decide +kernel
theorem c272_28 : mj_Y.code kY 272 28 = some (.getfield 36) ∧ mj_Y.fl kY 272 36 12 = some (10, (.array .int), false) ∧ 31 = 28 + 3 := by decide +kernel
theorem c272_31 : mj_Y.code kY 272 31 = some (.iload 4) ∧ 4 = 4 ∧ 33 = 31 + 2 := by decide +kernel
theorem c272_33 : mj_Y.code kY 272 33 = some .iaload ∧ 34 = 33 + 1 := by decide +kernel
theorem c272_34 : mj_Y.code kY 272 34 = some (.aload_n 0) ∧ ((0 : Fin 4) : Nat) = 0 ∧ 35 = 34 + 1 := by decide +kernel
theorem c272_35 : mj_Y.code kY 272 35 = some (.getfield 39) ∧ mj_Y.fl kY 272 39 12 = some (11, (.array .int), false) ∧ 38 = 35 + 3 := by decide +kernel
theorem c272_38 : mj_Y.code kY 272 38 = some (.iload 4) ∧ 4 = 4 ∧ 40 = 38 + 2 := by decide +kernel
theorem c272_40 : mj_Y.code kY 272 40 = some .iaload ∧ 41 = 40 + 1 := by decide +kernel
theorem c272_41 : mj_Y.code kY 272 41 = some (.invokevirtual 272) ∧ mj_Y.na kY 272 272 = some 3 ∧ mj_Y.cv kY 272 272 12 = some 236 ∧ mj_Y.nL kY 236 = 7 ∧ 44 = 41 + 3 := by decide +kernel
theorem c272_44 : mj_Y.code kY 272 44 = some (.lstore 7) ∧ 7 = 7 ∧ 7 + 1 < mj_Y.nL kY 272 ∧ 46 = 44 + 2 := by decide +kernel
theorem c272_46 : mj_Y.code kY 272 46 = some (.lload 5) ∧ 5 = 5 ∧ 48 = 46 + 2 := by decide +kernel
theorem c272_48 : mj_Y.code kY 272 48 = some (.lload 7) ∧ 7 = 7 ∧ 50 = 48 + 2 := by decide +kernel
theorem c272_50 : mj_Y.code kY 272 50 = some (.invokestatic 295) ∧ mj_Y.pr kY 272 295 = none ∧ mj_Y.cs kY 272 295 = some (240, 2) ∧ mj_Y.nL kY 240 = 4 ∧ 53 = 50 + 3 := by decide +kernel
theorem c272_53 : mj_Y.code kY 272 53 = some (.lstore 9) ∧ 9 = 9 ∧ 9 + 1 < mj_Y.nL kY 272 ∧ 55 = 53 + 2 := by decide +kernel
theorem c272_55 : mj_Y.code kY 272 55 = some (.aload_n 0) ∧ ((0 : Fin 4) : Nat) = 0 ∧ 56 = 55 + 1 := by decide +kernel
theorem c272_56 : mj_Y.code kY 272 56 = some (.invokevirtual 419) ∧ mj_Y.na kY 272 419 = some 0 ∧ mj_Y.cv kY 272 419 12 = some 273 ∧ mj_Y.nL kY 273 = 1 ∧ 59 = 56 + 3 := by decide +kernel
theorem c272_59 : mj_Y.code kY 272 59 = some (.aload_n 0) ∧ ((0 : Fin 4) : Nat) = 0 ∧ 60 = 59 + 1 := by decide +kernel
theorem c272_60 : mj_Y.code kY 272 60 = some (.bipush 9) ∧ (Int8.ofInt 9).toInt32 = 9 ∧ 62 = 60 + 2 := by decide +kernel
theorem c272_62 : mj_Y.code kY 272 62 = some (.iload_n 3) ∧ ((3 : Fin 4) : Nat) = 3 ∧ 63 = 62 + 1 := by decide +kernel
theorem c272_63 : mj_Y.code kY 272 63 = some (.iconst 1) ∧ Int32.ofInt 1 = 1 ∧ 64 = 63 + 1 := by decide +kernel
theorem c272_64 : mj_Y.code kY 272 64 = some .iadd ∧ 65 = 64 + 1 := by decide +kernel
theorem c272_65 : mj_Y.code kY 272 65 = some (.lload 9) ∧ 9 = 9 ∧ 67 = 65 + 2 := by decide +kernel
theorem c272_67 : mj_Y.code kY 272 67 = some (.lload 5) ∧ 5 = 5 ∧ 69 = 67 + 2 := by decide +kernel
theorem c272_69 : mj_Y.code kY 272 69 = some .ldiv ∧ 70 = 69 + 1 := by decide +kernel
theorem c272_70 : mj_Y.code kY 272 70 = some (.invokevirtual 409) ∧ mj_Y.na kY 272 409 = some 3 ∧ mj_Y.cv kY 272 409 12 = some 269 ∧ mj_Y.nL kY 269 = 6 ∧ 73 = 70 + 3 := by decide +kernel
theorem c272_73 : mj_Y.code kY 272 73 = some (.aload_n 0) ∧ ((0 : Fin 4) : Nat) = 0 ∧ 74 = 73 + 1 := by decide +kernel
theorem c272_74 : mj_Y.code kY 272 74 = some (.bipush 9) ∧ (Int8.ofInt 9).toInt32 = 9 ∧ 76 = 74 + 2 := by decide +kernel
theorem c272_76 : mj_Y.code kY 272 76 = some (.iload_n 3) ∧ ((3 : Fin 4) : Nat) = 3 ∧ 77 = 76 + 1 := by decide +kernel
theorem c272_77 : mj_Y.code kY 272 77 = some (.iconst 2) ∧ Int32.ofInt 2 = 2 ∧ 78 = 77 + 1 := by decide +kernel
theorem c272_78 : mj_Y.code kY 272 78 = some .iadd ∧ 79 = 78 + 1 := by decide +kernel
theorem c272_79 : mj_Y.code kY 272 79 = some (.lload 9) ∧ 9 = 9 ∧ 81 = 79 + 2 := by decide +kernel
theorem c272_81 : mj_Y.code kY 272 81 = some (.lload 7) ∧ 7 = 7 ∧ 83 = 81 + 2 := by decide +kernel
theorem c272_83 : mj_Y.code kY 272 83 = some .ldiv ∧ 84 = 83 + 1 := by decide +kernel
theorem c272_84 : mj_Y.code kY 272 84 = some (.invokevirtual 409) ∧ mj_Y.na kY 272 409 = some 3 ∧ mj_Y.cv kY 272 409 12 = some 269 ∧ mj_Y.nL kY 269 = 6 ∧ 87 = 84 + 3 := by decide +kernel
theorem c272_87 : mj_Y.code kY 272 87 = some (.aload_n 0) ∧ ((0 : Fin 4) : Nat) = 0 ∧ 88 = 87 + 1 := by decide +kernel
theorem c272_88 : mj_Y.code kY 272 88 = some (.iload_n 3) ∧ ((3 : Fin 4) : Nat) = 3 ∧ 89 = 88 + 1 := by decide +kernel
theorem c272_89 : mj_Y.code kY 272 89 = some (.invokevirtual 425) ∧ mj_Y.na kY 272 425 = some 1 ∧ mj_Y.cv kY 272 425 12 = some 274 ∧ mj_Y.nL kY 274 = 2 ∧ 92 = 89 + 3 := by decide +kernel
theorem c272_92 : mj_Y.code kY 272 92 = some .ireturn ∧ mj_Y.rt kY 272 = some .boolean := by decide +kernel
theorem c273_0 : mj_Y.code kY 273 0 = some (.aload_n 0) ∧ ((0 : Fin 4) : Nat) = 0 ∧ 1 = 0 + 1 := by decide +kernel
theorem c273_1 : mj_Y.code kY 273 1 = some (.getfield 115) ∧ mj_Y.fl kY 273 115 12 = some (49, (.array .int), false) ∧ 4 = 1 + 3 := by decide +kernel
theorem c273_4 : mj_Y.code kY 273 4 = some (.bipush 9) ∧ (Int8.ofInt 9).toInt32 = 9 ∧ 6 = 4 + 2 := by decide +kernel
theorem c273_6 : mj_Y.code kY 273 6 = some (.iconst 0) ∧ Int32.ofInt 0 = 0 ∧ 7 = 6 + 1 := by decide +kernel
theorem c273_7 : mj_Y.code kY 273 7 = some .iastore ∧ 8 = 7 + 1 := by decide +kernel
theorem c273_8 : mj_Y.code kY 273 8 = some (.aload_n 0) ∧ ((0 : Fin 4) : Nat) = 0 ∧ 9 = 8 + 1 := by decide +kernel
theorem c273_9 : mj_Y.code kY 273 9 = some (.iconst 0) ∧ Int32.ofInt 0 = 0 ∧ 10 = 9 + 1 := by decide +kernel
theorem c273_10 : mj_Y.code kY 273 10 = some (.putfield 402) ∧ mj_Y.fl kY 273 402 12 = some (50, .boolean, true) ∧ 13 = 10 + 3 := by decide +kernel
theorem c273_13 : mj_Y.code kY 273 13 = some .return_ ∧ mj_Y.rt kY 273 = none := by decide +kernel
theorem c274_0 : mj_Y.code kY 274 0 = some (.aload_n 0) ∧ ((0 : Fin 4) : Nat) = 0 ∧ 1 = 0 + 1 := by decide +kernel
theorem c274_1 : mj_Y.code kY 274 1 = some (.getfield 402) ∧ mj_Y.fl kY 274 402 12 = some (50, .boolean, true) ∧ 4 = 1 + 3 := by decide +kernel
theorem c274_4 : mj_Y.code kY 274 4 = some (.ifCond .eq 11) ∧ mj_tg 4 11 = some 15 ∧ 7 = 4 + 3 := by decide +kernel
theorem c274_7 : mj_Y.code kY 274 7 = some (.aload_n 0) ∧ ((0 : Fin 4) : Nat) = 0 ∧ 8 = 7 + 1 := by decide +kernel
theorem c274_8 : mj_Y.code kY 274 8 = some (.bipush (-2)) ∧ (Int8.ofInt (-2)).toInt32 = (-2) ∧ 10 = 8 + 2 := by decide +kernel
theorem c274_10 : mj_Y.code kY 274 10 = some (.putfield 395) ∧ mj_Y.fl kY 274 395 12 = some (51, .int, true) ∧ 13 = 10 + 3 := by decide +kernel
theorem c274_13 : mj_Y.code kY 274 13 = some (.iconst 0) ∧ Int32.ofInt 0 = 0 ∧ 14 = 13 + 1 := by decide +kernel
theorem c274_14 : mj_Y.code kY 274 14 = some .ireturn ∧ mj_Y.rt kY 274 = some .boolean := by decide +kernel
theorem c274_15 : mj_Y.code kY 274 15 = some (.aload_n 0) ∧ ((0 : Fin 4) : Nat) = 0 ∧ 16 = 15 + 1 := by decide +kernel
theorem c274_16 : mj_Y.code kY 274 16 = some (.aload_n 0) ∧ ((0 : Fin 4) : Nat) = 0 ∧ 17 = 16 + 1 := by decide +kernel
theorem c274_17 : mj_Y.code kY 274 17 = some (.getfield 115) ∧ mj_Y.fl kY 274 115 12 = some (49, (.array .int), false) ∧ 20 = 17 + 3 := by decide +kernel
theorem c274_20 : mj_Y.code kY 274 20 = some (.bipush 9) ∧ (Int8.ofInt 9).toInt32 = 9 ∧ 22 = 20 + 2 := by decide +kernel
theorem c274_22 : mj_Y.code kY 274 22 = some .iaload ∧ 23 = 22 + 1 := by decide +kernel
theorem c274_23 : mj_Y.code kY 274 23 = some (.aload_n 0) ∧ ((0 : Fin 4) : Nat) = 0 ∧ 24 = 23 + 1 := by decide +kernel
theorem c274_24 : mj_Y.code kY 274 24 = some (.getfield 413) ∧ mj_Y.fl kY 274 413 12 = some (52, .int, true) ∧ 27 = 24 + 3 := by decide +kernel
theorem c274_27 : mj_Y.code kY 274 27 = some (.if_icmp .le 13) ∧ mj_tg 27 13 = some 40 ∧ 30 = 27 + 3 := by decide +kernel
theorem c274_30 : mj_Y.code kY 274 30 = some (.aload_n 0) ∧ ((0 : Fin 4) : Nat) = 0 ∧ 31 = 30 + 1 := by decide +kernel
theorem c274_31 : mj_Y.code kY 274 31 = some (.getfield 115) ∧ mj_Y.fl kY 274 115 12 = some (49, (.array .int), false) ∧ 34 = 31 + 3 := by decide +kernel
theorem c274_34 : mj_Y.code kY 274 34 = some (.bipush 9) ∧ (Int8.ofInt 9).toInt32 = 9 ∧ 36 = 34 + 2 := by decide +kernel
theorem c274_36 : mj_Y.code kY 274 36 = some .iaload ∧ 37 = 36 + 1 := by decide +kernel
theorem c274_37 : mj_Y.code kY 274 37 = some (.goto 7) ∧ mj_tg 37 7 = some 44 := by decide +kernel
theorem c274_40 : mj_Y.code kY 274 40 = some (.aload_n 0) ∧ ((0 : Fin 4) : Nat) = 0 ∧ 41 = 40 + 1 := by decide +kernel
theorem c274_41 : mj_Y.code kY 274 41 = some (.getfield 413) ∧ mj_Y.fl kY 274 413 12 = some (52, .int, true) ∧ 44 = 41 + 3 := by decide +kernel
theorem c274_44 : mj_Y.code kY 274 44 = some (.putfield 413) ∧ mj_Y.fl kY 274 413 12 = some (52, .int, true) ∧ 47 = 44 + 3 := by decide +kernel
theorem c274_47 : mj_Y.code kY 274 47 = some (.aload_n 0) ∧ ((0 : Fin 4) : Nat) = 0 ∧ 48 = 47 + 1 := by decide +kernel
theorem c274_48 : mj_Y.code kY 274 48 = some (.iload_n 1) ∧ ((1 : Fin 4) : Nat) = 1 ∧ 49 = 48 + 1 := by decide +kernel
theorem c274_49 : mj_Y.code kY 274 49 = some (.bipush 9) ∧ (Int8.ofInt 9).toInt32 = 9 ∧ 51 = 49 + 2 := by decide +kernel
theorem c274_51 : mj_Y.code kY 274 51 = some (.invokevirtual 416) ∧ mj_Y.na kY 274 416 = some 2 ∧ mj_Y.cv kY 274 416 12 = some 268 ∧ mj_Y.nL kY 268 = 3 ∧ 54 = 51 + 3 := by decide +kernel
theorem c274_54 : mj_Y.code kY 274 54 = some (.iconst 1) ∧ Int32.ofInt 1 = 1 ∧ 55 = 54 + 1 := by decide +kernel
theorem c274_55 : mj_Y.code kY 274 55 = some .ireturn ∧ mj_Y.rt kY 274 = some .boolean := by decide +kernel
theorem c275_0 : mj_Y.code kY 275 0 = some (.bipush 24) ∧ (Int8.ofInt 24).toInt32 = 24 ∧ 2 = 0 + 2 := by decide +kernel
theorem c275_2 : mj_Y.code kY 275 2 = some (.iload_n 1) ∧ ((1 : Fin 4) : Nat) = 1 ∧ 3 = 2 + 1 := by decide +kernel
theorem c275_3 : mj_Y.code kY 275 3 = some .imul ∧ 4 = 3 + 1 := by decide +kernel
theorem c275_4 : mj_Y.code kY 275 4 = some (.iload_n 2) ∧ ((2 : Fin 4) : Nat) = 2 ∧ 5 = 4 + 1 := by decide +kernel
theorem c275_5 : mj_Y.code kY 275 5 = some .iadd ∧ 6 = 5 + 1 := by decide +kernel
theorem c275_6 : mj_Y.code kY 275 6 = some (.istore_n 3) ∧ ((3 : Fin 4) : Nat) = 3 ∧ 3 < mj_Y.nL kY 275 ∧ 7 = 6 + 1 := by decide +kernel
theorem c275_7 : mj_Y.code kY 275 7 = some (.aload_n 0) ∧ ((0 : Fin 4) : Nat) = 0 ∧ 8 = 7 + 1 := by decide +kernel
theorem c275_8 : mj_Y.code kY 275 8 = some (.iload_n 1) ∧ ((1 : Fin 4) : Nat) = 1 ∧ 9 = 8 + 1 := by decide +kernel
theorem c275_9 : mj_Y.code kY 275 9 = some (.invokevirtual 431) ∧ mj_Y.na kY 275 431 = some 1 ∧ mj_Y.cv kY 275 431 12 = some 276 ∧ mj_Y.nL kY 276 = 3 ∧ 12 = 9 + 3 := by decide +kernel
theorem c275_12 : mj_Y.code kY 275 12 = some (.istore 4) ∧ 4 = 4 ∧ 4 < mj_Y.nL kY 275 ∧ 14 = 12 + 2 := by decide +kernel
theorem c275_14 : mj_Y.code kY 275 14 = some (.aload_n 0) ∧ ((0 : Fin 4) : Nat) = 0 ∧ 15 = 14 + 1 := by decide +kernel
theorem c275_15 : mj_Y.code kY 275 15 = some (.getfield 115) ∧ mj_Y.fl kY 275 115 12 = some (49, (.array .int), false) ∧ 18 = 15 + 3 := by decide +kernel
theorem c275_18 : mj_Y.code kY 275 18 = some (.iload 4) ∧ 4 = 4 ∧ 20 = 18 + 2 := by decide +kernel
theorem c275_20 : mj_Y.code kY 275 20 = some .iaload ∧ 21 = 20 + 1 := by decide +kernel
theorem c275_21 : mj_Y.code kY 275 21 = some (.ifCond .eq 22) ∧ mj_tg 21 22 = some 43 ∧ 24 = 21 + 3 := by decide +kernel
theorem c275_24 : mj_Y.code kY 275 24 = some (.aload_n 0) ∧ ((0 : Fin 4) : Nat) = 0 ∧ 25 = 24 + 1 := by decide +kernel
theorem c275_25 : mj_Y.code kY 275 25 = some (.getfield 24) ∧ mj_Y.fl kY 275 24 12 = some (6, (.array .int), false) ∧ 28 = 25 + 3 := by decide +kernel
theorem c275_28 : mj_Y.code kY 275 28 = some (.iload_n 3) ∧ ((3 : Fin 4) : Nat) = 3 ∧ 29 = 28 + 1 := by decide +kernel
theorem c275_29 : mj_Y.code kY 275 29 = some .iaload ∧ 30 = 29 + 1 := by decide +kernel
theorem c275_30 : mj_Y.code kY 275 30 = some (.iconst 3) ∧ Int32.ofInt 3 = 3 ∧ 31 = 30 + 1 := by decide +kernel
theorem c275_31 : mj_Y.code kY 275 31 = some (.if_icmp .ne 19) ∧ mj_tg 31 19 = some 50 ∧ 34 = 31 + 3 := by decide +kernel
theorem c275_34 : mj_Y.code kY 275 34 = some (.aload_n 0) ∧ ((0 : Fin 4) : Nat) = 0 ∧ 35 = 34 + 1 := by decide +kernel
theorem c275_35 : mj_Y.code kY 275 35 = some (.getfield 27) ∧ mj_Y.fl kY 275 27 12 = some (7, (.array .int), false) ∧ 38 = 35 + 3 := by decide +kernel
theorem c275_38 : mj_Y.code kY 275 38 = some (.iload_n 3) ∧ ((3 : Fin 4) : Nat) = 3 ∧ 39 = 38 + 1 := by decide +kernel
theorem c275_39 : mj_Y.code kY 275 39 = some .iaload ∧ 40 = 39 + 1 := by decide +kernel
theorem c275_40 : mj_Y.code kY 275 40 = some (.ifCond .ne 10) ∧ mj_tg 40 10 = some 50 ∧ 43 = 40 + 3 := by decide +kernel
theorem c275_43 : mj_Y.code kY 275 43 = some (.aload_n 0) ∧ ((0 : Fin 4) : Nat) = 0 ∧ 44 = 43 + 1 := by decide +kernel
theorem c275_44 : mj_Y.code kY 275 44 = some (.getfield 39) ∧ mj_Y.fl kY 275 39 12 = some (11, (.array .int), false) ∧ 47 = 44 + 3 := by decide +kernel
theorem c275_47 : mj_Y.code kY 275 47 = some (.iload_n 3) ∧ ((3 : Fin 4) : Nat) = 3 ∧ 48 = 47 + 1 := by decide +kernel
theorem c275_48 : mj_Y.code kY 275 48 = some .iaload ∧ 49 = 48 + 1 := by decide +kernel
theorem c275_49 : mj_Y.code kY 275 49 = some .ireturn ∧ mj_Y.rt kY 275 = some .int := by decide +kernel
theorem c275_50 : mj_Y.code kY 275 50 = some (.aload_n 0) ∧ ((0 : Fin 4) : Nat) = 0 ∧ 51 = 50 + 1 := by decide +kernel
theorem c275_51 : mj_Y.code kY 275 51 = some (.getfield 24) ∧ mj_Y.fl kY 275 24 12 = some (6, (.array .int), false) ∧ 54 = 51 + 3 := by decide +kernel
theorem c275_54 : mj_Y.code kY 275 54 = some (.iload_n 3) ∧ ((3 : Fin 4) : Nat) = 3 ∧ 55 = 54 + 1 := by decide +kernel
theorem c275_55 : mj_Y.code kY 275 55 = some .iaload ∧ 56 = 55 + 1 := by decide +kernel
theorem c275_56 : mj_Y.code kY 275 56 = some (.iconst 3) ∧ Int32.ofInt 3 = 3 ∧ 57 = 56 + 1 := by decide +kernel
theorem c275_57 : mj_Y.code kY 275 57 = some (.if_icmp .ne 20) ∧ mj_tg 57 20 = some 77 ∧ 60 = 57 + 3 := by decide +kernel
theorem c275_60 : mj_Y.code kY 275 60 = some (.aload_n 0) ∧ ((0 : Fin 4) : Nat) = 0 ∧ 61 = 60 + 1 := by decide +kernel
theorem c275_61 : mj_Y.code kY 275 61 = some (.iload_n 2) ∧ ((2 : Fin 4) : Nat) = 2 ∧ 62 = 61 + 1 := by decide +kernel
theorem c275_62 : mj_Y.code kY 275 62 = some (.iload 4) ∧ 4 = 4 ∧ 64 = 62 + 2 := by decide +kernel
theorem c275_64 : mj_Y.code kY 275 64 = some (.aload_n 0) ∧ ((0 : Fin 4) : Nat) = 0 ∧ 65 = 64 + 1 := by decide +kernel
theorem c275_65 : mj_Y.code kY 275 65 = some (.getfield 27) ∧ mj_Y.fl kY 275 27 12 = some (7, (.array .int), false) ∧ 68 = 65 + 3 := by decide +kernel
theorem c275_68 : mj_Y.code kY 275 68 = some (.iload_n 3) ∧ ((3 : Fin 4) : Nat) = 3 ∧ 69 = 68 + 1 := by decide +kernel
theorem c275_69 : mj_Y.code kY 275 69 = some .iaload ∧ 70 = 69 + 1 := by decide +kernel
theorem c275_70 : mj_Y.code kY 275 70 = some (.invokevirtual 434) ∧ mj_Y.na kY 275 434 = some 3 ∧ mj_Y.cv kY 275 434 12 = some 277 ∧ mj_Y.nL kY 277 = 4 ∧ 73 = 70 + 3 := by decide +kernel
theorem c275_73 : mj_Y.code kY 275 73 = some (.iload_n 2) ∧ ((2 : Fin 4) : Nat) = 2 ∧ 74 = 73 + 1 := by decide +kernel
theorem c275_74 : mj_Y.code kY 275 74 = some (.iconst 1) ∧ Int32.ofInt 1 = 1 ∧ 75 = 74 + 1 := by decide +kernel
theorem c275_75 : mj_Y.code kY 275 75 = some .iadd ∧ 76 = 75 + 1 := by decide +kernel
theorem c275_76 : mj_Y.code kY 275 76 = some .ireturn ∧ mj_Y.rt kY 275 = some .int := by decide +kernel
theorem c275_77 : mj_Y.code kY 275 77 = some (.aload_n 0) ∧ ((0 : Fin 4) : Nat) = 0 ∧ 78 = 77 + 1 := by decide +kernel
theorem c275_78 : mj_Y.code kY 275 78 = some (.getfield 24) ∧ mj_Y.fl kY 275 24 12 = some (6, (.array .int), false) ∧ 81 = 78 + 3 := by decide +kernel
theorem c275_81 : mj_Y.code kY 275 81 = some (.iload_n 3) ∧ ((3 : Fin 4) : Nat) = 3 ∧ 82 = 81 + 1 := by decide +kernel
theorem c275_82 : mj_Y.code kY 275 82 = some .iaload ∧ 83 = 82 + 1 := by decide +kernel
theorem c275_83 : mj_Y.code kY 275 83 = some (.iconst 2) ∧ Int32.ofInt 2 = 2 ∧ 84 = 83 + 1 := by decide +kernel
theorem c275_84 : mj_Y.code kY 275 84 = some (.if_icmp .ne 28) ∧ mj_tg 84 28 = some 112 ∧ 87 = 84 + 3 := by decide +kernel
theorem c275_87 : mj_Y.code kY 275 87 = some (.aload_n 0) ∧ ((0 : Fin 4) : Nat) = 0 ∧ 88 = 87 + 1 := by decide +kernel
theorem c275_88 : mj_Y.code kY 275 88 = some (.iload_n 1) ∧ ((1 : Fin 4) : Nat) = 1 ∧ 89 = 88 + 1 := by decide +kernel
theorem c275_89 : mj_Y.code kY 275 89 = some (.iload_n 2) ∧ ((2 : Fin 4) : Nat) = 2 ∧ 90 = 89 + 1 := by decide +kernel
theorem c275_90 : mj_Y.code kY 275 90 = some (.iload 4) ∧ 4 = 4 ∧ 92 = 90 + 2 := by decide +kernel
theorem c275_92 : mj_Y.code kY 275 92 = some (.invokevirtual 438) ∧ mj_Y.na kY 275 438 = some 3 ∧ mj_Y.cv kY 275 438 12 = some 278 ∧ mj_Y.nL kY 278 = 6 ∧ 95 = 92 + 3 := by decide +kernel
theorem c275_95 : mj_Y.code kY 275 95 = some (.ifCond .ne 5) ∧ mj_tg 95 5 = some 100 ∧ 98 = 95 + 3 := by decide +kernel
theorem c275_98 : mj_Y.code kY 275 98 = some (.iconst (-1)) ∧ Int32.ofInt (-1) = (-1) ∧ 99 = 98 + 1 := by decide +kernel
theorem c275_99 : mj_Y.code kY 275 99 = some .ireturn ∧ mj_Y.rt kY 275 = some .int := by decide +kernel
theorem c275_100 : mj_Y.code kY 275 100 = some (.aload_n 0) ∧ ((0 : Fin 4) : Nat) = 0 ∧ 101 = 100 + 1 := by decide +kernel
theorem c275_101 : mj_Y.code kY 275 101 = some (.iload_n 2) ∧ ((2 : Fin 4) : Nat) = 2 ∧ 102 = 101 + 1 := by decide +kernel
theorem c275_102 : mj_Y.code kY 275 102 = some (.iload 4) ∧ 4 = 4 ∧ 104 = 102 + 2 := by decide +kernel
theorem c275_104 : mj_Y.code kY 275 104 = some (.iconst 1) ∧ Int32.ofInt 1 = 1 ∧ 105 = 104 + 1 := by decide +kernel
theorem c275_105 : mj_Y.code kY 275 105 = some (.invokevirtual 434) ∧ mj_Y.na kY 275 434 = some 3 ∧ mj_Y.cv kY 275 434 12 = some 277 ∧ mj_Y.nL kY 277 = 4 ∧ 108 = 105 + 3 := by decide +kernel
theorem c275_108 : mj_Y.code kY 275 108 = some (.iload_n 2) ∧ ((2 : Fin 4) : Nat) = 2 ∧ 109 = 108 + 1 := by decide +kernel
theorem c275_109 : mj_Y.code kY 275 109 = some (.iconst 1) ∧ Int32.ofInt 1 = 1 ∧ 110 = 109 + 1 := by decide +kernel
theorem c275_110 : mj_Y.code kY 275 110 = some .iadd ∧ 111 = 110 + 1 := by decide +kernel
theorem c275_111 : mj_Y.code kY 275 111 = some .ireturn ∧ mj_Y.rt kY 275 = some .int := by decide +kernel
theorem c275_112 : mj_Y.code kY 275 112 = some (.aload_n 0) ∧ ((0 : Fin 4) : Nat) = 0 ∧ 113 = 112 + 1 := by decide +kernel
theorem c275_113 : mj_Y.code kY 275 113 = some (.iload_n 1) ∧ ((1 : Fin 4) : Nat) = 1 ∧ 114 = 113 + 1 := by decide +kernel
theorem c275_114 : mj_Y.code kY 275 114 = some (.iload_n 2) ∧ ((2 : Fin 4) : Nat) = 2 ∧ 115 = 114 + 1 := by decide +kernel
theorem c275_115 : mj_Y.code kY 275 115 = some (.iload 4) ∧ 4 = 4 ∧ 117 = 115 + 2 := by decide +kernel
theorem c275_117 : mj_Y.code kY 275 117 = some (.invokevirtual 441) ∧ mj_Y.na kY 275 441 = some 3 ∧ mj_Y.cv kY 275 441 12 = some 286 ∧ mj_Y.nL kY 286 = 8 ∧ 120 = 117 + 3 := by decide +kernel
theorem c275_120 : mj_Y.code kY 275 120 = some (.ifCond .eq 9) ∧ mj_tg 120 9 = some 129 ∧ 123 = 120 + 3 := by decide +kernel
theorem c275_123 : mj_Y.code kY 275 123 = some (.iload_n 2) ∧ ((2 : Fin 4) : Nat) = 2 ∧ 124 = 123 + 1 := by decide +kernel
theorem c275_124 : mj_Y.code kY 275 124 = some (.iconst 1) ∧ Int32.ofInt 1 = 1 ∧ 125 = 124 + 1 := by decide +kernel
theorem c275_125 : mj_Y.code kY 275 125 = some .iadd ∧ 126 = 125 + 1 := by decide +kernel
theorem c275_126 : mj_Y.code kY 275 126 = some (.goto 4) ∧ mj_tg 126 4 = some 130 := by decide +kernel
theorem c275_129 : mj_Y.code kY 275 129 = some (.iconst (-1)) ∧ Int32.ofInt (-1) = (-1) ∧ 130 = 129 + 1 := by decide +kernel
theorem c275_130 : mj_Y.code kY 275 130 = some .ireturn ∧ mj_Y.rt kY 275 = some .int := by decide +kernel
theorem c276_0 : mj_Y.code kY 276 0 = some (.aload_n 0) ∧ ((0 : Fin 4) : Nat) = 0 ∧ 1 = 0 + 1 := by decide +kernel
theorem c276_1 : mj_Y.code kY 276 1 = some (.getfield 353) ∧ mj_Y.fl kY 276 353 12 = some (56, .int, true) ∧ 4 = 1 + 3 := by decide +kernel
theorem c276_4 : mj_Y.code kY 276 4 = some (.ifCond .ne 5) ∧ mj_tg 4 5 = some 9 ∧ 7 = 4 + 3 := by decide +kernel
theorem c276_7 : mj_Y.code kY 276 7 = some (.iconst 0) ∧ Int32.ofInt 0 = 0 ∧ 8 = 7 + 1 := by decide +kernel
theorem c276_8 : mj_Y.code kY 276 8 = some .ireturn ∧ mj_Y.rt kY 276 = some .int := by decide +kernel
theorem c276_9 : mj_Y.code kY 276 9 = some (.aload_n 0) ∧ ((0 : Fin 4) : Nat) = 0 ∧ 10 = 9 + 1 := by decide +kernel
theorem c276_10 : mj_Y.code kY 276 10 = some (.getfield 353) ∧ mj_Y.fl kY 276 353 12 = some (56, .int, true) ∧ 13 = 10 + 3 := by decide +kernel
theorem c276_13 : mj_Y.code kY 276 13 = some (.iconst 1) ∧ Int32.ofInt 1 = 1 ∧ 14 = 13 + 1 := by decide +kernel
theorem c276_14 : mj_Y.code kY 276 14 = some .isub ∧ 15 = 14 + 1 := by decide +kernel
theorem c276_15 : mj_Y.code kY 276 15 = some (.istore_n 2) ∧ ((2 : Fin 4) : Nat) = 2 ∧ 2 < mj_Y.nL kY 276 ∧ 16 = 15 + 1 := by decide +kernel
theorem c276_16 : mj_Y.code kY 276 16 = some (.aload_n 0) ∧ ((0 : Fin 4) : Nat) = 0 ∧ 17 = 16 + 1 := by decide +kernel
theorem c276_17 : mj_Y.code kY 276 17 = some (.getfield 24) ∧ mj_Y.fl kY 276 24 12 = some (6, (.array .int), false) ∧ 20 = 17 + 3 := by decide +kernel
theorem c276_20 : mj_Y.code kY 276 20 = some (.bipush 24) ∧ (Int8.ofInt 24).toInt32 = 24 ∧ 22 = 20 + 2 := by decide +kernel
theorem c276_22 : mj_Y.code kY 276 22 = some (.iload_n 1) ∧ ((1 : Fin 4) : Nat) = 1 ∧ 23 = 22 + 1 := by decide +kernel
theorem c276_23 : mj_Y.code kY 276 23 = some .imul ∧ 24 = 23 + 1 := by decide +kernel
theorem c276_24 : mj_Y.code kY 276 24 = some (.aload_n 0) ∧ ((0 : Fin 4) : Nat) = 0 ∧ 25 = 24 + 1 := by decide +kernel
theorem c276_25 : mj_Y.code kY 276 25 = some (.getfield 118) ∧ mj_Y.fl kY 276 118 12 = some (53, (.array .int), false) ∧ 28 = 25 + 3 := by decide +kernel
theorem c276_28 : mj_Y.code kY 276 28 = some (.iload_n 2) ∧ ((2 : Fin 4) : Nat) = 2 ∧ 29 = 28 + 1 := by decide +kernel
theorem c276_29 : mj_Y.code kY 276 29 = some .iaload ∧ 30 = 29 + 1 := by decide +kernel
theorem c276_30 : mj_Y.code kY 276 30 = some .iadd ∧ 31 = 30 + 1 := by decide +kernel
theorem c276_31 : mj_Y.code kY 276 31 = some .iaload ∧ 32 = 31 + 1 := by decide +kernel
theorem c276_32 : mj_Y.code kY 276 32 = some (.iconst 3) ∧ Int32.ofInt 3 = 3 ∧ 33 = 32 + 1 := by decide +kernel
theorem c276_33 : mj_Y.code kY 276 33 = some (.if_icmp .ne 10) ∧ mj_tg 33 10 = some 43 ∧ 36 = 33 + 3 := by decide +kernel
theorem c276_36 : mj_Y.code kY 276 36 = some (.aload_n 0) ∧ ((0 : Fin 4) : Nat) = 0 ∧ 37 = 36 + 1 := by decide +kernel
theorem c276_37 : mj_Y.code kY 276 37 = some (.getfield 121) ∧ mj_Y.fl kY 276 121 12 = some (54, (.array .int), false) ∧ 40 = 37 + 3 := by decide +kernel
theorem c276_40 : mj_Y.code kY 276 40 = some (.iload_n 2) ∧ ((2 : Fin 4) : Nat) = 2 ∧ 41 = 40 + 1 := by decide +kernel
theorem c276_41 : mj_Y.code kY 276 41 = some .iaload ∧ 42 = 41 + 1 := by decide +kernel
theorem c276_42 : mj_Y.code kY 276 42 = some .ireturn ∧ mj_Y.rt kY 276 = some .int := by decide +kernel
theorem c276_43 : mj_Y.code kY 276 43 = some (.aload_n 0) ∧ ((0 : Fin 4) : Nat) = 0 ∧ 44 = 43 + 1 := by decide +kernel
theorem c276_44 : mj_Y.code kY 276 44 = some (.getfield 124) ∧ mj_Y.fl kY 276 124 12 = some (55, (.array .int), false) ∧ 47 = 44 + 3 := by decide +kernel
theorem c276_47 : mj_Y.code kY 276 47 = some (.iload_n 2) ∧ ((2 : Fin 4) : Nat) = 2 ∧ 48 = 47 + 1 := by decide +kernel
theorem c276_48 : mj_Y.code kY 276 48 = some .iaload ∧ 49 = 48 + 1 := by decide +kernel
theorem c276_49 : mj_Y.code kY 276 49 = some (.iconst 1) ∧ Int32.ofInt 1 = 1 ∧ 50 = 49 + 1 := by decide +kernel
theorem c276_50 : mj_Y.code kY 276 50 = some (.if_icmp .ne 14) ∧ mj_tg 50 14 = some 64 ∧ 53 = 50 + 3 := by decide +kernel
theorem c276_53 : mj_Y.code kY 276 53 = some (.aload_n 0) ∧ ((0 : Fin 4) : Nat) = 0 ∧ 54 = 53 + 1 := by decide +kernel
theorem c276_54 : mj_Y.code kY 276 54 = some (.getfield 121) ∧ mj_Y.fl kY 276 121 12 = some (54, (.array .int), false) ∧ 57 = 54 + 3 := by decide +kernel
theorem c276_57 : mj_Y.code kY 276 57 = some (.iload_n 2) ∧ ((2 : Fin 4) : Nat) = 2 ∧ 58 = 57 + 1 := by decide +kernel
theorem c276_58 : mj_Y.code kY 276 58 = some .iaload ∧ 59 = 58 + 1 := by decide +kernel
theorem c276_59 : mj_Y.code kY 276 59 = some (.iconst 1) ∧ Int32.ofInt 1 = 1 ∧ 60 = 59 + 1 := by decide +kernel
theorem c276_60 : mj_Y.code kY 276 60 = some .iadd ∧ 61 = 60 + 1 := by decide +kernel
theorem c276_61 : mj_Y.code kY 276 61 = some (.goto 11) ∧ mj_tg 61 11 = some 72 := by decide +kernel
theorem c276_64 : mj_Y.code kY 276 64 = some (.aload_n 0) ∧ ((0 : Fin 4) : Nat) = 0 ∧ 65 = 64 + 1 := by decide +kernel
theorem c276_65 : mj_Y.code kY 276 65 = some (.getfield 121) ∧ mj_Y.fl kY 276 121 12 = some (54, (.array .int), false) ∧ 68 = 65 + 3 := by decide +kernel
theorem c276_68 : mj_Y.code kY 276 68 = some (.iload_n 2) ∧ ((2 : Fin 4) : Nat) = 2 ∧ 69 = 68 + 1 := by decide +kernel
theorem c276_69 : mj_Y.code kY 276 69 = some .iaload ∧ 70 = 69 + 1 := by decide +kernel
theorem c276_70 : mj_Y.code kY 276 70 = some (.iconst 2) ∧ Int32.ofInt 2 = 2 ∧ 71 = 70 + 1 := by decide +kernel
theorem c276_71 : mj_Y.code kY 276 71 = some .iadd ∧ 72 = 71 + 1 := by decide +kernel
theorem c276_72 : mj_Y.code kY 276 72 = some .ireturn ∧ mj_Y.rt kY 276 = some .int := by decide +kernel
theorem c277_0 : mj_Y.code kY 277 0 = some (.aload_n 0) ∧ ((0 : Fin 4) : Nat) = 0 ∧ 1 = 0 + 1 := by decide +kernel
theorem c277_1 : mj_Y.code kY 277 1 = some (.getfield 118) ∧ mj_Y.fl kY 277 118 12 = some (53, (.array .int), false) ∧ 4 = 1 + 3 := by decide +kernel
theorem c277_4 : mj_Y.code kY 277 4 = some (.aload_n 0) ∧ ((0 : Fin 4) : Nat) = 0 ∧ 5 = 4 + 1 := by decide +kernel
theorem c277_5 : mj_Y.code kY 277 5 = some (.getfield 353) ∧ mj_Y.fl kY 277 353 12 = some (56, .int, true) ∧ 8 = 5 + 3 := by decide +kernel
theorem c277_8 : mj_Y.code kY 277 8 = some (.iload_n 1) ∧ ((1 : Fin 4) : Nat) = 1 ∧ 9 = 8 + 1 := by decide +kernel
theorem c277_9 : mj_Y.code kY 277 9 = some .iastore ∧ 10 = 9 + 1 := by decide +kernel
theorem c277_10 : mj_Y.code kY 277 10 = some (.aload_n 0) ∧ ((0 : Fin 4) : Nat) = 0 ∧ 11 = 10 + 1 := by decide +kernel
theorem c277_11 : mj_Y.code kY 277 11 = some (.getfield 121) ∧ mj_Y.fl kY 277 121 12 = some (54, (.array .int), false) ∧ 14 = 11 + 3 := by decide +kernel
theorem c277_14 : mj_Y.code kY 277 14 = some (.aload_n 0) ∧ ((0 : Fin 4) : Nat) = 0 ∧ 15 = 14 + 1 := by decide +kernel
theorem c277_15 : mj_Y.code kY 277 15 = some (.getfield 353) ∧ mj_Y.fl kY 277 353 12 = some (56, .int, true) ∧ 18 = 15 + 3 := by decide +kernel
theorem c277_18 : mj_Y.code kY 277 18 = some (.iload_n 2) ∧ ((2 : Fin 4) : Nat) = 2 ∧ 19 = 18 + 1 := by decide +kernel
theorem c277_19 : mj_Y.code kY 277 19 = some .iastore ∧ 20 = 19 + 1 := by decide +kernel
theorem c277_20 : mj_Y.code kY 277 20 = some (.aload_n 0) ∧ ((0 : Fin 4) : Nat) = 0 ∧ 21 = 20 + 1 := by decide +kernel
theorem c277_21 : mj_Y.code kY 277 21 = some (.getfield 124) ∧ mj_Y.fl kY 277 124 12 = some (55, (.array .int), false) ∧ 24 = 21 + 3 := by decide +kernel
theorem c277_24 : mj_Y.code kY 277 24 = some (.aload_n 0) ∧ ((0 : Fin 4) : Nat) = 0 ∧ 25 = 24 + 1 := by decide +kernel
theorem c277_25 : mj_Y.code kY 277 25 = some (.getfield 353) ∧ mj_Y.fl kY 277 353 12 = some (56, .int, true) ∧ 28 = 25 + 3 := by decide +kernel
theorem c277_28 : mj_Y.code kY 277 28 = some (.iload_n 3) ∧ ((3 : Fin 4) : Nat) = 3 ∧ 29 = 28 + 1 := by decide +kernel
theorem c277_29 : mj_Y.code kY 277 29 = some .iastore ∧ 30 = 29 + 1 := by decide +kernel
theorem c277_30 : mj_Y.code kY 277 30 = some (.aload_n 0) ∧ ((0 : Fin 4) : Nat) = 0 ∧ 31 = 30 + 1 := by decide +kernel
theorem c277_31 : mj_Y.code kY 277 31 = some .dup ∧ 32 = 31 + 1 := by decide +kernel
theorem c277_32 : mj_Y.code kY 277 32 = some (.getfield 353) ∧ mj_Y.fl kY 277 353 12 = some (56, .int, true) ∧ 35 = 32 + 3 := by decide +kernel
theorem c277_35 : mj_Y.code kY 277 35 = some (.iconst 1) ∧ Int32.ofInt 1 = 1 ∧ 36 = 35 + 1 := by decide +kernel
theorem c277_36 : mj_Y.code kY 277 36 = some .iadd ∧ 37 = 36 + 1 := by decide +kernel
theorem c277_37 : mj_Y.code kY 277 37 = some (.putfield 353) ∧ mj_Y.fl kY 277 353 12 = some (56, .int, true) ∧ 40 = 37 + 3 := by decide +kernel
theorem c277_40 : mj_Y.code kY 277 40 = some .return_ ∧ mj_Y.rt kY 277 = none := by decide +kernel
theorem c278_0 : mj_Y.code kY 278 0 = some (.aload_n 0) ∧ ((0 : Fin 4) : Nat) = 0 ∧ 1 = 0 + 1 := by decide +kernel
theorem c278_1 : mj_Y.code kY 278 1 = some (.getfield 115) ∧ mj_Y.fl kY 278 115 12 = some (49, (.array .int), false) ∧ 4 = 1 + 3 := by decide +kernel
theorem c278_4 : mj_Y.code kY 278 4 = some (.iload_n 3) ∧ ((3 : Fin 4) : Nat) = 3 ∧ 5 = 4 + 1 := by decide +kernel
theorem c278_5 : mj_Y.code kY 278 5 = some (.iconst 1) ∧ Int32.ofInt 1 = 1 ∧ 6 = 5 + 1 := by decide +kernel
theorem c278_6 : mj_Y.code kY 278 6 = some .iadd ∧ 7 = 6 + 1 := by decide +kernel
theorem c278_7 : mj_Y.code kY 278 7 = some (.iconst 0) ∧ Int32.ofInt 0 = 0 ∧ 8 = 7 + 1 := by decide +kernel
theorem c278_8 : mj_Y.code kY 278 8 = some .iastore ∧ 9 = 8 + 1 := by decide +kernel
theorem c278_9 : mj_Y.code kY 278 9 = some (.aload_n 0) ∧ ((0 : Fin 4) : Nat) = 0 ∧ 10 = 9 + 1 := by decide +kernel
theorem c278_10 : mj_Y.code kY 278 10 = some (.getfield 115) ∧ mj_Y.fl kY 278 115 12 = some (49, (.array .int), false) ∧ 13 = 10 + 3 := by decide +kernel
theorem c278_13 : mj_Y.code kY 278 13 = some (.iload_n 3) ∧ ((3 : Fin 4) : Nat) = 3 ∧ 14 = 13 + 1 := by decide +kernel
theorem c278_14 : mj_Y.code kY 278 14 = some (.iconst 2) ∧ Int32.ofInt 2 = 2 ∧ 15 = 14 + 1 := by decide +kernel
theorem c278_15 : mj_Y.code kY 278 15 = some .iadd ∧ 16 = 15 + 1 := by decide +kernel
theorem c278_16 : mj_Y.code kY 278 16 = some (.iconst 0) ∧ Int32.ofInt 0 = 0 ∧ 17 = 16 + 1 := by decide +kernel
theorem c278_17 : mj_Y.code kY 278 17 = some .iastore ∧ 18 = 17 + 1 := by decide +kernel
theorem c278_18 : mj_Y.code kY 278 18 = some (.iconst 0) ∧ Int32.ofInt 0 = 0 ∧ 19 = 18 + 1 := by decide +kernel
theorem c278_19 : mj_Y.code kY 278 19 = some (.istore 4) ∧ 4 = 4 ∧ 4 < mj_Y.nL kY 278 ∧ 21 = 19 + 2 := by decide +kernel
theorem c278_21 : mj_Y.code kY 278 21 = some (.iload 4) ∧ 4 = 4 ∧ 23 = 21 + 2 := by decide +kernel
theorem c278_23 : mj_Y.code kY 278 23 = some (.aload_n 0) ∧ ((0 : Fin 4) : Nat) = 0 ∧ 24 = 23 + 1 := by decide +kernel
theorem c278_24 : mj_Y.code kY 278 24 = some (.getfield 115) ∧ mj_Y.fl kY 278 115 12 = some (49, (.array .int), false) ∧ 27 = 24 + 3 := by decide +kernel
theorem c278_27 : mj_Y.code kY 278 27 = some (.iload_n 3) ∧ ((3 : Fin 4) : Nat) = 3 ∧ 28 = 27 + 1 := by decide +kernel
theorem c278_28 : mj_Y.code kY 278 28 = some .iaload ∧ 29 = 28 + 1 := by decide +kernel
theorem c278_29 : mj_Y.code kY 278 29 = some (.if_icmp .ge 89) ∧ mj_tg 29 89 = some 118 ∧ 32 = 29 + 3 := by decide +kernel
theorem c278_32 : mj_Y.code kY 278 32 = some (.aload_n 0) ∧ ((0 : Fin 4) : Nat) = 0 ∧ 33 = 32 + 1 := by decide +kernel
theorem c278_33 : mj_Y.code kY 278 33 = some (.iload_n 1) ∧ ((1 : Fin 4) : Nat) = 1 ∧ 34 = 33 + 1 := by decide +kernel
theorem c278_34 : mj_Y.code kY 278 34 = some (.iload_n 2) ∧ ((2 : Fin 4) : Nat) = 2 ∧ 35 = 34 + 1 := by decide +kernel
theorem c278_35 : mj_Y.code kY 278 35 = some (.iload_n 3) ∧ ((3 : Fin 4) : Nat) = 3 ∧ 36 = 35 + 1 := by decide +kernel
theorem c278_36 : mj_Y.code kY 278 36 = some (.iload 4) ∧ 4 = 4 ∧ 38 = 36 + 2 := by decide +kernel
theorem c278_38 : mj_Y.code kY 278 38 = some (.invokevirtual 422) ∧ mj_Y.na kY 278 422 = some 4 ∧ mj_Y.cv kY 278 422 12 = some 279 ∧ mj_Y.nL kY 279 = 7 ∧ 41 = 38 + 3 := by decide +kernel
theorem c278_41 : mj_Y.code kY 278 41 = some (.ifCond .ne 5) ∧ mj_tg 41 5 = some 46 ∧ 44 = 41 + 3 := by decide +kernel
theorem c278_44 : mj_Y.code kY 278 44 = some (.iconst 0) ∧ Int32.ofInt 0 = 0 ∧ 45 = 44 + 1 := by decide +kernel
theorem c278_45 : mj_Y.code kY 278 45 = some .ireturn ∧ mj_Y.rt kY 278 = some .boolean := by decide +kernel
theorem c278_46 : mj_Y.code kY 278 46 = some (.iconst 0) ∧ Int32.ofInt 0 = 0 ∧ 47 = 46 + 1 := by decide +kernel
theorem c278_47 : mj_Y.code kY 278 47 = some (.istore 5) ∧ 5 = 5 ∧ 5 < mj_Y.nL kY 278 ∧ 49 = 47 + 2 := by decide +kernel
theorem c278_49 : mj_Y.code kY 278 49 = some (.iload 5) ∧ 5 = 5 ∧ 51 = 49 + 2 := by decide +kernel
theorem c278_51 : mj_Y.code kY 278 51 = some (.aload_n 0) ∧ ((0 : Fin 4) : Nat) = 0 ∧ 52 = 51 + 1 := by decide +kernel
theorem c278_52 : mj_Y.code kY 278 52 = some (.getfield 371) ∧ mj_Y.fl kY 278 371 12 = some (45, .int, true) ∧ 55 = 52 + 3 := by decide +kernel
theorem c278_55 : mj_Y.code kY 278 55 = some (.if_icmp .ge 57) ∧ mj_tg 55 57 = some 112 ∧ 58 = 55 + 3 := by decide +kernel
theorem c278_58 : mj_Y.code kY 278 58 = some (.aload_n 0) ∧ ((0 : Fin 4) : Nat) = 0 ∧ 59 = 58 + 1 := by decide +kernel
theorem c278_59 : mj_Y.code kY 278 59 = some (.aload_n 0) ∧ ((0 : Fin 4) : Nat) = 0 ∧ 60 = 59 + 1 := by decide +kernel
theorem c278_60 : mj_Y.code kY 278 60 = some (.getfield 97) ∧ mj_Y.fl kY 278 97 12 = some (41, (.array .int), false) ∧ 63 = 60 + 3 := by decide +kernel
theorem c278_63 : mj_Y.code kY 278 63 = some (.iload 5) ∧ 5 = 5 ∧ 65 = 63 + 2 := by decide +kernel
theorem c278_65 : mj_Y.code kY 278 65 = some .iaload ∧ 66 = 65 + 1 := by decide +kernel
theorem c278_66 : mj_Y.code kY 278 66 = some (.ifCond .eq 9) ∧ mj_tg 66 9 = some 75 ∧ 69 = 66 + 3 := by decide +kernel
theorem c278_69 : mj_Y.code kY 278 69 = some (.iload_n 3) ∧ ((3 : Fin 4) : Nat) = 3 ∧ 70 = 69 + 1 := by decide +kernel
theorem c278_70 : mj_Y.code kY 278 70 = some (.iconst 1) ∧ Int32.ofInt 1 = 1 ∧ 71 = 70 + 1 := by decide +kernel
theorem c278_71 : mj_Y.code kY 278 71 = some .iadd ∧ 72 = 71 + 1 := by decide +kernel
theorem c278_72 : mj_Y.code kY 278 72 = some (.goto 6) ∧ mj_tg 72 6 = some 78 := by decide +kernel
theorem c278_75 : mj_Y.code kY 278 75 = some (.iload_n 3) ∧ ((3 : Fin 4) : Nat) = 3 ∧ 76 = 75 + 1 := by decide +kernel
theorem c278_76 : mj_Y.code kY 278 76 = some (.iconst 2) ∧ Int32.ofInt 2 = 2 ∧ 77 = 76 + 1 := by decide +kernel
theorem c278_77 : mj_Y.code kY 278 77 = some .iadd ∧ 78 = 77 + 1 := by decide +kernel
theorem c278_78 : mj_Y.code kY 278 78 = some (.iload_n 3) ∧ ((3 : Fin 4) : Nat) = 3 ∧ 79 = 78 + 1 := by decide +kernel
theorem c278_79 : mj_Y.code kY 278 79 = some (.iload 4) ∧ 4 = 4 ∧ 81 = 79 + 2 := by decide +kernel
theorem c278_81 : mj_Y.code kY 278 81 = some (.iconst (-1)) ∧ Int32.ofInt (-1) = (-1) ∧ 82 = 81 + 1 := by decide +kernel
theorem c278_82 : mj_Y.code kY 278 82 = some (.iconst 0) ∧ Int32.ofInt 0 = 0 ∧ 83 = 82 + 1 := by decide +kernel
theorem c278_83 : mj_Y.code kY 278 83 = some (.aload_n 0) ∧ ((0 : Fin 4) : Nat) = 0 ∧ 84 = 83 + 1 := by decide +kernel
theorem c278_84 : mj_Y.code kY 278 84 = some (.getfield 112) ∧ mj_Y.fl kY 278 112 12 = some (48, (.array .long), false) ∧ 87 = 84 + 3 := by decide +kernel
theorem c278_87 : mj_Y.code kY 278 87 = some (.bipush 64) ∧ (Int8.ofInt 64).toInt32 = 64 ∧ 89 = 87 + 2 := by decide +kernel
theorem c278_89 : mj_Y.code kY 278 89 = some (.iload_n 3) ∧ ((3 : Fin 4) : Nat) = 3 ∧ 90 = 89 + 1 := by decide +kernel
theorem c278_90 : mj_Y.code kY 278 90 = some .imul ∧ 91 = 90 + 1 := by decide +kernel
theorem c278_91 : mj_Y.code kY 278 91 = some (.iload 4) ∧ 4 = 4 ∧ 93 = 91 + 2 := by decide +kernel
theorem c278_93 : mj_Y.code kY 278 93 = some .iadd ∧ 94 = 93 + 1 := by decide +kernel
theorem c278_94 : mj_Y.code kY 278 94 = some .laload ∧ 95 = 94 + 1 := by decide +kernel
theorem c278_95 : mj_Y.code kY 278 95 = some (.aload_n 0) ∧ ((0 : Fin 4) : Nat) = 0 ∧ 96 = 95 + 1 := by decide +kernel
theorem c278_96 : mj_Y.code kY 278 96 = some (.getfield 100) ∧ mj_Y.fl kY 278 100 12 = some (42, (.array .long), false) ∧ 99 = 96 + 3 := by decide +kernel
theorem c278_99 : mj_Y.code kY 278 99 = some (.iload 5) ∧ 5 = 5 ∧ 101 = 99 + 2 := by decide +kernel
theorem c278_101 : mj_Y.code kY 278 101 = some .laload ∧ 102 = 101 + 1 := by decide +kernel
theorem c278_102 : mj_Y.code kY 278 102 = some .lmul ∧ 103 = 102 + 1 := by decide +kernel
theorem c278_103 : mj_Y.code kY 278 103 = some (.invokevirtual 405) ∧ mj_Y.na kY 278 405 = some 6 ∧ mj_Y.cv kY 278 405 12 = some 270 ∧ mj_Y.nL kY 270 = 10 ∧ 106 = 103 + 3 := by decide +kernel
theorem c278_106 : mj_Y.code kY 278 106 = some (.iinc 5 1) ∧ 5 < mj_Y.nL kY 278 ∧ Int32.ofInt 1 = 1 ∧ 109 = 106 + 3 := by decide +kernel
theorem c278_109 : mj_Y.code kY 278 109 = some (.goto (-60)) ∧ mj_tg 109 (-60) = some 49 := by decide +kernel
theorem c278_112 : mj_Y.code kY 278 112 = some (.iinc 4 1) ∧ 4 < mj_Y.nL kY 278 ∧ Int32.ofInt 1 = 1 ∧ 115 = 112 + 3 := by decide +kernel
theorem c278_115 : mj_Y.code kY 278 115 = some (.goto (-94)) ∧ mj_tg 115 (-94) = some 21 := by decide +kernel
theorem c278_118 : mj_Y.code kY 278 118 = some (.aload_n 0) ∧ ((0 : Fin 4) : Nat) = 0 ∧ 119 = 118 + 1 := by decide +kernel
theorem c278_119 : mj_Y.code kY 278 119 = some (.iload_n 3) ∧ ((3 : Fin 4) : Nat) = 3 ∧ 120 = 119 + 1 := by decide +kernel
theorem c278_120 : mj_Y.code kY 278 120 = some (.iload_n 3) ∧ ((3 : Fin 4) : Nat) = 3 ∧ 121 = 120 + 1 := by decide +kernel
theorem c278_121 : mj_Y.code kY 278 121 = some (.iconst 2) ∧ Int32.ofInt 2 = 2 ∧ 122 = 121 + 1 := by decide +kernel
theorem c278_122 : mj_Y.code kY 278 122 = some .iadd ∧ 123 = 122 + 1 := by decide +kernel
theorem c278_123 : mj_Y.code kY 278 123 = some (.invokevirtual 416) ∧ mj_Y.na kY 278 416 = some 2 ∧ mj_Y.cv kY 278 416 12 = some 268 ∧ mj_Y.nL kY 268 = 3 ∧ 126 = 123 + 3 := by decide +kernel
theorem c278_126 : mj_Y.code kY 278 126 = some (.iconst 1) ∧ Int32.ofInt 1 = 1 ∧ 127 = 126 + 1 := by decide +kernel
theorem c278_127 : mj_Y.code kY 278 127 = some .ireturn ∧ mj_Y.rt kY 278 = some .boolean := by decide +kernel
theorem c279_0 : mj_Y.code kY 279 0 = some (.aload_n 0) ∧ ((0 : Fin 4) : Nat) = 0 ∧ 1 = 0 + 1 := by decide +kernel
theorem c279_1 : mj_Y.code kY 279 1 = some (.iconst 0) ∧ Int32.ofInt 0 = 0 ∧ 2 = 1 + 1 := by decide +kernel
theorem c279_2 : mj_Y.code kY 279 2 = some (.putfield 368) ∧ mj_Y.fl kY 279 368 12 = some (44, .int, true) ∧ 5 = 2 + 3 := by decide +kernel
theorem c279_5 : mj_Y.code kY 279 5 = some (.aload_n 0) ∧ ((0 : Fin 4) : Nat) = 0 ∧ 6 = 5 + 1 := by decide +kernel
theorem c279_6 : mj_Y.code kY 279 6 = some (.iconst 0) ∧ Int32.ofInt 0 = 0 ∧ 7 = 6 + 1 := by decide +kernel
theorem c279_7 : mj_Y.code kY 279 7 = some (.putfield 371) ∧ mj_Y.fl kY 279 371 12 = some (45, .int, true) ∧ 10 = 7 + 3 := by decide +kernel
theorem c279_10 : mj_Y.code kY 279 10 = some (.iconst 1) ∧ Int32.ofInt 1 = 1 ∧ 11 = 10 + 1 := by decide +kernel
theorem c279_11 : mj_Y.code kY 279 11 = some (.istore 5) ∧ 5 = 5 ∧ 5 < mj_Y.nL kY 279 ∧ 13 = 11 + 2 := by decide +kernel
theorem c279_13 : mj_Y.code kY 279 13 = some (.aload_n 0) ∧ ((0 : Fin 4) : Nat) = 0 ∧ 14 = 13 + 1 := by decide +kernel
theorem c279_14 : mj_Y.code kY 279 14 = some (.getfield 30) ∧ mj_Y.fl kY 279 30 12 = some (8, (.array .int), false) ∧ 17 = 14 + 3 := by decide +kernel
theorem c279_17 : mj_Y.code kY 279 17 = some (.bipush 24) ∧ (Int8.ofInt 24).toInt32 = 24 ∧ 19 = 17 + 2 := by decide +kernel
theorem c279_19 : mj_Y.code kY 279 19 = some (.iload_n 1) ∧ ((1 : Fin 4) : Nat) = 1 ∧ 20 = 19 + 1 := by decide +kernel
theorem c279_20 : mj_Y.code kY 279 20 = some .imul ∧ 21 = 20 + 1 := by decide +kernel
theorem c279_21 : mj_Y.code kY 279 21 = some (.iload_n 2) ∧ ((2 : Fin 4) : Nat) = 2 ∧ 22 = 21 + 1 := by decide +kernel
theorem c279_22 : mj_Y.code kY 279 22 = some .iadd ∧ 23 = 22 + 1 := by decide +kernel
theorem c279_23 : mj_Y.code kY 279 23 = some .iaload ∧ 24 = 23 + 1 := by decide +kernel
theorem c279_24 : mj_Y.code kY 279 24 = some (.istore 6) ∧ 6 = 6 ∧ 6 < mj_Y.nL kY 279 ∧ 26 = 24 + 2 := by decide +kernel
theorem c279_26 : mj_Y.code kY 279 26 = some (.iload 6) ∧ 6 = 6 ∧ 28 = 26 + 2 := by decide +kernel
theorem c279_28 : mj_Y.code kY 279 28 = some (.aload_n 0) ∧ ((0 : Fin 4) : Nat) = 0 ∧ 29 = 28 + 1 := by decide +kernel
theorem c279_29 : mj_Y.code kY 279 29 = some (.getfield 33) ∧ mj_Y.fl kY 279 33 12 = some (9, (.array .int), false) ∧ 32 = 29 + 3 := by decide +kernel
theorem c279_32 : mj_Y.code kY 279 32 = some (.bipush 24) ∧ (Int8.ofInt 24).toInt32 = 24 ∧ 34 = 32 + 2 := by decide +kernel
theorem c279_34 : mj_Y.code kY 279 34 = some (.iload_n 1) ∧ ((1 : Fin 4) : Nat) = 1 ∧ 35 = 34 + 1 := by decide +kernel
theorem c279_35 : mj_Y.code kY 279 35 = some .imul ∧ 36 = 35 + 1 := by decide +kernel
theorem c279_36 : mj_Y.code kY 279 36 = some (.iload_n 2) ∧ ((2 : Fin 4) : Nat) = 2 ∧ 37 = 36 + 1 := by decide +kernel
theorem c279_37 : mj_Y.code kY 279 37 = some .iadd ∧ 38 = 37 + 1 := by decide +kernel
theorem c279_38 : mj_Y.code kY 279 38 = some .iaload ∧ 39 = 38 + 1 := by decide +kernel
theorem c279_39 : mj_Y.code kY 279 39 = some (.if_icmp .gt 26) ∧ mj_tg 39 26 = some 65 ∧ 42 = 39 + 3 := by decide +kernel
theorem c279_42 : mj_Y.code kY 279 42 = some (.iload 5) ∧ 5 = 5 ∧ 44 = 42 + 2 := by decide +kernel
theorem c279_44 : mj_Y.code kY 279 44 = some (.ifCond .eq 21) ∧ mj_tg 44 21 = some 65 ∧ 47 = 44 + 3 := by decide +kernel
theorem c279_47 : mj_Y.code kY 279 47 = some (.aload_n 0) ∧ ((0 : Fin 4) : Nat) = 0 ∧ 48 = 47 + 1 := by decide +kernel
theorem c279_48 : mj_Y.code kY 279 48 = some (.iload_n 1) ∧ ((1 : Fin 4) : Nat) = 1 ∧ 49 = 48 + 1 := by decide +kernel
theorem c279_49 : mj_Y.code kY 279 49 = some (.iload 6) ∧ 6 = 6 ∧ 51 = 49 + 2 := by decide +kernel
theorem c279_51 : mj_Y.code kY 279 51 = some (.iload_n 3) ∧ ((3 : Fin 4) : Nat) = 3 ∧ 52 = 51 + 1 := by decide +kernel
theorem c279_52 : mj_Y.code kY 279 52 = some (.iload 4) ∧ 4 = 4 ∧ 54 = 52 + 2 := by decide +kernel
theorem c279_54 : mj_Y.code kY 279 54 = some (.invokevirtual 391) ∧ mj_Y.na kY 279 391 = some 4 ∧ mj_Y.cv kY 279 391 12 = some 280 ∧ mj_Y.nL kY 280 = 9 ∧ 57 = 54 + 3 := by decide +kernel
theorem c279_57 : mj_Y.code kY 279 57 = some (.istore 5) ∧ 5 = 5 ∧ 5 < mj_Y.nL kY 279 ∧ 59 = 57 + 2 := by decide +kernel
theorem c279_59 : mj_Y.code kY 279 59 = some (.iinc 6 1) ∧ 6 < mj_Y.nL kY 279 ∧ Int32.ofInt 1 = 1 ∧ 62 = 59 + 3 := by decide +kernel
theorem c279_62 : mj_Y.code kY 279 62 = some (.goto (-36)) ∧ mj_tg 62 (-36) = some 26 := by decide +kernel
theorem c279_65 : mj_Y.code kY 279 65 = some (.iload 5) ∧ 5 = 5 ∧ 67 = 65 + 2 := by decide +kernel
theorem c279_67 : mj_Y.code kY 279 67 = some (.ifCond .ne 8) ∧ mj_tg 67 8 = some 75 ∧ 70 = 67 + 3 := by decide +kernel
theorem c279_70 : mj_Y.code kY 279 70 = some (.aload_n 0) ∧ ((0 : Fin 4) : Nat) = 0 ∧ 71 = 70 + 1 := by decide +kernel
theorem c279_71 : mj_Y.code kY 279 71 = some (.iconst (-1)) ∧ Int32.ofInt (-1) = (-1) ∧ 72 = 71 + 1 := by decide +kernel
theorem c279_72 : mj_Y.code kY 279 72 = some (.putfield 395) ∧ mj_Y.fl kY 279 395 12 = some (51, .int, true) ∧ 75 = 72 + 3 := by decide +kernel
theorem c279_75 : mj_Y.code kY 279 75 = some (.iload 5) ∧ 5 = 5 ∧ 77 = 75 + 2 := by decide +kernel
theorem c279_77 : mj_Y.code kY 279 77 = some .ireturn ∧ mj_Y.rt kY 279 = some .boolean := by decide +kernel
theorem c280_0 : mj_Y.code kY 280 0 = some (.sipush 160) ∧ (Int16.ofInt 160).toInt32 = 160 ∧ 3 = 0 + 3 := by decide +kernel
theorem c280_3 : mj_Y.code kY 280 3 = some (.iload_n 1) ∧ ((1 : Fin 4) : Nat) = 1 ∧ 4 = 3 + 1 := by decide +kernel
theorem c280_4 : mj_Y.code kY 280 4 = some .imul ∧ 5 = 4 + 1 := by decide +kernel
theorem c280_5 : mj_Y.code kY 280 5 = some (.iload_n 2) ∧ ((2 : Fin 4) : Nat) = 2 ∧ 6 = 5 + 1 := by decide +kernel
theorem c280_6 : mj_Y.code kY 280 6 = some .iadd ∧ 7 = 6 + 1 := by decide +kernel
theorem c280_7 : mj_Y.code kY 280 7 = some (.istore 5) ∧ 5 = 5 ∧ 5 < mj_Y.nL kY 280 ∧ 9 = 7 + 2 := by decide +kernel
theorem c280_9 : mj_Y.code kY 280 9 = some (.aload_n 0) ∧ ((0 : Fin 4) : Nat) = 0 ∧ 10 = 9 + 1 := by decide +kernel
theorem c280_10 : mj_Y.code kY 280 10 = some (.getfield 46) ∧ mj_Y.fl kY 280 46 12 = some (13, (.array .int), false) ∧ 13 = 10 + 3 := by decide +kernel
theorem c280_13 : mj_Y.code kY 280 13 = some (.iload 5) ∧ 5 = 5 ∧ 15 = 13 + 2 := by decide +kernel
theorem c280_15 : mj_Y.code kY 280 15 = some .iaload ∧ 16 = 15 + 1 := by decide +kernel
theorem c280_16_d {x : Int32} (b0 : mj_c2 .eq x 0 = false) (b1 : mj_c2 .eq x 1 = false) (b2 : mj_c2 .eq x 2 = false) (b3 : mj_c2 .eq x 4 = false) (b4 : mj_c2 .eq x 5 = false) : mj_Y.code kY 280 16 = some (.tableswitch 248 0 5 #[40, 58, 93, 248, 138, 195]) ∧ r_np (.tableswitch 248 0 5 #[40, 58, 93, 248, 138, 195]) = true ∧ ∀ (l : mj_L) (st : List Value), mj_p (mj_Y.nL kY 280) 16 (.tableswitch 248 0 5 #[40, 58, 93, 248, 138, 195]) l (.int x :: st) = some (264, l, st) := by
  refine ⟨by decide +kernel, rfl, fun l st => ?_⟩
  by_cases g3 : x = 3
  · subst g3
    rfl
  have m3 : x.toInt ≠ 3 := fun h => g3 (Int32.toInt_inj.mp (h.trans (show 3 = (3 : Int32).toInt from rfl)))
  have n0 : x.toInt ≠ 0 := fun h => of_decide_eq_false b0 (Int32.toInt_inj.mp (h.trans (show 0 = (0 : Int32).toInt from rfl)))
  have n1 : x.toInt ≠ 1 := fun h => of_decide_eq_false b1 (Int32.toInt_inj.mp (h.trans (show 1 = (1 : Int32).toInt from rfl)))
  have n2 : x.toInt ≠ 2 := fun h => of_decide_eq_false b2 (Int32.toInt_inj.mp (h.trans (show 2 = (2 : Int32).toInt from rfl)))
  have n3 : x.toInt ≠ 4 := fun h => of_decide_eq_false b3 (Int32.toInt_inj.mp (h.trans (show 4 = (4 : Int32).toInt from rfl)))
  have n4 : x.toInt ≠ 5 := fun h => of_decide_eq_false b4 (Int32.toInt_inj.mp (h.trans (show 5 = (5 : Int32).toInt from rfl)))
  have hx : x.toInt < 0 ∨ 5 < x.toInt := by omega
  show (if x.toInt < 0 ∨ 5 < x.toInt then _ else _) = _
  rw [if_pos hx]
  rfl
theorem c280_16_0 : mj_Y.code kY 280 16 = some (.tableswitch 248 0 5 #[40, 58, 93, 248, 138, 195]) ∧ r_np (.tableswitch 248 0 5 #[40, 58, 93, 248, 138, 195]) = true ∧ ∀ (l : mj_L) (st : List Value), mj_p (mj_Y.nL kY 280) 16 (.tableswitch 248 0 5 #[40, 58, 93, 248, 138, 195]) l (.int 0 :: st) = some (56, l, st) := ⟨by decide +kernel, rfl, fun _ _ => rfl⟩
theorem c280_16_1 : mj_Y.code kY 280 16 = some (.tableswitch 248 0 5 #[40, 58, 93, 248, 138, 195]) ∧ r_np (.tableswitch 248 0 5 #[40, 58, 93, 248, 138, 195]) = true ∧ ∀ (l : mj_L) (st : List Value), mj_p (mj_Y.nL kY 280) 16 (.tableswitch 248 0 5 #[40, 58, 93, 248, 138, 195]) l (.int 1 :: st) = some (74, l, st) := ⟨by decide +kernel, rfl, fun _ _ => rfl⟩
theorem c280_16_2 : mj_Y.code kY 280 16 = some (.tableswitch 248 0 5 #[40, 58, 93, 248, 138, 195]) ∧ r_np (.tableswitch 248 0 5 #[40, 58, 93, 248, 138, 195]) = true ∧ ∀ (l : mj_L) (st : List Value), mj_p (mj_Y.nL kY 280) 16 (.tableswitch 248 0 5 #[40, 58, 93, 248, 138, 195]) l (.int 2 :: st) = some (109, l, st) := ⟨by decide +kernel, rfl, fun _ _ => rfl⟩
theorem c280_16_4 : mj_Y.code kY 280 16 = some (.tableswitch 248 0 5 #[40, 58, 93, 248, 138, 195]) ∧ r_np (.tableswitch 248 0 5 #[40, 58, 93, 248, 138, 195]) = true ∧ ∀ (l : mj_L) (st : List Value), mj_p (mj_Y.nL kY 280) 16 (.tableswitch 248 0 5 #[40, 58, 93, 248, 138, 195]) l (.int 4 :: st) = some (154, l, st) := ⟨by decide +kernel, rfl, fun _ _ => rfl⟩
theorem c280_16_5 : mj_Y.code kY 280 16 = some (.tableswitch 248 0 5 #[40, 58, 93, 248, 138, 195]) ∧ r_np (.tableswitch 248 0 5 #[40, 58, 93, 248, 138, 195]) = true ∧ ∀ (l : mj_L) (st : List Value), mj_p (mj_Y.nL kY 280) 16 (.tableswitch 248 0 5 #[40, 58, 93, 248, 138, 195]) l (.int 5 :: st) = some (211, l, st) := ⟨by decide +kernel, rfl, fun _ _ => rfl⟩
theorem c280_56 : mj_Y.code kY 280 56 = some (.aload_n 0) ∧ ((0 : Fin 4) : Nat) = 0 ∧ 57 = 56 + 1 := by decide +kernel
theorem c280_57 : mj_Y.code kY 280 57 = some (.invokevirtual 381) ∧ mj_Y.na kY 280 381 = some 0 ∧ mj_Y.cv kY 280 381 12 = some 281 ∧ mj_Y.nL kY 281 = 1 ∧ 60 = 57 + 3 := by decide +kernel
theorem c280_60 : mj_Y.code kY 280 60 = some (.aload_n 0) ∧ ((0 : Fin 4) : Nat) = 0 ∧ 61 = 60 + 1 := by decide +kernel
theorem c280_61 : mj_Y.code kY 280 61 = some (.aload_n 0) ∧ ((0 : Fin 4) : Nat) = 0 ∧ 62 = 61 + 1 := by decide +kernel
theorem c280_62 : mj_Y.code kY 280 62 = some (.getfield 49) ∧ mj_Y.fl kY 280 49 12 = some (14, (.array .int), false) ∧ 65 = 62 + 3 := by decide +kernel
theorem c280_65 : mj_Y.code kY 280 65 = some (.iload 5) ∧ 5 = 5 ∧ 67 = 65 + 2 := by decide +kernel
theorem c280_67 : mj_Y.code kY 280 67 = some .iaload ∧ 68 = 67 + 1 := by decide +kernel
theorem c280_68 : mj_Y.code kY 280 68 = some (.lconst 1) ∧ Int64.ofNat ((1 : Fin 2) : Nat) = 1 ∧ 69 = 68 + 1 := by decide +kernel
theorem c280_69 : mj_Y.code kY 280 69 = some (.invokevirtual 384) ∧ mj_Y.na kY 280 384 = some 2 ∧ mj_Y.cv kY 280 384 12 = some 282 ∧ mj_Y.nL kY 282 = 4 ∧ 72 = 69 + 3 := by decide +kernel
theorem c280_72 : mj_Y.code kY 280 72 = some (.iconst 1) ∧ Int32.ofInt 1 = 1 ∧ 73 = 72 + 1 := by decide +kernel
theorem c280_73 : mj_Y.code kY 280 73 = some .ireturn ∧ mj_Y.rt kY 280 = some .boolean := by decide +kernel
theorem c280_74 : mj_Y.code kY 280 74 = some (.aload_n 0) ∧ ((0 : Fin 4) : Nat) = 0 ∧ 75 = 74 + 1 := by decide +kernel
theorem c280_75 : mj_Y.code kY 280 75 = some (.invokevirtual 381) ∧ mj_Y.na kY 280 381 = some 0 ∧ mj_Y.cv kY 280 381 12 = some 281 ∧ mj_Y.nL kY 281 = 1 ∧ 78 = 75 + 3 := by decide +kernel
theorem c280_78 : mj_Y.code kY 280 78 = some (.aload_n 0) ∧ ((0 : Fin 4) : Nat) = 0 ∧ 79 = 78 + 1 := by decide +kernel
theorem c280_79 : mj_Y.code kY 280 79 = some (.aload_n 0) ∧ ((0 : Fin 4) : Nat) = 0 ∧ 80 = 79 + 1 := by decide +kernel
theorem c280_80 : mj_Y.code kY 280 80 = some (.getfield 109) ∧ mj_Y.fl kY 280 109 12 = some (47, (.array .int), false) ∧ 83 = 80 + 3 := by decide +kernel
theorem c280_83 : mj_Y.code kY 280 83 = some (.sipush 384) ∧ (Int16.ofInt 384).toInt32 = 384 ∧ 86 = 83 + 3 := by decide +kernel
theorem c280_86 : mj_Y.code kY 280 86 = some (.iload_n 3) ∧ ((3 : Fin 4) : Nat) = 3 ∧ 87 = 86 + 1 := by decide +kernel
theorem c280_87 : mj_Y.code kY 280 87 = some .imul ∧ 88 = 87 + 1 := by decide +kernel
theorem c280_88 : mj_Y.code kY 280 88 = some (.bipush 6) ∧ (Int8.ofInt 6).toInt32 = 6 ∧ 90 = 88 + 2 := by decide +kernel
theorem c280_90 : mj_Y.code kY 280 90 = some (.iload 4) ∧ 4 = 4 ∧ 92 = 90 + 2 := by decide +kernel
theorem c280_92 : mj_Y.code kY 280 92 = some .imul ∧ 93 = 92 + 1 := by decide +kernel
theorem c280_93 : mj_Y.code kY 280 93 = some .iadd ∧ 94 = 93 + 1 := by decide +kernel
theorem c280_94 : mj_Y.code kY 280 94 = some (.aload_n 0) ∧ ((0 : Fin 4) : Nat) = 0 ∧ 95 = 94 + 1 := by decide +kernel
theorem c280_95 : mj_Y.code kY 280 95 = some (.getfield 49) ∧ mj_Y.fl kY 280 49 12 = some (14, (.array .int), false) ∧ 98 = 95 + 3 := by decide +kernel
theorem c280_98 : mj_Y.code kY 280 98 = some (.iload 5) ∧ 5 = 5 ∧ 100 = 98 + 2 := by decide +kernel
theorem c280_100 : mj_Y.code kY 280 100 = some .iaload ∧ 101 = 100 + 1 := by decide +kernel
theorem c280_101 : mj_Y.code kY 280 101 = some .iadd ∧ 102 = 101 + 1 := by decide +kernel
theorem c280_102 : mj_Y.code kY 280 102 = some .iaload ∧ 103 = 102 + 1 := by decide +kernel
theorem c280_103 : mj_Y.code kY 280 103 = some (.lconst 1) ∧ Int64.ofNat ((1 : Fin 2) : Nat) = 1 ∧ 104 = 103 + 1 := by decide +kernel
theorem c280_104 : mj_Y.code kY 280 104 = some (.invokevirtual 384) ∧ mj_Y.na kY 280 384 = some 2 ∧ mj_Y.cv kY 280 384 12 = some 282 ∧ mj_Y.nL kY 282 = 4 ∧ 107 = 104 + 3 := by decide +kernel
theorem c280_107 : mj_Y.code kY 280 107 = some (.iconst 1) ∧ Int32.ofInt 1 = 1 ∧ 108 = 107 + 1 := by decide +kernel
theorem c280_108 : mj_Y.code kY 280 108 = some .ireturn ∧ mj_Y.rt kY 280 = some .boolean := by decide +kernel
theorem c280_109 : mj_Y.code kY 280 109 = some (.aload_n 0) ∧ ((0 : Fin 4) : Nat) = 0 ∧ 110 = 109 + 1 := by decide +kernel
theorem c280_110 : mj_Y.code kY 280 110 = some (.getfield 103) ∧ mj_Y.fl kY 280 103 12 = some (43, (.array .int), false) ∧ 113 = 110 + 3 := by decide +kernel
theorem c280_113 : mj_Y.code kY 280 113 = some (.aload_n 0) ∧ ((0 : Fin 4) : Nat) = 0 ∧ 114 = 113 + 1 := by decide +kernel
theorem c280_114 : mj_Y.code kY 280 114 = some (.getfield 368) ∧ mj_Y.fl kY 280 368 12 = some (44, .int, true) ∧ 117 = 114 + 3 := by decide +kernel
theorem c280_117 : mj_Y.code kY 280 117 = some (.iconst 1) ∧ Int32.ofInt 1 = 1 ∧ 118 = 117 + 1 := by decide +kernel
theorem c280_118 : mj_Y.code kY 280 118 = some .isub ∧ 119 = 118 + 1 := by decide +kernel
theorem c280_119 : mj_Y.code kY 280 119 = some .iaload ∧ 120 = 119 + 1 := by decide +kernel
theorem c280_120 : mj_Y.code kY 280 120 = some (.istore 6) ∧ 6 = 6 ∧ 6 < mj_Y.nL kY 280 ∧ 122 = 120 + 2 := by decide +kernel
theorem c280_122 : mj_Y.code kY 280 122 = some (.iload 6) ∧ 6 = 6 ∧ 124 = 122 + 2 := by decide +kernel
theorem c280_124 : mj_Y.code kY 280 124 = some (.aload_n 0) ∧ ((0 : Fin 4) : Nat) = 0 ∧ 125 = 124 + 1 := by decide +kernel
theorem c280_125 : mj_Y.code kY 280 125 = some (.getfield 371) ∧ mj_Y.fl kY 280 371 12 = some (45, .int, true) ∧ 128 = 125 + 3 := by decide +kernel
theorem c280_128 : mj_Y.code kY 280 128 = some (.if_icmp .ge 24) ∧ mj_tg 128 24 = some 152 ∧ 131 = 128 + 3 := by decide +kernel
theorem c280_131 : mj_Y.code kY 280 131 = some (.aload_n 0) ∧ ((0 : Fin 4) : Nat) = 0 ∧ 132 = 131 + 1 := by decide +kernel
theorem c280_132 : mj_Y.code kY 280 132 = some (.getfield 97) ∧ mj_Y.fl kY 280 97 12 = some (41, (.array .int), false) ∧ 135 = 132 + 3 := by decide +kernel
theorem c280_135 : mj_Y.code kY 280 135 = some (.iload 6) ∧ 6 = 6 ∧ 137 = 135 + 2 := by decide +kernel
theorem c280_137 : mj_Y.code kY 280 137 = some (.aload_n 0) ∧ ((0 : Fin 4) : Nat) = 0 ∧ 138 = 137 + 1 := by decide +kernel
theorem c280_138 : mj_Y.code kY 280 138 = some (.getfield 97) ∧ mj_Y.fl kY 280 97 12 = some (41, (.array .int), false) ∧ 141 = 138 + 3 := by decide +kernel
theorem c280_141 : mj_Y.code kY 280 141 = some (.iload 6) ∧ 6 = 6 ∧ 143 = 141 + 2 := by decide +kernel
theorem c280_143 : mj_Y.code kY 280 143 = some .iaload ∧ 144 = 143 + 1 := by decide +kernel
theorem c280_144 : mj_Y.code kY 280 144 = some .ineg ∧ 145 = 144 + 1 := by decide +kernel
theorem c280_145 : mj_Y.code kY 280 145 = some .iastore ∧ 146 = 145 + 1 := by decide +kernel
theorem c280_146 : mj_Y.code kY 280 146 = some (.iinc 6 1) ∧ 6 < mj_Y.nL kY 280 ∧ Int32.ofInt 1 = 1 ∧ 149 = 146 + 3 := by decide +kernel
theorem c280_149 : mj_Y.code kY 280 149 = some (.goto (-27)) ∧ mj_tg 149 (-27) = some 122 := by decide +kernel
theorem c280_152 : mj_Y.code kY 280 152 = some (.iconst 1) ∧ Int32.ofInt 1 = 1 ∧ 153 = 152 + 1 := by decide +kernel
theorem c280_153 : mj_Y.code kY 280 153 = some .ireturn ∧ mj_Y.rt kY 280 = some .boolean := by decide +kernel
theorem c280_154 : mj_Y.code kY 280 154 = some (.aload_n 0) ∧ ((0 : Fin 4) : Nat) = 0 ∧ 155 = 154 + 1 := by decide +kernel
theorem c280_155 : mj_Y.code kY 280 155 = some (.invokevirtual 381) ∧ mj_Y.na kY 280 381 = some 0 ∧ mj_Y.cv kY 280 381 12 = some 281 ∧ mj_Y.nL kY 281 = 1 ∧ 158 = 155 + 3 := by decide +kernel
theorem c280_158 : mj_Y.code kY 280 158 = some (.iconst 0) ∧ Int32.ofInt 0 = 0 ∧ 159 = 158 + 1 := by decide +kernel
theorem c280_159 : mj_Y.code kY 280 159 = some (.istore 6) ∧ 6 = 6 ∧ 6 < mj_Y.nL kY 280 ∧ 161 = 159 + 2 := by decide +kernel
theorem c280_161 : mj_Y.code kY 280 161 = some (.iload 6) ∧ 6 = 6 ∧ 163 = 161 + 2 := by decide +kernel
theorem c280_163 : mj_Y.code kY 280 163 = some (.bipush 121) ∧ (Int8.ofInt 121).toInt32 = 121 ∧ 165 = 163 + 2 := by decide +kernel
theorem c280_165 : mj_Y.code kY 280 165 = some (.if_icmp .ge 44) ∧ mj_tg 165 44 = some 209 ∧ 168 = 165 + 3 := by decide +kernel
theorem c280_168 : mj_Y.code kY 280 168 = some (.aload_n 0) ∧ ((0 : Fin 4) : Nat) = 0 ∧ 169 = 168 + 1 := by decide +kernel
theorem c280_169 : mj_Y.code kY 280 169 = some (.getfield 70) ∧ mj_Y.fl kY 280 70 12 = some (21, (.array .long), false) ∧ 172 = 169 + 3 := by decide +kernel
theorem c280_172 : mj_Y.code kY 280 172 = some (.bipush 121) ∧ (Int8.ofInt 121).toInt32 = 121 ∧ 174 = 172 + 2 := by decide +kernel
theorem c280_174 : mj_Y.code kY 280 174 = some (.aload_n 0) ∧ ((0 : Fin 4) : Nat) = 0 ∧ 175 = 174 + 1 := by decide +kernel
theorem c280_175 : mj_Y.code kY 280 175 = some (.getfield 61) ∧ mj_Y.fl kY 280 61 12 = some (18, (.array .int), false) ∧ 178 = 175 + 3 := by decide +kernel
theorem c280_178 : mj_Y.code kY 280 178 = some (.iload 5) ∧ 5 = 5 ∧ 180 = 178 + 2 := by decide +kernel
theorem c280_180 : mj_Y.code kY 280 180 = some .iaload ∧ 181 = 180 + 1 := by decide +kernel
theorem c280_181 : mj_Y.code kY 280 181 = some .imul ∧ 182 = 181 + 1 := by decide +kernel
theorem c280_182 : mj_Y.code kY 280 182 = some (.iload 6) ∧ 6 = 6 ∧ 184 = 182 + 2 := by decide +kernel
theorem c280_184 : mj_Y.code kY 280 184 = some .iadd ∧ 185 = 184 + 1 := by decide +kernel
theorem c280_185 : mj_Y.code kY 280 185 = some .laload ∧ 186 = 185 + 1 := by decide +kernel
theorem c280_186 : mj_Y.code kY 280 186 = some (.lstore 7) ∧ 7 = 7 ∧ 7 + 1 < mj_Y.nL kY 280 ∧ 188 = 186 + 2 := by decide +kernel
theorem c280_188 : mj_Y.code kY 280 188 = some (.lload 7) ∧ 7 = 7 ∧ 190 = 188 + 2 := by decide +kernel
theorem c280_190 : mj_Y.code kY 280 190 = some (.lconst 0) ∧ Int64.ofNat ((0 : Fin 2) : Nat) = 0 ∧ 191 = 190 + 1 := by decide +kernel
theorem c280_191 : mj_Y.code kY 280 191 = some .lcmp ∧ 192 = 191 + 1 := by decide +kernel
theorem c280_192 : mj_Y.code kY 280 192 = some (.ifCond .le 11) ∧ mj_tg 192 11 = some 203 ∧ 195 = 192 + 3 := by decide +kernel
theorem c280_195 : mj_Y.code kY 280 195 = some (.aload_n 0) ∧ ((0 : Fin 4) : Nat) = 0 ∧ 196 = 195 + 1 := by decide +kernel
theorem c280_196 : mj_Y.code kY 280 196 = some (.iload 6) ∧ 6 = 6 ∧ 198 = 196 + 2 := by decide +kernel
theorem c280_198 : mj_Y.code kY 280 198 = some (.lload 7) ∧ 7 = 7 ∧ 200 = 198 + 2 := by decide +kernel
theorem c280_200 : mj_Y.code kY 280 200 = some (.invokevirtual 384) ∧ mj_Y.na kY 280 384 = some 2 ∧ mj_Y.cv kY 280 384 12 = some 282 ∧ mj_Y.nL kY 282 = 4 ∧ 203 = 200 + 3 := by decide +kernel
theorem c280_203 : mj_Y.code kY 280 203 = some (.iinc 6 1) ∧ 6 < mj_Y.nL kY 280 ∧ Int32.ofInt 1 = 1 ∧ 206 = 203 + 3 := by decide +kernel
theorem c280_206 : mj_Y.code kY 280 206 = some (.goto (-45)) ∧ mj_tg 206 (-45) = some 161 := by decide +kernel
theorem c280_209 : mj_Y.code kY 280 209 = some (.iconst 1) ∧ Int32.ofInt 1 = 1 ∧ 210 = 209 + 1 := by decide +kernel
theorem c280_210 : mj_Y.code kY 280 210 = some .ireturn ∧ mj_Y.rt kY 280 = some .boolean := by decide +kernel
theorem c280_211 : mj_Y.code kY 280 211 = some (.aload_n 0) ∧ ((0 : Fin 4) : Nat) = 0 ∧ 212 = 211 + 1 := by decide +kernel
theorem c280_212 : mj_Y.code kY 280 212 = some (.invokevirtual 381) ∧ mj_Y.na kY 280 381 = some 0 ∧ mj_Y.cv kY 280 381 12 = some 281 ∧ mj_Y.nL kY 281 = 1 ∧ 215 = 212 + 3 := by decide +kernel
theorem c280_215 : mj_Y.code kY 280 215 = some (.iconst 0) ∧ Int32.ofInt 0 = 0 ∧ 216 = 215 + 1 := by decide +kernel
theorem c280_216 : mj_Y.code kY 280 216 = some (.istore 6) ∧ 6 = 6 ∧ 6 < mj_Y.nL kY 280 ∧ 218 = 216 + 2 := by decide +kernel
theorem c280_218 : mj_Y.code kY 280 218 = some (.iload 6) ∧ 6 = 6 ∧ 220 = 218 + 2 := by decide +kernel
theorem c280_220 : mj_Y.code kY 280 220 = some (.aload_n 0) ∧ ((0 : Fin 4) : Nat) = 0 ∧ 221 = 220 + 1 := by decide +kernel
theorem c280_221 : mj_Y.code kY 280 221 = some (.getfield 52) ∧ mj_Y.fl kY 280 52 12 = some (15, (.array .int), false) ∧ 224 = 221 + 3 := by decide +kernel
theorem c280_224 : mj_Y.code kY 280 224 = some (.iload 5) ∧ 5 = 5 ∧ 226 = 224 + 2 := by decide +kernel
theorem c280_226 : mj_Y.code kY 280 226 = some .iaload ∧ 227 = 226 + 1 := by decide +kernel
theorem c280_227 : mj_Y.code kY 280 227 = some (.if_icmp .ge 35) ∧ mj_tg 227 35 = some 262 ∧ 230 = 227 + 3 := by decide +kernel
theorem c280_230 : mj_Y.code kY 280 230 = some (.aload_n 0) ∧ ((0 : Fin 4) : Nat) = 0 ∧ 231 = 230 + 1 := by decide +kernel
theorem c280_231 : mj_Y.code kY 280 231 = some (.aload_n 0) ∧ ((0 : Fin 4) : Nat) = 0 ∧ 232 = 231 + 1 := by decide +kernel
theorem c280_232 : mj_Y.code kY 280 232 = some (.getfield 67) ∧ mj_Y.fl kY 280 67 12 = some (20, (.array .int), false) ∧ 235 = 232 + 3 := by decide +kernel
theorem c280_235 : mj_Y.code kY 280 235 = some (.sipush 160) ∧ (Int16.ofInt 160).toInt32 = 160 ∧ 238 = 235 + 3 := by decide +kernel
theorem c280_238 : mj_Y.code kY 280 238 = some (.iload_n 1) ∧ ((1 : Fin 4) : Nat) = 1 ∧ 239 = 238 + 1 := by decide +kernel
theorem c280_239 : mj_Y.code kY 280 239 = some .imul ∧ 240 = 239 + 1 := by decide +kernel
theorem c280_240 : mj_Y.code kY 280 240 = some (.aload_n 0) ∧ ((0 : Fin 4) : Nat) = 0 ∧ 241 = 240 + 1 := by decide +kernel
theorem c280_241 : mj_Y.code kY 280 241 = some (.getfield 49) ∧ mj_Y.fl kY 280 49 12 = some (14, (.array .int), false) ∧ 244 = 241 + 3 := by decide +kernel
theorem c280_244 : mj_Y.code kY 280 244 = some (.iload 5) ∧ 5 = 5 ∧ 246 = 244 + 2 := by decide +kernel
theorem c280_246 : mj_Y.code kY 280 246 = some .iaload ∧ 247 = 246 + 1 := by decide +kernel
theorem c280_247 : mj_Y.code kY 280 247 = some .iadd ∧ 248 = 247 + 1 := by decide +kernel
theorem c280_248 : mj_Y.code kY 280 248 = some (.iload 6) ∧ 6 = 6 ∧ 250 = 248 + 2 := by decide +kernel
theorem c280_250 : mj_Y.code kY 280 250 = some .iadd ∧ 251 = 250 + 1 := by decide +kernel
theorem c280_251 : mj_Y.code kY 280 251 = some .iaload ∧ 252 = 251 + 1 := by decide +kernel
theorem c280_252 : mj_Y.code kY 280 252 = some (.lconst 1) ∧ Int64.ofNat ((1 : Fin 2) : Nat) = 1 ∧ 253 = 252 + 1 := by decide +kernel
theorem c280_253 : mj_Y.code kY 280 253 = some (.invokevirtual 384) ∧ mj_Y.na kY 280 384 = some 2 ∧ mj_Y.cv kY 280 384 12 = some 282 ∧ mj_Y.nL kY 282 = 4 ∧ 256 = 253 + 3 := by decide +kernel
theorem c280_256 : mj_Y.code kY 280 256 = some (.iinc 6 1) ∧ 6 < mj_Y.nL kY 280 ∧ Int32.ofInt 1 = 1 ∧ 259 = 256 + 3 := by decide +kernel
theorem c280_259 : mj_Y.code kY 280 259 = some (.goto (-41)) ∧ mj_tg 259 (-41) = some 218 := by decide +kernel
theorem c280_262 : mj_Y.code kY 280 262 = some (.iconst 1) ∧ Int32.ofInt 1 = 1 ∧ 263 = 262 + 1 := by decide +kernel
theorem c280_263 : mj_Y.code kY 280 263 = some .ireturn ∧ mj_Y.rt kY 280 = some .boolean := by decide +kernel
theorem c280_264 : mj_Y.code kY 280 264 = some (.aload_n 0) ∧ ((0 : Fin 4) : Nat) = 0 ∧ 265 = 264 + 1 := by decide +kernel
theorem c280_265 : mj_Y.code kY 280 265 = some (.aload_n 0) ∧ ((0 : Fin 4) : Nat) = 0 ∧ 266 = 265 + 1 := by decide +kernel
theorem c280_266 : mj_Y.code kY 280 266 = some (.getfield 49) ∧ mj_Y.fl kY 280 49 12 = some (14, (.array .int), false) ∧ 269 = 266 + 3 := by decide +kernel
theorem c280_269 : mj_Y.code kY 280 269 = some (.iload 5) ∧ 5 = 5 ∧ 271 = 269 + 2 := by decide +kernel
theorem c280_271 : mj_Y.code kY 280 271 = some .iaload ∧ 272 = 271 + 1 := by decide +kernel
theorem c280_272 : mj_Y.code kY 280 272 = some (.invokevirtual 388) ∧ mj_Y.na kY 280 388 = some 1 ∧ mj_Y.cv kY 280 388 12 = some 283 ∧ mj_Y.nL kY 283 = 7 ∧ 275 = 272 + 3 := by decide +kernel
theorem c280_275 : mj_Y.code kY 280 275 = some .ireturn ∧ mj_Y.rt kY 280 = some .boolean := by decide +kernel
