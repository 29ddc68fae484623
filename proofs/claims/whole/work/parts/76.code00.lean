theorem c9_0 : mj_Y.code kY 9 0 = some (.iload_n 3) ∧ ((3 : Fin 4) : Nat) = 3 ∧ 1 = 0 + 1 := by decide +kernel
theorem c9_1 : mj_Y.code kY 9 1 = some (.iconst 1) ∧ Int32.ofInt 1 = 1 ∧ 2 = 1 + 1 := by decide +kernel
theorem c9_2 : mj_Y.code kY 9 2 = some (.if_icmp .lt 24) ∧ mj_tg 2 24 = some 26 ∧ 5 = 2 + 3 := by decide +kernel
theorem c9_5 : mj_Y.code kY 9 5 = some (.iload_n 3) ∧ ((3 : Fin 4) : Nat) = 3 ∧ 6 = 5 + 1 := by decide +kernel
theorem c9_6 : mj_Y.code kY 9 6 = some (.bipush 8) ∧ (Int8.ofInt 8).toInt32 = 8 ∧ 8 = 6 + 2 := by decide +kernel
theorem c9_8 : mj_Y.code kY 9 8 = some (.if_icmp .gt 18) ∧ mj_tg 8 18 = some 26 ∧ 11 = 8 + 3 := by decide +kernel
theorem c9_11 : mj_Y.code kY 9 11 = some (.aload_n 0) ∧ ((0 : Fin 4) : Nat) = 0 ∧ 12 = 11 + 1 := by decide +kernel
theorem c9_12 : mj_Y.code kY 9 12 = some (.getfield 12) ∧ mj_Y.fl kY 9 12 5 = some (0, (.object "java/lang/StringBuilder"), false) ∧ 15 = 12 + 3 := by decide +kernel
theorem c9_15 : mj_Y.code kY 9 15 = some (.invokevirtual 37) ∧ mj_Y.na kY 9 37 = some 0 ∧ mj_Y.cv kY 9 37 0 = some 10 ∧ mj_Y.nL kY 10 = 1 ∧ 18 = 15 + 3 := by decide +kernel
theorem c9_18 : mj_Y.code kY 9 18 = some (.iload_n 3) ∧ ((3 : Fin 4) : Nat) = 3 ∧ 19 = 18 + 1 := by decide +kernel
theorem c9_19 : mj_Y.code kY 9 19 = some .iadd ∧ 20 = 19 + 1 := by decide +kernel
theorem c9_20 : mj_Y.code kY 9 20 = some (.sipush 160) ∧ (Int16.ofInt 160).toInt32 = 160 ∧ 23 = 20 + 3 := by decide +kernel
theorem c9_23 : mj_Y.code kY 9 23 = some (.if_icmp .le 7) ∧ mj_tg 23 7 = some 30 ∧ 26 = 23 + 3 := by decide +kernel
theorem c9_26 : mj_Y.code kY 9 26 = some (.sipush (-1000)) ∧ (Int16.ofInt (-1000)).toInt32 = (-1000) ∧ 29 = 26 + 3 := by decide +kernel
theorem c9_29 : mj_Y.code kY 9 29 = some .ireturn ∧ mj_Y.rt kY 9 = some .int := by decide +kernel
theorem c9_30 : mj_Y.code kY 9 30 = some (.iconst 0) ∧ Int32.ofInt 0 = 0 ∧ 31 = 30 + 1 := by decide +kernel
theorem c9_31 : mj_Y.code kY 9 31 = some (.istore 4) ∧ 4 = 4 ∧ 4 < mj_Y.nL kY 9 ∧ 33 = 31 + 2 := by decide +kernel
theorem c9_33 : mj_Y.code kY 9 33 = some (.iload 4) ∧ 4 = 4 ∧ 35 = 33 + 2 := by decide +kernel
theorem c9_35 : mj_Y.code kY 9 35 = some (.iload_n 3) ∧ ((3 : Fin 4) : Nat) = 3 ∧ 36 = 35 + 1 := by decide +kernel
theorem c9_36 : mj_Y.code kY 9 36 = some (.if_icmp .ge 35) ∧ mj_tg 36 35 = some 71 ∧ 39 = 36 + 3 := by decide +kernel
theorem c9_39 : mj_Y.code kY 9 39 = some (.lload_n 1) ∧ ((1 : Fin 4) : Nat) = 1 ∧ 40 = 39 + 1 := by decide +kernel
theorem c9_40 : mj_Y.code kY 9 40 = some (.iload 4) ∧ 4 = 4 ∧ 42 = 40 + 2 := by decide +kernel
theorem c9_42 : mj_Y.code kY 9 42 = some (.invokestatic 41) ∧ mj_Y.pr kY 9 41 = none ∧ mj_Y.cs kY 9 41 = some (12, 2) ∧ mj_Y.nL kY 12 = 3 ∧ 45 = 42 + 3 := by decide +kernel
theorem c9_45 : mj_Y.code kY 9 45 = some (.istore 5) ∧ 5 = 5 ∧ 5 < mj_Y.nL kY 9 ∧ 47 = 45 + 2 := by decide +kernel
theorem c9_47 : mj_Y.code kY 9 47 = some (.iload 5) ∧ 5 = 5 ∧ 49 = 47 + 2 := by decide +kernel
theorem c9_49 : mj_Y.code kY 9 49 = some (.bipush 33) ∧ (Int8.ofInt 33).toInt32 = 33 ∧ 51 = 49 + 2 := by decide +kernel
theorem c9_51 : mj_Y.code kY 9 51 = some (.if_icmp .lt 10) ∧ mj_tg 51 10 = some 61 ∧ 54 = 51 + 3 := by decide +kernel
theorem c9_54 : mj_Y.code kY 9 54 = some (.iload 5) ∧ 5 = 5 ∧ 56 = 54 + 2 := by decide +kernel
theorem c9_56 : mj_Y.code kY 9 56 = some (.bipush 126) ∧ (Int8.ofInt 126).toInt32 = 126 ∧ 58 = 56 + 2 := by decide +kernel
theorem c9_58 : mj_Y.code kY 9 58 = some (.if_icmp .le 7) ∧ mj_tg 58 7 = some 65 ∧ 61 = 58 + 3 := by decide +kernel
theorem c9_61 : mj_Y.code kY 9 61 = some (.sipush (-1000)) ∧ (Int16.ofInt (-1000)).toInt32 = (-1000) ∧ 64 = 61 + 3 := by decide +kernel
theorem c9_64 : mj_Y.code kY 9 64 = some .ireturn ∧ mj_Y.rt kY 9 = some .int := by decide +kernel
theorem c9_65 : mj_Y.code kY 9 65 = some (.iinc 4 1) ∧ 4 < mj_Y.nL kY 9 ∧ Int32.ofInt 1 = 1 ∧ 68 = 65 + 3 := by decide +kernel
theorem c9_68 : mj_Y.code kY 9 68 = some (.goto (-35)) ∧ mj_tg 68 (-35) = some 33 := by decide +kernel
theorem c9_71 : mj_Y.code kY 9 71 = some (.iload_n 3) ∧ ((3 : Fin 4) : Nat) = 3 ∧ 72 = 71 + 1 := by decide +kernel
theorem c9_72 : mj_Y.code kY 9 72 = some (.iconst 1) ∧ Int32.ofInt 1 = 1 ∧ 73 = 72 + 1 := by decide +kernel
theorem c9_73 : mj_Y.code kY 9 73 = some .isub ∧ 74 = 73 + 1 := by decide +kernel
theorem c9_74 : mj_Y.code kY 9 74 = some (.istore 4) ∧ 4 = 4 ∧ 4 < mj_Y.nL kY 9 ∧ 76 = 74 + 2 := by decide +kernel
theorem c9_76 : mj_Y.code kY 9 76 = some (.iload 4) ∧ 4 = 4 ∧ 78 = 76 + 2 := by decide +kernel
theorem c9_78 : mj_Y.code kY 9 78 = some (.ifCond .lt 24) ∧ mj_tg 78 24 = some 102 ∧ 81 = 78 + 3 := by decide +kernel
theorem c9_81 : mj_Y.code kY 9 81 = some (.aload_n 0) ∧ ((0 : Fin 4) : Nat) = 0 ∧ 82 = 81 + 1 := by decide +kernel
theorem c9_82 : mj_Y.code kY 9 82 = some (.getfield 12) ∧ mj_Y.fl kY 9 12 5 = some (0, (.object "java/lang/StringBuilder"), false) ∧ 85 = 82 + 3 := by decide +kernel
theorem c9_85 : mj_Y.code kY 9 85 = some (.lload_n 1) ∧ ((1 : Fin 4) : Nat) = 1 ∧ 86 = 85 + 1 := by decide +kernel
theorem c9_86 : mj_Y.code kY 9 86 = some (.iload 4) ∧ 4 = 4 ∧ 88 = 86 + 2 := by decide +kernel
theorem c9_88 : mj_Y.code kY 9 88 = some (.invokestatic 41) ∧ mj_Y.pr kY 9 41 = none ∧ mj_Y.cs kY 9 41 = some (12, 2) ∧ mj_Y.nL kY 12 = 3 ∧ 91 = 88 + 3 := by decide +kernel
theorem c9_91 : mj_Y.code kY 9 91 = some .i2c ∧ 92 = 91 + 1 := by decide +kernel
theorem c9_92 : mj_Y.code kY 9 92 = some (.invokevirtual 45) ∧ mj_Y.na kY 9 45 = some 1 ∧ mj_Y.cv kY 9 45 0 = some 13 ∧ mj_Y.nL kY 13 = 2 ∧ 95 = 92 + 3 := by decide +kernel
theorem c9_95 : mj_Y.code kY 9 95 = some .pop ∧ 96 = 95 + 1 := by decide +kernel
theorem c9_96 : mj_Y.code kY 9 96 = some (.iinc 4 (-1)) ∧ 4 < mj_Y.nL kY 9 ∧ Int32.ofInt (-1) = (-1) ∧ 99 = 96 + 3 := by decide +kernel
theorem c9_99 : mj_Y.code kY 9 99 = some (.goto (-23)) ∧ mj_tg 99 (-23) = some 76 := by decide +kernel
theorem c9_102 : mj_Y.code kY 9 102 = some (.aload_n 0) ∧ ((0 : Fin 4) : Nat) = 0 ∧ 103 = 102 + 1 := by decide +kernel
theorem c9_103 : mj_Y.code kY 9 103 = some (.getfield 12) ∧ mj_Y.fl kY 9 12 5 = some (0, (.object "java/lang/StringBuilder"), false) ∧ 106 = 103 + 3 := by decide +kernel
theorem c9_106 : mj_Y.code kY 9 106 = some (.invokevirtual 37) ∧ mj_Y.na kY 9 37 = some 0 ∧ mj_Y.cv kY 9 37 0 = some 10 ∧ mj_Y.nL kY 10 = 1 ∧ 109 = 106 + 3 := by decide +kernel
theorem c9_109 : mj_Y.code kY 9 109 = some .ireturn ∧ mj_Y.rt kY 9 = some .int := by decide +kernel
theorem c10_0 : mj_Y.code kY 10 0 = some (.aload_n 0) ∧ ((0 : Fin 4) : Nat) = 0 ∧ 1 = 0 + 1 := by decide +kernel
theorem c10_1 : mj_Y.code kY 10 1 = some (.invokespecial 343) ∧ mj_Y.pr kY 10 343 = none ∧ mj_Y.cp kY 10 343 = some (11, 0) ∧ mj_Y.nL kY 11 = 1 ∧ 4 = 1 + 3 := by decide +kernel
theorem c10_4 : mj_Y.code kY 10 4 = some .ireturn ∧ mj_Y.rt kY 10 = some .int := by decide +kernel
theorem c11_0 : mj_Y.code kY 11 0 = some (.aload_n 0) ∧ ((0 : Fin 4) : Nat) = 0 ∧ 1 = 0 + 1 := by decide +kernel
theorem c11_1 : mj_Y.code kY 11 1 = some (.getfield 79) ∧ mj_Y.fl kY 11 79 0 = some (3, .int, true) ∧ 4 = 1 + 3 := by decide +kernel
theorem c11_4 : mj_Y.code kY 11 4 = some .ireturn ∧ mj_Y.rt kY 11 = some .int := by decide +kernel
theorem c12_0 : mj_Y.code kY 12 0 = some (.lload_n 0) ∧ ((0 : Fin 4) : Nat) = 0 ∧ 1 = 0 + 1 := by decide +kernel
theorem c12_1 : mj_Y.code kY 12 1 = some (.bipush 8) ∧ (Int8.ofInt 8).toInt32 = 8 ∧ 3 = 1 + 2 := by decide +kernel
theorem c12_3 : mj_Y.code kY 12 3 = some (.iload_n 2) ∧ ((2 : Fin 4) : Nat) = 2 ∧ 4 = 3 + 1 := by decide +kernel
theorem c12_4 : mj_Y.code kY 12 4 = some .imul ∧ 5 = 4 + 1 := by decide +kernel
theorem c12_5 : mj_Y.code kY 12 5 = some .lshr ∧ 6 = 5 + 1 := by decide +kernel
theorem c12_6 : mj_Y.code kY 12 6 = some .l2i ∧ 7 = 6 + 1 := by decide +kernel
theorem c12_7 : mj_Y.code kY 12 7 = some (.sipush 255) ∧ (Int16.ofInt 255).toInt32 = 255 ∧ 10 = 7 + 3 := by decide +kernel
theorem c12_10 : mj_Y.code kY 12 10 = some .iand ∧ 11 = 10 + 1 := by decide +kernel
theorem c12_11 : mj_Y.code kY 12 11 = some .ireturn ∧ mj_Y.rt kY 12 = some .int := by decide +kernel
theorem c13_0 : mj_Y.code kY 13 0 = some (.aload_n 0) ∧ ((0 : Fin 4) : Nat) = 0 ∧ 1 = 0 + 1 := by decide +kernel
theorem c13_1 : mj_Y.code kY 13 1 = some (.iload_n 1) ∧ ((1 : Fin 4) : Nat) = 1 ∧ 2 = 1 + 1 := by decide +kernel
theorem c13_2 : mj_Y.code kY 13 2 = some (.invokespecial 50) ∧ mj_Y.pr kY 13 50 = none ∧ mj_Y.cp kY 13 50 = some (14, 1) ∧ mj_Y.nL kY 14 = 2 ∧ 5 = 2 + 3 := by decide +kernel
theorem c13_5 : mj_Y.code kY 13 5 = some .pop ∧ 6 = 5 + 1 := by decide +kernel
theorem c13_6 : mj_Y.code kY 13 6 = some (.aload_n 0) ∧ ((0 : Fin 4) : Nat) = 0 ∧ 7 = 6 + 1 := by decide +kernel
theorem c13_7 : mj_Y.code kY 13 7 = some .areturn ∧ mj_Y.rt kY 13 = some (.object "java/lang/StringBuilder") ∧ ((.object "java/lang/StringBuilder") : FieldType).isReference = true := by decide +kernel
theorem c14_0 : mj_Y.code kY 14 0 = some (.aload_n 0) ∧ ((0 : Fin 4) : Nat) = 0 ∧ 1 = 0 + 1 := by decide +kernel
theorem c14_1 : mj_Y.code kY 14 1 = some (.aload_n 0) ∧ ((0 : Fin 4) : Nat) = 0 ∧ 2 = 1 + 1 := by decide +kernel
theorem c14_2 : mj_Y.code kY 14 2 = some (.getfield 79) ∧ mj_Y.fl kY 14 79 0 = some (3, .int, true) ∧ 5 = 2 + 3 := by decide +kernel
theorem c14_5 : mj_Y.code kY 14 5 = some (.iconst 1) ∧ Int32.ofInt 1 = 1 ∧ 6 = 5 + 1 := by decide +kernel
theorem c14_6 : mj_Y.code kY 14 6 = some .iadd ∧ 7 = 6 + 1 := by decide +kernel
theorem c14_7 : mj_Y.code kY 14 7 = some (.invokevirtual 100) ∧ mj_Y.na kY 14 100 = some 1 ∧ mj_Y.cv kY 14 100 0 = some 15 ∧ mj_Y.nL kY 15 = 3 ∧ 10 = 7 + 3 := by decide +kernel
theorem c14_10 : mj_Y.code kY 14 10 = some (.aload_n 0) ∧ ((0 : Fin 4) : Nat) = 0 ∧ 11 = 10 + 1 := by decide +kernel
theorem c14_11 : mj_Y.code kY 14 11 = some (.invokevirtual 83) ∧ mj_Y.na kY 14 83 = some 0 ∧ mj_Y.cv kY 14 83 0 = some 22 ∧ mj_Y.nL kY 22 = 1 ∧ 14 = 11 + 3 := by decide +kernel
theorem c14_14 : mj_Y.code kY 14 14 = some (.ifCond .eq 31) ∧ mj_tg 14 31 = some 45 ∧ 17 = 14 + 3 := by decide +kernel
theorem c14_17 : mj_Y.code kY 14 17 = some (.iload_n 1) ∧ ((1 : Fin 4) : Nat) = 1 ∧ 18 = 17 + 1 := by decide +kernel
theorem c14_18 : mj_Y.code kY 14 18 = some (.invokestatic 191) ∧ mj_Y.pr kY 14 191 = none ∧ mj_Y.cs kY 14 191 = some (23, 1) ∧ mj_Y.nL kY 23 = 1 ∧ 21 = 18 + 3 := by decide +kernel
theorem c14_21 : mj_Y.code kY 14 21 = some (.ifCond .eq 24) ∧ mj_tg 21 24 = some 45 ∧ 24 = 21 + 3 := by decide +kernel
theorem c14_24 : mj_Y.code kY 14 24 = some (.aload_n 0) ∧ ((0 : Fin 4) : Nat) = 0 ∧ 25 = 24 + 1 := by decide +kernel
theorem c14_25 : mj_Y.code kY 14 25 = some (.getfield 15) ∧ mj_Y.fl kY 14 15 0 = some (0, (.array .byte), true) ∧ 28 = 25 + 3 := by decide +kernel
theorem c14_28 : mj_Y.code kY 14 28 = some (.aload_n 0) ∧ ((0 : Fin 4) : Nat) = 0 ∧ 29 = 28 + 1 := by decide +kernel
theorem c14_29 : mj_Y.code kY 14 29 = some .dup ∧ 30 = 29 + 1 := by decide +kernel
theorem c14_30 : mj_Y.code kY 14 30 = some (.getfield 79) ∧ mj_Y.fl kY 14 79 0 = some (3, .int, true) ∧ 33 = 30 + 3 := by decide +kernel
theorem c14_33 : mj_Y.code kY 14 33 = some .dup_x1 ∧ 34 = 33 + 1 := by decide +kernel
theorem c14_34 : mj_Y.code kY 14 34 = some (.iconst 1) ∧ Int32.ofInt 1 = 1 ∧ 35 = 34 + 1 := by decide +kernel
theorem c14_35 : mj_Y.code kY 14 35 = some .iadd ∧ 36 = 35 + 1 := by decide +kernel
theorem c14_36 : mj_Y.code kY 14 36 = some (.putfield 79) ∧ mj_Y.fl kY 14 79 0 = some (3, .int, true) ∧ 39 = 36 + 3 := by decide +kernel
theorem c14_39 : mj_Y.code kY 14 39 = some (.iload_n 1) ∧ ((1 : Fin 4) : Nat) = 1 ∧ 40 = 39 + 1 := by decide +kernel
theorem c14_40 : mj_Y.code kY 14 40 = some .i2b ∧ 41 = 40 + 1 := by decide +kernel
theorem c14_41 : mj_Y.code kY 14 41 = some .bastore ∧ 42 = 41 + 1 := by decide +kernel
theorem c14_42 : mj_Y.code kY 14 42 = some (.goto 33) ∧ mj_tg 42 33 = some 75 := by decide +kernel
theorem c14_45 : mj_Y.code kY 14 45 = some (.aload_n 0) ∧ ((0 : Fin 4) : Nat) = 0 ∧ 46 = 45 + 1 := by decide +kernel
theorem c14_46 : mj_Y.code kY 14 46 = some (.invokevirtual 83) ∧ mj_Y.na kY 14 83 = some 0 ∧ mj_Y.cv kY 14 83 0 = some 22 ∧ mj_Y.nL kY 22 = 1 ∧ 49 = 46 + 3 := by decide +kernel
theorem c14_49 : mj_Y.code kY 14 49 = some (.ifCond .eq 7) ∧ mj_tg 49 7 = some 56 ∧ 52 = 49 + 3 := by decide +kernel
theorem c14_52 : mj_Y.code kY 14 52 = some (.aload_n 0) ∧ ((0 : Fin 4) : Nat) = 0 ∧ 53 = 52 + 1 := by decide +kernel
theorem c14_56 : mj_Y.code kY 14 56 = some (.aload_n 0) ∧ ((0 : Fin 4) : Nat) = 0 ∧ 57 = 56 + 1 := by decide +kernel
theorem c14_57 : mj_Y.code kY 14 57 = some (.getfield 15) ∧ mj_Y.fl kY 14 15 0 = some (0, (.array .byte), true) ∧ 60 = 57 + 3 := by decide +kernel
theorem c14_60 : mj_Y.code kY 14 60 = some (.aload_n 0) ∧ ((0 : Fin 4) : Nat) = 0 ∧ 61 = 60 + 1 := by decide +kernel
theorem c14_61 : mj_Y.code kY 14 61 = some .dup ∧ 62 = 61 + 1 := by decide +kernel
theorem c14_62 : mj_Y.code kY 14 62 = some (.getfield 79) ∧ mj_Y.fl kY 14 79 0 = some (3, .int, true) ∧ 65 = 62 + 3 := by decide +kernel
theorem c14_65 : mj_Y.code kY 14 65 = some .dup_x1 ∧ 66 = 65 + 1 := by decide +kernel
theorem c14_66 : mj_Y.code kY 14 66 = some (.iconst 1) ∧ Int32.ofInt 1 = 1 ∧ 67 = 66 + 1 := by decide +kernel
theorem c14_67 : mj_Y.code kY 14 67 = some .iadd ∧ 68 = 67 + 1 := by decide +kernel
theorem c14_68 : mj_Y.code kY 14 68 = some (.putfield 79) ∧ mj_Y.fl kY 14 79 0 = some (3, .int, true) ∧ 71 = 68 + 3 := by decide +kernel
theorem c14_71 : mj_Y.code kY 14 71 = some (.iload_n 1) ∧ ((1 : Fin 4) : Nat) = 1 ∧ 72 = 71 + 1 := by decide +kernel
theorem c14_75 : mj_Y.code kY 14 75 = some (.aload_n 0) ∧ ((0 : Fin 4) : Nat) = 0 ∧ 76 = 75 + 1 := by decide +kernel
theorem c14_76 : mj_Y.code kY 14 76 = some .areturn ∧ mj_Y.rt kY 14 = some (.object "java/lang/AbstractStringBuilder") ∧ ((.object "java/lang/AbstractStringBuilder") : FieldType).isReference = true := by decide +kernel
theorem c15_0 : mj_Y.code kY 15 0 = some (.aload_n 0) ∧ ((0 : Fin 4) : Nat) = 0 ∧ 1 = 0 + 1 := by decide +kernel
theorem c15_1 : mj_Y.code kY 15 1 = some (.getfield 15) ∧ mj_Y.fl kY 15 15 0 = some (0, (.array .byte), true) ∧ 4 = 1 + 3 := by decide +kernel
theorem c15_4 : mj_Y.code kY 15 4 = some .arraylength ∧ 5 = 4 + 1 := by decide +kernel
theorem c15_5 : mj_Y.code kY 15 5 = some (.aload_n 0) ∧ ((0 : Fin 4) : Nat) = 0 ∧ 6 = 5 + 1 := by decide +kernel
theorem c15_6 : mj_Y.code kY 15 6 = some (.getfield 22) ∧ mj_Y.fl kY 15 22 0 = some (1, .byte, true) ∧ 9 = 6 + 3 := by decide +kernel
theorem c15_9 : mj_Y.code kY 15 9 = some .ishr ∧ 10 = 9 + 1 := by decide +kernel
theorem c15_10 : mj_Y.code kY 15 10 = some (.istore_n 2) ∧ ((2 : Fin 4) : Nat) = 2 ∧ 2 < mj_Y.nL kY 15 ∧ 11 = 10 + 1 := by decide +kernel
theorem c15_11 : mj_Y.code kY 15 11 = some (.iload_n 1) ∧ ((1 : Fin 4) : Nat) = 1 ∧ 12 = 11 + 1 := by decide +kernel
theorem c15_12 : mj_Y.code kY 15 12 = some (.iload_n 2) ∧ ((2 : Fin 4) : Nat) = 2 ∧ 13 = 12 + 1 := by decide +kernel
theorem c15_13 : mj_Y.code kY 15 13 = some .isub ∧ 14 = 13 + 1 := by decide +kernel
theorem c15_14 : mj_Y.code kY 15 14 = some (.ifCond .le 24) ∧ mj_tg 14 24 = some 38 ∧ 17 = 14 + 3 := by decide +kernel
theorem c15_17 : mj_Y.code kY 15 17 = some (.aload_n 0) ∧ ((0 : Fin 4) : Nat) = 0 ∧ 18 = 17 + 1 := by decide +kernel
theorem c15_18 : mj_Y.code kY 15 18 = some (.aload_n 0) ∧ ((0 : Fin 4) : Nat) = 0 ∧ 19 = 18 + 1 := by decide +kernel
theorem c15_19 : mj_Y.code kY 15 19 = some (.getfield 15) ∧ mj_Y.fl kY 15 15 0 = some (0, (.array .byte), true) ∧ 22 = 19 + 3 := by decide +kernel
theorem c15_22 : mj_Y.code kY 15 22 = some (.aload_n 0) ∧ ((0 : Fin 4) : Nat) = 0 ∧ 23 = 22 + 1 := by decide +kernel
theorem c15_23 : mj_Y.code kY 15 23 = some (.iload_n 1) ∧ ((1 : Fin 4) : Nat) = 1 ∧ 24 = 23 + 1 := by decide +kernel
theorem c15_24 : mj_Y.code kY 15 24 = some (.invokevirtual 104) ∧ mj_Y.na kY 15 104 = some 1 ∧ mj_Y.cv kY 15 104 0 = some 16 ∧ mj_Y.nL kY 16 = 6 ∧ 27 = 24 + 3 := by decide +kernel
theorem c15_27 : mj_Y.code kY 15 27 = some (.aload_n 0) ∧ ((0 : Fin 4) : Nat) = 0 ∧ 28 = 27 + 1 := by decide +kernel
theorem c15_28 : mj_Y.code kY 15 28 = some (.getfield 22) ∧ mj_Y.fl kY 15 22 0 = some (1, .byte, true) ∧ 31 = 28 + 3 := by decide +kernel
theorem c15_31 : mj_Y.code kY 15 31 = some .ishl ∧ 32 = 31 + 1 := by decide +kernel
theorem c15_32 : mj_Y.code kY 15 32 = some (.invokestatic 108) ∧ mj_Y.pr kY 15 108 = none ∧ mj_Y.cs kY 15 108 = some (20, 2) ∧ mj_Y.nL kY 20 = 3 ∧ 35 = 32 + 3 := by decide +kernel
theorem c15_35 : mj_Y.code kY 15 35 = some (.putfield 15) ∧ mj_Y.fl kY 15 15 0 = some (0, (.array .byte), true) ∧ 38 = 35 + 3 := by decide +kernel
theorem c15_38 : mj_Y.code kY 15 38 = some .return_ ∧ mj_Y.rt kY 15 = none := by decide +kernel
theorem c16_0 : mj_Y.code kY 16 0 = some (.aload_n 0) ∧ ((0 : Fin 4) : Nat) = 0 ∧ 1 = 0 + 1 := by decide +kernel
theorem c16_1 : mj_Y.code kY 16 1 = some (.getfield 15) ∧ mj_Y.fl kY 16 15 0 = some (0, (.array .byte), true) ∧ 4 = 1 + 3 := by decide +kernel
theorem c16_4 : mj_Y.code kY 16 4 = some .arraylength ∧ 5 = 4 + 1 := by decide +kernel
theorem c16_5 : mj_Y.code kY 16 5 = some (.istore_n 2) ∧ ((2 : Fin 4) : Nat) = 2 ∧ 2 < mj_Y.nL kY 16 ∧ 6 = 5 + 1 := by decide +kernel
theorem c16_6 : mj_Y.code kY 16 6 = some (.iload_n 1) ∧ ((1 : Fin 4) : Nat) = 1 ∧ 7 = 6 + 1 := by decide +kernel
theorem c16_7 : mj_Y.code kY 16 7 = some (.aload_n 0) ∧ ((0 : Fin 4) : Nat) = 0 ∧ 8 = 7 + 1 := by decide +kernel
theorem c16_8 : mj_Y.code kY 16 8 = some (.getfield 22) ∧ mj_Y.fl kY 16 22 0 = some (1, .byte, true) ∧ 11 = 8 + 3 := by decide +kernel
theorem c16_11 : mj_Y.code kY 16 11 = some .ishl ∧ 12 = 11 + 1 := by decide +kernel
theorem c16_12 : mj_Y.code kY 16 12 = some (.istore_n 3) ∧ ((3 : Fin 4) : Nat) = 3 ∧ 3 < mj_Y.nL kY 16 ∧ 13 = 12 + 1 := by decide +kernel
theorem c16_13 : mj_Y.code kY 16 13 = some (.iload_n 3) ∧ ((3 : Fin 4) : Nat) = 3 ∧ 14 = 13 + 1 := by decide +kernel
theorem c16_14 : mj_Y.code kY 16 14 = some (.iload_n 2) ∧ ((2 : Fin 4) : Nat) = 2 ∧ 15 = 14 + 1 := by decide +kernel
theorem c16_15 : mj_Y.code kY 16 15 = some .isub ∧ 16 = 15 + 1 := by decide +kernel
theorem c16_16 : mj_Y.code kY 16 16 = some (.istore 4) ∧ 4 = 4 ∧ 4 < mj_Y.nL kY 16 ∧ 18 = 16 + 2 := by decide +kernel
theorem c16_18 : mj_Y.code kY 16 18 = some (.iload_n 2) ∧ ((2 : Fin 4) : Nat) = 2 ∧ 19 = 18 + 1 := by decide +kernel
theorem c16_19 : mj_Y.code kY 16 19 = some (.iload 4) ∧ 4 = 4 ∧ 21 = 19 + 2 := by decide +kernel
theorem c16_21 : mj_Y.code kY 16 21 = some (.iload_n 2) ∧ ((2 : Fin 4) : Nat) = 2 ∧ 22 = 21 + 1 := by decide +kernel
theorem c16_22 : mj_Y.code kY 16 22 = some (.iconst 2) ∧ Int32.ofInt 2 = 2 ∧ 23 = 22 + 1 := by decide +kernel
theorem c16_23 : mj_Y.code kY 16 23 = some (.aload_n 0) ∧ ((0 : Fin 4) : Nat) = 0 ∧ 24 = 23 + 1 := by decide +kernel
theorem c16_24 : mj_Y.code kY 16 24 = some (.getfield 22) ∧ mj_Y.fl kY 16 22 0 = some (1, .byte, true) ∧ 27 = 24 + 3 := by decide +kernel
theorem c16_27 : mj_Y.code kY 16 27 = some .ishl ∧ 28 = 27 + 1 := by decide +kernel
theorem c16_28 : mj_Y.code kY 16 28 = some .iadd ∧ 29 = 28 + 1 := by decide +kernel
theorem c16_29 : mj_Y.code kY 16 29 = some (.invokestatic 114) ∧ mj_Y.pr kY 16 114 = none ∧ mj_Y.cs kY 16 114 = some (17, 3) ∧ mj_Y.nL kY 17 = 4 ∧ 32 = 29 + 3 := by decide +kernel
theorem c16_32 : mj_Y.code kY 16 32 = some (.istore 5) ∧ 5 = 5 ∧ 5 < mj_Y.nL kY 16 ∧ 34 = 32 + 2 := by decide +kernel
theorem c16_34 : mj_Y.code kY 16 34 = some (.iload 5) ∧ 5 = 5 ∧ 36 = 34 + 2 := by decide +kernel
theorem c16_36 : mj_Y.code kY 16 36 = some (.ldc 39) ∧ mj_Y.ck kY 16 39 = some (.int 2147483647) ∧ 38 = 36 + 2 := by decide +kernel
theorem c16_38 : mj_Y.code kY 16 38 = some (.if_icmp .ne 13) ∧ mj_tg 38 13 = some 51 ∧ 41 = 38 + 3 := by decide +kernel
theorem c16_51 : mj_Y.code kY 16 51 = some (.iload 5) ∧ 5 = 5 ∧ 53 = 51 + 2 := by decide +kernel
theorem c16_53 : mj_Y.code kY 16 53 = some (.aload_n 0) ∧ ((0 : Fin 4) : Nat) = 0 ∧ 54 = 53 + 1 := by decide +kernel
theorem c16_54 : mj_Y.code kY 16 54 = some (.getfield 22) ∧ mj_Y.fl kY 16 22 0 = some (1, .byte, true) ∧ 57 = 54 + 3 := by decide +kernel
theorem c16_57 : mj_Y.code kY 16 57 = some .ishr ∧ 58 = 57 + 1 := by decide +kernel
theorem c16_58 : mj_Y.code kY 16 58 = some .ireturn ∧ mj_Y.rt kY 16 = some .int := by decide +kernel
theorem c17_0 : mj_Y.code kY 17 0 = some (.iload_n 0) ∧ ((0 : Fin 4) : Nat) = 0 ∧ 1 = 0 + 1 := by decide +kernel
theorem c17_1 : mj_Y.code kY 17 1 = some (.iload_n 1) ∧ ((1 : Fin 4) : Nat) = 1 ∧ 2 = 1 + 1 := by decide +kernel
theorem c17_2 : mj_Y.code kY 17 2 = some (.iload_n 2) ∧ ((2 : Fin 4) : Nat) = 2 ∧ 3 = 2 + 1 := by decide +kernel
theorem c17_3 : mj_Y.code kY 17 3 = some (.invokestatic 194) ∧ mj_Y.pr kY 17 194 = none ∧ mj_Y.cs kY 17 194 = some (18, 2) ∧ mj_Y.nL kY 18 = 2 ∧ 6 = 3 + 3 := by decide +kernel
theorem c17_6 : mj_Y.code kY 17 6 = some .iadd ∧ 7 = 6 + 1 := by decide +kernel
theorem c17_7 : mj_Y.code kY 17 7 = some (.istore_n 3) ∧ ((3 : Fin 4) : Nat) = 3 ∧ 3 < mj_Y.nL kY 17 ∧ 8 = 7 + 1 := by decide +kernel
theorem c17_8 : mj_Y.code kY 17 8 = some (.iconst 0) ∧ Int32.ofInt 0 = 0 ∧ 9 = 8 + 1 := by decide +kernel
theorem c17_9 : mj_Y.code kY 17 9 = some (.iload_n 3) ∧ ((3 : Fin 4) : Nat) = 3 ∧ 10 = 9 + 1 := by decide +kernel
theorem c17_10 : mj_Y.code kY 17 10 = some (.if_icmp .ge 11) ∧ mj_tg 10 11 = some 21 ∧ 13 = 10 + 3 := by decide +kernel
theorem c17_13 : mj_Y.code kY 17 13 = some (.iload_n 3) ∧ ((3 : Fin 4) : Nat) = 3 ∧ 14 = 13 + 1 := by decide +kernel
theorem c17_14 : mj_Y.code kY 17 14 = some (.ldc 200) ∧ mj_Y.ck kY 17 200 = some (.int 2147483639) ∧ 16 = 14 + 2 := by decide +kernel
theorem c17_16 : mj_Y.code kY 17 16 = some (.if_icmp .gt 5) ∧ mj_tg 16 5 = some 21 ∧ 19 = 16 + 3 := by decide +kernel
theorem c17_19 : mj_Y.code kY 17 19 = some (.iload_n 3) ∧ ((3 : Fin 4) : Nat) = 3 ∧ 20 = 19 + 1 := by decide +kernel
theorem c17_20 : mj_Y.code kY 17 20 = some .ireturn ∧ mj_Y.rt kY 17 = some .int := by decide +kernel
theorem c17_21 : mj_Y.code kY 17 21 = some (.iload_n 0) ∧ ((0 : Fin 4) : Nat) = 0 ∧ 22 = 21 + 1 := by decide +kernel
theorem c17_22 : mj_Y.code kY 17 22 = some (.iload_n 1) ∧ ((1 : Fin 4) : Nat) = 1 ∧ 23 = 22 + 1 := by decide +kernel
theorem c18_0 : mj_Y.code kY 18 0 = some (.iload_n 0) ∧ ((0 : Fin 4) : Nat) = 0 ∧ 1 = 0 + 1 := by decide +kernel
theorem c18_1 : mj_Y.code kY 18 1 = some (.iload_n 1) ∧ ((1 : Fin 4) : Nat) = 1 ∧ 2 = 1 + 1 := by decide +kernel
theorem c18_2 : mj_Y.code kY 18 2 = some (.if_icmp .lt 7) ∧ mj_tg 2 7 = some 9 ∧ 5 = 2 + 3 := by decide +kernel
theorem c18_5 : mj_Y.code kY 18 5 = some (.iload_n 0) ∧ ((0 : Fin 4) : Nat) = 0 ∧ 6 = 5 + 1 := by decide +kernel
theorem c18_6 : mj_Y.code kY 18 6 = some (.goto 4) ∧ mj_tg 6 4 = some 10 := by decide +kernel
theorem c18_9 : mj_Y.code kY 18 9 = some (.iload_n 1) ∧ ((1 : Fin 4) : Nat) = 1 ∧ 10 = 9 + 1 := by decide +kernel
theorem c18_10 : mj_Y.code kY 18 10 = some .ireturn ∧ mj_Y.rt kY 18 = some .int := by decide +kernel
theorem c20_0 : mj_Y.code kY 20 0 = some (.iload_n 1) ∧ ((1 : Fin 4) : Nat) = 1 ∧ 1 = 0 + 1 := by decide +kernel
theorem c20_1 : mj_Y.code kY 20 1 = some (.aload_n 0) ∧ ((0 : Fin 4) : Nat) = 0 ∧ 2 = 1 + 1 := by decide +kernel
theorem c20_2 : mj_Y.code kY 20 2 = some .arraylength ∧ 3 = 2 + 1 := by decide +kernel
theorem c20_3 : mj_Y.code kY 20 3 = some (.if_icmp .ne 11) ∧ mj_tg 3 11 = some 14 ∧ 6 = 3 + 3 := by decide +kernel
theorem c20_6 : mj_Y.code kY 20 6 = some (.aload_n 0) ∧ ((0 : Fin 4) : Nat) = 0 ∧ 7 = 6 + 1 := by decide +kernel
theorem c20_7 : mj_Y.code kY 20 7 = some (.invokevirtual 310) ∧ mj_Y.na kY 20 310 = none ∧ mj_Y.pr kY 20 310 = some 9 ∧ 10 = 7 + 3 := by decide +kernel
theorem c20_10 : mj_Y.code kY 20 10 = some (.checkcast 311) ∧ mj_Y.pr kY 20 311 = some 5 ∧ 13 = 10 + 3 := by decide +kernel
theorem c20_13 : mj_Y.code kY 20 13 = some .areturn ∧ mj_Y.rt kY 20 = some (.array .byte) ∧ ((.array .byte) : FieldType).isReference = true := by decide +kernel
theorem c20_14 : mj_Y.code kY 20 14 = some (.iload_n 1) ∧ ((1 : Fin 4) : Nat) = 1 ∧ 15 = 14 + 1 := by decide +kernel
theorem c20_15 : mj_Y.code kY 20 15 = some (.newarray .byte) ∧ newarray.typeOf .byte = .byte ∧ 17 = 15 + 2 := by decide +kernel
theorem c20_17 : mj_Y.code kY 20 17 = some (.astore_n 2) ∧ ((2 : Fin 4) : Nat) = 2 ∧ 2 < mj_Y.nL kY 20 ∧ 18 = 17 + 1 := by decide +kernel
theorem c20_18 : mj_Y.code kY 20 18 = some (.aload_n 0) ∧ ((0 : Fin 4) : Nat) = 0 ∧ 19 = 18 + 1 := by decide +kernel
theorem c20_19 : mj_Y.code kY 20 19 = some (.iconst 0) ∧ Int32.ofInt 0 = 0 ∧ 20 = 19 + 1 := by decide +kernel
theorem c20_20 : mj_Y.code kY 20 20 = some (.aload_n 2) ∧ ((2 : Fin 4) : Nat) = 2 ∧ 21 = 20 + 1 := by decide +kernel
theorem c20_21 : mj_Y.code kY 20 21 = some (.iconst 0) ∧ Int32.ofInt 0 = 0 ∧ 22 = 21 + 1 := by decide +kernel
theorem c20_22 : mj_Y.code kY 20 22 = some (.aload_n 0) ∧ ((0 : Fin 4) : Nat) = 0 ∧ 23 = 22 + 1 := by decide +kernel
theorem c20_23 : mj_Y.code kY 20 23 = some .arraylength ∧ 24 = 23 + 1 := by decide +kernel
theorem c20_24 : mj_Y.code kY 20 24 = some (.iload_n 1) ∧ ((1 : Fin 4) : Nat) = 1 ∧ 25 = 24 + 1 := by decide +kernel
theorem c20_25 : mj_Y.code kY 20 25 = some (.invokestatic 304) ∧ mj_Y.pr kY 20 304 = none ∧ mj_Y.cs kY 20 304 = some (21, 2) ∧ mj_Y.nL kY 21 = 2 ∧ 28 = 25 + 3 := by decide +kernel
theorem c20_28 : mj_Y.code kY 20 28 = some (.invokestatic 150) ∧ mj_Y.pr kY 20 150 = some 0 ∧ 31 = 28 + 3 := by decide +kernel
theorem c20_31 : mj_Y.code kY 20 31 = some (.aload_n 2) ∧ ((2 : Fin 4) : Nat) = 2 ∧ 32 = 31 + 1 := by decide +kernel
theorem c20_32 : mj_Y.code kY 20 32 = some .areturn ∧ mj_Y.rt kY 20 = some (.array .byte) ∧ ((.array .byte) : FieldType).isReference = true := by decide +kernel
theorem c21_0 : mj_Y.code kY 21 0 = some (.iload_n 0) ∧ ((0 : Fin 4) : Nat) = 0 ∧ 1 = 0 + 1 := by decide +kernel
theorem c21_1 : mj_Y.code kY 21 1 = some (.iload_n 1) ∧ ((1 : Fin 4) : Nat) = 1 ∧ 2 = 1 + 1 := by decide +kernel
theorem c21_2 : mj_Y.code kY 21 2 = some (.if_icmp .gt 7) ∧ mj_tg 2 7 = some 9 ∧ 5 = 2 + 3 := by decide +kernel
theorem c21_5 : mj_Y.code kY 21 5 = some (.iload_n 0) ∧ ((0 : Fin 4) : Nat) = 0 ∧ 6 = 5 + 1 := by decide +kernel
theorem c21_6 : mj_Y.code kY 21 6 = some (.goto 4) ∧ mj_tg 6 4 = some 10 := by decide +kernel
theorem c21_9 : mj_Y.code kY 21 9 = some (.iload_n 1) ∧ ((1 : Fin 4) : Nat) = 1 ∧ 10 = 9 + 1 := by decide +kernel
theorem c21_10 : mj_Y.code kY 21 10 = some .ireturn ∧ mj_Y.rt kY 21 = some .int := by decide +kernel
theorem c22_0 : mj_Y.code kY 22 0 = some (.getstatic 18) ∧ mj_Y.sc kY 22 18 = some 0 ∧ 3 = 0 + 3 := by decide +kernel
theorem c22_3 : mj_Y.code kY 22 3 = some (.ifCond .eq 14) ∧ mj_tg 3 14 = some 17 ∧ 6 = 3 + 3 := by decide +kernel
theorem c22_6 : mj_Y.code kY 22 6 = some (.aload_n 0) ∧ ((0 : Fin 4) : Nat) = 0 ∧ 7 = 6 + 1 := by decide +kernel
theorem c22_7 : mj_Y.code kY 22 7 = some (.getfield 22) ∧ mj_Y.fl kY 22 22 0 = some (1, .byte, true) ∧ 10 = 7 + 3 := by decide +kernel
theorem c22_10 : mj_Y.code kY 22 10 = some (.ifCond .ne 7) ∧ mj_tg 10 7 = some 17 ∧ 13 = 10 + 3 := by decide +kernel
theorem c22_13 : mj_Y.code kY 22 13 = some (.iconst 1) ∧ Int32.ofInt 1 = 1 ∧ 14 = 13 + 1 := by decide +kernel
theorem c22_14 : mj_Y.code kY 22 14 = some (.goto 4) ∧ mj_tg 14 4 = some 18 := by decide +kernel
theorem c22_17 : mj_Y.code kY 22 17 = some (.iconst 0) ∧ Int32.ofInt 0 = 0 ∧ 18 = 17 + 1 := by decide +kernel
theorem c22_18 : mj_Y.code kY 22 18 = some .ireturn ∧ mj_Y.rt kY 22 = some .boolean := by decide +kernel
theorem c23_0 : mj_Y.code kY 23 0 = some (.iload_n 0) ∧ ((0 : Fin 4) : Nat) = 0 ∧ 1 = 0 + 1 := by decide +kernel
theorem c23_1 : mj_Y.code kY 23 1 = some (.sipush 255) ∧ (Int16.ofInt 255).toInt32 = 255 ∧ 4 = 1 + 3 := by decide +kernel
theorem c23_4 : mj_Y.code kY 23 4 = some (.if_icmp .gt 7) ∧ mj_tg 4 7 = some 11 ∧ 7 = 4 + 3 := by decide +kernel
theorem c23_7 : mj_Y.code kY 23 7 = some (.iconst 1) ∧ Int32.ofInt 1 = 1 ∧ 8 = 7 + 1 := by decide +kernel
theorem c23_8 : mj_Y.code kY 23 8 = some (.goto 4) ∧ mj_tg 8 4 = some 12 := by decide +kernel
theorem c23_11 : mj_Y.code kY 23 11 = some (.iconst 0) ∧ Int32.ofInt 0 = 0 ∧ 12 = 11 + 1 := by decide +kernel
theorem c23_12 : mj_Y.code kY 23 12 = some .ireturn ∧ mj_Y.rt kY 23 = some .boolean := by decide +kernel
theorem c34_0 : mj_Y.code kY 34 0 = some (.iload_n 0) ∧ ((0 : Fin 4) : Nat) = 0 ∧ 1 = 0 + 1 := by decide +kernel
theorem c34_1 : mj_Y.code kY 34 1 = some (.iload_n 1) ∧ ((1 : Fin 4) : Nat) = 1 ∧ 2 = 1 + 1 := by decide +kernel
theorem c34_2 : mj_Y.code kY 34 2 = some (.getstatic 1053) ∧ mj_Y.sc kY 34 1053 = some 1 ∧ 5 = 2 + 3 := by decide +kernel
theorem c34_5 : mj_Y.code kY 34 5 = some (.invokestatic 1059) ∧ mj_Y.pr kY 34 1059 = none ∧ mj_Y.cs kY 34 1059 = some (35, 3) ∧ mj_Y.nL kY 35 = 3 ∧ 8 = 5 + 3 := by decide +kernel
theorem c34_8 : mj_Y.code kY 34 8 = some .pop ∧ 9 = 8 + 1 := by decide +kernel
theorem c34_9 : mj_Y.code kY 34 9 = some .return_ ∧ mj_Y.rt kY 34 = none := by decide +kernel
theorem c35_0 : mj_Y.code kY 35 0 = some (.iload_n 0) ∧ ((0 : Fin 4) : Nat) = 0 ∧ 1 = 0 + 1 := by decide +kernel
theorem c35_1 : mj_Y.code kY 35 1 = some (.ifCond .lt 8) ∧ mj_tg 1 8 = some 9 ∧ 4 = 1 + 3 := by decide +kernel
theorem c35_4 : mj_Y.code kY 35 4 = some (.iload_n 0) ∧ ((0 : Fin 4) : Nat) = 0 ∧ 5 = 4 + 1 := by decide +kernel
theorem c35_5 : mj_Y.code kY 35 5 = some (.iload_n 1) ∧ ((1 : Fin 4) : Nat) = 1 ∧ 6 = 5 + 1 := by decide +kernel
theorem c35_6 : mj_Y.code kY 35 6 = some (.if_icmp .lt 10) ∧ mj_tg 6 10 = some 16 ∧ 9 = 6 + 3 := by decide +kernel
theorem c35_9 : mj_Y.code kY 35 9 = some (.aload_n 2) ∧ ((2 : Fin 4) : Nat) = 2 ∧ 10 = 9 + 1 := by decide +kernel
theorem c35_10 : mj_Y.code kY 35 10 = some (.iload_n 0) ∧ ((0 : Fin 4) : Nat) = 0 ∧ 11 = 10 + 1 := by decide +kernel
theorem c35_11 : mj_Y.code kY 35 11 = some (.iload_n 1) ∧ ((1 : Fin 4) : Nat) = 1 ∧ 12 = 11 + 1 := by decide +kernel
theorem c35_16 : mj_Y.code kY 35 16 = some (.iload_n 0) ∧ ((0 : Fin 4) : Nat) = 0 ∧ 17 = 16 + 1 := by decide +kernel
theorem c35_17 : mj_Y.code kY 35 17 = some .ireturn ∧ mj_Y.rt kY 35 = some .int := by decide +kernel
theorem c36_0 : mj_Y.code kY 36 0 = some (.aload_n 0) ∧ ((0 : Fin 4) : Nat) = 0 ∧ 1 = 0 + 1 := by decide +kernel
theorem c36_1 : mj_Y.code kY 36 1 = some (.getfield 12) ∧ mj_Y.fl kY 36 12 5 = some (0, (.object "java/lang/StringBuilder"), false) ∧ 4 = 1 + 3 := by decide +kernel
theorem c36_4 : mj_Y.code kY 36 4 = some (.invokevirtual 37) ∧ mj_Y.na kY 36 37 = some 0 ∧ mj_Y.cv kY 36 37 0 = some 10 ∧ mj_Y.nL kY 10 = 1 ∧ 7 = 4 + 3 := by decide +kernel
theorem c36_7 : mj_Y.code kY 36 7 = some (.istore_n 1) ∧ ((1 : Fin 4) : Nat) = 1 ∧ 1 < mj_Y.nL kY 36 ∧ 8 = 7 + 1 := by decide +kernel
theorem c36_8 : mj_Y.code kY 36 8 = some (.aload_n 0) ∧ ((0 : Fin 4) : Nat) = 0 ∧ 9 = 8 + 1 := by decide +kernel
theorem c36_9 : mj_Y.code kY 36 9 = some (.getfield 12) ∧ mj_Y.fl kY 36 12 5 = some (0, (.object "java/lang/StringBuilder"), false) ∧ 12 = 9 + 3 := by decide +kernel
theorem c36_12 : mj_Y.code kY 36 12 = some (.iconst 0) ∧ Int32.ofInt 0 = 0 ∧ 13 = 12 + 1 := by decide +kernel
theorem c36_13 : mj_Y.code kY 36 13 = some (.invokevirtual 49) ∧ mj_Y.na kY 36 49 = some 1 ∧ mj_Y.cv kY 36 49 0 = some 37 ∧ mj_Y.nL kY 37 = 2 ∧ 16 = 13 + 3 := by decide +kernel
theorem c36_16 : mj_Y.code kY 36 16 = some (.iload_n 1) ∧ ((1 : Fin 4) : Nat) = 1 ∧ 17 = 16 + 1 := by decide +kernel
theorem c36_17 : mj_Y.code kY 36 17 = some .ireturn ∧ mj_Y.rt kY 36 = some .int := by decide +kernel
theorem c37_0 : mj_Y.code kY 37 0 = some (.aload_n 0) ∧ ((0 : Fin 4) : Nat) = 0 ∧ 1 = 0 + 1 := by decide +kernel
theorem c37_1 : mj_Y.code kY 37 1 = some (.iload_n 1) ∧ ((1 : Fin 4) : Nat) = 1 ∧ 2 = 1 + 1 := by decide +kernel
theorem c37_2 : mj_Y.code kY 37 2 = some (.invokespecial 333) ∧ mj_Y.pr kY 37 333 = none ∧ mj_Y.cp kY 37 333 = some (38, 1) ∧ mj_Y.nL kY 38 = 2 ∧ 5 = 2 + 3 := by decide +kernel
theorem c37_5 : mj_Y.code kY 37 5 = some .return_ ∧ mj_Y.rt kY 37 = none := by decide +kernel
theorem c38_0 : mj_Y.code kY 38 0 = some (.iload_n 1) ∧ ((1 : Fin 4) : Nat) = 1 ∧ 1 = 0 + 1 := by decide +kernel
theorem c38_1 : mj_Y.code kY 38 1 = some (.ifCond .ge 12) ∧ mj_tg 1 12 = some 13 ∧ 4 = 1 + 3 := by decide +kernel
theorem c38_13 : mj_Y.code kY 38 13 = some (.aload_n 0) ∧ ((0 : Fin 4) : Nat) = 0 ∧ 14 = 13 + 1 := by decide +kernel
theorem c38_14 : mj_Y.code kY 38 14 = some (.iload_n 1) ∧ ((1 : Fin 4) : Nat) = 1 ∧ 15 = 14 + 1 := by decide +kernel
theorem c38_15 : mj_Y.code kY 38 15 = some (.invokevirtual 100) ∧ mj_Y.na kY 38 100 = some 1 ∧ mj_Y.cv kY 38 100 0 = some 15 ∧ mj_Y.nL kY 15 = 3 ∧ 18 = 15 + 3 := by decide +kernel
theorem c38_18 : mj_Y.code kY 38 18 = some (.aload_n 0) ∧ ((0 : Fin 4) : Nat) = 0 ∧ 19 = 18 + 1 := by decide +kernel
theorem c38_19 : mj_Y.code kY 38 19 = some (.getfield 79) ∧ mj_Y.fl kY 38 79 0 = some (3, .int, true) ∧ 22 = 19 + 3 := by decide +kernel
theorem c38_22 : mj_Y.code kY 38 22 = some (.iload_n 1) ∧ ((1 : Fin 4) : Nat) = 1 ∧ 23 = 22 + 1 := by decide +kernel
theorem c38_23 : mj_Y.code kY 38 23 = some (.if_icmp .ge 40) ∧ mj_tg 23 40 = some 63 ∧ 26 = 23 + 3 := by decide +kernel
theorem c38_26 : mj_Y.code kY 38 26 = some (.aload_n 0) ∧ ((0 : Fin 4) : Nat) = 0 ∧ 27 = 26 + 1 := by decide +kernel
theorem c38_27 : mj_Y.code kY 38 27 = some (.invokevirtual 83) ∧ mj_Y.na kY 38 83 = some 0 ∧ mj_Y.cv kY 38 83 0 = some 22 ∧ mj_Y.nL kY 22 = 1 ∧ 30 = 27 + 3 := by decide +kernel
theorem c38_30 : mj_Y.code kY 38 30 = some (.ifCond .eq 18) ∧ mj_tg 30 18 = some 48 ∧ 33 = 30 + 3 := by decide +kernel
theorem c38_33 : mj_Y.code kY 38 33 = some (.aload_n 0) ∧ ((0 : Fin 4) : Nat) = 0 ∧ 34 = 33 + 1 := by decide +kernel
theorem c38_34 : mj_Y.code kY 38 34 = some (.getfield 15) ∧ mj_Y.fl kY 38 15 0 = some (0, (.array .byte), true) ∧ 37 = 34 + 3 := by decide +kernel
theorem c38_37 : mj_Y.code kY 38 37 = some (.aload_n 0) ∧ ((0 : Fin 4) : Nat) = 0 ∧ 38 = 37 + 1 := by decide +kernel
theorem c38_38 : mj_Y.code kY 38 38 = some (.getfield 79) ∧ mj_Y.fl kY 38 79 0 = some (3, .int, true) ∧ 41 = 38 + 3 := by decide +kernel
theorem c38_41 : mj_Y.code kY 38 41 = some (.iload_n 1) ∧ ((1 : Fin 4) : Nat) = 1 ∧ 42 = 41 + 1 := by decide +kernel
theorem c38_48 : mj_Y.code kY 38 48 = some (.aload_n 0) ∧ ((0 : Fin 4) : Nat) = 0 ∧ 49 = 48 + 1 := by decide +kernel
theorem c38_49 : mj_Y.code kY 38 49 = some (.getfield 15) ∧ mj_Y.fl kY 38 15 0 = some (0, (.array .byte), true) ∧ 52 = 49 + 3 := by decide +kernel
theorem c38_52 : mj_Y.code kY 38 52 = some (.aload_n 0) ∧ ((0 : Fin 4) : Nat) = 0 ∧ 53 = 52 + 1 := by decide +kernel
theorem c38_53 : mj_Y.code kY 38 53 = some (.getfield 79) ∧ mj_Y.fl kY 38 79 0 = some (3, .int, true) ∧ 56 = 53 + 3 := by decide +kernel
theorem c38_56 : mj_Y.code kY 38 56 = some (.iload_n 1) ∧ ((1 : Fin 4) : Nat) = 1 ∧ 57 = 56 + 1 := by decide +kernel
theorem c38_63 : mj_Y.code kY 38 63 = some (.aload_n 0) ∧ ((0 : Fin 4) : Nat) = 0 ∧ 64 = 63 + 1 := by decide +kernel
theorem c38_64 : mj_Y.code kY 38 64 = some (.getfield 79) ∧ mj_Y.fl kY 38 79 0 = some (3, .int, true) ∧ 67 = 64 + 3 := by decide +kernel
theorem c38_67 : mj_Y.code kY 38 67 = some (.iload_n 1) ∧ ((1 : Fin 4) : Nat) = 1 ∧ 68 = 67 + 1 := by decide +kernel
theorem c38_68 : mj_Y.code kY 38 68 = some (.if_icmp .le 8) ∧ mj_tg 68 8 = some 76 ∧ 71 = 68 + 3 := by decide +kernel
theorem c38_71 : mj_Y.code kY 38 71 = some (.aload_n 0) ∧ ((0 : Fin 4) : Nat) = 0 ∧ 72 = 71 + 1 := by decide +kernel
theorem c38_72 : mj_Y.code kY 38 72 = some (.iconst 1) ∧ Int32.ofInt 1 = 1 ∧ 73 = 72 + 1 := by decide +kernel
theorem c38_73 : mj_Y.code kY 38 73 = some (.putfield 73) ∧ mj_Y.fl kY 38 73 0 = some (2, .boolean, true) ∧ 76 = 73 + 3 := by decide +kernel
theorem c38_76 : mj_Y.code kY 38 76 = some (.aload_n 0) ∧ ((0 : Fin 4) : Nat) = 0 ∧ 77 = 76 + 1 := by decide +kernel
theorem c38_77 : mj_Y.code kY 38 77 = some (.iload_n 1) ∧ ((1 : Fin 4) : Nat) = 1 ∧ 78 = 77 + 1 := by decide +kernel
theorem c38_78 : mj_Y.code kY 38 78 = some (.putfield 79) ∧ mj_Y.fl kY 38 79 0 = some (3, .int, true) ∧ 81 = 78 + 3 := by decide +kernel
theorem c38_81 : mj_Y.code kY 38 81 = some .return_ ∧ mj_Y.rt kY 38 = none := by decide +kernel
theorem c51_0 : mj_Y.code kY 51 0 = some (.aload_n 0) ∧ ((0 : Fin 4) : Nat) = 0 ∧ 1 = 0 + 1 := by decide +kernel
theorem c51_1 : mj_Y.code kY 51 1 = some (.iload_n 1) ∧ ((1 : Fin 4) : Nat) = 1 ∧ 2 = 1 + 1 := by decide +kernel
theorem c51_2 : mj_Y.code kY 51 2 = some (.invokespecial 53) ∧ mj_Y.pr kY 51 53 = none ∧ mj_Y.cp kY 51 53 = some (52, 1) ∧ mj_Y.nL kY 52 = 4 ∧ 5 = 2 + 3 := by decide +kernel
theorem c51_5 : mj_Y.code kY 51 5 = some .pop ∧ 6 = 5 + 1 := by decide +kernel
theorem c51_6 : mj_Y.code kY 51 6 = some (.aload_n 0) ∧ ((0 : Fin 4) : Nat) = 0 ∧ 7 = 6 + 1 := by decide +kernel
theorem c51_7 : mj_Y.code kY 51 7 = some .areturn ∧ mj_Y.rt kY 51 = some (.object "java/lang/StringBuilder") ∧ ((.object "java/lang/StringBuilder") : FieldType).isReference = true := by decide +kernel
theorem c52_0 : mj_Y.code kY 52 0 = some (.aload_n 0) ∧ ((0 : Fin 4) : Nat) = 0 ∧ 1 = 0 + 1 := by decide +kernel
theorem c52_1 : mj_Y.code kY 52 1 = some (.getfield 79) ∧ mj_Y.fl kY 52 79 0 = some (3, .int, true) ∧ 4 = 1 + 3 := by decide +kernel
theorem c52_4 : mj_Y.code kY 52 4 = some (.istore_n 2) ∧ ((2 : Fin 4) : Nat) = 2 ∧ 2 < mj_Y.nL kY 52 ∧ 5 = 4 + 1 := by decide +kernel
theorem c52_5 : mj_Y.code kY 52 5 = some (.iload_n 2) ∧ ((2 : Fin 4) : Nat) = 2 ∧ 6 = 5 + 1 := by decide +kernel
theorem c52_6 : mj_Y.code kY 52 6 = some (.iload_n 1) ∧ ((1 : Fin 4) : Nat) = 1 ∧ 7 = 6 + 1 := by decide +kernel
theorem c52_7 : mj_Y.code kY 52 7 = some (.invokestatic 245) ∧ mj_Y.pr kY 52 245 = none ∧ mj_Y.cs kY 52 245 = some (53, 1) ∧ mj_Y.nL kY 53 = 4 ∧ 10 = 7 + 3 := by decide +kernel
theorem c52_10 : mj_Y.code kY 52 10 = some .iadd ∧ 11 = 10 + 1 := by decide +kernel
theorem c52_11 : mj_Y.code kY 52 11 = some (.istore_n 3) ∧ ((3 : Fin 4) : Nat) = 3 ∧ 3 < mj_Y.nL kY 52 ∧ 12 = 11 + 1 := by decide +kernel
theorem c52_12 : mj_Y.code kY 52 12 = some (.aload_n 0) ∧ ((0 : Fin 4) : Nat) = 0 ∧ 13 = 12 + 1 := by decide +kernel
theorem c52_13 : mj_Y.code kY 52 13 = some (.iload_n 3) ∧ ((3 : Fin 4) : Nat) = 3 ∧ 14 = 13 + 1 := by decide +kernel
theorem c52_14 : mj_Y.code kY 52 14 = some (.invokevirtual 100) ∧ mj_Y.na kY 52 100 = some 1 ∧ mj_Y.cv kY 52 100 0 = some 15 ∧ mj_Y.nL kY 15 = 3 ∧ 17 = 14 + 3 := by decide +kernel
theorem c52_17 : mj_Y.code kY 52 17 = some (.aload_n 0) ∧ ((0 : Fin 4) : Nat) = 0 ∧ 18 = 17 + 1 := by decide +kernel
theorem c52_18 : mj_Y.code kY 52 18 = some (.invokevirtual 83) ∧ mj_Y.na kY 52 83 = some 0 ∧ mj_Y.cv kY 52 83 0 = some 22 ∧ mj_Y.nL kY 22 = 1 ∧ 21 = 18 + 3 := by decide +kernel
theorem c52_21 : mj_Y.code kY 52 21 = some (.ifCond .eq 16) ∧ mj_tg 21 16 = some 37 ∧ 24 = 21 + 3 := by decide +kernel
theorem c52_24 : mj_Y.code kY 52 24 = some (.iload_n 1) ∧ ((1 : Fin 4) : Nat) = 1 ∧ 25 = 24 + 1 := by decide +kernel
theorem c52_25 : mj_Y.code kY 52 25 = some (.iload_n 3) ∧ ((3 : Fin 4) : Nat) = 3 ∧ 26 = 25 + 1 := by decide +kernel
theorem c52_26 : mj_Y.code kY 52 26 = some (.aload_n 0) ∧ ((0 : Fin 4) : Nat) = 0 ∧ 27 = 26 + 1 := by decide +kernel
theorem c52_27 : mj_Y.code kY 52 27 = some (.getfield 15) ∧ mj_Y.fl kY 52 15 0 = some (0, (.array .byte), true) ∧ 30 = 27 + 3 := by decide +kernel
theorem c52_30 : mj_Y.code kY 52 30 = some (.invokestatic 248) ∧ mj_Y.pr kY 52 248 = none ∧ mj_Y.cs kY 52 248 = some (54, 3) ∧ mj_Y.nL kY 54 = 7 ∧ 33 = 30 + 3 := by decide +kernel
theorem c52_33 : mj_Y.code kY 52 33 = some .pop ∧ 34 = 33 + 1 := by decide +kernel
theorem c52_34 : mj_Y.code kY 52 34 = some (.goto 14) ∧ mj_tg 34 14 = some 48 := by decide +kernel
theorem c52_37 : mj_Y.code kY 52 37 = some (.iload_n 1) ∧ ((1 : Fin 4) : Nat) = 1 ∧ 38 = 37 + 1 := by decide +kernel
theorem c52_38 : mj_Y.code kY 52 38 = some (.iload_n 2) ∧ ((2 : Fin 4) : Nat) = 2 ∧ 39 = 38 + 1 := by decide +kernel
theorem c52_39 : mj_Y.code kY 52 39 = some (.iload_n 3) ∧ ((3 : Fin 4) : Nat) = 3 ∧ 40 = 39 + 1 := by decide +kernel
theorem c52_40 : mj_Y.code kY 52 40 = some (.aload_n 0) ∧ ((0 : Fin 4) : Nat) = 0 ∧ 41 = 40 + 1 := by decide +kernel
theorem c52_41 : mj_Y.code kY 52 41 = some (.getfield 15) ∧ mj_Y.fl kY 52 15 0 = some (0, (.array .byte), true) ∧ 44 = 41 + 3 := by decide +kernel
theorem c52_48 : mj_Y.code kY 52 48 = some (.aload_n 0) ∧ ((0 : Fin 4) : Nat) = 0 ∧ 49 = 48 + 1 := by decide +kernel
theorem c52_49 : mj_Y.code kY 52 49 = some (.iload_n 3) ∧ ((3 : Fin 4) : Nat) = 3 ∧ 50 = 49 + 1 := by decide +kernel
theorem c52_50 : mj_Y.code kY 52 50 = some (.putfield 79) ∧ mj_Y.fl kY 52 79 0 = some (3, .int, true) ∧ 53 = 50 + 3 := by decide +kernel
theorem c52_53 : mj_Y.code kY 52 53 = some (.aload_n 0) ∧ ((0 : Fin 4) : Nat) = 0 ∧ 54 = 53 + 1 := by decide +kernel
theorem c52_54 : mj_Y.code kY 52 54 = some .areturn ∧ mj_Y.rt kY 52 = some (.object "java/lang/AbstractStringBuilder") ∧ ((.object "java/lang/AbstractStringBuilder") : FieldType).isReference = true := by decide +kernel
theorem c53_0 : mj_Y.code kY 53 0 = some (.iconst 1) ∧ Int32.ofInt 1 = 1 ∧ 1 = 0 + 1 := by decide +kernel
theorem c53_1 : mj_Y.code kY 53 1 = some (.istore_n 1) ∧ ((1 : Fin 4) : Nat) = 1 ∧ 1 < mj_Y.nL kY 53 ∧ 2 = 1 + 1 := by decide +kernel
theorem c53_2 : mj_Y.code kY 53 2 = some (.iload_n 0) ∧ ((0 : Fin 4) : Nat) = 0 ∧ 3 = 2 + 1 := by decide +kernel
theorem c53_3 : mj_Y.code kY 53 3 = some (.ifCond .lt 8) ∧ mj_tg 3 8 = some 11 ∧ 6 = 3 + 3 := by decide +kernel
theorem c53_6 : mj_Y.code kY 53 6 = some (.iconst 0) ∧ Int32.ofInt 0 = 0 ∧ 7 = 6 + 1 := by decide +kernel
theorem c53_7 : mj_Y.code kY 53 7 = some (.istore_n 1) ∧ ((1 : Fin 4) : Nat) = 1 ∧ 1 < mj_Y.nL kY 53 ∧ 8 = 7 + 1 := by decide +kernel
theorem c53_8 : mj_Y.code kY 53 8 = some (.iload_n 0) ∧ ((0 : Fin 4) : Nat) = 0 ∧ 9 = 8 + 1 := by decide +kernel
theorem c53_9 : mj_Y.code kY 53 9 = some .ineg ∧ 10 = 9 + 1 := by decide +kernel
theorem c53_10 : mj_Y.code kY 53 10 = some (.istore_n 0) ∧ ((0 : Fin 4) : Nat) = 0 ∧ 0 < mj_Y.nL kY 53 ∧ 11 = 10 + 1 := by decide +kernel
theorem c53_11 : mj_Y.code kY 53 11 = some (.bipush (-10)) ∧ (Int8.ofInt (-10)).toInt32 = (-10) ∧ 13 = 11 + 2 := by decide +kernel
theorem c53_13 : mj_Y.code kY 53 13 = some (.istore_n 2) ∧ ((2 : Fin 4) : Nat) = 2 ∧ 2 < mj_Y.nL kY 53 ∧ 14 = 13 + 1 := by decide +kernel
theorem c53_14 : mj_Y.code kY 53 14 = some (.iconst 1) ∧ Int32.ofInt 1 = 1 ∧ 15 = 14 + 1 := by decide +kernel
theorem c53_15 : mj_Y.code kY 53 15 = some (.istore_n 3) ∧ ((3 : Fin 4) : Nat) = 3 ∧ 3 < mj_Y.nL kY 53 ∧ 16 = 15 + 1 := by decide +kernel
theorem c53_16 : mj_Y.code kY 53 16 = some (.iload_n 3) ∧ ((3 : Fin 4) : Nat) = 3 ∧ 17 = 16 + 1 := by decide +kernel
theorem c53_17 : mj_Y.code kY 53 17 = some (.bipush 10) ∧ (Int8.ofInt 10).toInt32 = 10 ∧ 19 = 17 + 2 := by decide +kernel
theorem c53_19 : mj_Y.code kY 53 19 = some (.if_icmp .ge 23) ∧ mj_tg 19 23 = some 42 ∧ 22 = 19 + 3 := by decide +kernel
theorem c53_22 : mj_Y.code kY 53 22 = some (.iload_n 0) ∧ ((0 : Fin 4) : Nat) = 0 ∧ 23 = 22 + 1 := by decide +kernel
theorem c53_23 : mj_Y.code kY 53 23 = some (.iload_n 2) ∧ ((2 : Fin 4) : Nat) = 2 ∧ 24 = 23 + 1 := by decide +kernel
theorem c53_24 : mj_Y.code kY 53 24 = some (.if_icmp .le 7) ∧ mj_tg 24 7 = some 31 ∧ 27 = 24 + 3 := by decide +kernel
theorem c53_27 : mj_Y.code kY 53 27 = some (.iload_n 3) ∧ ((3 : Fin 4) : Nat) = 3 ∧ 28 = 27 + 1 := by decide +kernel
theorem c53_28 : mj_Y.code kY 53 28 = some (.iload_n 1) ∧ ((1 : Fin 4) : Nat) = 1 ∧ 29 = 28 + 1 := by decide +kernel
theorem c53_29 : mj_Y.code kY 53 29 = some .iadd ∧ 30 = 29 + 1 := by decide +kernel
theorem c53_30 : mj_Y.code kY 53 30 = some .ireturn ∧ mj_Y.rt kY 53 = some .int := by decide +kernel
theorem c53_31 : mj_Y.code kY 53 31 = some (.bipush 10) ∧ (Int8.ofInt 10).toInt32 = 10 ∧ 33 = 31 + 2 := by decide +kernel
theorem c53_33 : mj_Y.code kY 53 33 = some (.iload_n 2) ∧ ((2 : Fin 4) : Nat) = 2 ∧ 34 = 33 + 1 := by decide +kernel
theorem c53_34 : mj_Y.code kY 53 34 = some .imul ∧ 35 = 34 + 1 := by decide +kernel
theorem c53_35 : mj_Y.code kY 53 35 = some (.istore_n 2) ∧ ((2 : Fin 4) : Nat) = 2 ∧ 2 < mj_Y.nL kY 53 ∧ 36 = 35 + 1 := by decide +kernel
theorem c53_36 : mj_Y.code kY 53 36 = some (.iinc 3 1) ∧ 3 < mj_Y.nL kY 53 ∧ Int32.ofInt 1 = 1 ∧ 39 = 36 + 3 := by decide +kernel
theorem c53_39 : mj_Y.code kY 53 39 = some (.goto (-23)) ∧ mj_tg 39 (-23) = some 16 := by decide +kernel
theorem c53_42 : mj_Y.code kY 53 42 = some (.bipush 10) ∧ (Int8.ofInt 10).toInt32 = 10 ∧ 44 = 42 + 2 := by decide +kernel
theorem c53_44 : mj_Y.code kY 53 44 = some (.iload_n 1) ∧ ((1 : Fin 4) : Nat) = 1 ∧ 45 = 44 + 1 := by decide +kernel
theorem c53_45 : mj_Y.code kY 53 45 = some .iadd ∧ 46 = 45 + 1 := by decide +kernel
theorem c53_46 : mj_Y.code kY 53 46 = some .ireturn ∧ mj_Y.rt kY 53 = some .int := by decide +kernel
theorem c54_0 : mj_Y.code kY 54 0 = some (.iload_n 1) ∧ ((1 : Fin 4) : Nat) = 1 ∧ 1 = 0 + 1 := by decide +kernel
theorem c54_1 : mj_Y.code kY 54 1 = some (.istore 5) ∧ 5 = 5 ∧ 5 < mj_Y.nL kY 54 ∧ 3 = 1 + 2 := by decide +kernel
theorem c54_3 : mj_Y.code kY 54 3 = some (.iload_n 0) ∧ ((0 : Fin 4) : Nat) = 0 ∧ 4 = 3 + 1 := by decide +kernel
theorem c54_4 : mj_Y.code kY 54 4 = some (.ifCond .ge 7) ∧ mj_tg 4 7 = some 11 ∧ 7 = 4 + 3 := by decide +kernel
theorem c54_7 : mj_Y.code kY 54 7 = some (.iconst 1) ∧ Int32.ofInt 1 = 1 ∧ 8 = 7 + 1 := by decide +kernel
theorem c54_8 : mj_Y.code kY 54 8 = some (.goto 4) ∧ mj_tg 8 4 = some 12 := by decide +kernel
theorem c54_11 : mj_Y.code kY 54 11 = some (.iconst 0) ∧ Int32.ofInt 0 = 0 ∧ 12 = 11 + 1 := by decide +kernel
theorem c54_12 : mj_Y.code kY 54 12 = some (.istore 6) ∧ 6 = 6 ∧ 6 < mj_Y.nL kY 54 ∧ 14 = 12 + 2 := by decide +kernel
theorem c54_14 : mj_Y.code kY 54 14 = some (.iload 6) ∧ 6 = 6 ∧ 16 = 14 + 2 := by decide +kernel
theorem c54_16 : mj_Y.code kY 54 16 = some (.ifCond .ne 6) ∧ mj_tg 16 6 = some 22 ∧ 19 = 16 + 3 := by decide +kernel
theorem c54_19 : mj_Y.code kY 54 19 = some (.iload_n 0) ∧ ((0 : Fin 4) : Nat) = 0 ∧ 20 = 19 + 1 := by decide +kernel
theorem c54_20 : mj_Y.code kY 54 20 = some .ineg ∧ 21 = 20 + 1 := by decide +kernel
theorem c54_21 : mj_Y.code kY 54 21 = some (.istore_n 0) ∧ ((0 : Fin 4) : Nat) = 0 ∧ 0 < mj_Y.nL kY 54 ∧ 22 = 21 + 1 := by decide +kernel
theorem c54_22 : mj_Y.code kY 54 22 = some (.iload_n 0) ∧ ((0 : Fin 4) : Nat) = 0 ∧ 23 = 22 + 1 := by decide +kernel
theorem c54_23 : mj_Y.code kY 54 23 = some (.bipush (-100)) ∧ (Int8.ofInt (-100)).toInt32 = (-100) ∧ 25 = 23 + 2 := by decide +kernel
theorem c54_25 : mj_Y.code kY 54 25 = some (.if_icmp .gt 47) ∧ mj_tg 25 47 = some 72 ∧ 28 = 25 + 3 := by decide +kernel
theorem c54_28 : mj_Y.code kY 54 28 = some (.iload_n 0) ∧ ((0 : Fin 4) : Nat) = 0 ∧ 29 = 28 + 1 := by decide +kernel
theorem c54_29 : mj_Y.code kY 54 29 = some (.bipush 100) ∧ (Int8.ofInt 100).toInt32 = 100 ∧ 31 = 29 + 2 := by decide +kernel
theorem c54_31 : mj_Y.code kY 54 31 = some .idiv ∧ 32 = 31 + 1 := by decide +kernel
theorem c54_32 : mj_Y.code kY 54 32 = some (.istore_n 3) ∧ ((3 : Fin 4) : Nat) = 3 ∧ 3 < mj_Y.nL kY 54 ∧ 33 = 32 + 1 := by decide +kernel
theorem c54_33 : mj_Y.code kY 54 33 = some (.iload_n 3) ∧ ((3 : Fin 4) : Nat) = 3 ∧ 34 = 33 + 1 := by decide +kernel
theorem c54_34 : mj_Y.code kY 54 34 = some (.bipush 100) ∧ (Int8.ofInt 100).toInt32 = 100 ∧ 36 = 34 + 2 := by decide +kernel
theorem c54_36 : mj_Y.code kY 54 36 = some .imul ∧ 37 = 36 + 1 := by decide +kernel
theorem c54_37 : mj_Y.code kY 54 37 = some (.iload_n 0) ∧ ((0 : Fin 4) : Nat) = 0 ∧ 38 = 37 + 1 := by decide +kernel
theorem c54_38 : mj_Y.code kY 54 38 = some .isub ∧ 39 = 38 + 1 := by decide +kernel
theorem c54_39 : mj_Y.code kY 54 39 = some (.istore 4) ∧ 4 = 4 ∧ 4 < mj_Y.nL kY 54 ∧ 41 = 39 + 2 := by decide +kernel
theorem c54_41 : mj_Y.code kY 54 41 = some (.iload_n 3) ∧ ((3 : Fin 4) : Nat) = 3 ∧ 42 = 41 + 1 := by decide +kernel
theorem c54_42 : mj_Y.code kY 54 42 = some (.istore_n 0) ∧ ((0 : Fin 4) : Nat) = 0 ∧ 0 < mj_Y.nL kY 54 ∧ 43 = 42 + 1 := by decide +kernel
theorem c54_43 : mj_Y.code kY 54 43 = some (.aload_n 2) ∧ ((2 : Fin 4) : Nat) = 2 ∧ 44 = 43 + 1 := by decide +kernel
theorem c54_44 : mj_Y.code kY 54 44 = some (.iinc 5 (-1)) ∧ 5 < mj_Y.nL kY 54 ∧ Int32.ofInt (-1) = (-1) ∧ 47 = 44 + 3 := by decide +kernel
theorem c54_47 : mj_Y.code kY 54 47 = some (.iload 5) ∧ 5 = 5 ∧ 49 = 47 + 2 := by decide +kernel
theorem c54_49 : mj_Y.code kY 54 49 = some (.getstatic 83) ∧ mj_Y.sc kY 54 83 = some 2 ∧ 52 = 49 + 3 := by decide +kernel
theorem c54_52 : mj_Y.code kY 54 52 = some (.iload 4) ∧ 4 = 4 ∧ 54 = 52 + 2 := by decide +kernel
theorem c54_54 : mj_Y.code kY 54 54 = some .baload ∧ 55 = 54 + 1 := by decide +kernel
theorem c54_55 : mj_Y.code kY 54 55 = some .bastore ∧ 56 = 55 + 1 := by decide +kernel
theorem c54_56 : mj_Y.code kY 54 56 = some (.aload_n 2) ∧ ((2 : Fin 4) : Nat) = 2 ∧ 57 = 56 + 1 := by decide +kernel
theorem c54_57 : mj_Y.code kY 54 57 = some (.iinc 5 (-1)) ∧ 5 < mj_Y.nL kY 54 ∧ Int32.ofInt (-1) = (-1) ∧ 60 = 57 + 3 := by decide +kernel
theorem c54_60 : mj_Y.code kY 54 60 = some (.iload 5) ∧ 5 = 5 ∧ 62 = 60 + 2 := by decide +kernel
theorem c54_62 : mj_Y.code kY 54 62 = some (.getstatic 87) ∧ mj_Y.sc kY 54 87 = some 3 ∧ 65 = 62 + 3 := by decide +kernel
theorem c54_65 : mj_Y.code kY 54 65 = some (.iload 4) ∧ 4 = 4 ∧ 67 = 65 + 2 := by decide +kernel
theorem c54_67 : mj_Y.code kY 54 67 = some .baload ∧ 68 = 67 + 1 := by decide +kernel
theorem c54_68 : mj_Y.code kY 54 68 = some .bastore ∧ 69 = 68 + 1 := by decide +kernel
theorem c54_69 : mj_Y.code kY 54 69 = some (.goto (-47)) ∧ mj_tg 69 (-47) = some 22 := by decide +kernel
theorem c54_72 : mj_Y.code kY 54 72 = some (.aload_n 2) ∧ ((2 : Fin 4) : Nat) = 2 ∧ 73 = 72 + 1 := by decide +kernel
theorem c54_73 : mj_Y.code kY 54 73 = some (.iinc 5 (-1)) ∧ 5 < mj_Y.nL kY 54 ∧ Int32.ofInt (-1) = (-1) ∧ 76 = 73 + 3 := by decide +kernel
theorem c54_76 : mj_Y.code kY 54 76 = some (.iload 5) ∧ 5 = 5 ∧ 78 = 76 + 2 := by decide +kernel
theorem c54_78 : mj_Y.code kY 54 78 = some (.getstatic 83) ∧ mj_Y.sc kY 54 83 = some 2 ∧ 81 = 78 + 3 := by decide +kernel
theorem c54_81 : mj_Y.code kY 54 81 = some (.iload_n 0) ∧ ((0 : Fin 4) : Nat) = 0 ∧ 82 = 81 + 1 := by decide +kernel
theorem c54_82 : mj_Y.code kY 54 82 = some .ineg ∧ 83 = 82 + 1 := by decide +kernel
theorem c54_83 : mj_Y.code kY 54 83 = some .baload ∧ 84 = 83 + 1 := by decide +kernel
theorem c54_84 : mj_Y.code kY 54 84 = some .bastore ∧ 85 = 84 + 1 := by decide +kernel
theorem c54_85 : mj_Y.code kY 54 85 = some (.iload_n 0) ∧ ((0 : Fin 4) : Nat) = 0 ∧ 86 = 85 + 1 := by decide +kernel
theorem c54_86 : mj_Y.code kY 54 86 = some (.bipush (-9)) ∧ (Int8.ofInt (-9)).toInt32 = (-9) ∧ 88 = 86 + 2 := by decide +kernel
theorem c54_88 : mj_Y.code kY 54 88 = some (.if_icmp .ge 16) ∧ mj_tg 88 16 = some 104 ∧ 91 = 88 + 3 := by decide +kernel
theorem c54_91 : mj_Y.code kY 54 91 = some (.aload_n 2) ∧ ((2 : Fin 4) : Nat) = 2 ∧ 92 = 91 + 1 := by decide +kernel
theorem c54_92 : mj_Y.code kY 54 92 = some (.iinc 5 (-1)) ∧ 5 < mj_Y.nL kY 54 ∧ Int32.ofInt (-1) = (-1) ∧ 95 = 92 + 3 := by decide +kernel
theorem c54_95 : mj_Y.code kY 54 95 = some (.iload 5) ∧ 5 = 5 ∧ 97 = 95 + 2 := by decide +kernel
theorem c54_97 : mj_Y.code kY 54 97 = some (.getstatic 87) ∧ mj_Y.sc kY 54 87 = some 3 ∧ 100 = 97 + 3 := by decide +kernel
theorem c54_100 : mj_Y.code kY 54 100 = some (.iload_n 0) ∧ ((0 : Fin 4) : Nat) = 0 ∧ 101 = 100 + 1 := by decide +kernel
theorem c54_101 : mj_Y.code kY 54 101 = some .ineg ∧ 102 = 101 + 1 := by decide +kernel
theorem c54_102 : mj_Y.code kY 54 102 = some .baload ∧ 103 = 102 + 1 := by decide +kernel
theorem c54_103 : mj_Y.code kY 54 103 = some .bastore ∧ 104 = 103 + 1 := by decide +kernel
theorem c54_104 : mj_Y.code kY 54 104 = some (.iload 6) ∧ 6 = 6 ∧ 106 = 104 + 2 := by decide +kernel
theorem c54_106 : mj_Y.code kY 54 106 = some (.ifCond .eq 12) ∧ mj_tg 106 12 = some 118 ∧ 109 = 106 + 3 := by decide +kernel
theorem c54_109 : mj_Y.code kY 54 109 = some (.aload_n 2) ∧ ((2 : Fin 4) : Nat) = 2 ∧ 110 = 109 + 1 := by decide +kernel
theorem c54_110 : mj_Y.code kY 54 110 = some (.iinc 5 (-1)) ∧ 5 < mj_Y.nL kY 54 ∧ Int32.ofInt (-1) = (-1) ∧ 113 = 110 + 3 := by decide +kernel
theorem c54_113 : mj_Y.code kY 54 113 = some (.iload 5) ∧ 5 = 5 ∧ 115 = 113 + 2 := by decide +kernel
theorem c54_115 : mj_Y.code kY 54 115 = some (.bipush 45) ∧ (Int8.ofInt 45).toInt32 = 45 ∧ 117 = 115 + 2 := by decide +kernel
theorem c54_117 : mj_Y.code kY 54 117 = some .bastore ∧ 118 = 117 + 1 := by decide +kernel
theorem c54_118 : mj_Y.code kY 54 118 = some (.iload 5) ∧ 5 = 5 ∧ 120 = 118 + 2 := by decide +kernel
theorem c54_120 : mj_Y.code kY 54 120 = some .ireturn ∧ mj_Y.rt kY 54 = some .int := by decide +kernel
theorem c72_0 : mj_Y.code kY 72 0 = some (.iload_n 1) ∧ ((1 : Fin 4) : Nat) = 1 ∧ 1 = 0 + 1 := by decide +kernel
theorem c72_1 : mj_Y.code kY 72 1 = some (.ifCond .lt 25) ∧ mj_tg 1 25 = some 26 ∧ 4 = 1 + 3 := by decide +kernel
theorem c72_4 : mj_Y.code kY 72 4 = some (.iload_n 1) ∧ ((1 : Fin 4) : Nat) = 1 ∧ 5 = 4 + 1 := by decide +kernel
theorem c72_5 : mj_Y.code kY 72 5 = some (.aload_n 0) ∧ ((0 : Fin 4) : Nat) = 0 ∧ 6 = 5 + 1 := by decide +kernel
theorem c72_6 : mj_Y.code kY 72 6 = some (.getfield 12) ∧ mj_Y.fl kY 72 12 5 = some (0, (.object "java/lang/StringBuilder"), false) ∧ 9 = 6 + 3 := by decide +kernel
theorem c72_9 : mj_Y.code kY 72 9 = some (.invokevirtual 37) ∧ mj_Y.na kY 72 37 = some 0 ∧ mj_Y.cv kY 72 37 0 = some 10 ∧ mj_Y.nL kY 10 = 1 ∧ 12 = 9 + 3 := by decide +kernel
theorem c72_12 : mj_Y.code kY 72 12 = some (.if_icmp .ge 14) ∧ mj_tg 12 14 = some 26 ∧ 15 = 12 + 3 := by decide +kernel
theorem c72_15 : mj_Y.code kY 72 15 = some (.aload_n 0) ∧ ((0 : Fin 4) : Nat) = 0 ∧ 16 = 15 + 1 := by decide +kernel
theorem c72_16 : mj_Y.code kY 72 16 = some (.getfield 12) ∧ mj_Y.fl kY 72 12 5 = some (0, (.object "java/lang/StringBuilder"), false) ∧ 19 = 16 + 3 := by decide +kernel
theorem c72_19 : mj_Y.code kY 72 19 = some (.iload_n 1) ∧ ((1 : Fin 4) : Nat) = 1 ∧ 20 = 19 + 1 := by decide +kernel
theorem c72_20 : mj_Y.code kY 72 20 = some (.invokevirtual 53) ∧ mj_Y.na kY 72 53 = some 1 ∧ mj_Y.cv kY 72 53 0 = some 73 ∧ mj_Y.nL kY 73 = 2 ∧ 23 = 20 + 3 := by decide +kernel
theorem c72_23 : mj_Y.code kY 72 23 = some (.goto 6) ∧ mj_tg 23 6 = some 29 := by decide +kernel
theorem c72_26 : mj_Y.code kY 72 26 = some (.sipush (-1000)) ∧ (Int16.ofInt (-1000)).toInt32 = (-1000) ∧ 29 = 26 + 3 := by decide +kernel
theorem c72_29 : mj_Y.code kY 72 29 = some .ireturn ∧ mj_Y.rt kY 72 = some .int := by decide +kernel
theorem c73_0 : mj_Y.code kY 73 0 = some (.aload_n 0) ∧ ((0 : Fin 4) : Nat) = 0 ∧ 1 = 0 + 1 := by decide +kernel
theorem c73_1 : mj_Y.code kY 73 1 = some (.iload_n 1) ∧ ((1 : Fin 4) : Nat) = 1 ∧ 2 = 1 + 1 := by decide +kernel
theorem c73_2 : mj_Y.code kY 73 2 = some (.invokespecial 329) ∧ mj_Y.pr kY 73 329 = none ∧ mj_Y.cp kY 73 329 = some (74, 1) ∧ mj_Y.nL kY 74 = 5 ∧ 5 = 2 + 3 := by decide +kernel
theorem c73_5 : mj_Y.code kY 73 5 = some .ireturn ∧ mj_Y.rt kY 73 = some .char := by decide +kernel
theorem c74_0 : mj_Y.code kY 74 0 = some (.aload_n 0) ∧ ((0 : Fin 4) : Nat) = 0 ∧ 1 = 0 + 1 := by decide +kernel
theorem c74_1 : mj_Y.code kY 74 1 = some (.getfield 22) ∧ mj_Y.fl kY 74 22 0 = some (1, .byte, true) ∧ 4 = 1 + 3 := by decide +kernel
theorem c74_4 : mj_Y.code kY 74 4 = some (.istore_n 2) ∧ ((2 : Fin 4) : Nat) = 2 ∧ 2 < mj_Y.nL kY 74 ∧ 5 = 4 + 1 := by decide +kernel
theorem c74_5 : mj_Y.code kY 74 5 = some (.aload_n 0) ∧ ((0 : Fin 4) : Nat) = 0 ∧ 6 = 5 + 1 := by decide +kernel
theorem c74_6 : mj_Y.code kY 74 6 = some (.getfield 15) ∧ mj_Y.fl kY 74 15 0 = some (0, (.array .byte), true) ∧ 9 = 6 + 3 := by decide +kernel
theorem c74_9 : mj_Y.code kY 74 9 = some (.astore_n 3) ∧ ((3 : Fin 4) : Nat) = 3 ∧ 3 < mj_Y.nL kY 74 ∧ 10 = 9 + 1 := by decide +kernel
theorem c74_10 : mj_Y.code kY 74 10 = some (.aload_n 0) ∧ ((0 : Fin 4) : Nat) = 0 ∧ 11 = 10 + 1 := by decide +kernel
theorem c74_11 : mj_Y.code kY 74 11 = some (.getfield 79) ∧ mj_Y.fl kY 74 79 0 = some (3, .int, true) ∧ 14 = 11 + 3 := by decide +kernel
theorem c74_14 : mj_Y.code kY 74 14 = some (.aload_n 3) ∧ ((3 : Fin 4) : Nat) = 3 ∧ 15 = 14 + 1 := by decide +kernel
theorem c74_15 : mj_Y.code kY 74 15 = some .arraylength ∧ 16 = 15 + 1 := by decide +kernel
theorem c74_16 : mj_Y.code kY 74 16 = some (.iload_n 2) ∧ ((2 : Fin 4) : Nat) = 2 ∧ 17 = 16 + 1 := by decide +kernel
theorem c74_17 : mj_Y.code kY 74 17 = some .ishr ∧ 18 = 17 + 1 := by decide +kernel
theorem c74_18 : mj_Y.code kY 74 18 = some (.invokestatic 138) ∧ mj_Y.pr kY 74 138 = none ∧ mj_Y.cs kY 74 138 = some (21, 2) ∧ mj_Y.nL kY 21 = 2 ∧ 21 = 18 + 3 := by decide +kernel
theorem c74_21 : mj_Y.code kY 74 21 = some (.istore 4) ∧ 4 = 4 ∧ 4 < mj_Y.nL kY 74 ∧ 23 = 21 + 2 := by decide +kernel
theorem c74_23 : mj_Y.code kY 74 23 = some (.iload_n 1) ∧ ((1 : Fin 4) : Nat) = 1 ∧ 24 = 23 + 1 := by decide +kernel
theorem c74_24 : mj_Y.code kY 74 24 = some (.iload 4) ∧ 4 = 4 ∧ 26 = 24 + 2 := by decide +kernel
theorem c74_26 : mj_Y.code kY 74 26 = some (.invokestatic 144) ∧ mj_Y.pr kY 74 144 = none ∧ mj_Y.cs kY 74 144 = some (34, 2) ∧ mj_Y.nL kY 34 = 2 ∧ 29 = 26 + 3 := by decide +kernel
theorem c74_29 : mj_Y.code kY 74 29 = some (.iload_n 2) ∧ ((2 : Fin 4) : Nat) = 2 ∧ 30 = 29 + 1 := by decide +kernel
theorem c74_30 : mj_Y.code kY 74 30 = some (.ifCond .ne 12) ∧ mj_tg 30 12 = some 42 ∧ 33 = 30 + 3 := by decide +kernel
theorem c74_33 : mj_Y.code kY 74 33 = some (.aload_n 3) ∧ ((3 : Fin 4) : Nat) = 3 ∧ 34 = 33 + 1 := by decide +kernel
theorem c74_34 : mj_Y.code kY 74 34 = some (.iload_n 1) ∧ ((1 : Fin 4) : Nat) = 1 ∧ 35 = 34 + 1 := by decide +kernel
theorem c74_35 : mj_Y.code kY 74 35 = some .baload ∧ 36 = 35 + 1 := by decide +kernel
theorem c74_36 : mj_Y.code kY 74 36 = some (.sipush 255) ∧ (Int16.ofInt 255).toInt32 = 255 ∧ 39 = 36 + 3 := by decide +kernel
theorem c74_39 : mj_Y.code kY 74 39 = some .iand ∧ 40 = 39 + 1 := by decide +kernel
theorem c74_40 : mj_Y.code kY 74 40 = some .i2c ∧ 41 = 40 + 1 := by decide +kernel
theorem c74_41 : mj_Y.code kY 74 41 = some .ireturn ∧ mj_Y.rt kY 74 = some .char := by decide +kernel
theorem c74_42 : mj_Y.code kY 74 42 = some (.aload_n 3) ∧ ((3 : Fin 4) : Nat) = 3 ∧ 43 = 42 + 1 := by decide +kernel
theorem c74_43 : mj_Y.code kY 74 43 = some (.iload_n 1) ∧ ((1 : Fin 4) : Nat) = 1 ∧ 44 = 43 + 1 := by decide +kernel
theorem c75_0 : mj_Y.code kY 75 0 = some (.aload_n 0) ∧ ((0 : Fin 4) : Nat) = 0 ∧ 1 = 0 + 1 := by decide +kernel
theorem c75_1 : mj_Y.code kY 75 1 = some (.getfield 25) ∧ mj_Y.fl kY 75 25 5 = some (2, (.object "DiceOdds$Parser"), false) ∧ 4 = 1 + 3 := by decide +kernel
theorem c75_4 : mj_Y.code kY 75 4 = some (.getfield 73) ∧ mj_Y.fl kY 75 73 1 = some (6, .int, true) ∧ 7 = 4 + 3 := by decide +kernel
theorem c75_7 : mj_Y.code kY 75 7 = some .ireturn ∧ mj_Y.rt kY 75 = some .int := by decide +kernel
theorem c76_0 : mj_Y.code kY 76 0 = some (.aload_n 0) ∧ ((0 : Fin 4) : Nat) = 0 ∧ 1 = 0 + 1 := by decide +kernel
theorem c76_1 : mj_Y.code kY 76 1 = some (.getfield 32) ∧ mj_Y.fl kY 76 32 5 = some (3, (.object "DiceOdds$Bench"), false) ∧ 4 = 1 + 3 := by decide +kernel
theorem c76_4 : mj_Y.code kY 76 4 = some (.getfield 109) ∧ mj_Y.fl kY 76 109 3 = some (12, .int, true) ∧ 7 = 4 + 3 := by decide +kernel
theorem c76_7 : mj_Y.code kY 76 7 = some .ireturn ∧ mj_Y.rt kY 76 = some .int := by decide +kernel
theorem c78_0 : mj_Y.code kY 78 0 = some (.aload_n 0) ∧ ((0 : Fin 4) : Nat) = 0 ∧ 1 = 0 + 1 := by decide +kernel
theorem c78_1 : mj_Y.code kY 78 1 = some (.iload_n 1) ∧ ((1 : Fin 4) : Nat) = 1 ∧ 2 = 1 + 1 := by decide +kernel
theorem c78_2 : mj_Y.code kY 78 2 = some (.invokevirtual 57) ∧ mj_Y.na kY 78 57 = some 1 ∧ mj_Y.cv kY 78 57 5 = some 79 ∧ mj_Y.nL kY 79 = 2 ∧ 5 = 2 + 3 := by decide +kernel
theorem c78_5 : mj_Y.code kY 78 5 = some (.astore_n 2) ∧ ((2 : Fin 4) : Nat) = 2 ∧ 2 < mj_Y.nL kY 78 ∧ 6 = 5 + 1 := by decide +kernel
theorem c78_6 : mj_Y.code kY 78 6 = some (.aload_n 0) ∧ ((0 : Fin 4) : Nat) = 0 ∧ 7 = 6 + 1 := by decide +kernel
theorem c78_7 : mj_Y.code kY 78 7 = some (.getfield 25) ∧ mj_Y.fl kY 78 25 5 = some (2, (.object "DiceOdds$Parser"), false) ∧ 10 = 7 + 3 := by decide +kernel
theorem c78_10 : mj_Y.code kY 78 10 = some (.aload_n 0) ∧ ((0 : Fin 4) : Nat) = 0 ∧ 11 = 10 + 1 := by decide +kernel
theorem c78_11 : mj_Y.code kY 78 11 = some (.getfield 12) ∧ mj_Y.fl kY 78 12 5 = some (0, (.object "java/lang/StringBuilder"), false) ∧ 14 = 11 + 3 := by decide +kernel
theorem c78_14 : mj_Y.code kY 78 14 = some (.invokevirtual 61) ∧ mj_Y.na kY 78 61 = some 1 ∧ mj_Y.cv kY 78 61 1 = some 81 ∧ mj_Y.nL kY 81 = 3 ∧ 17 = 14 + 3 := by decide +kernel
theorem c78_17 : mj_Y.code kY 78 17 = some (.astore_n 3) ∧ ((3 : Fin 4) : Nat) = 3 ∧ 3 < mj_Y.nL kY 78 ∧ 18 = 17 + 1 := by decide +kernel
theorem c78_18 : mj_Y.code kY 78 18 = some (.aload_n 2) ∧ ((2 : Fin 4) : Nat) = 2 ∧ 19 = 18 + 1 := by decide +kernel
theorem c78_19 : mj_Y.code kY 78 19 = some (.aload_n 3) ∧ ((3 : Fin 4) : Nat) = 3 ∧ 20 = 19 + 1 := by decide +kernel
theorem c78_20 : mj_Y.code kY 78 20 = some (.invokevirtual 65) ∧ mj_Y.na kY 78 65 = some 1 ∧ mj_Y.cv kY 78 65 4 = some 117 ∧ mj_Y.nL kY 117 = 2 ∧ 23 = 20 + 3 := by decide +kernel
theorem c78_23 : mj_Y.code kY 78 23 = some (.aload_n 0) ∧ ((0 : Fin 4) : Nat) = 0 ∧ 24 = 23 + 1 := by decide +kernel
theorem c78_24 : mj_Y.code kY 78 24 = some (.getfield 12) ∧ mj_Y.fl kY 78 12 5 = some (0, (.object "java/lang/StringBuilder"), false) ∧ 27 = 24 + 3 := by decide +kernel
theorem c78_27 : mj_Y.code kY 78 27 = some (.iconst 0) ∧ Int32.ofInt 0 = 0 ∧ 28 = 27 + 1 := by decide +kernel
theorem c78_28 : mj_Y.code kY 78 28 = some (.invokevirtual 49) ∧ mj_Y.na kY 78 49 = some 1 ∧ mj_Y.cv kY 78 49 0 = some 37 ∧ mj_Y.nL kY 37 = 2 ∧ 31 = 28 + 3 := by decide +kernel
theorem c78_31 : mj_Y.code kY 78 31 = some (.aload_n 0) ∧ ((0 : Fin 4) : Nat) = 0 ∧ 32 = 31 + 1 := by decide +kernel
theorem c78_32 : mj_Y.code kY 78 32 = some (.getfield 25) ∧ mj_Y.fl kY 78 25 5 = some (2, (.object "DiceOdds$Parser"), false) ∧ 35 = 32 + 3 := by decide +kernel
theorem c78_35 : mj_Y.code kY 78 35 = some (.getfield 69) ∧ mj_Y.fl kY 78 69 1 = some (4, .int, true) ∧ 38 = 35 + 3 := by decide +kernel
theorem c78_38 : mj_Y.code kY 78 38 = some .ireturn ∧ mj_Y.rt kY 78 = some .int := by decide +kernel
theorem nh78 : mj_Y.nh kY 78 = true := by decide +kernel
