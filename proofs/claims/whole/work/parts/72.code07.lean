theorem c281_0 : mj_Y.code kY 281 0 = some (.aload_n 0) ∧ ((0 : Fin 4) : Nat) = 0 ∧ 1 = 0 + 1 := by decide +kernel
theorem c281_1 : mj_Y.code kY 281 1 = some (.getfield 103) ∧ mj_Y.fl kY 281 103 12 = some (43, (.array .int), false) ∧ 4 = 1 + 3 := by decide +kernel
theorem c281_4 : mj_Y.code kY 281 4 = some (.aload_n 0) ∧ ((0 : Fin 4) : Nat) = 0 ∧ 5 = 4 + 1 := by decide +kernel
theorem c281_5 : mj_Y.code kY 281 5 = some (.getfield 368) ∧ mj_Y.fl kY 281 368 12 = some (44, .int, true) ∧ 8 = 5 + 3 := by decide +kernel
theorem c281_8 : mj_Y.code kY 281 8 = some (.aload_n 0) ∧ ((0 : Fin 4) : Nat) = 0 ∧ 9 = 8 + 1 := by decide +kernel
theorem c281_9 : mj_Y.code kY 281 9 = some (.getfield 371) ∧ mj_Y.fl kY 281 371 12 = some (45, .int, true) ∧ 12 = 9 + 3 := by decide +kernel
theorem c281_12 : mj_Y.code kY 281 12 = some .iastore ∧ 13 = 12 + 1 := by decide +kernel
theorem c281_13 : mj_Y.code kY 281 13 = some (.aload_n 0) ∧ ((0 : Fin 4) : Nat) = 0 ∧ 14 = 13 + 1 := by decide +kernel
theorem c281_14 : mj_Y.code kY 281 14 = some .dup ∧ 15 = 14 + 1 := by decide +kernel
theorem c281_15 : mj_Y.code kY 281 15 = some (.getfield 368) ∧ mj_Y.fl kY 281 368 12 = some (44, .int, true) ∧ 18 = 15 + 3 := by decide +kernel
theorem c281_18 : mj_Y.code kY 281 18 = some (.iconst 1) ∧ Int32.ofInt 1 = 1 ∧ 19 = 18 + 1 := by decide +kernel
theorem c281_19 : mj_Y.code kY 281 19 = some .iadd ∧ 20 = 19 + 1 := by decide +kernel
theorem c281_20 : mj_Y.code kY 281 20 = some (.putfield 368) ∧ mj_Y.fl kY 281 368 12 = some (44, .int, true) ∧ 23 = 20 + 3 := by decide +kernel
theorem c281_23 : mj_Y.code kY 281 23 = some .return_ ∧ mj_Y.rt kY 281 = none := by decide +kernel
theorem c282_0 : mj_Y.code kY 282 0 = some (.aload_n 0) ∧ ((0 : Fin 4) : Nat) = 0 ∧ 1 = 0 + 1 := by decide +kernel
theorem c282_1 : mj_Y.code kY 282 1 = some (.getfield 97) ∧ mj_Y.fl kY 282 97 12 = some (41, (.array .int), false) ∧ 4 = 1 + 3 := by decide +kernel
theorem c282_4 : mj_Y.code kY 282 4 = some (.aload_n 0) ∧ ((0 : Fin 4) : Nat) = 0 ∧ 5 = 4 + 1 := by decide +kernel
theorem c282_5 : mj_Y.code kY 282 5 = some (.getfield 371) ∧ mj_Y.fl kY 282 371 12 = some (45, .int, true) ∧ 8 = 5 + 3 := by decide +kernel
theorem c282_8 : mj_Y.code kY 282 8 = some (.iload_n 1) ∧ ((1 : Fin 4) : Nat) = 1 ∧ 9 = 8 + 1 := by decide +kernel
theorem c282_9 : mj_Y.code kY 282 9 = some .iastore ∧ 10 = 9 + 1 := by decide +kernel
theorem c282_10 : mj_Y.code kY 282 10 = some (.aload_n 0) ∧ ((0 : Fin 4) : Nat) = 0 ∧ 11 = 10 + 1 := by decide +kernel
theorem c282_11 : mj_Y.code kY 282 11 = some (.getfield 100) ∧ mj_Y.fl kY 282 100 12 = some (42, (.array .long), false) ∧ 14 = 11 + 3 := by decide +kernel
theorem c282_14 : mj_Y.code kY 282 14 = some (.aload_n 0) ∧ ((0 : Fin 4) : Nat) = 0 ∧ 15 = 14 + 1 := by decide +kernel
theorem c282_15 : mj_Y.code kY 282 15 = some (.getfield 371) ∧ mj_Y.fl kY 282 371 12 = some (45, .int, true) ∧ 18 = 15 + 3 := by decide +kernel
theorem c282_18 : mj_Y.code kY 282 18 = some (.lload_n 2) ∧ ((2 : Fin 4) : Nat) = 2 ∧ 19 = 18 + 1 := by decide +kernel
theorem c282_19 : mj_Y.code kY 282 19 = some .lastore ∧ 20 = 19 + 1 := by decide +kernel
theorem c282_20 : mj_Y.code kY 282 20 = some (.aload_n 0) ∧ ((0 : Fin 4) : Nat) = 0 ∧ 21 = 20 + 1 := by decide +kernel
theorem c282_21 : mj_Y.code kY 282 21 = some .dup ∧ 22 = 21 + 1 := by decide +kernel
theorem c282_22 : mj_Y.code kY 282 22 = some (.getfield 371) ∧ mj_Y.fl kY 282 371 12 = some (45, .int, true) ∧ 25 = 22 + 3 := by decide +kernel
theorem c282_25 : mj_Y.code kY 282 25 = some (.iconst 1) ∧ Int32.ofInt 1 = 1 ∧ 26 = 25 + 1 := by decide +kernel
theorem c282_26 : mj_Y.code kY 282 26 = some .iadd ∧ 27 = 26 + 1 := by decide +kernel
theorem c282_27 : mj_Y.code kY 282 27 = some (.putfield 371) ∧ mj_Y.fl kY 282 371 12 = some (45, .int, true) ∧ 30 = 27 + 3 := by decide +kernel
theorem c282_30 : mj_Y.code kY 282 30 = some .return_ ∧ mj_Y.rt kY 282 = none := by decide +kernel
theorem c283_0 : mj_Y.code kY 283 0 = some (.aload_n 0) ∧ ((0 : Fin 4) : Nat) = 0 ∧ 1 = 0 + 1 := by decide +kernel
theorem c283_1 : mj_Y.code kY 283 1 = some (.getfield 103) ∧ mj_Y.fl kY 283 103 12 = some (43, (.array .int), false) ∧ 4 = 1 + 3 := by decide +kernel
theorem c283_4 : mj_Y.code kY 283 4 = some (.aload_n 0) ∧ ((0 : Fin 4) : Nat) = 0 ∧ 5 = 4 + 1 := by decide +kernel
theorem c283_5 : mj_Y.code kY 283 5 = some (.getfield 368) ∧ mj_Y.fl kY 283 368 12 = some (44, .int, true) ∧ 8 = 5 + 3 := by decide +kernel
theorem c283_8 : mj_Y.code kY 283 8 = some (.iconst 1) ∧ Int32.ofInt 1 = 1 ∧ 9 = 8 + 1 := by decide +kernel
theorem c283_9 : mj_Y.code kY 283 9 = some .isub ∧ 10 = 9 + 1 := by decide +kernel
theorem c283_10 : mj_Y.code kY 283 10 = some .iaload ∧ 11 = 10 + 1 := by decide +kernel
theorem c283_11 : mj_Y.code kY 283 11 = some (.istore_n 2) ∧ ((2 : Fin 4) : Nat) = 2 ∧ 2 < mj_Y.nL kY 283 ∧ 12 = 11 + 1 := by decide +kernel
theorem c283_12 : mj_Y.code kY 283 12 = some (.aload_n 0) ∧ ((0 : Fin 4) : Nat) = 0 ∧ 13 = 12 + 1 := by decide +kernel
theorem c283_13 : mj_Y.code kY 283 13 = some (.getfield 103) ∧ mj_Y.fl kY 283 103 12 = some (43, (.array .int), false) ∧ 16 = 13 + 3 := by decide +kernel
theorem c283_16 : mj_Y.code kY 283 16 = some (.aload_n 0) ∧ ((0 : Fin 4) : Nat) = 0 ∧ 17 = 16 + 1 := by decide +kernel
theorem c283_17 : mj_Y.code kY 283 17 = some (.getfield 368) ∧ mj_Y.fl kY 283 368 12 = some (44, .int, true) ∧ 20 = 17 + 3 := by decide +kernel
theorem c283_20 : mj_Y.code kY 283 20 = some (.iconst 2) ∧ Int32.ofInt 2 = 2 ∧ 21 = 20 + 1 := by decide +kernel
theorem c283_21 : mj_Y.code kY 283 21 = some .isub ∧ 22 = 21 + 1 := by decide +kernel
theorem c283_22 : mj_Y.code kY 283 22 = some .iaload ∧ 23 = 22 + 1 := by decide +kernel
theorem c283_23 : mj_Y.code kY 283 23 = some (.istore_n 3) ∧ ((3 : Fin 4) : Nat) = 3 ∧ 3 < mj_Y.nL kY 283 ∧ 24 = 23 + 1 := by decide +kernel
theorem c283_24 : mj_Y.code kY 283 24 = some (.iconst 0) ∧ Int32.ofInt 0 = 0 ∧ 25 = 24 + 1 := by decide +kernel
theorem c283_25 : mj_Y.code kY 283 25 = some (.istore 4) ∧ 4 = 4 ∧ 4 < mj_Y.nL kY 283 ∧ 27 = 25 + 2 := by decide +kernel
theorem c283_27 : mj_Y.code kY 283 27 = some (.iload 4) ∧ 4 = 4 ∧ 29 = 27 + 2 := by decide +kernel
theorem c283_29 : mj_Y.code kY 283 29 = some (.sipush 1999) ∧ (Int16.ofInt 1999).toInt32 = 1999 ∧ 32 = 29 + 3 := by decide +kernel
theorem c283_32 : mj_Y.code kY 283 32 = some (.if_icmp .ge 17) ∧ mj_tg 32 17 = some 49 ∧ 35 = 32 + 3 := by decide +kernel
theorem c283_35 : mj_Y.code kY 283 35 = some (.aload_n 0) ∧ ((0 : Fin 4) : Nat) = 0 ∧ 36 = 35 + 1 := by decide +kernel
theorem c283_36 : mj_Y.code kY 283 36 = some (.getfield 106) ∧ mj_Y.fl kY 283 106 12 = some (46, (.array .long), false) ∧ 39 = 36 + 3 := by decide +kernel
theorem c283_39 : mj_Y.code kY 283 39 = some (.iload 4) ∧ 4 = 4 ∧ 41 = 39 + 2 := by decide +kernel
theorem c283_41 : mj_Y.code kY 283 41 = some (.lconst 0) ∧ Int64.ofNat ((0 : Fin 2) : Nat) = 0 ∧ 42 = 41 + 1 := by decide +kernel
theorem c283_42 : mj_Y.code kY 283 42 = some .lastore ∧ 43 = 42 + 1 := by decide +kernel
theorem c283_43 : mj_Y.code kY 283 43 = some (.iinc 4 1) ∧ 4 < mj_Y.nL kY 283 ∧ Int32.ofInt 1 = 1 ∧ 46 = 43 + 3 := by decide +kernel
theorem c283_46 : mj_Y.code kY 283 46 = some (.goto (-19)) ∧ mj_tg 46 (-19) = some 27 := by decide +kernel
theorem c283_49 : mj_Y.code kY 283 49 = some (.iload_n 3) ∧ ((3 : Fin 4) : Nat) = 3 ∧ 50 = 49 + 1 := by decide +kernel
theorem c283_50 : mj_Y.code kY 283 50 = some (.istore 4) ∧ 4 = 4 ∧ 4 < mj_Y.nL kY 283 ∧ 52 = 50 + 2 := by decide +kernel
theorem c283_52 : mj_Y.code kY 283 52 = some (.iload 4) ∧ 4 = 4 ∧ 54 = 52 + 2 := by decide +kernel
theorem c283_54 : mj_Y.code kY 283 54 = some (.iload_n 2) ∧ ((2 : Fin 4) : Nat) = 2 ∧ 55 = 54 + 1 := by decide +kernel
theorem c283_55 : mj_Y.code kY 283 55 = some (.if_icmp .ge 118) ∧ mj_tg 55 118 = some 173 ∧ 58 = 55 + 3 := by decide +kernel
theorem c283_58 : mj_Y.code kY 283 58 = some (.iload_n 2) ∧ ((2 : Fin 4) : Nat) = 2 ∧ 59 = 58 + 1 := by decide +kernel
theorem c283_59 : mj_Y.code kY 283 59 = some (.istore 5) ∧ 5 = 5 ∧ 5 < mj_Y.nL kY 283 ∧ 61 = 59 + 2 := by decide +kernel
theorem c283_61 : mj_Y.code kY 283 61 = some (.iload 5) ∧ 5 = 5 ∧ 63 = 61 + 2 := by decide +kernel
theorem c283_63 : mj_Y.code kY 283 63 = some (.aload_n 0) ∧ ((0 : Fin 4) : Nat) = 0 ∧ 64 = 63 + 1 := by decide +kernel
theorem c283_64 : mj_Y.code kY 283 64 = some (.getfield 371) ∧ mj_Y.fl kY 283 371 12 = some (45, .int, true) ∧ 67 = 64 + 3 := by decide +kernel
theorem c283_67 : mj_Y.code kY 283 67 = some (.if_icmp .ge 100) ∧ mj_tg 67 100 = some 167 ∧ 70 = 67 + 3 := by decide +kernel
theorem c283_70 : mj_Y.code kY 283 70 = some (.iload_n 1) ∧ ((1 : Fin 4) : Nat) = 1 ∧ 71 = 70 + 1 := by decide +kernel
theorem c283_71 : mj_Y.code kY 283 71 = some (.iconst 5) ∧ Int32.ofInt 5 = 5 ∧ 72 = 71 + 1 := by decide +kernel
theorem c283_72 : mj_Y.code kY 283 72 = some (.if_icmp .le 15) ∧ mj_tg 72 15 = some 87 ∧ 75 = 72 + 3 := by decide +kernel
theorem c283_75 : mj_Y.code kY 283 75 = some (.aload_n 0) ∧ ((0 : Fin 4) : Nat) = 0 ∧ 76 = 75 + 1 := by decide +kernel
theorem c283_76 : mj_Y.code kY 283 76 = some (.getfield 97) ∧ mj_Y.fl kY 283 97 12 = some (41, (.array .int), false) ∧ 79 = 76 + 3 := by decide +kernel
theorem c283_79 : mj_Y.code kY 283 79 = some (.iload 5) ∧ 5 = 5 ∧ 81 = 79 + 2 := by decide +kernel
theorem c283_81 : mj_Y.code kY 283 81 = some .iaload ∧ 82 = 81 + 1 := by decide +kernel
theorem c283_82 : mj_Y.code kY 283 82 = some (.ifCond .ne 5) ∧ mj_tg 82 5 = some 87 ∧ 85 = 82 + 3 := by decide +kernel
theorem c283_85 : mj_Y.code kY 283 85 = some (.iconst 0) ∧ Int32.ofInt 0 = 0 ∧ 86 = 85 + 1 := by decide +kernel
theorem c283_86 : mj_Y.code kY 283 86 = some .ireturn ∧ mj_Y.rt kY 283 = some .boolean := by decide +kernel
theorem c283_87 : mj_Y.code kY 283 87 = some (.iload_n 1) ∧ ((1 : Fin 4) : Nat) = 1 ∧ 88 = 87 + 1 := by decide +kernel
theorem c283_88 : mj_Y.code kY 283 88 = some (.aload_n 0) ∧ ((0 : Fin 4) : Nat) = 0 ∧ 89 = 88 + 1 := by decide +kernel
theorem c283_89 : mj_Y.code kY 283 89 = some (.getfield 97) ∧ mj_Y.fl kY 283 97 12 = some (41, (.array .int), false) ∧ 92 = 89 + 3 := by decide +kernel
theorem c283_92 : mj_Y.code kY 283 92 = some (.iload 4) ∧ 4 = 4 ∧ 94 = 92 + 2 := by decide +kernel
theorem c283_94 : mj_Y.code kY 283 94 = some .iaload ∧ 95 = 94 + 1 := by decide +kernel
theorem c283_95 : mj_Y.code kY 283 95 = some (.aload_n 0) ∧ ((0 : Fin 4) : Nat) = 0 ∧ 96 = 95 + 1 := by decide +kernel
theorem c283_96 : mj_Y.code kY 283 96 = some (.getfield 97) ∧ mj_Y.fl kY 283 97 12 = some (41, (.array .int), false) ∧ 99 = 96 + 3 := by decide +kernel
theorem c283_99 : mj_Y.code kY 283 99 = some (.iload 5) ∧ 5 = 5 ∧ 101 = 99 + 2 := by decide +kernel
theorem c283_101 : mj_Y.code kY 283 101 = some .iaload ∧ 102 = 101 + 1 := by decide +kernel
theorem c283_102 : mj_Y.code kY 283 102 = some (.invokestatic 377) ∧ mj_Y.pr kY 283 377 = none ∧ mj_Y.cs kY 283 377 = some (284, 3) ∧ mj_Y.nL kY 284 = 3 ∧ 105 = 102 + 3 := by decide +kernel
theorem c283_105 : mj_Y.code kY 283 105 = some (.istore 6) ∧ 6 = 6 ∧ 6 < mj_Y.nL kY 283 ∧ 107 = 105 + 2 := by decide +kernel
theorem c283_107 : mj_Y.code kY 283 107 = some (.iload 6) ∧ 6 = 6 ∧ 109 = 107 + 2 := by decide +kernel
theorem c283_109 : mj_Y.code kY 283 109 = some (.sipush (-999)) ∧ (Int16.ofInt (-999)).toInt32 = (-999) ∧ 112 = 109 + 3 := by decide +kernel
theorem c283_112 : mj_Y.code kY 283 112 = some (.sipush 999) ∧ (Int16.ofInt 999).toInt32 = 999 ∧ 115 = 112 + 3 := by decide +kernel
theorem c283_115 : mj_Y.code kY 283 115 = some (.invokestatic 145) ∧ mj_Y.pr kY 283 145 = none ∧ mj_Y.cs kY 283 145 = some (205, 3) ∧ mj_Y.nL kY 205 = 3 ∧ 118 = 115 + 3 := by decide +kernel
theorem c283_118 : mj_Y.code kY 283 118 = some (.ifCond .ne 5) ∧ mj_tg 118 5 = some 123 ∧ 121 = 118 + 3 := by decide +kernel
theorem c283_121 : mj_Y.code kY 283 121 = some (.iconst 0) ∧ Int32.ofInt 0 = 0 ∧ 122 = 121 + 1 := by decide +kernel
theorem c283_122 : mj_Y.code kY 283 122 = some .ireturn ∧ mj_Y.rt kY 283 = some .boolean := by decide +kernel
theorem c283_123 : mj_Y.code kY 283 123 = some (.aload_n 0) ∧ ((0 : Fin 4) : Nat) = 0 ∧ 124 = 123 + 1 := by decide +kernel
theorem c283_124 : mj_Y.code kY 283 124 = some (.getfield 106) ∧ mj_Y.fl kY 283 106 12 = some (46, (.array .long), false) ∧ 127 = 124 + 3 := by decide +kernel
theorem c283_127 : mj_Y.code kY 283 127 = some (.iload 6) ∧ 6 = 6 ∧ 129 = 127 + 2 := by decide +kernel
theorem c283_129 : mj_Y.code kY 283 129 = some (.sipush 999) ∧ (Int16.ofInt 999).toInt32 = 999 ∧ 132 = 129 + 3 := by decide +kernel
theorem c283_132 : mj_Y.code kY 283 132 = some .iadd ∧ 133 = 132 + 1 := by decide +kernel
theorem c283_133 : mj_Y.code kY 283 133 = some (.aload_n 0) ∧ ((0 : Fin 4) : Nat) = 0 ∧ 134 = 133 + 1 := by decide +kernel
theorem c283_134 : mj_Y.code kY 283 134 = some (.getfield 106) ∧ mj_Y.fl kY 283 106 12 = some (46, (.array .long), false) ∧ 137 = 134 + 3 := by decide +kernel
theorem c283_137 : mj_Y.code kY 283 137 = some (.iload 6) ∧ 6 = 6 ∧ 139 = 137 + 2 := by decide +kernel
theorem c283_139 : mj_Y.code kY 283 139 = some (.sipush 999) ∧ (Int16.ofInt 999).toInt32 = 999 ∧ 142 = 139 + 3 := by decide +kernel
theorem c283_142 : mj_Y.code kY 283 142 = some .iadd ∧ 143 = 142 + 1 := by decide +kernel
theorem c283_143 : mj_Y.code kY 283 143 = some .laload ∧ 144 = 143 + 1 := by decide +kernel
theorem c283_144 : mj_Y.code kY 283 144 = some (.aload_n 0) ∧ ((0 : Fin 4) : Nat) = 0 ∧ 145 = 144 + 1 := by decide +kernel
theorem c283_145 : mj_Y.code kY 283 145 = some (.getfield 100) ∧ mj_Y.fl kY 283 100 12 = some (42, (.array .long), false) ∧ 148 = 145 + 3 := by decide +kernel
theorem c283_148 : mj_Y.code kY 283 148 = some (.iload 4) ∧ 4 = 4 ∧ 150 = 148 + 2 := by decide +kernel
theorem c283_150 : mj_Y.code kY 283 150 = some .laload ∧ 151 = 150 + 1 := by decide +kernel
theorem c283_151 : mj_Y.code kY 283 151 = some (.aload_n 0) ∧ ((0 : Fin 4) : Nat) = 0 ∧ 152 = 151 + 1 := by decide +kernel
theorem c283_152 : mj_Y.code kY 283 152 = some (.getfield 100) ∧ mj_Y.fl kY 283 100 12 = some (42, (.array .long), false) ∧ 155 = 152 + 3 := by decide +kernel
theorem c283_155 : mj_Y.code kY 283 155 = some (.iload 5) ∧ 5 = 5 ∧ 157 = 155 + 2 := by decide +kernel
theorem c283_157 : mj_Y.code kY 283 157 = some .laload ∧ 158 = 157 + 1 := by decide +kernel
theorem c283_158 : mj_Y.code kY 283 158 = some .lmul ∧ 159 = 158 + 1 := by decide +kernel
theorem c283_159 : mj_Y.code kY 283 159 = some .ladd ∧ 160 = 159 + 1 := by decide +kernel
theorem c283_160 : mj_Y.code kY 283 160 = some .lastore ∧ 161 = 160 + 1 := by decide +kernel
theorem c283_161 : mj_Y.code kY 283 161 = some (.iinc 5 1) ∧ 5 < mj_Y.nL kY 283 ∧ Int32.ofInt 1 = 1 ∧ 164 = 161 + 3 := by decide +kernel
theorem c283_164 : mj_Y.code kY 283 164 = some (.goto (-103)) ∧ mj_tg 164 (-103) = some 61 := by decide +kernel
theorem c283_167 : mj_Y.code kY 283 167 = some (.iinc 4 1) ∧ 4 < mj_Y.nL kY 283 ∧ Int32.ofInt 1 = 1 ∧ 170 = 167 + 3 := by decide +kernel
theorem c283_170 : mj_Y.code kY 283 170 = some (.goto (-118)) ∧ mj_tg 170 (-118) = some 52 := by decide +kernel
theorem c283_173 : mj_Y.code kY 283 173 = some (.aload_n 0) ∧ ((0 : Fin 4) : Nat) = 0 ∧ 174 = 173 + 1 := by decide +kernel
theorem c283_174 : mj_Y.code kY 283 174 = some (.aload_n 0) ∧ ((0 : Fin 4) : Nat) = 0 ∧ 175 = 174 + 1 := by decide +kernel
theorem c283_175 : mj_Y.code kY 283 175 = some (.getfield 368) ∧ mj_Y.fl kY 283 368 12 = some (44, .int, true) ∧ 178 = 175 + 3 := by decide +kernel
theorem c283_178 : mj_Y.code kY 283 178 = some (.iconst 2) ∧ Int32.ofInt 2 = 2 ∧ 179 = 178 + 1 := by decide +kernel
theorem c283_179 : mj_Y.code kY 283 179 = some .isub ∧ 180 = 179 + 1 := by decide +kernel
theorem c283_180 : mj_Y.code kY 283 180 = some (.putfield 368) ∧ mj_Y.fl kY 283 368 12 = some (44, .int, true) ∧ 183 = 180 + 3 := by decide +kernel
theorem c283_183 : mj_Y.code kY 283 183 = some (.aload_n 0) ∧ ((0 : Fin 4) : Nat) = 0 ∧ 184 = 183 + 1 := by decide +kernel
theorem c283_184 : mj_Y.code kY 283 184 = some (.iload_n 3) ∧ ((3 : Fin 4) : Nat) = 3 ∧ 185 = 184 + 1 := by decide +kernel
theorem c283_185 : mj_Y.code kY 283 185 = some (.putfield 371) ∧ mj_Y.fl kY 283 371 12 = some (45, .int, true) ∧ 188 = 185 + 3 := by decide +kernel
theorem c283_188 : mj_Y.code kY 283 188 = some (.aload_n 0) ∧ ((0 : Fin 4) : Nat) = 0 ∧ 189 = 188 + 1 := by decide +kernel
theorem c283_189 : mj_Y.code kY 283 189 = some (.invokevirtual 381) ∧ mj_Y.na kY 283 381 = some 0 ∧ mj_Y.cv kY 283 381 12 = some 281 ∧ mj_Y.nL kY 281 = 1 ∧ 192 = 189 + 3 := by decide +kernel
theorem c283_192 : mj_Y.code kY 283 192 = some (.iconst 0) ∧ Int32.ofInt 0 = 0 ∧ 193 = 192 + 1 := by decide +kernel
theorem c283_193 : mj_Y.code kY 283 193 = some (.istore 4) ∧ 4 = 4 ∧ 4 < mj_Y.nL kY 283 ∧ 195 = 193 + 2 := by decide +kernel
theorem c283_195 : mj_Y.code kY 283 195 = some (.iload 4) ∧ 4 = 4 ∧ 197 = 195 + 2 := by decide +kernel
theorem c283_197 : mj_Y.code kY 283 197 = some (.sipush 1999) ∧ (Int16.ofInt 1999).toInt32 = 1999 ∧ 200 = 197 + 3 := by decide +kernel
theorem c283_200 : mj_Y.code kY 283 200 = some (.if_icmp .ge 38) ∧ mj_tg 200 38 = some 238 ∧ 203 = 200 + 3 := by decide +kernel
theorem c283_203 : mj_Y.code kY 283 203 = some (.aload_n 0) ∧ ((0 : Fin 4) : Nat) = 0 ∧ 204 = 203 + 1 := by decide +kernel
theorem c283_204 : mj_Y.code kY 283 204 = some (.getfield 106) ∧ mj_Y.fl kY 283 106 12 = some (46, (.array .long), false) ∧ 207 = 204 + 3 := by decide +kernel
theorem c283_207 : mj_Y.code kY 283 207 = some (.iload 4) ∧ 4 = 4 ∧ 209 = 207 + 2 := by decide +kernel
theorem c283_209 : mj_Y.code kY 283 209 = some .laload ∧ 210 = 209 + 1 := by decide +kernel
theorem c283_210 : mj_Y.code kY 283 210 = some (.lconst 0) ∧ Int64.ofNat ((0 : Fin 2) : Nat) = 0 ∧ 211 = 210 + 1 := by decide +kernel
theorem c283_211 : mj_Y.code kY 283 211 = some .lcmp ∧ 212 = 211 + 1 := by decide +kernel
theorem c283_212 : mj_Y.code kY 283 212 = some (.ifCond .le 20) ∧ mj_tg 212 20 = some 232 ∧ 215 = 212 + 3 := by decide +kernel
theorem c283_215 : mj_Y.code kY 283 215 = some (.aload_n 0) ∧ ((0 : Fin 4) : Nat) = 0 ∧ 216 = 215 + 1 := by decide +kernel
theorem c283_216 : mj_Y.code kY 283 216 = some (.iload 4) ∧ 4 = 4 ∧ 218 = 216 + 2 := by decide +kernel
theorem c283_218 : mj_Y.code kY 283 218 = some (.sipush 999) ∧ (Int16.ofInt 999).toInt32 = 999 ∧ 221 = 218 + 3 := by decide +kernel
theorem c283_221 : mj_Y.code kY 283 221 = some .isub ∧ 222 = 221 + 1 := by decide +kernel
theorem c283_222 : mj_Y.code kY 283 222 = some (.aload_n 0) ∧ ((0 : Fin 4) : Nat) = 0 ∧ 223 = 222 + 1 := by decide +kernel
theorem c283_223 : mj_Y.code kY 283 223 = some (.getfield 106) ∧ mj_Y.fl kY 283 106 12 = some (46, (.array .long), false) ∧ 226 = 223 + 3 := by decide +kernel
theorem c283_226 : mj_Y.code kY 283 226 = some (.iload 4) ∧ 4 = 4 ∧ 228 = 226 + 2 := by decide +kernel
theorem c283_228 : mj_Y.code kY 283 228 = some .laload ∧ 229 = 228 + 1 := by decide +kernel
theorem c283_229 : mj_Y.code kY 283 229 = some (.invokevirtual 384) ∧ mj_Y.na kY 283 384 = some 2 ∧ mj_Y.cv kY 283 384 12 = some 282 ∧ mj_Y.nL kY 282 = 4 ∧ 232 = 229 + 3 := by decide +kernel
theorem c283_232 : mj_Y.code kY 283 232 = some (.iinc 4 1) ∧ 4 < mj_Y.nL kY 283 ∧ Int32.ofInt 1 = 1 ∧ 235 = 232 + 3 := by decide +kernel
theorem c283_235 : mj_Y.code kY 283 235 = some (.goto (-40)) ∧ mj_tg 235 (-40) = some 195 := by decide +kernel
theorem c283_238 : mj_Y.code kY 283 238 = some (.iconst 1) ∧ Int32.ofInt 1 = 1 ∧ 239 = 238 + 1 := by decide +kernel
theorem c283_239 : mj_Y.code kY 283 239 = some .ireturn ∧ mj_Y.rt kY 283 = some .boolean := by decide +kernel
theorem c284_0 : mj_Y.code kY 284 0 = some (.iload_n 0) ∧ ((0 : Fin 4) : Nat) = 0 ∧ 1 = 0 + 1 := by decide +kernel
theorem c284_1_d {x : Int32} (b0 : mj_c2 .eq x 0 = false) (b1 : mj_c2 .eq x 1 = false) (b2 : mj_c2 .eq x 2 = false) (b3 : mj_c2 .eq x 3 = false) (b4 : mj_c2 .eq x 4 = false) (b5 : mj_c2 .eq x 5 = false) (b6 : mj_c2 .eq x 6 = false) : mj_Y.code kY 284 1 = some (.tableswitch 94 0 6 #[43, 54, 65, 76, 80, 84, 88]) ∧ r_np (.tableswitch 94 0 6 #[43, 54, 65, 76, 80, 84, 88]) = true ∧ ∀ (l : mj_L) (st : List Value), mj_p (mj_Y.nL kY 284) 1 (.tableswitch 94 0 6 #[43, 54, 65, 76, 80, 84, 88]) l (.int x :: st) = some (95, l, st) := by
  refine ⟨by decide +kernel, rfl, fun l st => ?_⟩
  have n0 : x.toInt ≠ 0 := fun h => of_decide_eq_false b0 (Int32.toInt_inj.mp (h.trans (show 0 = (0 : Int32).toInt from rfl)))
  have n1 : x.toInt ≠ 1 := fun h => of_decide_eq_false b1 (Int32.toInt_inj.mp (h.trans (show 1 = (1 : Int32).toInt from rfl)))
  have n2 : x.toInt ≠ 2 := fun h => of_decide_eq_false b2 (Int32.toInt_inj.mp (h.trans (show 2 = (2 : Int32).toInt from rfl)))
  have n3 : x.toInt ≠ 3 := fun h => of_decide_eq_false b3 (Int32.toInt_inj.mp (h.trans (show 3 = (3 : Int32).toInt from rfl)))
  have n4 : x.toInt ≠ 4 := fun h => of_decide_eq_false b4 (Int32.toInt_inj.mp (h.trans (show 4 = (4 : Int32).toInt from rfl)))
  have n5 : x.toInt ≠ 5 := fun h => of_decide_eq_false b5 (Int32.toInt_inj.mp (h.trans (show 5 = (5 : Int32).toInt from rfl)))
  have n6 : x.toInt ≠ 6 := fun h => of_decide_eq_false b6 (Int32.toInt_inj.mp (h.trans (show 6 = (6 : Int32).toInt from rfl)))
  have hx : x.toInt < 0 ∨ 6 < x.toInt := by omega
  show (if x.toInt < 0 ∨ 6 < x.toInt then _ else _) = _
  rw [if_pos hx]
  rfl
theorem c284_1_0 : mj_Y.code kY 284 1 = some (.tableswitch 94 0 6 #[43, 54, 65, 76, 80, 84, 88]) ∧ r_np (.tableswitch 94 0 6 #[43, 54, 65, 76, 80, 84, 88]) = true ∧ ∀ (l : mj_L) (st : List Value), mj_p (mj_Y.nL kY 284) 1 (.tableswitch 94 0 6 #[43, 54, 65, 76, 80, 84, 88]) l (.int 0 :: st) = some (44, l, st) := ⟨by decide +kernel, rfl, fun _ _ => rfl⟩
theorem c284_1_1 : mj_Y.code kY 284 1 = some (.tableswitch 94 0 6 #[43, 54, 65, 76, 80, 84, 88]) ∧ r_np (.tableswitch 94 0 6 #[43, 54, 65, 76, 80, 84, 88]) = true ∧ ∀ (l : mj_L) (st : List Value), mj_p (mj_Y.nL kY 284) 1 (.tableswitch 94 0 6 #[43, 54, 65, 76, 80, 84, 88]) l (.int 1 :: st) = some (55, l, st) := ⟨by decide +kernel, rfl, fun _ _ => rfl⟩
theorem c284_1_2 : mj_Y.code kY 284 1 = some (.tableswitch 94 0 6 #[43, 54, 65, 76, 80, 84, 88]) ∧ r_np (.tableswitch 94 0 6 #[43, 54, 65, 76, 80, 84, 88]) = true ∧ ∀ (l : mj_L) (st : List Value), mj_p (mj_Y.nL kY 284) 1 (.tableswitch 94 0 6 #[43, 54, 65, 76, 80, 84, 88]) l (.int 2 :: st) = some (66, l, st) := ⟨by decide +kernel, rfl, fun _ _ => rfl⟩
theorem c284_1_3 : mj_Y.code kY 284 1 = some (.tableswitch 94 0 6 #[43, 54, 65, 76, 80, 84, 88]) ∧ r_np (.tableswitch 94 0 6 #[43, 54, 65, 76, 80, 84, 88]) = true ∧ ∀ (l : mj_L) (st : List Value), mj_p (mj_Y.nL kY 284) 1 (.tableswitch 94 0 6 #[43, 54, 65, 76, 80, 84, 88]) l (.int 3 :: st) = some (77, l, st) := ⟨by decide +kernel, rfl, fun _ _ => rfl⟩
theorem c284_1_4 : mj_Y.code kY 284 1 = some (.tableswitch 94 0 6 #[43, 54, 65, 76, 80, 84, 88]) ∧ r_np (.tableswitch 94 0 6 #[43, 54, 65, 76, 80, 84, 88]) = true ∧ ∀ (l : mj_L) (st : List Value), mj_p (mj_Y.nL kY 284) 1 (.tableswitch 94 0 6 #[43, 54, 65, 76, 80, 84, 88]) l (.int 4 :: st) = some (81, l, st) := ⟨by decide +kernel, rfl, fun _ _ => rfl⟩
theorem c284_1_5 : mj_Y.code kY 284 1 = some (.tableswitch 94 0 6 #[43, 54, 65, 76, 80, 84, 88]) ∧ r_np (.tableswitch 94 0 6 #[43, 54, 65, 76, 80, 84, 88]) = true ∧ ∀ (l : mj_L) (st : List Value), mj_p (mj_Y.nL kY 284) 1 (.tableswitch 94 0 6 #[43, 54, 65, 76, 80, 84, 88]) l (.int 5 :: st) = some (85, l, st) := ⟨by decide +kernel, rfl, fun _ _ => rfl⟩
theorem c284_1_6 : mj_Y.code kY 284 1 = some (.tableswitch 94 0 6 #[43, 54, 65, 76, 80, 84, 88]) ∧ r_np (.tableswitch 94 0 6 #[43, 54, 65, 76, 80, 84, 88]) = true ∧ ∀ (l : mj_L) (st : List Value), mj_p (mj_Y.nL kY 284) 1 (.tableswitch 94 0 6 #[43, 54, 65, 76, 80, 84, 88]) l (.int 6 :: st) = some (89, l, st) := ⟨by decide +kernel, rfl, fun _ _ => rfl⟩
theorem c284_44 : mj_Y.code kY 284 44 = some (.iload_n 1) ∧ ((1 : Fin 4) : Nat) = 1 ∧ 45 = 44 + 1 := by decide +kernel
theorem c284_45 : mj_Y.code kY 284 45 = some (.iload_n 2) ∧ ((2 : Fin 4) : Nat) = 2 ∧ 46 = 45 + 1 := by decide +kernel
theorem c284_46 : mj_Y.code kY 284 46 = some (.if_icmp .ge 7) ∧ mj_tg 46 7 = some 53 ∧ 49 = 46 + 3 := by decide +kernel
theorem c284_49 : mj_Y.code kY 284 49 = some (.iconst 1) ∧ Int32.ofInt 1 = 1 ∧ 50 = 49 + 1 := by decide +kernel
theorem c284_50 : mj_Y.code kY 284 50 = some (.goto 4) ∧ mj_tg 50 4 = some 54 := by decide +kernel
theorem c284_53 : mj_Y.code kY 284 53 = some (.iconst 0) ∧ Int32.ofInt 0 = 0 ∧ 54 = 53 + 1 := by decide +kernel
theorem c284_54 : mj_Y.code kY 284 54 = some .ireturn ∧ mj_Y.rt kY 284 = some .int := by decide +kernel
theorem c284_55 : mj_Y.code kY 284 55 = some (.iload_n 1) ∧ ((1 : Fin 4) : Nat) = 1 ∧ 56 = 55 + 1 := by decide +kernel
theorem c284_56 : mj_Y.code kY 284 56 = some (.iload_n 2) ∧ ((2 : Fin 4) : Nat) = 2 ∧ 57 = 56 + 1 := by decide +kernel
theorem c284_57 : mj_Y.code kY 284 57 = some (.if_icmp .le 7) ∧ mj_tg 57 7 = some 64 ∧ 60 = 57 + 3 := by decide +kernel
theorem c284_60 : mj_Y.code kY 284 60 = some (.iconst 1) ∧ Int32.ofInt 1 = 1 ∧ 61 = 60 + 1 := by decide +kernel
theorem c284_61 : mj_Y.code kY 284 61 = some (.goto 4) ∧ mj_tg 61 4 = some 65 := by decide +kernel
theorem c284_64 : mj_Y.code kY 284 64 = some (.iconst 0) ∧ Int32.ofInt 0 = 0 ∧ 65 = 64 + 1 := by decide +kernel
theorem c284_65 : mj_Y.code kY 284 65 = some .ireturn ∧ mj_Y.rt kY 284 = some .int := by decide +kernel
theorem c284_66 : mj_Y.code kY 284 66 = some (.iload_n 1) ∧ ((1 : Fin 4) : Nat) = 1 ∧ 67 = 66 + 1 := by decide +kernel
theorem c284_67 : mj_Y.code kY 284 67 = some (.iload_n 2) ∧ ((2 : Fin 4) : Nat) = 2 ∧ 68 = 67 + 1 := by decide +kernel
theorem c284_68 : mj_Y.code kY 284 68 = some (.if_icmp .ne 7) ∧ mj_tg 68 7 = some 75 ∧ 71 = 68 + 3 := by decide +kernel
theorem c284_71 : mj_Y.code kY 284 71 = some (.iconst 1) ∧ Int32.ofInt 1 = 1 ∧ 72 = 71 + 1 := by decide +kernel
theorem c284_72 : mj_Y.code kY 284 72 = some (.goto 4) ∧ mj_tg 72 4 = some 76 := by decide +kernel
theorem c284_75 : mj_Y.code kY 284 75 = some (.iconst 0) ∧ Int32.ofInt 0 = 0 ∧ 76 = 75 + 1 := by decide +kernel
theorem c284_76 : mj_Y.code kY 284 76 = some .ireturn ∧ mj_Y.rt kY 284 = some .int := by decide +kernel
theorem c284_77 : mj_Y.code kY 284 77 = some (.iload_n 1) ∧ ((1 : Fin 4) : Nat) = 1 ∧ 78 = 77 + 1 := by decide +kernel
theorem c284_78 : mj_Y.code kY 284 78 = some (.iload_n 2) ∧ ((2 : Fin 4) : Nat) = 2 ∧ 79 = 78 + 1 := by decide +kernel
theorem c284_79 : mj_Y.code kY 284 79 = some .iadd ∧ 80 = 79 + 1 := by decide +kernel
theorem c284_80 : mj_Y.code kY 284 80 = some .ireturn ∧ mj_Y.rt kY 284 = some .int := by decide +kernel
theorem c284_81 : mj_Y.code kY 284 81 = some (.iload_n 1) ∧ ((1 : Fin 4) : Nat) = 1 ∧ 82 = 81 + 1 := by decide +kernel
theorem c284_82 : mj_Y.code kY 284 82 = some (.iload_n 2) ∧ ((2 : Fin 4) : Nat) = 2 ∧ 83 = 82 + 1 := by decide +kernel
theorem c284_83 : mj_Y.code kY 284 83 = some .isub ∧ 84 = 83 + 1 := by decide +kernel
theorem c284_84 : mj_Y.code kY 284 84 = some .ireturn ∧ mj_Y.rt kY 284 = some .int := by decide +kernel
theorem c284_85 : mj_Y.code kY 284 85 = some (.iload_n 1) ∧ ((1 : Fin 4) : Nat) = 1 ∧ 86 = 85 + 1 := by decide +kernel
theorem c284_86 : mj_Y.code kY 284 86 = some (.iload_n 2) ∧ ((2 : Fin 4) : Nat) = 2 ∧ 87 = 86 + 1 := by decide +kernel
theorem c284_87 : mj_Y.code kY 284 87 = some .imul ∧ 88 = 87 + 1 := by decide +kernel
theorem c284_88 : mj_Y.code kY 284 88 = some .ireturn ∧ mj_Y.rt kY 284 = some .int := by decide +kernel
theorem c284_89 : mj_Y.code kY 284 89 = some (.iload_n 1) ∧ ((1 : Fin 4) : Nat) = 1 ∧ 90 = 89 + 1 := by decide +kernel
theorem c284_90 : mj_Y.code kY 284 90 = some (.iload_n 2) ∧ ((2 : Fin 4) : Nat) = 2 ∧ 91 = 90 + 1 := by decide +kernel
theorem c284_91 : mj_Y.code kY 284 91 = some (.invokestatic 374) ∧ mj_Y.pr kY 284 374 = none ∧ mj_Y.cs kY 284 374 = some (285, 2) ∧ mj_Y.nL kY 285 = 3 ∧ 94 = 91 + 3 := by decide +kernel
theorem c284_94 : mj_Y.code kY 284 94 = some .ireturn ∧ mj_Y.rt kY 284 = some .int := by decide +kernel
theorem c284_95 : mj_Y.code kY 284 95 = some (.iload_n 1) ∧ ((1 : Fin 4) : Nat) = 1 ∧ 96 = 95 + 1 := by decide +kernel
theorem c284_96 : mj_Y.code kY 284 96 = some (.iload_n 2) ∧ ((2 : Fin 4) : Nat) = 2 ∧ 97 = 96 + 1 := by decide +kernel
theorem c284_97 : mj_Y.code kY 284 97 = some (.iload_n 1) ∧ ((1 : Fin 4) : Nat) = 1 ∧ 98 = 97 + 1 := by decide +kernel
theorem c284_98 : mj_Y.code kY 284 98 = some (.iload_n 2) ∧ ((2 : Fin 4) : Nat) = 2 ∧ 99 = 98 + 1 := by decide +kernel
theorem c284_99 : mj_Y.code kY 284 99 = some (.invokestatic 374) ∧ mj_Y.pr kY 284 374 = none ∧ mj_Y.cs kY 284 374 = some (285, 2) ∧ mj_Y.nL kY 285 = 3 ∧ 102 = 99 + 3 := by decide +kernel
theorem c284_102 : mj_Y.code kY 284 102 = some .imul ∧ 103 = 102 + 1 := by decide +kernel
theorem c284_103 : mj_Y.code kY 284 103 = some .isub ∧ 104 = 103 + 1 := by decide +kernel
theorem c284_104 : mj_Y.code kY 284 104 = some .ireturn ∧ mj_Y.rt kY 284 = some .int := by decide +kernel
theorem c285_0 : mj_Y.code kY 285 0 = some (.iload_n 0) ∧ ((0 : Fin 4) : Nat) = 0 ∧ 1 = 0 + 1 := by decide +kernel
theorem c285_1 : mj_Y.code kY 285 1 = some (.iload_n 1) ∧ ((1 : Fin 4) : Nat) = 1 ∧ 2 = 1 + 1 := by decide +kernel
theorem c285_2 : mj_Y.code kY 285 2 = some .idiv ∧ 3 = 2 + 1 := by decide +kernel
theorem c285_3 : mj_Y.code kY 285 3 = some (.istore_n 2) ∧ ((2 : Fin 4) : Nat) = 2 ∧ 2 < mj_Y.nL kY 285 ∧ 4 = 3 + 1 := by decide +kernel
theorem c285_4 : mj_Y.code kY 285 4 = some (.iload_n 0) ∧ ((0 : Fin 4) : Nat) = 0 ∧ 5 = 4 + 1 := by decide +kernel
theorem c285_5 : mj_Y.code kY 285 5 = some (.iload_n 1) ∧ ((1 : Fin 4) : Nat) = 1 ∧ 6 = 5 + 1 := by decide +kernel
theorem c285_6 : mj_Y.code kY 285 6 = some .irem ∧ 7 = 6 + 1 := by decide +kernel
theorem c285_7 : mj_Y.code kY 285 7 = some (.ifCond .eq 30) ∧ mj_tg 7 30 = some 37 ∧ 10 = 7 + 3 := by decide +kernel
theorem c285_10 : mj_Y.code kY 285 10 = some (.iload_n 0) ∧ ((0 : Fin 4) : Nat) = 0 ∧ 11 = 10 + 1 := by decide +kernel
theorem c285_11 : mj_Y.code kY 285 11 = some (.ifCond .ge 7) ∧ mj_tg 11 7 = some 18 ∧ 14 = 11 + 3 := by decide +kernel
theorem c285_14 : mj_Y.code kY 285 14 = some (.iconst 1) ∧ Int32.ofInt 1 = 1 ∧ 15 = 14 + 1 := by decide +kernel
theorem c285_15 : mj_Y.code kY 285 15 = some (.goto 4) ∧ mj_tg 15 4 = some 19 := by decide +kernel
theorem c285_18 : mj_Y.code kY 285 18 = some (.iconst 0) ∧ Int32.ofInt 0 = 0 ∧ 19 = 18 + 1 := by decide +kernel
theorem c285_19 : mj_Y.code kY 285 19 = some (.iload_n 1) ∧ ((1 : Fin 4) : Nat) = 1 ∧ 20 = 19 + 1 := by decide +kernel
theorem c285_20 : mj_Y.code kY 285 20 = some (.ifCond .ge 7) ∧ mj_tg 20 7 = some 27 ∧ 23 = 20 + 3 := by decide +kernel
theorem c285_23 : mj_Y.code kY 285 23 = some (.iconst 1) ∧ Int32.ofInt 1 = 1 ∧ 24 = 23 + 1 := by decide +kernel
theorem c285_24 : mj_Y.code kY 285 24 = some (.goto 4) ∧ mj_tg 24 4 = some 28 := by decide +kernel
theorem c285_27 : mj_Y.code kY 285 27 = some (.iconst 0) ∧ Int32.ofInt 0 = 0 ∧ 28 = 27 + 1 := by decide +kernel
theorem c285_28 : mj_Y.code kY 285 28 = some (.if_icmp .eq 9) ∧ mj_tg 28 9 = some 37 ∧ 31 = 28 + 3 := by decide +kernel
theorem c285_31 : mj_Y.code kY 285 31 = some (.iload_n 2) ∧ ((2 : Fin 4) : Nat) = 2 ∧ 32 = 31 + 1 := by decide +kernel
theorem c285_32 : mj_Y.code kY 285 32 = some (.iconst 1) ∧ Int32.ofInt 1 = 1 ∧ 33 = 32 + 1 := by decide +kernel
theorem c285_33 : mj_Y.code kY 285 33 = some .isub ∧ 34 = 33 + 1 := by decide +kernel
theorem c285_34 : mj_Y.code kY 285 34 = some (.goto 4) ∧ mj_tg 34 4 = some 38 := by decide +kernel
theorem c285_37 : mj_Y.code kY 285 37 = some (.iload_n 2) ∧ ((2 : Fin 4) : Nat) = 2 ∧ 38 = 37 + 1 := by decide +kernel
theorem c285_38 : mj_Y.code kY 285 38 = some .ireturn ∧ mj_Y.rt kY 285 = some .int := by decide +kernel
theorem c286_0 : mj_Y.code kY 286 0 = some (.bipush 24) ∧ (Int8.ofInt 24).toInt32 = 24 ∧ 2 = 0 + 2 := by decide +kernel
theorem c286_2 : mj_Y.code kY 286 2 = some (.iload_n 1) ∧ ((1 : Fin 4) : Nat) = 1 ∧ 3 = 2 + 1 := by decide +kernel
theorem c286_3 : mj_Y.code kY 286 3 = some .imul ∧ 4 = 3 + 1 := by decide +kernel
theorem c286_4 : mj_Y.code kY 286 4 = some (.iload_n 2) ∧ ((2 : Fin 4) : Nat) = 2 ∧ 5 = 4 + 1 := by decide +kernel
theorem c286_5 : mj_Y.code kY 286 5 = some .iadd ∧ 6 = 5 + 1 := by decide +kernel
theorem c286_6 : mj_Y.code kY 286 6 = some (.istore 4) ∧ 4 = 4 ∧ 4 < mj_Y.nL kY 286 ∧ 8 = 6 + 2 := by decide +kernel
theorem c286_8 : mj_Y.code kY 286 8 = some (.aload_n 0) ∧ ((0 : Fin 4) : Nat) = 0 ∧ 9 = 8 + 1 := by decide +kernel
theorem c286_9 : mj_Y.code kY 286 9 = some (.invokevirtual 419) ∧ mj_Y.na kY 286 419 = some 0 ∧ mj_Y.cv kY 286 419 12 = some 273 ∧ mj_Y.nL kY 273 = 1 ∧ 12 = 9 + 3 := by decide +kernel
theorem c286_12 : mj_Y.code kY 286 12 = some (.iconst 0) ∧ Int32.ofInt 0 = 0 ∧ 13 = 12 + 1 := by decide +kernel
theorem c286_13 : mj_Y.code kY 286 13 = some (.istore 5) ∧ 5 = 5 ∧ 5 < mj_Y.nL kY 286 ∧ 15 = 13 + 2 := by decide +kernel
theorem c286_15 : mj_Y.code kY 286 15 = some (.iload 5) ∧ 5 = 5 ∧ 17 = 15 + 2 := by decide +kernel
theorem c286_17 : mj_Y.code kY 286 17 = some (.aload_n 0) ∧ ((0 : Fin 4) : Nat) = 0 ∧ 18 = 17 + 1 := by decide +kernel
theorem c286_18 : mj_Y.code kY 286 18 = some (.getfield 115) ∧ mj_Y.fl kY 286 115 12 = some (49, (.array .int), false) ∧ 21 = 18 + 3 := by decide +kernel
theorem c286_21 : mj_Y.code kY 286 21 = some (.iload_n 3) ∧ ((3 : Fin 4) : Nat) = 3 ∧ 22 = 21 + 1 := by decide +kernel
theorem c286_22 : mj_Y.code kY 286 22 = some .iaload ∧ 23 = 22 + 1 := by decide +kernel
theorem c286_23 : mj_Y.code kY 286 23 = some (.if_icmp .ge 130) ∧ mj_tg 23 130 = some 153 ∧ 26 = 23 + 3 := by decide +kernel
theorem c286_26 : mj_Y.code kY 286 26 = some (.aload_n 0) ∧ ((0 : Fin 4) : Nat) = 0 ∧ 27 = 26 + 1 := by decide +kernel
theorem c286_27 : mj_Y.code kY 286 27 = some (.iload_n 1) ∧ ((1 : Fin 4) : Nat) = 1 ∧ 28 = 27 + 1 := by decide +kernel
theorem c286_28 : mj_Y.code kY 286 28 = some (.iload_n 2) ∧ ((2 : Fin 4) : Nat) = 2 ∧ 29 = 28 + 1 := by decide +kernel
theorem c286_29 : mj_Y.code kY 286 29 = some (.iload_n 3) ∧ ((3 : Fin 4) : Nat) = 3 ∧ 30 = 29 + 1 := by decide +kernel
theorem c286_30 : mj_Y.code kY 286 30 = some (.iload 5) ∧ 5 = 5 ∧ 32 = 30 + 2 := by decide +kernel
theorem c286_32 : mj_Y.code kY 286 32 = some (.invokevirtual 422) ∧ mj_Y.na kY 286 422 = some 4 ∧ mj_Y.cv kY 286 422 12 = some 279 ∧ mj_Y.nL kY 279 = 7 ∧ 35 = 32 + 3 := by decide +kernel
theorem c286_35 : mj_Y.code kY 286 35 = some (.ifCond .ne 5) ∧ mj_tg 35 5 = some 40 ∧ 38 = 35 + 3 := by decide +kernel
theorem c286_38 : mj_Y.code kY 286 38 = some (.iconst 0) ∧ Int32.ofInt 0 = 0 ∧ 39 = 38 + 1 := by decide +kernel
theorem c286_39 : mj_Y.code kY 286 39 = some .ireturn ∧ mj_Y.rt kY 286 = some .boolean := by decide +kernel
theorem c286_40 : mj_Y.code kY 286 40 = some (.iconst 0) ∧ Int32.ofInt 0 = 0 ∧ 41 = 40 + 1 := by decide +kernel
theorem c286_41 : mj_Y.code kY 286 41 = some (.istore 6) ∧ 6 = 6 ∧ 6 < mj_Y.nL kY 286 ∧ 43 = 41 + 2 := by decide +kernel
theorem c286_43 : mj_Y.code kY 286 43 = some (.iload 6) ∧ 6 = 6 ∧ 45 = 43 + 2 := by decide +kernel
theorem c286_45 : mj_Y.code kY 286 45 = some (.aload_n 0) ∧ ((0 : Fin 4) : Nat) = 0 ∧ 46 = 45 + 1 := by decide +kernel
theorem c286_46 : mj_Y.code kY 286 46 = some (.getfield 371) ∧ mj_Y.fl kY 286 371 12 = some (45, .int, true) ∧ 49 = 46 + 3 := by decide +kernel
theorem c286_49 : mj_Y.code kY 286 49 = some (.if_icmp .ge 98) ∧ mj_tg 49 98 = some 147 ∧ 52 = 49 + 3 := by decide +kernel
theorem c286_52 : mj_Y.code kY 286 52 = some (.aload_n 0) ∧ ((0 : Fin 4) : Nat) = 0 ∧ 53 = 52 + 1 := by decide +kernel
theorem c286_53 : mj_Y.code kY 286 53 = some (.getfield 24) ∧ mj_Y.fl kY 286 24 12 = some (6, (.array .int), false) ∧ 56 = 53 + 3 := by decide +kernel
theorem c286_56 : mj_Y.code kY 286 56 = some (.iload 4) ∧ 4 = 4 ∧ 58 = 56 + 2 := by decide +kernel
theorem c286_58 : mj_Y.code kY 286 58 = some .iaload ∧ 59 = 58 + 1 := by decide +kernel
theorem c286_59 : mj_Y.code kY 286 59 = some (.ifCond .eq 13) ∧ mj_tg 59 13 = some 72 ∧ 62 = 59 + 3 := by decide +kernel
theorem c286_62 : mj_Y.code kY 286 62 = some (.aload_n 0) ∧ ((0 : Fin 4) : Nat) = 0 ∧ 63 = 62 + 1 := by decide +kernel
theorem c286_63 : mj_Y.code kY 286 63 = some (.getfield 97) ∧ mj_Y.fl kY 286 97 12 = some (41, (.array .int), false) ∧ 66 = 63 + 3 := by decide +kernel
theorem c286_66 : mj_Y.code kY 286 66 = some (.iload 6) ∧ 6 = 6 ∧ 68 = 66 + 2 := by decide +kernel
theorem c286_68 : mj_Y.code kY 286 68 = some .iaload ∧ 69 = 68 + 1 := by decide +kernel
theorem c286_69 : mj_Y.code kY 286 69 = some (.ifCond .eq 7) ∧ mj_tg 69 7 = some 76 ∧ 72 = 69 + 3 := by decide +kernel
theorem c286_72 : mj_Y.code kY 286 72 = some (.iconst 1) ∧ Int32.ofInt 1 = 1 ∧ 73 = 72 + 1 := by decide +kernel
theorem c286_73 : mj_Y.code kY 286 73 = some (.goto 4) ∧ mj_tg 73 4 = some 77 := by decide +kernel
theorem c286_76 : mj_Y.code kY 286 76 = some (.iconst 0) ∧ Int32.ofInt 0 = 0 ∧ 77 = 76 + 1 := by decide +kernel
theorem c286_77 : mj_Y.code kY 286 77 = some (.istore 7) ∧ 7 = 7 ∧ 7 < mj_Y.nL kY 286 ∧ 79 = 77 + 2 := by decide +kernel
theorem c286_79 : mj_Y.code kY 286 79 = some (.iload 7) ∧ 7 = 7 ∧ 81 = 79 + 2 := by decide +kernel
theorem c286_81 : mj_Y.code kY 286 81 = some (.ifCond .eq 60) ∧ mj_tg 81 60 = some 141 ∧ 84 = 81 + 3 := by decide +kernel
theorem c286_84 : mj_Y.code kY 286 84 = some (.aload_n 0) ∧ ((0 : Fin 4) : Nat) = 0 ∧ 85 = 84 + 1 := by decide +kernel
theorem c286_85 : mj_Y.code kY 286 85 = some (.bipush 9) ∧ (Int8.ofInt 9).toInt32 = 9 ∧ 87 = 85 + 2 := by decide +kernel
theorem c286_87 : mj_Y.code kY 286 87 = some (.iload_n 3) ∧ ((3 : Fin 4) : Nat) = 3 ∧ 88 = 87 + 1 := by decide +kernel
theorem c286_88 : mj_Y.code kY 286 88 = some (.iload 5) ∧ 5 = 5 ∧ 90 = 88 + 2 := by decide +kernel
theorem c286_90 : mj_Y.code kY 286 90 = some (.aload_n 0) ∧ ((0 : Fin 4) : Nat) = 0 ∧ 91 = 90 + 1 := by decide +kernel
theorem c286_91 : mj_Y.code kY 286 91 = some (.getfield 24) ∧ mj_Y.fl kY 286 24 12 = some (6, (.array .int), false) ∧ 94 = 91 + 3 := by decide +kernel
theorem c286_94 : mj_Y.code kY 286 94 = some (.iload 4) ∧ 4 = 4 ∧ 96 = 94 + 2 := by decide +kernel
theorem c286_96 : mj_Y.code kY 286 96 = some .iaload ∧ 97 = 96 + 1 := by decide +kernel
theorem c286_97 : mj_Y.code kY 286 97 = some (.ifCond .ne 13) ∧ mj_tg 97 13 = some 110 ∧ 100 = 97 + 3 := by decide +kernel
theorem c286_100 : mj_Y.code kY 286 100 = some (.aload_n 0) ∧ ((0 : Fin 4) : Nat) = 0 ∧ 101 = 100 + 1 := by decide +kernel
theorem c286_101 : mj_Y.code kY 286 101 = some (.getfield 27) ∧ mj_Y.fl kY 286 27 12 = some (7, (.array .int), false) ∧ 104 = 101 + 3 := by decide +kernel
theorem c286_104 : mj_Y.code kY 286 104 = some (.iload 4) ∧ 4 = 4 ∧ 106 = 104 + 2 := by decide +kernel
theorem c286_106 : mj_Y.code kY 286 106 = some .iaload ∧ 107 = 106 + 1 := by decide +kernel
theorem c286_107 : mj_Y.code kY 286 107 = some (.goto 4) ∧ mj_tg 107 4 = some 111 := by decide +kernel
theorem c286_110 : mj_Y.code kY 286 110 = some (.iconst (-1)) ∧ Int32.ofInt (-1) = (-1) ∧ 111 = 110 + 1 := by decide +kernel
theorem c286_111 : mj_Y.code kY 286 111 = some (.aload_n 0) ∧ ((0 : Fin 4) : Nat) = 0 ∧ 112 = 111 + 1 := by decide +kernel
theorem c286_112 : mj_Y.code kY 286 112 = some (.getfield 97) ∧ mj_Y.fl kY 286 97 12 = some (41, (.array .int), false) ∧ 115 = 112 + 3 := by decide +kernel
theorem c286_115 : mj_Y.code kY 286 115 = some (.iload 6) ∧ 6 = 6 ∧ 117 = 115 + 2 := by decide +kernel
theorem c286_117 : mj_Y.code kY 286 117 = some .iaload ∧ 118 = 117 + 1 := by decide +kernel
theorem c286_118 : mj_Y.code kY 286 118 = some (.aload_n 0) ∧ ((0 : Fin 4) : Nat) = 0 ∧ 119 = 118 + 1 := by decide +kernel
theorem c286_119 : mj_Y.code kY 286 119 = some (.getfield 112) ∧ mj_Y.fl kY 286 112 12 = some (48, (.array .long), false) ∧ 122 = 119 + 3 := by decide +kernel
theorem c286_122 : mj_Y.code kY 286 122 = some (.bipush 64) ∧ (Int8.ofInt 64).toInt32 = 64 ∧ 124 = 122 + 2 := by decide +kernel
theorem c286_124 : mj_Y.code kY 286 124 = some (.iload_n 3) ∧ ((3 : Fin 4) : Nat) = 3 ∧ 125 = 124 + 1 := by decide +kernel
theorem c286_125 : mj_Y.code kY 286 125 = some .imul ∧ 126 = 125 + 1 := by decide +kernel
theorem c286_126 : mj_Y.code kY 286 126 = some (.iload 5) ∧ 5 = 5 ∧ 128 = 126 + 2 := by decide +kernel
theorem c286_128 : mj_Y.code kY 286 128 = some .iadd ∧ 129 = 128 + 1 := by decide +kernel
theorem c286_129 : mj_Y.code kY 286 129 = some .laload ∧ 130 = 129 + 1 := by decide +kernel
theorem c286_130 : mj_Y.code kY 286 130 = some (.aload_n 0) ∧ ((0 : Fin 4) : Nat) = 0 ∧ 131 = 130 + 1 := by decide +kernel
theorem c286_131 : mj_Y.code kY 286 131 = some (.getfield 100) ∧ mj_Y.fl kY 286 100 12 = some (42, (.array .long), false) ∧ 134 = 131 + 3 := by decide +kernel
theorem c286_134 : mj_Y.code kY 286 134 = some (.iload 6) ∧ 6 = 6 ∧ 136 = 134 + 2 := by decide +kernel
theorem c286_136 : mj_Y.code kY 286 136 = some .laload ∧ 137 = 136 + 1 := by decide +kernel
theorem c286_137 : mj_Y.code kY 286 137 = some .lmul ∧ 138 = 137 + 1 := by decide +kernel
theorem c286_138 : mj_Y.code kY 286 138 = some (.invokevirtual 405) ∧ mj_Y.na kY 286 405 = some 6 ∧ mj_Y.cv kY 286 405 12 = some 270 ∧ mj_Y.nL kY 270 = 10 ∧ 141 = 138 + 3 := by decide +kernel
theorem c286_141 : mj_Y.code kY 286 141 = some (.iinc 6 1) ∧ 6 < mj_Y.nL kY 286 ∧ Int32.ofInt 1 = 1 ∧ 144 = 141 + 3 := by decide +kernel
theorem c286_144 : mj_Y.code kY 286 144 = some (.goto (-101)) ∧ mj_tg 144 (-101) = some 43 := by decide +kernel
theorem c286_147 : mj_Y.code kY 286 147 = some (.iinc 5 1) ∧ 5 < mj_Y.nL kY 286 ∧ Int32.ofInt 1 = 1 ∧ 150 = 147 + 3 := by decide +kernel
theorem c286_150 : mj_Y.code kY 286 150 = some (.goto (-135)) ∧ mj_tg 150 (-135) = some 15 := by decide +kernel
theorem c286_153 : mj_Y.code kY 286 153 = some (.aload_n 0) ∧ ((0 : Fin 4) : Nat) = 0 ∧ 154 = 153 + 1 := by decide +kernel
theorem c286_154 : mj_Y.code kY 286 154 = some (.iload_n 3) ∧ ((3 : Fin 4) : Nat) = 3 ∧ 155 = 154 + 1 := by decide +kernel
theorem c286_155 : mj_Y.code kY 286 155 = some (.invokevirtual 425) ∧ mj_Y.na kY 286 425 = some 1 ∧ mj_Y.cv kY 286 425 12 = some 274 ∧ mj_Y.nL kY 274 = 2 ∧ 158 = 155 + 3 := by decide +kernel
theorem c286_158 : mj_Y.code kY 286 158 = some .ireturn ∧ mj_Y.rt kY 286 = some .boolean := by decide +kernel
theorem c287_0 : mj_Y.code kY 287 0 = some (.aload_n 0) ∧ ((0 : Fin 4) : Nat) = 0 ∧ 1 = 0 + 1 := by decide +kernel
theorem c287_1 : mj_Y.code kY 287 1 = some (.getfield 130) ∧ mj_Y.fl kY 287 130 12 = some (58, (.array .int), false) ∧ 4 = 1 + 3 := by decide +kernel
theorem c287_4 : mj_Y.code kY 287 4 = some (.iload_n 1) ∧ ((1 : Fin 4) : Nat) = 1 ∧ 5 = 4 + 1 := by decide +kernel
theorem c287_5 : mj_Y.code kY 287 5 = some (.iconst 0) ∧ Int32.ofInt 0 = 0 ∧ 6 = 5 + 1 := by decide +kernel
theorem c287_6 : mj_Y.code kY 287 6 = some .iastore ∧ 7 = 6 + 1 := by decide +kernel
theorem c287_7 : mj_Y.code kY 287 7 = some (.aload_n 0) ∧ ((0 : Fin 4) : Nat) = 0 ∧ 8 = 7 + 1 := by decide +kernel
theorem c287_8 : mj_Y.code kY 287 8 = some (.getfield 139) ∧ mj_Y.fl kY 287 139 12 = some (61, (.array .long), false) ∧ 11 = 8 + 3 := by decide +kernel
theorem c287_11 : mj_Y.code kY 287 11 = some (.iload_n 1) ∧ ((1 : Fin 4) : Nat) = 1 ∧ 12 = 11 + 1 := by decide +kernel
theorem c287_12 : mj_Y.code kY 287 12 = some (.lconst 0) ∧ Int64.ofNat ((0 : Fin 2) : Nat) = 0 ∧ 13 = 12 + 1 := by decide +kernel
theorem c287_13 : mj_Y.code kY 287 13 = some .lastore ∧ 14 = 13 + 1 := by decide +kernel
theorem c287_14 : mj_Y.code kY 287 14 = some (.sipush (-999)) ∧ (Int16.ofInt (-999)).toInt32 = (-999) ∧ 17 = 14 + 3 := by decide +kernel
theorem c287_17 : mj_Y.code kY 287 17 = some (.istore_n 2) ∧ ((2 : Fin 4) : Nat) = 2 ∧ 2 < mj_Y.nL kY 287 ∧ 18 = 17 + 1 := by decide +kernel
theorem c287_18 : mj_Y.code kY 287 18 = some (.iload_n 2) ∧ ((2 : Fin 4) : Nat) = 2 ∧ 19 = 18 + 1 := by decide +kernel
theorem c287_19 : mj_Y.code kY 287 19 = some (.sipush 999) ∧ (Int16.ofInt 999).toInt32 = 999 ∧ 22 = 19 + 3 := by decide +kernel
theorem c287_22 : mj_Y.code kY 287 22 = some (.if_icmp .gt 109) ∧ mj_tg 22 109 = some 131 ∧ 25 = 22 + 3 := by decide +kernel
theorem c287_25 : mj_Y.code kY 287 25 = some (.lconst 0) ∧ Int64.ofNat ((0 : Fin 2) : Nat) = 0 ∧ 26 = 25 + 1 := by decide +kernel
theorem c287_26 : mj_Y.code kY 287 26 = some (.lstore_n 3) ∧ ((3 : Fin 4) : Nat) = 3 ∧ 3 + 1 < mj_Y.nL kY 287 ∧ 27 = 26 + 1 := by decide +kernel
theorem c287_27 : mj_Y.code kY 287 27 = some (.iconst 0) ∧ Int32.ofInt 0 = 0 ∧ 28 = 27 + 1 := by decide +kernel
theorem c287_28 : mj_Y.code kY 287 28 = some (.istore 5) ∧ 5 = 5 ∧ 5 < mj_Y.nL kY 287 ∧ 30 = 28 + 2 := by decide +kernel
theorem c287_30 : mj_Y.code kY 287 30 = some (.iload 5) ∧ 5 = 5 ∧ 32 = 30 + 2 := by decide +kernel
theorem c287_32 : mj_Y.code kY 287 32 = some (.aload_n 0) ∧ ((0 : Fin 4) : Nat) = 0 ∧ 33 = 32 + 1 := by decide +kernel
theorem c287_33 : mj_Y.code kY 287 33 = some (.getfield 115) ∧ mj_Y.fl kY 287 115 12 = some (49, (.array .int), false) ∧ 36 = 33 + 3 := by decide +kernel
theorem c287_36 : mj_Y.code kY 287 36 = some (.iconst 0) ∧ Int32.ofInt 0 = 0 ∧ 37 = 36 + 1 := by decide +kernel
theorem c287_37 : mj_Y.code kY 287 37 = some .iaload ∧ 38 = 37 + 1 := by decide +kernel
theorem c287_38 : mj_Y.code kY 287 38 = some (.if_icmp .ge 37) ∧ mj_tg 38 37 = some 75 ∧ 41 = 38 + 3 := by decide +kernel
theorem c287_41 : mj_Y.code kY 287 41 = some (.aload_n 0) ∧ ((0 : Fin 4) : Nat) = 0 ∧ 42 = 41 + 1 := by decide +kernel
theorem c287_42 : mj_Y.code kY 287 42 = some (.getfield 109) ∧ mj_Y.fl kY 287 109 12 = some (47, (.array .int), false) ∧ 45 = 42 + 3 := by decide +kernel
theorem c287_45 : mj_Y.code kY 287 45 = some (.bipush 6) ∧ (Int8.ofInt 6).toInt32 = 6 ∧ 47 = 45 + 2 := by decide +kernel
theorem c287_47 : mj_Y.code kY 287 47 = some (.iload 5) ∧ 5 = 5 ∧ 49 = 47 + 2 := by decide +kernel
theorem c287_49 : mj_Y.code kY 287 49 = some .imul ∧ 50 = 49 + 1 := by decide +kernel
theorem c287_50 : mj_Y.code kY 287 50 = some .iaload ∧ 51 = 50 + 1 := by decide +kernel
theorem c287_51 : mj_Y.code kY 287 51 = some (.iload_n 2) ∧ ((2 : Fin 4) : Nat) = 2 ∧ 52 = 51 + 1 := by decide +kernel
theorem c287_52 : mj_Y.code kY 287 52 = some (.if_icmp .ne 15) ∧ mj_tg 52 15 = some 67 ∧ 55 = 52 + 3 := by decide +kernel
theorem c287_55 : mj_Y.code kY 287 55 = some (.lload_n 3) ∧ ((3 : Fin 4) : Nat) = 3 ∧ 56 = 55 + 1 := by decide +kernel
theorem c287_56 : mj_Y.code kY 287 56 = some (.aload_n 0) ∧ ((0 : Fin 4) : Nat) = 0 ∧ 57 = 56 + 1 := by decide +kernel
theorem c287_57 : mj_Y.code kY 287 57 = some (.getfield 112) ∧ mj_Y.fl kY 287 112 12 = some (48, (.array .long), false) ∧ 60 = 57 + 3 := by decide +kernel
theorem c287_60 : mj_Y.code kY 287 60 = some (.iload 5) ∧ 5 = 5 ∧ 62 = 60 + 2 := by decide +kernel
theorem c287_62 : mj_Y.code kY 287 62 = some .laload ∧ 63 = 62 + 1 := by decide +kernel
theorem c287_63 : mj_Y.code kY 287 63 = some .ladd ∧ 64 = 63 + 1 := by decide +kernel
theorem c287_64 : mj_Y.code kY 287 64 = some (.goto 4) ∧ mj_tg 64 4 = some 68 := by decide +kernel
theorem c287_67 : mj_Y.code kY 287 67 = some (.lload_n 3) ∧ ((3 : Fin 4) : Nat) = 3 ∧ 68 = 67 + 1 := by decide +kernel
theorem c287_68 : mj_Y.code kY 287 68 = some (.lstore_n 3) ∧ ((3 : Fin 4) : Nat) = 3 ∧ 3 + 1 < mj_Y.nL kY 287 ∧ 69 = 68 + 1 := by decide +kernel
theorem c287_69 : mj_Y.code kY 287 69 = some (.iinc 5 1) ∧ 5 < mj_Y.nL kY 287 ∧ Int32.ofInt 1 = 1 ∧ 72 = 69 + 3 := by decide +kernel
theorem c287_72 : mj_Y.code kY 287 72 = some (.goto (-42)) ∧ mj_tg 72 (-42) = some 30 := by decide +kernel
theorem c287_75 : mj_Y.code kY 287 75 = some (.lload_n 3) ∧ ((3 : Fin 4) : Nat) = 3 ∧ 76 = 75 + 1 := by decide +kernel
theorem c287_76 : mj_Y.code kY 287 76 = some (.lconst 0) ∧ Int64.ofNat ((0 : Fin 2) : Nat) = 0 ∧ 77 = 76 + 1 := by decide +kernel
theorem c287_77 : mj_Y.code kY 287 77 = some .lcmp ∧ 78 = 77 + 1 := by decide +kernel
theorem c287_78 : mj_Y.code kY 287 78 = some (.ifCond .le 47) ∧ mj_tg 78 47 = some 125 ∧ 81 = 78 + 3 := by decide +kernel
theorem c287_81 : mj_Y.code kY 287 81 = some (.aload_n 0) ∧ ((0 : Fin 4) : Nat) = 0 ∧ 82 = 81 + 1 := by decide +kernel
theorem c287_82 : mj_Y.code kY 287 82 = some (.getfield 133) ∧ mj_Y.fl kY 287 133 12 = some (59, (.array .int), false) ∧ 85 = 82 + 3 := by decide +kernel
theorem c287_85 : mj_Y.code kY 287 85 = some (.bipush 64) ∧ (Int8.ofInt 64).toInt32 = 64 ∧ 87 = 85 + 2 := by decide +kernel
theorem c287_87 : mj_Y.code kY 287 87 = some (.iload_n 1) ∧ ((1 : Fin 4) : Nat) = 1 ∧ 88 = 87 + 1 := by decide +kernel
theorem c287_88 : mj_Y.code kY 287 88 = some .imul ∧ 89 = 88 + 1 := by decide +kernel
theorem c287_89 : mj_Y.code kY 287 89 = some (.aload_n 0) ∧ ((0 : Fin 4) : Nat) = 0 ∧ 90 = 89 + 1 := by decide +kernel
theorem c287_90 : mj_Y.code kY 287 90 = some (.getfield 130) ∧ mj_Y.fl kY 287 130 12 = some (58, (.array .int), false) ∧ 93 = 90 + 3 := by decide +kernel
theorem c287_93 : mj_Y.code kY 287 93 = some (.iload_n 1) ∧ ((1 : Fin 4) : Nat) = 1 ∧ 94 = 93 + 1 := by decide +kernel
theorem c287_94 : mj_Y.code kY 287 94 = some .iaload ∧ 95 = 94 + 1 := by decide +kernel
theorem c287_95 : mj_Y.code kY 287 95 = some .iadd ∧ 96 = 95 + 1 := by decide +kernel
theorem c287_96 : mj_Y.code kY 287 96 = some (.iload_n 2) ∧ ((2 : Fin 4) : Nat) = 2 ∧ 97 = 96 + 1 := by decide +kernel
theorem c287_97 : mj_Y.code kY 287 97 = some .iastore ∧ 98 = 97 + 1 := by decide +kernel
theorem c287_98 : mj_Y.code kY 287 98 = some (.aload_n 0) ∧ ((0 : Fin 4) : Nat) = 0 ∧ 99 = 98 + 1 := by decide +kernel
theorem c287_99 : mj_Y.code kY 287 99 = some (.getfield 136) ∧ mj_Y.fl kY 287 136 12 = some (60, (.array .long), false) ∧ 102 = 99 + 3 := by decide +kernel
theorem c287_102 : mj_Y.code kY 287 102 = some (.bipush 64) ∧ (Int8.ofInt 64).toInt32 = 64 ∧ 104 = 102 + 2 := by decide +kernel
theorem c287_104 : mj_Y.code kY 287 104 = some (.iload_n 1) ∧ ((1 : Fin 4) : Nat) = 1 ∧ 105 = 104 + 1 := by decide +kernel
theorem c287_105 : mj_Y.code kY 287 105 = some .imul ∧ 106 = 105 + 1 := by decide +kernel
theorem c287_106 : mj_Y.code kY 287 106 = some (.aload_n 0) ∧ ((0 : Fin 4) : Nat) = 0 ∧ 107 = 106 + 1 := by decide +kernel
theorem c287_107 : mj_Y.code kY 287 107 = some (.getfield 130) ∧ mj_Y.fl kY 287 130 12 = some (58, (.array .int), false) ∧ 110 = 107 + 3 := by decide +kernel
theorem c287_110 : mj_Y.code kY 287 110 = some (.iload_n 1) ∧ ((1 : Fin 4) : Nat) = 1 ∧ 111 = 110 + 1 := by decide +kernel
theorem c287_111 : mj_Y.code kY 287 111 = some .iaload ∧ 112 = 111 + 1 := by decide +kernel
theorem c287_112 : mj_Y.code kY 287 112 = some .iadd ∧ 113 = 112 + 1 := by decide +kernel
theorem c287_113 : mj_Y.code kY 287 113 = some (.lload_n 3) ∧ ((3 : Fin 4) : Nat) = 3 ∧ 114 = 113 + 1 := by decide +kernel
theorem c287_114 : mj_Y.code kY 287 114 = some .lastore ∧ 115 = 114 + 1 := by decide +kernel
theorem c287_115 : mj_Y.code kY 287 115 = some (.aload_n 0) ∧ ((0 : Fin 4) : Nat) = 0 ∧ 116 = 115 + 1 := by decide +kernel
theorem c287_116 : mj_Y.code kY 287 116 = some (.getfield 130) ∧ mj_Y.fl kY 287 130 12 = some (58, (.array .int), false) ∧ 119 = 116 + 3 := by decide +kernel
theorem c287_119 : mj_Y.code kY 287 119 = some (.iload_n 1) ∧ ((1 : Fin 4) : Nat) = 1 ∧ 120 = 119 + 1 := by decide +kernel
theorem c287_120 : mj_Y.code kY 287 120 = some .dup2 ∧ 121 = 120 + 1 := by decide +kernel
theorem c287_121 : mj_Y.code kY 287 121 = some .iaload ∧ 122 = 121 + 1 := by decide +kernel
theorem c287_122 : mj_Y.code kY 287 122 = some (.iconst 1) ∧ Int32.ofInt 1 = 1 ∧ 123 = 122 + 1 := by decide +kernel
theorem c287_123 : mj_Y.code kY 287 123 = some .iadd ∧ 124 = 123 + 1 := by decide +kernel
theorem c287_124 : mj_Y.code kY 287 124 = some .iastore ∧ 125 = 124 + 1 := by decide +kernel
theorem c287_125 : mj_Y.code kY 287 125 = some (.iinc 2 1) ∧ 2 < mj_Y.nL kY 287 ∧ Int32.ofInt 1 = 1 ∧ 128 = 125 + 3 := by decide +kernel
theorem c287_128 : mj_Y.code kY 287 128 = some (.goto (-110)) ∧ mj_tg 128 (-110) = some 18 := by decide +kernel
theorem c287_131 : mj_Y.code kY 287 131 = some (.lconst 0) ∧ Int64.ofNat ((0 : Fin 2) : Nat) = 0 ∧ 132 = 131 + 1 := by decide +kernel
theorem c287_132 : mj_Y.code kY 287 132 = some (.lstore_n 2) ∧ ((2 : Fin 4) : Nat) = 2 ∧ 2 + 1 < mj_Y.nL kY 287 ∧ 133 = 132 + 1 := by decide +kernel
theorem c287_133 : mj_Y.code kY 287 133 = some (.bipush 64) ∧ (Int8.ofInt 64).toInt32 = 64 ∧ 135 = 133 + 2 := by decide +kernel
theorem c287_135 : mj_Y.code kY 287 135 = some (.iload_n 1) ∧ ((1 : Fin 4) : Nat) = 1 ∧ 136 = 135 + 1 := by decide +kernel
theorem c287_136 : mj_Y.code kY 287 136 = some .imul ∧ 137 = 136 + 1 := by decide +kernel
theorem c287_137 : mj_Y.code kY 287 137 = some (.istore 4) ∧ 4 = 4 ∧ 4 < mj_Y.nL kY 287 ∧ 139 = 137 + 2 := by decide +kernel
theorem c287_139 : mj_Y.code kY 287 139 = some (.iload 4) ∧ 4 = 4 ∧ 141 = 139 + 2 := by decide +kernel
theorem c287_141 : mj_Y.code kY 287 141 = some (.bipush 64) ∧ (Int8.ofInt 64).toInt32 = 64 ∧ 143 = 141 + 2 := by decide +kernel
theorem c287_143 : mj_Y.code kY 287 143 = some (.iload_n 1) ∧ ((1 : Fin 4) : Nat) = 1 ∧ 144 = 143 + 1 := by decide +kernel
theorem c287_144 : mj_Y.code kY 287 144 = some .imul ∧ 145 = 144 + 1 := by decide +kernel
theorem c287_145 : mj_Y.code kY 287 145 = some (.aload_n 0) ∧ ((0 : Fin 4) : Nat) = 0 ∧ 146 = 145 + 1 := by decide +kernel
theorem c287_146 : mj_Y.code kY 287 146 = some (.getfield 130) ∧ mj_Y.fl kY 287 130 12 = some (58, (.array .int), false) ∧ 149 = 146 + 3 := by decide +kernel
theorem c287_149 : mj_Y.code kY 287 149 = some (.iload_n 1) ∧ ((1 : Fin 4) : Nat) = 1 ∧ 150 = 149 + 1 := by decide +kernel
theorem c287_150 : mj_Y.code kY 287 150 = some .iaload ∧ 151 = 150 + 1 := by decide +kernel
theorem c287_151 : mj_Y.code kY 287 151 = some .iadd ∧ 152 = 151 + 1 := by decide +kernel
theorem c287_152 : mj_Y.code kY 287 152 = some (.if_icmp .ge 21) ∧ mj_tg 152 21 = some 173 ∧ 155 = 152 + 3 := by decide +kernel
theorem c287_155 : mj_Y.code kY 287 155 = some (.aload_n 0) ∧ ((0 : Fin 4) : Nat) = 0 ∧ 156 = 155 + 1 := by decide +kernel
theorem c287_156 : mj_Y.code kY 287 156 = some (.getfield 136) ∧ mj_Y.fl kY 287 136 12 = some (60, (.array .long), false) ∧ 159 = 156 + 3 := by decide +kernel
theorem c287_159 : mj_Y.code kY 287 159 = some (.iload 4) ∧ 4 = 4 ∧ 161 = 159 + 2 := by decide +kernel
theorem c287_161 : mj_Y.code kY 287 161 = some .laload ∧ 162 = 161 + 1 := by decide +kernel
theorem c287_162 : mj_Y.code kY 287 162 = some (.lload_n 2) ∧ ((2 : Fin 4) : Nat) = 2 ∧ 163 = 162 + 1 := by decide +kernel
theorem c287_163 : mj_Y.code kY 287 163 = some (.invokestatic 284) ∧ mj_Y.pr kY 287 284 = none ∧ mj_Y.cs kY 287 284 = some (241, 2) ∧ mj_Y.nL kY 241 = 10 ∧ 166 = 163 + 3 := by decide +kernel
theorem c287_166 : mj_Y.code kY 287 166 = some (.lstore_n 2) ∧ ((2 : Fin 4) : Nat) = 2 ∧ 2 + 1 < mj_Y.nL kY 287 ∧ 167 = 166 + 1 := by decide +kernel
theorem c287_167 : mj_Y.code kY 287 167 = some (.iinc 4 1) ∧ 4 < mj_Y.nL kY 287 ∧ Int32.ofInt 1 = 1 ∧ 170 = 167 + 3 := by decide +kernel
theorem c287_170 : mj_Y.code kY 287 170 = some (.goto (-31)) ∧ mj_tg 170 (-31) = some 139 := by decide +kernel
theorem c287_173 : mj_Y.code kY 287 173 = some (.bipush 64) ∧ (Int8.ofInt 64).toInt32 = 64 ∧ 175 = 173 + 2 := by decide +kernel
theorem c287_175 : mj_Y.code kY 287 175 = some (.iload_n 1) ∧ ((1 : Fin 4) : Nat) = 1 ∧ 176 = 175 + 1 := by decide +kernel
theorem c287_176 : mj_Y.code kY 287 176 = some .imul ∧ 177 = 176 + 1 := by decide +kernel
theorem c287_177 : mj_Y.code kY 287 177 = some (.istore 4) ∧ 4 = 4 ∧ 4 < mj_Y.nL kY 287 ∧ 179 = 177 + 2 := by decide +kernel
theorem c287_179 : mj_Y.code kY 287 179 = some (.iload 4) ∧ 4 = 4 ∧ 181 = 179 + 2 := by decide +kernel
theorem c287_181 : mj_Y.code kY 287 181 = some (.bipush 64) ∧ (Int8.ofInt 64).toInt32 = 64 ∧ 183 = 181 + 2 := by decide +kernel
theorem c287_183 : mj_Y.code kY 287 183 = some (.iload_n 1) ∧ ((1 : Fin 4) : Nat) = 1 ∧ 184 = 183 + 1 := by decide +kernel
theorem c287_184 : mj_Y.code kY 287 184 = some .imul ∧ 185 = 184 + 1 := by decide +kernel
theorem c287_185 : mj_Y.code kY 287 185 = some (.aload_n 0) ∧ ((0 : Fin 4) : Nat) = 0 ∧ 186 = 185 + 1 := by decide +kernel
theorem c287_186 : mj_Y.code kY 287 186 = some (.getfield 130) ∧ mj_Y.fl kY 287 130 12 = some (58, (.array .int), false) ∧ 189 = 186 + 3 := by decide +kernel
theorem c287_189 : mj_Y.code kY 287 189 = some (.iload_n 1) ∧ ((1 : Fin 4) : Nat) = 1 ∧ 190 = 189 + 1 := by decide +kernel
theorem c287_190 : mj_Y.code kY 287 190 = some .iaload ∧ 191 = 190 + 1 := by decide +kernel
theorem c287_191 : mj_Y.code kY 287 191 = some .iadd ∧ 192 = 191 + 1 := by decide +kernel
theorem c287_192 : mj_Y.code kY 287 192 = some (.if_icmp .ge 45) ∧ mj_tg 192 45 = some 237 ∧ 195 = 192 + 3 := by decide +kernel
theorem c287_195 : mj_Y.code kY 287 195 = some (.aload_n 0) ∧ ((0 : Fin 4) : Nat) = 0 ∧ 196 = 195 + 1 := by decide +kernel
theorem c287_196 : mj_Y.code kY 287 196 = some (.getfield 136) ∧ mj_Y.fl kY 287 136 12 = some (60, (.array .long), false) ∧ 199 = 196 + 3 := by decide +kernel
theorem c287_199 : mj_Y.code kY 287 199 = some (.iload 4) ∧ 4 = 4 ∧ 201 = 199 + 2 := by decide +kernel
theorem c287_201 : mj_Y.code kY 287 201 = some (.aload_n 0) ∧ ((0 : Fin 4) : Nat) = 0 ∧ 202 = 201 + 1 := by decide +kernel
theorem c287_202 : mj_Y.code kY 287 202 = some (.getfield 136) ∧ mj_Y.fl kY 287 136 12 = some (60, (.array .long), false) ∧ 205 = 202 + 3 := by decide +kernel
theorem c287_205 : mj_Y.code kY 287 205 = some (.iload 4) ∧ 4 = 4 ∧ 207 = 205 + 2 := by decide +kernel
theorem c287_207 : mj_Y.code kY 287 207 = some .laload ∧ 208 = 207 + 1 := by decide +kernel
theorem c287_208 : mj_Y.code kY 287 208 = some (.lload_n 2) ∧ ((2 : Fin 4) : Nat) = 2 ∧ 209 = 208 + 1 := by decide +kernel
theorem c287_209 : mj_Y.code kY 287 209 = some .ldiv ∧ 210 = 209 + 1 := by decide +kernel
theorem c287_210 : mj_Y.code kY 287 210 = some .lastore ∧ 211 = 210 + 1 := by decide +kernel
theorem c287_211 : mj_Y.code kY 287 211 = some (.aload_n 0) ∧ ((0 : Fin 4) : Nat) = 0 ∧ 212 = 211 + 1 := by decide +kernel
theorem c287_212 : mj_Y.code kY 287 212 = some (.getfield 139) ∧ mj_Y.fl kY 287 139 12 = some (61, (.array .long), false) ∧ 215 = 212 + 3 := by decide +kernel
theorem c287_215 : mj_Y.code kY 287 215 = some (.iload_n 1) ∧ ((1 : Fin 4) : Nat) = 1 ∧ 216 = 215 + 1 := by decide +kernel
theorem c287_216 : mj_Y.code kY 287 216 = some (.aload_n 0) ∧ ((0 : Fin 4) : Nat) = 0 ∧ 217 = 216 + 1 := by decide +kernel
theorem c287_217 : mj_Y.code kY 287 217 = some (.getfield 139) ∧ mj_Y.fl kY 287 139 12 = some (61, (.array .long), false) ∧ 220 = 217 + 3 := by decide +kernel
theorem c287_220 : mj_Y.code kY 287 220 = some (.iload_n 1) ∧ ((1 : Fin 4) : Nat) = 1 ∧ 221 = 220 + 1 := by decide +kernel
theorem c287_221 : mj_Y.code kY 287 221 = some .laload ∧ 222 = 221 + 1 := by decide +kernel
theorem c287_222 : mj_Y.code kY 287 222 = some (.aload_n 0) ∧ ((0 : Fin 4) : Nat) = 0 ∧ 223 = 222 + 1 := by decide +kernel
theorem c287_223 : mj_Y.code kY 287 223 = some (.getfield 136) ∧ mj_Y.fl kY 287 136 12 = some (60, (.array .long), false) ∧ 226 = 223 + 3 := by decide +kernel
theorem c287_226 : mj_Y.code kY 287 226 = some (.iload 4) ∧ 4 = 4 ∧ 228 = 226 + 2 := by decide +kernel
theorem c287_228 : mj_Y.code kY 287 228 = some .laload ∧ 229 = 228 + 1 := by decide +kernel
theorem c287_229 : mj_Y.code kY 287 229 = some .ladd ∧ 230 = 229 + 1 := by decide +kernel
theorem c287_230 : mj_Y.code kY 287 230 = some .lastore ∧ 231 = 230 + 1 := by decide +kernel
theorem c287_231 : mj_Y.code kY 287 231 = some (.iinc 4 1) ∧ 4 < mj_Y.nL kY 287 ∧ Int32.ofInt 1 = 1 ∧ 234 = 231 + 3 := by decide +kernel
theorem c287_234 : mj_Y.code kY 287 234 = some (.goto (-55)) ∧ mj_tg 234 (-55) = some 179 := by decide +kernel
theorem c287_237 : mj_Y.code kY 287 237 = some (.aload_n 0) ∧ ((0 : Fin 4) : Nat) = 0 ∧ 238 = 237 + 1 := by decide +kernel
theorem c287_238 : mj_Y.code kY 287 238 = some (.getfield 127) ∧ mj_Y.fl kY 287 127 12 = some (57, (.array .boolean), false) ∧ 241 = 238 + 3 := by decide +kernel
theorem c287_241 : mj_Y.code kY 287 241 = some (.iload_n 1) ∧ ((1 : Fin 4) : Nat) = 1 ∧ 242 = 241 + 1 := by decide +kernel
theorem c287_242 : mj_Y.code kY 287 242 = some (.iconst 1) ∧ Int32.ofInt 1 = 1 ∧ 243 = 242 + 1 := by decide +kernel
theorem c287_243 : mj_Y.code kY 287 243 = some .bastore ∧ 244 = 243 + 1 := by decide +kernel
theorem c287_244 : mj_Y.code kY 287 244 = some .return_ ∧ mj_Y.rt kY 287 = none := by decide +kernel
theorem c288_0 : mj_Y.code kY 288 0 = some (.aload_n 0) ∧ ((0 : Fin 4) : Nat) = 0 ∧ 1 = 0 + 1 := by decide +kernel
theorem c288_1 : mj_Y.code kY 288 1 = some (.iconst 0) ∧ Int32.ofInt 0 = 0 ∧ 2 = 1 + 1 := by decide +kernel
theorem c288_2 : mj_Y.code kY 288 2 = some (.putfield 142) ∧ mj_Y.fl kY 288 142 12 = some (0, .int, true) ∧ 5 = 2 + 3 := by decide +kernel
theorem c288_5 : mj_Y.code kY 288 5 = some (.aload_n 0) ∧ ((0 : Fin 4) : Nat) = 0 ∧ 6 = 5 + 1 := by decide +kernel
theorem c288_6 : mj_Y.code kY 288 6 = some (.getfield 413) ∧ mj_Y.fl kY 288 413 12 = some (52, .int, true) ∧ 9 = 6 + 3 := by decide +kernel
theorem c288_9 : mj_Y.code kY 288 9 = some .ireturn ∧ mj_Y.rt kY 288 = some .int := by decide +kernel
theorem c289_0 : mj_Y.code kY 289 0 = some (.aload_n 0) ∧ ((0 : Fin 4) : Nat) = 0 ∧ 1 = 0 + 1 := by decide +kernel
theorem c289_1 : mj_Y.code kY 289 1 = some (.aload_n 0) ∧ ((0 : Fin 4) : Nat) = 0 ∧ 2 = 1 + 1 := by decide +kernel
theorem c289_2 : mj_Y.code kY 289 2 = some (.iload_n 1) ∧ ((1 : Fin 4) : Nat) = 1 ∧ 3 = 2 + 1 := by decide +kernel
theorem c289_3 : mj_Y.code kY 289 3 = some (.invokevirtual 462) ∧ mj_Y.na kY 289 462 = some 1 ∧ mj_Y.cv kY 289 462 12 = some 290 ∧ mj_Y.nL kY 290 = 2 ∧ 6 = 3 + 3 := by decide +kernel
theorem c289_6 : mj_Y.code kY 289 6 = some (.putfield 142) ∧ mj_Y.fl kY 289 142 12 = some (0, .int, true) ∧ 9 = 6 + 3 := by decide +kernel
theorem c289_9 : mj_Y.code kY 289 9 = some (.aload_n 0) ∧ ((0 : Fin 4) : Nat) = 0 ∧ 10 = 9 + 1 := by decide +kernel
theorem c289_10 : mj_Y.code kY 289 10 = some (.getfield 142) ∧ mj_Y.fl kY 289 142 12 = some (0, .int, true) ∧ 13 = 10 + 3 := by decide +kernel
theorem c289_13 : mj_Y.code kY 289 13 = some (.ifCond .le 7) ∧ mj_tg 13 7 = some 20 ∧ 16 = 13 + 3 := by decide +kernel
theorem c289_16 : mj_Y.code kY 289 16 = some (.iconst 0) ∧ Int32.ofInt 0 = 0 ∧ 17 = 16 + 1 := by decide +kernel
theorem c289_17 : mj_Y.code kY 289 17 = some (.goto 9) ∧ mj_tg 17 9 = some 26 := by decide +kernel
theorem c289_20 : mj_Y.code kY 289 20 = some (.aload_n 0) ∧ ((0 : Fin 4) : Nat) = 0 ∧ 21 = 20 + 1 := by decide +kernel
theorem c289_21 : mj_Y.code kY 289 21 = some (.getfield 130) ∧ mj_Y.fl kY 289 130 12 = some (58, (.array .int), false) ∧ 24 = 21 + 3 := by decide +kernel
theorem c289_24 : mj_Y.code kY 289 24 = some (.iload_n 1) ∧ ((1 : Fin 4) : Nat) = 1 ∧ 25 = 24 + 1 := by decide +kernel
theorem c289_25 : mj_Y.code kY 289 25 = some .iaload ∧ 26 = 25 + 1 := by decide +kernel
theorem c289_26 : mj_Y.code kY 289 26 = some .ireturn ∧ mj_Y.rt kY 289 = some .int := by decide +kernel
