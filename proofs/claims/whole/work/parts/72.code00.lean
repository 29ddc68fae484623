theorem c203_0 : mj_Y.code kY 203 0 = some (.aload_n 0) ∧ ((0 : Fin 4) : Nat) = 0 ∧ 1 = 0 + 1 := by decide +kernel
theorem c203_1 : mj_Y.code kY 203 1 = some (.getfield 142) ∧ mj_Y.fl kY 203 142 12 = some (0, .int, true) ∧ 4 = 1 + 3 := by decide +kernel
theorem c203_4 : mj_Y.code kY 203 4 = some .ireturn ∧ mj_Y.rt kY 203 = some .int := by decide +kernel
theorem c204_0 : mj_Y.code kY 204 0 = some (.aload_n 0) ∧ ((0 : Fin 4) : Nat) = 0 ∧ 1 = 0 + 1 := by decide +kernel
theorem c204_1 : mj_Y.code kY 204 1 = some (.iconst 0) ∧ Int32.ofInt 0 = 0 ∧ 2 = 1 + 1 := by decide +kernel
theorem c204_2 : mj_Y.code kY 204 2 = some (.putfield 142) ∧ mj_Y.fl kY 204 142 12 = some (0, .int, true) ∧ 5 = 2 + 3 := by decide +kernel
theorem c204_5 : mj_Y.code kY 204 5 = some (.iload_n 3) ∧ ((3 : Fin 4) : Nat) = 3 ∧ 6 = 5 + 1 := by decide +kernel
theorem c204_6 : mj_Y.code kY 204 6 = some (.iconst 1) ∧ Int32.ofInt 1 = 1 ∧ 7 = 6 + 1 := by decide +kernel
theorem c204_7 : mj_Y.code kY 204 7 = some (.bipush 8) ∧ (Int8.ofInt 8).toInt32 = 8 ∧ 9 = 7 + 2 := by decide +kernel
theorem c204_9 : mj_Y.code kY 204 9 = some (.invokestatic 145) ∧ mj_Y.pr kY 204 145 = none ∧ mj_Y.cs kY 204 145 = some (205, 3) ∧ mj_Y.nL kY 205 = 3 ∧ 12 = 9 + 3 := by decide +kernel
theorem c204_12 : mj_Y.code kY 204 12 = some (.ifCond .eq 15) ∧ mj_tg 12 15 = some 27 ∧ 15 = 12 + 3 := by decide +kernel
theorem c204_15 : mj_Y.code kY 204 15 = some (.aload_n 0) ∧ ((0 : Fin 4) : Nat) = 0 ∧ 16 = 15 + 1 := by decide +kernel
theorem c204_16 : mj_Y.code kY 204 16 = some (.getfield 149) ∧ mj_Y.fl kY 204 149 12 = some (2, .int, true) ∧ 19 = 16 + 3 := by decide +kernel
theorem c204_19 : mj_Y.code kY 204 19 = some (.iload_n 3) ∧ ((3 : Fin 4) : Nat) = 3 ∧ 20 = 19 + 1 := by decide +kernel
theorem c204_20 : mj_Y.code kY 204 20 = some .iadd ∧ 21 = 20 + 1 := by decide +kernel
theorem c204_21 : mj_Y.code kY 204 21 = some (.sipush 160) ∧ (Int16.ofInt 160).toInt32 = 160 ∧ 24 = 21 + 3 := by decide +kernel
theorem c204_24 : mj_Y.code kY 204 24 = some (.if_icmp .le 7) ∧ mj_tg 24 7 = some 31 ∧ 27 = 24 + 3 := by decide +kernel
theorem c204_27 : mj_Y.code kY 204 27 = some (.sipush (-1000)) ∧ (Int16.ofInt (-1000)).toInt32 = (-1000) ∧ 30 = 27 + 3 := by decide +kernel
theorem c204_30 : mj_Y.code kY 204 30 = some .ireturn ∧ mj_Y.rt kY 204 = some .int := by decide +kernel
theorem c204_31 : mj_Y.code kY 204 31 = some (.iconst 0) ∧ Int32.ofInt 0 = 0 ∧ 32 = 31 + 1 := by decide +kernel
theorem c204_32 : mj_Y.code kY 204 32 = some (.istore 4) ∧ 4 = 4 ∧ 4 < mj_Y.nL kY 204 ∧ 34 = 32 + 2 := by decide +kernel
theorem c204_34 : mj_Y.code kY 204 34 = some (.iload 4) ∧ 4 = 4 ∧ 36 = 34 + 2 := by decide +kernel
theorem c204_36 : mj_Y.code kY 204 36 = some (.iload_n 3) ∧ ((3 : Fin 4) : Nat) = 3 ∧ 37 = 36 + 1 := by decide +kernel
theorem c204_37 : mj_Y.code kY 204 37 = some (.if_icmp .ge 44) ∧ mj_tg 37 44 = some 81 ∧ 40 = 37 + 3 := by decide +kernel
theorem c204_40 : mj_Y.code kY 204 40 = some (.lload_n 1) ∧ ((1 : Fin 4) : Nat) = 1 ∧ 41 = 40 + 1 := by decide +kernel
theorem c204_41 : mj_Y.code kY 204 41 = some (.bipush 8) ∧ (Int8.ofInt 8).toInt32 = 8 ∧ 43 = 41 + 2 := by decide +kernel
theorem c204_43 : mj_Y.code kY 204 43 = some (.iload 4) ∧ 4 = 4 ∧ 45 = 43 + 2 := by decide +kernel
theorem c204_45 : mj_Y.code kY 204 45 = some .imul ∧ 46 = 45 + 1 := by decide +kernel
theorem c204_46 : mj_Y.code kY 204 46 = some .lshr ∧ 47 = 46 + 1 := by decide +kernel
theorem c204_47 : mj_Y.code kY 204 47 = some (.ldc2_w 152) ∧ mj_Y.ck kY 204 152 = some (.long 255) ∧ 50 = 47 + 3 := by decide +kernel
theorem c204_50 : mj_Y.code kY 204 50 = some .land ∧ 51 = 50 + 1 := by decide +kernel
theorem c204_51 : mj_Y.code kY 204 51 = some (.lstore 5) ∧ 5 = 5 ∧ 5 + 1 < mj_Y.nL kY 204 ∧ 53 = 51 + 2 := by decide +kernel
theorem c204_53 : mj_Y.code kY 204 53 = some (.lload 5) ∧ 5 = 5 ∧ 55 = 53 + 2 := by decide +kernel
theorem c204_55 : mj_Y.code kY 204 55 = some (.ldc2_w 154) ∧ mj_Y.ck kY 204 154 = some (.long 33) ∧ 58 = 55 + 3 := by decide +kernel
theorem c204_58 : mj_Y.code kY 204 58 = some .lcmp ∧ 59 = 58 + 1 := by decide +kernel
theorem c204_59 : mj_Y.code kY 204 59 = some (.ifCond .lt 12) ∧ mj_tg 59 12 = some 71 ∧ 62 = 59 + 3 := by decide +kernel
theorem c204_62 : mj_Y.code kY 204 62 = some (.lload 5) ∧ 5 = 5 ∧ 64 = 62 + 2 := by decide +kernel
theorem c204_64 : mj_Y.code kY 204 64 = some (.ldc2_w 156) ∧ mj_Y.ck kY 204 156 = some (.long 126) ∧ 67 = 64 + 3 := by decide +kernel
theorem c204_67 : mj_Y.code kY 204 67 = some .lcmp ∧ 68 = 67 + 1 := by decide +kernel
theorem c204_68 : mj_Y.code kY 204 68 = some (.ifCond .le 7) ∧ mj_tg 68 7 = some 75 ∧ 71 = 68 + 3 := by decide +kernel
theorem c204_71 : mj_Y.code kY 204 71 = some (.sipush (-1000)) ∧ (Int16.ofInt (-1000)).toInt32 = (-1000) ∧ 74 = 71 + 3 := by decide +kernel
theorem c204_74 : mj_Y.code kY 204 74 = some .ireturn ∧ mj_Y.rt kY 204 = some .int := by decide +kernel
theorem c204_75 : mj_Y.code kY 204 75 = some (.iinc 4 1) ∧ 4 < mj_Y.nL kY 204 ∧ Int32.ofInt 1 = 1 ∧ 78 = 75 + 3 := by decide +kernel
theorem c204_78 : mj_Y.code kY 204 78 = some (.goto (-44)) ∧ mj_tg 78 (-44) = some 34 := by decide +kernel
theorem c204_81 : mj_Y.code kY 204 81 = some (.iload_n 3) ∧ ((3 : Fin 4) : Nat) = 3 ∧ 82 = 81 + 1 := by decide +kernel
theorem c204_82 : mj_Y.code kY 204 82 = some (.iconst 1) ∧ Int32.ofInt 1 = 1 ∧ 83 = 82 + 1 := by decide +kernel
theorem c204_83 : mj_Y.code kY 204 83 = some .isub ∧ 84 = 83 + 1 := by decide +kernel
theorem c204_84 : mj_Y.code kY 204 84 = some (.istore 4) ∧ 4 = 4 ∧ 4 < mj_Y.nL kY 204 ∧ 86 = 84 + 2 := by decide +kernel
theorem c204_86 : mj_Y.code kY 204 86 = some (.iload 4) ∧ 4 = 4 ∧ 88 = 86 + 2 := by decide +kernel
theorem c204_88 : mj_Y.code kY 204 88 = some (.ifCond .lt 25) ∧ mj_tg 88 25 = some 113 ∧ 91 = 88 + 3 := by decide +kernel
theorem c204_91 : mj_Y.code kY 204 91 = some (.aload_n 0) ∧ ((0 : Fin 4) : Nat) = 0 ∧ 92 = 91 + 1 := by decide +kernel
theorem c204_92 : mj_Y.code kY 204 92 = some (.lload_n 1) ∧ ((1 : Fin 4) : Nat) = 1 ∧ 93 = 92 + 1 := by decide +kernel
theorem c204_93 : mj_Y.code kY 204 93 = some (.bipush 8) ∧ (Int8.ofInt 8).toInt32 = 8 ∧ 95 = 93 + 2 := by decide +kernel
theorem c204_95 : mj_Y.code kY 204 95 = some (.iload 4) ∧ 4 = 4 ∧ 97 = 95 + 2 := by decide +kernel
theorem c204_97 : mj_Y.code kY 204 97 = some .imul ∧ 98 = 97 + 1 := by decide +kernel
theorem c204_98 : mj_Y.code kY 204 98 = some .lshr ∧ 99 = 98 + 1 := by decide +kernel
theorem c204_99 : mj_Y.code kY 204 99 = some (.ldc2_w 152) ∧ mj_Y.ck kY 204 152 = some (.long 255) ∧ 102 = 99 + 3 := by decide +kernel
theorem c204_102 : mj_Y.code kY 204 102 = some .land ∧ 103 = 102 + 1 := by decide +kernel
theorem c204_103 : mj_Y.code kY 204 103 = some .l2i ∧ 104 = 103 + 1 := by decide +kernel
theorem c204_104 : mj_Y.code kY 204 104 = some (.invokevirtual 158) ∧ mj_Y.na kY 204 158 = some 1 ∧ mj_Y.cv kY 204 158 12 = some 206 ∧ mj_Y.nL kY 206 = 2 ∧ 107 = 104 + 3 := by decide +kernel
theorem c204_107 : mj_Y.code kY 204 107 = some (.iinc 4 (-1)) ∧ 4 < mj_Y.nL kY 204 ∧ Int32.ofInt (-1) = (-1) ∧ 110 = 107 + 3 := by decide +kernel
theorem c204_110 : mj_Y.code kY 204 110 = some (.goto (-24)) ∧ mj_tg 110 (-24) = some 86 := by decide +kernel
theorem c204_113 : mj_Y.code kY 204 113 = some (.aload_n 0) ∧ ((0 : Fin 4) : Nat) = 0 ∧ 114 = 113 + 1 := by decide +kernel
theorem c204_114 : mj_Y.code kY 204 114 = some (.getfield 149) ∧ mj_Y.fl kY 204 149 12 = some (2, .int, true) ∧ 117 = 114 + 3 := by decide +kernel
theorem c204_117 : mj_Y.code kY 204 117 = some .ireturn ∧ mj_Y.rt kY 204 = some .int := by decide +kernel
theorem c205_0 : mj_Y.code kY 205 0 = some (.iload_n 0) ∧ ((0 : Fin 4) : Nat) = 0 ∧ 1 = 0 + 1 := by decide +kernel
theorem c205_1 : mj_Y.code kY 205 1 = some (.iload_n 1) ∧ ((1 : Fin 4) : Nat) = 1 ∧ 2 = 1 + 1 := by decide +kernel
theorem c205_2 : mj_Y.code kY 205 2 = some (.if_icmp .lt 12) ∧ mj_tg 2 12 = some 14 ∧ 5 = 2 + 3 := by decide +kernel
theorem c205_5 : mj_Y.code kY 205 5 = some (.iload_n 0) ∧ ((0 : Fin 4) : Nat) = 0 ∧ 6 = 5 + 1 := by decide +kernel
theorem c205_6 : mj_Y.code kY 205 6 = some (.iload_n 2) ∧ ((2 : Fin 4) : Nat) = 2 ∧ 7 = 6 + 1 := by decide +kernel
theorem c205_7 : mj_Y.code kY 205 7 = some (.if_icmp .gt 7) ∧ mj_tg 7 7 = some 14 ∧ 10 = 7 + 3 := by decide +kernel
theorem c205_10 : mj_Y.code kY 205 10 = some (.iconst 1) ∧ Int32.ofInt 1 = 1 ∧ 11 = 10 + 1 := by decide +kernel
theorem c205_11 : mj_Y.code kY 205 11 = some (.goto 4) ∧ mj_tg 11 4 = some 15 := by decide +kernel
theorem c205_14 : mj_Y.code kY 205 14 = some (.iconst 0) ∧ Int32.ofInt 0 = 0 ∧ 15 = 14 + 1 := by decide +kernel
theorem c205_15 : mj_Y.code kY 205 15 = some .ireturn ∧ mj_Y.rt kY 205 = some .boolean := by decide +kernel
theorem c206_0 : mj_Y.code kY 206 0 = some (.aload_n 0) ∧ ((0 : Fin 4) : Nat) = 0 ∧ 1 = 0 + 1 := by decide +kernel
theorem c206_1 : mj_Y.code kY 206 1 = some (.getfield 7) ∧ mj_Y.fl kY 206 7 12 = some (1, (.array .int), false) ∧ 4 = 1 + 3 := by decide +kernel
theorem c206_4 : mj_Y.code kY 206 4 = some (.aload_n 0) ∧ ((0 : Fin 4) : Nat) = 0 ∧ 5 = 4 + 1 := by decide +kernel
theorem c206_5 : mj_Y.code kY 206 5 = some (.getfield 149) ∧ mj_Y.fl kY 206 149 12 = some (2, .int, true) ∧ 8 = 5 + 3 := by decide +kernel
theorem c206_8 : mj_Y.code kY 206 8 = some (.iload_n 1) ∧ ((1 : Fin 4) : Nat) = 1 ∧ 9 = 8 + 1 := by decide +kernel
theorem c206_9 : mj_Y.code kY 206 9 = some .iastore ∧ 10 = 9 + 1 := by decide +kernel
theorem c206_10 : mj_Y.code kY 206 10 = some (.aload_n 0) ∧ ((0 : Fin 4) : Nat) = 0 ∧ 11 = 10 + 1 := by decide +kernel
theorem c206_11 : mj_Y.code kY 206 11 = some .dup ∧ 12 = 11 + 1 := by decide +kernel
theorem c206_12 : mj_Y.code kY 206 12 = some (.getfield 149) ∧ mj_Y.fl kY 206 149 12 = some (2, .int, true) ∧ 15 = 12 + 3 := by decide +kernel
theorem c206_15 : mj_Y.code kY 206 15 = some (.iconst 1) ∧ Int32.ofInt 1 = 1 ∧ 16 = 15 + 1 := by decide +kernel
theorem c206_16 : mj_Y.code kY 206 16 = some .iadd ∧ 17 = 16 + 1 := by decide +kernel
theorem c206_17 : mj_Y.code kY 206 17 = some (.putfield 149) ∧ mj_Y.fl kY 206 149 12 = some (2, .int, true) ∧ 20 = 17 + 3 := by decide +kernel
theorem c206_20 : mj_Y.code kY 206 20 = some .return_ ∧ mj_Y.rt kY 206 = none := by decide +kernel
theorem c207_0 : mj_Y.code kY 207 0 = some (.aload_n 0) ∧ ((0 : Fin 4) : Nat) = 0 ∧ 1 = 0 + 1 := by decide +kernel
theorem c207_1 : mj_Y.code kY 207 1 = some (.iconst 0) ∧ Int32.ofInt 0 = 0 ∧ 2 = 1 + 1 := by decide +kernel
theorem c207_2 : mj_Y.code kY 207 2 = some (.putfield 142) ∧ mj_Y.fl kY 207 142 12 = some (0, .int, true) ∧ 5 = 2 + 3 := by decide +kernel
theorem c207_5 : mj_Y.code kY 207 5 = some (.aload_n 0) ∧ ((0 : Fin 4) : Nat) = 0 ∧ 6 = 5 + 1 := by decide +kernel
theorem c207_6 : mj_Y.code kY 207 6 = some (.getfield 149) ∧ mj_Y.fl kY 207 149 12 = some (2, .int, true) ∧ 9 = 6 + 3 := by decide +kernel
theorem c207_9 : mj_Y.code kY 207 9 = some (.istore_n 1) ∧ ((1 : Fin 4) : Nat) = 1 ∧ 1 < mj_Y.nL kY 207 ∧ 10 = 9 + 1 := by decide +kernel
theorem c207_10 : mj_Y.code kY 207 10 = some (.aload_n 0) ∧ ((0 : Fin 4) : Nat) = 0 ∧ 11 = 10 + 1 := by decide +kernel
theorem c207_11 : mj_Y.code kY 207 11 = some (.iconst 0) ∧ Int32.ofInt 0 = 0 ∧ 12 = 11 + 1 := by decide +kernel
theorem c207_12 : mj_Y.code kY 207 12 = some (.putfield 149) ∧ mj_Y.fl kY 207 149 12 = some (2, .int, true) ∧ 15 = 12 + 3 := by decide +kernel
theorem c207_15 : mj_Y.code kY 207 15 = some (.iload_n 1) ∧ ((1 : Fin 4) : Nat) = 1 ∧ 16 = 15 + 1 := by decide +kernel
theorem c207_16 : mj_Y.code kY 207 16 = some .ireturn ∧ mj_Y.rt kY 207 = some .int := by decide +kernel
theorem c208_0 : mj_Y.code kY 208 0 = some (.aload_n 0) ∧ ((0 : Fin 4) : Nat) = 0 ∧ 1 = 0 + 1 := by decide +kernel
theorem c208_1 : mj_Y.code kY 208 1 = some (.iconst 0) ∧ Int32.ofInt 0 = 0 ∧ 2 = 1 + 1 := by decide +kernel
theorem c208_2 : mj_Y.code kY 208 2 = some (.putfield 142) ∧ mj_Y.fl kY 208 142 12 = some (0, .int, true) ∧ 5 = 2 + 3 := by decide +kernel
theorem c208_5 : mj_Y.code kY 208 5 = some (.iload_n 1) ∧ ((1 : Fin 4) : Nat) = 1 ∧ 6 = 5 + 1 := by decide +kernel
theorem c208_6 : mj_Y.code kY 208 6 = some (.ifCond .lt 20) ∧ mj_tg 6 20 = some 26 ∧ 9 = 6 + 3 := by decide +kernel
theorem c208_9 : mj_Y.code kY 208 9 = some (.iload_n 1) ∧ ((1 : Fin 4) : Nat) = 1 ∧ 10 = 9 + 1 := by decide +kernel
theorem c208_10 : mj_Y.code kY 208 10 = some (.aload_n 0) ∧ ((0 : Fin 4) : Nat) = 0 ∧ 11 = 10 + 1 := by decide +kernel
theorem c208_11 : mj_Y.code kY 208 11 = some (.getfield 149) ∧ mj_Y.fl kY 208 149 12 = some (2, .int, true) ∧ 14 = 11 + 3 := by decide +kernel
theorem c208_14 : mj_Y.code kY 208 14 = some (.if_icmp .ge 12) ∧ mj_tg 14 12 = some 26 ∧ 17 = 14 + 3 := by decide +kernel
theorem c208_17 : mj_Y.code kY 208 17 = some (.aload_n 0) ∧ ((0 : Fin 4) : Nat) = 0 ∧ 18 = 17 + 1 := by decide +kernel
theorem c208_18 : mj_Y.code kY 208 18 = some (.getfield 7) ∧ mj_Y.fl kY 208 7 12 = some (1, (.array .int), false) ∧ 21 = 18 + 3 := by decide +kernel
theorem c208_21 : mj_Y.code kY 208 21 = some (.iload_n 1) ∧ ((1 : Fin 4) : Nat) = 1 ∧ 22 = 21 + 1 := by decide +kernel
theorem c208_22 : mj_Y.code kY 208 22 = some .iaload ∧ 23 = 22 + 1 := by decide +kernel
theorem c208_23 : mj_Y.code kY 208 23 = some (.goto 6) ∧ mj_tg 23 6 = some 29 := by decide +kernel
theorem c208_26 : mj_Y.code kY 208 26 = some (.sipush (-1000)) ∧ (Int16.ofInt (-1000)).toInt32 = (-1000) ∧ 29 = 26 + 3 := by decide +kernel
theorem c208_29 : mj_Y.code kY 208 29 = some .ireturn ∧ mj_Y.rt kY 208 = some .int := by decide +kernel
theorem c209_0 : mj_Y.code kY 209 0 = some (.aload_n 0) ∧ ((0 : Fin 4) : Nat) = 0 ∧ 1 = 0 + 1 := by decide +kernel
theorem c209_1 : mj_Y.code kY 209 1 = some (.iconst 0) ∧ Int32.ofInt 0 = 0 ∧ 2 = 1 + 1 := by decide +kernel
theorem c209_2 : mj_Y.code kY 209 2 = some (.putfield 142) ∧ mj_Y.fl kY 209 142 12 = some (0, .int, true) ∧ 5 = 2 + 3 := by decide +kernel
theorem c209_5 : mj_Y.code kY 209 5 = some (.iload_n 1) ∧ ((1 : Fin 4) : Nat) = 1 ∧ 6 = 5 + 1 := by decide +kernel
theorem c209_6 : mj_Y.code kY 209 6 = some (.invokestatic 312) ∧ mj_Y.pr kY 209 312 = none ∧ mj_Y.cs kY 209 312 = some (210, 1) ∧ mj_Y.nL kY 210 = 1 ∧ 9 = 6 + 3 := by decide +kernel
theorem c209_9 : mj_Y.code kY 209 9 = some (.ifCond .eq 10) ∧ mj_tg 9 10 = some 19 ∧ 12 = 9 + 3 := by decide +kernel
theorem c209_12 : mj_Y.code kY 209 12 = some (.aload_n 0) ∧ ((0 : Fin 4) : Nat) = 0 ∧ 13 = 12 + 1 := by decide +kernel
theorem c209_13 : mj_Y.code kY 209 13 = some (.invokevirtual 315) ∧ mj_Y.na kY 209 315 = some 0 ∧ mj_Y.cv kY 209 315 12 = some 211 ∧ mj_Y.nL kY 211 = 3 ∧ 16 = 13 + 3 := by decide +kernel
theorem c209_16 : mj_Y.code kY 209 16 = some (.ifCond .ne 9) ∧ mj_tg 16 9 = some 25 ∧ 19 = 16 + 3 := by decide +kernel
theorem c209_19 : mj_Y.code kY 209 19 = some (.aload_n 0) ∧ ((0 : Fin 4) : Nat) = 0 ∧ 20 = 19 + 1 := by decide +kernel
theorem c209_20 : mj_Y.code kY 209 20 = some (.iconst 1) ∧ Int32.ofInt 1 = 1 ∧ 21 = 20 + 1 := by decide +kernel
theorem c209_21 : mj_Y.code kY 209 21 = some (.invokevirtual 318) ∧ mj_Y.na kY 209 318 = some 1 ∧ mj_Y.cv kY 209 318 12 = some 242 ∧ mj_Y.nL kY 242 = 2 ∧ 24 = 21 + 3 := by decide +kernel
theorem c209_24 : mj_Y.code kY 209 24 = some .ireturn ∧ mj_Y.rt kY 209 = some .int := by decide +kernel
theorem c209_25 : mj_Y.code kY 209 25 = some (.aload_n 0) ∧ ((0 : Fin 4) : Nat) = 0 ∧ 26 = 25 + 1 := by decide +kernel
theorem c209_26 : mj_Y.code kY 209 26 = some (.iload_n 1) ∧ ((1 : Fin 4) : Nat) = 1 ∧ 27 = 26 + 1 := by decide +kernel
theorem c209_27 : mj_Y.code kY 209 27 = some (.invokevirtual 321) ∧ mj_Y.na kY 209 321 = some 1 ∧ mj_Y.cv kY 209 321 12 = some 243 ∧ mj_Y.nL kY 243 = 5 ∧ 30 = 27 + 3 := by decide +kernel
theorem c209_30 : mj_Y.code kY 209 30 = some (.aload_n 0) ∧ ((0 : Fin 4) : Nat) = 0 ∧ 31 = 30 + 1 := by decide +kernel
theorem c209_31 : mj_Y.code kY 209 31 = some (.getfield 127) ∧ mj_Y.fl kY 209 127 12 = some (57, (.array .boolean), false) ∧ 34 = 31 + 3 := by decide +kernel
theorem c209_34 : mj_Y.code kY 209 34 = some (.iload_n 1) ∧ ((1 : Fin 4) : Nat) = 1 ∧ 35 = 34 + 1 := by decide +kernel
theorem c209_35 : mj_Y.code kY 209 35 = some (.iconst 0) ∧ Int32.ofInt 0 = 0 ∧ 36 = 35 + 1 := by decide +kernel
theorem c209_36 : mj_Y.code kY 209 36 = some .bastore ∧ 37 = 36 + 1 := by decide +kernel
theorem c209_37 : mj_Y.code kY 209 37 = some (.aload_n 0) ∧ ((0 : Fin 4) : Nat) = 0 ∧ 38 = 37 + 1 := by decide +kernel
theorem c209_38 : mj_Y.code kY 209 38 = some (.iconst 0) ∧ Int32.ofInt 0 = 0 ∧ 39 = 38 + 1 := by decide +kernel
theorem c209_39 : mj_Y.code kY 209 39 = some (.putfield 149) ∧ mj_Y.fl kY 209 149 12 = some (2, .int, true) ∧ 42 = 39 + 3 := by decide +kernel
theorem c209_42 : mj_Y.code kY 209 42 = some (.aload_n 0) ∧ ((0 : Fin 4) : Nat) = 0 ∧ 43 = 42 + 1 := by decide +kernel
theorem c209_43 : mj_Y.code kY 209 43 = some (.getfield 21) ∧ mj_Y.fl kY 209 21 12 = some (5, (.array .int), false) ∧ 46 = 43 + 3 := by decide +kernel
theorem c209_46 : mj_Y.code kY 209 46 = some (.iload_n 1) ∧ ((1 : Fin 4) : Nat) = 1 ∧ 47 = 46 + 1 := by decide +kernel
theorem c209_47 : mj_Y.code kY 209 47 = some .iaload ∧ 48 = 47 + 1 := by decide +kernel
theorem c209_48 : mj_Y.code kY 209 48 = some .ireturn ∧ mj_Y.rt kY 209 = some .int := by decide +kernel
theorem c210_0 : mj_Y.code kY 210 0 = some (.iload_n 0) ∧ ((0 : Fin 4) : Nat) = 0 ∧ 1 = 0 + 1 := by decide +kernel
theorem c210_1 : mj_Y.code kY 210 1 = some (.iconst 0) ∧ Int32.ofInt 0 = 0 ∧ 2 = 1 + 1 := by decide +kernel
theorem c210_2 : mj_Y.code kY 210 2 = some (.iconst 2) ∧ Int32.ofInt 2 = 2 ∧ 3 = 2 + 1 := by decide +kernel
theorem c210_3 : mj_Y.code kY 210 3 = some (.invokestatic 145) ∧ mj_Y.pr kY 210 145 = none ∧ mj_Y.cs kY 210 145 = some (205, 3) ∧ mj_Y.nL kY 205 = 3 ∧ 6 = 3 + 3 := by decide +kernel
theorem c210_6 : mj_Y.code kY 210 6 = some .ireturn ∧ mj_Y.rt kY 210 = some .boolean := by decide +kernel
theorem c211_0 : mj_Y.code kY 211 0 = some (.aload_n 0) ∧ ((0 : Fin 4) : Nat) = 0 ∧ 1 = 0 + 1 := by decide +kernel
theorem c211_1 : mj_Y.code kY 211 1 = some (.iconst 0) ∧ Int32.ofInt 0 = 0 ∧ 2 = 1 + 1 := by decide +kernel
theorem c211_2 : mj_Y.code kY 211 2 = some (.putfield 162) ∧ mj_Y.fl kY 211 162 12 = some (22, .int, true) ∧ 5 = 2 + 3 := by decide +kernel
theorem c211_5 : mj_Y.code kY 211 5 = some (.aload_n 0) ∧ ((0 : Fin 4) : Nat) = 0 ∧ 6 = 5 + 1 := by decide +kernel
theorem c211_6 : mj_Y.code kY 211 6 = some (.iconst 0) ∧ Int32.ofInt 0 = 0 ∧ 7 = 6 + 1 := by decide +kernel
theorem c211_7 : mj_Y.code kY 211 7 = some (.putfield 180) ∧ mj_Y.fl kY 211 180 12 = some (23, .int, true) ∧ 10 = 7 + 3 := by decide +kernel
theorem c211_10 : mj_Y.code kY 211 10 = some (.aload_n 0) ∧ ((0 : Fin 4) : Nat) = 0 ∧ 11 = 10 + 1 := by decide +kernel
theorem c211_11 : mj_Y.code kY 211 11 = some (.iconst 0) ∧ Int32.ofInt 0 = 0 ∧ 12 = 11 + 1 := by decide +kernel
theorem c211_12 : mj_Y.code kY 211 12 = some (.putfield 203) ∧ mj_Y.fl kY 211 203 12 = some (24, .int, true) ∧ 15 = 12 + 3 := by decide +kernel
theorem c211_15 : mj_Y.code kY 211 15 = some (.aload_n 0) ∧ ((0 : Fin 4) : Nat) = 0 ∧ 16 = 15 + 1 := by decide +kernel
theorem c211_16 : mj_Y.code kY 211 16 = some (.iconst 0) ∧ Int32.ofInt 0 = 0 ∧ 17 = 16 + 1 := by decide +kernel
theorem c211_17 : mj_Y.code kY 211 17 = some (.putfield 197) ∧ mj_Y.fl kY 211 197 12 = some (25, .int, true) ∧ 20 = 17 + 3 := by decide +kernel
theorem c211_20 : mj_Y.code kY 211 20 = some (.aload_n 0) ∧ ((0 : Fin 4) : Nat) = 0 ∧ 21 = 20 + 1 := by decide +kernel
theorem c211_21 : mj_Y.code kY 211 21 = some (.iconst 0) ∧ Int32.ofInt 0 = 0 ∧ 22 = 21 + 1 := by decide +kernel
theorem c211_22 : mj_Y.code kY 211 22 = some (.putfield 253) ∧ mj_Y.fl kY 211 253 12 = some (36, .int, true) ∧ 25 = 22 + 3 := by decide +kernel
theorem c211_25 : mj_Y.code kY 211 25 = some (.aload_n 0) ∧ ((0 : Fin 4) : Nat) = 0 ∧ 26 = 25 + 1 := by decide +kernel
theorem c211_26 : mj_Y.code kY 211 26 = some (.getfield 21) ∧ mj_Y.fl kY 211 21 12 = some (5, (.array .int), false) ∧ 29 = 26 + 3 := by decide +kernel
theorem c211_29 : mj_Y.code kY 211 29 = some (.iconst 3) ∧ Int32.ofInt 3 = 3 ∧ 30 = 29 + 1 := by decide +kernel
theorem c211_30 : mj_Y.code kY 211 30 = some (.iconst 0) ∧ Int32.ofInt 0 = 0 ∧ 31 = 30 + 1 := by decide +kernel
theorem c211_31 : mj_Y.code kY 211 31 = some .iastore ∧ 32 = 31 + 1 := by decide +kernel
theorem c211_32 : mj_Y.code kY 211 32 = some (.iconst 1) ∧ Int32.ofInt 1 = 1 ∧ 33 = 32 + 1 := by decide +kernel
theorem c211_33 : mj_Y.code kY 211 33 = some (.istore_n 1) ∧ ((1 : Fin 4) : Nat) = 1 ∧ 1 < mj_Y.nL kY 211 ∧ 34 = 33 + 1 := by decide +kernel
theorem c211_34 : mj_Y.code kY 211 34 = some (.iload_n 1) ∧ ((1 : Fin 4) : Nat) = 1 ∧ 35 = 34 + 1 := by decide +kernel
theorem c211_35 : mj_Y.code kY 211 35 = some (.ifCond .eq 86) ∧ mj_tg 35 86 = some 121 ∧ 38 = 35 + 3 := by decide +kernel
theorem c211_38 : mj_Y.code kY 211 38 = some (.aload_n 0) ∧ ((0 : Fin 4) : Nat) = 0 ∧ 39 = 38 + 1 := by decide +kernel
theorem c211_39 : mj_Y.code kY 211 39 = some (.getfield 162) ∧ mj_Y.fl kY 211 162 12 = some (22, .int, true) ∧ 42 = 39 + 3 := by decide +kernel
theorem c211_42 : mj_Y.code kY 211 42 = some (.aload_n 0) ∧ ((0 : Fin 4) : Nat) = 0 ∧ 43 = 42 + 1 := by decide +kernel
theorem c211_43 : mj_Y.code kY 211 43 = some (.getfield 149) ∧ mj_Y.fl kY 211 149 12 = some (2, .int, true) ∧ 46 = 43 + 3 := by decide +kernel
theorem c211_46 : mj_Y.code kY 211 46 = some (.if_icmp .lt 10) ∧ mj_tg 46 10 = some 56 ∧ 49 = 46 + 3 := by decide +kernel
theorem c211_49 : mj_Y.code kY 211 49 = some (.aload_n 0) ∧ ((0 : Fin 4) : Nat) = 0 ∧ 50 = 49 + 1 := by decide +kernel
theorem c211_50 : mj_Y.code kY 211 50 = some (.getfield 253) ∧ mj_Y.fl kY 211 253 12 = some (36, .int, true) ∧ 53 = 50 + 3 := by decide +kernel
theorem c211_53 : mj_Y.code kY 211 53 = some (.ifCond .le 68) ∧ mj_tg 53 68 = some 121 ∧ 56 = 53 + 3 := by decide +kernel
theorem c211_56 : mj_Y.code kY 211 56 = some (.aload_n 0) ∧ ((0 : Fin 4) : Nat) = 0 ∧ 57 = 56 + 1 := by decide +kernel
theorem c211_57 : mj_Y.code kY 211 57 = some (.getfield 162) ∧ mj_Y.fl kY 211 162 12 = some (22, .int, true) ∧ 60 = 57 + 3 := by decide +kernel
theorem c211_60 : mj_Y.code kY 211 60 = some (.aload_n 0) ∧ ((0 : Fin 4) : Nat) = 0 ∧ 61 = 60 + 1 := by decide +kernel
theorem c211_61 : mj_Y.code kY 211 61 = some (.getfield 149) ∧ mj_Y.fl kY 211 149 12 = some (2, .int, true) ∧ 64 = 61 + 3 := by decide +kernel
theorem c211_64 : mj_Y.code kY 211 64 = some (.if_icmp .ge 16) ∧ mj_tg 64 16 = some 80 ∧ 67 = 64 + 3 := by decide +kernel
theorem c211_67 : mj_Y.code kY 211 67 = some (.aload_n 0) ∧ ((0 : Fin 4) : Nat) = 0 ∧ 68 = 67 + 1 := by decide +kernel
theorem c211_68 : mj_Y.code kY 211 68 = some (.invokevirtual 165) ∧ mj_Y.na kY 211 165 = some 0 ∧ mj_Y.cv kY 211 165 12 = some 212 ∧ mj_Y.nL kY 212 = 1 ∧ 71 = 68 + 3 := by decide +kernel
theorem c211_71 : mj_Y.code kY 211 71 = some (.bipush 125) ∧ (Int8.ofInt 125).toInt32 = 125 ∧ 73 = 71 + 2 := by decide +kernel
theorem c211_73 : mj_Y.code kY 211 73 = some (.if_icmp .eq 7) ∧ mj_tg 73 7 = some 80 ∧ 76 = 73 + 3 := by decide +kernel
theorem c211_76 : mj_Y.code kY 211 76 = some (.iconst 1) ∧ Int32.ofInt 1 = 1 ∧ 77 = 76 + 1 := by decide +kernel
theorem c211_77 : mj_Y.code kY 211 77 = some (.goto 4) ∧ mj_tg 77 4 = some 81 := by decide +kernel
theorem c211_80 : mj_Y.code kY 211 80 = some (.iconst 0) ∧ Int32.ofInt 0 = 0 ∧ 81 = 80 + 1 := by decide +kernel
theorem c211_81 : mj_Y.code kY 211 81 = some (.istore_n 2) ∧ ((2 : Fin 4) : Nat) = 2 ∧ 2 < mj_Y.nL kY 211 ∧ 82 = 81 + 1 := by decide +kernel
theorem c211_82 : mj_Y.code kY 211 82 = some (.iload_n 2) ∧ ((2 : Fin 4) : Nat) = 2 ∧ 83 = 82 + 1 := by decide +kernel
theorem c211_83 : mj_Y.code kY 211 83 = some (.ifCond .ne 19) ∧ mj_tg 83 19 = some 102 ∧ 86 = 83 + 3 := by decide +kernel
theorem c211_86 : mj_Y.code kY 211 86 = some (.aload_n 0) ∧ ((0 : Fin 4) : Nat) = 0 ∧ 87 = 86 + 1 := by decide +kernel
theorem c211_87 : mj_Y.code kY 211 87 = some (.getfield 253) ∧ mj_Y.fl kY 211 253 12 = some (36, .int, true) ∧ 90 = 87 + 3 := by decide +kernel
theorem c211_90 : mj_Y.code kY 211 90 = some (.ifCond .ne 12) ∧ mj_tg 90 12 = some 102 ∧ 93 = 90 + 3 := by decide +kernel
theorem c211_93 : mj_Y.code kY 211 93 = some (.aload_n 0) ∧ ((0 : Fin 4) : Nat) = 0 ∧ 94 = 93 + 1 := by decide +kernel
theorem c211_94 : mj_Y.code kY 211 94 = some (.aload_n 0) ∧ ((0 : Fin 4) : Nat) = 0 ∧ 95 = 94 + 1 := by decide +kernel
theorem c211_95 : mj_Y.code kY 211 95 = some (.getfield 162) ∧ mj_Y.fl kY 211 162 12 = some (22, .int, true) ∧ 98 = 95 + 3 := by decide +kernel
theorem c211_98 : mj_Y.code kY 211 98 = some (.invokevirtual 169) ∧ mj_Y.na kY 211 169 = some 1 ∧ mj_Y.cv kY 211 169 12 = some 213 ∧ mj_Y.nL kY 213 = 2 ∧ 101 = 98 + 3 := by decide +kernel
theorem c211_101 : mj_Y.code kY 211 101 = some .ireturn ∧ mj_Y.rt kY 211 = some .boolean := by decide +kernel
theorem c211_102 : mj_Y.code kY 211 102 = some (.iload_n 2) ∧ ((2 : Fin 4) : Nat) = 2 ∧ 103 = 102 + 1 := by decide +kernel
theorem c211_103 : mj_Y.code kY 211 103 = some (.ifCond .eq 10) ∧ mj_tg 103 10 = some 113 ∧ 106 = 103 + 3 := by decide +kernel
theorem c211_106 : mj_Y.code kY 211 106 = some (.aload_n 0) ∧ ((0 : Fin 4) : Nat) = 0 ∧ 107 = 106 + 1 := by decide +kernel
theorem c211_107 : mj_Y.code kY 211 107 = some (.invokevirtual 263) ∧ mj_Y.na kY 211 263 = some 0 ∧ mj_Y.cv kY 211 263 12 = some 214 ∧ mj_Y.nL kY 214 = 5 ∧ 110 = 107 + 3 := by decide +kernel
theorem c211_110 : mj_Y.code kY 211 110 = some (.goto 7) ∧ mj_tg 110 7 = some 117 := by decide +kernel
theorem c211_113 : mj_Y.code kY 211 113 = some (.aload_n 0) ∧ ((0 : Fin 4) : Nat) = 0 ∧ 114 = 113 + 1 := by decide +kernel
theorem c211_114 : mj_Y.code kY 211 114 = some (.invokevirtual 266) ∧ mj_Y.na kY 211 266 = some 0 ∧ mj_Y.cv kY 211 266 12 = some 234 ∧ mj_Y.nL kY 234 = 2 ∧ 117 = 114 + 3 := by decide +kernel
theorem c211_117 : mj_Y.code kY 211 117 = some (.istore_n 1) ∧ ((1 : Fin 4) : Nat) = 1 ∧ 1 < mj_Y.nL kY 211 ∧ 118 = 117 + 1 := by decide +kernel
theorem c211_118 : mj_Y.code kY 211 118 = some (.goto (-84)) ∧ mj_tg 118 (-84) = some 34 := by decide +kernel
theorem c211_121 : mj_Y.code kY 211 121 = some (.iload_n 1) ∧ ((1 : Fin 4) : Nat) = 1 ∧ 122 = 121 + 1 := by decide +kernel
theorem c211_122 : mj_Y.code kY 211 122 = some (.ifCond .ne 5) ∧ mj_tg 122 5 = some 127 ∧ 125 = 122 + 3 := by decide +kernel
theorem c211_125 : mj_Y.code kY 211 125 = some (.iconst 0) ∧ Int32.ofInt 0 = 0 ∧ 126 = 125 + 1 := by decide +kernel
theorem c211_126 : mj_Y.code kY 211 126 = some .ireturn ∧ mj_Y.rt kY 211 = some .boolean := by decide +kernel
theorem c211_127 : mj_Y.code kY 211 127 = some (.aload_n 0) ∧ ((0 : Fin 4) : Nat) = 0 ∧ 128 = 127 + 1 := by decide +kernel
theorem c211_128 : mj_Y.code kY 211 128 = some (.invokevirtual 269) ∧ mj_Y.na kY 211 269 = some 0 ∧ mj_Y.cv kY 211 269 12 = some 235 ∧ mj_Y.nL kY 235 = 6 ∧ 131 = 128 + 3 := by decide +kernel
theorem c211_131 : mj_Y.code kY 211 131 = some (.aload_n 0) ∧ ((0 : Fin 4) : Nat) = 0 ∧ 132 = 131 + 1 := by decide +kernel
theorem c211_132 : mj_Y.code kY 211 132 = some (.iconst 3) ∧ Int32.ofInt 3 = 3 ∧ 133 = 132 + 1 := by decide +kernel
theorem c211_133 : mj_Y.code kY 211 133 = some (.iconst 0) ∧ Int32.ofInt 0 = 0 ∧ 134 = 133 + 1 := by decide +kernel
theorem c211_134 : mj_Y.code kY 211 134 = some (.aload_n 0) ∧ ((0 : Fin 4) : Nat) = 0 ∧ 135 = 134 + 1 := by decide +kernel
theorem c211_135 : mj_Y.code kY 211 135 = some (.getfield 21) ∧ mj_Y.fl kY 211 21 12 = some (5, (.array .int), false) ∧ 138 = 135 + 3 := by decide +kernel
theorem c211_138 : mj_Y.code kY 211 138 = some (.iconst 3) ∧ Int32.ofInt 3 = 3 ∧ 139 = 138 + 1 := by decide +kernel
theorem c211_139 : mj_Y.code kY 211 139 = some .iaload ∧ 140 = 139 + 1 := by decide +kernel
theorem c211_140 : mj_Y.code kY 211 140 = some (.invokevirtual 272) ∧ mj_Y.na kY 211 272 = some 3 ∧ mj_Y.cv kY 211 272 12 = some 236 ∧ mj_Y.nL kY 236 = 7 ∧ 143 = 140 + 3 := by decide +kernel
theorem c211_143 : mj_Y.code kY 211 143 = some (.ldc2_w 276) ∧ mj_Y.ck kY 211 276 = some (.long 2147483648) ∧ 146 = 143 + 3 := by decide +kernel
theorem c211_146 : mj_Y.code kY 211 146 = some .lcmp ∧ 147 = 146 + 1 := by decide +kernel
theorem c211_147 : mj_Y.code kY 211 147 = some (.ifCond .le 14) ∧ mj_tg 147 14 = some 161 ∧ 150 = 147 + 3 := by decide +kernel
theorem c211_150 : mj_Y.code kY 211 150 = some (.aload_n 0) ∧ ((0 : Fin 4) : Nat) = 0 ∧ 151 = 150 + 1 := by decide +kernel
theorem c211_151 : mj_Y.code kY 211 151 = some (.aload_n 0) ∧ ((0 : Fin 4) : Nat) = 0 ∧ 152 = 151 + 1 := by decide +kernel
theorem c211_152 : mj_Y.code kY 211 152 = some (.getfield 149) ∧ mj_Y.fl kY 211 149 12 = some (2, .int, true) ∧ 155 = 152 + 3 := by decide +kernel
theorem c211_155 : mj_Y.code kY 211 155 = some (.invokevirtual 169) ∧ mj_Y.na kY 211 169 = some 1 ∧ mj_Y.cv kY 211 169 12 = some 213 ∧ mj_Y.nL kY 213 = 2 ∧ 158 = 155 + 3 := by decide +kernel
theorem c211_158 : mj_Y.code kY 211 158 = some (.ifCond .eq 7) ∧ mj_tg 158 7 = some 165 ∧ 161 = 158 + 3 := by decide +kernel
theorem c211_161 : mj_Y.code kY 211 161 = some (.iconst 1) ∧ Int32.ofInt 1 = 1 ∧ 162 = 161 + 1 := by decide +kernel
theorem c211_162 : mj_Y.code kY 211 162 = some (.goto 4) ∧ mj_tg 162 4 = some 166 := by decide +kernel
theorem c211_165 : mj_Y.code kY 211 165 = some (.iconst 0) ∧ Int32.ofInt 0 = 0 ∧ 166 = 165 + 1 := by decide +kernel
theorem c211_166 : mj_Y.code kY 211 166 = some .ireturn ∧ mj_Y.rt kY 211 = some .boolean := by decide +kernel
theorem c212_0 : mj_Y.code kY 212 0 = some (.aload_n 0) ∧ ((0 : Fin 4) : Nat) = 0 ∧ 1 = 0 + 1 := by decide +kernel
theorem c212_1 : mj_Y.code kY 212 1 = some (.getfield 162) ∧ mj_Y.fl kY 212 162 12 = some (22, .int, true) ∧ 4 = 1 + 3 := by decide +kernel
theorem c212_4 : mj_Y.code kY 212 4 = some (.aload_n 0) ∧ ((0 : Fin 4) : Nat) = 0 ∧ 5 = 4 + 1 := by decide +kernel
theorem c212_5 : mj_Y.code kY 212 5 = some (.getfield 149) ∧ mj_Y.fl kY 212 149 12 = some (2, .int, true) ∧ 8 = 5 + 3 := by decide +kernel
theorem c212_8 : mj_Y.code kY 212 8 = some (.if_icmp .ge 15) ∧ mj_tg 8 15 = some 23 ∧ 11 = 8 + 3 := by decide +kernel
theorem c212_11 : mj_Y.code kY 212 11 = some (.aload_n 0) ∧ ((0 : Fin 4) : Nat) = 0 ∧ 12 = 11 + 1 := by decide +kernel
theorem c212_12 : mj_Y.code kY 212 12 = some (.getfield 7) ∧ mj_Y.fl kY 212 7 12 = some (1, (.array .int), false) ∧ 15 = 12 + 3 := by decide +kernel
theorem c212_15 : mj_Y.code kY 212 15 = some (.aload_n 0) ∧ ((0 : Fin 4) : Nat) = 0 ∧ 16 = 15 + 1 := by decide +kernel
theorem c212_16 : mj_Y.code kY 212 16 = some (.getfield 162) ∧ mj_Y.fl kY 212 162 12 = some (22, .int, true) ∧ 19 = 16 + 3 := by decide +kernel
theorem c212_19 : mj_Y.code kY 212 19 = some .iaload ∧ 20 = 19 + 1 := by decide +kernel
theorem c212_20 : mj_Y.code kY 212 20 = some (.goto 4) ∧ mj_tg 20 4 = some 24 := by decide +kernel
theorem c212_23 : mj_Y.code kY 212 23 = some (.iconst 0) ∧ Int32.ofInt 0 = 0 ∧ 24 = 23 + 1 := by decide +kernel
theorem c212_24 : mj_Y.code kY 212 24 = some .ireturn ∧ mj_Y.rt kY 212 = some .int := by decide +kernel
theorem c213_0 : mj_Y.code kY 213 0 = some (.aload_n 0) ∧ ((0 : Fin 4) : Nat) = 0 ∧ 1 = 0 + 1 := by decide +kernel
theorem c213_1 : mj_Y.code kY 213 1 = some (.iload_n 1) ∧ ((1 : Fin 4) : Nat) = 1 ∧ 2 = 1 + 1 := by decide +kernel
theorem c213_2 : mj_Y.code kY 213 2 = some (.putfield 13) ∧ mj_Y.fl kY 213 13 12 = some (3, .int, true) ∧ 5 = 2 + 3 := by decide +kernel
theorem c213_5 : mj_Y.code kY 213 5 = some (.iconst 0) ∧ Int32.ofInt 0 = 0 ∧ 6 = 5 + 1 := by decide +kernel
theorem c213_6 : mj_Y.code kY 213 6 = some .ireturn ∧ mj_Y.rt kY 213 = some .boolean := by decide +kernel
theorem c214_0 : mj_Y.code kY 214 0 = some (.aload_n 0) ∧ ((0 : Fin 4) : Nat) = 0 ∧ 1 = 0 + 1 := by decide +kernel
theorem c214_1 : mj_Y.code kY 214 1 = some (.invokevirtual 165) ∧ mj_Y.na kY 214 165 = some 0 ∧ mj_Y.cv kY 214 165 12 = some 212 ∧ mj_Y.nL kY 212 = 1 ∧ 4 = 1 + 3 := by decide +kernel
theorem c214_4 : mj_Y.code kY 214 4 = some (.istore_n 1) ∧ ((1 : Fin 4) : Nat) = 1 ∧ 1 < mj_Y.nL kY 214 ∧ 5 = 4 + 1 := by decide +kernel
theorem c214_5 : mj_Y.code kY 214 5 = some (.aload_n 0) ∧ ((0 : Fin 4) : Nat) = 0 ∧ 6 = 5 + 1 := by decide +kernel
theorem c214_6 : mj_Y.code kY 214 6 = some (.invokevirtual 200) ∧ mj_Y.na kY 214 200 = some 0 ∧ mj_Y.cv kY 214 200 12 = some 215 ∧ mj_Y.nL kY 215 = 1 ∧ 9 = 6 + 3 := by decide +kernel
theorem c214_9 : mj_Y.code kY 214 9 = some (.ifCond .ne 21) ∧ mj_tg 9 21 = some 30 ∧ 12 = 9 + 3 := by decide +kernel
theorem c214_12 : mj_Y.code kY 214 12 = some (.iload_n 1) ∧ ((1 : Fin 4) : Nat) = 1 ∧ 13 = 12 + 1 := by decide +kernel
theorem c214_13 : mj_Y.code kY 214 13 = some (.bipush 33) ∧ (Int8.ofInt 33).toInt32 = 33 ∧ 15 = 13 + 2 := by decide +kernel
theorem c214_15 : mj_Y.code kY 214 15 = some (.if_icmp .eq 15) ∧ mj_tg 15 15 = some 30 ∧ 18 = 15 + 3 := by decide +kernel
theorem c214_18 : mj_Y.code kY 214 18 = some (.iload_n 1) ∧ ((1 : Fin 4) : Nat) = 1 ∧ 19 = 18 + 1 := by decide +kernel
theorem c214_19 : mj_Y.code kY 214 19 = some (.bipush 63) ∧ (Int8.ofInt 63).toInt32 = 63 ∧ 21 = 19 + 2 := by decide +kernel
theorem c214_21 : mj_Y.code kY 214 21 = some (.if_icmp .eq 9) ∧ mj_tg 21 9 = some 30 ∧ 24 = 21 + 3 := by decide +kernel
theorem c214_24 : mj_Y.code kY 214 24 = some (.iload_n 1) ∧ ((1 : Fin 4) : Nat) = 1 ∧ 25 = 24 + 1 := by decide +kernel
theorem c214_25 : mj_Y.code kY 214 25 = some (.bipush 42) ∧ (Int8.ofInt 42).toInt32 = 42 ∧ 27 = 25 + 2 := by decide +kernel
theorem c214_27 : mj_Y.code kY 214 27 = some (.if_icmp .ne 7) ∧ mj_tg 27 7 = some 34 ∧ 30 = 27 + 3 := by decide +kernel
theorem c214_30 : mj_Y.code kY 214 30 = some (.iconst 1) ∧ Int32.ofInt 1 = 1 ∧ 31 = 30 + 1 := by decide +kernel
theorem c214_31 : mj_Y.code kY 214 31 = some (.goto 4) ∧ mj_tg 31 4 = some 35 := by decide +kernel
theorem c214_34 : mj_Y.code kY 214 34 = some (.iconst 0) ∧ Int32.ofInt 0 = 0 ∧ 35 = 34 + 1 := by decide +kernel
theorem c214_35 : mj_Y.code kY 214 35 = some (.istore_n 2) ∧ ((2 : Fin 4) : Nat) = 2 ∧ 2 < mj_Y.nL kY 214 ∧ 36 = 35 + 1 := by decide +kernel
theorem c214_36 : mj_Y.code kY 214 36 = some (.iload_n 2) ∧ ((2 : Fin 4) : Nat) = 2 ∧ 37 = 36 + 1 := by decide +kernel
theorem c214_37 : mj_Y.code kY 214 37 = some (.ifCond .eq 14) ∧ mj_tg 37 14 = some 51 ∧ 40 = 37 + 3 := by decide +kernel
theorem c214_40 : mj_Y.code kY 214 40 = some (.aload_n 0) ∧ ((0 : Fin 4) : Nat) = 0 ∧ 41 = 40 + 1 := by decide +kernel
theorem c214_41 : mj_Y.code kY 214 41 = some (.getfield 21) ∧ mj_Y.fl kY 214 21 12 = some (5, (.array .int), false) ∧ 44 = 41 + 3 := by decide +kernel
theorem c214_44 : mj_Y.code kY 214 44 = some (.iconst 3) ∧ Int32.ofInt 3 = 3 ∧ 45 = 44 + 1 := by decide +kernel
theorem c214_45 : mj_Y.code kY 214 45 = some .iaload ∧ 46 = 45 + 1 := by decide +kernel
theorem c214_46 : mj_Y.code kY 214 46 = some (.bipush 24) ∧ (Int8.ofInt 24).toInt32 = 24 ∧ 48 = 46 + 2 := by decide +kernel
theorem c214_48 : mj_Y.code kY 214 48 = some (.if_icmp .ne 12) ∧ mj_tg 48 12 = some 60 ∧ 51 = 48 + 3 := by decide +kernel
theorem c214_51 : mj_Y.code kY 214 51 = some (.aload_n 0) ∧ ((0 : Fin 4) : Nat) = 0 ∧ 52 = 51 + 1 := by decide +kernel
theorem c214_52 : mj_Y.code kY 214 52 = some (.aload_n 0) ∧ ((0 : Fin 4) : Nat) = 0 ∧ 53 = 52 + 1 := by decide +kernel
theorem c214_53 : mj_Y.code kY 214 53 = some (.getfield 162) ∧ mj_Y.fl kY 214 162 12 = some (22, .int, true) ∧ 56 = 53 + 3 := by decide +kernel
theorem c214_56 : mj_Y.code kY 214 56 = some (.invokevirtual 169) ∧ mj_Y.na kY 214 169 = some 1 ∧ mj_Y.cv kY 214 169 12 = some 213 ∧ mj_Y.nL kY 213 = 2 ∧ 59 = 56 + 3 := by decide +kernel
theorem c214_59 : mj_Y.code kY 214 59 = some .ireturn ∧ mj_Y.rt kY 214 = some .boolean := by decide +kernel
theorem c214_60 : mj_Y.code kY 214 60 = some (.aload_n 0) ∧ ((0 : Fin 4) : Nat) = 0 ∧ 61 = 60 + 1 := by decide +kernel
theorem c214_61 : mj_Y.code kY 214 61 = some (.getfield 21) ∧ mj_Y.fl kY 214 21 12 = some (5, (.array .int), false) ∧ 64 = 61 + 3 := by decide +kernel
theorem c214_64 : mj_Y.code kY 214 64 = some (.iconst 3) ∧ Int32.ofInt 3 = 3 ∧ 65 = 64 + 1 := by decide +kernel
theorem c214_65 : mj_Y.code kY 214 65 = some .iaload ∧ 66 = 65 + 1 := by decide +kernel
theorem c214_66 : mj_Y.code kY 214 66 = some (.istore_n 3) ∧ ((3 : Fin 4) : Nat) = 3 ∧ 3 < mj_Y.nL kY 214 ∧ 67 = 66 + 1 := by decide +kernel
theorem c214_67 : mj_Y.code kY 214 67 = some (.bipush 72) ∧ (Int8.ofInt 72).toInt32 = 72 ∧ 69 = 67 + 2 := by decide +kernel
theorem c214_69 : mj_Y.code kY 214 69 = some (.iload_n 3) ∧ ((3 : Fin 4) : Nat) = 3 ∧ 70 = 69 + 1 := by decide +kernel
theorem c214_70 : mj_Y.code kY 214 70 = some .iadd ∧ 71 = 70 + 1 := by decide +kernel
theorem c214_71 : mj_Y.code kY 214 71 = some (.istore 4) ∧ 4 = 4 ∧ 4 < mj_Y.nL kY 214 ∧ 73 = 71 + 2 := by decide +kernel
theorem c214_73 : mj_Y.code kY 214 73 = some (.aload_n 0) ∧ ((0 : Fin 4) : Nat) = 0 ∧ 74 = 73 + 1 := by decide +kernel
theorem c214_74 : mj_Y.code kY 214 74 = some (.getfield 21) ∧ mj_Y.fl kY 214 21 12 = some (5, (.array .int), false) ∧ 77 = 74 + 3 := by decide +kernel
theorem c214_77 : mj_Y.code kY 214 77 = some (.iconst 3) ∧ Int32.ofInt 3 = 3 ∧ 78 = 77 + 1 := by decide +kernel
theorem c214_78 : mj_Y.code kY 214 78 = some .dup2 ∧ 79 = 78 + 1 := by decide +kernel
theorem c214_79 : mj_Y.code kY 214 79 = some .iaload ∧ 80 = 79 + 1 := by decide +kernel
theorem c214_80 : mj_Y.code kY 214 80 = some (.iconst 1) ∧ Int32.ofInt 1 = 1 ∧ 81 = 80 + 1 := by decide +kernel
theorem c214_81 : mj_Y.code kY 214 81 = some .iadd ∧ 82 = 81 + 1 := by decide +kernel
theorem c214_82 : mj_Y.code kY 214 82 = some .iastore ∧ 83 = 82 + 1 := by decide +kernel
theorem c214_83 : mj_Y.code kY 214 83 = some (.aload_n 0) ∧ ((0 : Fin 4) : Nat) = 0 ∧ 84 = 83 + 1 := by decide +kernel
theorem c214_84 : mj_Y.code kY 214 84 = some (.getfield 24) ∧ mj_Y.fl kY 214 24 12 = some (6, (.array .int), false) ∧ 87 = 84 + 3 := by decide +kernel
theorem c214_87 : mj_Y.code kY 214 87 = some (.iload 4) ∧ 4 = 4 ∧ 89 = 87 + 2 := by decide +kernel
theorem c214_89 : mj_Y.code kY 214 89 = some (.iload_n 1) ∧ ((1 : Fin 4) : Nat) = 1 ∧ 90 = 89 + 1 := by decide +kernel
theorem c214_90 : mj_Y.code kY 214 90 = some (.bipush 33) ∧ (Int8.ofInt 33).toInt32 = 33 ∧ 92 = 90 + 2 := by decide +kernel
theorem c214_92 : mj_Y.code kY 214 92 = some (.if_icmp .ne 7) ∧ mj_tg 92 7 = some 99 ∧ 95 = 92 + 3 := by decide +kernel
theorem c214_95 : mj_Y.code kY 214 95 = some (.iconst 1) ∧ Int32.ofInt 1 = 1 ∧ 96 = 95 + 1 := by decide +kernel
theorem c214_96 : mj_Y.code kY 214 96 = some (.goto 24) ∧ mj_tg 96 24 = some 120 := by decide +kernel
theorem c214_99 : mj_Y.code kY 214 99 = some (.iload_n 1) ∧ ((1 : Fin 4) : Nat) = 1 ∧ 100 = 99 + 1 := by decide +kernel
theorem c214_100 : mj_Y.code kY 214 100 = some (.bipush 63) ∧ (Int8.ofInt 63).toInt32 = 63 ∧ 102 = 100 + 2 := by decide +kernel
theorem c214_102 : mj_Y.code kY 214 102 = some (.if_icmp .ne 7) ∧ mj_tg 102 7 = some 109 ∧ 105 = 102 + 3 := by decide +kernel
theorem c214_105 : mj_Y.code kY 214 105 = some (.iconst 2) ∧ Int32.ofInt 2 = 2 ∧ 106 = 105 + 1 := by decide +kernel
theorem c214_106 : mj_Y.code kY 214 106 = some (.goto 14) ∧ mj_tg 106 14 = some 120 := by decide +kernel
theorem c214_109 : mj_Y.code kY 214 109 = some (.iload_n 1) ∧ ((1 : Fin 4) : Nat) = 1 ∧ 110 = 109 + 1 := by decide +kernel
theorem c214_110 : mj_Y.code kY 214 110 = some (.bipush 42) ∧ (Int8.ofInt 42).toInt32 = 42 ∧ 112 = 110 + 2 := by decide +kernel
theorem c214_112 : mj_Y.code kY 214 112 = some (.if_icmp .ne 7) ∧ mj_tg 112 7 = some 119 ∧ 115 = 112 + 3 := by decide +kernel
theorem c214_115 : mj_Y.code kY 214 115 = some (.iconst 3) ∧ Int32.ofInt 3 = 3 ∧ 116 = 115 + 1 := by decide +kernel
theorem c214_116 : mj_Y.code kY 214 116 = some (.goto 4) ∧ mj_tg 116 4 = some 120 := by decide +kernel
theorem c214_119 : mj_Y.code kY 214 119 = some (.iconst 0) ∧ Int32.ofInt 0 = 0 ∧ 120 = 119 + 1 := by decide +kernel
theorem c214_120 : mj_Y.code kY 214 120 = some .iastore ∧ 121 = 120 + 1 := by decide +kernel
theorem c214_121 : mj_Y.code kY 214 121 = some (.aload_n 0) ∧ ((0 : Fin 4) : Nat) = 0 ∧ 122 = 121 + 1 := by decide +kernel
theorem c214_122 : mj_Y.code kY 214 122 = some (.getfield 27) ∧ mj_Y.fl kY 214 27 12 = some (7, (.array .int), false) ∧ 125 = 122 + 3 := by decide +kernel
theorem c214_125 : mj_Y.code kY 214 125 = some (.iload 4) ∧ 4 = 4 ∧ 127 = 125 + 2 := by decide +kernel
theorem c214_127 : mj_Y.code kY 214 127 = some (.aload_n 0) ∧ ((0 : Fin 4) : Nat) = 0 ∧ 128 = 127 + 1 := by decide +kernel
theorem c214_128 : mj_Y.code kY 214 128 = some (.invokevirtual 200) ∧ mj_Y.na kY 214 200 = some 0 ∧ mj_Y.cv kY 214 200 12 = some 215 ∧ mj_Y.nL kY 215 = 1 ∧ 131 = 128 + 3 := by decide +kernel
theorem c214_131 : mj_Y.code kY 214 131 = some (.ifCond .eq 10) ∧ mj_tg 131 10 = some 141 ∧ 134 = 131 + 3 := by decide +kernel
theorem c214_134 : mj_Y.code kY 214 134 = some (.iload_n 1) ∧ ((1 : Fin 4) : Nat) = 1 ∧ 135 = 134 + 1 := by decide +kernel
theorem c214_135 : mj_Y.code kY 214 135 = some (.bipush 65) ∧ (Int8.ofInt 65).toInt32 = 65 ∧ 137 = 135 + 2 := by decide +kernel
theorem c214_137 : mj_Y.code kY 214 137 = some .isub ∧ 138 = 137 + 1 := by decide +kernel
theorem c214_138 : mj_Y.code kY 214 138 = some (.goto 4) ∧ mj_tg 138 4 = some 142 := by decide +kernel
theorem c214_141 : mj_Y.code kY 214 141 = some (.iconst 0) ∧ Int32.ofInt 0 = 0 ∧ 142 = 141 + 1 := by decide +kernel
theorem c214_142 : mj_Y.code kY 214 142 = some .iastore ∧ 143 = 142 + 1 := by decide +kernel
theorem c214_143 : mj_Y.code kY 214 143 = some (.aload_n 0) ∧ ((0 : Fin 4) : Nat) = 0 ∧ 144 = 143 + 1 := by decide +kernel
theorem c214_144 : mj_Y.code kY 214 144 = some (.getfield 36) ∧ mj_Y.fl kY 214 36 12 = some (10, (.array .int), false) ∧ 147 = 144 + 3 := by decide +kernel
theorem c214_147 : mj_Y.code kY 214 147 = some (.iload 4) ∧ 4 = 4 ∧ 149 = 147 + 2 := by decide +kernel
theorem c214_149 : mj_Y.code kY 214 149 = some (.iload_n 3) ∧ ((3 : Fin 4) : Nat) = 3 ∧ 150 = 149 + 1 := by decide +kernel
theorem c214_150 : mj_Y.code kY 214 150 = some (.iconst 1) ∧ Int32.ofInt 1 = 1 ∧ 151 = 150 + 1 := by decide +kernel
theorem c214_151 : mj_Y.code kY 214 151 = some .iadd ∧ 152 = 151 + 1 := by decide +kernel
theorem c214_152 : mj_Y.code kY 214 152 = some .iastore ∧ 153 = 152 + 1 := by decide +kernel
theorem c214_153 : mj_Y.code kY 214 153 = some (.aload_n 0) ∧ ((0 : Fin 4) : Nat) = 0 ∧ 154 = 153 + 1 := by decide +kernel
theorem c214_154 : mj_Y.code kY 214 154 = some (.getfield 39) ∧ mj_Y.fl kY 214 39 12 = some (11, (.array .int), false) ∧ 157 = 154 + 3 := by decide +kernel
theorem c214_157 : mj_Y.code kY 214 157 = some (.iload 4) ∧ 4 = 4 ∧ 159 = 157 + 2 := by decide +kernel
theorem c214_159 : mj_Y.code kY 214 159 = some (.iload_n 3) ∧ ((3 : Fin 4) : Nat) = 3 ∧ 160 = 159 + 1 := by decide +kernel
theorem c214_160 : mj_Y.code kY 214 160 = some (.iconst 1) ∧ Int32.ofInt 1 = 1 ∧ 161 = 160 + 1 := by decide +kernel
theorem c214_161 : mj_Y.code kY 214 161 = some .iadd ∧ 162 = 161 + 1 := by decide +kernel
theorem c214_162 : mj_Y.code kY 214 162 = some .iastore ∧ 163 = 162 + 1 := by decide +kernel
theorem c214_163 : mj_Y.code kY 214 163 = some (.aload_n 0) ∧ ((0 : Fin 4) : Nat) = 0 ∧ 164 = 163 + 1 := by decide +kernel
theorem c214_164 : mj_Y.code kY 214 164 = some .dup ∧ 165 = 164 + 1 := by decide +kernel
theorem c214_165 : mj_Y.code kY 214 165 = some (.getfield 162) ∧ mj_Y.fl kY 214 162 12 = some (22, .int, true) ∧ 168 = 165 + 3 := by decide +kernel
theorem c214_168 : mj_Y.code kY 214 168 = some (.iconst 1) ∧ Int32.ofInt 1 = 1 ∧ 169 = 168 + 1 := by decide +kernel
theorem c214_169 : mj_Y.code kY 214 169 = some .iadd ∧ 170 = 169 + 1 := by decide +kernel
theorem c214_170 : mj_Y.code kY 214 170 = some (.putfield 162) ∧ mj_Y.fl kY 214 162 12 = some (22, .int, true) ∧ 173 = 170 + 3 := by decide +kernel
theorem c214_173 : mj_Y.code kY 214 173 = some (.aload_n 0) ∧ ((0 : Fin 4) : Nat) = 0 ∧ 174 = 173 + 1 := by decide +kernel
theorem c214_174 : mj_Y.code kY 214 174 = some (.getfield 24) ∧ mj_Y.fl kY 214 24 12 = some (6, (.array .int), false) ∧ 177 = 174 + 3 := by decide +kernel
theorem c214_177 : mj_Y.code kY 214 177 = some (.iload 4) ∧ 4 = 4 ∧ 179 = 177 + 2 := by decide +kernel
theorem c214_179 : mj_Y.code kY 214 179 = some .iaload ∧ 180 = 179 + 1 := by decide +kernel
theorem c214_180 : mj_Y.code kY 214 180 = some (.iconst 3) ∧ Int32.ofInt 3 = 3 ∧ 181 = 180 + 1 := by decide +kernel
theorem c214_181 : mj_Y.code kY 214 181 = some (.if_icmp .ne 33) ∧ mj_tg 181 33 = some 214 ∧ 184 = 181 + 3 := by decide +kernel
theorem c214_184 : mj_Y.code kY 214 184 = some (.aload_n 0) ∧ ((0 : Fin 4) : Nat) = 0 ∧ 185 = 184 + 1 := by decide +kernel
theorem c214_185 : mj_Y.code kY 214 185 = some (.iconst 0) ∧ Int32.ofInt 0 = 0 ∧ 186 = 185 + 1 := by decide +kernel
theorem c214_186 : mj_Y.code kY 214 186 = some (.bipush 20) ∧ (Int8.ofInt 20).toInt32 = 20 ∧ 188 = 186 + 2 := by decide +kernel
theorem c214_188 : mj_Y.code kY 214 188 = some (.invokevirtual 193) ∧ mj_Y.na kY 214 193 = some 2 ∧ mj_Y.cv kY 214 193 12 = some 216 ∧ mj_Y.nL kY 216 = 5 ∧ 191 = 188 + 3 := by decide +kernel
theorem c214_191 : mj_Y.code kY 214 191 = some (.ifCond .ne 5) ∧ mj_tg 191 5 = some 196 ∧ 194 = 191 + 3 := by decide +kernel
theorem c214_194 : mj_Y.code kY 214 194 = some (.iconst 0) ∧ Int32.ofInt 0 = 0 ∧ 195 = 194 + 1 := by decide +kernel
theorem c214_195 : mj_Y.code kY 214 195 = some .ireturn ∧ mj_Y.rt kY 214 = some .boolean := by decide +kernel
theorem c214_196 : mj_Y.code kY 214 196 = some (.aload_n 0) ∧ ((0 : Fin 4) : Nat) = 0 ∧ 197 = 196 + 1 := by decide +kernel
theorem c214_197 : mj_Y.code kY 214 197 = some (.getfield 27) ∧ mj_Y.fl kY 214 27 12 = some (7, (.array .int), false) ∧ 200 = 197 + 3 := by decide +kernel
theorem c214_200 : mj_Y.code kY 214 200 = some (.iload 4) ∧ 4 = 4 ∧ 202 = 200 + 2 := by decide +kernel
theorem c214_202 : mj_Y.code kY 214 202 = some (.aload_n 0) ∧ ((0 : Fin 4) : Nat) = 0 ∧ 203 = 202 + 1 := by decide +kernel
theorem c214_203 : mj_Y.code kY 214 203 = some (.getfield 177) ∧ mj_Y.fl kY 214 177 12 = some (26, .int, true) ∧ 206 = 203 + 3 := by decide +kernel
theorem c214_206 : mj_Y.code kY 214 206 = some .iastore ∧ 207 = 206 + 1 := by decide +kernel
theorem c214_207 : mj_Y.code kY 214 207 = some (.aload_n 0) ∧ ((0 : Fin 4) : Nat) = 0 ∧ 208 = 207 + 1 := by decide +kernel
theorem c214_208 : mj_Y.code kY 214 208 = some (.iload_n 3) ∧ ((3 : Fin 4) : Nat) = 3 ∧ 209 = 208 + 1 := by decide +kernel
theorem c214_209 : mj_Y.code kY 214 209 = some (.iconst 0) ∧ Int32.ofInt 0 = 0 ∧ 210 = 209 + 1 := by decide +kernel
theorem c214_210 : mj_Y.code kY 214 210 = some (.invokevirtual 256) ∧ mj_Y.na kY 214 256 = some 2 ∧ mj_Y.cv kY 214 256 12 = some 218 ∧ mj_Y.nL kY 218 = 3 ∧ 213 = 210 + 3 := by decide +kernel
theorem c214_213 : mj_Y.code kY 214 213 = some .ireturn ∧ mj_Y.rt kY 214 = some .boolean := by decide +kernel
theorem c214_214 : mj_Y.code kY 214 214 = some (.aload_n 0) ∧ ((0 : Fin 4) : Nat) = 0 ∧ 215 = 214 + 1 := by decide +kernel
theorem c214_215 : mj_Y.code kY 214 215 = some (.getfield 24) ∧ mj_Y.fl kY 214 24 12 = some (6, (.array .int), false) ∧ 218 = 215 + 3 := by decide +kernel
theorem c214_218 : mj_Y.code kY 214 218 = some (.iload 4) ∧ 4 = 4 ∧ 220 = 218 + 2 := by decide +kernel
theorem c214_220 : mj_Y.code kY 214 220 = some .iaload ∧ 221 = 220 + 1 := by decide +kernel
theorem c214_221 : mj_Y.code kY 214 221 = some (.ifCond .ne 14) ∧ mj_tg 221 14 = some 235 ∧ 224 = 221 + 3 := by decide +kernel
theorem c214_224 : mj_Y.code kY 214 224 = some (.aload_n 0) ∧ ((0 : Fin 4) : Nat) = 0 ∧ 225 = 224 + 1 := by decide +kernel
theorem c214_225 : mj_Y.code kY 214 225 = some (.bipush 61) ∧ (Int8.ofInt 61).toInt32 = 61 ∧ 227 = 225 + 2 := by decide +kernel
theorem c214_227 : mj_Y.code kY 214 227 = some (.invokevirtual 190) ∧ mj_Y.na kY 214 190 = some 1 ∧ mj_Y.cv kY 214 190 12 = some 219 ∧ mj_Y.nL kY 219 = 2 ∧ 230 = 227 + 3 := by decide +kernel
theorem c214_230 : mj_Y.code kY 214 230 = some (.ifCond .ne 5) ∧ mj_tg 230 5 = some 235 ∧ 233 = 230 + 3 := by decide +kernel
theorem c214_233 : mj_Y.code kY 214 233 = some (.iconst 0) ∧ Int32.ofInt 0 = 0 ∧ 234 = 233 + 1 := by decide +kernel
theorem c214_234 : mj_Y.code kY 214 234 = some .ireturn ∧ mj_Y.rt kY 214 = some .boolean := by decide +kernel
theorem c214_235 : mj_Y.code kY 214 235 = some (.aload_n 0) ∧ ((0 : Fin 4) : Nat) = 0 ∧ 236 = 235 + 1 := by decide +kernel
theorem c214_236 : mj_Y.code kY 214 236 = some (.iload_n 3) ∧ ((3 : Fin 4) : Nat) = 3 ∧ 237 = 236 + 1 := by decide +kernel
theorem c214_237 : mj_Y.code kY 214 237 = some (.invokevirtual 260) ∧ mj_Y.na kY 214 260 = some 1 ∧ mj_Y.cv kY 214 260 12 = some 220 ∧ mj_Y.nL kY 220 = 3 ∧ 240 = 237 + 3 := by decide +kernel
theorem c214_240 : mj_Y.code kY 214 240 = some (.ifCond .ne 5) ∧ mj_tg 240 5 = some 245 ∧ 243 = 240 + 3 := by decide +kernel
theorem c214_243 : mj_Y.code kY 214 243 = some (.iconst 0) ∧ Int32.ofInt 0 = 0 ∧ 244 = 243 + 1 := by decide +kernel
theorem c214_244 : mj_Y.code kY 214 244 = some .ireturn ∧ mj_Y.rt kY 214 = some .boolean := by decide +kernel
theorem c214_245 : mj_Y.code kY 214 245 = some (.aload_n 0) ∧ ((0 : Fin 4) : Nat) = 0 ∧ 246 = 245 + 1 := by decide +kernel
theorem c214_246 : mj_Y.code kY 214 246 = some (.getfield 24) ∧ mj_Y.fl kY 214 24 12 = some (6, (.array .int), false) ∧ 249 = 246 + 3 := by decide +kernel
theorem c214_249 : mj_Y.code kY 214 249 = some (.iload 4) ∧ 4 = 4 ∧ 251 = 249 + 2 := by decide +kernel
theorem c214_251 : mj_Y.code kY 214 251 = some .iaload ∧ 252 = 251 + 1 := by decide +kernel
theorem c214_252 : mj_Y.code kY 214 252 = some (.iconst 2) ∧ Int32.ofInt 2 = 2 ∧ 253 = 252 + 1 := by decide +kernel
theorem c214_253 : mj_Y.code kY 214 253 = some (.if_icmp .ne 12) ∧ mj_tg 253 12 = some 265 ∧ 256 = 253 + 3 := by decide +kernel
theorem c214_256 : mj_Y.code kY 214 256 = some (.aload_n 0) ∧ ((0 : Fin 4) : Nat) = 0 ∧ 257 = 256 + 1 := by decide +kernel
theorem c214_257 : mj_Y.code kY 214 257 = some (.iload_n 3) ∧ ((3 : Fin 4) : Nat) = 3 ∧ 258 = 257 + 1 := by decide +kernel
theorem c214_258 : mj_Y.code kY 214 258 = some (.iconst 0) ∧ Int32.ofInt 0 = 0 ∧ 259 = 258 + 1 := by decide +kernel
theorem c214_259 : mj_Y.code kY 214 259 = some (.invokevirtual 256) ∧ mj_Y.na kY 214 256 = some 2 ∧ mj_Y.cv kY 214 256 12 = some 218 ∧ mj_Y.nL kY 218 = 3 ∧ 262 = 259 + 3 := by decide +kernel
theorem c214_262 : mj_Y.code kY 214 262 = some (.goto 9) ∧ mj_tg 262 9 = some 271 := by decide +kernel
theorem c214_265 : mj_Y.code kY 214 265 = some (.aload_n 0) ∧ ((0 : Fin 4) : Nat) = 0 ∧ 266 = 265 + 1 := by decide +kernel
theorem c214_266 : mj_Y.code kY 214 266 = some (.bipush 59) ∧ (Int8.ofInt 59).toInt32 = 59 ∧ 268 = 266 + 2 := by decide +kernel
theorem c214_268 : mj_Y.code kY 214 268 = some (.invokevirtual 190) ∧ mj_Y.na kY 214 190 = some 1 ∧ mj_Y.cv kY 214 190 12 = some 219 ∧ mj_Y.nL kY 219 = 2 ∧ 271 = 268 + 3 := by decide +kernel
theorem c214_271 : mj_Y.code kY 214 271 = some .ireturn ∧ mj_Y.rt kY 214 = some .boolean := by decide +kernel
theorem c215_0 : mj_Y.code kY 215 0 = some (.aload_n 0) ∧ ((0 : Fin 4) : Nat) = 0 ∧ 1 = 0 + 1 := by decide +kernel
theorem c215_1 : mj_Y.code kY 215 1 = some (.invokevirtual 165) ∧ mj_Y.na kY 215 165 = some 0 ∧ mj_Y.cv kY 215 165 12 = some 212 ∧ mj_Y.nL kY 212 = 1 ∧ 4 = 1 + 3 := by decide +kernel
theorem c215_4 : mj_Y.code kY 215 4 = some (.bipush 65) ∧ (Int8.ofInt 65).toInt32 = 65 ∧ 6 = 4 + 2 := by decide +kernel
theorem c215_6 : mj_Y.code kY 215 6 = some (.if_icmp .lt 16) ∧ mj_tg 6 16 = some 22 ∧ 9 = 6 + 3 := by decide +kernel
theorem c215_9 : mj_Y.code kY 215 9 = some (.aload_n 0) ∧ ((0 : Fin 4) : Nat) = 0 ∧ 10 = 9 + 1 := by decide +kernel
theorem c215_10 : mj_Y.code kY 215 10 = some (.invokevirtual 165) ∧ mj_Y.na kY 215 165 = some 0 ∧ mj_Y.cv kY 215 165 12 = some 212 ∧ mj_Y.nL kY 212 = 1 ∧ 13 = 10 + 3 := by decide +kernel
theorem c215_13 : mj_Y.code kY 215 13 = some (.bipush 70) ∧ (Int8.ofInt 70).toInt32 = 70 ∧ 15 = 13 + 2 := by decide +kernel
theorem c215_15 : mj_Y.code kY 215 15 = some (.if_icmp .gt 7) ∧ mj_tg 15 7 = some 22 ∧ 18 = 15 + 3 := by decide +kernel
theorem c215_18 : mj_Y.code kY 215 18 = some (.iconst 1) ∧ Int32.ofInt 1 = 1 ∧ 19 = 18 + 1 := by decide +kernel
theorem c215_19 : mj_Y.code kY 215 19 = some (.goto 4) ∧ mj_tg 19 4 = some 23 := by decide +kernel
theorem c215_22 : mj_Y.code kY 215 22 = some (.iconst 0) ∧ Int32.ofInt 0 = 0 ∧ 23 = 22 + 1 := by decide +kernel
theorem c215_23 : mj_Y.code kY 215 23 = some .ireturn ∧ mj_Y.rt kY 215 = some .boolean := by decide +kernel
theorem c216_0 : mj_Y.code kY 216 0 = some (.aload_n 0) ∧ ((0 : Fin 4) : Nat) = 0 ∧ 1 = 0 + 1 := by decide +kernel
theorem c216_1 : mj_Y.code kY 216 1 = some (.getfield 162) ∧ mj_Y.fl kY 216 162 12 = some (22, .int, true) ∧ 4 = 1 + 3 := by decide +kernel
theorem c216_4 : mj_Y.code kY 216 4 = some (.istore_n 3) ∧ ((3 : Fin 4) : Nat) = 3 ∧ 3 < mj_Y.nL kY 216 ∧ 5 = 4 + 1 := by decide +kernel
theorem c216_5 : mj_Y.code kY 216 5 = some (.aload_n 0) ∧ ((0 : Fin 4) : Nat) = 0 ∧ 6 = 5 + 1 := by decide +kernel
theorem c216_6 : mj_Y.code kY 216 6 = some (.invokevirtual 173) ∧ mj_Y.na kY 216 173 = some 0 ∧ mj_Y.cv kY 216 173 12 = some 217 ∧ mj_Y.nL kY 217 = 1 ∧ 9 = 6 + 3 := by decide +kernel
theorem c216_9 : mj_Y.code kY 216 9 = some (.ifCond .ne 12) ∧ mj_tg 9 12 = some 21 ∧ 12 = 9 + 3 := by decide +kernel
theorem c216_12 : mj_Y.code kY 216 12 = some (.aload_n 0) ∧ ((0 : Fin 4) : Nat) = 0 ∧ 13 = 12 + 1 := by decide +kernel
theorem c216_13 : mj_Y.code kY 216 13 = some (.aload_n 0) ∧ ((0 : Fin 4) : Nat) = 0 ∧ 14 = 13 + 1 := by decide +kernel
theorem c216_14 : mj_Y.code kY 216 14 = some (.getfield 162) ∧ mj_Y.fl kY 216 162 12 = some (22, .int, true) ∧ 17 = 14 + 3 := by decide +kernel
theorem c216_17 : mj_Y.code kY 216 17 = some (.invokevirtual 169) ∧ mj_Y.na kY 216 169 = some 1 ∧ mj_Y.cv kY 216 169 12 = some 213 ∧ mj_Y.nL kY 213 = 2 ∧ 20 = 17 + 3 := by decide +kernel
theorem c216_20 : mj_Y.code kY 216 20 = some .ireturn ∧ mj_Y.rt kY 216 = some .boolean := by decide +kernel
theorem c216_21 : mj_Y.code kY 216 21 = some (.aload_n 0) ∧ ((0 : Fin 4) : Nat) = 0 ∧ 22 = 21 + 1 := by decide +kernel
theorem c216_22 : mj_Y.code kY 216 22 = some (.iconst 0) ∧ Int32.ofInt 0 = 0 ∧ 23 = 22 + 1 := by decide +kernel
theorem c216_23 : mj_Y.code kY 216 23 = some (.putfield 177) ∧ mj_Y.fl kY 216 177 12 = some (26, .int, true) ∧ 26 = 23 + 3 := by decide +kernel
theorem c216_26 : mj_Y.code kY 216 26 = some (.aload_n 0) ∧ ((0 : Fin 4) : Nat) = 0 ∧ 27 = 26 + 1 := by decide +kernel
theorem c216_27 : mj_Y.code kY 216 27 = some (.invokevirtual 173) ∧ mj_Y.na kY 216 173 = some 0 ∧ mj_Y.cv kY 216 173 12 = some 217 ∧ mj_Y.nL kY 217 = 1 ∧ 30 = 27 + 3 := by decide +kernel
theorem c216_30 : mj_Y.code kY 216 30 = some (.ifCond .eq 59) ∧ mj_tg 30 59 = some 89 ∧ 33 = 30 + 3 := by decide +kernel
theorem c216_33 : mj_Y.code kY 216 33 = some (.aload_n 0) ∧ ((0 : Fin 4) : Nat) = 0 ∧ 34 = 33 + 1 := by decide +kernel
theorem c216_34 : mj_Y.code kY 216 34 = some (.bipush 10) ∧ (Int8.ofInt 10).toInt32 = 10 ∧ 36 = 34 + 2 := by decide +kernel
theorem c216_36 : mj_Y.code kY 216 36 = some (.aload_n 0) ∧ ((0 : Fin 4) : Nat) = 0 ∧ 37 = 36 + 1 := by decide +kernel
theorem c216_37 : mj_Y.code kY 216 37 = some (.getfield 177) ∧ mj_Y.fl kY 216 177 12 = some (26, .int, true) ∧ 40 = 37 + 3 := by decide +kernel
theorem c216_40 : mj_Y.code kY 216 40 = some .imul ∧ 41 = 40 + 1 := by decide +kernel
theorem c216_41 : mj_Y.code kY 216 41 = some (.aload_n 0) ∧ ((0 : Fin 4) : Nat) = 0 ∧ 42 = 41 + 1 := by decide +kernel
theorem c216_42 : mj_Y.code kY 216 42 = some (.invokevirtual 165) ∧ mj_Y.na kY 216 165 = some 0 ∧ mj_Y.cv kY 216 165 12 = some 212 ∧ mj_Y.nL kY 212 = 1 ∧ 45 = 42 + 3 := by decide +kernel
theorem c216_45 : mj_Y.code kY 216 45 = some .iadd ∧ 46 = 45 + 1 := by decide +kernel
theorem c216_46 : mj_Y.code kY 216 46 = some (.bipush 48) ∧ (Int8.ofInt 48).toInt32 = 48 ∧ 48 = 46 + 2 := by decide +kernel
theorem c216_48 : mj_Y.code kY 216 48 = some .isub ∧ 49 = 48 + 1 := by decide +kernel
theorem c216_49 : mj_Y.code kY 216 49 = some (.putfield 177) ∧ mj_Y.fl kY 216 177 12 = some (26, .int, true) ∧ 52 = 49 + 3 := by decide +kernel
theorem c216_52 : mj_Y.code kY 216 52 = some (.aload_n 0) ∧ ((0 : Fin 4) : Nat) = 0 ∧ 53 = 52 + 1 := by decide +kernel
theorem c216_53 : mj_Y.code kY 216 53 = some (.aload_n 0) ∧ ((0 : Fin 4) : Nat) = 0 ∧ 54 = 53 + 1 := by decide +kernel
theorem c216_54 : mj_Y.code kY 216 54 = some (.getfield 177) ∧ mj_Y.fl kY 216 177 12 = some (26, .int, true) ∧ 57 = 54 + 3 := by decide +kernel
theorem c216_57 : mj_Y.code kY 216 57 = some (.sipush 1000) ∧ (Int16.ofInt 1000).toInt32 = 1000 ∧ 60 = 57 + 3 := by decide +kernel
theorem c216_60 : mj_Y.code kY 216 60 = some (.if_icmp .le 9) ∧ mj_tg 60 9 = some 69 ∧ 63 = 60 + 3 := by decide +kernel
theorem c216_63 : mj_Y.code kY 216 63 = some (.sipush 1000) ∧ (Int16.ofInt 1000).toInt32 = 1000 ∧ 66 = 63 + 3 := by decide +kernel
theorem c216_66 : mj_Y.code kY 216 66 = some (.goto 7) ∧ mj_tg 66 7 = some 73 := by decide +kernel
theorem c216_69 : mj_Y.code kY 216 69 = some (.aload_n 0) ∧ ((0 : Fin 4) : Nat) = 0 ∧ 70 = 69 + 1 := by decide +kernel
theorem c216_70 : mj_Y.code kY 216 70 = some (.getfield 177) ∧ mj_Y.fl kY 216 177 12 = some (26, .int, true) ∧ 73 = 70 + 3 := by decide +kernel
theorem c216_73 : mj_Y.code kY 216 73 = some (.putfield 177) ∧ mj_Y.fl kY 216 177 12 = some (26, .int, true) ∧ 76 = 73 + 3 := by decide +kernel
theorem c216_76 : mj_Y.code kY 216 76 = some (.aload_n 0) ∧ ((0 : Fin 4) : Nat) = 0 ∧ 77 = 76 + 1 := by decide +kernel
theorem c216_77 : mj_Y.code kY 216 77 = some .dup ∧ 78 = 77 + 1 := by decide +kernel
theorem c216_78 : mj_Y.code kY 216 78 = some (.getfield 162) ∧ mj_Y.fl kY 216 162 12 = some (22, .int, true) ∧ 81 = 78 + 3 := by decide +kernel
theorem c216_81 : mj_Y.code kY 216 81 = some (.iconst 1) ∧ Int32.ofInt 1 = 1 ∧ 82 = 81 + 1 := by decide +kernel
theorem c216_82 : mj_Y.code kY 216 82 = some .iadd ∧ 83 = 82 + 1 := by decide +kernel
theorem c216_83 : mj_Y.code kY 216 83 = some (.putfield 162) ∧ mj_Y.fl kY 216 162 12 = some (22, .int, true) ∧ 86 = 83 + 3 := by decide +kernel
theorem c216_86 : mj_Y.code kY 216 86 = some (.goto (-60)) ∧ mj_tg 86 (-60) = some 26 := by decide +kernel
theorem c216_89 : mj_Y.code kY 216 89 = some (.aload_n 0) ∧ ((0 : Fin 4) : Nat) = 0 ∧ 90 = 89 + 1 := by decide +kernel
theorem c216_90 : mj_Y.code kY 216 90 = some (.getfield 7) ∧ mj_Y.fl kY 216 7 12 = some (1, (.array .int), false) ∧ 93 = 90 + 3 := by decide +kernel
theorem c216_93 : mj_Y.code kY 216 93 = some (.iload_n 3) ∧ ((3 : Fin 4) : Nat) = 3 ∧ 94 = 93 + 1 := by decide +kernel
theorem c216_94 : mj_Y.code kY 216 94 = some .iaload ∧ 95 = 94 + 1 := by decide +kernel
theorem c216_95 : mj_Y.code kY 216 95 = some (.bipush 48) ∧ (Int8.ofInt 48).toInt32 = 48 ∧ 97 = 95 + 2 := by decide +kernel
theorem c216_97 : mj_Y.code kY 216 97 = some (.if_icmp .ne 17) ∧ mj_tg 97 17 = some 114 ∧ 100 = 97 + 3 := by decide +kernel
theorem c216_100 : mj_Y.code kY 216 100 = some (.aload_n 0) ∧ ((0 : Fin 4) : Nat) = 0 ∧ 101 = 100 + 1 := by decide +kernel
theorem c216_101 : mj_Y.code kY 216 101 = some (.getfield 162) ∧ mj_Y.fl kY 216 162 12 = some (22, .int, true) ∧ 104 = 101 + 3 := by decide +kernel
theorem c216_104 : mj_Y.code kY 216 104 = some (.iload_n 3) ∧ ((3 : Fin 4) : Nat) = 3 ∧ 105 = 104 + 1 := by decide +kernel
theorem c216_105 : mj_Y.code kY 216 105 = some .isub ∧ 106 = 105 + 1 := by decide +kernel
theorem c216_106 : mj_Y.code kY 216 106 = some (.iconst 1) ∧ Int32.ofInt 1 = 1 ∧ 107 = 106 + 1 := by decide +kernel
theorem c216_107 : mj_Y.code kY 216 107 = some (.if_icmp .le 7) ∧ mj_tg 107 7 = some 114 ∧ 110 = 107 + 3 := by decide +kernel
theorem c216_110 : mj_Y.code kY 216 110 = some (.iconst 1) ∧ Int32.ofInt 1 = 1 ∧ 111 = 110 + 1 := by decide +kernel
theorem c216_111 : mj_Y.code kY 216 111 = some (.goto 4) ∧ mj_tg 111 4 = some 115 := by decide +kernel
theorem c216_114 : mj_Y.code kY 216 114 = some (.iconst 0) ∧ Int32.ofInt 0 = 0 ∧ 115 = 114 + 1 := by decide +kernel
theorem c216_115 : mj_Y.code kY 216 115 = some (.istore 4) ∧ 4 = 4 ∧ 4 < mj_Y.nL kY 216 ∧ 117 = 115 + 2 := by decide +kernel
theorem c216_117 : mj_Y.code kY 216 117 = some (.iload 4) ∧ 4 = 4 ∧ 119 = 117 + 2 := by decide +kernel
theorem c216_119 : mj_Y.code kY 216 119 = some (.ifCond .ne 15) ∧ mj_tg 119 15 = some 134 ∧ 122 = 119 + 3 := by decide +kernel
theorem c216_122 : mj_Y.code kY 216 122 = some (.aload_n 0) ∧ ((0 : Fin 4) : Nat) = 0 ∧ 123 = 122 + 1 := by decide +kernel
theorem c216_123 : mj_Y.code kY 216 123 = some (.getfield 177) ∧ mj_Y.fl kY 216 177 12 = some (26, .int, true) ∧ 126 = 123 + 3 := by decide +kernel
theorem c216_126 : mj_Y.code kY 216 126 = some (.iload_n 1) ∧ ((1 : Fin 4) : Nat) = 1 ∧ 127 = 126 + 1 := by decide +kernel
theorem c216_127 : mj_Y.code kY 216 127 = some (.iload_n 2) ∧ ((2 : Fin 4) : Nat) = 2 ∧ 128 = 127 + 1 := by decide +kernel
theorem c216_128 : mj_Y.code kY 216 128 = some (.invokestatic 145) ∧ mj_Y.pr kY 216 145 = none ∧ mj_Y.cs kY 216 145 = some (205, 3) ∧ mj_Y.nL kY 205 = 3 ∧ 131 = 128 + 3 := by decide +kernel
theorem c216_131 : mj_Y.code kY 216 131 = some (.ifCond .ne 11) ∧ mj_tg 131 11 = some 142 ∧ 134 = 131 + 3 := by decide +kernel
theorem c216_134 : mj_Y.code kY 216 134 = some (.aload_n 0) ∧ ((0 : Fin 4) : Nat) = 0 ∧ 135 = 134 + 1 := by decide +kernel
theorem c216_135 : mj_Y.code kY 216 135 = some (.iload_n 3) ∧ ((3 : Fin 4) : Nat) = 3 ∧ 136 = 135 + 1 := by decide +kernel
theorem c216_136 : mj_Y.code kY 216 136 = some (.invokevirtual 169) ∧ mj_Y.na kY 216 169 = some 1 ∧ mj_Y.cv kY 216 169 12 = some 213 ∧ mj_Y.nL kY 213 = 2 ∧ 139 = 136 + 3 := by decide +kernel
theorem c216_139 : mj_Y.code kY 216 139 = some (.ifCond .eq 7) ∧ mj_tg 139 7 = some 146 ∧ 142 = 139 + 3 := by decide +kernel
theorem c216_142 : mj_Y.code kY 216 142 = some (.iconst 1) ∧ Int32.ofInt 1 = 1 ∧ 143 = 142 + 1 := by decide +kernel
theorem c216_143 : mj_Y.code kY 216 143 = some (.goto 4) ∧ mj_tg 143 4 = some 147 := by decide +kernel
theorem c216_146 : mj_Y.code kY 216 146 = some (.iconst 0) ∧ Int32.ofInt 0 = 0 ∧ 147 = 146 + 1 := by decide +kernel
theorem c216_147 : mj_Y.code kY 216 147 = some .ireturn ∧ mj_Y.rt kY 216 = some .boolean := by decide +kernel
