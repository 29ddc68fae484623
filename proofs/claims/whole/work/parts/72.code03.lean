theorem c240_0 : mj_Y.code kY 240 0 = some (.lload_n 0) ∧ ((0 : Fin 4) : Nat) = 0 ∧ 1 = 0 + 1 := by decide +kernel
theorem c240_1 : mj_Y.code kY 240 1 = some (.lload_n 0) ∧ ((0 : Fin 4) : Nat) = 0 ∧ 2 = 1 + 1 := by decide +kernel
theorem c240_2 : mj_Y.code kY 240 2 = some (.lload_n 2) ∧ ((2 : Fin 4) : Nat) = 2 ∧ 3 = 2 + 1 := by decide +kernel
theorem c240_3 : mj_Y.code kY 240 3 = some (.invokestatic 284) ∧ mj_Y.pr kY 240 284 = none ∧ mj_Y.cs kY 240 284 = some (241, 2) ∧ mj_Y.nL kY 241 = 10 ∧ 6 = 3 + 3 := by decide +kernel
theorem c240_6 : mj_Y.code kY 240 6 = some .ldiv ∧ 7 = 6 + 1 := by decide +kernel
theorem c240_7 : mj_Y.code kY 240 7 = some (.lload_n 2) ∧ ((2 : Fin 4) : Nat) = 2 ∧ 8 = 7 + 1 := by decide +kernel
theorem c240_8 : mj_Y.code kY 240 8 = some (.invokestatic 280) ∧ mj_Y.pr kY 240 280 = none ∧ mj_Y.cs kY 240 280 = some (237, 2) ∧ mj_Y.nL kY 237 = 4 ∧ 11 = 8 + 3 := by decide +kernel
theorem c240_11 : mj_Y.code kY 240 11 = some .lreturn ∧ mj_Y.rt kY 240 = some .long := by decide +kernel
theorem c241_0 : mj_Y.code kY 241 0 = some (.lload_n 0) ∧ ((0 : Fin 4) : Nat) = 0 ∧ 1 = 0 + 1 := by decide +kernel
theorem c241_1 : mj_Y.code kY 241 1 = some (.lstore 4) ∧ 4 = 4 ∧ 4 + 1 < mj_Y.nL kY 241 ∧ 3 = 1 + 2 := by decide +kernel
theorem c241_3 : mj_Y.code kY 241 3 = some (.lload_n 2) ∧ ((2 : Fin 4) : Nat) = 2 ∧ 4 = 3 + 1 := by decide +kernel
theorem c241_4 : mj_Y.code kY 241 4 = some (.lstore 6) ∧ 6 = 6 ∧ 6 + 1 < mj_Y.nL kY 241 ∧ 6 = 4 + 2 := by decide +kernel
theorem c241_6 : mj_Y.code kY 241 6 = some (.lload 6) ∧ 6 = 6 ∧ 8 = 6 + 2 := by decide +kernel
theorem c241_8 : mj_Y.code kY 241 8 = some (.lconst 0) ∧ Int64.ofNat ((0 : Fin 2) : Nat) = 0 ∧ 9 = 8 + 1 := by decide +kernel
theorem c241_9 : mj_Y.code kY 241 9 = some .lcmp ∧ 10 = 9 + 1 := by decide +kernel
theorem c241_10 : mj_Y.code kY 241 10 = some (.ifCond .le 21) ∧ mj_tg 10 21 = some 31 ∧ 13 = 10 + 3 := by decide +kernel
theorem c241_13 : mj_Y.code kY 241 13 = some (.lload 4) ∧ 4 = 4 ∧ 15 = 13 + 2 := by decide +kernel
theorem c241_15 : mj_Y.code kY 241 15 = some (.lload 6) ∧ 6 = 6 ∧ 17 = 15 + 2 := by decide +kernel
theorem c241_17 : mj_Y.code kY 241 17 = some .lrem ∧ 18 = 17 + 1 := by decide +kernel
theorem c241_18 : mj_Y.code kY 241 18 = some (.lstore 8) ∧ 8 = 8 ∧ 8 + 1 < mj_Y.nL kY 241 ∧ 20 = 18 + 2 := by decide +kernel
theorem c241_20 : mj_Y.code kY 241 20 = some (.lload 6) ∧ 6 = 6 ∧ 22 = 20 + 2 := by decide +kernel
theorem c241_22 : mj_Y.code kY 241 22 = some (.lstore 4) ∧ 4 = 4 ∧ 4 + 1 < mj_Y.nL kY 241 ∧ 24 = 22 + 2 := by decide +kernel
theorem c241_24 : mj_Y.code kY 241 24 = some (.lload 8) ∧ 8 = 8 ∧ 26 = 24 + 2 := by decide +kernel
theorem c241_26 : mj_Y.code kY 241 26 = some (.lstore 6) ∧ 6 = 6 ∧ 6 + 1 < mj_Y.nL kY 241 ∧ 28 = 26 + 2 := by decide +kernel
theorem c241_28 : mj_Y.code kY 241 28 = some (.goto (-22)) ∧ mj_tg 28 (-22) = some 6 := by decide +kernel
theorem c241_31 : mj_Y.code kY 241 31 = some (.lload 4) ∧ 4 = 4 ∧ 33 = 31 + 2 := by decide +kernel
theorem c241_33 : mj_Y.code kY 241 33 = some .lreturn ∧ mj_Y.rt kY 241 = some .long := by decide +kernel
theorem c242_0 : mj_Y.code kY 242 0 = some (.aload_n 0) ∧ ((0 : Fin 4) : Nat) = 0 ∧ 1 = 0 + 1 := by decide +kernel
theorem c242_1 : mj_Y.code kY 242 1 = some (.iload_n 1) ∧ ((1 : Fin 4) : Nat) = 1 ∧ 2 = 1 + 1 := by decide +kernel
theorem c242_2 : mj_Y.code kY 242 2 = some (.putfield 142) ∧ mj_Y.fl kY 242 142 12 = some (0, .int, true) ∧ 5 = 2 + 3 := by decide +kernel
theorem c242_5 : mj_Y.code kY 242 5 = some (.iconst 0) ∧ Int32.ofInt 0 = 0 ∧ 6 = 5 + 1 := by decide +kernel
theorem c242_6 : mj_Y.code kY 242 6 = some .ireturn ∧ mj_Y.rt kY 242 = some .int := by decide +kernel
theorem c243_0 : mj_Y.code kY 243 0 = some (.aload_n 0) ∧ ((0 : Fin 4) : Nat) = 0 ∧ 1 = 0 + 1 := by decide +kernel
theorem c243_1 : mj_Y.code kY 243 1 = some (.getfield 17) ∧ mj_Y.fl kY 243 17 12 = some (4, (.array .boolean), false) ∧ 4 = 1 + 3 := by decide +kernel
theorem c243_4 : mj_Y.code kY 243 4 = some (.iload_n 1) ∧ ((1 : Fin 4) : Nat) = 1 ∧ 5 = 4 + 1 := by decide +kernel
theorem c243_5 : mj_Y.code kY 243 5 = some (.iconst 1) ∧ Int32.ofInt 1 = 1 ∧ 6 = 5 + 1 := by decide +kernel
theorem c243_6 : mj_Y.code kY 243 6 = some .bastore ∧ 7 = 6 + 1 := by decide +kernel
theorem c243_7 : mj_Y.code kY 243 7 = some (.aload_n 0) ∧ ((0 : Fin 4) : Nat) = 0 ∧ 8 = 7 + 1 := by decide +kernel
theorem c243_8 : mj_Y.code kY 243 8 = some (.getfield 21) ∧ mj_Y.fl kY 243 21 12 = some (5, (.array .int), false) ∧ 11 = 8 + 3 := by decide +kernel
theorem c243_11 : mj_Y.code kY 243 11 = some (.iload_n 1) ∧ ((1 : Fin 4) : Nat) = 1 ∧ 12 = 11 + 1 := by decide +kernel
theorem c243_12 : mj_Y.code kY 243 12 = some (.aload_n 0) ∧ ((0 : Fin 4) : Nat) = 0 ∧ 13 = 12 + 1 := by decide +kernel
theorem c243_13 : mj_Y.code kY 243 13 = some (.getfield 21) ∧ mj_Y.fl kY 243 21 12 = some (5, (.array .int), false) ∧ 16 = 13 + 3 := by decide +kernel
theorem c243_16 : mj_Y.code kY 243 16 = some (.iconst 3) ∧ Int32.ofInt 3 = 3 ∧ 17 = 16 + 1 := by decide +kernel
theorem c243_17 : mj_Y.code kY 243 17 = some .iaload ∧ 18 = 17 + 1 := by decide +kernel
theorem c243_18 : mj_Y.code kY 243 18 = some .iastore ∧ 19 = 18 + 1 := by decide +kernel
theorem c243_19 : mj_Y.code kY 243 19 = some (.iconst 0) ∧ Int32.ofInt 0 = 0 ∧ 20 = 19 + 1 := by decide +kernel
theorem c243_20 : mj_Y.code kY 243 20 = some (.istore_n 2) ∧ ((2 : Fin 4) : Nat) = 2 ∧ 2 < mj_Y.nL kY 243 ∧ 21 = 20 + 1 := by decide +kernel
theorem c243_21 : mj_Y.code kY 243 21 = some (.iload_n 2) ∧ ((2 : Fin 4) : Nat) = 2 ∧ 22 = 21 + 1 := by decide +kernel
theorem c243_22 : mj_Y.code kY 243 22 = some (.bipush 24) ∧ (Int8.ofInt 24).toInt32 = 24 ∧ 24 = 22 + 2 := by decide +kernel
theorem c243_24 : mj_Y.code kY 243 24 = some (.if_icmp .ge 113) ∧ mj_tg 24 113 = some 137 ∧ 27 = 24 + 3 := by decide +kernel
theorem c243_27 : mj_Y.code kY 243 27 = some (.bipush 72) ∧ (Int8.ofInt 72).toInt32 = 72 ∧ 29 = 27 + 2 := by decide +kernel
theorem c243_29 : mj_Y.code kY 243 29 = some (.iload_n 2) ∧ ((2 : Fin 4) : Nat) = 2 ∧ 30 = 29 + 1 := by decide +kernel
theorem c243_30 : mj_Y.code kY 243 30 = some .iadd ∧ 31 = 30 + 1 := by decide +kernel
theorem c243_31 : mj_Y.code kY 243 31 = some (.istore_n 3) ∧ ((3 : Fin 4) : Nat) = 3 ∧ 3 < mj_Y.nL kY 243 ∧ 32 = 31 + 1 := by decide +kernel
theorem c243_32 : mj_Y.code kY 243 32 = some (.bipush 24) ∧ (Int8.ofInt 24).toInt32 = 24 ∧ 34 = 32 + 2 := by decide +kernel
theorem c243_34 : mj_Y.code kY 243 34 = some (.iload_n 1) ∧ ((1 : Fin 4) : Nat) = 1 ∧ 35 = 34 + 1 := by decide +kernel
theorem c243_35 : mj_Y.code kY 243 35 = some .imul ∧ 36 = 35 + 1 := by decide +kernel
theorem c243_36 : mj_Y.code kY 243 36 = some (.iload_n 2) ∧ ((2 : Fin 4) : Nat) = 2 ∧ 37 = 36 + 1 := by decide +kernel
theorem c243_37 : mj_Y.code kY 243 37 = some .iadd ∧ 38 = 37 + 1 := by decide +kernel
theorem c243_38 : mj_Y.code kY 243 38 = some (.istore 4) ∧ 4 = 4 ∧ 4 < mj_Y.nL kY 243 ∧ 40 = 38 + 2 := by decide +kernel
theorem c243_40 : mj_Y.code kY 243 40 = some (.aload_n 0) ∧ ((0 : Fin 4) : Nat) = 0 ∧ 41 = 40 + 1 := by decide +kernel
theorem c243_41 : mj_Y.code kY 243 41 = some (.getfield 24) ∧ mj_Y.fl kY 243 24 12 = some (6, (.array .int), false) ∧ 44 = 41 + 3 := by decide +kernel
theorem c243_44 : mj_Y.code kY 243 44 = some (.iload 4) ∧ 4 = 4 ∧ 46 = 44 + 2 := by decide +kernel
theorem c243_46 : mj_Y.code kY 243 46 = some (.aload_n 0) ∧ ((0 : Fin 4) : Nat) = 0 ∧ 47 = 46 + 1 := by decide +kernel
theorem c243_47 : mj_Y.code kY 243 47 = some (.getfield 24) ∧ mj_Y.fl kY 243 24 12 = some (6, (.array .int), false) ∧ 50 = 47 + 3 := by decide +kernel
theorem c243_50 : mj_Y.code kY 243 50 = some (.iload_n 3) ∧ ((3 : Fin 4) : Nat) = 3 ∧ 51 = 50 + 1 := by decide +kernel
theorem c243_51 : mj_Y.code kY 243 51 = some .iaload ∧ 52 = 51 + 1 := by decide +kernel
theorem c243_52 : mj_Y.code kY 243 52 = some .iastore ∧ 53 = 52 + 1 := by decide +kernel
theorem c243_53 : mj_Y.code kY 243 53 = some (.aload_n 0) ∧ ((0 : Fin 4) : Nat) = 0 ∧ 54 = 53 + 1 := by decide +kernel
theorem c243_54 : mj_Y.code kY 243 54 = some (.getfield 27) ∧ mj_Y.fl kY 243 27 12 = some (7, (.array .int), false) ∧ 57 = 54 + 3 := by decide +kernel
theorem c243_57 : mj_Y.code kY 243 57 = some (.iload 4) ∧ 4 = 4 ∧ 59 = 57 + 2 := by decide +kernel
theorem c243_59 : mj_Y.code kY 243 59 = some (.aload_n 0) ∧ ((0 : Fin 4) : Nat) = 0 ∧ 60 = 59 + 1 := by decide +kernel
theorem c243_60 : mj_Y.code kY 243 60 = some (.getfield 27) ∧ mj_Y.fl kY 243 27 12 = some (7, (.array .int), false) ∧ 63 = 60 + 3 := by decide +kernel
theorem c243_63 : mj_Y.code kY 243 63 = some (.iload_n 3) ∧ ((3 : Fin 4) : Nat) = 3 ∧ 64 = 63 + 1 := by decide +kernel
theorem c243_64 : mj_Y.code kY 243 64 = some .iaload ∧ 65 = 64 + 1 := by decide +kernel
theorem c243_65 : mj_Y.code kY 243 65 = some .iastore ∧ 66 = 65 + 1 := by decide +kernel
theorem c243_66 : mj_Y.code kY 243 66 = some (.aload_n 0) ∧ ((0 : Fin 4) : Nat) = 0 ∧ 67 = 66 + 1 := by decide +kernel
theorem c243_67 : mj_Y.code kY 243 67 = some (.getfield 30) ∧ mj_Y.fl kY 243 30 12 = some (8, (.array .int), false) ∧ 70 = 67 + 3 := by decide +kernel
theorem c243_70 : mj_Y.code kY 243 70 = some (.iload 4) ∧ 4 = 4 ∧ 72 = 70 + 2 := by decide +kernel
theorem c243_72 : mj_Y.code kY 243 72 = some (.aload_n 0) ∧ ((0 : Fin 4) : Nat) = 0 ∧ 73 = 72 + 1 := by decide +kernel
theorem c243_73 : mj_Y.code kY 243 73 = some (.getfield 30) ∧ mj_Y.fl kY 243 30 12 = some (8, (.array .int), false) ∧ 76 = 73 + 3 := by decide +kernel
theorem c243_76 : mj_Y.code kY 243 76 = some (.iload_n 3) ∧ ((3 : Fin 4) : Nat) = 3 ∧ 77 = 76 + 1 := by decide +kernel
theorem c243_77 : mj_Y.code kY 243 77 = some .iaload ∧ 78 = 77 + 1 := by decide +kernel
theorem c243_78 : mj_Y.code kY 243 78 = some .iastore ∧ 79 = 78 + 1 := by decide +kernel
theorem c243_79 : mj_Y.code kY 243 79 = some (.aload_n 0) ∧ ((0 : Fin 4) : Nat) = 0 ∧ 80 = 79 + 1 := by decide +kernel
theorem c243_80 : mj_Y.code kY 243 80 = some (.getfield 33) ∧ mj_Y.fl kY 243 33 12 = some (9, (.array .int), false) ∧ 83 = 80 + 3 := by decide +kernel
theorem c243_83 : mj_Y.code kY 243 83 = some (.iload 4) ∧ 4 = 4 ∧ 85 = 83 + 2 := by decide +kernel
theorem c243_85 : mj_Y.code kY 243 85 = some (.aload_n 0) ∧ ((0 : Fin 4) : Nat) = 0 ∧ 86 = 85 + 1 := by decide +kernel
theorem c243_86 : mj_Y.code kY 243 86 = some (.getfield 33) ∧ mj_Y.fl kY 243 33 12 = some (9, (.array .int), false) ∧ 89 = 86 + 3 := by decide +kernel
theorem c243_89 : mj_Y.code kY 243 89 = some (.iload_n 3) ∧ ((3 : Fin 4) : Nat) = 3 ∧ 90 = 89 + 1 := by decide +kernel
theorem c243_90 : mj_Y.code kY 243 90 = some .iaload ∧ 91 = 90 + 1 := by decide +kernel
theorem c243_91 : mj_Y.code kY 243 91 = some .iastore ∧ 92 = 91 + 1 := by decide +kernel
theorem c243_92 : mj_Y.code kY 243 92 = some (.aload_n 0) ∧ ((0 : Fin 4) : Nat) = 0 ∧ 93 = 92 + 1 := by decide +kernel
theorem c243_93 : mj_Y.code kY 243 93 = some (.getfield 36) ∧ mj_Y.fl kY 243 36 12 = some (10, (.array .int), false) ∧ 96 = 93 + 3 := by decide +kernel
theorem c243_96 : mj_Y.code kY 243 96 = some (.iload 4) ∧ 4 = 4 ∧ 98 = 96 + 2 := by decide +kernel
theorem c243_98 : mj_Y.code kY 243 98 = some (.aload_n 0) ∧ ((0 : Fin 4) : Nat) = 0 ∧ 99 = 98 + 1 := by decide +kernel
theorem c243_99 : mj_Y.code kY 243 99 = some (.getfield 36) ∧ mj_Y.fl kY 243 36 12 = some (10, (.array .int), false) ∧ 102 = 99 + 3 := by decide +kernel
theorem c243_102 : mj_Y.code kY 243 102 = some (.iload_n 3) ∧ ((3 : Fin 4) : Nat) = 3 ∧ 103 = 102 + 1 := by decide +kernel
theorem c243_103 : mj_Y.code kY 243 103 = some .iaload ∧ 104 = 103 + 1 := by decide +kernel
theorem c243_104 : mj_Y.code kY 243 104 = some .iastore ∧ 105 = 104 + 1 := by decide +kernel
theorem c243_105 : mj_Y.code kY 243 105 = some (.aload_n 0) ∧ ((0 : Fin 4) : Nat) = 0 ∧ 106 = 105 + 1 := by decide +kernel
theorem c243_106 : mj_Y.code kY 243 106 = some (.getfield 39) ∧ mj_Y.fl kY 243 39 12 = some (11, (.array .int), false) ∧ 109 = 106 + 3 := by decide +kernel
theorem c243_109 : mj_Y.code kY 243 109 = some (.iload 4) ∧ 4 = 4 ∧ 111 = 109 + 2 := by decide +kernel
theorem c243_111 : mj_Y.code kY 243 111 = some (.aload_n 0) ∧ ((0 : Fin 4) : Nat) = 0 ∧ 112 = 111 + 1 := by decide +kernel
theorem c243_112 : mj_Y.code kY 243 112 = some (.getfield 39) ∧ mj_Y.fl kY 243 39 12 = some (11, (.array .int), false) ∧ 115 = 112 + 3 := by decide +kernel
theorem c243_115 : mj_Y.code kY 243 115 = some (.iload_n 3) ∧ ((3 : Fin 4) : Nat) = 3 ∧ 116 = 115 + 1 := by decide +kernel
theorem c243_116 : mj_Y.code kY 243 116 = some .iaload ∧ 117 = 116 + 1 := by decide +kernel
theorem c243_117 : mj_Y.code kY 243 117 = some .iastore ∧ 118 = 117 + 1 := by decide +kernel
theorem c243_118 : mj_Y.code kY 243 118 = some (.aload_n 0) ∧ ((0 : Fin 4) : Nat) = 0 ∧ 119 = 118 + 1 := by decide +kernel
theorem c243_119 : mj_Y.code kY 243 119 = some (.getfield 42) ∧ mj_Y.fl kY 243 42 12 = some (12, (.array .long), false) ∧ 122 = 119 + 3 := by decide +kernel
theorem c243_122 : mj_Y.code kY 243 122 = some (.iload 4) ∧ 4 = 4 ∧ 124 = 122 + 2 := by decide +kernel
theorem c243_124 : mj_Y.code kY 243 124 = some (.aload_n 0) ∧ ((0 : Fin 4) : Nat) = 0 ∧ 125 = 124 + 1 := by decide +kernel
theorem c243_125 : mj_Y.code kY 243 125 = some (.getfield 42) ∧ mj_Y.fl kY 243 42 12 = some (12, (.array .long), false) ∧ 128 = 125 + 3 := by decide +kernel
theorem c243_128 : mj_Y.code kY 243 128 = some (.iload_n 3) ∧ ((3 : Fin 4) : Nat) = 3 ∧ 129 = 128 + 1 := by decide +kernel
theorem c243_129 : mj_Y.code kY 243 129 = some .laload ∧ 130 = 129 + 1 := by decide +kernel
theorem c243_130 : mj_Y.code kY 243 130 = some .lastore ∧ 131 = 130 + 1 := by decide +kernel
theorem c243_131 : mj_Y.code kY 243 131 = some (.iinc 2 1) ∧ 2 < mj_Y.nL kY 243 ∧ Int32.ofInt 1 = 1 ∧ 134 = 131 + 3 := by decide +kernel
theorem c243_134 : mj_Y.code kY 243 134 = some (.goto (-113)) ∧ mj_tg 134 (-113) = some 21 := by decide +kernel
theorem c243_137 : mj_Y.code kY 243 137 = some (.iconst 0) ∧ Int32.ofInt 0 = 0 ∧ 138 = 137 + 1 := by decide +kernel
theorem c243_138 : mj_Y.code kY 243 138 = some (.istore_n 2) ∧ ((2 : Fin 4) : Nat) = 2 ∧ 2 < mj_Y.nL kY 243 ∧ 139 = 138 + 1 := by decide +kernel
theorem c243_139 : mj_Y.code kY 243 139 = some (.iload_n 2) ∧ ((2 : Fin 4) : Nat) = 2 ∧ 140 = 139 + 1 := by decide +kernel
theorem c243_140 : mj_Y.code kY 243 140 = some (.sipush 160) ∧ (Int16.ofInt 160).toInt32 = 160 ∧ 143 = 140 + 3 := by decide +kernel
theorem c243_143 : mj_Y.code kY 243 143 = some (.if_icmp .ge 128) ∧ mj_tg 143 128 = some 271 ∧ 146 = 143 + 3 := by decide +kernel
theorem c243_146 : mj_Y.code kY 243 146 = some (.sipush 480) ∧ (Int16.ofInt 480).toInt32 = 480 ∧ 149 = 146 + 3 := by decide +kernel
theorem c243_149 : mj_Y.code kY 243 149 = some (.iload_n 2) ∧ ((2 : Fin 4) : Nat) = 2 ∧ 150 = 149 + 1 := by decide +kernel
theorem c243_150 : mj_Y.code kY 243 150 = some .iadd ∧ 151 = 150 + 1 := by decide +kernel
theorem c243_151 : mj_Y.code kY 243 151 = some (.istore_n 3) ∧ ((3 : Fin 4) : Nat) = 3 ∧ 3 < mj_Y.nL kY 243 ∧ 152 = 151 + 1 := by decide +kernel
theorem c243_152 : mj_Y.code kY 243 152 = some (.sipush 160) ∧ (Int16.ofInt 160).toInt32 = 160 ∧ 155 = 152 + 3 := by decide +kernel
theorem c243_155 : mj_Y.code kY 243 155 = some (.iload_n 1) ∧ ((1 : Fin 4) : Nat) = 1 ∧ 156 = 155 + 1 := by decide +kernel
theorem c243_156 : mj_Y.code kY 243 156 = some .imul ∧ 157 = 156 + 1 := by decide +kernel
theorem c243_157 : mj_Y.code kY 243 157 = some (.iload_n 2) ∧ ((2 : Fin 4) : Nat) = 2 ∧ 158 = 157 + 1 := by decide +kernel
theorem c243_158 : mj_Y.code kY 243 158 = some .iadd ∧ 159 = 158 + 1 := by decide +kernel
theorem c243_159 : mj_Y.code kY 243 159 = some (.istore 4) ∧ 4 = 4 ∧ 4 < mj_Y.nL kY 243 ∧ 161 = 159 + 2 := by decide +kernel
theorem c243_161 : mj_Y.code kY 243 161 = some (.aload_n 0) ∧ ((0 : Fin 4) : Nat) = 0 ∧ 162 = 161 + 1 := by decide +kernel
theorem c243_162 : mj_Y.code kY 243 162 = some (.getfield 46) ∧ mj_Y.fl kY 243 46 12 = some (13, (.array .int), false) ∧ 165 = 162 + 3 := by decide +kernel
theorem c243_165 : mj_Y.code kY 243 165 = some (.iload 4) ∧ 4 = 4 ∧ 167 = 165 + 2 := by decide +kernel
theorem c243_167 : mj_Y.code kY 243 167 = some (.aload_n 0) ∧ ((0 : Fin 4) : Nat) = 0 ∧ 168 = 167 + 1 := by decide +kernel
theorem c243_168 : mj_Y.code kY 243 168 = some (.getfield 46) ∧ mj_Y.fl kY 243 46 12 = some (13, (.array .int), false) ∧ 171 = 168 + 3 := by decide +kernel
theorem c243_171 : mj_Y.code kY 243 171 = some (.iload_n 3) ∧ ((3 : Fin 4) : Nat) = 3 ∧ 172 = 171 + 1 := by decide +kernel
theorem c243_172 : mj_Y.code kY 243 172 = some .iaload ∧ 173 = 172 + 1 := by decide +kernel
theorem c243_173 : mj_Y.code kY 243 173 = some .iastore ∧ 174 = 173 + 1 := by decide +kernel
theorem c243_174 : mj_Y.code kY 243 174 = some (.aload_n 0) ∧ ((0 : Fin 4) : Nat) = 0 ∧ 175 = 174 + 1 := by decide +kernel
theorem c243_175 : mj_Y.code kY 243 175 = some (.getfield 49) ∧ mj_Y.fl kY 243 49 12 = some (14, (.array .int), false) ∧ 178 = 175 + 3 := by decide +kernel
theorem c243_178 : mj_Y.code kY 243 178 = some (.iload 4) ∧ 4 = 4 ∧ 180 = 178 + 2 := by decide +kernel
theorem c243_180 : mj_Y.code kY 243 180 = some (.aload_n 0) ∧ ((0 : Fin 4) : Nat) = 0 ∧ 181 = 180 + 1 := by decide +kernel
theorem c243_181 : mj_Y.code kY 243 181 = some (.getfield 49) ∧ mj_Y.fl kY 243 49 12 = some (14, (.array .int), false) ∧ 184 = 181 + 3 := by decide +kernel
theorem c243_184 : mj_Y.code kY 243 184 = some (.iload_n 3) ∧ ((3 : Fin 4) : Nat) = 3 ∧ 185 = 184 + 1 := by decide +kernel
theorem c243_185 : mj_Y.code kY 243 185 = some .iaload ∧ 186 = 185 + 1 := by decide +kernel
theorem c243_186 : mj_Y.code kY 243 186 = some .iastore ∧ 187 = 186 + 1 := by decide +kernel
theorem c243_187 : mj_Y.code kY 243 187 = some (.aload_n 0) ∧ ((0 : Fin 4) : Nat) = 0 ∧ 188 = 187 + 1 := by decide +kernel
theorem c243_188 : mj_Y.code kY 243 188 = some (.getfield 52) ∧ mj_Y.fl kY 243 52 12 = some (15, (.array .int), false) ∧ 191 = 188 + 3 := by decide +kernel
theorem c243_191 : mj_Y.code kY 243 191 = some (.iload 4) ∧ 4 = 4 ∧ 193 = 191 + 2 := by decide +kernel
theorem c243_193 : mj_Y.code kY 243 193 = some (.aload_n 0) ∧ ((0 : Fin 4) : Nat) = 0 ∧ 194 = 193 + 1 := by decide +kernel
theorem c243_194 : mj_Y.code kY 243 194 = some (.getfield 52) ∧ mj_Y.fl kY 243 52 12 = some (15, (.array .int), false) ∧ 197 = 194 + 3 := by decide +kernel
theorem c243_197 : mj_Y.code kY 243 197 = some (.iload_n 3) ∧ ((3 : Fin 4) : Nat) = 3 ∧ 198 = 197 + 1 := by decide +kernel
theorem c243_198 : mj_Y.code kY 243 198 = some .iaload ∧ 199 = 198 + 1 := by decide +kernel
theorem c243_199 : mj_Y.code kY 243 199 = some .iastore ∧ 200 = 199 + 1 := by decide +kernel
theorem c243_200 : mj_Y.code kY 243 200 = some (.aload_n 0) ∧ ((0 : Fin 4) : Nat) = 0 ∧ 201 = 200 + 1 := by decide +kernel
theorem c243_201 : mj_Y.code kY 243 201 = some (.getfield 55) ∧ mj_Y.fl kY 243 55 12 = some (16, (.array .int), false) ∧ 204 = 201 + 3 := by decide +kernel
theorem c243_204 : mj_Y.code kY 243 204 = some (.iload 4) ∧ 4 = 4 ∧ 206 = 204 + 2 := by decide +kernel
theorem c243_206 : mj_Y.code kY 243 206 = some (.aload_n 0) ∧ ((0 : Fin 4) : Nat) = 0 ∧ 207 = 206 + 1 := by decide +kernel
theorem c243_207 : mj_Y.code kY 243 207 = some (.getfield 55) ∧ mj_Y.fl kY 243 55 12 = some (16, (.array .int), false) ∧ 210 = 207 + 3 := by decide +kernel
theorem c243_210 : mj_Y.code kY 243 210 = some (.iload_n 3) ∧ ((3 : Fin 4) : Nat) = 3 ∧ 211 = 210 + 1 := by decide +kernel
theorem c243_211 : mj_Y.code kY 243 211 = some .iaload ∧ 212 = 211 + 1 := by decide +kernel
theorem c243_212 : mj_Y.code kY 243 212 = some .iastore ∧ 213 = 212 + 1 := by decide +kernel
theorem c243_213 : mj_Y.code kY 243 213 = some (.aload_n 0) ∧ ((0 : Fin 4) : Nat) = 0 ∧ 214 = 213 + 1 := by decide +kernel
theorem c243_214 : mj_Y.code kY 243 214 = some (.getfield 58) ∧ mj_Y.fl kY 243 58 12 = some (17, (.array .int), false) ∧ 217 = 214 + 3 := by decide +kernel
theorem c243_217 : mj_Y.code kY 243 217 = some (.iload 4) ∧ 4 = 4 ∧ 219 = 217 + 2 := by decide +kernel
theorem c243_219 : mj_Y.code kY 243 219 = some (.aload_n 0) ∧ ((0 : Fin 4) : Nat) = 0 ∧ 220 = 219 + 1 := by decide +kernel
theorem c243_220 : mj_Y.code kY 243 220 = some (.getfield 58) ∧ mj_Y.fl kY 243 58 12 = some (17, (.array .int), false) ∧ 223 = 220 + 3 := by decide +kernel
theorem c243_223 : mj_Y.code kY 243 223 = some (.iload_n 3) ∧ ((3 : Fin 4) : Nat) = 3 ∧ 224 = 223 + 1 := by decide +kernel
theorem c243_224 : mj_Y.code kY 243 224 = some .iaload ∧ 225 = 224 + 1 := by decide +kernel
theorem c243_225 : mj_Y.code kY 243 225 = some .iastore ∧ 226 = 225 + 1 := by decide +kernel
theorem c243_226 : mj_Y.code kY 243 226 = some (.aload_n 0) ∧ ((0 : Fin 4) : Nat) = 0 ∧ 227 = 226 + 1 := by decide +kernel
theorem c243_227 : mj_Y.code kY 243 227 = some (.getfield 61) ∧ mj_Y.fl kY 243 61 12 = some (18, (.array .int), false) ∧ 230 = 227 + 3 := by decide +kernel
theorem c243_230 : mj_Y.code kY 243 230 = some (.iload 4) ∧ 4 = 4 ∧ 232 = 230 + 2 := by decide +kernel
theorem c243_232 : mj_Y.code kY 243 232 = some (.aload_n 0) ∧ ((0 : Fin 4) : Nat) = 0 ∧ 233 = 232 + 1 := by decide +kernel
theorem c243_233 : mj_Y.code kY 243 233 = some (.getfield 61) ∧ mj_Y.fl kY 243 61 12 = some (18, (.array .int), false) ∧ 236 = 233 + 3 := by decide +kernel
theorem c243_236 : mj_Y.code kY 243 236 = some (.iload_n 3) ∧ ((3 : Fin 4) : Nat) = 3 ∧ 237 = 236 + 1 := by decide +kernel
theorem c243_237 : mj_Y.code kY 243 237 = some .iaload ∧ 238 = 237 + 1 := by decide +kernel
theorem c243_238 : mj_Y.code kY 243 238 = some .iastore ∧ 239 = 238 + 1 := by decide +kernel
theorem c243_239 : mj_Y.code kY 243 239 = some (.aload_n 0) ∧ ((0 : Fin 4) : Nat) = 0 ∧ 240 = 239 + 1 := by decide +kernel
theorem c243_240 : mj_Y.code kY 243 240 = some (.getfield 64) ∧ mj_Y.fl kY 243 64 12 = some (19, (.array .int), false) ∧ 243 = 240 + 3 := by decide +kernel
theorem c243_243 : mj_Y.code kY 243 243 = some (.iload 4) ∧ 4 = 4 ∧ 245 = 243 + 2 := by decide +kernel
theorem c243_245 : mj_Y.code kY 243 245 = some (.aload_n 0) ∧ ((0 : Fin 4) : Nat) = 0 ∧ 246 = 245 + 1 := by decide +kernel
theorem c243_246 : mj_Y.code kY 243 246 = some (.getfield 64) ∧ mj_Y.fl kY 243 64 12 = some (19, (.array .int), false) ∧ 249 = 246 + 3 := by decide +kernel
theorem c243_249 : mj_Y.code kY 243 249 = some (.iload_n 3) ∧ ((3 : Fin 4) : Nat) = 3 ∧ 250 = 249 + 1 := by decide +kernel
theorem c243_250 : mj_Y.code kY 243 250 = some .iaload ∧ 251 = 250 + 1 := by decide +kernel
theorem c243_251 : mj_Y.code kY 243 251 = some .iastore ∧ 252 = 251 + 1 := by decide +kernel
theorem c243_252 : mj_Y.code kY 243 252 = some (.aload_n 0) ∧ ((0 : Fin 4) : Nat) = 0 ∧ 253 = 252 + 1 := by decide +kernel
theorem c243_253 : mj_Y.code kY 243 253 = some (.getfield 67) ∧ mj_Y.fl kY 243 67 12 = some (20, (.array .int), false) ∧ 256 = 253 + 3 := by decide +kernel
theorem c243_256 : mj_Y.code kY 243 256 = some (.iload 4) ∧ 4 = 4 ∧ 258 = 256 + 2 := by decide +kernel
theorem c243_258 : mj_Y.code kY 243 258 = some (.aload_n 0) ∧ ((0 : Fin 4) : Nat) = 0 ∧ 259 = 258 + 1 := by decide +kernel
theorem c243_259 : mj_Y.code kY 243 259 = some (.getfield 67) ∧ mj_Y.fl kY 243 67 12 = some (20, (.array .int), false) ∧ 262 = 259 + 3 := by decide +kernel
theorem c243_262 : mj_Y.code kY 243 262 = some (.iload_n 3) ∧ ((3 : Fin 4) : Nat) = 3 ∧ 263 = 262 + 1 := by decide +kernel
theorem c243_263 : mj_Y.code kY 243 263 = some .iaload ∧ 264 = 263 + 1 := by decide +kernel
theorem c243_264 : mj_Y.code kY 243 264 = some .iastore ∧ 265 = 264 + 1 := by decide +kernel
theorem c243_265 : mj_Y.code kY 243 265 = some (.iinc 2 1) ∧ 2 < mj_Y.nL kY 243 ∧ Int32.ofInt 1 = 1 ∧ 268 = 265 + 3 := by decide +kernel
theorem c243_268 : mj_Y.code kY 243 268 = some (.goto (-129)) ∧ mj_tg 268 (-129) = some 139 := by decide +kernel
theorem c243_271 : mj_Y.code kY 243 271 = some .return_ ∧ mj_Y.rt kY 243 = none := by decide +kernel
theorem c244_0 : mj_Y.code kY 244 0 = some (.aload_n 0) ∧ ((0 : Fin 4) : Nat) = 0 ∧ 1 = 0 + 1 := by decide +kernel
theorem c244_1 : mj_Y.code kY 244 1 = some (.iconst 0) ∧ Int32.ofInt 0 = 0 ∧ 2 = 1 + 1 := by decide +kernel
theorem c244_2 : mj_Y.code kY 244 2 = some (.putfield 142) ∧ mj_Y.fl kY 244 142 12 = some (0, .int, true) ∧ 5 = 2 + 3 := by decide +kernel
theorem c244_5 : mj_Y.code kY 244 5 = some (.aload_n 0) ∧ ((0 : Fin 4) : Nat) = 0 ∧ 6 = 5 + 1 := by decide +kernel
theorem c244_6 : mj_Y.code kY 244 6 = some (.getfield 13) ∧ mj_Y.fl kY 244 13 12 = some (3, .int, true) ∧ 9 = 6 + 3 := by decide +kernel
theorem c244_9 : mj_Y.code kY 244 9 = some .ireturn ∧ mj_Y.rt kY 244 = some .int := by decide +kernel
theorem c245_0 : mj_Y.code kY 245 0 = some (.aload_n 0) ∧ ((0 : Fin 4) : Nat) = 0 ∧ 1 = 0 + 1 := by decide +kernel
theorem c245_1 : mj_Y.code kY 245 1 = some (.aload_n 0) ∧ ((0 : Fin 4) : Nat) = 0 ∧ 2 = 1 + 1 := by decide +kernel
theorem c245_2 : mj_Y.code kY 245 2 = some (.iload_n 1) ∧ ((1 : Fin 4) : Nat) = 1 ∧ 3 = 2 + 1 := by decide +kernel
theorem c245_3 : mj_Y.code kY 245 3 = some (.invokevirtual 359) ∧ mj_Y.na kY 245 359 = some 1 ∧ mj_Y.cv kY 245 359 12 = some 246 ∧ mj_Y.nL kY 246 = 2 ∧ 6 = 3 + 3 := by decide +kernel
theorem c245_6 : mj_Y.code kY 245 6 = some (.putfield 142) ∧ mj_Y.fl kY 245 142 12 = some (0, .int, true) ∧ 9 = 6 + 3 := by decide +kernel
theorem c245_9 : mj_Y.code kY 245 9 = some (.aload_n 0) ∧ ((0 : Fin 4) : Nat) = 0 ∧ 10 = 9 + 1 := by decide +kernel
theorem c245_10 : mj_Y.code kY 245 10 = some (.getfield 142) ∧ mj_Y.fl kY 245 142 12 = some (0, .int, true) ∧ 13 = 10 + 3 := by decide +kernel
theorem c245_13 : mj_Y.code kY 245 13 = some (.ifCond .le 5) ∧ mj_tg 13 5 = some 18 ∧ 16 = 13 + 3 := by decide +kernel
theorem c245_16 : mj_Y.code kY 245 16 = some (.iconst 0) ∧ Int32.ofInt 0 = 0 ∧ 17 = 16 + 1 := by decide +kernel
theorem c245_17 : mj_Y.code kY 245 17 = some .ireturn ∧ mj_Y.rt kY 245 = some .int := by decide +kernel
theorem c245_18 : mj_Y.code kY 245 18 = some (.aload_n 0) ∧ ((0 : Fin 4) : Nat) = 0 ∧ 19 = 18 + 1 := by decide +kernel
theorem c245_19 : mj_Y.code kY 245 19 = some (.iconst 0) ∧ Int32.ofInt 0 = 0 ∧ 20 = 19 + 1 := by decide +kernel
theorem c245_20 : mj_Y.code kY 245 20 = some (.putfield 149) ∧ mj_Y.fl kY 245 149 12 = some (2, .int, true) ∧ 23 = 20 + 3 := by decide +kernel
theorem c245_23 : mj_Y.code kY 245 23 = some (.aload_n 0) ∧ ((0 : Fin 4) : Nat) = 0 ∧ 24 = 23 + 1 := by decide +kernel
theorem c245_24 : mj_Y.code kY 245 24 = some (.iconst 0) ∧ Int32.ofInt 0 = 0 ∧ 25 = 24 + 1 := by decide +kernel
theorem c245_25 : mj_Y.code kY 245 25 = some (.putfield 353) ∧ mj_Y.fl kY 245 353 12 = some (56, .int, true) ∧ 28 = 25 + 3 := by decide +kernel
theorem c245_28 : mj_Y.code kY 245 28 = some (.iconst 0) ∧ Int32.ofInt 0 = 0 ∧ 29 = 28 + 1 := by decide +kernel
theorem c245_29 : mj_Y.code kY 245 29 = some (.istore_n 2) ∧ ((2 : Fin 4) : Nat) = 2 ∧ 2 < mj_Y.nL kY 245 ∧ 30 = 29 + 1 := by decide +kernel
theorem c245_30 : mj_Y.code kY 245 30 = some (.iload_n 2) ∧ ((2 : Fin 4) : Nat) = 2 ∧ 31 = 30 + 1 := by decide +kernel
theorem c245_31 : mj_Y.code kY 245 31 = some (.aload_n 0) ∧ ((0 : Fin 4) : Nat) = 0 ∧ 32 = 31 + 1 := by decide +kernel
theorem c245_32 : mj_Y.code kY 245 32 = some (.getfield 21) ∧ mj_Y.fl kY 245 21 12 = some (5, (.array .int), false) ∧ 35 = 32 + 3 := by decide +kernel
theorem c245_35 : mj_Y.code kY 245 35 = some (.iload_n 1) ∧ ((1 : Fin 4) : Nat) = 1 ∧ 36 = 35 + 1 := by decide +kernel
theorem c245_36 : mj_Y.code kY 245 36 = some .iaload ∧ 37 = 36 + 1 := by decide +kernel
theorem c245_37 : mj_Y.code kY 245 37 = some (.if_icmp .ge 21) ∧ mj_tg 37 21 = some 58 ∧ 40 = 37 + 3 := by decide +kernel
theorem c245_40 : mj_Y.code kY 245 40 = some (.aload_n 0) ∧ ((0 : Fin 4) : Nat) = 0 ∧ 41 = 40 + 1 := by decide +kernel
theorem c245_41 : mj_Y.code kY 245 41 = some (.iload_n 1) ∧ ((1 : Fin 4) : Nat) = 1 ∧ 42 = 41 + 1 := by decide +kernel
theorem c245_42 : mj_Y.code kY 245 42 = some (.iload_n 2) ∧ ((2 : Fin 4) : Nat) = 2 ∧ 43 = 42 + 1 := by decide +kernel
theorem c245_43 : mj_Y.code kY 245 43 = some (.invokevirtual 362) ∧ mj_Y.na kY 245 362 = some 2 ∧ mj_Y.cv kY 245 362 12 = some 247 ∧ mj_Y.nL kY 247 = 6 ∧ 46 = 43 + 3 := by decide +kernel
theorem c245_46 : mj_Y.code kY 245 46 = some (.aload_n 0) ∧ ((0 : Fin 4) : Nat) = 0 ∧ 47 = 46 + 1 := by decide +kernel
theorem c245_47 : mj_Y.code kY 245 47 = some (.iload_n 1) ∧ ((1 : Fin 4) : Nat) = 1 ∧ 48 = 47 + 1 := by decide +kernel
theorem c245_48 : mj_Y.code kY 245 48 = some (.iload_n 2) ∧ ((2 : Fin 4) : Nat) = 2 ∧ 49 = 48 + 1 := by decide +kernel
theorem c245_49 : mj_Y.code kY 245 49 = some (.invokevirtual 365) ∧ mj_Y.na kY 245 365 = some 2 ∧ mj_Y.cv kY 245 365 12 = some 248 ∧ mj_Y.nL kY 248 = 4 ∧ 52 = 49 + 3 := by decide +kernel
theorem c245_52 : mj_Y.code kY 245 52 = some (.iinc 2 1) ∧ 2 < mj_Y.nL kY 245 ∧ Int32.ofInt 1 = 1 ∧ 55 = 52 + 3 := by decide +kernel
theorem c245_55 : mj_Y.code kY 245 55 = some (.goto (-25)) ∧ mj_tg 55 (-25) = some 30 := by decide +kernel
theorem c245_58 : mj_Y.code kY 245 58 = some (.aload_n 0) ∧ ((0 : Fin 4) : Nat) = 0 ∧ 59 = 58 + 1 := by decide +kernel
theorem c245_59 : mj_Y.code kY 245 59 = some (.iload_n 1) ∧ ((1 : Fin 4) : Nat) = 1 ∧ 60 = 59 + 1 := by decide +kernel
theorem c245_60 : mj_Y.code kY 245 60 = some (.aload_n 0) ∧ ((0 : Fin 4) : Nat) = 0 ∧ 61 = 60 + 1 := by decide +kernel
theorem c245_61 : mj_Y.code kY 245 61 = some (.getfield 21) ∧ mj_Y.fl kY 245 21 12 = some (5, (.array .int), false) ∧ 64 = 61 + 3 := by decide +kernel
theorem c245_64 : mj_Y.code kY 245 64 = some (.iload_n 1) ∧ ((1 : Fin 4) : Nat) = 1 ∧ 65 = 64 + 1 := by decide +kernel
theorem c245_65 : mj_Y.code kY 245 65 = some .iaload ∧ 66 = 65 + 1 := by decide +kernel
theorem c245_66 : mj_Y.code kY 245 66 = some (.invokevirtual 362) ∧ mj_Y.na kY 245 362 = some 2 ∧ mj_Y.cv kY 245 362 12 = some 247 ∧ mj_Y.nL kY 247 = 6 ∧ 69 = 66 + 3 := by decide +kernel
theorem c245_69 : mj_Y.code kY 245 69 = some (.aload_n 0) ∧ ((0 : Fin 4) : Nat) = 0 ∧ 70 = 69 + 1 := by decide +kernel
theorem c245_70 : mj_Y.code kY 245 70 = some (.getfield 149) ∧ mj_Y.fl kY 245 149 12 = some (2, .int, true) ∧ 73 = 70 + 3 := by decide +kernel
theorem c245_73 : mj_Y.code kY 245 73 = some .ireturn ∧ mj_Y.rt kY 245 = some .int := by decide +kernel
theorem c246_0 : mj_Y.code kY 246 0 = some (.iload_n 1) ∧ ((1 : Fin 4) : Nat) = 1 ∧ 1 = 0 + 1 := by decide +kernel
theorem c246_1 : mj_Y.code kY 246 1 = some (.invokestatic 312) ∧ mj_Y.pr kY 246 312 = none ∧ mj_Y.cs kY 246 312 = some (210, 1) ∧ mj_Y.nL kY 210 = 1 ∧ 4 = 1 + 3 := by decide +kernel
theorem c246_4 : mj_Y.code kY 246 4 = some (.ifCond .ne 7) ∧ mj_tg 4 7 = some 11 ∧ 7 = 4 + 3 := by decide +kernel
theorem c246_7 : mj_Y.code kY 246 7 = some (.iconst 1) ∧ Int32.ofInt 1 = 1 ∧ 8 = 7 + 1 := by decide +kernel
theorem c246_8 : mj_Y.code kY 246 8 = some (.goto 17) ∧ mj_tg 8 17 = some 25 := by decide +kernel
theorem c246_11 : mj_Y.code kY 246 11 = some (.aload_n 0) ∧ ((0 : Fin 4) : Nat) = 0 ∧ 12 = 11 + 1 := by decide +kernel
theorem c246_12 : mj_Y.code kY 246 12 = some (.getfield 17) ∧ mj_Y.fl kY 246 17 12 = some (4, (.array .boolean), false) ∧ 15 = 12 + 3 := by decide +kernel
theorem c246_15 : mj_Y.code kY 246 15 = some (.iload_n 1) ∧ ((1 : Fin 4) : Nat) = 1 ∧ 16 = 15 + 1 := by decide +kernel
theorem c246_16 : mj_Y.code kY 246 16 = some .baload ∧ 17 = 16 + 1 := by decide +kernel
theorem c246_17 : mj_Y.code kY 246 17 = some (.ifCond .ne 7) ∧ mj_tg 17 7 = some 24 ∧ 20 = 17 + 3 := by decide +kernel
theorem c246_20 : mj_Y.code kY 246 20 = some (.iconst 2) ∧ Int32.ofInt 2 = 2 ∧ 21 = 20 + 1 := by decide +kernel
theorem c246_21 : mj_Y.code kY 246 21 = some (.goto 4) ∧ mj_tg 21 4 = some 25 := by decide +kernel
theorem c246_24 : mj_Y.code kY 246 24 = some (.iconst 0) ∧ Int32.ofInt 0 = 0 ∧ 25 = 24 + 1 := by decide +kernel
theorem c246_25 : mj_Y.code kY 246 25 = some .ireturn ∧ mj_Y.rt kY 246 = some .int := by decide +kernel
theorem c247_0 : mj_Y.code kY 247 0 = some (.aload_n 0) ∧ ((0 : Fin 4) : Nat) = 0 ∧ 1 = 0 + 1 := by decide +kernel
theorem c247_1 : mj_Y.code kY 247 1 = some (.getfield 353) ∧ mj_Y.fl kY 247 353 12 = some (56, .int, true) ∧ 4 = 1 + 3 := by decide +kernel
theorem c247_4 : mj_Y.code kY 247 4 = some (.ifCond .le 7) ∧ mj_tg 4 7 = some 11 ∧ 7 = 4 + 3 := by decide +kernel
theorem c247_7 : mj_Y.code kY 247 7 = some (.iconst 1) ∧ Int32.ofInt 1 = 1 ∧ 8 = 7 + 1 := by decide +kernel
theorem c247_8 : mj_Y.code kY 247 8 = some (.goto 4) ∧ mj_tg 8 4 = some 12 := by decide +kernel
theorem c247_11 : mj_Y.code kY 247 11 = some (.iconst 0) ∧ Int32.ofInt 0 = 0 ∧ 12 = 11 + 1 := by decide +kernel
theorem c247_12 : mj_Y.code kY 247 12 = some (.istore_n 3) ∧ ((3 : Fin 4) : Nat) = 3 ∧ 3 < mj_Y.nL kY 247 ∧ 13 = 12 + 1 := by decide +kernel
theorem c247_13 : mj_Y.code kY 247 13 = some (.iload_n 3) ∧ ((3 : Fin 4) : Nat) = 3 ∧ 14 = 13 + 1 := by decide +kernel
theorem c247_14 : mj_Y.code kY 247 14 = some (.ifCond .eq 172) ∧ mj_tg 14 172 = some 186 ∧ 17 = 14 + 3 := by decide +kernel
theorem c247_17 : mj_Y.code kY 247 17 = some (.bipush 24) ∧ (Int8.ofInt 24).toInt32 = 24 ∧ 19 = 17 + 2 := by decide +kernel
theorem c247_19 : mj_Y.code kY 247 19 = some (.iload_n 1) ∧ ((1 : Fin 4) : Nat) = 1 ∧ 20 = 19 + 1 := by decide +kernel
theorem c247_20 : mj_Y.code kY 247 20 = some .imul ∧ 21 = 20 + 1 := by decide +kernel
theorem c247_21 : mj_Y.code kY 247 21 = some (.aload_n 0) ∧ ((0 : Fin 4) : Nat) = 0 ∧ 22 = 21 + 1 := by decide +kernel
theorem c247_22 : mj_Y.code kY 247 22 = some (.getfield 118) ∧ mj_Y.fl kY 247 118 12 = some (53, (.array .int), false) ∧ 25 = 22 + 3 := by decide +kernel
theorem c247_25 : mj_Y.code kY 247 25 = some (.aload_n 0) ∧ ((0 : Fin 4) : Nat) = 0 ∧ 26 = 25 + 1 := by decide +kernel
theorem c247_26 : mj_Y.code kY 247 26 = some (.getfield 353) ∧ mj_Y.fl kY 247 353 12 = some (56, .int, true) ∧ 29 = 26 + 3 := by decide +kernel
theorem c247_29 : mj_Y.code kY 247 29 = some (.iconst 1) ∧ Int32.ofInt 1 = 1 ∧ 30 = 29 + 1 := by decide +kernel
theorem c247_30 : mj_Y.code kY 247 30 = some .isub ∧ 31 = 30 + 1 := by decide +kernel
theorem c247_31 : mj_Y.code kY 247 31 = some .iaload ∧ 32 = 31 + 1 := by decide +kernel
theorem c247_32 : mj_Y.code kY 247 32 = some .iadd ∧ 33 = 32 + 1 := by decide +kernel
theorem c247_33 : mj_Y.code kY 247 33 = some (.istore 4) ∧ 4 = 4 ∧ 4 < mj_Y.nL kY 247 ∧ 35 = 33 + 2 := by decide +kernel
theorem c247_35 : mj_Y.code kY 247 35 = some (.aload_n 0) ∧ ((0 : Fin 4) : Nat) = 0 ∧ 36 = 35 + 1 := by decide +kernel
theorem c247_36 : mj_Y.code kY 247 36 = some (.getfield 24) ∧ mj_Y.fl kY 247 24 12 = some (6, (.array .int), false) ∧ 39 = 36 + 3 := by decide +kernel
theorem c247_39 : mj_Y.code kY 247 39 = some (.iload 4) ∧ 4 = 4 ∧ 41 = 39 + 2 := by decide +kernel
theorem c247_41 : mj_Y.code kY 247 41 = some .iaload ∧ 42 = 41 + 1 := by decide +kernel
theorem c247_42 : mj_Y.code kY 247 42 = some (.iconst 2) ∧ Int32.ofInt 2 = 2 ∧ 43 = 42 + 1 := by decide +kernel
theorem c247_43 : mj_Y.code kY 247 43 = some (.if_icmp .ne 21) ∧ mj_tg 43 21 = some 64 ∧ 46 = 43 + 3 := by decide +kernel
theorem c247_46 : mj_Y.code kY 247 46 = some (.aload_n 0) ∧ ((0 : Fin 4) : Nat) = 0 ∧ 47 = 46 + 1 := by decide +kernel
theorem c247_47 : mj_Y.code kY 247 47 = some (.getfield 124) ∧ mj_Y.fl kY 247 124 12 = some (55, (.array .int), false) ∧ 50 = 47 + 3 := by decide +kernel
theorem c247_50 : mj_Y.code kY 247 50 = some (.aload_n 0) ∧ ((0 : Fin 4) : Nat) = 0 ∧ 51 = 50 + 1 := by decide +kernel
theorem c247_51 : mj_Y.code kY 247 51 = some (.getfield 353) ∧ mj_Y.fl kY 247 353 12 = some (56, .int, true) ∧ 54 = 51 + 3 := by decide +kernel
theorem c247_54 : mj_Y.code kY 247 54 = some (.iconst 1) ∧ Int32.ofInt 1 = 1 ∧ 55 = 54 + 1 := by decide +kernel
theorem c247_55 : mj_Y.code kY 247 55 = some .isub ∧ 56 = 55 + 1 := by decide +kernel
theorem c247_56 : mj_Y.code kY 247 56 = some .iaload ∧ 57 = 56 + 1 := by decide +kernel
theorem c247_57 : mj_Y.code kY 247 57 = some (.ifCond .ne 7) ∧ mj_tg 57 7 = some 64 ∧ 60 = 57 + 3 := by decide +kernel
theorem c247_60 : mj_Y.code kY 247 60 = some (.iconst 1) ∧ Int32.ofInt 1 = 1 ∧ 61 = 60 + 1 := by decide +kernel
theorem c247_61 : mj_Y.code kY 247 61 = some (.goto 4) ∧ mj_tg 61 4 = some 65 := by decide +kernel
theorem c247_64 : mj_Y.code kY 247 64 = some (.iconst 0) ∧ Int32.ofInt 0 = 0 ∧ 65 = 64 + 1 := by decide +kernel
theorem c247_65 : mj_Y.code kY 247 65 = some (.istore 5) ∧ 5 = 5 ∧ 5 < mj_Y.nL kY 247 ∧ 67 = 65 + 2 := by decide +kernel
theorem c247_67 : mj_Y.code kY 247 67 = some (.iload_n 2) ∧ ((2 : Fin 4) : Nat) = 2 ∧ 68 = 67 + 1 := by decide +kernel
theorem c247_68 : mj_Y.code kY 247 68 = some (.iload 5) ∧ 5 = 5 ∧ 70 = 68 + 2 := by decide +kernel
theorem c247_70 : mj_Y.code kY 247 70 = some (.ifCond .eq 13) ∧ mj_tg 70 13 = some 83 ∧ 73 = 70 + 3 := by decide +kernel
theorem c247_73 : mj_Y.code kY 247 73 = some (.aload_n 0) ∧ ((0 : Fin 4) : Nat) = 0 ∧ 74 = 73 + 1 := by decide +kernel
theorem c247_74 : mj_Y.code kY 247 74 = some (.getfield 36) ∧ mj_Y.fl kY 247 36 12 = some (10, (.array .int), false) ∧ 77 = 74 + 3 := by decide +kernel
theorem c247_77 : mj_Y.code kY 247 77 = some (.iload 4) ∧ 4 = 4 ∧ 79 = 77 + 2 := by decide +kernel
theorem c247_79 : mj_Y.code kY 247 79 = some .iaload ∧ 80 = 79 + 1 := by decide +kernel
theorem c247_80 : mj_Y.code kY 247 80 = some (.goto 10) ∧ mj_tg 80 10 = some 90 := by decide +kernel
theorem c247_83 : mj_Y.code kY 247 83 = some (.aload_n 0) ∧ ((0 : Fin 4) : Nat) = 0 ∧ 84 = 83 + 1 := by decide +kernel
theorem c247_84 : mj_Y.code kY 247 84 = some (.getfield 39) ∧ mj_Y.fl kY 247 39 12 = some (11, (.array .int), false) ∧ 87 = 84 + 3 := by decide +kernel
theorem c247_87 : mj_Y.code kY 247 87 = some (.iload 4) ∧ 4 = 4 ∧ 89 = 87 + 2 := by decide +kernel
theorem c247_89 : mj_Y.code kY 247 89 = some .iaload ∧ 90 = 89 + 1 := by decide +kernel
theorem c247_90 : mj_Y.code kY 247 90 = some (.if_icmp .ne 7) ∧ mj_tg 90 7 = some 97 ∧ 93 = 90 + 3 := by decide +kernel
theorem c247_93 : mj_Y.code kY 247 93 = some (.iconst 1) ∧ Int32.ofInt 1 = 1 ∧ 94 = 93 + 1 := by decide +kernel
theorem c247_94 : mj_Y.code kY 247 94 = some (.goto 4) ∧ mj_tg 94 4 = some 98 := by decide +kernel
theorem c247_97 : mj_Y.code kY 247 97 = some (.iconst 0) ∧ Int32.ofInt 0 = 0 ∧ 98 = 97 + 1 := by decide +kernel
theorem c247_98 : mj_Y.code kY 247 98 = some (.istore_n 3) ∧ ((3 : Fin 4) : Nat) = 3 ∧ 3 < mj_Y.nL kY 247 ∧ 99 = 98 + 1 := by decide +kernel
theorem c247_99 : mj_Y.code kY 247 99 = some (.iload_n 3) ∧ ((3 : Fin 4) : Nat) = 3 ∧ 100 = 99 + 1 := by decide +kernel
theorem c247_100 : mj_Y.code kY 247 100 = some (.ifCond .eq 83) ∧ mj_tg 100 83 = some 183 ∧ 103 = 100 + 3 := by decide +kernel
theorem c247_103 : mj_Y.code kY 247 103 = some (.aload_n 0) ∧ ((0 : Fin 4) : Nat) = 0 ∧ 104 = 103 + 1 := by decide +kernel
theorem c247_104 : mj_Y.code kY 247 104 = some (.bipush 125) ∧ (Int8.ofInt 125).toInt32 = 125 ∧ 106 = 104 + 2 := by decide +kernel
theorem c247_106 : mj_Y.code kY 247 106 = some (.invokevirtual 158) ∧ mj_Y.na kY 247 158 = some 1 ∧ mj_Y.cv kY 247 158 12 = some 206 ∧ mj_Y.nL kY 206 = 2 ∧ 109 = 106 + 3 := by decide +kernel
theorem c247_109 : mj_Y.code kY 247 109 = some (.iload 5) ∧ 5 = 5 ∧ 111 = 109 + 2 := by decide +kernel
theorem c247_111 : mj_Y.code kY 247 111 = some (.ifCond .eq 49) ∧ mj_tg 111 49 = some 160 ∧ 114 = 111 + 3 := by decide +kernel
theorem c247_114 : mj_Y.code kY 247 114 = some (.aload_n 0) ∧ ((0 : Fin 4) : Nat) = 0 ∧ 115 = 114 + 1 := by decide +kernel
theorem c247_115 : mj_Y.code kY 247 115 = some (.getfield 36) ∧ mj_Y.fl kY 247 36 12 = some (10, (.array .int), false) ∧ 118 = 115 + 3 := by decide +kernel
theorem c247_118 : mj_Y.code kY 247 118 = some (.iload 4) ∧ 4 = 4 ∧ 120 = 118 + 2 := by decide +kernel
theorem c247_120 : mj_Y.code kY 247 120 = some .iaload ∧ 121 = 120 + 1 := by decide +kernel
theorem c247_121 : mj_Y.code kY 247 121 = some (.aload_n 0) ∧ ((0 : Fin 4) : Nat) = 0 ∧ 122 = 121 + 1 := by decide +kernel
theorem c247_122 : mj_Y.code kY 247 122 = some (.getfield 39) ∧ mj_Y.fl kY 247 39 12 = some (11, (.array .int), false) ∧ 125 = 122 + 3 := by decide +kernel
theorem c247_125 : mj_Y.code kY 247 125 = some (.iload 4) ∧ 4 = 4 ∧ 127 = 125 + 2 := by decide +kernel
theorem c247_127 : mj_Y.code kY 247 127 = some .iaload ∧ 128 = 127 + 1 := by decide +kernel
theorem c247_128 : mj_Y.code kY 247 128 = some (.if_icmp .ge 32) ∧ mj_tg 128 32 = some 160 ∧ 131 = 128 + 3 := by decide +kernel
theorem c247_131 : mj_Y.code kY 247 131 = some (.aload_n 0) ∧ ((0 : Fin 4) : Nat) = 0 ∧ 132 = 131 + 1 := by decide +kernel
theorem c247_132 : mj_Y.code kY 247 132 = some (.bipush 58) ∧ (Int8.ofInt 58).toInt32 = 58 ∧ 134 = 132 + 2 := by decide +kernel
theorem c247_134 : mj_Y.code kY 247 134 = some (.invokevirtual 158) ∧ mj_Y.na kY 247 158 = some 1 ∧ mj_Y.cv kY 247 158 12 = some 206 ∧ mj_Y.nL kY 206 = 2 ∧ 137 = 134 + 3 := by decide +kernel
theorem c247_137 : mj_Y.code kY 247 137 = some (.aload_n 0) ∧ ((0 : Fin 4) : Nat) = 0 ∧ 138 = 137 + 1 := by decide +kernel
theorem c247_138 : mj_Y.code kY 247 138 = some (.bipush 123) ∧ (Int8.ofInt 123).toInt32 = 123 ∧ 140 = 138 + 2 := by decide +kernel
theorem c247_140 : mj_Y.code kY 247 140 = some (.invokevirtual 158) ∧ mj_Y.na kY 247 158 = some 1 ∧ mj_Y.cv kY 247 158 12 = some 206 ∧ mj_Y.nL kY 206 = 2 ∧ 143 = 140 + 3 := by decide +kernel
theorem c247_143 : mj_Y.code kY 247 143 = some (.aload_n 0) ∧ ((0 : Fin 4) : Nat) = 0 ∧ 144 = 143 + 1 := by decide +kernel
theorem c247_144 : mj_Y.code kY 247 144 = some (.getfield 124) ∧ mj_Y.fl kY 247 124 12 = some (55, (.array .int), false) ∧ 147 = 144 + 3 := by decide +kernel
theorem c247_147 : mj_Y.code kY 247 147 = some (.aload_n 0) ∧ ((0 : Fin 4) : Nat) = 0 ∧ 148 = 147 + 1 := by decide +kernel
theorem c247_148 : mj_Y.code kY 247 148 = some (.getfield 353) ∧ mj_Y.fl kY 247 353 12 = some (56, .int, true) ∧ 151 = 148 + 3 := by decide +kernel
theorem c247_151 : mj_Y.code kY 247 151 = some (.iconst 1) ∧ Int32.ofInt 1 = 1 ∧ 152 = 151 + 1 := by decide +kernel
theorem c247_152 : mj_Y.code kY 247 152 = some .isub ∧ 153 = 152 + 1 := by decide +kernel
theorem c247_153 : mj_Y.code kY 247 153 = some (.iconst 1) ∧ Int32.ofInt 1 = 1 ∧ 154 = 153 + 1 := by decide +kernel
theorem c247_154 : mj_Y.code kY 247 154 = some .iastore ∧ 155 = 154 + 1 := by decide +kernel
theorem c247_155 : mj_Y.code kY 247 155 = some (.iconst 0) ∧ Int32.ofInt 0 = 0 ∧ 156 = 155 + 1 := by decide +kernel
theorem c247_156 : mj_Y.code kY 247 156 = some (.istore_n 3) ∧ ((3 : Fin 4) : Nat) = 3 ∧ 3 < mj_Y.nL kY 247 ∧ 157 = 156 + 1 := by decide +kernel
theorem c247_157 : mj_Y.code kY 247 157 = some (.goto 26) ∧ mj_tg 157 26 = some 183 := by decide +kernel
theorem c247_160 : mj_Y.code kY 247 160 = some (.aload_n 0) ∧ ((0 : Fin 4) : Nat) = 0 ∧ 161 = 160 + 1 := by decide +kernel
theorem c247_161 : mj_Y.code kY 247 161 = some .dup ∧ 162 = 161 + 1 := by decide +kernel
theorem c247_162 : mj_Y.code kY 247 162 = some (.getfield 353) ∧ mj_Y.fl kY 247 353 12 = some (56, .int, true) ∧ 165 = 162 + 3 := by decide +kernel
theorem c247_165 : mj_Y.code kY 247 165 = some (.iconst 1) ∧ Int32.ofInt 1 = 1 ∧ 166 = 165 + 1 := by decide +kernel
theorem c247_166 : mj_Y.code kY 247 166 = some .isub ∧ 167 = 166 + 1 := by decide +kernel
theorem c247_167 : mj_Y.code kY 247 167 = some (.putfield 353) ∧ mj_Y.fl kY 247 353 12 = some (56, .int, true) ∧ 170 = 167 + 3 := by decide +kernel
theorem c247_170 : mj_Y.code kY 247 170 = some (.aload_n 0) ∧ ((0 : Fin 4) : Nat) = 0 ∧ 171 = 170 + 1 := by decide +kernel
theorem c247_171 : mj_Y.code kY 247 171 = some (.getfield 353) ∧ mj_Y.fl kY 247 353 12 = some (56, .int, true) ∧ 174 = 171 + 3 := by decide +kernel
theorem c247_174 : mj_Y.code kY 247 174 = some (.ifCond .le 7) ∧ mj_tg 174 7 = some 181 ∧ 177 = 174 + 3 := by decide +kernel
theorem c247_177 : mj_Y.code kY 247 177 = some (.iconst 1) ∧ Int32.ofInt 1 = 1 ∧ 178 = 177 + 1 := by decide +kernel
theorem c247_178 : mj_Y.code kY 247 178 = some (.goto 4) ∧ mj_tg 178 4 = some 182 := by decide +kernel
theorem c247_181 : mj_Y.code kY 247 181 = some (.iconst 0) ∧ Int32.ofInt 0 = 0 ∧ 182 = 181 + 1 := by decide +kernel
theorem c247_182 : mj_Y.code kY 247 182 = some (.istore_n 3) ∧ ((3 : Fin 4) : Nat) = 3 ∧ 3 < mj_Y.nL kY 247 ∧ 183 = 182 + 1 := by decide +kernel
theorem c247_183 : mj_Y.code kY 247 183 = some (.goto (-170)) ∧ mj_tg 183 (-170) = some 13 := by decide +kernel
theorem c247_186 : mj_Y.code kY 247 186 = some .return_ ∧ mj_Y.rt kY 247 = none := by decide +kernel
theorem c248_0 : mj_Y.code kY 248 0 = some (.bipush 24) ∧ (Int8.ofInt 24).toInt32 = 24 ∧ 2 = 0 + 2 := by decide +kernel
theorem c248_2 : mj_Y.code kY 248 2 = some (.iload_n 1) ∧ ((1 : Fin 4) : Nat) = 1 ∧ 3 = 2 + 1 := by decide +kernel
theorem c248_3 : mj_Y.code kY 248 3 = some .imul ∧ 4 = 3 + 1 := by decide +kernel
theorem c248_4 : mj_Y.code kY 248 4 = some (.iload_n 2) ∧ ((2 : Fin 4) : Nat) = 2 ∧ 5 = 4 + 1 := by decide +kernel
theorem c248_5 : mj_Y.code kY 248 5 = some .iadd ∧ 6 = 5 + 1 := by decide +kernel
theorem c248_6 : mj_Y.code kY 248 6 = some (.istore_n 3) ∧ ((3 : Fin 4) : Nat) = 3 ∧ 3 < mj_Y.nL kY 248 ∧ 7 = 6 + 1 := by decide +kernel
theorem c248_7 : mj_Y.code kY 248 7 = some (.aload_n 0) ∧ ((0 : Fin 4) : Nat) = 0 ∧ 8 = 7 + 1 := by decide +kernel
theorem c248_8 : mj_Y.code kY 248 8 = some (.getfield 24) ∧ mj_Y.fl kY 248 24 12 = some (6, (.array .int), false) ∧ 11 = 8 + 3 := by decide +kernel
theorem c248_11 : mj_Y.code kY 248 11 = some (.iload_n 3) ∧ ((3 : Fin 4) : Nat) = 3 ∧ 12 = 11 + 1 := by decide +kernel
theorem c248_12 : mj_Y.code kY 248 12 = some .iaload ∧ 13 = 12 + 1 := by decide +kernel
theorem c248_13 : mj_Y.code kY 248 13 = some (.ifCond .ne 25) ∧ mj_tg 13 25 = some 38 ∧ 16 = 13 + 3 := by decide +kernel
theorem c248_16 : mj_Y.code kY 248 16 = some (.aload_n 0) ∧ ((0 : Fin 4) : Nat) = 0 ∧ 17 = 16 + 1 := by decide +kernel
theorem c248_17 : mj_Y.code kY 248 17 = some (.bipush 65) ∧ (Int8.ofInt 65).toInt32 = 65 ∧ 19 = 17 + 2 := by decide +kernel
theorem c248_19 : mj_Y.code kY 248 19 = some (.aload_n 0) ∧ ((0 : Fin 4) : Nat) = 0 ∧ 20 = 19 + 1 := by decide +kernel
theorem c248_20 : mj_Y.code kY 248 20 = some (.getfield 27) ∧ mj_Y.fl kY 248 27 12 = some (7, (.array .int), false) ∧ 23 = 20 + 3 := by decide +kernel
theorem c248_23 : mj_Y.code kY 248 23 = some (.iload_n 3) ∧ ((3 : Fin 4) : Nat) = 3 ∧ 24 = 23 + 1 := by decide +kernel
theorem c248_24 : mj_Y.code kY 248 24 = some .iaload ∧ 25 = 24 + 1 := by decide +kernel
theorem c248_25 : mj_Y.code kY 248 25 = some .iadd ∧ 26 = 25 + 1 := by decide +kernel
theorem c248_26 : mj_Y.code kY 248 26 = some (.invokevirtual 158) ∧ mj_Y.na kY 248 158 = some 1 ∧ mj_Y.cv kY 248 158 12 = some 206 ∧ mj_Y.nL kY 206 = 2 ∧ 29 = 26 + 3 := by decide +kernel
theorem c248_29 : mj_Y.code kY 248 29 = some (.aload_n 0) ∧ ((0 : Fin 4) : Nat) = 0 ∧ 30 = 29 + 1 := by decide +kernel
theorem c248_30 : mj_Y.code kY 248 30 = some (.bipush 61) ∧ (Int8.ofInt 61).toInt32 = 61 ∧ 32 = 30 + 2 := by decide +kernel
theorem c248_32 : mj_Y.code kY 248 32 = some (.invokevirtual 158) ∧ mj_Y.na kY 248 158 = some 1 ∧ mj_Y.cv kY 248 158 12 = some 206 ∧ mj_Y.nL kY 206 = 2 ∧ 35 = 32 + 3 := by decide +kernel
theorem c248_35 : mj_Y.code kY 248 35 = some (.goto 39) ∧ mj_tg 35 39 = some 74 := by decide +kernel
theorem c248_38 : mj_Y.code kY 248 38 = some (.aload_n 0) ∧ ((0 : Fin 4) : Nat) = 0 ∧ 39 = 38 + 1 := by decide +kernel
theorem c248_39 : mj_Y.code kY 248 39 = some (.aload_n 0) ∧ ((0 : Fin 4) : Nat) = 0 ∧ 40 = 39 + 1 := by decide +kernel
theorem c248_40 : mj_Y.code kY 248 40 = some (.getfield 24) ∧ mj_Y.fl kY 248 24 12 = some (6, (.array .int), false) ∧ 43 = 40 + 3 := by decide +kernel
theorem c248_43 : mj_Y.code kY 248 43 = some (.iload_n 3) ∧ ((3 : Fin 4) : Nat) = 3 ∧ 44 = 43 + 1 := by decide +kernel
theorem c248_44 : mj_Y.code kY 248 44 = some .iaload ∧ 45 = 44 + 1 := by decide +kernel
theorem c248_45 : mj_Y.code kY 248 45 = some (.iconst 1) ∧ Int32.ofInt 1 = 1 ∧ 46 = 45 + 1 := by decide +kernel
theorem c248_46 : mj_Y.code kY 248 46 = some (.if_icmp .ne 8) ∧ mj_tg 46 8 = some 54 ∧ 49 = 46 + 3 := by decide +kernel
theorem c248_49 : mj_Y.code kY 248 49 = some (.bipush 33) ∧ (Int8.ofInt 33).toInt32 = 33 ∧ 51 = 49 + 2 := by decide +kernel
theorem c248_51 : mj_Y.code kY 248 51 = some (.goto 20) ∧ mj_tg 51 20 = some 71 := by decide +kernel
theorem c248_54 : mj_Y.code kY 248 54 = some (.aload_n 0) ∧ ((0 : Fin 4) : Nat) = 0 ∧ 55 = 54 + 1 := by decide +kernel
theorem c248_55 : mj_Y.code kY 248 55 = some (.getfield 24) ∧ mj_Y.fl kY 248 24 12 = some (6, (.array .int), false) ∧ 58 = 55 + 3 := by decide +kernel
theorem c248_58 : mj_Y.code kY 248 58 = some (.iload_n 3) ∧ ((3 : Fin 4) : Nat) = 3 ∧ 59 = 58 + 1 := by decide +kernel
theorem c248_59 : mj_Y.code kY 248 59 = some .iaload ∧ 60 = 59 + 1 := by decide +kernel
theorem c248_60 : mj_Y.code kY 248 60 = some (.iconst 2) ∧ Int32.ofInt 2 = 2 ∧ 61 = 60 + 1 := by decide +kernel
theorem c248_61 : mj_Y.code kY 248 61 = some (.if_icmp .ne 8) ∧ mj_tg 61 8 = some 69 ∧ 64 = 61 + 3 := by decide +kernel
theorem c248_64 : mj_Y.code kY 248 64 = some (.bipush 63) ∧ (Int8.ofInt 63).toInt32 = 63 ∧ 66 = 64 + 2 := by decide +kernel
theorem c248_66 : mj_Y.code kY 248 66 = some (.goto 5) ∧ mj_tg 66 5 = some 71 := by decide +kernel
theorem c248_69 : mj_Y.code kY 248 69 = some (.bipush 42) ∧ (Int8.ofInt 42).toInt32 = 42 ∧ 71 = 69 + 2 := by decide +kernel
theorem c248_71 : mj_Y.code kY 248 71 = some (.invokevirtual 158) ∧ mj_Y.na kY 248 158 = some 1 ∧ mj_Y.cv kY 248 158 12 = some 206 ∧ mj_Y.nL kY 206 = 2 ∧ 74 = 71 + 3 := by decide +kernel
theorem c248_74 : mj_Y.code kY 248 74 = some (.aload_n 0) ∧ ((0 : Fin 4) : Nat) = 0 ∧ 75 = 74 + 1 := by decide +kernel
theorem c248_75 : mj_Y.code kY 248 75 = some (.getfield 24) ∧ mj_Y.fl kY 248 24 12 = some (6, (.array .int), false) ∧ 78 = 75 + 3 := by decide +kernel
theorem c248_78 : mj_Y.code kY 248 78 = some (.iload_n 3) ∧ ((3 : Fin 4) : Nat) = 3 ∧ 79 = 78 + 1 := by decide +kernel
theorem c248_79 : mj_Y.code kY 248 79 = some .iaload ∧ 80 = 79 + 1 := by decide +kernel
theorem c248_80 : mj_Y.code kY 248 80 = some (.iconst 3) ∧ Int32.ofInt 3 = 3 ∧ 81 = 80 + 1 := by decide +kernel
theorem c248_81 : mj_Y.code kY 248 81 = some (.if_icmp .ne 16) ∧ mj_tg 81 16 = some 97 ∧ 84 = 81 + 3 := by decide +kernel
theorem c248_84 : mj_Y.code kY 248 84 = some (.aload_n 0) ∧ ((0 : Fin 4) : Nat) = 0 ∧ 85 = 84 + 1 := by decide +kernel
theorem c248_85 : mj_Y.code kY 248 85 = some (.aload_n 0) ∧ ((0 : Fin 4) : Nat) = 0 ∧ 86 = 85 + 1 := by decide +kernel
theorem c248_86 : mj_Y.code kY 248 86 = some (.getfield 27) ∧ mj_Y.fl kY 248 27 12 = some (7, (.array .int), false) ∧ 89 = 86 + 3 := by decide +kernel
theorem c248_89 : mj_Y.code kY 248 89 = some (.iload_n 3) ∧ ((3 : Fin 4) : Nat) = 3 ∧ 90 = 89 + 1 := by decide +kernel
theorem c248_90 : mj_Y.code kY 248 90 = some .iaload ∧ 91 = 90 + 1 := by decide +kernel
theorem c248_91 : mj_Y.code kY 248 91 = some (.invokevirtual 330) ∧ mj_Y.na kY 248 330 = some 1 ∧ mj_Y.cv kY 248 330 12 = some 249 ∧ mj_Y.nL kY 249 = 2 ∧ 94 = 91 + 3 := by decide +kernel
theorem c248_94 : mj_Y.code kY 248 94 = some (.goto 9) ∧ mj_tg 94 9 = some 103 := by decide +kernel
theorem c248_97 : mj_Y.code kY 248 97 = some (.aload_n 0) ∧ ((0 : Fin 4) : Nat) = 0 ∧ 98 = 97 + 1 := by decide +kernel
theorem c248_98 : mj_Y.code kY 248 98 = some (.iload_n 1) ∧ ((1 : Fin 4) : Nat) = 1 ∧ 99 = 98 + 1 := by decide +kernel
theorem c248_99 : mj_Y.code kY 248 99 = some (.iload_n 2) ∧ ((2 : Fin 4) : Nat) = 2 ∧ 100 = 99 + 1 := by decide +kernel
theorem c248_100 : mj_Y.code kY 248 100 = some (.invokevirtual 356) ∧ mj_Y.na kY 248 356 = some 2 ∧ mj_Y.cv kY 248 356 12 = some 250 ∧ mj_Y.nL kY 250 = 4 ∧ 103 = 100 + 3 := by decide +kernel
theorem c248_103 : mj_Y.code kY 248 103 = some (.aload_n 0) ∧ ((0 : Fin 4) : Nat) = 0 ∧ 104 = 103 + 1 := by decide +kernel
theorem c248_104 : mj_Y.code kY 248 104 = some (.getfield 24) ∧ mj_Y.fl kY 248 24 12 = some (6, (.array .int), false) ∧ 107 = 104 + 3 := by decide +kernel
theorem c248_107 : mj_Y.code kY 248 107 = some (.iload_n 3) ∧ ((3 : Fin 4) : Nat) = 3 ∧ 108 = 107 + 1 := by decide +kernel
theorem c248_108 : mj_Y.code kY 248 108 = some .iaload ∧ 109 = 108 + 1 := by decide +kernel
theorem c248_109 : mj_Y.code kY 248 109 = some (.ifCond .eq 13) ∧ mj_tg 109 13 = some 122 ∧ 112 = 109 + 3 := by decide +kernel
theorem c248_112 : mj_Y.code kY 248 112 = some (.aload_n 0) ∧ ((0 : Fin 4) : Nat) = 0 ∧ 113 = 112 + 1 := by decide +kernel
theorem c248_113 : mj_Y.code kY 248 113 = some (.getfield 24) ∧ mj_Y.fl kY 248 24 12 = some (6, (.array .int), false) ∧ 116 = 113 + 3 := by decide +kernel
theorem c248_116 : mj_Y.code kY 248 116 = some (.iload_n 3) ∧ ((3 : Fin 4) : Nat) = 3 ∧ 117 = 116 + 1 := by decide +kernel
theorem c248_117 : mj_Y.code kY 248 117 = some .iaload ∧ 118 = 117 + 1 := by decide +kernel
theorem c248_118 : mj_Y.code kY 248 118 = some (.iconst 1) ∧ Int32.ofInt 1 = 1 ∧ 119 = 118 + 1 := by decide +kernel
theorem c248_119 : mj_Y.code kY 248 119 = some (.if_icmp .ne 12) ∧ mj_tg 119 12 = some 131 ∧ 122 = 119 + 3 := by decide +kernel
theorem c248_122 : mj_Y.code kY 248 122 = some (.aload_n 0) ∧ ((0 : Fin 4) : Nat) = 0 ∧ 123 = 122 + 1 := by decide +kernel
theorem c248_123 : mj_Y.code kY 248 123 = some (.bipush 59) ∧ (Int8.ofInt 59).toInt32 = 59 ∧ 125 = 123 + 2 := by decide +kernel
theorem c248_125 : mj_Y.code kY 248 125 = some (.invokevirtual 158) ∧ mj_Y.na kY 248 158 = some 1 ∧ mj_Y.cv kY 248 158 12 = some 206 ∧ mj_Y.nL kY 206 = 2 ∧ 128 = 125 + 3 := by decide +kernel
theorem c248_128 : mj_Y.code kY 248 128 = some (.goto 39) ∧ mj_tg 128 39 = some 167 := by decide +kernel
theorem c248_131 : mj_Y.code kY 248 131 = some (.aload_n 0) ∧ ((0 : Fin 4) : Nat) = 0 ∧ 132 = 131 + 1 := by decide +kernel
theorem c248_132 : mj_Y.code kY 248 132 = some (.bipush 123) ∧ (Int8.ofInt 123).toInt32 = 123 ∧ 134 = 132 + 2 := by decide +kernel
theorem c248_134 : mj_Y.code kY 248 134 = some (.invokevirtual 158) ∧ mj_Y.na kY 248 158 = some 1 ∧ mj_Y.cv kY 248 158 12 = some 206 ∧ mj_Y.nL kY 206 = 2 ∧ 137 = 134 + 3 := by decide +kernel
theorem c248_137 : mj_Y.code kY 248 137 = some (.aload_n 0) ∧ ((0 : Fin 4) : Nat) = 0 ∧ 138 = 137 + 1 := by decide +kernel
theorem c248_138 : mj_Y.code kY 248 138 = some (.getfield 118) ∧ mj_Y.fl kY 248 118 12 = some (53, (.array .int), false) ∧ 141 = 138 + 3 := by decide +kernel
theorem c248_141 : mj_Y.code kY 248 141 = some (.aload_n 0) ∧ ((0 : Fin 4) : Nat) = 0 ∧ 142 = 141 + 1 := by decide +kernel
theorem c248_142 : mj_Y.code kY 248 142 = some (.getfield 353) ∧ mj_Y.fl kY 248 353 12 = some (56, .int, true) ∧ 145 = 142 + 3 := by decide +kernel
theorem c248_145 : mj_Y.code kY 248 145 = some (.iload_n 2) ∧ ((2 : Fin 4) : Nat) = 2 ∧ 146 = 145 + 1 := by decide +kernel
theorem c248_146 : mj_Y.code kY 248 146 = some .iastore ∧ 147 = 146 + 1 := by decide +kernel
theorem c248_147 : mj_Y.code kY 248 147 = some (.aload_n 0) ∧ ((0 : Fin 4) : Nat) = 0 ∧ 148 = 147 + 1 := by decide +kernel
theorem c248_148 : mj_Y.code kY 248 148 = some (.getfield 124) ∧ mj_Y.fl kY 248 124 12 = some (55, (.array .int), false) ∧ 151 = 148 + 3 := by decide +kernel
theorem c248_151 : mj_Y.code kY 248 151 = some (.aload_n 0) ∧ ((0 : Fin 4) : Nat) = 0 ∧ 152 = 151 + 1 := by decide +kernel
theorem c248_152 : mj_Y.code kY 248 152 = some (.getfield 353) ∧ mj_Y.fl kY 248 353 12 = some (56, .int, true) ∧ 155 = 152 + 3 := by decide +kernel
theorem c248_155 : mj_Y.code kY 248 155 = some (.iconst 0) ∧ Int32.ofInt 0 = 0 ∧ 156 = 155 + 1 := by decide +kernel
theorem c248_156 : mj_Y.code kY 248 156 = some .iastore ∧ 157 = 156 + 1 := by decide +kernel
theorem c248_157 : mj_Y.code kY 248 157 = some (.aload_n 0) ∧ ((0 : Fin 4) : Nat) = 0 ∧ 158 = 157 + 1 := by decide +kernel
theorem c248_158 : mj_Y.code kY 248 158 = some .dup ∧ 159 = 158 + 1 := by decide +kernel
theorem c248_159 : mj_Y.code kY 248 159 = some (.getfield 353) ∧ mj_Y.fl kY 248 353 12 = some (56, .int, true) ∧ 162 = 159 + 3 := by decide +kernel
theorem c248_162 : mj_Y.code kY 248 162 = some (.iconst 1) ∧ Int32.ofInt 1 = 1 ∧ 163 = 162 + 1 := by decide +kernel
theorem c248_163 : mj_Y.code kY 248 163 = some .iadd ∧ 164 = 163 + 1 := by decide +kernel
theorem c248_164 : mj_Y.code kY 248 164 = some (.putfield 353) ∧ mj_Y.fl kY 248 353 12 = some (56, .int, true) ∧ 167 = 164 + 3 := by decide +kernel
theorem c248_167 : mj_Y.code kY 248 167 = some .return_ ∧ mj_Y.rt kY 248 = none := by decide +kernel
theorem c249_0 : mj_Y.code kY 249 0 = some (.iload_n 1) ∧ ((1 : Fin 4) : Nat) = 1 ∧ 1 = 0 + 1 := by decide +kernel
theorem c249_1 : mj_Y.code kY 249 1 = some (.bipush 99) ∧ (Int8.ofInt 99).toInt32 = 99 ∧ 3 = 1 + 2 := by decide +kernel
theorem c249_3 : mj_Y.code kY 249 3 = some (.if_icmp .le 14) ∧ mj_tg 3 14 = some 17 ∧ 6 = 3 + 3 := by decide +kernel
theorem c249_6 : mj_Y.code kY 249 6 = some (.aload_n 0) ∧ ((0 : Fin 4) : Nat) = 0 ∧ 7 = 6 + 1 := by decide +kernel
theorem c249_7 : mj_Y.code kY 249 7 = some (.bipush 48) ∧ (Int8.ofInt 48).toInt32 = 48 ∧ 9 = 7 + 2 := by decide +kernel
theorem c249_9 : mj_Y.code kY 249 9 = some (.iload_n 1) ∧ ((1 : Fin 4) : Nat) = 1 ∧ 10 = 9 + 1 := by decide +kernel
theorem c249_10 : mj_Y.code kY 249 10 = some (.bipush 100) ∧ (Int8.ofInt 100).toInt32 = 100 ∧ 12 = 10 + 2 := by decide +kernel
theorem c249_12 : mj_Y.code kY 249 12 = some .idiv ∧ 13 = 12 + 1 := by decide +kernel
theorem c249_13 : mj_Y.code kY 249 13 = some .iadd ∧ 14 = 13 + 1 := by decide +kernel
theorem c249_14 : mj_Y.code kY 249 14 = some (.invokevirtual 158) ∧ mj_Y.na kY 249 158 = some 1 ∧ mj_Y.cv kY 249 158 12 = some 206 ∧ mj_Y.nL kY 206 = 2 ∧ 17 = 14 + 3 := by decide +kernel
theorem c249_17 : mj_Y.code kY 249 17 = some (.iload_n 1) ∧ ((1 : Fin 4) : Nat) = 1 ∧ 18 = 17 + 1 := by decide +kernel
theorem c249_18 : mj_Y.code kY 249 18 = some (.bipush 9) ∧ (Int8.ofInt 9).toInt32 = 9 ∧ 20 = 18 + 2 := by decide +kernel
theorem c249_20 : mj_Y.code kY 249 20 = some (.if_icmp .le 17) ∧ mj_tg 20 17 = some 37 ∧ 23 = 20 + 3 := by decide +kernel
theorem c249_23 : mj_Y.code kY 249 23 = some (.aload_n 0) ∧ ((0 : Fin 4) : Nat) = 0 ∧ 24 = 23 + 1 := by decide +kernel
theorem c249_24 : mj_Y.code kY 249 24 = some (.bipush 48) ∧ (Int8.ofInt 48).toInt32 = 48 ∧ 26 = 24 + 2 := by decide +kernel
theorem c249_26 : mj_Y.code kY 249 26 = some (.iload_n 1) ∧ ((1 : Fin 4) : Nat) = 1 ∧ 27 = 26 + 1 := by decide +kernel
theorem c249_27 : mj_Y.code kY 249 27 = some (.bipush 10) ∧ (Int8.ofInt 10).toInt32 = 10 ∧ 29 = 27 + 2 := by decide +kernel
theorem c249_29 : mj_Y.code kY 249 29 = some .idiv ∧ 30 = 29 + 1 := by decide +kernel
theorem c249_30 : mj_Y.code kY 249 30 = some (.bipush 10) ∧ (Int8.ofInt 10).toInt32 = 10 ∧ 32 = 30 + 2 := by decide +kernel
theorem c249_32 : mj_Y.code kY 249 32 = some .irem ∧ 33 = 32 + 1 := by decide +kernel
theorem c249_33 : mj_Y.code kY 249 33 = some .iadd ∧ 34 = 33 + 1 := by decide +kernel
theorem c249_34 : mj_Y.code kY 249 34 = some (.invokevirtual 158) ∧ mj_Y.na kY 249 158 = some 1 ∧ mj_Y.cv kY 249 158 12 = some 206 ∧ mj_Y.nL kY 206 = 2 ∧ 37 = 34 + 3 := by decide +kernel
theorem c249_37 : mj_Y.code kY 249 37 = some (.aload_n 0) ∧ ((0 : Fin 4) : Nat) = 0 ∧ 38 = 37 + 1 := by decide +kernel
theorem c249_38 : mj_Y.code kY 249 38 = some (.bipush 48) ∧ (Int8.ofInt 48).toInt32 = 48 ∧ 40 = 38 + 2 := by decide +kernel
theorem c249_40 : mj_Y.code kY 249 40 = some (.iload_n 1) ∧ ((1 : Fin 4) : Nat) = 1 ∧ 41 = 40 + 1 := by decide +kernel
theorem c249_41 : mj_Y.code kY 249 41 = some (.bipush 10) ∧ (Int8.ofInt 10).toInt32 = 10 ∧ 43 = 41 + 2 := by decide +kernel
theorem c249_43 : mj_Y.code kY 249 43 = some .irem ∧ 44 = 43 + 1 := by decide +kernel
theorem c249_44 : mj_Y.code kY 249 44 = some .iadd ∧ 45 = 44 + 1 := by decide +kernel
theorem c249_45 : mj_Y.code kY 249 45 = some (.invokevirtual 158) ∧ mj_Y.na kY 249 158 = some 1 ∧ mj_Y.cv kY 249 158 12 = some 206 ∧ mj_Y.nL kY 206 = 2 ∧ 48 = 45 + 3 := by decide +kernel
theorem c249_48 : mj_Y.code kY 249 48 = some .return_ ∧ mj_Y.rt kY 249 = none := by decide +kernel
theorem c250_0 : mj_Y.code kY 250 0 = some (.aload_n 0) ∧ ((0 : Fin 4) : Nat) = 0 ∧ 1 = 0 + 1 := by decide +kernel
theorem c250_1 : mj_Y.code kY 250 1 = some (.iconst 0) ∧ Int32.ofInt 0 = 0 ∧ 2 = 1 + 1 := by decide +kernel
theorem c250_2 : mj_Y.code kY 250 2 = some (.putfield 324) ∧ mj_Y.fl kY 250 324 12 = some (40, .int, true) ∧ 5 = 2 + 3 := by decide +kernel
theorem c250_5 : mj_Y.code kY 250 5 = some (.aload_n 0) ∧ ((0 : Fin 4) : Nat) = 0 ∧ 6 = 5 + 1 := by decide +kernel
theorem c250_6 : mj_Y.code kY 250 6 = some (.aload_n 0) ∧ ((0 : Fin 4) : Nat) = 0 ∧ 7 = 6 + 1 := by decide +kernel
theorem c250_7 : mj_Y.code kY 250 7 = some (.getfield 33) ∧ mj_Y.fl kY 250 33 12 = some (9, (.array .int), false) ∧ 10 = 7 + 3 := by decide +kernel
theorem c250_10 : mj_Y.code kY 250 10 = some (.bipush 24) ∧ (Int8.ofInt 24).toInt32 = 24 ∧ 12 = 10 + 2 := by decide +kernel
theorem c250_12 : mj_Y.code kY 250 12 = some (.iload_n 1) ∧ ((1 : Fin 4) : Nat) = 1 ∧ 13 = 12 + 1 := by decide +kernel
theorem c250_13 : mj_Y.code kY 250 13 = some .imul ∧ 14 = 13 + 1 := by decide +kernel
theorem c250_14 : mj_Y.code kY 250 14 = some (.iload_n 2) ∧ ((2 : Fin 4) : Nat) = 2 ∧ 15 = 14 + 1 := by decide +kernel
theorem c250_15 : mj_Y.code kY 250 15 = some .iadd ∧ 16 = 15 + 1 := by decide +kernel
theorem c250_16 : mj_Y.code kY 250 16 = some .iaload ∧ 17 = 16 + 1 := by decide +kernel
theorem c250_17 : mj_Y.code kY 250 17 = some (.invokevirtual 327) ∧ mj_Y.na kY 250 327 = some 1 ∧ mj_Y.cv kY 250 327 12 = some 251 ∧ mj_Y.nL kY 251 = 2 ∧ 20 = 17 + 3 := by decide +kernel
theorem c250_20 : mj_Y.code kY 250 20 = some (.aload_n 0) ∧ ((0 : Fin 4) : Nat) = 0 ∧ 21 = 20 + 1 := by decide +kernel
theorem c250_21 : mj_Y.code kY 250 21 = some (.getfield 324) ∧ mj_Y.fl kY 250 324 12 = some (40, .int, true) ∧ 24 = 21 + 3 := by decide +kernel
theorem c250_24 : mj_Y.code kY 250 24 = some (.ifCond .le 45) ∧ mj_tg 24 45 = some 69 ∧ 27 = 24 + 3 := by decide +kernel
theorem c250_27 : mj_Y.code kY 250 27 = some (.aload_n 0) ∧ ((0 : Fin 4) : Nat) = 0 ∧ 28 = 27 + 1 := by decide +kernel
theorem c250_28 : mj_Y.code kY 250 28 = some .dup ∧ 29 = 28 + 1 := by decide +kernel
theorem c250_29 : mj_Y.code kY 250 29 = some (.getfield 324) ∧ mj_Y.fl kY 250 324 12 = some (40, .int, true) ∧ 32 = 29 + 3 := by decide +kernel
theorem c250_32 : mj_Y.code kY 250 32 = some (.iconst 1) ∧ Int32.ofInt 1 = 1 ∧ 33 = 32 + 1 := by decide +kernel
theorem c250_33 : mj_Y.code kY 250 33 = some .isub ∧ 34 = 33 + 1 := by decide +kernel
theorem c250_34 : mj_Y.code kY 250 34 = some (.putfield 324) ∧ mj_Y.fl kY 250 324 12 = some (40, .int, true) ∧ 37 = 34 + 3 := by decide +kernel
theorem c250_37 : mj_Y.code kY 250 37 = some (.aload_n 0) ∧ ((0 : Fin 4) : Nat) = 0 ∧ 38 = 37 + 1 := by decide +kernel
theorem c250_38 : mj_Y.code kY 250 38 = some (.getfield 94) ∧ mj_Y.fl kY 250 94 12 = some (39, (.array .int), false) ∧ 41 = 38 + 3 := by decide +kernel
theorem c250_41 : mj_Y.code kY 250 41 = some (.aload_n 0) ∧ ((0 : Fin 4) : Nat) = 0 ∧ 42 = 41 + 1 := by decide +kernel
theorem c250_42 : mj_Y.code kY 250 42 = some (.getfield 324) ∧ mj_Y.fl kY 250 324 12 = some (40, .int, true) ∧ 45 = 42 + 3 := by decide +kernel
theorem c250_45 : mj_Y.code kY 250 45 = some .iaload ∧ 46 = 45 + 1 := by decide +kernel
theorem c250_46 : mj_Y.code kY 250 46 = some (.istore_n 3) ∧ ((3 : Fin 4) : Nat) = 3 ∧ 3 < mj_Y.nL kY 250 ∧ 47 = 46 + 1 := by decide +kernel
theorem c250_47 : mj_Y.code kY 250 47 = some (.iload_n 3) ∧ ((3 : Fin 4) : Nat) = 3 ∧ 48 = 47 + 1 := by decide +kernel
theorem c250_48 : mj_Y.code kY 250 48 = some (.ifCond .ge 12) ∧ mj_tg 48 12 = some 60 ∧ 51 = 48 + 3 := by decide +kernel
theorem c250_51 : mj_Y.code kY 250 51 = some (.aload_n 0) ∧ ((0 : Fin 4) : Nat) = 0 ∧ 52 = 51 + 1 := by decide +kernel
theorem c250_52 : mj_Y.code kY 250 52 = some (.iload_n 3) ∧ ((3 : Fin 4) : Nat) = 3 ∧ 53 = 52 + 1 := by decide +kernel
theorem c250_53 : mj_Y.code kY 250 53 = some .ineg ∧ 54 = 53 + 1 := by decide +kernel
theorem c250_54 : mj_Y.code kY 250 54 = some (.invokevirtual 158) ∧ mj_Y.na kY 250 158 = some 1 ∧ mj_Y.cv kY 250 158 12 = some 206 ∧ mj_Y.nL kY 206 = 2 ∧ 57 = 54 + 3 := by decide +kernel
theorem c250_57 : mj_Y.code kY 250 57 = some (.goto 9) ∧ mj_tg 57 9 = some 66 := by decide +kernel
theorem c250_60 : mj_Y.code kY 250 60 = some (.aload_n 0) ∧ ((0 : Fin 4) : Nat) = 0 ∧ 61 = 60 + 1 := by decide +kernel
theorem c250_61 : mj_Y.code kY 250 61 = some (.iload_n 1) ∧ ((1 : Fin 4) : Nat) = 1 ∧ 62 = 61 + 1 := by decide +kernel
theorem c250_62 : mj_Y.code kY 250 62 = some (.iload_n 3) ∧ ((3 : Fin 4) : Nat) = 3 ∧ 63 = 62 + 1 := by decide +kernel
theorem c250_63 : mj_Y.code kY 250 63 = some (.invokevirtual 350) ∧ mj_Y.na kY 250 350 = some 2 ∧ mj_Y.cv kY 250 350 12 = some 252 ∧ mj_Y.nL kY 252 = 6 ∧ 66 = 63 + 3 := by decide +kernel
theorem c250_66 : mj_Y.code kY 250 66 = some (.goto (-46)) ∧ mj_tg 66 (-46) = some 20 := by decide +kernel
theorem c250_69 : mj_Y.code kY 250 69 = some .return_ ∧ mj_Y.rt kY 250 = none := by decide +kernel
