theorem c227_0 : mj_Y.code kY 227 0 = some (.aload_n 0) ∧ ((0 : Fin 4) : Nat) = 0 ∧ 1 = 0 + 1 := by decide +kernel
theorem c227_1 : mj_Y.code kY 227 1 = some (.getfield 212) ∧ mj_Y.fl kY 227 212 12 = some (29, .int, true) ∧ 4 = 1 + 3 := by decide +kernel
theorem c227_4 : mj_Y.code kY 227 4 = some (.ifCond .le 46) ∧ mj_tg 4 46 = some 50 ∧ 7 = 4 + 3 := by decide +kernel
theorem c227_7 : mj_Y.code kY 227 7 = some (.aload_n 0) ∧ ((0 : Fin 4) : Nat) = 0 ∧ 8 = 7 + 1 := by decide +kernel
theorem c227_8 : mj_Y.code kY 227 8 = some (.getfield 73) ∧ mj_Y.fl kY 227 73 12 = some (27, (.array .int), false) ∧ 11 = 8 + 3 := by decide +kernel
theorem c227_11 : mj_Y.code kY 227 11 = some (.aload_n 0) ∧ ((0 : Fin 4) : Nat) = 0 ∧ 12 = 11 + 1 := by decide +kernel
theorem c227_12 : mj_Y.code kY 227 12 = some (.getfield 212) ∧ mj_Y.fl kY 227 212 12 = some (29, .int, true) ∧ 15 = 12 + 3 := by decide +kernel
theorem c227_15 : mj_Y.code kY 227 15 = some (.iconst 1) ∧ Int32.ofInt 1 = 1 ∧ 16 = 15 + 1 := by decide +kernel
theorem c227_16 : mj_Y.code kY 227 16 = some .isub ∧ 17 = 16 + 1 := by decide +kernel
theorem c227_17 : mj_Y.code kY 227 17 = some .iaload ∧ 18 = 17 + 1 := by decide +kernel
theorem c227_18 : mj_Y.code kY 227 18 = some (.bipush 21) ∧ (Int8.ofInt 21).toInt32 = 21 ∧ 20 = 18 + 2 := by decide +kernel
theorem c227_20 : mj_Y.code kY 227 20 = some (.if_icmp .ne 30) ∧ mj_tg 20 30 = some 50 ∧ 23 = 20 + 3 := by decide +kernel
theorem c227_23 : mj_Y.code kY 227 23 = some (.aload_n 0) ∧ ((0 : Fin 4) : Nat) = 0 ∧ 24 = 23 + 1 := by decide +kernel
theorem c227_24 : mj_Y.code kY 227 24 = some .dup ∧ 25 = 24 + 1 := by decide +kernel
theorem c227_25 : mj_Y.code kY 227 25 = some (.getfield 212) ∧ mj_Y.fl kY 227 212 12 = some (29, .int, true) ∧ 28 = 25 + 3 := by decide +kernel
theorem c227_28 : mj_Y.code kY 227 28 = some (.iconst 1) ∧ Int32.ofInt 1 = 1 ∧ 29 = 28 + 1 := by decide +kernel
theorem c227_29 : mj_Y.code kY 227 29 = some .isub ∧ 30 = 29 + 1 := by decide +kernel
theorem c227_30 : mj_Y.code kY 227 30 = some (.putfield 212) ∧ mj_Y.fl kY 227 212 12 = some (29, .int, true) ∧ 33 = 30 + 3 := by decide +kernel
theorem c227_33 : mj_Y.code kY 227 33 = some (.aload_n 0) ∧ ((0 : Fin 4) : Nat) = 0 ∧ 34 = 33 + 1 := by decide +kernel
theorem c227_34 : mj_Y.code kY 227 34 = some .dup ∧ 35 = 34 + 1 := by decide +kernel
theorem c227_35 : mj_Y.code kY 227 35 = some (.getfield 222) ∧ mj_Y.fl kY 227 222 12 = some (30, .int, true) ∧ 38 = 35 + 3 := by decide +kernel
theorem c227_38 : mj_Y.code kY 227 38 = some (.iconst 1) ∧ Int32.ofInt 1 = 1 ∧ 39 = 38 + 1 := by decide +kernel
theorem c227_39 : mj_Y.code kY 227 39 = some .isub ∧ 40 = 39 + 1 := by decide +kernel
theorem c227_40 : mj_Y.code kY 227 40 = some (.putfield 222) ∧ mj_Y.fl kY 227 222 12 = some (30, .int, true) ∧ 43 = 40 + 3 := by decide +kernel
theorem c227_43 : mj_Y.code kY 227 43 = some (.aload_n 0) ∧ ((0 : Fin 4) : Nat) = 0 ∧ 44 = 43 + 1 := by decide +kernel
theorem c227_44 : mj_Y.code kY 227 44 = some (.invokevirtual 225) ∧ mj_Y.na kY 227 225 = some 0 ∧ mj_Y.cv kY 227 225 12 = some 228 ∧ mj_Y.nL kY 228 = 2 ∧ 47 = 44 + 3 := by decide +kernel
theorem c227_47 : mj_Y.code kY 227 47 = some (.goto (-47)) ∧ mj_tg 47 (-47) = some 0 := by decide +kernel
theorem c227_50 : mj_Y.code kY 227 50 = some .return_ ∧ mj_Y.rt kY 227 = none := by decide +kernel
theorem c228_0 : mj_Y.code kY 228 0 = some (.aload_n 0) ∧ ((0 : Fin 4) : Nat) = 0 ∧ 1 = 0 + 1 := by decide +kernel
theorem c228_1 : mj_Y.code kY 228 1 = some (.getfield 79) ∧ mj_Y.fl kY 228 79 12 = some (32, (.array .int), false) ∧ 4 = 1 + 3 := by decide +kernel
theorem c228_4 : mj_Y.code kY 228 4 = some (.aload_n 0) ∧ ((0 : Fin 4) : Nat) = 0 ∧ 5 = 4 + 1 := by decide +kernel
theorem c228_5 : mj_Y.code kY 228 5 = some (.getfield 183) ∧ mj_Y.fl kY 228 183 12 = some (33, .int, true) ∧ 8 = 5 + 3 := by decide +kernel
theorem c228_8 : mj_Y.code kY 228 8 = some (.iconst 1) ∧ Int32.ofInt 1 = 1 ∧ 9 = 8 + 1 := by decide +kernel
theorem c228_9 : mj_Y.code kY 228 9 = some .isub ∧ 10 = 9 + 1 := by decide +kernel
theorem c228_10 : mj_Y.code kY 228 10 = some .iaload ∧ 11 = 10 + 1 := by decide +kernel
theorem c228_11 : mj_Y.code kY 228 11 = some (.istore_n 1) ∧ ((1 : Fin 4) : Nat) = 1 ∧ 1 < mj_Y.nL kY 228 ∧ 12 = 11 + 1 := by decide +kernel
theorem c228_12 : mj_Y.code kY 228 12 = some (.aload_n 0) ∧ ((0 : Fin 4) : Nat) = 0 ∧ 13 = 12 + 1 := by decide +kernel
theorem c228_13 : mj_Y.code kY 228 13 = some .dup ∧ 14 = 13 + 1 := by decide +kernel
theorem c228_14 : mj_Y.code kY 228 14 = some (.getfield 183) ∧ mj_Y.fl kY 228 183 12 = some (33, .int, true) ∧ 17 = 14 + 3 := by decide +kernel
theorem c228_17 : mj_Y.code kY 228 17 = some (.iconst 1) ∧ Int32.ofInt 1 = 1 ∧ 18 = 17 + 1 := by decide +kernel
theorem c228_18 : mj_Y.code kY 228 18 = some .isub ∧ 19 = 18 + 1 := by decide +kernel
theorem c228_19 : mj_Y.code kY 228 19 = some (.putfield 183) ∧ mj_Y.fl kY 228 183 12 = some (33, .int, true) ∧ 22 = 19 + 3 := by decide +kernel
theorem c228_22 : mj_Y.code kY 228 22 = some (.aload_n 0) ∧ ((0 : Fin 4) : Nat) = 0 ∧ 23 = 22 + 1 := by decide +kernel
theorem c228_23 : mj_Y.code kY 228 23 = some (.iconst 2) ∧ Int32.ofInt 2 = 2 ∧ 24 = 23 + 1 := by decide +kernel
theorem c228_24 : mj_Y.code kY 228 24 = some (.iconst 0) ∧ Int32.ofInt 0 = 0 ∧ 25 = 24 + 1 := by decide +kernel
theorem c228_25 : mj_Y.code kY 228 25 = some (.iconst 0) ∧ Int32.ofInt 0 = 0 ∧ 26 = 25 + 1 := by decide +kernel
theorem c228_26 : mj_Y.code kY 228 26 = some (.iconst 0) ∧ Int32.ofInt 0 = 0 ∧ 27 = 26 + 1 := by decide +kernel
theorem c228_27 : mj_Y.code kY 228 27 = some (.iconst 0) ∧ Int32.ofInt 0 = 0 ∧ 28 = 27 + 1 := by decide +kernel
theorem c228_28 : mj_Y.code kY 228 28 = some (.invokevirtual 186) ∧ mj_Y.na kY 228 186 = some 5 ∧ mj_Y.cv kY 228 186 12 = some 224 ∧ mj_Y.nL kY 224 = 7 ∧ 31 = 28 + 3 := by decide +kernel
theorem c228_31 : mj_Y.code kY 228 31 = some (.aload_n 0) ∧ ((0 : Fin 4) : Nat) = 0 ∧ 32 = 31 + 1 := by decide +kernel
theorem c228_32 : mj_Y.code kY 228 32 = some (.getfield 61) ∧ mj_Y.fl kY 228 61 12 = some (18, (.array .int), false) ∧ 35 = 32 + 3 := by decide +kernel
theorem c228_35 : mj_Y.code kY 228 35 = some (.sipush 480) ∧ (Int16.ofInt 480).toInt32 = 480 ∧ 38 = 35 + 3 := by decide +kernel
theorem c228_38 : mj_Y.code kY 228 38 = some (.aload_n 0) ∧ ((0 : Fin 4) : Nat) = 0 ∧ 39 = 38 + 1 := by decide +kernel
theorem c228_39 : mj_Y.code kY 228 39 = some (.getfield 180) ∧ mj_Y.fl kY 228 180 12 = some (23, .int, true) ∧ 42 = 39 + 3 := by decide +kernel
theorem c228_42 : mj_Y.code kY 228 42 = some .iadd ∧ 43 = 42 + 1 := by decide +kernel
theorem c228_43 : mj_Y.code kY 228 43 = some (.iconst 1) ∧ Int32.ofInt 1 = 1 ∧ 44 = 43 + 1 := by decide +kernel
theorem c228_44 : mj_Y.code kY 228 44 = some .isub ∧ 45 = 44 + 1 := by decide +kernel
theorem c228_45 : mj_Y.code kY 228 45 = some (.iload_n 1) ∧ ((1 : Fin 4) : Nat) = 1 ∧ 46 = 45 + 1 := by decide +kernel
theorem c228_46 : mj_Y.code kY 228 46 = some .iastore ∧ 47 = 46 + 1 := by decide +kernel
theorem c228_47 : mj_Y.code kY 228 47 = some .return_ ∧ mj_Y.rt kY 228 = none := by decide +kernel
theorem c229_0 : mj_Y.code kY 229 0 = some (.aload_n 0) ∧ ((0 : Fin 4) : Nat) = 0 ∧ 1 = 0 + 1 := by decide +kernel
theorem c229_1 : mj_Y.code kY 229 1 = some (.invokevirtual 165) ∧ mj_Y.na kY 229 165 = some 0 ∧ mj_Y.cv kY 229 165 12 = some 212 ∧ mj_Y.nL kY 212 = 1 ∧ 4 = 1 + 3 := by decide +kernel
theorem c229_4 : mj_Y.code kY 229 4 = some (.invokestatic 241) ∧ mj_Y.pr kY 229 241 = none ∧ mj_Y.cs kY 229 241 = some (230, 1) ∧ mj_Y.nL kY 230 = 1 ∧ 7 = 4 + 3 := by decide +kernel
theorem c229_7 : mj_Y.code kY 229 7 = some (.istore_n 1) ∧ ((1 : Fin 4) : Nat) = 1 ∧ 1 < mj_Y.nL kY 229 ∧ 8 = 7 + 1 := by decide +kernel
theorem c229_8 : mj_Y.code kY 229 8 = some (.iload_n 1) ∧ ((1 : Fin 4) : Nat) = 1 ∧ 9 = 8 + 1 := by decide +kernel
theorem c229_9 : mj_Y.code kY 229 9 = some (.iconst 2) ∧ Int32.ofInt 2 = 2 ∧ 10 = 9 + 1 := by decide +kernel
theorem c229_10 : mj_Y.code kY 229 10 = some (.if_icmp .gt 14) ∧ mj_tg 10 14 = some 24 ∧ 13 = 10 + 3 := by decide +kernel
theorem c229_13 : mj_Y.code kY 229 13 = some (.iload_n 1) ∧ ((1 : Fin 4) : Nat) = 1 ∧ 14 = 13 + 1 := by decide +kernel
theorem c229_14 : mj_Y.code kY 229 14 = some (.ifCond .lt 56) ∧ mj_tg 14 56 = some 70 ∧ 17 = 14 + 3 := by decide +kernel
theorem c229_17 : mj_Y.code kY 229 17 = some (.aload_n 0) ∧ ((0 : Fin 4) : Nat) = 0 ∧ 18 = 17 + 1 := by decide +kernel
theorem c229_18 : mj_Y.code kY 229 18 = some (.getfield 228) ∧ mj_Y.fl kY 229 228 12 = some (31, .boolean, true) ∧ 21 = 18 + 3 := by decide +kernel
theorem c229_21 : mj_Y.code kY 229 21 = some (.ifCond .ne 49) ∧ mj_tg 21 49 = some 70 ∧ 24 = 21 + 3 := by decide +kernel
theorem c229_24 : mj_Y.code kY 229 24 = some (.aload_n 0) ∧ ((0 : Fin 4) : Nat) = 0 ∧ 25 = 24 + 1 := by decide +kernel
theorem c229_25 : mj_Y.code kY 229 25 = some (.iload_n 1) ∧ ((1 : Fin 4) : Nat) = 1 ∧ 26 = 25 + 1 := by decide +kernel
theorem c229_26 : mj_Y.code kY 229 26 = some (.invokestatic 215) ∧ mj_Y.pr kY 229 215 = none ∧ mj_Y.cs kY 229 215 = some (231, 1) ∧ mj_Y.nL kY 231 = 1 ∧ 29 = 26 + 3 := by decide +kernel
theorem c229_29 : mj_Y.code kY 229 29 = some (.invokevirtual 244) ∧ mj_Y.na kY 229 244 = some 1 ∧ mj_Y.cv kY 229 244 12 = some 232 ∧ mj_Y.nL kY 232 = 2 ∧ 32 = 29 + 3 := by decide +kernel
theorem c229_32 : mj_Y.code kY 229 32 = some (.aload_n 0) ∧ ((0 : Fin 4) : Nat) = 0 ∧ 33 = 32 + 1 := by decide +kernel
theorem c229_33 : mj_Y.code kY 229 33 = some (.aload_n 0) ∧ ((0 : Fin 4) : Nat) = 0 ∧ 34 = 33 + 1 := by decide +kernel
theorem c229_34 : mj_Y.code kY 229 34 = some (.getfield 228) ∧ mj_Y.fl kY 229 228 12 = some (31, .boolean, true) ∧ 37 = 34 + 3 := by decide +kernel
theorem c229_37 : mj_Y.code kY 229 37 = some (.ifCond .ne 8) ∧ mj_tg 37 8 = some 45 ∧ 40 = 37 + 3 := by decide +kernel
theorem c229_40 : mj_Y.code kY 229 40 = some (.iload_n 1) ∧ ((1 : Fin 4) : Nat) = 1 ∧ 41 = 40 + 1 := by decide +kernel
theorem c229_41 : mj_Y.code kY 229 41 = some (.iconst 3) ∧ Int32.ofInt 3 = 3 ∧ 42 = 41 + 1 := by decide +kernel
theorem c229_42 : mj_Y.code kY 229 42 = some (.if_icmp .ge 7) ∧ mj_tg 42 7 = some 49 ∧ 45 = 42 + 3 := by decide +kernel
theorem c229_45 : mj_Y.code kY 229 45 = some (.iconst 1) ∧ Int32.ofInt 1 = 1 ∧ 46 = 45 + 1 := by decide +kernel
theorem c229_46 : mj_Y.code kY 229 46 = some (.goto 4) ∧ mj_tg 46 4 = some 50 := by decide +kernel
theorem c229_49 : mj_Y.code kY 229 49 = some (.iconst 0) ∧ Int32.ofInt 0 = 0 ∧ 50 = 49 + 1 := by decide +kernel
theorem c229_50 : mj_Y.code kY 229 50 = some (.putfield 228) ∧ mj_Y.fl kY 229 228 12 = some (31, .boolean, true) ∧ 53 = 50 + 3 := by decide +kernel
theorem c229_53 : mj_Y.code kY 229 53 = some (.aload_n 0) ∧ ((0 : Fin 4) : Nat) = 0 ∧ 54 = 53 + 1 := by decide +kernel
theorem c229_54 : mj_Y.code kY 229 54 = some (.iload_n 1) ∧ ((1 : Fin 4) : Nat) = 1 ∧ 55 = 54 + 1 := by decide +kernel
theorem c229_55 : mj_Y.code kY 229 55 = some (.invokevirtual 232) ∧ mj_Y.na kY 229 232 = some 1 ∧ mj_Y.cv kY 229 232 12 = some 222 ∧ mj_Y.nL kY 222 = 2 ∧ 58 = 55 + 3 := by decide +kernel
theorem c229_58 : mj_Y.code kY 229 58 = some (.aload_n 0) ∧ ((0 : Fin 4) : Nat) = 0 ∧ 59 = 58 + 1 := by decide +kernel
theorem c229_59 : mj_Y.code kY 229 59 = some .dup ∧ 60 = 59 + 1 := by decide +kernel
theorem c229_60 : mj_Y.code kY 229 60 = some (.getfield 162) ∧ mj_Y.fl kY 229 162 12 = some (22, .int, true) ∧ 63 = 60 + 3 := by decide +kernel
theorem c229_63 : mj_Y.code kY 229 63 = some (.iconst 1) ∧ Int32.ofInt 1 = 1 ∧ 64 = 63 + 1 := by decide +kernel
theorem c229_64 : mj_Y.code kY 229 64 = some .iadd ∧ 65 = 64 + 1 := by decide +kernel
theorem c229_65 : mj_Y.code kY 229 65 = some (.putfield 162) ∧ mj_Y.fl kY 229 162 12 = some (22, .int, true) ∧ 68 = 65 + 3 := by decide +kernel
theorem c229_68 : mj_Y.code kY 229 68 = some (.iconst 1) ∧ Int32.ofInt 1 = 1 ∧ 69 = 68 + 1 := by decide +kernel
theorem c229_69 : mj_Y.code kY 229 69 = some .ireturn ∧ mj_Y.rt kY 229 = some .boolean := by decide +kernel
theorem c229_70 : mj_Y.code kY 229 70 = some (.aload_n 0) ∧ ((0 : Fin 4) : Nat) = 0 ∧ 71 = 70 + 1 := by decide +kernel
theorem c229_71 : mj_Y.code kY 229 71 = some (.iconst 0) ∧ Int32.ofInt 0 = 0 ∧ 72 = 71 + 1 := by decide +kernel
theorem c229_72 : mj_Y.code kY 229 72 = some (.invokevirtual 244) ∧ mj_Y.na kY 229 244 = some 1 ∧ mj_Y.cv kY 229 244 12 = some 232 ∧ mj_Y.nL kY 232 = 2 ∧ 75 = 72 + 3 := by decide +kernel
theorem c229_75 : mj_Y.code kY 229 75 = some (.aload_n 0) ∧ ((0 : Fin 4) : Nat) = 0 ∧ 76 = 75 + 1 := by decide +kernel
theorem c229_76 : mj_Y.code kY 229 76 = some (.getfield 212) ∧ mj_Y.fl kY 229 212 12 = some (29, .int, true) ∧ 79 = 76 + 3 := by decide +kernel
theorem c229_79 : mj_Y.code kY 229 79 = some (.ifCond .ne 5) ∧ mj_tg 79 5 = some 84 ∧ 82 = 79 + 3 := by decide +kernel
theorem c229_82 : mj_Y.code kY 229 82 = some (.iconst 1) ∧ Int32.ofInt 1 = 1 ∧ 83 = 82 + 1 := by decide +kernel
theorem c229_83 : mj_Y.code kY 229 83 = some .ireturn ∧ mj_Y.rt kY 229 = some .boolean := by decide +kernel
theorem c229_84 : mj_Y.code kY 229 84 = some (.aload_n 0) ∧ ((0 : Fin 4) : Nat) = 0 ∧ 85 = 84 + 1 := by decide +kernel
theorem c229_85 : mj_Y.code kY 229 85 = some (.bipush 41) ∧ (Int8.ofInt 41).toInt32 = 41 ∧ 87 = 85 + 2 := by decide +kernel
theorem c229_87 : mj_Y.code kY 229 87 = some (.invokevirtual 190) ∧ mj_Y.na kY 229 190 = some 1 ∧ mj_Y.cv kY 229 190 12 = some 219 ∧ mj_Y.nL kY 219 = 2 ∧ 90 = 87 + 3 := by decide +kernel
theorem c229_90 : mj_Y.code kY 229 90 = some (.ifCond .ne 5) ∧ mj_tg 90 5 = some 95 ∧ 93 = 90 + 3 := by decide +kernel
theorem c229_93 : mj_Y.code kY 229 93 = some (.iconst 0) ∧ Int32.ofInt 0 = 0 ∧ 94 = 93 + 1 := by decide +kernel
theorem c229_94 : mj_Y.code kY 229 94 = some .ireturn ∧ mj_Y.rt kY 229 = some .boolean := by decide +kernel
theorem c229_95 : mj_Y.code kY 229 95 = some (.aload_n 0) ∧ ((0 : Fin 4) : Nat) = 0 ∧ 96 = 95 + 1 := by decide +kernel
theorem c229_96 : mj_Y.code kY 229 96 = some .dup ∧ 97 = 96 + 1 := by decide +kernel
theorem c229_97 : mj_Y.code kY 229 97 = some (.getfield 212) ∧ mj_Y.fl kY 229 212 12 = some (29, .int, true) ∧ 100 = 97 + 3 := by decide +kernel
theorem c229_100 : mj_Y.code kY 229 100 = some (.iconst 1) ∧ Int32.ofInt 1 = 1 ∧ 101 = 100 + 1 := by decide +kernel
theorem c229_101 : mj_Y.code kY 229 101 = some .isub ∧ 102 = 101 + 1 := by decide +kernel
theorem c229_102 : mj_Y.code kY 229 102 = some (.putfield 212) ∧ mj_Y.fl kY 229 212 12 = some (29, .int, true) ∧ 105 = 102 + 3 := by decide +kernel
theorem c229_105 : mj_Y.code kY 229 105 = some (.aload_n 0) ∧ ((0 : Fin 4) : Nat) = 0 ∧ 106 = 105 + 1 := by decide +kernel
theorem c229_106 : mj_Y.code kY 229 106 = some .dup ∧ 107 = 106 + 1 := by decide +kernel
theorem c229_107 : mj_Y.code kY 229 107 = some (.getfield 222) ∧ mj_Y.fl kY 229 222 12 = some (30, .int, true) ∧ 110 = 107 + 3 := by decide +kernel
theorem c229_110 : mj_Y.code kY 229 110 = some (.iconst 1) ∧ Int32.ofInt 1 = 1 ∧ 111 = 110 + 1 := by decide +kernel
theorem c229_111 : mj_Y.code kY 229 111 = some .isub ∧ 112 = 111 + 1 := by decide +kernel
theorem c229_112 : mj_Y.code kY 229 112 = some (.putfield 222) ∧ mj_Y.fl kY 229 222 12 = some (30, .int, true) ∧ 115 = 112 + 3 := by decide +kernel
theorem c229_115 : mj_Y.code kY 229 115 = some (.aload_n 0) ∧ ((0 : Fin 4) : Nat) = 0 ∧ 116 = 115 + 1 := by decide +kernel
theorem c229_116 : mj_Y.code kY 229 116 = some (.aload_n 0) ∧ ((0 : Fin 4) : Nat) = 0 ∧ 117 = 116 + 1 := by decide +kernel
theorem c229_117 : mj_Y.code kY 229 117 = some (.getfield 76) ∧ mj_Y.fl kY 229 76 12 = some (28, (.array .boolean), false) ∧ 120 = 117 + 3 := by decide +kernel
theorem c229_120 : mj_Y.code kY 229 120 = some (.aload_n 0) ∧ ((0 : Fin 4) : Nat) = 0 ∧ 121 = 120 + 1 := by decide +kernel
theorem c229_121 : mj_Y.code kY 229 121 = some (.getfield 212) ∧ mj_Y.fl kY 229 212 12 = some (29, .int, true) ∧ 124 = 121 + 3 := by decide +kernel
theorem c229_124 : mj_Y.code kY 229 124 = some .baload ∧ 125 = 124 + 1 := by decide +kernel
theorem c229_125 : mj_Y.code kY 229 125 = some (.putfield 228) ∧ mj_Y.fl kY 229 228 12 = some (31, .boolean, true) ∧ 128 = 125 + 3 := by decide +kernel
theorem c229_128 : mj_Y.code kY 229 128 = some (.aload_n 0) ∧ ((0 : Fin 4) : Nat) = 0 ∧ 129 = 128 + 1 := by decide +kernel
theorem c229_129 : mj_Y.code kY 229 129 = some (.invokevirtual 238) ∧ mj_Y.na kY 229 238 = some 0 ∧ mj_Y.cv kY 229 238 12 = some 227 ∧ mj_Y.nL kY 227 = 1 ∧ 132 = 129 + 3 := by decide +kernel
theorem c229_132 : mj_Y.code kY 229 132 = some (.goto (-132)) ∧ mj_tg 132 (-132) = some 0 := by decide +kernel
theorem c230_0 : mj_Y.code kY 230 0 = some (.iload_n 0) ∧ ((0 : Fin 4) : Nat) = 0 ∧ 1 = 0 + 1 := by decide +kernel
theorem c230_1 : mj_Y.code kY 230 1 = some (.bipush 60) ∧ (Int8.ofInt 60).toInt32 = 60 ∧ 3 = 1 + 2 := by decide +kernel
theorem c230_3 : mj_Y.code kY 230 3 = some (.if_icmp .ne 7) ∧ mj_tg 3 7 = some 10 ∧ 6 = 3 + 3 := by decide +kernel
theorem c230_6 : mj_Y.code kY 230 6 = some (.iconst 0) ∧ Int32.ofInt 0 = 0 ∧ 7 = 6 + 1 := by decide +kernel
theorem c230_7 : mj_Y.code kY 230 7 = some (.goto 76) ∧ mj_tg 7 76 = some 83 := by decide +kernel
theorem c230_10 : mj_Y.code kY 230 10 = some (.iload_n 0) ∧ ((0 : Fin 4) : Nat) = 0 ∧ 11 = 10 + 1 := by decide +kernel
theorem c230_11 : mj_Y.code kY 230 11 = some (.bipush 62) ∧ (Int8.ofInt 62).toInt32 = 62 ∧ 13 = 11 + 2 := by decide +kernel
theorem c230_13 : mj_Y.code kY 230 13 = some (.if_icmp .ne 7) ∧ mj_tg 13 7 = some 20 ∧ 16 = 13 + 3 := by decide +kernel
theorem c230_16 : mj_Y.code kY 230 16 = some (.iconst 1) ∧ Int32.ofInt 1 = 1 ∧ 17 = 16 + 1 := by decide +kernel
theorem c230_17 : mj_Y.code kY 230 17 = some (.goto 66) ∧ mj_tg 17 66 = some 83 := by decide +kernel
theorem c230_20 : mj_Y.code kY 230 20 = some (.iload_n 0) ∧ ((0 : Fin 4) : Nat) = 0 ∧ 21 = 20 + 1 := by decide +kernel
theorem c230_21 : mj_Y.code kY 230 21 = some (.bipush 61) ∧ (Int8.ofInt 61).toInt32 = 61 ∧ 23 = 21 + 2 := by decide +kernel
theorem c230_23 : mj_Y.code kY 230 23 = some (.if_icmp .ne 7) ∧ mj_tg 23 7 = some 30 ∧ 26 = 23 + 3 := by decide +kernel
theorem c230_26 : mj_Y.code kY 230 26 = some (.iconst 2) ∧ Int32.ofInt 2 = 2 ∧ 27 = 26 + 1 := by decide +kernel
theorem c230_27 : mj_Y.code kY 230 27 = some (.goto 56) ∧ mj_tg 27 56 = some 83 := by decide +kernel
theorem c230_30 : mj_Y.code kY 230 30 = some (.iload_n 0) ∧ ((0 : Fin 4) : Nat) = 0 ∧ 31 = 30 + 1 := by decide +kernel
theorem c230_31 : mj_Y.code kY 230 31 = some (.bipush 43) ∧ (Int8.ofInt 43).toInt32 = 43 ∧ 33 = 31 + 2 := by decide +kernel
theorem c230_33 : mj_Y.code kY 230 33 = some (.if_icmp .ne 7) ∧ mj_tg 33 7 = some 40 ∧ 36 = 33 + 3 := by decide +kernel
theorem c230_36 : mj_Y.code kY 230 36 = some (.iconst 3) ∧ Int32.ofInt 3 = 3 ∧ 37 = 36 + 1 := by decide +kernel
theorem c230_37 : mj_Y.code kY 230 37 = some (.goto 46) ∧ mj_tg 37 46 = some 83 := by decide +kernel
theorem c230_40 : mj_Y.code kY 230 40 = some (.iload_n 0) ∧ ((0 : Fin 4) : Nat) = 0 ∧ 41 = 40 + 1 := by decide +kernel
theorem c230_41 : mj_Y.code kY 230 41 = some (.bipush 45) ∧ (Int8.ofInt 45).toInt32 = 45 ∧ 43 = 41 + 2 := by decide +kernel
theorem c230_43 : mj_Y.code kY 230 43 = some (.if_icmp .ne 7) ∧ mj_tg 43 7 = some 50 ∧ 46 = 43 + 3 := by decide +kernel
theorem c230_46 : mj_Y.code kY 230 46 = some (.iconst 4) ∧ Int32.ofInt 4 = 4 ∧ 47 = 46 + 1 := by decide +kernel
theorem c230_47 : mj_Y.code kY 230 47 = some (.goto 36) ∧ mj_tg 47 36 = some 83 := by decide +kernel
theorem c230_50 : mj_Y.code kY 230 50 = some (.iload_n 0) ∧ ((0 : Fin 4) : Nat) = 0 ∧ 51 = 50 + 1 := by decide +kernel
theorem c230_51 : mj_Y.code kY 230 51 = some (.bipush 42) ∧ (Int8.ofInt 42).toInt32 = 42 ∧ 53 = 51 + 2 := by decide +kernel
theorem c230_53 : mj_Y.code kY 230 53 = some (.if_icmp .ne 7) ∧ mj_tg 53 7 = some 60 ∧ 56 = 53 + 3 := by decide +kernel
theorem c230_56 : mj_Y.code kY 230 56 = some (.iconst 5) ∧ Int32.ofInt 5 = 5 ∧ 57 = 56 + 1 := by decide +kernel
theorem c230_57 : mj_Y.code kY 230 57 = some (.goto 26) ∧ mj_tg 57 26 = some 83 := by decide +kernel
theorem c230_60 : mj_Y.code kY 230 60 = some (.iload_n 0) ∧ ((0 : Fin 4) : Nat) = 0 ∧ 61 = 60 + 1 := by decide +kernel
theorem c230_61 : mj_Y.code kY 230 61 = some (.bipush 47) ∧ (Int8.ofInt 47).toInt32 = 47 ∧ 63 = 61 + 2 := by decide +kernel
theorem c230_63 : mj_Y.code kY 230 63 = some (.if_icmp .ne 8) ∧ mj_tg 63 8 = some 71 ∧ 66 = 63 + 3 := by decide +kernel
theorem c230_66 : mj_Y.code kY 230 66 = some (.bipush 6) ∧ (Int8.ofInt 6).toInt32 = 6 ∧ 68 = 66 + 2 := by decide +kernel
theorem c230_68 : mj_Y.code kY 230 68 = some (.goto 15) ∧ mj_tg 68 15 = some 83 := by decide +kernel
theorem c230_71 : mj_Y.code kY 230 71 = some (.iload_n 0) ∧ ((0 : Fin 4) : Nat) = 0 ∧ 72 = 71 + 1 := by decide +kernel
theorem c230_72 : mj_Y.code kY 230 72 = some (.bipush 37) ∧ (Int8.ofInt 37).toInt32 = 37 ∧ 74 = 72 + 2 := by decide +kernel
theorem c230_74 : mj_Y.code kY 230 74 = some (.if_icmp .ne 8) ∧ mj_tg 74 8 = some 82 ∧ 77 = 74 + 3 := by decide +kernel
theorem c230_77 : mj_Y.code kY 230 77 = some (.bipush 7) ∧ (Int8.ofInt 7).toInt32 = 7 ∧ 79 = 77 + 2 := by decide +kernel
theorem c230_79 : mj_Y.code kY 230 79 = some (.goto 4) ∧ mj_tg 79 4 = some 83 := by decide +kernel
theorem c230_82 : mj_Y.code kY 230 82 = some (.iconst (-1)) ∧ Int32.ofInt (-1) = (-1) ∧ 83 = 82 + 1 := by decide +kernel
theorem c230_83 : mj_Y.code kY 230 83 = some .ireturn ∧ mj_Y.rt kY 230 = some .int := by decide +kernel
theorem c231_0 : mj_Y.code kY 231 0 = some (.iload_n 0) ∧ ((0 : Fin 4) : Nat) = 0 ∧ 1 = 0 + 1 := by decide +kernel
theorem c231_1 : mj_Y.code kY 231 1 = some (.iconst 3) ∧ Int32.ofInt 3 = 3 ∧ 2 = 1 + 1 := by decide +kernel
theorem c231_2 : mj_Y.code kY 231 2 = some (.if_icmp .ge 7) ∧ mj_tg 2 7 = some 9 ∧ 5 = 2 + 3 := by decide +kernel
theorem c231_5 : mj_Y.code kY 231 5 = some (.iconst 0) ∧ Int32.ofInt 0 = 0 ∧ 6 = 5 + 1 := by decide +kernel
theorem c231_6 : mj_Y.code kY 231 6 = some (.goto 13) ∧ mj_tg 6 13 = some 19 := by decide +kernel
theorem c231_9 : mj_Y.code kY 231 9 = some (.iload_n 0) ∧ ((0 : Fin 4) : Nat) = 0 ∧ 10 = 9 + 1 := by decide +kernel
theorem c231_10 : mj_Y.code kY 231 10 = some (.iconst 5) ∧ Int32.ofInt 5 = 5 ∧ 11 = 10 + 1 := by decide +kernel
theorem c231_11 : mj_Y.code kY 231 11 = some (.if_icmp .ge 7) ∧ mj_tg 11 7 = some 18 ∧ 14 = 11 + 3 := by decide +kernel
theorem c231_14 : mj_Y.code kY 231 14 = some (.iconst 1) ∧ Int32.ofInt 1 = 1 ∧ 15 = 14 + 1 := by decide +kernel
theorem c231_15 : mj_Y.code kY 231 15 = some (.goto 4) ∧ mj_tg 15 4 = some 19 := by decide +kernel
theorem c231_18 : mj_Y.code kY 231 18 = some (.iconst 2) ∧ Int32.ofInt 2 = 2 ∧ 19 = 18 + 1 := by decide +kernel
theorem c231_19 : mj_Y.code kY 231 19 = some .ireturn ∧ mj_Y.rt kY 231 = some .int := by decide +kernel
theorem c232_0 : mj_Y.code kY 232 0 = some (.aload_n 0) ∧ ((0 : Fin 4) : Nat) = 0 ∧ 1 = 0 + 1 := by decide +kernel
theorem c232_1 : mj_Y.code kY 232 1 = some (.getfield 212) ∧ mj_Y.fl kY 232 212 12 = some (29, .int, true) ∧ 4 = 1 + 3 := by decide +kernel
theorem c232_4 : mj_Y.code kY 232 4 = some (.ifCond .le 63) ∧ mj_tg 4 63 = some 67 ∧ 7 = 4 + 3 := by decide +kernel
theorem c232_7 : mj_Y.code kY 232 7 = some (.aload_n 0) ∧ ((0 : Fin 4) : Nat) = 0 ∧ 8 = 7 + 1 := by decide +kernel
theorem c232_8 : mj_Y.code kY 232 8 = some (.getfield 73) ∧ mj_Y.fl kY 232 73 12 = some (27, (.array .int), false) ∧ 11 = 8 + 3 := by decide +kernel
theorem c232_11 : mj_Y.code kY 232 11 = some (.aload_n 0) ∧ ((0 : Fin 4) : Nat) = 0 ∧ 12 = 11 + 1 := by decide +kernel
theorem c232_12 : mj_Y.code kY 232 12 = some (.getfield 212) ∧ mj_Y.fl kY 232 212 12 = some (29, .int, true) ∧ 15 = 12 + 3 := by decide +kernel
theorem c232_15 : mj_Y.code kY 232 15 = some (.iconst 1) ∧ Int32.ofInt 1 = 1 ∧ 16 = 15 + 1 := by decide +kernel
theorem c232_16 : mj_Y.code kY 232 16 = some .isub ∧ 17 = 16 + 1 := by decide +kernel
theorem c232_17 : mj_Y.code kY 232 17 = some .iaload ∧ 18 = 17 + 1 := by decide +kernel
theorem c232_18 : mj_Y.code kY 232 18 = some (.bipush 20) ∧ (Int8.ofInt 20).toInt32 = 20 ∧ 20 = 18 + 2 := by decide +kernel
theorem c232_20 : mj_Y.code kY 232 20 = some (.if_icmp .ge 47) ∧ mj_tg 20 47 = some 67 ∧ 23 = 20 + 3 := by decide +kernel
theorem c232_23 : mj_Y.code kY 232 23 = some (.aload_n 0) ∧ ((0 : Fin 4) : Nat) = 0 ∧ 24 = 23 + 1 := by decide +kernel
theorem c232_24 : mj_Y.code kY 232 24 = some (.getfield 73) ∧ mj_Y.fl kY 232 73 12 = some (27, (.array .int), false) ∧ 27 = 24 + 3 := by decide +kernel
theorem c232_27 : mj_Y.code kY 232 27 = some (.aload_n 0) ∧ ((0 : Fin 4) : Nat) = 0 ∧ 28 = 27 + 1 := by decide +kernel
theorem c232_28 : mj_Y.code kY 232 28 = some (.getfield 212) ∧ mj_Y.fl kY 232 212 12 = some (29, .int, true) ∧ 31 = 28 + 3 := by decide +kernel
theorem c232_31 : mj_Y.code kY 232 31 = some (.iconst 1) ∧ Int32.ofInt 1 = 1 ∧ 32 = 31 + 1 := by decide +kernel
theorem c232_32 : mj_Y.code kY 232 32 = some .isub ∧ 33 = 32 + 1 := by decide +kernel
theorem c232_33 : mj_Y.code kY 232 33 = some .iaload ∧ 34 = 33 + 1 := by decide +kernel
theorem c232_34 : mj_Y.code kY 232 34 = some (.invokestatic 215) ∧ mj_Y.pr kY 232 215 = none ∧ mj_Y.cs kY 232 215 = some (231, 1) ∧ mj_Y.nL kY 231 = 1 ∧ 37 = 34 + 3 := by decide +kernel
theorem c232_37 : mj_Y.code kY 232 37 = some (.iload_n 1) ∧ ((1 : Fin 4) : Nat) = 1 ∧ 38 = 37 + 1 := by decide +kernel
theorem c232_38 : mj_Y.code kY 232 38 = some (.if_icmp .lt 29) ∧ mj_tg 38 29 = some 67 ∧ 41 = 38 + 3 := by decide +kernel
theorem c232_41 : mj_Y.code kY 232 41 = some (.aload_n 0) ∧ ((0 : Fin 4) : Nat) = 0 ∧ 42 = 41 + 1 := by decide +kernel
theorem c232_42 : mj_Y.code kY 232 42 = some .dup ∧ 43 = 42 + 1 := by decide +kernel
theorem c232_43 : mj_Y.code kY 232 43 = some (.getfield 212) ∧ mj_Y.fl kY 232 212 12 = some (29, .int, true) ∧ 46 = 43 + 3 := by decide +kernel
theorem c232_46 : mj_Y.code kY 232 46 = some (.iconst 1) ∧ Int32.ofInt 1 = 1 ∧ 47 = 46 + 1 := by decide +kernel
theorem c232_47 : mj_Y.code kY 232 47 = some .isub ∧ 48 = 47 + 1 := by decide +kernel
theorem c232_48 : mj_Y.code kY 232 48 = some (.putfield 212) ∧ mj_Y.fl kY 232 212 12 = some (29, .int, true) ∧ 51 = 48 + 3 := by decide +kernel
theorem c232_51 : mj_Y.code kY 232 51 = some (.aload_n 0) ∧ ((0 : Fin 4) : Nat) = 0 ∧ 52 = 51 + 1 := by decide +kernel
theorem c232_52 : mj_Y.code kY 232 52 = some (.aload_n 0) ∧ ((0 : Fin 4) : Nat) = 0 ∧ 53 = 52 + 1 := by decide +kernel
theorem c232_53 : mj_Y.code kY 232 53 = some (.getfield 73) ∧ mj_Y.fl kY 232 73 12 = some (27, (.array .int), false) ∧ 56 = 53 + 3 := by decide +kernel
theorem c232_56 : mj_Y.code kY 232 56 = some (.aload_n 0) ∧ ((0 : Fin 4) : Nat) = 0 ∧ 57 = 56 + 1 := by decide +kernel
theorem c232_57 : mj_Y.code kY 232 57 = some (.getfield 212) ∧ mj_Y.fl kY 232 212 12 = some (29, .int, true) ∧ 60 = 57 + 3 := by decide +kernel
theorem c232_60 : mj_Y.code kY 232 60 = some .iaload ∧ 61 = 60 + 1 := by decide +kernel
theorem c232_61 : mj_Y.code kY 232 61 = some (.invokevirtual 219) ∧ mj_Y.na kY 232 219 = some 1 ∧ mj_Y.cv kY 232 219 12 = some 233 ∧ mj_Y.nL kY 233 = 4 ∧ 64 = 61 + 3 := by decide +kernel
theorem c232_64 : mj_Y.code kY 232 64 = some (.goto (-64)) ∧ mj_tg 64 (-64) = some 0 := by decide +kernel
theorem c232_67 : mj_Y.code kY 232 67 = some .return_ ∧ mj_Y.rt kY 232 = none := by decide +kernel
theorem c233_0 : mj_Y.code kY 233 0 = some (.aload_n 0) ∧ ((0 : Fin 4) : Nat) = 0 ∧ 1 = 0 + 1 := by decide +kernel
theorem c233_1 : mj_Y.code kY 233 1 = some (.getfield 79) ∧ mj_Y.fl kY 233 79 12 = some (32, (.array .int), false) ∧ 4 = 1 + 3 := by decide +kernel
theorem c233_4 : mj_Y.code kY 233 4 = some (.aload_n 0) ∧ ((0 : Fin 4) : Nat) = 0 ∧ 5 = 4 + 1 := by decide +kernel
theorem c233_5 : mj_Y.code kY 233 5 = some (.getfield 183) ∧ mj_Y.fl kY 233 183 12 = some (33, .int, true) ∧ 8 = 5 + 3 := by decide +kernel
theorem c233_8 : mj_Y.code kY 233 8 = some (.iconst 1) ∧ Int32.ofInt 1 = 1 ∧ 9 = 8 + 1 := by decide +kernel
theorem c233_9 : mj_Y.code kY 233 9 = some .isub ∧ 10 = 9 + 1 := by decide +kernel
theorem c233_10 : mj_Y.code kY 233 10 = some .iaload ∧ 11 = 10 + 1 := by decide +kernel
theorem c233_11 : mj_Y.code kY 233 11 = some (.istore_n 2) ∧ ((2 : Fin 4) : Nat) = 2 ∧ 2 < mj_Y.nL kY 233 ∧ 12 = 11 + 1 := by decide +kernel
theorem c233_12 : mj_Y.code kY 233 12 = some (.aload_n 0) ∧ ((0 : Fin 4) : Nat) = 0 ∧ 13 = 12 + 1 := by decide +kernel
theorem c233_13 : mj_Y.code kY 233 13 = some (.getfield 79) ∧ mj_Y.fl kY 233 79 12 = some (32, (.array .int), false) ∧ 16 = 13 + 3 := by decide +kernel
theorem c233_16 : mj_Y.code kY 233 16 = some (.aload_n 0) ∧ ((0 : Fin 4) : Nat) = 0 ∧ 17 = 16 + 1 := by decide +kernel
theorem c233_17 : mj_Y.code kY 233 17 = some (.getfield 183) ∧ mj_Y.fl kY 233 183 12 = some (33, .int, true) ∧ 20 = 17 + 3 := by decide +kernel
theorem c233_20 : mj_Y.code kY 233 20 = some (.iconst 2) ∧ Int32.ofInt 2 = 2 ∧ 21 = 20 + 1 := by decide +kernel
theorem c233_21 : mj_Y.code kY 233 21 = some .isub ∧ 22 = 21 + 1 := by decide +kernel
theorem c233_22 : mj_Y.code kY 233 22 = some .iaload ∧ 23 = 22 + 1 := by decide +kernel
theorem c233_23 : mj_Y.code kY 233 23 = some (.istore_n 3) ∧ ((3 : Fin 4) : Nat) = 3 ∧ 3 < mj_Y.nL kY 233 ∧ 24 = 23 + 1 := by decide +kernel
theorem c233_24 : mj_Y.code kY 233 24 = some (.aload_n 0) ∧ ((0 : Fin 4) : Nat) = 0 ∧ 25 = 24 + 1 := by decide +kernel
theorem c233_25 : mj_Y.code kY 233 25 = some (.aload_n 0) ∧ ((0 : Fin 4) : Nat) = 0 ∧ 26 = 25 + 1 := by decide +kernel
theorem c233_26 : mj_Y.code kY 233 26 = some (.getfield 183) ∧ mj_Y.fl kY 233 183 12 = some (33, .int, true) ∧ 29 = 26 + 3 := by decide +kernel
theorem c233_29 : mj_Y.code kY 233 29 = some (.iconst 2) ∧ Int32.ofInt 2 = 2 ∧ 30 = 29 + 1 := by decide +kernel
theorem c233_30 : mj_Y.code kY 233 30 = some .isub ∧ 31 = 30 + 1 := by decide +kernel
theorem c233_31 : mj_Y.code kY 233 31 = some (.putfield 183) ∧ mj_Y.fl kY 233 183 12 = some (33, .int, true) ∧ 34 = 31 + 3 := by decide +kernel
theorem c233_34 : mj_Y.code kY 233 34 = some (.aload_n 0) ∧ ((0 : Fin 4) : Nat) = 0 ∧ 35 = 34 + 1 := by decide +kernel
theorem c233_35 : mj_Y.code kY 233 35 = some (.iconst 3) ∧ Int32.ofInt 3 = 3 ∧ 36 = 35 + 1 := by decide +kernel
theorem c233_36 : mj_Y.code kY 233 36 = some (.iload_n 1) ∧ ((1 : Fin 4) : Nat) = 1 ∧ 37 = 36 + 1 := by decide +kernel
theorem c233_37 : mj_Y.code kY 233 37 = some (.iconst 0) ∧ Int32.ofInt 0 = 0 ∧ 38 = 37 + 1 := by decide +kernel
theorem c233_38 : mj_Y.code kY 233 38 = some (.iconst 0) ∧ Int32.ofInt 0 = 0 ∧ 39 = 38 + 1 := by decide +kernel
theorem c233_39 : mj_Y.code kY 233 39 = some (.iconst 0) ∧ Int32.ofInt 0 = 0 ∧ 40 = 39 + 1 := by decide +kernel
theorem c233_40 : mj_Y.code kY 233 40 = some (.invokevirtual 186) ∧ mj_Y.na kY 233 186 = some 5 ∧ mj_Y.cv kY 233 186 12 = some 224 ∧ mj_Y.nL kY 224 = 7 ∧ 43 = 40 + 3 := by decide +kernel
theorem c233_43 : mj_Y.code kY 233 43 = some (.aload_n 0) ∧ ((0 : Fin 4) : Nat) = 0 ∧ 44 = 43 + 1 := by decide +kernel
theorem c233_44 : mj_Y.code kY 233 44 = some (.getfield 61) ∧ mj_Y.fl kY 233 61 12 = some (18, (.array .int), false) ∧ 47 = 44 + 3 := by decide +kernel
theorem c233_47 : mj_Y.code kY 233 47 = some (.sipush 480) ∧ (Int16.ofInt 480).toInt32 = 480 ∧ 50 = 47 + 3 := by decide +kernel
theorem c233_50 : mj_Y.code kY 233 50 = some (.aload_n 0) ∧ ((0 : Fin 4) : Nat) = 0 ∧ 51 = 50 + 1 := by decide +kernel
theorem c233_51 : mj_Y.code kY 233 51 = some (.getfield 180) ∧ mj_Y.fl kY 233 180 12 = some (23, .int, true) ∧ 54 = 51 + 3 := by decide +kernel
theorem c233_54 : mj_Y.code kY 233 54 = some .iadd ∧ 55 = 54 + 1 := by decide +kernel
theorem c233_55 : mj_Y.code kY 233 55 = some (.iconst 1) ∧ Int32.ofInt 1 = 1 ∧ 56 = 55 + 1 := by decide +kernel
theorem c233_56 : mj_Y.code kY 233 56 = some .isub ∧ 57 = 56 + 1 := by decide +kernel
theorem c233_57 : mj_Y.code kY 233 57 = some (.iload_n 3) ∧ ((3 : Fin 4) : Nat) = 3 ∧ 58 = 57 + 1 := by decide +kernel
theorem c233_58 : mj_Y.code kY 233 58 = some .iastore ∧ 59 = 58 + 1 := by decide +kernel
theorem c233_59 : mj_Y.code kY 233 59 = some (.aload_n 0) ∧ ((0 : Fin 4) : Nat) = 0 ∧ 60 = 59 + 1 := by decide +kernel
theorem c233_60 : mj_Y.code kY 233 60 = some (.getfield 64) ∧ mj_Y.fl kY 233 64 12 = some (19, (.array .int), false) ∧ 63 = 60 + 3 := by decide +kernel
theorem c233_63 : mj_Y.code kY 233 63 = some (.sipush 480) ∧ (Int16.ofInt 480).toInt32 = 480 ∧ 66 = 63 + 3 := by decide +kernel
theorem c233_66 : mj_Y.code kY 233 66 = some (.aload_n 0) ∧ ((0 : Fin 4) : Nat) = 0 ∧ 67 = 66 + 1 := by decide +kernel
theorem c233_67 : mj_Y.code kY 233 67 = some (.getfield 180) ∧ mj_Y.fl kY 233 180 12 = some (23, .int, true) ∧ 70 = 67 + 3 := by decide +kernel
theorem c233_70 : mj_Y.code kY 233 70 = some .iadd ∧ 71 = 70 + 1 := by decide +kernel
theorem c233_71 : mj_Y.code kY 233 71 = some (.iconst 1) ∧ Int32.ofInt 1 = 1 ∧ 72 = 71 + 1 := by decide +kernel
theorem c233_72 : mj_Y.code kY 233 72 = some .isub ∧ 73 = 72 + 1 := by decide +kernel
theorem c233_73 : mj_Y.code kY 233 73 = some (.iload_n 2) ∧ ((2 : Fin 4) : Nat) = 2 ∧ 74 = 73 + 1 := by decide +kernel
theorem c233_74 : mj_Y.code kY 233 74 = some .iastore ∧ 75 = 74 + 1 := by decide +kernel
theorem c233_75 : mj_Y.code kY 233 75 = some .return_ ∧ mj_Y.rt kY 233 = none := by decide +kernel
theorem c234_0 : mj_Y.code kY 234 0 = some (.aload_n 0) ∧ ((0 : Fin 4) : Nat) = 0 ∧ 1 = 0 + 1 := by decide +kernel
theorem c234_1 : mj_Y.code kY 234 1 = some (.bipush 125) ∧ (Int8.ofInt 125).toInt32 = 125 ∧ 3 = 1 + 2 := by decide +kernel
theorem c234_3 : mj_Y.code kY 234 3 = some (.invokevirtual 190) ∧ mj_Y.na kY 234 190 = some 1 ∧ mj_Y.cv kY 234 190 12 = some 219 ∧ mj_Y.nL kY 219 = 2 ∧ 6 = 3 + 3 := by decide +kernel
theorem c234_6 : mj_Y.code kY 234 6 = some (.ifCond .ne 5) ∧ mj_tg 6 5 = some 11 ∧ 9 = 6 + 3 := by decide +kernel
theorem c234_9 : mj_Y.code kY 234 9 = some (.iconst 0) ∧ Int32.ofInt 0 = 0 ∧ 10 = 9 + 1 := by decide +kernel
theorem c234_10 : mj_Y.code kY 234 10 = some .ireturn ∧ mj_Y.rt kY 234 = some .boolean := by decide +kernel
theorem c234_11 : mj_Y.code kY 234 11 = some (.aload_n 0) ∧ ((0 : Fin 4) : Nat) = 0 ∧ 12 = 11 + 1 := by decide +kernel
theorem c234_12 : mj_Y.code kY 234 12 = some .dup ∧ 13 = 12 + 1 := by decide +kernel
theorem c234_13 : mj_Y.code kY 234 13 = some (.getfield 253) ∧ mj_Y.fl kY 234 253 12 = some (36, .int, true) ∧ 16 = 13 + 3 := by decide +kernel
theorem c234_16 : mj_Y.code kY 234 16 = some (.iconst 1) ∧ Int32.ofInt 1 = 1 ∧ 17 = 16 + 1 := by decide +kernel
theorem c234_17 : mj_Y.code kY 234 17 = some .isub ∧ 18 = 17 + 1 := by decide +kernel
theorem c234_18 : mj_Y.code kY 234 18 = some (.putfield 253) ∧ mj_Y.fl kY 234 253 12 = some (36, .int, true) ∧ 21 = 18 + 3 := by decide +kernel
theorem c234_21 : mj_Y.code kY 234 21 = some (.bipush 72) ∧ (Int8.ofInt 72).toInt32 = 72 ∧ 23 = 21 + 2 := by decide +kernel
theorem c234_23 : mj_Y.code kY 234 23 = some (.aload_n 0) ∧ ((0 : Fin 4) : Nat) = 0 ∧ 24 = 23 + 1 := by decide +kernel
theorem c234_24 : mj_Y.code kY 234 24 = some (.getfield 82) ∧ mj_Y.fl kY 234 82 12 = some (34, (.array .int), false) ∧ 27 = 24 + 3 := by decide +kernel
theorem c234_27 : mj_Y.code kY 234 27 = some (.aload_n 0) ∧ ((0 : Fin 4) : Nat) = 0 ∧ 28 = 27 + 1 := by decide +kernel
theorem c234_28 : mj_Y.code kY 234 28 = some (.getfield 253) ∧ mj_Y.fl kY 234 253 12 = some (36, .int, true) ∧ 31 = 28 + 3 := by decide +kernel
theorem c234_31 : mj_Y.code kY 234 31 = some .iaload ∧ 32 = 31 + 1 := by decide +kernel
theorem c234_32 : mj_Y.code kY 234 32 = some .iadd ∧ 33 = 32 + 1 := by decide +kernel
theorem c234_33 : mj_Y.code kY 234 33 = some (.istore_n 1) ∧ ((1 : Fin 4) : Nat) = 1 ∧ 1 < mj_Y.nL kY 234 ∧ 34 = 33 + 1 := by decide +kernel
theorem c234_34 : mj_Y.code kY 234 34 = some (.aload_n 0) ∧ ((0 : Fin 4) : Nat) = 0 ∧ 35 = 34 + 1 := by decide +kernel
theorem c234_35 : mj_Y.code kY 234 35 = some (.getfield 39) ∧ mj_Y.fl kY 234 39 12 = some (11, (.array .int), false) ∧ 38 = 35 + 3 := by decide +kernel
theorem c234_38 : mj_Y.code kY 234 38 = some (.iload_n 1) ∧ ((1 : Fin 4) : Nat) = 1 ∧ 39 = 38 + 1 := by decide +kernel
theorem c234_39 : mj_Y.code kY 234 39 = some (.aload_n 0) ∧ ((0 : Fin 4) : Nat) = 0 ∧ 40 = 39 + 1 := by decide +kernel
theorem c234_40 : mj_Y.code kY 234 40 = some (.getfield 21) ∧ mj_Y.fl kY 234 21 12 = some (5, (.array .int), false) ∧ 43 = 40 + 3 := by decide +kernel
theorem c234_43 : mj_Y.code kY 234 43 = some (.iconst 3) ∧ Int32.ofInt 3 = 3 ∧ 44 = 43 + 1 := by decide +kernel
theorem c234_44 : mj_Y.code kY 234 44 = some .iaload ∧ 45 = 44 + 1 := by decide +kernel
theorem c234_45 : mj_Y.code kY 234 45 = some .iastore ∧ 46 = 45 + 1 := by decide +kernel
theorem c234_46 : mj_Y.code kY 234 46 = some (.aload_n 0) ∧ ((0 : Fin 4) : Nat) = 0 ∧ 47 = 46 + 1 := by decide +kernel
theorem c234_47 : mj_Y.code kY 234 47 = some (.getfield 24) ∧ mj_Y.fl kY 234 24 12 = some (6, (.array .int), false) ∧ 50 = 47 + 3 := by decide +kernel
theorem c234_50 : mj_Y.code kY 234 50 = some (.iload_n 1) ∧ ((1 : Fin 4) : Nat) = 1 ∧ 51 = 50 + 1 := by decide +kernel
theorem c234_51 : mj_Y.code kY 234 51 = some .iaload ∧ 52 = 51 + 1 := by decide +kernel
theorem c234_52 : mj_Y.code kY 234 52 = some (.iconst 2) ∧ Int32.ofInt 2 = 2 ∧ 53 = 52 + 1 := by decide +kernel
theorem c234_53 : mj_Y.code kY 234 53 = some (.if_icmp .ne 61) ∧ mj_tg 53 61 = some 114 ∧ 56 = 53 + 3 := by decide +kernel
theorem c234_56 : mj_Y.code kY 234 56 = some (.aload_n 0) ∧ ((0 : Fin 4) : Nat) = 0 ∧ 57 = 56 + 1 := by decide +kernel
theorem c234_57 : mj_Y.code kY 234 57 = some (.getfield 85) ∧ mj_Y.fl kY 234 85 12 = some (35, (.array .boolean), false) ∧ 60 = 57 + 3 := by decide +kernel
theorem c234_60 : mj_Y.code kY 234 60 = some (.aload_n 0) ∧ ((0 : Fin 4) : Nat) = 0 ∧ 61 = 60 + 1 := by decide +kernel
theorem c234_61 : mj_Y.code kY 234 61 = some (.getfield 253) ∧ mj_Y.fl kY 234 253 12 = some (36, .int, true) ∧ 64 = 61 + 3 := by decide +kernel
theorem c234_64 : mj_Y.code kY 234 64 = some .baload ∧ 65 = 64 + 1 := by decide +kernel
theorem c234_65 : mj_Y.code kY 234 65 = some (.ifCond .ne 49) ∧ mj_tg 65 49 = some 114 ∧ 68 = 65 + 3 := by decide +kernel
theorem c234_68 : mj_Y.code kY 234 68 = some (.aload_n 0) ∧ ((0 : Fin 4) : Nat) = 0 ∧ 69 = 68 + 1 := by decide +kernel
theorem c234_69 : mj_Y.code kY 234 69 = some (.getfield 36) ∧ mj_Y.fl kY 234 36 12 = some (10, (.array .int), false) ∧ 72 = 69 + 3 := by decide +kernel
theorem c234_72 : mj_Y.code kY 234 72 = some (.iload_n 1) ∧ ((1 : Fin 4) : Nat) = 1 ∧ 73 = 72 + 1 := by decide +kernel
theorem c234_73 : mj_Y.code kY 234 73 = some (.aload_n 0) ∧ ((0 : Fin 4) : Nat) = 0 ∧ 74 = 73 + 1 := by decide +kernel
theorem c234_74 : mj_Y.code kY 234 74 = some (.getfield 21) ∧ mj_Y.fl kY 234 21 12 = some (5, (.array .int), false) ∧ 77 = 74 + 3 := by decide +kernel
theorem c234_77 : mj_Y.code kY 234 77 = some (.iconst 3) ∧ Int32.ofInt 3 = 3 ∧ 78 = 77 + 1 := by decide +kernel
theorem c234_78 : mj_Y.code kY 234 78 = some .iaload ∧ 79 = 78 + 1 := by decide +kernel
theorem c234_79 : mj_Y.code kY 234 79 = some .iastore ∧ 80 = 79 + 1 := by decide +kernel
theorem c234_80 : mj_Y.code kY 234 80 = some (.aload_n 0) ∧ ((0 : Fin 4) : Nat) = 0 ∧ 81 = 80 + 1 := by decide +kernel
theorem c234_81 : mj_Y.code kY 234 81 = some (.invokevirtual 165) ∧ mj_Y.na kY 234 165 = some 0 ∧ mj_Y.cv kY 234 165 12 = some 212 ∧ mj_Y.nL kY 212 = 1 ∧ 84 = 81 + 3 := by decide +kernel
theorem c234_84 : mj_Y.code kY 234 84 = some (.bipush 58) ∧ (Int8.ofInt 58).toInt32 = 58 ∧ 86 = 84 + 2 := by decide +kernel
theorem c234_86 : mj_Y.code kY 234 86 = some (.if_icmp .ne 28) ∧ mj_tg 86 28 = some 114 ∧ 89 = 86 + 3 := by decide +kernel
theorem c234_89 : mj_Y.code kY 234 89 = some (.aload_n 0) ∧ ((0 : Fin 4) : Nat) = 0 ∧ 90 = 89 + 1 := by decide +kernel
theorem c234_90 : mj_Y.code kY 234 90 = some .dup ∧ 91 = 90 + 1 := by decide +kernel
theorem c234_91 : mj_Y.code kY 234 91 = some (.getfield 162) ∧ mj_Y.fl kY 234 162 12 = some (22, .int, true) ∧ 94 = 91 + 3 := by decide +kernel
theorem c234_94 : mj_Y.code kY 234 94 = some (.iconst 1) ∧ Int32.ofInt 1 = 1 ∧ 95 = 94 + 1 := by decide +kernel
theorem c234_95 : mj_Y.code kY 234 95 = some .iadd ∧ 96 = 95 + 1 := by decide +kernel
theorem c234_96 : mj_Y.code kY 234 96 = some (.putfield 162) ∧ mj_Y.fl kY 234 162 12 = some (22, .int, true) ∧ 99 = 96 + 3 := by decide +kernel
theorem c234_99 : mj_Y.code kY 234 99 = some (.aload_n 0) ∧ ((0 : Fin 4) : Nat) = 0 ∧ 100 = 99 + 1 := by decide +kernel
theorem c234_100 : mj_Y.code kY 234 100 = some (.aload_n 0) ∧ ((0 : Fin 4) : Nat) = 0 ∧ 101 = 100 + 1 := by decide +kernel
theorem c234_101 : mj_Y.code kY 234 101 = some (.getfield 82) ∧ mj_Y.fl kY 234 82 12 = some (34, (.array .int), false) ∧ 104 = 101 + 3 := by decide +kernel
theorem c234_104 : mj_Y.code kY 234 104 = some (.aload_n 0) ∧ ((0 : Fin 4) : Nat) = 0 ∧ 105 = 104 + 1 := by decide +kernel
theorem c234_105 : mj_Y.code kY 234 105 = some (.getfield 253) ∧ mj_Y.fl kY 234 253 12 = some (36, .int, true) ∧ 108 = 105 + 3 := by decide +kernel
theorem c234_108 : mj_Y.code kY 234 108 = some .iaload ∧ 109 = 108 + 1 := by decide +kernel
theorem c234_109 : mj_Y.code kY 234 109 = some (.iconst 1) ∧ Int32.ofInt 1 = 1 ∧ 110 = 109 + 1 := by decide +kernel
theorem c234_110 : mj_Y.code kY 234 110 = some (.invokevirtual 256) ∧ mj_Y.na kY 234 256 = some 2 ∧ mj_Y.cv kY 234 256 12 = some 218 ∧ mj_Y.nL kY 218 = 3 ∧ 113 = 110 + 3 := by decide +kernel
theorem c234_113 : mj_Y.code kY 234 113 = some .ireturn ∧ mj_Y.rt kY 234 = some .boolean := by decide +kernel
theorem c234_114 : mj_Y.code kY 234 114 = some (.iconst 1) ∧ Int32.ofInt 1 = 1 ∧ 115 = 114 + 1 := by decide +kernel
theorem c234_115 : mj_Y.code kY 234 115 = some .ireturn ∧ mj_Y.rt kY 234 = some .boolean := by decide +kernel
theorem c235_0 : mj_Y.code kY 235 0 = some (.aload_n 0) ∧ ((0 : Fin 4) : Nat) = 0 ∧ 1 = 0 + 1 := by decide +kernel
theorem c235_1 : mj_Y.code kY 235 1 = some (.getfield 21) ∧ mj_Y.fl kY 235 21 12 = some (5, (.array .int), false) ∧ 4 = 1 + 3 := by decide +kernel
theorem c235_4 : mj_Y.code kY 235 4 = some (.iconst 3) ∧ Int32.ofInt 3 = 3 ∧ 5 = 4 + 1 := by decide +kernel
theorem c235_5 : mj_Y.code kY 235 5 = some .iaload ∧ 6 = 5 + 1 := by decide +kernel
theorem c235_6 : mj_Y.code kY 235 6 = some (.iconst 1) ∧ Int32.ofInt 1 = 1 ∧ 7 = 6 + 1 := by decide +kernel
theorem c235_7 : mj_Y.code kY 235 7 = some .isub ∧ 8 = 7 + 1 := by decide +kernel
theorem c235_8 : mj_Y.code kY 235 8 = some (.istore_n 1) ∧ ((1 : Fin 4) : Nat) = 1 ∧ 1 < mj_Y.nL kY 235 ∧ 9 = 8 + 1 := by decide +kernel
theorem c235_9 : mj_Y.code kY 235 9 = some (.iload_n 1) ∧ ((1 : Fin 4) : Nat) = 1 ∧ 10 = 9 + 1 := by decide +kernel
theorem c235_10 : mj_Y.code kY 235 10 = some (.ifCond .lt 149) ∧ mj_tg 10 149 = some 159 ∧ 13 = 10 + 3 := by decide +kernel
theorem c235_13 : mj_Y.code kY 235 13 = some (.bipush 72) ∧ (Int8.ofInt 72).toInt32 = 72 ∧ 15 = 13 + 2 := by decide +kernel
theorem c235_15 : mj_Y.code kY 235 15 = some (.iload_n 1) ∧ ((1 : Fin 4) : Nat) = 1 ∧ 16 = 15 + 1 := by decide +kernel
theorem c235_16 : mj_Y.code kY 235 16 = some .iadd ∧ 17 = 16 + 1 := by decide +kernel
theorem c235_17 : mj_Y.code kY 235 17 = some (.istore_n 2) ∧ ((2 : Fin 4) : Nat) = 2 ∧ 2 < mj_Y.nL kY 235 ∧ 18 = 17 + 1 := by decide +kernel
theorem c235_18 : mj_Y.code kY 235 18 = some (.lconst 1) ∧ Int64.ofNat ((1 : Fin 2) : Nat) = 1 ∧ 19 = 18 + 1 := by decide +kernel
theorem c235_19 : mj_Y.code kY 235 19 = some (.lstore_n 3) ∧ ((3 : Fin 4) : Nat) = 3 ∧ 3 + 1 < mj_Y.nL kY 235 ∧ 20 = 19 + 1 := by decide +kernel
theorem c235_20 : mj_Y.code kY 235 20 = some (.aload_n 0) ∧ ((0 : Fin 4) : Nat) = 0 ∧ 21 = 20 + 1 := by decide +kernel
theorem c235_21 : mj_Y.code kY 235 21 = some (.getfield 24) ∧ mj_Y.fl kY 235 24 12 = some (6, (.array .int), false) ∧ 24 = 21 + 3 := by decide +kernel
theorem c235_24 : mj_Y.code kY 235 24 = some (.iload_n 2) ∧ ((2 : Fin 4) : Nat) = 2 ∧ 25 = 24 + 1 := by decide +kernel
theorem c235_25 : mj_Y.code kY 235 25 = some .iaload ∧ 26 = 25 + 1 := by decide +kernel
theorem c235_26 : mj_Y.code kY 235 26 = some (.iconst 3) ∧ Int32.ofInt 3 = 3 ∧ 27 = 26 + 1 := by decide +kernel
theorem c235_27 : mj_Y.code kY 235 27 = some (.if_icmp .ne 30) ∧ mj_tg 27 30 = some 57 ∧ 30 = 27 + 3 := by decide +kernel
theorem c235_30 : mj_Y.code kY 235 30 = some (.aload_n 0) ∧ ((0 : Fin 4) : Nat) = 0 ∧ 31 = 30 + 1 := by decide +kernel
theorem c235_31 : mj_Y.code kY 235 31 = some (.iconst 3) ∧ Int32.ofInt 3 = 3 ∧ 32 = 31 + 1 := by decide +kernel
theorem c235_32 : mj_Y.code kY 235 32 = some (.iload_n 1) ∧ ((1 : Fin 4) : Nat) = 1 ∧ 33 = 32 + 1 := by decide +kernel
theorem c235_33 : mj_Y.code kY 235 33 = some (.iconst 1) ∧ Int32.ofInt 1 = 1 ∧ 34 = 33 + 1 := by decide +kernel
theorem c235_34 : mj_Y.code kY 235 34 = some .iadd ∧ 35 = 34 + 1 := by decide +kernel
theorem c235_35 : mj_Y.code kY 235 35 = some (.aload_n 0) ∧ ((0 : Fin 4) : Nat) = 0 ∧ 36 = 35 + 1 := by decide +kernel
theorem c235_36 : mj_Y.code kY 235 36 = some (.getfield 39) ∧ mj_Y.fl kY 235 39 12 = some (11, (.array .int), false) ∧ 39 = 36 + 3 := by decide +kernel
theorem c235_39 : mj_Y.code kY 235 39 = some (.iload_n 2) ∧ ((2 : Fin 4) : Nat) = 2 ∧ 40 = 39 + 1 := by decide +kernel
theorem c235_40 : mj_Y.code kY 235 40 = some .iaload ∧ 41 = 40 + 1 := by decide +kernel
theorem c235_41 : mj_Y.code kY 235 41 = some (.invokevirtual 272) ∧ mj_Y.na kY 235 272 = some 3 ∧ mj_Y.cv kY 235 272 12 = some 236 ∧ mj_Y.nL kY 236 = 7 ∧ 44 = 41 + 3 := by decide +kernel
theorem c235_44 : mj_Y.code kY 235 44 = some (.aload_n 0) ∧ ((0 : Fin 4) : Nat) = 0 ∧ 45 = 44 + 1 := by decide +kernel
theorem c235_45 : mj_Y.code kY 235 45 = some (.getfield 27) ∧ mj_Y.fl kY 235 27 12 = some (7, (.array .int), false) ∧ 48 = 45 + 3 := by decide +kernel
theorem c235_48 : mj_Y.code kY 235 48 = some (.iload_n 2) ∧ ((2 : Fin 4) : Nat) = 2 ∧ 49 = 48 + 1 := by decide +kernel
theorem c235_49 : mj_Y.code kY 235 49 = some .iaload ∧ 50 = 49 + 1 := by decide +kernel
theorem c235_50 : mj_Y.code kY 235 50 = some (.invokestatic 287) ∧ mj_Y.pr kY 235 287 = none ∧ mj_Y.cs kY 235 287 = some (238, 2) ∧ mj_Y.nL kY 238 = 6 ∧ 53 = 50 + 3 := by decide +kernel
theorem c235_53 : mj_Y.code kY 235 53 = some (.lstore_n 3) ∧ ((3 : Fin 4) : Nat) = 3 ∧ 3 + 1 < mj_Y.nL kY 235 ∧ 54 = 53 + 1 := by decide +kernel
theorem c235_54 : mj_Y.code kY 235 54 = some (.goto 43) ∧ mj_tg 54 43 = some 97 := by decide +kernel
theorem c235_57 : mj_Y.code kY 235 57 = some (.aload_n 0) ∧ ((0 : Fin 4) : Nat) = 0 ∧ 58 = 57 + 1 := by decide +kernel
theorem c235_58 : mj_Y.code kY 235 58 = some (.getfield 30) ∧ mj_Y.fl kY 235 30 12 = some (8, (.array .int), false) ∧ 61 = 58 + 3 := by decide +kernel
theorem c235_61 : mj_Y.code kY 235 61 = some (.iload_n 2) ∧ ((2 : Fin 4) : Nat) = 2 ∧ 62 = 61 + 1 := by decide +kernel
theorem c235_62 : mj_Y.code kY 235 62 = some .iaload ∧ 63 = 62 + 1 := by decide +kernel
theorem c235_63 : mj_Y.code kY 235 63 = some (.istore 5) ∧ 5 = 5 ∧ 5 < mj_Y.nL kY 235 ∧ 65 = 63 + 2 := by decide +kernel
theorem c235_65 : mj_Y.code kY 235 65 = some (.iload 5) ∧ 5 = 5 ∧ 67 = 65 + 2 := by decide +kernel
theorem c235_67 : mj_Y.code kY 235 67 = some (.aload_n 0) ∧ ((0 : Fin 4) : Nat) = 0 ∧ 68 = 67 + 1 := by decide +kernel
theorem c235_68 : mj_Y.code kY 235 68 = some (.getfield 33) ∧ mj_Y.fl kY 235 33 12 = some (9, (.array .int), false) ∧ 71 = 68 + 3 := by decide +kernel
theorem c235_71 : mj_Y.code kY 235 71 = some (.iload_n 2) ∧ ((2 : Fin 4) : Nat) = 2 ∧ 72 = 71 + 1 := by decide +kernel
theorem c235_72 : mj_Y.code kY 235 72 = some .iaload ∧ 73 = 72 + 1 := by decide +kernel
theorem c235_73 : mj_Y.code kY 235 73 = some (.if_icmp .gt 24) ∧ mj_tg 73 24 = some 97 ∧ 76 = 73 + 3 := by decide +kernel
theorem c235_76 : mj_Y.code kY 235 76 = some (.lload_n 3) ∧ ((3 : Fin 4) : Nat) = 3 ∧ 77 = 76 + 1 := by decide +kernel
theorem c235_77 : mj_Y.code kY 235 77 = some (.aload_n 0) ∧ ((0 : Fin 4) : Nat) = 0 ∧ 78 = 77 + 1 := by decide +kernel
theorem c235_78 : mj_Y.code kY 235 78 = some (.sipush 480) ∧ (Int16.ofInt 480).toInt32 = 480 ∧ 81 = 78 + 3 := by decide +kernel
theorem c235_81 : mj_Y.code kY 235 81 = some (.iload 5) ∧ 5 = 5 ∧ 83 = 81 + 2 := by decide +kernel
theorem c235_83 : mj_Y.code kY 235 83 = some .iadd ∧ 84 = 83 + 1 := by decide +kernel
theorem c235_84 : mj_Y.code kY 235 84 = some (.invokevirtual 291) ∧ mj_Y.na kY 235 291 = some 1 ∧ mj_Y.cv kY 235 291 12 = some 239 ∧ mj_Y.nL kY 239 = 2 ∧ 87 = 84 + 3 := by decide +kernel
theorem c235_87 : mj_Y.code kY 235 87 = some (.invokestatic 280) ∧ mj_Y.pr kY 235 280 = none ∧ mj_Y.cs kY 235 280 = some (237, 2) ∧ mj_Y.nL kY 237 = 4 ∧ 90 = 87 + 3 := by decide +kernel
theorem c235_90 : mj_Y.code kY 235 90 = some (.lstore_n 3) ∧ ((3 : Fin 4) : Nat) = 3 ∧ 3 + 1 < mj_Y.nL kY 235 ∧ 91 = 90 + 1 := by decide +kernel
theorem c235_91 : mj_Y.code kY 235 91 = some (.iinc 5 1) ∧ 5 < mj_Y.nL kY 235 ∧ Int32.ofInt 1 = 1 ∧ 94 = 91 + 3 := by decide +kernel
theorem c235_94 : mj_Y.code kY 235 94 = some (.goto (-29)) ∧ mj_tg 94 (-29) = some 65 := by decide +kernel
theorem c235_97 : mj_Y.code kY 235 97 = some (.aload_n 0) ∧ ((0 : Fin 4) : Nat) = 0 ∧ 98 = 97 + 1 := by decide +kernel
theorem c235_98 : mj_Y.code kY 235 98 = some (.getfield 24) ∧ mj_Y.fl kY 235 24 12 = some (6, (.array .int), false) ∧ 101 = 98 + 3 := by decide +kernel
theorem c235_101 : mj_Y.code kY 235 101 = some (.iload_n 2) ∧ ((2 : Fin 4) : Nat) = 2 ∧ 102 = 101 + 1 := by decide +kernel
theorem c235_102 : mj_Y.code kY 235 102 = some .iaload ∧ 103 = 102 + 1 := by decide +kernel
theorem c235_103 : mj_Y.code kY 235 103 = some (.iconst 2) ∧ Int32.ofInt 2 = 2 ∧ 104 = 103 + 1 := by decide +kernel
theorem c235_104 : mj_Y.code kY 235 104 = some (.if_icmp .ne 42) ∧ mj_tg 104 42 = some 146 ∧ 107 = 104 + 3 := by decide +kernel
theorem c235_107 : mj_Y.code kY 235 107 = some (.lload_n 3) ∧ ((3 : Fin 4) : Nat) = 3 ∧ 108 = 107 + 1 := by decide +kernel
theorem c235_108 : mj_Y.code kY 235 108 = some (.aload_n 0) ∧ ((0 : Fin 4) : Nat) = 0 ∧ 109 = 108 + 1 := by decide +kernel
theorem c235_109 : mj_Y.code kY 235 109 = some (.iconst 3) ∧ Int32.ofInt 3 = 3 ∧ 110 = 109 + 1 := by decide +kernel
theorem c235_110 : mj_Y.code kY 235 110 = some (.iload_n 1) ∧ ((1 : Fin 4) : Nat) = 1 ∧ 111 = 110 + 1 := by decide +kernel
theorem c235_111 : mj_Y.code kY 235 111 = some (.iconst 1) ∧ Int32.ofInt 1 = 1 ∧ 112 = 111 + 1 := by decide +kernel
theorem c235_112 : mj_Y.code kY 235 112 = some .iadd ∧ 113 = 112 + 1 := by decide +kernel
theorem c235_113 : mj_Y.code kY 235 113 = some (.aload_n 0) ∧ ((0 : Fin 4) : Nat) = 0 ∧ 114 = 113 + 1 := by decide +kernel
theorem c235_114 : mj_Y.code kY 235 114 = some (.getfield 36) ∧ mj_Y.fl kY 235 36 12 = some (10, (.array .int), false) ∧ 117 = 114 + 3 := by decide +kernel
theorem c235_117 : mj_Y.code kY 235 117 = some (.iload_n 2) ∧ ((2 : Fin 4) : Nat) = 2 ∧ 118 = 117 + 1 := by decide +kernel
theorem c235_118 : mj_Y.code kY 235 118 = some .iaload ∧ 119 = 118 + 1 := by decide +kernel
theorem c235_119 : mj_Y.code kY 235 119 = some (.invokevirtual 272) ∧ mj_Y.na kY 235 272 = some 3 ∧ mj_Y.cv kY 235 272 12 = some 236 ∧ mj_Y.nL kY 236 = 7 ∧ 122 = 119 + 3 := by decide +kernel
theorem c235_122 : mj_Y.code kY 235 122 = some (.aload_n 0) ∧ ((0 : Fin 4) : Nat) = 0 ∧ 123 = 122 + 1 := by decide +kernel
theorem c235_123 : mj_Y.code kY 235 123 = some (.iconst 3) ∧ Int32.ofInt 3 = 3 ∧ 124 = 123 + 1 := by decide +kernel
theorem c235_124 : mj_Y.code kY 235 124 = some (.aload_n 0) ∧ ((0 : Fin 4) : Nat) = 0 ∧ 125 = 124 + 1 := by decide +kernel
theorem c235_125 : mj_Y.code kY 235 125 = some (.getfield 36) ∧ mj_Y.fl kY 235 36 12 = some (10, (.array .int), false) ∧ 128 = 125 + 3 := by decide +kernel
theorem c235_128 : mj_Y.code kY 235 128 = some (.iload_n 2) ∧ ((2 : Fin 4) : Nat) = 2 ∧ 129 = 128 + 1 := by decide +kernel
theorem c235_129 : mj_Y.code kY 235 129 = some .iaload ∧ 130 = 129 + 1 := by decide +kernel
theorem c235_130 : mj_Y.code kY 235 130 = some (.aload_n 0) ∧ ((0 : Fin 4) : Nat) = 0 ∧ 131 = 130 + 1 := by decide +kernel
theorem c235_131 : mj_Y.code kY 235 131 = some (.getfield 39) ∧ mj_Y.fl kY 235 39 12 = some (11, (.array .int), false) ∧ 134 = 131 + 3 := by decide +kernel
theorem c235_134 : mj_Y.code kY 235 134 = some (.iload_n 2) ∧ ((2 : Fin 4) : Nat) = 2 ∧ 135 = 134 + 1 := by decide +kernel
theorem c235_135 : mj_Y.code kY 235 135 = some .iaload ∧ 136 = 135 + 1 := by decide +kernel
theorem c235_136 : mj_Y.code kY 235 136 = some (.invokevirtual 272) ∧ mj_Y.na kY 235 272 = some 3 ∧ mj_Y.cv kY 235 272 12 = some 236 ∧ mj_Y.nL kY 236 = 7 ∧ 139 = 136 + 3 := by decide +kernel
theorem c235_139 : mj_Y.code kY 235 139 = some (.invokestatic 295) ∧ mj_Y.pr kY 235 295 = none ∧ mj_Y.cs kY 235 295 = some (240, 2) ∧ mj_Y.nL kY 240 = 4 ∧ 142 = 139 + 3 := by decide +kernel
theorem c235_142 : mj_Y.code kY 235 142 = some (.invokestatic 280) ∧ mj_Y.pr kY 235 280 = none ∧ mj_Y.cs kY 235 280 = some (237, 2) ∧ mj_Y.nL kY 237 = 4 ∧ 145 = 142 + 3 := by decide +kernel
theorem c235_145 : mj_Y.code kY 235 145 = some (.lstore_n 3) ∧ ((3 : Fin 4) : Nat) = 3 ∧ 3 + 1 < mj_Y.nL kY 235 ∧ 146 = 145 + 1 := by decide +kernel
theorem c235_146 : mj_Y.code kY 235 146 = some (.aload_n 0) ∧ ((0 : Fin 4) : Nat) = 0 ∧ 147 = 146 + 1 := by decide +kernel
theorem c235_147 : mj_Y.code kY 235 147 = some (.getfield 42) ∧ mj_Y.fl kY 235 42 12 = some (12, (.array .long), false) ∧ 150 = 147 + 3 := by decide +kernel
theorem c235_150 : mj_Y.code kY 235 150 = some (.iload_n 2) ∧ ((2 : Fin 4) : Nat) = 2 ∧ 151 = 150 + 1 := by decide +kernel
theorem c235_151 : mj_Y.code kY 235 151 = some (.lload_n 3) ∧ ((3 : Fin 4) : Nat) = 3 ∧ 152 = 151 + 1 := by decide +kernel
theorem c235_152 : mj_Y.code kY 235 152 = some .lastore ∧ 153 = 152 + 1 := by decide +kernel
theorem c235_153 : mj_Y.code kY 235 153 = some (.iinc 1 (-1)) ∧ 1 < mj_Y.nL kY 235 ∧ Int32.ofInt (-1) = (-1) ∧ 156 = 153 + 3 := by decide +kernel
theorem c235_156 : mj_Y.code kY 235 156 = some (.goto (-147)) ∧ mj_tg 156 (-147) = some 9 := by decide +kernel
theorem c235_159 : mj_Y.code kY 235 159 = some .return_ ∧ mj_Y.rt kY 235 = none := by decide +kernel
theorem c236_0 : mj_Y.code kY 236 0 = some (.lconst 1) ∧ Int64.ofNat ((1 : Fin 2) : Nat) = 1 ∧ 1 = 0 + 1 := by decide +kernel
theorem c236_1 : mj_Y.code kY 236 1 = some (.lstore 4) ∧ 4 = 4 ∧ 4 + 1 < mj_Y.nL kY 236 ∧ 3 = 1 + 2 := by decide +kernel
theorem c236_3 : mj_Y.code kY 236 3 = some (.iload_n 2) ∧ ((2 : Fin 4) : Nat) = 2 ∧ 4 = 3 + 1 := by decide +kernel
theorem c236_4 : mj_Y.code kY 236 4 = some (.istore 6) ∧ 6 = 6 ∧ 6 < mj_Y.nL kY 236 ∧ 6 = 4 + 2 := by decide +kernel
theorem c236_6 : mj_Y.code kY 236 6 = some (.iload 6) ∧ 6 = 6 ∧ 8 = 6 + 2 := by decide +kernel
theorem c236_8 : mj_Y.code kY 236 8 = some (.iload_n 3) ∧ ((3 : Fin 4) : Nat) = 3 ∧ 9 = 8 + 1 := by decide +kernel
theorem c236_9 : mj_Y.code kY 236 9 = some (.if_icmp .ge 39) ∧ mj_tg 9 39 = some 48 ∧ 12 = 9 + 3 := by decide +kernel
theorem c236_12 : mj_Y.code kY 236 12 = some (.lload 4) ∧ 4 = 4 ∧ 14 = 12 + 2 := by decide +kernel
theorem c236_14 : mj_Y.code kY 236 14 = some (.aload_n 0) ∧ ((0 : Fin 4) : Nat) = 0 ∧ 15 = 14 + 1 := by decide +kernel
theorem c236_15 : mj_Y.code kY 236 15 = some (.getfield 42) ∧ mj_Y.fl kY 236 42 12 = some (12, (.array .long), false) ∧ 18 = 15 + 3 := by decide +kernel
theorem c236_18 : mj_Y.code kY 236 18 = some (.bipush 24) ∧ (Int8.ofInt 24).toInt32 = 24 ∧ 20 = 18 + 2 := by decide +kernel
theorem c236_20 : mj_Y.code kY 236 20 = some (.iload_n 1) ∧ ((1 : Fin 4) : Nat) = 1 ∧ 21 = 20 + 1 := by decide +kernel
theorem c236_21 : mj_Y.code kY 236 21 = some .imul ∧ 22 = 21 + 1 := by decide +kernel
theorem c236_22 : mj_Y.code kY 236 22 = some (.iload 6) ∧ 6 = 6 ∧ 24 = 22 + 2 := by decide +kernel
theorem c236_24 : mj_Y.code kY 236 24 = some .iadd ∧ 25 = 24 + 1 := by decide +kernel
theorem c236_25 : mj_Y.code kY 236 25 = some .laload ∧ 26 = 25 + 1 := by decide +kernel
theorem c236_26 : mj_Y.code kY 236 26 = some (.invokestatic 280) ∧ mj_Y.pr kY 236 280 = none ∧ mj_Y.cs kY 236 280 = some (237, 2) ∧ mj_Y.nL kY 237 = 4 ∧ 29 = 26 + 3 := by decide +kernel
theorem c236_29 : mj_Y.code kY 236 29 = some (.lstore 4) ∧ 4 = 4 ∧ 4 + 1 < mj_Y.nL kY 236 ∧ 31 = 29 + 2 := by decide +kernel
theorem c236_31 : mj_Y.code kY 236 31 = some (.aload_n 0) ∧ ((0 : Fin 4) : Nat) = 0 ∧ 32 = 31 + 1 := by decide +kernel
theorem c236_32 : mj_Y.code kY 236 32 = some (.getfield 39) ∧ mj_Y.fl kY 236 39 12 = some (11, (.array .int), false) ∧ 35 = 32 + 3 := by decide +kernel
theorem c236_35 : mj_Y.code kY 236 35 = some (.bipush 24) ∧ (Int8.ofInt 24).toInt32 = 24 ∧ 37 = 35 + 2 := by decide +kernel
theorem c236_37 : mj_Y.code kY 236 37 = some (.iload_n 1) ∧ ((1 : Fin 4) : Nat) = 1 ∧ 38 = 37 + 1 := by decide +kernel
theorem c236_38 : mj_Y.code kY 236 38 = some .imul ∧ 39 = 38 + 1 := by decide +kernel
theorem c236_39 : mj_Y.code kY 236 39 = some (.iload 6) ∧ 6 = 6 ∧ 41 = 39 + 2 := by decide +kernel
theorem c236_41 : mj_Y.code kY 236 41 = some .iadd ∧ 42 = 41 + 1 := by decide +kernel
theorem c236_42 : mj_Y.code kY 236 42 = some .iaload ∧ 43 = 42 + 1 := by decide +kernel
theorem c236_43 : mj_Y.code kY 236 43 = some (.istore 6) ∧ 6 = 6 ∧ 6 < mj_Y.nL kY 236 ∧ 45 = 43 + 2 := by decide +kernel
theorem c236_45 : mj_Y.code kY 236 45 = some (.goto (-39)) ∧ mj_tg 45 (-39) = some 6 := by decide +kernel
theorem c236_48 : mj_Y.code kY 236 48 = some (.lload 4) ∧ 4 = 4 ∧ 50 = 48 + 2 := by decide +kernel
theorem c236_50 : mj_Y.code kY 236 50 = some .lreturn ∧ mj_Y.rt kY 236 = some .long := by decide +kernel
theorem c237_0 : mj_Y.code kY 237 0 = some (.lload_n 0) ∧ ((0 : Fin 4) : Nat) = 0 ∧ 1 = 0 + 1 := by decide +kernel
theorem c237_1 : mj_Y.code kY 237 1 = some (.ldc2_w 276) ∧ mj_Y.ck kY 237 276 = some (.long 2147483648) ∧ 4 = 1 + 3 := by decide +kernel
theorem c237_4 : mj_Y.code kY 237 4 = some (.lload_n 2) ∧ ((2 : Fin 4) : Nat) = 2 ∧ 5 = 4 + 1 := by decide +kernel
theorem c237_5 : mj_Y.code kY 237 5 = some .ldiv ∧ 6 = 5 + 1 := by decide +kernel
theorem c237_6 : mj_Y.code kY 237 6 = some .lcmp ∧ 7 = 6 + 1 := by decide +kernel
theorem c237_7 : mj_Y.code kY 237 7 = some (.ifCond .le 9) ∧ mj_tg 7 9 = some 16 ∧ 10 = 7 + 3 := by decide +kernel
theorem c237_10 : mj_Y.code kY 237 10 = some (.ldc2_w 278) ∧ mj_Y.ck kY 237 278 = some (.long 2147483649) ∧ 13 = 10 + 3 := by decide +kernel
theorem c237_13 : mj_Y.code kY 237 13 = some (.goto 6) ∧ mj_tg 13 6 = some 19 := by decide +kernel
theorem c237_16 : mj_Y.code kY 237 16 = some (.lload_n 0) ∧ ((0 : Fin 4) : Nat) = 0 ∧ 17 = 16 + 1 := by decide +kernel
theorem c237_17 : mj_Y.code kY 237 17 = some (.lload_n 2) ∧ ((2 : Fin 4) : Nat) = 2 ∧ 18 = 17 + 1 := by decide +kernel
theorem c237_18 : mj_Y.code kY 237 18 = some .lmul ∧ 19 = 18 + 1 := by decide +kernel
theorem c237_19 : mj_Y.code kY 237 19 = some .lreturn ∧ mj_Y.rt kY 237 = some .long := by decide +kernel
theorem c238_0 : mj_Y.code kY 238 0 = some (.lconst 1) ∧ Int64.ofNat ((1 : Fin 2) : Nat) = 1 ∧ 1 = 0 + 1 := by decide +kernel
theorem c238_1 : mj_Y.code kY 238 1 = some (.lstore_n 3) ∧ ((3 : Fin 4) : Nat) = 3 ∧ 3 + 1 < mj_Y.nL kY 238 ∧ 2 = 1 + 1 := by decide +kernel
theorem c238_2 : mj_Y.code kY 238 2 = some (.iconst 0) ∧ Int32.ofInt 0 = 0 ∧ 3 = 2 + 1 := by decide +kernel
theorem c238_3 : mj_Y.code kY 238 3 = some (.istore 5) ∧ 5 = 5 ∧ 5 < mj_Y.nL kY 238 ∧ 5 = 3 + 2 := by decide +kernel
theorem c238_5 : mj_Y.code kY 238 5 = some (.iload 5) ∧ 5 = 5 ∧ 7 = 5 + 2 := by decide +kernel
theorem c238_7 : mj_Y.code kY 238 7 = some (.iload_n 2) ∧ ((2 : Fin 4) : Nat) = 2 ∧ 8 = 7 + 1 := by decide +kernel
theorem c238_8 : mj_Y.code kY 238 8 = some (.if_icmp .ge 15) ∧ mj_tg 8 15 = some 23 ∧ 11 = 8 + 3 := by decide +kernel
theorem c238_11 : mj_Y.code kY 238 11 = some (.lload_n 3) ∧ ((3 : Fin 4) : Nat) = 3 ∧ 12 = 11 + 1 := by decide +kernel
theorem c238_12 : mj_Y.code kY 238 12 = some (.lload_n 0) ∧ ((0 : Fin 4) : Nat) = 0 ∧ 13 = 12 + 1 := by decide +kernel
theorem c238_13 : mj_Y.code kY 238 13 = some (.invokestatic 280) ∧ mj_Y.pr kY 238 280 = none ∧ mj_Y.cs kY 238 280 = some (237, 2) ∧ mj_Y.nL kY 237 = 4 ∧ 16 = 13 + 3 := by decide +kernel
theorem c238_16 : mj_Y.code kY 238 16 = some (.lstore_n 3) ∧ ((3 : Fin 4) : Nat) = 3 ∧ 3 + 1 < mj_Y.nL kY 238 ∧ 17 = 16 + 1 := by decide +kernel
theorem c238_17 : mj_Y.code kY 238 17 = some (.iinc 5 1) ∧ 5 < mj_Y.nL kY 238 ∧ Int32.ofInt 1 = 1 ∧ 20 = 17 + 3 := by decide +kernel
theorem c238_20 : mj_Y.code kY 238 20 = some (.goto (-15)) ∧ mj_tg 20 (-15) = some 5 := by decide +kernel
theorem c238_23 : mj_Y.code kY 238 23 = some (.lload_n 3) ∧ ((3 : Fin 4) : Nat) = 3 ∧ 24 = 23 + 1 := by decide +kernel
theorem c238_24 : mj_Y.code kY 238 24 = some .lreturn ∧ mj_Y.rt kY 238 = some .long := by decide +kernel
theorem c239_0 : mj_Y.code kY 239 0 = some (.aload_n 0) ∧ ((0 : Fin 4) : Nat) = 0 ∧ 1 = 0 + 1 := by decide +kernel
theorem c239_1 : mj_Y.code kY 239 1 = some (.getfield 46) ∧ mj_Y.fl kY 239 46 12 = some (13, (.array .int), false) ∧ 4 = 1 + 3 := by decide +kernel
theorem c239_4 : mj_Y.code kY 239 4 = some (.iload_n 1) ∧ ((1 : Fin 4) : Nat) = 1 ∧ 5 = 4 + 1 := by decide +kernel
theorem c239_5 : mj_Y.code kY 239 5 = some .iaload ∧ 6 = 5 + 1 := by decide +kernel
theorem c239_6 : mj_Y.code kY 239 6 = some (.iconst 5) ∧ Int32.ofInt 5 = 5 ∧ 7 = 6 + 1 := by decide +kernel
theorem c239_7 : mj_Y.code kY 239 7 = some (.if_icmp .ne 11) ∧ mj_tg 7 11 = some 18 ∧ 10 = 7 + 3 := by decide +kernel
theorem c239_10 : mj_Y.code kY 239 10 = some (.aload_n 0) ∧ ((0 : Fin 4) : Nat) = 0 ∧ 11 = 10 + 1 := by decide +kernel
theorem c239_11 : mj_Y.code kY 239 11 = some (.getfield 52) ∧ mj_Y.fl kY 239 52 12 = some (15, (.array .int), false) ∧ 14 = 11 + 3 := by decide +kernel
theorem c239_14 : mj_Y.code kY 239 14 = some (.iload_n 1) ∧ ((1 : Fin 4) : Nat) = 1 ∧ 15 = 14 + 1 := by decide +kernel
theorem c239_15 : mj_Y.code kY 239 15 = some .iaload ∧ 16 = 15 + 1 := by decide +kernel
theorem c239_16 : mj_Y.code kY 239 16 = some .i2l ∧ 17 = 16 + 1 := by decide +kernel
theorem c239_17 : mj_Y.code kY 239 17 = some .lreturn ∧ mj_Y.rt kY 239 = some .long := by decide +kernel
theorem c239_18 : mj_Y.code kY 239 18 = some (.aload_n 0) ∧ ((0 : Fin 4) : Nat) = 0 ∧ 19 = 18 + 1 := by decide +kernel
theorem c239_19 : mj_Y.code kY 239 19 = some (.getfield 46) ∧ mj_Y.fl kY 239 46 12 = some (13, (.array .int), false) ∧ 22 = 19 + 3 := by decide +kernel
theorem c239_22 : mj_Y.code kY 239 22 = some (.iload_n 1) ∧ ((1 : Fin 4) : Nat) = 1 ∧ 23 = 22 + 1 := by decide +kernel
theorem c239_23 : mj_Y.code kY 239 23 = some .iaload ∧ 24 = 23 + 1 := by decide +kernel
theorem c239_24 : mj_Y.code kY 239 24 = some (.iconst 4) ∧ Int32.ofInt 4 = 4 ∧ 25 = 24 + 1 := by decide +kernel
theorem c239_25 : mj_Y.code kY 239 25 = some (.if_icmp .eq 5) ∧ mj_tg 25 5 = some 30 ∧ 28 = 25 + 3 := by decide +kernel
theorem c239_28 : mj_Y.code kY 239 28 = some (.lconst 1) ∧ Int64.ofNat ((1 : Fin 2) : Nat) = 1 ∧ 29 = 28 + 1 := by decide +kernel
theorem c239_29 : mj_Y.code kY 239 29 = some .lreturn ∧ mj_Y.rt kY 239 = some .long := by decide +kernel
theorem c239_30 : mj_Y.code kY 239 30 = some (.aload_n 0) ∧ ((0 : Fin 4) : Nat) = 0 ∧ 31 = 30 + 1 := by decide +kernel
theorem c239_31 : mj_Y.code kY 239 31 = some (.getfield 52) ∧ mj_Y.fl kY 239 52 12 = some (15, (.array .int), false) ∧ 34 = 31 + 3 := by decide +kernel
theorem c239_34 : mj_Y.code kY 239 34 = some (.iload_n 1) ∧ ((1 : Fin 4) : Nat) = 1 ∧ 35 = 34 + 1 := by decide +kernel
theorem c239_35 : mj_Y.code kY 239 35 = some .iaload ∧ 36 = 35 + 1 := by decide +kernel
theorem c239_36 : mj_Y.code kY 239 36 = some .i2l ∧ 37 = 36 + 1 := by decide +kernel
theorem c239_37 : mj_Y.code kY 239 37 = some (.aload_n 0) ∧ ((0 : Fin 4) : Nat) = 0 ∧ 38 = 37 + 1 := by decide +kernel
theorem c239_38 : mj_Y.code kY 239 38 = some (.getfield 55) ∧ mj_Y.fl kY 239 55 12 = some (16, (.array .int), false) ∧ 41 = 38 + 3 := by decide +kernel
theorem c239_41 : mj_Y.code kY 239 41 = some (.iload_n 1) ∧ ((1 : Fin 4) : Nat) = 1 ∧ 42 = 41 + 1 := by decide +kernel
theorem c239_42 : mj_Y.code kY 239 42 = some .iaload ∧ 43 = 42 + 1 := by decide +kernel
theorem c239_43 : mj_Y.code kY 239 43 = some (.bipush 101) ∧ (Int8.ofInt 101).toInt32 = 101 ∧ 45 = 43 + 2 := by decide +kernel
theorem c239_45 : mj_Y.code kY 239 45 = some (.if_icmp .ne 14) ∧ mj_tg 45 14 = some 59 ∧ 48 = 45 + 3 := by decide +kernel
theorem c239_48 : mj_Y.code kY 239 48 = some (.aload_n 0) ∧ ((0 : Fin 4) : Nat) = 0 ∧ 49 = 48 + 1 := by decide +kernel
theorem c239_49 : mj_Y.code kY 239 49 = some (.getfield 58) ∧ mj_Y.fl kY 239 58 12 = some (17, (.array .int), false) ∧ 52 = 49 + 3 := by decide +kernel
theorem c239_52 : mj_Y.code kY 239 52 = some (.iload_n 1) ∧ ((1 : Fin 4) : Nat) = 1 ∧ 53 = 52 + 1 := by decide +kernel
theorem c239_53 : mj_Y.code kY 239 53 = some .iaload ∧ 54 = 53 + 1 := by decide +kernel
theorem c239_54 : mj_Y.code kY 239 54 = some (.iconst 1) ∧ Int32.ofInt 1 = 1 ∧ 55 = 54 + 1 := by decide +kernel
theorem c239_55 : mj_Y.code kY 239 55 = some .iadd ∧ 56 = 55 + 1 := by decide +kernel
theorem c239_56 : mj_Y.code kY 239 56 = some (.goto 9) ∧ mj_tg 56 9 = some 65 := by decide +kernel
theorem c239_59 : mj_Y.code kY 239 59 = some (.aload_n 0) ∧ ((0 : Fin 4) : Nat) = 0 ∧ 60 = 59 + 1 := by decide +kernel
theorem c239_60 : mj_Y.code kY 239 60 = some (.getfield 49) ∧ mj_Y.fl kY 239 49 12 = some (14, (.array .int), false) ∧ 63 = 60 + 3 := by decide +kernel
theorem c239_63 : mj_Y.code kY 239 63 = some (.iload_n 1) ∧ ((1 : Fin 4) : Nat) = 1 ∧ 64 = 63 + 1 := by decide +kernel
theorem c239_64 : mj_Y.code kY 239 64 = some .iaload ∧ 65 = 64 + 1 := by decide +kernel
theorem c239_65 : mj_Y.code kY 239 65 = some (.invokestatic 287) ∧ mj_Y.pr kY 239 287 = none ∧ mj_Y.cs kY 239 287 = some (238, 2) ∧ mj_Y.nL kY 238 = 6 ∧ 68 = 65 + 3 := by decide +kernel
theorem c239_68 : mj_Y.code kY 239 68 = some .lreturn ∧ mj_Y.rt kY 239 = some .long := by decide +kernel
