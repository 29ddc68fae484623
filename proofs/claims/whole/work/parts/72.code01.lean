theorem c217_0 : mj_Y.code kY 217 0 = some (.aload_n 0) ∧ ((0 : Fin 4) : Nat) = 0 ∧ 1 = 0 + 1 := by decide +kernel
theorem c217_1 : mj_Y.code kY 217 1 = some (.invokevirtual 165) ∧ mj_Y.na kY 217 165 = some 0 ∧ mj_Y.cv kY 217 165 12 = some 212 ∧ mj_Y.nL kY 212 = 1 ∧ 4 = 1 + 3 := by decide +kernel
theorem c217_4 : mj_Y.code kY 217 4 = some (.bipush 48) ∧ (Int8.ofInt 48).toInt32 = 48 ∧ 6 = 4 + 2 := by decide +kernel
theorem c217_6 : mj_Y.code kY 217 6 = some (.if_icmp .lt 16) ∧ mj_tg 6 16 = some 22 ∧ 9 = 6 + 3 := by decide +kernel
theorem c217_9 : mj_Y.code kY 217 9 = some (.aload_n 0) ∧ ((0 : Fin 4) : Nat) = 0 ∧ 10 = 9 + 1 := by decide +kernel
theorem c217_10 : mj_Y.code kY 217 10 = some (.invokevirtual 165) ∧ mj_Y.na kY 217 165 = some 0 ∧ mj_Y.cv kY 217 165 12 = some 212 ∧ mj_Y.nL kY 212 = 1 ∧ 13 = 10 + 3 := by decide +kernel
theorem c217_13 : mj_Y.code kY 217 13 = some (.bipush 57) ∧ (Int8.ofInt 57).toInt32 = 57 ∧ 15 = 13 + 2 := by decide +kernel
theorem c217_15 : mj_Y.code kY 217 15 = some (.if_icmp .gt 7) ∧ mj_tg 15 7 = some 22 ∧ 18 = 15 + 3 := by decide +kernel
theorem c217_18 : mj_Y.code kY 217 18 = some (.iconst 1) ∧ Int32.ofInt 1 = 1 ∧ 19 = 18 + 1 := by decide +kernel
theorem c217_19 : mj_Y.code kY 217 19 = some (.goto 4) ∧ mj_tg 19 4 = some 23 := by decide +kernel
theorem c217_22 : mj_Y.code kY 217 22 = some (.iconst 0) ∧ Int32.ofInt 0 = 0 ∧ 23 = 22 + 1 := by decide +kernel
theorem c217_23 : mj_Y.code kY 217 23 = some .ireturn ∧ mj_Y.rt kY 217 = some .boolean := by decide +kernel
theorem c218_0 : mj_Y.code kY 218 0 = some (.aload_n 0) ∧ ((0 : Fin 4) : Nat) = 0 ∧ 1 = 0 + 1 := by decide +kernel
theorem c218_1 : mj_Y.code kY 218 1 = some (.invokevirtual 165) ∧ mj_Y.na kY 218 165 = some 0 ∧ mj_Y.cv kY 218 165 12 = some 212 ∧ mj_Y.nL kY 212 = 1 ∧ 4 = 1 + 3 := by decide +kernel
theorem c218_4 : mj_Y.code kY 218 4 = some (.bipush 123) ∧ (Int8.ofInt 123).toInt32 = 123 ∧ 6 = 4 + 2 := by decide +kernel
theorem c218_6 : mj_Y.code kY 218 6 = some (.if_icmp .ne 11) ∧ mj_tg 6 11 = some 17 ∧ 9 = 6 + 3 := by decide +kernel
theorem c218_9 : mj_Y.code kY 218 9 = some (.aload_n 0) ∧ ((0 : Fin 4) : Nat) = 0 ∧ 10 = 9 + 1 := by decide +kernel
theorem c218_10 : mj_Y.code kY 218 10 = some (.getfield 253) ∧ mj_Y.fl kY 218 253 12 = some (36, .int, true) ∧ 13 = 10 + 3 := by decide +kernel
theorem c218_13 : mj_Y.code kY 218 13 = some (.iconst 4) ∧ Int32.ofInt 4 = 4 ∧ 14 = 13 + 1 := by decide +kernel
theorem c218_14 : mj_Y.code kY 218 14 = some (.if_icmp .ne 12) ∧ mj_tg 14 12 = some 26 ∧ 17 = 14 + 3 := by decide +kernel
theorem c218_17 : mj_Y.code kY 218 17 = some (.aload_n 0) ∧ ((0 : Fin 4) : Nat) = 0 ∧ 18 = 17 + 1 := by decide +kernel
theorem c218_18 : mj_Y.code kY 218 18 = some (.aload_n 0) ∧ ((0 : Fin 4) : Nat) = 0 ∧ 19 = 18 + 1 := by decide +kernel
theorem c218_19 : mj_Y.code kY 218 19 = some (.getfield 162) ∧ mj_Y.fl kY 218 162 12 = some (22, .int, true) ∧ 22 = 19 + 3 := by decide +kernel
theorem c218_22 : mj_Y.code kY 218 22 = some (.invokevirtual 169) ∧ mj_Y.na kY 218 169 = some 1 ∧ mj_Y.cv kY 218 169 12 = some 213 ∧ mj_Y.nL kY 213 = 2 ∧ 25 = 22 + 3 := by decide +kernel
theorem c218_25 : mj_Y.code kY 218 25 = some .ireturn ∧ mj_Y.rt kY 218 = some .boolean := by decide +kernel
theorem c218_26 : mj_Y.code kY 218 26 = some (.aload_n 0) ∧ ((0 : Fin 4) : Nat) = 0 ∧ 27 = 26 + 1 := by decide +kernel
theorem c218_27 : mj_Y.code kY 218 27 = some .dup ∧ 28 = 27 + 1 := by decide +kernel
theorem c218_28 : mj_Y.code kY 218 28 = some (.getfield 162) ∧ mj_Y.fl kY 218 162 12 = some (22, .int, true) ∧ 31 = 28 + 3 := by decide +kernel
theorem c218_31 : mj_Y.code kY 218 31 = some (.iconst 1) ∧ Int32.ofInt 1 = 1 ∧ 32 = 31 + 1 := by decide +kernel
theorem c218_32 : mj_Y.code kY 218 32 = some .iadd ∧ 33 = 32 + 1 := by decide +kernel
theorem c218_33 : mj_Y.code kY 218 33 = some (.putfield 162) ∧ mj_Y.fl kY 218 162 12 = some (22, .int, true) ∧ 36 = 33 + 3 := by decide +kernel
theorem c218_36 : mj_Y.code kY 218 36 = some (.aload_n 0) ∧ ((0 : Fin 4) : Nat) = 0 ∧ 37 = 36 + 1 := by decide +kernel
theorem c218_37 : mj_Y.code kY 218 37 = some (.getfield 82) ∧ mj_Y.fl kY 218 82 12 = some (34, (.array .int), false) ∧ 40 = 37 + 3 := by decide +kernel
theorem c218_40 : mj_Y.code kY 218 40 = some (.aload_n 0) ∧ ((0 : Fin 4) : Nat) = 0 ∧ 41 = 40 + 1 := by decide +kernel
theorem c218_41 : mj_Y.code kY 218 41 = some (.getfield 253) ∧ mj_Y.fl kY 218 253 12 = some (36, .int, true) ∧ 44 = 41 + 3 := by decide +kernel
theorem c218_44 : mj_Y.code kY 218 44 = some (.iload_n 1) ∧ ((1 : Fin 4) : Nat) = 1 ∧ 45 = 44 + 1 := by decide +kernel
theorem c218_45 : mj_Y.code kY 218 45 = some .iastore ∧ 46 = 45 + 1 := by decide +kernel
theorem c218_46 : mj_Y.code kY 218 46 = some (.aload_n 0) ∧ ((0 : Fin 4) : Nat) = 0 ∧ 47 = 46 + 1 := by decide +kernel
theorem c218_47 : mj_Y.code kY 218 47 = some (.getfield 85) ∧ mj_Y.fl kY 218 85 12 = some (35, (.array .boolean), false) ∧ 50 = 47 + 3 := by decide +kernel
theorem c218_50 : mj_Y.code kY 218 50 = some (.aload_n 0) ∧ ((0 : Fin 4) : Nat) = 0 ∧ 51 = 50 + 1 := by decide +kernel
theorem c218_51 : mj_Y.code kY 218 51 = some (.getfield 253) ∧ mj_Y.fl kY 218 253 12 = some (36, .int, true) ∧ 54 = 51 + 3 := by decide +kernel
theorem c218_54 : mj_Y.code kY 218 54 = some (.iload_n 2) ∧ ((2 : Fin 4) : Nat) = 2 ∧ 55 = 54 + 1 := by decide +kernel
theorem c218_55 : mj_Y.code kY 218 55 = some .bastore ∧ 56 = 55 + 1 := by decide +kernel
theorem c218_56 : mj_Y.code kY 218 56 = some (.aload_n 0) ∧ ((0 : Fin 4) : Nat) = 0 ∧ 57 = 56 + 1 := by decide +kernel
theorem c218_57 : mj_Y.code kY 218 57 = some .dup ∧ 58 = 57 + 1 := by decide +kernel
theorem c218_58 : mj_Y.code kY 218 58 = some (.getfield 253) ∧ mj_Y.fl kY 218 253 12 = some (36, .int, true) ∧ 61 = 58 + 3 := by decide +kernel
theorem c218_61 : mj_Y.code kY 218 61 = some (.iconst 1) ∧ Int32.ofInt 1 = 1 ∧ 62 = 61 + 1 := by decide +kernel
theorem c218_62 : mj_Y.code kY 218 62 = some .iadd ∧ 63 = 62 + 1 := by decide +kernel
theorem c218_63 : mj_Y.code kY 218 63 = some (.putfield 253) ∧ mj_Y.fl kY 218 253 12 = some (36, .int, true) ∧ 66 = 63 + 3 := by decide +kernel
theorem c218_66 : mj_Y.code kY 218 66 = some (.iconst 1) ∧ Int32.ofInt 1 = 1 ∧ 67 = 66 + 1 := by decide +kernel
theorem c218_67 : mj_Y.code kY 218 67 = some .ireturn ∧ mj_Y.rt kY 218 = some .boolean := by decide +kernel
theorem c219_0 : mj_Y.code kY 219 0 = some (.aload_n 0) ∧ ((0 : Fin 4) : Nat) = 0 ∧ 1 = 0 + 1 := by decide +kernel
theorem c219_1 : mj_Y.code kY 219 1 = some (.invokevirtual 165) ∧ mj_Y.na kY 219 165 = some 0 ∧ mj_Y.cv kY 219 165 12 = some 212 ∧ mj_Y.nL kY 212 = 1 ∧ 4 = 1 + 3 := by decide +kernel
theorem c219_4 : mj_Y.code kY 219 4 = some (.iload_n 1) ∧ ((1 : Fin 4) : Nat) = 1 ∧ 5 = 4 + 1 := by decide +kernel
theorem c219_5 : mj_Y.code kY 219 5 = some (.if_icmp .eq 12) ∧ mj_tg 5 12 = some 17 ∧ 8 = 5 + 3 := by decide +kernel
theorem c219_8 : mj_Y.code kY 219 8 = some (.aload_n 0) ∧ ((0 : Fin 4) : Nat) = 0 ∧ 9 = 8 + 1 := by decide +kernel
theorem c219_9 : mj_Y.code kY 219 9 = some (.aload_n 0) ∧ ((0 : Fin 4) : Nat) = 0 ∧ 10 = 9 + 1 := by decide +kernel
theorem c219_10 : mj_Y.code kY 219 10 = some (.getfield 162) ∧ mj_Y.fl kY 219 162 12 = some (22, .int, true) ∧ 13 = 10 + 3 := by decide +kernel
theorem c219_13 : mj_Y.code kY 219 13 = some (.invokevirtual 169) ∧ mj_Y.na kY 219 169 = some 1 ∧ mj_Y.cv kY 219 169 12 = some 213 ∧ mj_Y.nL kY 213 = 2 ∧ 16 = 13 + 3 := by decide +kernel
theorem c219_16 : mj_Y.code kY 219 16 = some .ireturn ∧ mj_Y.rt kY 219 = some .boolean := by decide +kernel
theorem c219_17 : mj_Y.code kY 219 17 = some (.aload_n 0) ∧ ((0 : Fin 4) : Nat) = 0 ∧ 18 = 17 + 1 := by decide +kernel
theorem c219_18 : mj_Y.code kY 219 18 = some .dup ∧ 19 = 18 + 1 := by decide +kernel
theorem c219_19 : mj_Y.code kY 219 19 = some (.getfield 162) ∧ mj_Y.fl kY 219 162 12 = some (22, .int, true) ∧ 22 = 19 + 3 := by decide +kernel
theorem c219_22 : mj_Y.code kY 219 22 = some (.iconst 1) ∧ Int32.ofInt 1 = 1 ∧ 23 = 22 + 1 := by decide +kernel
theorem c219_23 : mj_Y.code kY 219 23 = some .iadd ∧ 24 = 23 + 1 := by decide +kernel
theorem c219_24 : mj_Y.code kY 219 24 = some (.putfield 162) ∧ mj_Y.fl kY 219 162 12 = some (22, .int, true) ∧ 27 = 24 + 3 := by decide +kernel
theorem c219_27 : mj_Y.code kY 219 27 = some (.iconst 1) ∧ Int32.ofInt 1 = 1 ∧ 28 = 27 + 1 := by decide +kernel
theorem c219_28 : mj_Y.code kY 219 28 = some .ireturn ∧ mj_Y.rt kY 219 = some .boolean := by decide +kernel
theorem c220_0 : mj_Y.code kY 220 0 = some (.aload_n 0) ∧ ((0 : Fin 4) : Nat) = 0 ∧ 1 = 0 + 1 := by decide +kernel
theorem c220_1 : mj_Y.code kY 220 1 = some (.iconst 0) ∧ Int32.ofInt 0 = 0 ∧ 2 = 1 + 1 := by decide +kernel
theorem c220_2 : mj_Y.code kY 220 2 = some (.putfield 212) ∧ mj_Y.fl kY 220 212 12 = some (29, .int, true) ∧ 5 = 2 + 3 := by decide +kernel
theorem c220_5 : mj_Y.code kY 220 5 = some (.aload_n 0) ∧ ((0 : Fin 4) : Nat) = 0 ∧ 6 = 5 + 1 := by decide +kernel
theorem c220_6 : mj_Y.code kY 220 6 = some (.iconst 0) ∧ Int32.ofInt 0 = 0 ∧ 7 = 6 + 1 := by decide +kernel
theorem c220_7 : mj_Y.code kY 220 7 = some (.putfield 222) ∧ mj_Y.fl kY 220 222 12 = some (30, .int, true) ∧ 10 = 7 + 3 := by decide +kernel
theorem c220_10 : mj_Y.code kY 220 10 = some (.aload_n 0) ∧ ((0 : Fin 4) : Nat) = 0 ∧ 11 = 10 + 1 := by decide +kernel
theorem c220_11 : mj_Y.code kY 220 11 = some (.iconst 0) ∧ Int32.ofInt 0 = 0 ∧ 12 = 11 + 1 := by decide +kernel
theorem c220_12 : mj_Y.code kY 220 12 = some (.putfield 228) ∧ mj_Y.fl kY 220 228 12 = some (31, .boolean, true) ∧ 15 = 12 + 3 := by decide +kernel
theorem c220_15 : mj_Y.code kY 220 15 = some (.aload_n 0) ∧ ((0 : Fin 4) : Nat) = 0 ∧ 16 = 15 + 1 := by decide +kernel
theorem c220_16 : mj_Y.code kY 220 16 = some (.iconst 0) ∧ Int32.ofInt 0 = 0 ∧ 17 = 16 + 1 := by decide +kernel
theorem c220_17 : mj_Y.code kY 220 17 = some (.putfield 183) ∧ mj_Y.fl kY 220 183 12 = some (33, .int, true) ∧ 20 = 17 + 3 := by decide +kernel
theorem c220_20 : mj_Y.code kY 220 20 = some (.aload_n 0) ∧ ((0 : Fin 4) : Nat) = 0 ∧ 21 = 20 + 1 := by decide +kernel
theorem c220_21 : mj_Y.code kY 220 21 = some (.getfield 30) ∧ mj_Y.fl kY 220 30 12 = some (8, (.array .int), false) ∧ 24 = 21 + 3 := by decide +kernel
theorem c220_24 : mj_Y.code kY 220 24 = some (.bipush 72) ∧ (Int8.ofInt 72).toInt32 = 72 ∧ 26 = 24 + 2 := by decide +kernel
theorem c220_26 : mj_Y.code kY 220 26 = some (.iload_n 1) ∧ ((1 : Fin 4) : Nat) = 1 ∧ 27 = 26 + 1 := by decide +kernel
theorem c220_27 : mj_Y.code kY 220 27 = some .iadd ∧ 28 = 27 + 1 := by decide +kernel
theorem c220_28 : mj_Y.code kY 220 28 = some (.aload_n 0) ∧ ((0 : Fin 4) : Nat) = 0 ∧ 29 = 28 + 1 := by decide +kernel
theorem c220_29 : mj_Y.code kY 220 29 = some (.getfield 180) ∧ mj_Y.fl kY 220 180 12 = some (23, .int, true) ∧ 32 = 29 + 3 := by decide +kernel
theorem c220_32 : mj_Y.code kY 220 32 = some .iastore ∧ 33 = 32 + 1 := by decide +kernel
theorem c220_33 : mj_Y.code kY 220 33 = some (.iconst 1) ∧ Int32.ofInt 1 = 1 ∧ 34 = 33 + 1 := by decide +kernel
theorem c220_34 : mj_Y.code kY 220 34 = some (.istore_n 2) ∧ ((2 : Fin 4) : Nat) = 2 ∧ 2 < mj_Y.nL kY 220 ∧ 35 = 34 + 1 := by decide +kernel
theorem c220_35 : mj_Y.code kY 220 35 = some (.iload_n 2) ∧ ((2 : Fin 4) : Nat) = 2 ∧ 36 = 35 + 1 := by decide +kernel
theorem c220_36 : mj_Y.code kY 220 36 = some (.ifCond .eq 35) ∧ mj_tg 36 35 = some 71 ∧ 39 = 36 + 3 := by decide +kernel
theorem c220_39 : mj_Y.code kY 220 39 = some (.aload_n 0) ∧ ((0 : Fin 4) : Nat) = 0 ∧ 40 = 39 + 1 := by decide +kernel
theorem c220_40 : mj_Y.code kY 220 40 = some (.invokevirtual 247) ∧ mj_Y.na kY 220 247 = some 0 ∧ mj_Y.cv kY 220 247 12 = some 221 ∧ mj_Y.nL kY 221 = 1 ∧ 43 = 40 + 3 := by decide +kernel
theorem c220_43 : mj_Y.code kY 220 43 = some (.ifCond .eq 10) ∧ mj_tg 43 10 = some 53 ∧ 46 = 43 + 3 := by decide +kernel
theorem c220_46 : mj_Y.code kY 220 46 = some (.aload_n 0) ∧ ((0 : Fin 4) : Nat) = 0 ∧ 47 = 46 + 1 := by decide +kernel
theorem c220_47 : mj_Y.code kY 220 47 = some (.invokevirtual 250) ∧ mj_Y.na kY 220 250 = some 0 ∧ mj_Y.cv kY 220 250 12 = some 229 ∧ mj_Y.nL kY 229 = 2 ∧ 50 = 47 + 3 := by decide +kernel
theorem c220_50 : mj_Y.code kY 220 50 = some (.ifCond .ne 5) ∧ mj_tg 50 5 = some 55 ∧ 53 = 50 + 3 := by decide +kernel
theorem c220_53 : mj_Y.code kY 220 53 = some (.iconst 0) ∧ Int32.ofInt 0 = 0 ∧ 54 = 53 + 1 := by decide +kernel
theorem c220_54 : mj_Y.code kY 220 54 = some .ireturn ∧ mj_Y.rt kY 220 = some .boolean := by decide +kernel
theorem c220_55 : mj_Y.code kY 220 55 = some (.aload_n 0) ∧ ((0 : Fin 4) : Nat) = 0 ∧ 56 = 55 + 1 := by decide +kernel
theorem c220_56 : mj_Y.code kY 220 56 = some (.getfield 212) ∧ mj_Y.fl kY 220 212 12 = some (29, .int, true) ∧ 59 = 56 + 3 := by decide +kernel
theorem c220_59 : mj_Y.code kY 220 59 = some (.ifCond .le 7) ∧ mj_tg 59 7 = some 66 ∧ 62 = 59 + 3 := by decide +kernel
theorem c220_62 : mj_Y.code kY 220 62 = some (.iconst 1) ∧ Int32.ofInt 1 = 1 ∧ 63 = 62 + 1 := by decide +kernel
theorem c220_63 : mj_Y.code kY 220 63 = some (.goto 4) ∧ mj_tg 63 4 = some 67 := by decide +kernel
theorem c220_66 : mj_Y.code kY 220 66 = some (.iconst 0) ∧ Int32.ofInt 0 = 0 ∧ 67 = 66 + 1 := by decide +kernel
theorem c220_67 : mj_Y.code kY 220 67 = some (.istore_n 2) ∧ ((2 : Fin 4) : Nat) = 2 ∧ 2 < mj_Y.nL kY 220 ∧ 68 = 67 + 1 := by decide +kernel
theorem c220_68 : mj_Y.code kY 220 68 = some (.goto (-33)) ∧ mj_tg 68 (-33) = some 35 := by decide +kernel
theorem c220_71 : mj_Y.code kY 220 71 = some (.aload_n 0) ∧ ((0 : Fin 4) : Nat) = 0 ∧ 72 = 71 + 1 := by decide +kernel
theorem c220_72 : mj_Y.code kY 220 72 = some (.getfield 33) ∧ mj_Y.fl kY 220 33 12 = some (9, (.array .int), false) ∧ 75 = 72 + 3 := by decide +kernel
theorem c220_75 : mj_Y.code kY 220 75 = some (.bipush 72) ∧ (Int8.ofInt 72).toInt32 = 72 ∧ 77 = 75 + 2 := by decide +kernel
theorem c220_77 : mj_Y.code kY 220 77 = some (.iload_n 1) ∧ ((1 : Fin 4) : Nat) = 1 ∧ 78 = 77 + 1 := by decide +kernel
theorem c220_78 : mj_Y.code kY 220 78 = some .iadd ∧ 79 = 78 + 1 := by decide +kernel
theorem c220_79 : mj_Y.code kY 220 79 = some (.aload_n 0) ∧ ((0 : Fin 4) : Nat) = 0 ∧ 80 = 79 + 1 := by decide +kernel
theorem c220_80 : mj_Y.code kY 220 80 = some (.getfield 180) ∧ mj_Y.fl kY 220 180 12 = some (23, .int, true) ∧ 83 = 80 + 3 := by decide +kernel
theorem c220_83 : mj_Y.code kY 220 83 = some (.iconst 1) ∧ Int32.ofInt 1 = 1 ∧ 84 = 83 + 1 := by decide +kernel
theorem c220_84 : mj_Y.code kY 220 84 = some .isub ∧ 85 = 84 + 1 := by decide +kernel
theorem c220_85 : mj_Y.code kY 220 85 = some .iastore ∧ 86 = 85 + 1 := by decide +kernel
theorem c220_86 : mj_Y.code kY 220 86 = some (.iconst 1) ∧ Int32.ofInt 1 = 1 ∧ 87 = 86 + 1 := by decide +kernel
theorem c220_87 : mj_Y.code kY 220 87 = some .ireturn ∧ mj_Y.rt kY 220 = some .boolean := by decide +kernel
theorem c221_0 : mj_Y.code kY 221 0 = some (.aload_n 0) ∧ ((0 : Fin 4) : Nat) = 0 ∧ 1 = 0 + 1 := by decide +kernel
theorem c221_1 : mj_Y.code kY 221 1 = some (.invokevirtual 165) ∧ mj_Y.na kY 221 165 = some 0 ∧ mj_Y.cv kY 221 165 12 = some 212 ∧ mj_Y.nL kY 212 = 1 ∧ 4 = 1 + 3 := by decide +kernel
theorem c221_4 : mj_Y.code kY 221 4 = some (.bipush 45) ∧ (Int8.ofInt 45).toInt32 = 45 ∧ 6 = 4 + 2 := by decide +kernel
theorem c221_6 : mj_Y.code kY 221 6 = some (.if_icmp .eq 12) ∧ mj_tg 6 12 = some 18 ∧ 9 = 6 + 3 := by decide +kernel
theorem c221_9 : mj_Y.code kY 221 9 = some (.aload_n 0) ∧ ((0 : Fin 4) : Nat) = 0 ∧ 10 = 9 + 1 := by decide +kernel
theorem c221_10 : mj_Y.code kY 221 10 = some (.invokevirtual 165) ∧ mj_Y.na kY 221 165 = some 0 ∧ mj_Y.cv kY 221 165 12 = some 212 ∧ mj_Y.nL kY 212 = 1 ∧ 13 = 10 + 3 := by decide +kernel
theorem c221_13 : mj_Y.code kY 221 13 = some (.bipush 40) ∧ (Int8.ofInt 40).toInt32 = 40 ∧ 15 = 13 + 2 := by decide +kernel
theorem c221_15 : mj_Y.code kY 221 15 = some (.if_icmp .ne 95) ∧ mj_tg 15 95 = some 110 ∧ 18 = 15 + 3 := by decide +kernel
theorem c221_18 : mj_Y.code kY 221 18 = some (.aload_n 0) ∧ ((0 : Fin 4) : Nat) = 0 ∧ 19 = 18 + 1 := by decide +kernel
theorem c221_19 : mj_Y.code kY 221 19 = some (.getfield 222) ∧ mj_Y.fl kY 221 222 12 = some (30, .int, true) ∧ 22 = 19 + 3 := by decide +kernel
theorem c221_22 : mj_Y.code kY 221 22 = some (.iconst 5) ∧ Int32.ofInt 5 = 5 ∧ 23 = 22 + 1 := by decide +kernel
theorem c221_23 : mj_Y.code kY 221 23 = some (.if_icmp .ne 12) ∧ mj_tg 23 12 = some 35 ∧ 26 = 23 + 3 := by decide +kernel
theorem c221_26 : mj_Y.code kY 221 26 = some (.aload_n 0) ∧ ((0 : Fin 4) : Nat) = 0 ∧ 27 = 26 + 1 := by decide +kernel
theorem c221_27 : mj_Y.code kY 221 27 = some (.aload_n 0) ∧ ((0 : Fin 4) : Nat) = 0 ∧ 28 = 27 + 1 := by decide +kernel
theorem c221_28 : mj_Y.code kY 221 28 = some (.getfield 162) ∧ mj_Y.fl kY 221 162 12 = some (22, .int, true) ∧ 31 = 28 + 3 := by decide +kernel
theorem c221_31 : mj_Y.code kY 221 31 = some (.invokevirtual 169) ∧ mj_Y.na kY 221 169 = some 1 ∧ mj_Y.cv kY 221 169 12 = some 213 ∧ mj_Y.nL kY 213 = 2 ∧ 34 = 31 + 3 := by decide +kernel
theorem c221_34 : mj_Y.code kY 221 34 = some .ireturn ∧ mj_Y.rt kY 221 = some .boolean := by decide +kernel
theorem c221_35 : mj_Y.code kY 221 35 = some (.aload_n 0) ∧ ((0 : Fin 4) : Nat) = 0 ∧ 36 = 35 + 1 := by decide +kernel
theorem c221_36 : mj_Y.code kY 221 36 = some (.aload_n 0) ∧ ((0 : Fin 4) : Nat) = 0 ∧ 37 = 36 + 1 := by decide +kernel
theorem c221_37 : mj_Y.code kY 221 37 = some (.invokevirtual 165) ∧ mj_Y.na kY 221 165 = some 0 ∧ mj_Y.cv kY 221 165 12 = some 212 ∧ mj_Y.nL kY 212 = 1 ∧ 40 = 37 + 3 := by decide +kernel
theorem c221_40 : mj_Y.code kY 221 40 = some (.bipush 45) ∧ (Int8.ofInt 45).toInt32 = 45 ∧ 42 = 40 + 2 := by decide +kernel
theorem c221_42 : mj_Y.code kY 221 42 = some (.if_icmp .ne 8) ∧ mj_tg 42 8 = some 50 ∧ 45 = 42 + 3 := by decide +kernel
theorem c221_45 : mj_Y.code kY 221 45 = some (.bipush 21) ∧ (Int8.ofInt 21).toInt32 = 21 ∧ 47 = 45 + 2 := by decide +kernel
theorem c221_47 : mj_Y.code kY 221 47 = some (.goto 5) ∧ mj_tg 47 5 = some 52 := by decide +kernel
theorem c221_50 : mj_Y.code kY 221 50 = some (.bipush 20) ∧ (Int8.ofInt 20).toInt32 = 20 ∧ 52 = 50 + 2 := by decide +kernel
theorem c221_52 : mj_Y.code kY 221 52 = some (.invokevirtual 232) ∧ mj_Y.na kY 221 232 = some 1 ∧ mj_Y.cv kY 221 232 12 = some 222 ∧ mj_Y.nL kY 222 = 2 ∧ 55 = 52 + 3 := by decide +kernel
theorem c221_55 : mj_Y.code kY 221 55 = some (.aload_n 0) ∧ ((0 : Fin 4) : Nat) = 0 ∧ 56 = 55 + 1 := by decide +kernel
theorem c221_56 : mj_Y.code kY 221 56 = some (.aload_n 0) ∧ ((0 : Fin 4) : Nat) = 0 ∧ 57 = 56 + 1 := by decide +kernel
theorem c221_57 : mj_Y.code kY 221 57 = some (.getfield 73) ∧ mj_Y.fl kY 221 73 12 = some (27, (.array .int), false) ∧ 60 = 57 + 3 := by decide +kernel
theorem c221_60 : mj_Y.code kY 221 60 = some (.aload_n 0) ∧ ((0 : Fin 4) : Nat) = 0 ∧ 61 = 60 + 1 := by decide +kernel
theorem c221_61 : mj_Y.code kY 221 61 = some (.getfield 212) ∧ mj_Y.fl kY 221 212 12 = some (29, .int, true) ∧ 64 = 61 + 3 := by decide +kernel
theorem c221_64 : mj_Y.code kY 221 64 = some (.iconst 1) ∧ Int32.ofInt 1 = 1 ∧ 65 = 64 + 1 := by decide +kernel
theorem c221_65 : mj_Y.code kY 221 65 = some .isub ∧ 66 = 65 + 1 := by decide +kernel
theorem c221_66 : mj_Y.code kY 221 66 = some .iaload ∧ 67 = 66 + 1 := by decide +kernel
theorem c221_67 : mj_Y.code kY 221 67 = some (.bipush 20) ∧ (Int8.ofInt 20).toInt32 = 20 ∧ 69 = 67 + 2 := by decide +kernel
theorem c221_69 : mj_Y.code kY 221 69 = some (.if_icmp .eq 14) ∧ mj_tg 69 14 = some 83 ∧ 72 = 69 + 3 := by decide +kernel
theorem c221_72 : mj_Y.code kY 221 72 = some (.aload_n 0) ∧ ((0 : Fin 4) : Nat) = 0 ∧ 73 = 72 + 1 := by decide +kernel
theorem c221_73 : mj_Y.code kY 221 73 = some (.getfield 228) ∧ mj_Y.fl kY 221 228 12 = some (31, .boolean, true) ∧ 76 = 73 + 3 := by decide +kernel
theorem c221_76 : mj_Y.code kY 221 76 = some (.ifCond .eq 7) ∧ mj_tg 76 7 = some 83 ∧ 79 = 76 + 3 := by decide +kernel
theorem c221_79 : mj_Y.code kY 221 79 = some (.iconst 1) ∧ Int32.ofInt 1 = 1 ∧ 80 = 79 + 1 := by decide +kernel
theorem c221_80 : mj_Y.code kY 221 80 = some (.goto 4) ∧ mj_tg 80 4 = some 84 := by decide +kernel
theorem c221_83 : mj_Y.code kY 221 83 = some (.iconst 0) ∧ Int32.ofInt 0 = 0 ∧ 84 = 83 + 1 := by decide +kernel
theorem c221_84 : mj_Y.code kY 221 84 = some (.putfield 228) ∧ mj_Y.fl kY 221 228 12 = some (31, .boolean, true) ∧ 87 = 84 + 3 := by decide +kernel
theorem c221_87 : mj_Y.code kY 221 87 = some (.aload_n 0) ∧ ((0 : Fin 4) : Nat) = 0 ∧ 88 = 87 + 1 := by decide +kernel
theorem c221_88 : mj_Y.code kY 221 88 = some .dup ∧ 89 = 88 + 1 := by decide +kernel
theorem c221_89 : mj_Y.code kY 221 89 = some (.getfield 222) ∧ mj_Y.fl kY 221 222 12 = some (30, .int, true) ∧ 92 = 89 + 3 := by decide +kernel
theorem c221_92 : mj_Y.code kY 221 92 = some (.iconst 1) ∧ Int32.ofInt 1 = 1 ∧ 93 = 92 + 1 := by decide +kernel
theorem c221_93 : mj_Y.code kY 221 93 = some .iadd ∧ 94 = 93 + 1 := by decide +kernel
theorem c221_94 : mj_Y.code kY 221 94 = some (.putfield 222) ∧ mj_Y.fl kY 221 222 12 = some (30, .int, true) ∧ 97 = 94 + 3 := by decide +kernel
theorem c221_97 : mj_Y.code kY 221 97 = some (.aload_n 0) ∧ ((0 : Fin 4) : Nat) = 0 ∧ 98 = 97 + 1 := by decide +kernel
theorem c221_98 : mj_Y.code kY 221 98 = some .dup ∧ 99 = 98 + 1 := by decide +kernel
theorem c221_99 : mj_Y.code kY 221 99 = some (.getfield 162) ∧ mj_Y.fl kY 221 162 12 = some (22, .int, true) ∧ 102 = 99 + 3 := by decide +kernel
theorem c221_102 : mj_Y.code kY 221 102 = some (.iconst 1) ∧ Int32.ofInt 1 = 1 ∧ 103 = 102 + 1 := by decide +kernel
theorem c221_103 : mj_Y.code kY 221 103 = some .iadd ∧ 104 = 103 + 1 := by decide +kernel
theorem c221_104 : mj_Y.code kY 221 104 = some (.putfield 162) ∧ mj_Y.fl kY 221 162 12 = some (22, .int, true) ∧ 107 = 104 + 3 := by decide +kernel
theorem c221_107 : mj_Y.code kY 221 107 = some (.goto (-107)) ∧ mj_tg 107 (-107) = some 0 := by decide +kernel
theorem c221_110 : mj_Y.code kY 221 110 = some (.aload_n 0) ∧ ((0 : Fin 4) : Nat) = 0 ∧ 111 = 110 + 1 := by decide +kernel
theorem c221_111 : mj_Y.code kY 221 111 = some (.invokevirtual 235) ∧ mj_Y.na kY 221 235 = some 0 ∧ mj_Y.cv kY 221 235 12 = some 223 ∧ mj_Y.nL kY 223 = 2 ∧ 114 = 111 + 3 := by decide +kernel
theorem c221_114 : mj_Y.code kY 221 114 = some (.ifCond .ne 5) ∧ mj_tg 114 5 = some 119 ∧ 117 = 114 + 3 := by decide +kernel
theorem c221_117 : mj_Y.code kY 221 117 = some (.iconst 0) ∧ Int32.ofInt 0 = 0 ∧ 118 = 117 + 1 := by decide +kernel
theorem c221_118 : mj_Y.code kY 221 118 = some .ireturn ∧ mj_Y.rt kY 221 = some .boolean := by decide +kernel
theorem c221_119 : mj_Y.code kY 221 119 = some (.aload_n 0) ∧ ((0 : Fin 4) : Nat) = 0 ∧ 120 = 119 + 1 := by decide +kernel
theorem c221_120 : mj_Y.code kY 221 120 = some (.invokevirtual 238) ∧ mj_Y.na kY 221 238 = some 0 ∧ mj_Y.cv kY 221 238 12 = some 227 ∧ mj_Y.nL kY 227 = 1 ∧ 123 = 120 + 3 := by decide +kernel
theorem c221_123 : mj_Y.code kY 221 123 = some (.iconst 1) ∧ Int32.ofInt 1 = 1 ∧ 124 = 123 + 1 := by decide +kernel
theorem c221_124 : mj_Y.code kY 221 124 = some .ireturn ∧ mj_Y.rt kY 221 = some .boolean := by decide +kernel
theorem c222_0 : mj_Y.code kY 222 0 = some (.aload_n 0) ∧ ((0 : Fin 4) : Nat) = 0 ∧ 1 = 0 + 1 := by decide +kernel
theorem c222_1 : mj_Y.code kY 222 1 = some (.getfield 73) ∧ mj_Y.fl kY 222 73 12 = some (27, (.array .int), false) ∧ 4 = 1 + 3 := by decide +kernel
theorem c222_4 : mj_Y.code kY 222 4 = some (.aload_n 0) ∧ ((0 : Fin 4) : Nat) = 0 ∧ 5 = 4 + 1 := by decide +kernel
theorem c222_5 : mj_Y.code kY 222 5 = some (.getfield 212) ∧ mj_Y.fl kY 222 212 12 = some (29, .int, true) ∧ 8 = 5 + 3 := by decide +kernel
theorem c222_8 : mj_Y.code kY 222 8 = some (.iload_n 1) ∧ ((1 : Fin 4) : Nat) = 1 ∧ 9 = 8 + 1 := by decide +kernel
theorem c222_9 : mj_Y.code kY 222 9 = some .iastore ∧ 10 = 9 + 1 := by decide +kernel
theorem c222_10 : mj_Y.code kY 222 10 = some (.aload_n 0) ∧ ((0 : Fin 4) : Nat) = 0 ∧ 11 = 10 + 1 := by decide +kernel
theorem c222_11 : mj_Y.code kY 222 11 = some (.getfield 76) ∧ mj_Y.fl kY 222 76 12 = some (28, (.array .boolean), false) ∧ 14 = 11 + 3 := by decide +kernel
theorem c222_14 : mj_Y.code kY 222 14 = some (.aload_n 0) ∧ ((0 : Fin 4) : Nat) = 0 ∧ 15 = 14 + 1 := by decide +kernel
theorem c222_15 : mj_Y.code kY 222 15 = some (.getfield 212) ∧ mj_Y.fl kY 222 212 12 = some (29, .int, true) ∧ 18 = 15 + 3 := by decide +kernel
theorem c222_18 : mj_Y.code kY 222 18 = some (.aload_n 0) ∧ ((0 : Fin 4) : Nat) = 0 ∧ 19 = 18 + 1 := by decide +kernel
theorem c222_19 : mj_Y.code kY 222 19 = some (.getfield 228) ∧ mj_Y.fl kY 222 228 12 = some (31, .boolean, true) ∧ 22 = 19 + 3 := by decide +kernel
theorem c222_22 : mj_Y.code kY 222 22 = some .bastore ∧ 23 = 22 + 1 := by decide +kernel
theorem c222_23 : mj_Y.code kY 222 23 = some (.aload_n 0) ∧ ((0 : Fin 4) : Nat) = 0 ∧ 24 = 23 + 1 := by decide +kernel
theorem c222_24 : mj_Y.code kY 222 24 = some .dup ∧ 25 = 24 + 1 := by decide +kernel
theorem c222_25 : mj_Y.code kY 222 25 = some (.getfield 212) ∧ mj_Y.fl kY 222 212 12 = some (29, .int, true) ∧ 28 = 25 + 3 := by decide +kernel
theorem c222_28 : mj_Y.code kY 222 28 = some (.iconst 1) ∧ Int32.ofInt 1 = 1 ∧ 29 = 28 + 1 := by decide +kernel
theorem c222_29 : mj_Y.code kY 222 29 = some .iadd ∧ 30 = 29 + 1 := by decide +kernel
theorem c222_30 : mj_Y.code kY 222 30 = some (.putfield 212) ∧ mj_Y.fl kY 222 212 12 = some (29, .int, true) ∧ 33 = 30 + 3 := by decide +kernel
theorem c222_33 : mj_Y.code kY 222 33 = some .return_ ∧ mj_Y.rt kY 222 = none := by decide +kernel
theorem c223_0 : mj_Y.code kY 223 0 = some (.aload_n 0) ∧ ((0 : Fin 4) : Nat) = 0 ∧ 1 = 0 + 1 := by decide +kernel
theorem c223_1 : mj_Y.code kY 223 1 = some (.invokevirtual 200) ∧ mj_Y.na kY 223 200 = some 0 ∧ mj_Y.cv kY 223 200 12 = some 215 ∧ mj_Y.nL kY 215 = 1 ∧ 4 = 1 + 3 := by decide +kernel
theorem c223_4 : mj_Y.code kY 223 4 = some (.ifCond .ne 28) ∧ mj_tg 4 28 = some 32 ∧ 7 = 4 + 3 := by decide +kernel
theorem c223_7 : mj_Y.code kY 223 7 = some (.aload_n 0) ∧ ((0 : Fin 4) : Nat) = 0 ∧ 8 = 7 + 1 := by decide +kernel
theorem c223_8 : mj_Y.code kY 223 8 = some (.invokevirtual 173) ∧ mj_Y.na kY 223 173 = some 0 ∧ mj_Y.cv kY 223 173 12 = some 217 ∧ mj_Y.nL kY 217 = 1 ∧ 11 = 8 + 3 := by decide +kernel
theorem c223_11 : mj_Y.code kY 223 11 = some (.ifCond .ne 21) ∧ mj_tg 11 21 = some 32 ∧ 14 = 11 + 3 := by decide +kernel
theorem c223_14 : mj_Y.code kY 223 14 = some (.aload_n 0) ∧ ((0 : Fin 4) : Nat) = 0 ∧ 15 = 14 + 1 := by decide +kernel
theorem c223_15 : mj_Y.code kY 223 15 = some (.invokevirtual 165) ∧ mj_Y.na kY 223 165 = some 0 ∧ mj_Y.cv kY 223 165 12 = some 212 ∧ mj_Y.nL kY 212 = 1 ∧ 18 = 15 + 3 := by decide +kernel
theorem c223_18 : mj_Y.code kY 223 18 = some (.bipush 100) ∧ (Int8.ofInt 100).toInt32 = 100 ∧ 20 = 18 + 2 := by decide +kernel
theorem c223_20 : mj_Y.code kY 223 20 = some (.if_icmp .eq 12) ∧ mj_tg 20 12 = some 32 ∧ 23 = 20 + 3 := by decide +kernel
theorem c223_23 : mj_Y.code kY 223 23 = some (.aload_n 0) ∧ ((0 : Fin 4) : Nat) = 0 ∧ 24 = 23 + 1 := by decide +kernel
theorem c223_24 : mj_Y.code kY 223 24 = some (.invokevirtual 165) ∧ mj_Y.na kY 223 165 = some 0 ∧ mj_Y.cv kY 223 165 12 = some 212 ∧ mj_Y.nL kY 212 = 1 ∧ 27 = 24 + 3 := by decide +kernel
theorem c223_27 : mj_Y.code kY 223 27 = some (.bipush 91) ∧ (Int8.ofInt 91).toInt32 = 91 ∧ 29 = 27 + 2 := by decide +kernel
theorem c223_29 : mj_Y.code kY 223 29 = some (.if_icmp .ne 12) ∧ mj_tg 29 12 = some 41 ∧ 32 = 29 + 3 := by decide +kernel
theorem c223_32 : mj_Y.code kY 223 32 = some (.aload_n 0) ∧ ((0 : Fin 4) : Nat) = 0 ∧ 33 = 32 + 1 := by decide +kernel
theorem c223_33 : mj_Y.code kY 223 33 = some (.getfield 203) ∧ mj_Y.fl kY 223 203 12 = some (24, .int, true) ∧ 36 = 33 + 3 := by decide +kernel
theorem c223_36 : mj_Y.code kY 223 36 = some (.bipush 40) ∧ (Int8.ofInt 40).toInt32 = 40 ∧ 38 = 36 + 2 := by decide +kernel
theorem c223_38 : mj_Y.code kY 223 38 = some (.if_icmp .ne 12) ∧ mj_tg 38 12 = some 50 ∧ 41 = 38 + 3 := by decide +kernel
theorem c223_41 : mj_Y.code kY 223 41 = some (.aload_n 0) ∧ ((0 : Fin 4) : Nat) = 0 ∧ 42 = 41 + 1 := by decide +kernel
theorem c223_42 : mj_Y.code kY 223 42 = some (.aload_n 0) ∧ ((0 : Fin 4) : Nat) = 0 ∧ 43 = 42 + 1 := by decide +kernel
theorem c223_43 : mj_Y.code kY 223 43 = some (.getfield 162) ∧ mj_Y.fl kY 223 162 12 = some (22, .int, true) ∧ 46 = 43 + 3 := by decide +kernel
theorem c223_46 : mj_Y.code kY 223 46 = some (.invokevirtual 169) ∧ mj_Y.na kY 223 169 = some 1 ∧ mj_Y.cv kY 223 169 12 = some 213 ∧ mj_Y.nL kY 213 = 2 ∧ 49 = 46 + 3 := by decide +kernel
theorem c223_49 : mj_Y.code kY 223 49 = some .ireturn ∧ mj_Y.rt kY 223 = some .boolean := by decide +kernel
theorem c223_50 : mj_Y.code kY 223 50 = some (.aload_n 0) ∧ ((0 : Fin 4) : Nat) = 0 ∧ 51 = 50 + 1 := by decide +kernel
theorem c223_51 : mj_Y.code kY 223 51 = some .dup ∧ 52 = 51 + 1 := by decide +kernel
theorem c223_52 : mj_Y.code kY 223 52 = some (.getfield 203) ∧ mj_Y.fl kY 223 203 12 = some (24, .int, true) ∧ 55 = 52 + 3 := by decide +kernel
theorem c223_55 : mj_Y.code kY 223 55 = some (.iconst 1) ∧ Int32.ofInt 1 = 1 ∧ 56 = 55 + 1 := by decide +kernel
theorem c223_56 : mj_Y.code kY 223 56 = some .iadd ∧ 57 = 56 + 1 := by decide +kernel
theorem c223_57 : mj_Y.code kY 223 57 = some (.putfield 203) ∧ mj_Y.fl kY 223 203 12 = some (24, .int, true) ∧ 60 = 57 + 3 := by decide +kernel
theorem c223_60 : mj_Y.code kY 223 60 = some (.aload_n 0) ∧ ((0 : Fin 4) : Nat) = 0 ∧ 61 = 60 + 1 := by decide +kernel
theorem c223_61 : mj_Y.code kY 223 61 = some (.invokevirtual 200) ∧ mj_Y.na kY 223 200 = some 0 ∧ mj_Y.cv kY 223 200 12 = some 215 ∧ mj_Y.nL kY 215 = 1 ∧ 64 = 61 + 3 := by decide +kernel
theorem c223_64 : mj_Y.code kY 223 64 = some (.ifCond .eq 30) ∧ mj_tg 64 30 = some 94 ∧ 67 = 64 + 3 := by decide +kernel
theorem c223_67 : mj_Y.code kY 223 67 = some (.aload_n 0) ∧ ((0 : Fin 4) : Nat) = 0 ∧ 68 = 67 + 1 := by decide +kernel
theorem c223_68 : mj_Y.code kY 223 68 = some (.iconst 1) ∧ Int32.ofInt 1 = 1 ∧ 69 = 68 + 1 := by decide +kernel
theorem c223_69 : mj_Y.code kY 223 69 = some (.aload_n 0) ∧ ((0 : Fin 4) : Nat) = 0 ∧ 70 = 69 + 1 := by decide +kernel
theorem c223_70 : mj_Y.code kY 223 70 = some (.invokevirtual 165) ∧ mj_Y.na kY 223 165 = some 0 ∧ mj_Y.cv kY 223 165 12 = some 212 ∧ mj_Y.nL kY 212 = 1 ∧ 73 = 70 + 3 := by decide +kernel
theorem c223_73 : mj_Y.code kY 223 73 = some (.bipush 65) ∧ (Int8.ofInt 65).toInt32 = 65 ∧ 75 = 73 + 2 := by decide +kernel
theorem c223_75 : mj_Y.code kY 223 75 = some .isub ∧ 76 = 75 + 1 := by decide +kernel
theorem c223_76 : mj_Y.code kY 223 76 = some (.iconst 0) ∧ Int32.ofInt 0 = 0 ∧ 77 = 76 + 1 := by decide +kernel
theorem c223_77 : mj_Y.code kY 223 77 = some (.iconst 0) ∧ Int32.ofInt 0 = 0 ∧ 78 = 77 + 1 := by decide +kernel
theorem c223_78 : mj_Y.code kY 223 78 = some (.iconst 0) ∧ Int32.ofInt 0 = 0 ∧ 79 = 78 + 1 := by decide +kernel
theorem c223_79 : mj_Y.code kY 223 79 = some (.invokevirtual 186) ∧ mj_Y.na kY 223 186 = some 5 ∧ mj_Y.cv kY 223 186 12 = some 224 ∧ mj_Y.nL kY 224 = 7 ∧ 82 = 79 + 3 := by decide +kernel
theorem c223_82 : mj_Y.code kY 223 82 = some (.aload_n 0) ∧ ((0 : Fin 4) : Nat) = 0 ∧ 83 = 82 + 1 := by decide +kernel
theorem c223_83 : mj_Y.code kY 223 83 = some .dup ∧ 84 = 83 + 1 := by decide +kernel
theorem c223_84 : mj_Y.code kY 223 84 = some (.getfield 162) ∧ mj_Y.fl kY 223 162 12 = some (22, .int, true) ∧ 87 = 84 + 3 := by decide +kernel
theorem c223_87 : mj_Y.code kY 223 87 = some (.iconst 1) ∧ Int32.ofInt 1 = 1 ∧ 88 = 87 + 1 := by decide +kernel
theorem c223_88 : mj_Y.code kY 223 88 = some .iadd ∧ 89 = 88 + 1 := by decide +kernel
theorem c223_89 : mj_Y.code kY 223 89 = some (.putfield 162) ∧ mj_Y.fl kY 223 162 12 = some (22, .int, true) ∧ 92 = 89 + 3 := by decide +kernel
theorem c223_92 : mj_Y.code kY 223 92 = some (.iconst 1) ∧ Int32.ofInt 1 = 1 ∧ 93 = 92 + 1 := by decide +kernel
theorem c223_93 : mj_Y.code kY 223 93 = some .ireturn ∧ mj_Y.rt kY 223 = some .boolean := by decide +kernel
theorem c223_94 : mj_Y.code kY 223 94 = some (.aload_n 0) ∧ ((0 : Fin 4) : Nat) = 0 ∧ 95 = 94 + 1 := by decide +kernel
theorem c223_95 : mj_Y.code kY 223 95 = some (.invokevirtual 165) ∧ mj_Y.na kY 223 165 = some 0 ∧ mj_Y.cv kY 223 165 12 = some 212 ∧ mj_Y.nL kY 212 = 1 ∧ 98 = 95 + 3 := by decide +kernel
theorem c223_98 : mj_Y.code kY 223 98 = some (.bipush 91) ∧ (Int8.ofInt 91).toInt32 = 91 ∧ 100 = 98 + 2 := by decide +kernel
theorem c223_100 : mj_Y.code kY 223 100 = some (.if_icmp .ne 8) ∧ mj_tg 100 8 = some 108 ∧ 103 = 100 + 3 := by decide +kernel
theorem c223_103 : mj_Y.code kY 223 103 = some (.aload_n 0) ∧ ((0 : Fin 4) : Nat) = 0 ∧ 104 = 103 + 1 := by decide +kernel
theorem c223_104 : mj_Y.code kY 223 104 = some (.invokevirtual 206) ∧ mj_Y.na kY 223 206 = some 0 ∧ mj_Y.cv kY 223 206 12 = some 225 ∧ mj_Y.nL kY 225 = 3 ∧ 107 = 104 + 3 := by decide +kernel
theorem c223_107 : mj_Y.code kY 223 107 = some .ireturn ∧ mj_Y.rt kY 223 = some .boolean := by decide +kernel
theorem c223_108 : mj_Y.code kY 223 108 = some (.aload_n 0) ∧ ((0 : Fin 4) : Nat) = 0 ∧ 109 = 108 + 1 := by decide +kernel
theorem c223_109 : mj_Y.code kY 223 109 = some (.invokevirtual 173) ∧ mj_Y.na kY 223 173 = some 0 ∧ mj_Y.cv kY 223 173 12 = some 217 ∧ mj_Y.nL kY 217 = 1 ∧ 112 = 109 + 3 := by decide +kernel
theorem c223_112 : mj_Y.code kY 223 112 = some (.ifCond .ne 9) ∧ mj_tg 112 9 = some 121 ∧ 115 = 112 + 3 := by decide +kernel
theorem c223_115 : mj_Y.code kY 223 115 = some (.aload_n 0) ∧ ((0 : Fin 4) : Nat) = 0 ∧ 116 = 115 + 1 := by decide +kernel
theorem c223_116 : mj_Y.code kY 223 116 = some (.iconst 1) ∧ Int32.ofInt 1 = 1 ∧ 117 = 116 + 1 := by decide +kernel
theorem c223_117 : mj_Y.code kY 223 117 = some (.invokevirtual 209) ∧ mj_Y.na kY 223 209 = some 1 ∧ mj_Y.cv kY 223 209 12 = some 226 ∧ mj_Y.nL kY 226 = 5 ∧ 120 = 117 + 3 := by decide +kernel
theorem c223_120 : mj_Y.code kY 223 120 = some .ireturn ∧ mj_Y.rt kY 223 = some .boolean := by decide +kernel
theorem c223_121 : mj_Y.code kY 223 121 = some (.aload_n 0) ∧ ((0 : Fin 4) : Nat) = 0 ∧ 122 = 121 + 1 := by decide +kernel
theorem c223_122 : mj_Y.code kY 223 122 = some (.getfield 162) ∧ mj_Y.fl kY 223 162 12 = some (22, .int, true) ∧ 125 = 122 + 3 := by decide +kernel
theorem c223_125 : mj_Y.code kY 223 125 = some (.istore_n 1) ∧ ((1 : Fin 4) : Nat) = 1 ∧ 1 < mj_Y.nL kY 223 ∧ 126 = 125 + 1 := by decide +kernel
theorem c223_126 : mj_Y.code kY 223 126 = some (.aload_n 0) ∧ ((0 : Fin 4) : Nat) = 0 ∧ 127 = 126 + 1 := by decide +kernel
theorem c223_127 : mj_Y.code kY 223 127 = some (.iconst 0) ∧ Int32.ofInt 0 = 0 ∧ 128 = 127 + 1 := by decide +kernel
theorem c223_128 : mj_Y.code kY 223 128 = some (.sipush 999) ∧ (Int16.ofInt 999).toInt32 = 999 ∧ 131 = 128 + 3 := by decide +kernel
theorem c223_131 : mj_Y.code kY 223 131 = some (.invokevirtual 193) ∧ mj_Y.na kY 223 193 = some 2 ∧ mj_Y.cv kY 223 193 12 = some 216 ∧ mj_Y.nL kY 216 = 5 ∧ 134 = 131 + 3 := by decide +kernel
theorem c223_134 : mj_Y.code kY 223 134 = some (.ifCond .ne 5) ∧ mj_tg 134 5 = some 139 ∧ 137 = 134 + 3 := by decide +kernel
theorem c223_137 : mj_Y.code kY 223 137 = some (.iconst 0) ∧ Int32.ofInt 0 = 0 ∧ 138 = 137 + 1 := by decide +kernel
theorem c223_138 : mj_Y.code kY 223 138 = some .ireturn ∧ mj_Y.rt kY 223 = some .boolean := by decide +kernel
theorem c223_139 : mj_Y.code kY 223 139 = some (.aload_n 0) ∧ ((0 : Fin 4) : Nat) = 0 ∧ 140 = 139 + 1 := by decide +kernel
theorem c223_140 : mj_Y.code kY 223 140 = some (.invokevirtual 165) ∧ mj_Y.na kY 223 165 = some 0 ∧ mj_Y.cv kY 223 165 12 = some 212 ∧ mj_Y.nL kY 212 = 1 ∧ 143 = 140 + 3 := by decide +kernel
theorem c223_143 : mj_Y.code kY 223 143 = some (.bipush 100) ∧ (Int8.ofInt 100).toInt32 = 100 ∧ 145 = 143 + 2 := by decide +kernel
theorem c223_145 : mj_Y.code kY 223 145 = some (.if_icmp .ne 33) ∧ mj_tg 145 33 = some 178 ∧ 148 = 145 + 3 := by decide +kernel
theorem c223_148 : mj_Y.code kY 223 148 = some (.aload_n 0) ∧ ((0 : Fin 4) : Nat) = 0 ∧ 149 = 148 + 1 := by decide +kernel
theorem c223_149 : mj_Y.code kY 223 149 = some (.getfield 177) ∧ mj_Y.fl kY 223 177 12 = some (26, .int, true) ∧ 152 = 149 + 3 := by decide +kernel
theorem c223_152 : mj_Y.code kY 223 152 = some (.iconst 1) ∧ Int32.ofInt 1 = 1 ∧ 153 = 152 + 1 := by decide +kernel
theorem c223_153 : mj_Y.code kY 223 153 = some (.bipush 6) ∧ (Int8.ofInt 6).toInt32 = 6 ∧ 155 = 153 + 2 := by decide +kernel
theorem c223_155 : mj_Y.code kY 223 155 = some (.invokestatic 145) ∧ mj_Y.pr kY 223 145 = none ∧ mj_Y.cs kY 223 145 = some (205, 3) ∧ mj_Y.nL kY 205 = 3 ∧ 158 = 155 + 3 := by decide +kernel
theorem c223_158 : mj_Y.code kY 223 158 = some (.ifCond .eq 14) ∧ mj_tg 158 14 = some 172 ∧ 161 = 158 + 3 := by decide +kernel
theorem c223_161 : mj_Y.code kY 223 161 = some (.aload_n 0) ∧ ((0 : Fin 4) : Nat) = 0 ∧ 162 = 161 + 1 := by decide +kernel
theorem c223_162 : mj_Y.code kY 223 162 = some (.aload_n 0) ∧ ((0 : Fin 4) : Nat) = 0 ∧ 163 = 162 + 1 := by decide +kernel
theorem c223_163 : mj_Y.code kY 223 163 = some (.getfield 177) ∧ mj_Y.fl kY 223 177 12 = some (26, .int, true) ∧ 166 = 163 + 3 := by decide +kernel
theorem c223_166 : mj_Y.code kY 223 166 = some (.invokevirtual 209) ∧ mj_Y.na kY 223 209 = some 1 ∧ mj_Y.cv kY 223 209 12 = some 226 ∧ mj_Y.nL kY 226 = 5 ∧ 169 = 166 + 3 := by decide +kernel
theorem c223_169 : mj_Y.code kY 223 169 = some (.goto 8) ∧ mj_tg 169 8 = some 177 := by decide +kernel
theorem c223_172 : mj_Y.code kY 223 172 = some (.aload_n 0) ∧ ((0 : Fin 4) : Nat) = 0 ∧ 173 = 172 + 1 := by decide +kernel
theorem c223_173 : mj_Y.code kY 223 173 = some (.iload_n 1) ∧ ((1 : Fin 4) : Nat) = 1 ∧ 174 = 173 + 1 := by decide +kernel
theorem c223_174 : mj_Y.code kY 223 174 = some (.invokevirtual 169) ∧ mj_Y.na kY 223 169 = some 1 ∧ mj_Y.cv kY 223 169 12 = some 213 ∧ mj_Y.nL kY 213 = 2 ∧ 177 = 174 + 3 := by decide +kernel
theorem c223_177 : mj_Y.code kY 223 177 = some .ireturn ∧ mj_Y.rt kY 223 = some .boolean := by decide +kernel
theorem c223_178 : mj_Y.code kY 223 178 = some (.aload_n 0) ∧ ((0 : Fin 4) : Nat) = 0 ∧ 179 = 178 + 1 := by decide +kernel
theorem c223_179 : mj_Y.code kY 223 179 = some (.iconst 0) ∧ Int32.ofInt 0 = 0 ∧ 180 = 179 + 1 := by decide +kernel
theorem c223_180 : mj_Y.code kY 223 180 = some (.aload_n 0) ∧ ((0 : Fin 4) : Nat) = 0 ∧ 181 = 180 + 1 := by decide +kernel
theorem c223_181 : mj_Y.code kY 223 181 = some (.getfield 177) ∧ mj_Y.fl kY 223 177 12 = some (26, .int, true) ∧ 184 = 181 + 3 := by decide +kernel
theorem c223_184 : mj_Y.code kY 223 184 = some (.iconst 0) ∧ Int32.ofInt 0 = 0 ∧ 185 = 184 + 1 := by decide +kernel
theorem c223_185 : mj_Y.code kY 223 185 = some (.iconst 0) ∧ Int32.ofInt 0 = 0 ∧ 186 = 185 + 1 := by decide +kernel
theorem c223_186 : mj_Y.code kY 223 186 = some (.iconst 0) ∧ Int32.ofInt 0 = 0 ∧ 187 = 186 + 1 := by decide +kernel
theorem c223_187 : mj_Y.code kY 223 187 = some (.invokevirtual 186) ∧ mj_Y.na kY 223 186 = some 5 ∧ mj_Y.cv kY 223 186 12 = some 224 ∧ mj_Y.nL kY 224 = 7 ∧ 190 = 187 + 3 := by decide +kernel
theorem c223_190 : mj_Y.code kY 223 190 = some (.iconst 1) ∧ Int32.ofInt 1 = 1 ∧ 191 = 190 + 1 := by decide +kernel
theorem c223_191 : mj_Y.code kY 223 191 = some .ireturn ∧ mj_Y.rt kY 223 = some .boolean := by decide +kernel
theorem c224_0 : mj_Y.code kY 224 0 = some (.sipush 480) ∧ (Int16.ofInt 480).toInt32 = 480 ∧ 3 = 0 + 3 := by decide +kernel
theorem c224_3 : mj_Y.code kY 224 3 = some (.aload_n 0) ∧ ((0 : Fin 4) : Nat) = 0 ∧ 4 = 3 + 1 := by decide +kernel
theorem c224_4 : mj_Y.code kY 224 4 = some (.getfield 180) ∧ mj_Y.fl kY 224 180 12 = some (23, .int, true) ∧ 7 = 4 + 3 := by decide +kernel
theorem c224_7 : mj_Y.code kY 224 7 = some .iadd ∧ 8 = 7 + 1 := by decide +kernel
theorem c224_8 : mj_Y.code kY 224 8 = some (.istore 6) ∧ 6 = 6 ∧ 6 < mj_Y.nL kY 224 ∧ 10 = 8 + 2 := by decide +kernel
theorem c224_10 : mj_Y.code kY 224 10 = some (.aload_n 0) ∧ ((0 : Fin 4) : Nat) = 0 ∧ 11 = 10 + 1 := by decide +kernel
theorem c224_11 : mj_Y.code kY 224 11 = some (.getfield 46) ∧ mj_Y.fl kY 224 46 12 = some (13, (.array .int), false) ∧ 14 = 11 + 3 := by decide +kernel
theorem c224_14 : mj_Y.code kY 224 14 = some (.iload 6) ∧ 6 = 6 ∧ 16 = 14 + 2 := by decide +kernel
theorem c224_16 : mj_Y.code kY 224 16 = some (.iload_n 1) ∧ ((1 : Fin 4) : Nat) = 1 ∧ 17 = 16 + 1 := by decide +kernel
theorem c224_17 : mj_Y.code kY 224 17 = some .iastore ∧ 18 = 17 + 1 := by decide +kernel
theorem c224_18 : mj_Y.code kY 224 18 = some (.aload_n 0) ∧ ((0 : Fin 4) : Nat) = 0 ∧ 19 = 18 + 1 := by decide +kernel
theorem c224_19 : mj_Y.code kY 224 19 = some (.getfield 49) ∧ mj_Y.fl kY 224 49 12 = some (14, (.array .int), false) ∧ 22 = 19 + 3 := by decide +kernel
theorem c224_22 : mj_Y.code kY 224 22 = some (.iload 6) ∧ 6 = 6 ∧ 24 = 22 + 2 := by decide +kernel
theorem c224_24 : mj_Y.code kY 224 24 = some (.iload_n 2) ∧ ((2 : Fin 4) : Nat) = 2 ∧ 25 = 24 + 1 := by decide +kernel
theorem c224_25 : mj_Y.code kY 224 25 = some .iastore ∧ 26 = 25 + 1 := by decide +kernel
theorem c224_26 : mj_Y.code kY 224 26 = some (.aload_n 0) ∧ ((0 : Fin 4) : Nat) = 0 ∧ 27 = 26 + 1 := by decide +kernel
theorem c224_27 : mj_Y.code kY 224 27 = some (.getfield 52) ∧ mj_Y.fl kY 224 52 12 = some (15, (.array .int), false) ∧ 30 = 27 + 3 := by decide +kernel
theorem c224_30 : mj_Y.code kY 224 30 = some (.iload 6) ∧ 6 = 6 ∧ 32 = 30 + 2 := by decide +kernel
theorem c224_32 : mj_Y.code kY 224 32 = some (.iload_n 3) ∧ ((3 : Fin 4) : Nat) = 3 ∧ 33 = 32 + 1 := by decide +kernel
theorem c224_33 : mj_Y.code kY 224 33 = some .iastore ∧ 34 = 33 + 1 := by decide +kernel
theorem c224_34 : mj_Y.code kY 224 34 = some (.aload_n 0) ∧ ((0 : Fin 4) : Nat) = 0 ∧ 35 = 34 + 1 := by decide +kernel
theorem c224_35 : mj_Y.code kY 224 35 = some (.getfield 55) ∧ mj_Y.fl kY 224 55 12 = some (16, (.array .int), false) ∧ 38 = 35 + 3 := by decide +kernel
theorem c224_38 : mj_Y.code kY 224 38 = some (.iload 6) ∧ 6 = 6 ∧ 40 = 38 + 2 := by decide +kernel
theorem c224_40 : mj_Y.code kY 224 40 = some (.iload 4) ∧ 4 = 4 ∧ 42 = 40 + 2 := by decide +kernel
theorem c224_42 : mj_Y.code kY 224 42 = some .iastore ∧ 43 = 42 + 1 := by decide +kernel
theorem c224_43 : mj_Y.code kY 224 43 = some (.aload_n 0) ∧ ((0 : Fin 4) : Nat) = 0 ∧ 44 = 43 + 1 := by decide +kernel
theorem c224_44 : mj_Y.code kY 224 44 = some (.getfield 58) ∧ mj_Y.fl kY 224 58 12 = some (17, (.array .int), false) ∧ 47 = 44 + 3 := by decide +kernel
theorem c224_47 : mj_Y.code kY 224 47 = some (.iload 6) ∧ 6 = 6 ∧ 49 = 47 + 2 := by decide +kernel
theorem c224_49 : mj_Y.code kY 224 49 = some (.iload 5) ∧ 5 = 5 ∧ 51 = 49 + 2 := by decide +kernel
theorem c224_51 : mj_Y.code kY 224 51 = some .iastore ∧ 52 = 51 + 1 := by decide +kernel
theorem c224_52 : mj_Y.code kY 224 52 = some (.aload_n 0) ∧ ((0 : Fin 4) : Nat) = 0 ∧ 53 = 52 + 1 := by decide +kernel
theorem c224_53 : mj_Y.code kY 224 53 = some (.getfield 61) ∧ mj_Y.fl kY 224 61 12 = some (18, (.array .int), false) ∧ 56 = 53 + 3 := by decide +kernel
theorem c224_56 : mj_Y.code kY 224 56 = some (.iload 6) ∧ 6 = 6 ∧ 58 = 56 + 2 := by decide +kernel
theorem c224_58 : mj_Y.code kY 224 58 = some (.iconst (-1)) ∧ Int32.ofInt (-1) = (-1) ∧ 59 = 58 + 1 := by decide +kernel
theorem c224_59 : mj_Y.code kY 224 59 = some .iastore ∧ 60 = 59 + 1 := by decide +kernel
theorem c224_60 : mj_Y.code kY 224 60 = some (.aload_n 0) ∧ ((0 : Fin 4) : Nat) = 0 ∧ 61 = 60 + 1 := by decide +kernel
theorem c224_61 : mj_Y.code kY 224 61 = some (.getfield 64) ∧ mj_Y.fl kY 224 64 12 = some (19, (.array .int), false) ∧ 64 = 61 + 3 := by decide +kernel
theorem c224_64 : mj_Y.code kY 224 64 = some (.iload 6) ∧ 6 = 6 ∧ 66 = 64 + 2 := by decide +kernel
theorem c224_66 : mj_Y.code kY 224 66 = some (.iconst (-1)) ∧ Int32.ofInt (-1) = (-1) ∧ 67 = 66 + 1 := by decide +kernel
theorem c224_67 : mj_Y.code kY 224 67 = some .iastore ∧ 68 = 67 + 1 := by decide +kernel
theorem c224_68 : mj_Y.code kY 224 68 = some (.aload_n 0) ∧ ((0 : Fin 4) : Nat) = 0 ∧ 69 = 68 + 1 := by decide +kernel
theorem c224_69 : mj_Y.code kY 224 69 = some (.getfield 79) ∧ mj_Y.fl kY 224 79 12 = some (32, (.array .int), false) ∧ 72 = 69 + 3 := by decide +kernel
theorem c224_72 : mj_Y.code kY 224 72 = some (.aload_n 0) ∧ ((0 : Fin 4) : Nat) = 0 ∧ 73 = 72 + 1 := by decide +kernel
theorem c224_73 : mj_Y.code kY 224 73 = some (.getfield 183) ∧ mj_Y.fl kY 224 183 12 = some (33, .int, true) ∧ 76 = 73 + 3 := by decide +kernel
theorem c224_76 : mj_Y.code kY 224 76 = some (.aload_n 0) ∧ ((0 : Fin 4) : Nat) = 0 ∧ 77 = 76 + 1 := by decide +kernel
theorem c224_77 : mj_Y.code kY 224 77 = some (.getfield 180) ∧ mj_Y.fl kY 224 180 12 = some (23, .int, true) ∧ 80 = 77 + 3 := by decide +kernel
theorem c224_80 : mj_Y.code kY 224 80 = some .iastore ∧ 81 = 80 + 1 := by decide +kernel
theorem c224_81 : mj_Y.code kY 224 81 = some (.aload_n 0) ∧ ((0 : Fin 4) : Nat) = 0 ∧ 82 = 81 + 1 := by decide +kernel
theorem c224_82 : mj_Y.code kY 224 82 = some .dup ∧ 83 = 82 + 1 := by decide +kernel
theorem c224_83 : mj_Y.code kY 224 83 = some (.getfield 183) ∧ mj_Y.fl kY 224 183 12 = some (33, .int, true) ∧ 86 = 83 + 3 := by decide +kernel
theorem c224_86 : mj_Y.code kY 224 86 = some (.iconst 1) ∧ Int32.ofInt 1 = 1 ∧ 87 = 86 + 1 := by decide +kernel
theorem c224_87 : mj_Y.code kY 224 87 = some .iadd ∧ 88 = 87 + 1 := by decide +kernel
theorem c224_88 : mj_Y.code kY 224 88 = some (.putfield 183) ∧ mj_Y.fl kY 224 183 12 = some (33, .int, true) ∧ 91 = 88 + 3 := by decide +kernel
theorem c224_91 : mj_Y.code kY 224 91 = some (.aload_n 0) ∧ ((0 : Fin 4) : Nat) = 0 ∧ 92 = 91 + 1 := by decide +kernel
theorem c224_92 : mj_Y.code kY 224 92 = some .dup ∧ 93 = 92 + 1 := by decide +kernel
theorem c224_93 : mj_Y.code kY 224 93 = some (.getfield 180) ∧ mj_Y.fl kY 224 180 12 = some (23, .int, true) ∧ 96 = 93 + 3 := by decide +kernel
theorem c224_96 : mj_Y.code kY 224 96 = some (.iconst 1) ∧ Int32.ofInt 1 = 1 ∧ 97 = 96 + 1 := by decide +kernel
theorem c224_97 : mj_Y.code kY 224 97 = some .iadd ∧ 98 = 97 + 1 := by decide +kernel
theorem c224_98 : mj_Y.code kY 224 98 = some (.putfield 180) ∧ mj_Y.fl kY 224 180 12 = some (23, .int, true) ∧ 101 = 98 + 3 := by decide +kernel
theorem c224_101 : mj_Y.code kY 224 101 = some .return_ ∧ mj_Y.rt kY 224 = none := by decide +kernel
theorem c225_0 : mj_Y.code kY 225 0 = some (.aload_n 0) ∧ ((0 : Fin 4) : Nat) = 0 ∧ 1 = 0 + 1 := by decide +kernel
theorem c225_1 : mj_Y.code kY 225 1 = some (.getfield 197) ∧ mj_Y.fl kY 225 197 12 = some (25, .int, true) ∧ 4 = 1 + 3 := by decide +kernel
theorem c225_4 : mj_Y.code kY 225 4 = some (.istore_n 1) ∧ ((1 : Fin 4) : Nat) = 1 ∧ 1 < mj_Y.nL kY 225 ∧ 5 = 4 + 1 := by decide +kernel
theorem c225_5 : mj_Y.code kY 225 5 = some (.iconst 1) ∧ Int32.ofInt 1 = 1 ∧ 6 = 5 + 1 := by decide +kernel
theorem c225_6 : mj_Y.code kY 225 6 = some (.istore_n 2) ∧ ((2 : Fin 4) : Nat) = 2 ∧ 2 < mj_Y.nL kY 225 ∧ 7 = 6 + 1 := by decide +kernel
theorem c225_7 : mj_Y.code kY 225 7 = some (.iload_n 2) ∧ ((2 : Fin 4) : Nat) = 2 ∧ 8 = 7 + 1 := by decide +kernel
theorem c225_8 : mj_Y.code kY 225 8 = some (.ifCond .eq 91) ∧ mj_tg 8 91 = some 99 ∧ 11 = 8 + 3 := by decide +kernel
theorem c225_11 : mj_Y.code kY 225 11 = some (.aload_n 0) ∧ ((0 : Fin 4) : Nat) = 0 ∧ 12 = 11 + 1 := by decide +kernel
theorem c225_12 : mj_Y.code kY 225 12 = some (.getfield 197) ∧ mj_Y.fl kY 225 197 12 = some (25, .int, true) ∧ 15 = 12 + 3 := by decide +kernel
theorem c225_15 : mj_Y.code kY 225 15 = some (.iload_n 1) ∧ ((1 : Fin 4) : Nat) = 1 ∧ 16 = 15 + 1 := by decide +kernel
theorem c225_16 : mj_Y.code kY 225 16 = some .isub ∧ 17 = 16 + 1 := by decide +kernel
theorem c225_17 : mj_Y.code kY 225 17 = some (.bipush 8) ∧ (Int8.ofInt 8).toInt32 = 8 ∧ 19 = 17 + 2 := by decide +kernel
theorem c225_19 : mj_Y.code kY 225 19 = some (.if_icmp .ne 12) ∧ mj_tg 19 12 = some 31 ∧ 22 = 19 + 3 := by decide +kernel
theorem c225_22 : mj_Y.code kY 225 22 = some (.aload_n 0) ∧ ((0 : Fin 4) : Nat) = 0 ∧ 23 = 22 + 1 := by decide +kernel
theorem c225_23 : mj_Y.code kY 225 23 = some (.aload_n 0) ∧ ((0 : Fin 4) : Nat) = 0 ∧ 24 = 23 + 1 := by decide +kernel
theorem c225_24 : mj_Y.code kY 225 24 = some (.getfield 162) ∧ mj_Y.fl kY 225 162 12 = some (22, .int, true) ∧ 27 = 24 + 3 := by decide +kernel
theorem c225_27 : mj_Y.code kY 225 27 = some (.invokevirtual 169) ∧ mj_Y.na kY 225 169 = some 1 ∧ mj_Y.cv kY 225 169 12 = some 213 ∧ mj_Y.nL kY 213 = 2 ∧ 30 = 27 + 3 := by decide +kernel
theorem c225_30 : mj_Y.code kY 225 30 = some .ireturn ∧ mj_Y.rt kY 225 = some .boolean := by decide +kernel
theorem c225_31 : mj_Y.code kY 225 31 = some (.aload_n 0) ∧ ((0 : Fin 4) : Nat) = 0 ∧ 32 = 31 + 1 := by decide +kernel
theorem c225_32 : mj_Y.code kY 225 32 = some .dup ∧ 33 = 32 + 1 := by decide +kernel
theorem c225_33 : mj_Y.code kY 225 33 = some (.getfield 162) ∧ mj_Y.fl kY 225 162 12 = some (22, .int, true) ∧ 36 = 33 + 3 := by decide +kernel
theorem c225_36 : mj_Y.code kY 225 36 = some (.iconst 1) ∧ Int32.ofInt 1 = 1 ∧ 37 = 36 + 1 := by decide +kernel
theorem c225_37 : mj_Y.code kY 225 37 = some .iadd ∧ 38 = 37 + 1 := by decide +kernel
theorem c225_38 : mj_Y.code kY 225 38 = some (.putfield 162) ∧ mj_Y.fl kY 225 162 12 = some (22, .int, true) ∧ 41 = 38 + 3 := by decide +kernel
theorem c225_41 : mj_Y.code kY 225 41 = some (.aload_n 0) ∧ ((0 : Fin 4) : Nat) = 0 ∧ 42 = 41 + 1 := by decide +kernel
theorem c225_42 : mj_Y.code kY 225 42 = some (.iconst 0) ∧ Int32.ofInt 0 = 0 ∧ 43 = 42 + 1 := by decide +kernel
theorem c225_43 : mj_Y.code kY 225 43 = some (.sipush 999) ∧ (Int16.ofInt 999).toInt32 = 999 ∧ 46 = 43 + 3 := by decide +kernel
theorem c225_46 : mj_Y.code kY 225 46 = some (.invokevirtual 193) ∧ mj_Y.na kY 225 193 = some 2 ∧ mj_Y.cv kY 225 193 12 = some 216 ∧ mj_Y.nL kY 216 = 5 ∧ 49 = 46 + 3 := by decide +kernel
theorem c225_49 : mj_Y.code kY 225 49 = some (.ifCond .ne 5) ∧ mj_tg 49 5 = some 54 ∧ 52 = 49 + 3 := by decide +kernel
theorem c225_52 : mj_Y.code kY 225 52 = some (.iconst 0) ∧ Int32.ofInt 0 = 0 ∧ 53 = 52 + 1 := by decide +kernel
theorem c225_53 : mj_Y.code kY 225 53 = some .ireturn ∧ mj_Y.rt kY 225 = some .boolean := by decide +kernel
theorem c225_54 : mj_Y.code kY 225 54 = some (.aload_n 0) ∧ ((0 : Fin 4) : Nat) = 0 ∧ 55 = 54 + 1 := by decide +kernel
theorem c225_55 : mj_Y.code kY 225 55 = some (.getfield 67) ∧ mj_Y.fl kY 225 67 12 = some (20, (.array .int), false) ∧ 58 = 55 + 3 := by decide +kernel
theorem c225_58 : mj_Y.code kY 225 58 = some (.sipush 480) ∧ (Int16.ofInt 480).toInt32 = 480 ∧ 61 = 58 + 3 := by decide +kernel
theorem c225_61 : mj_Y.code kY 225 61 = some (.aload_n 0) ∧ ((0 : Fin 4) : Nat) = 0 ∧ 62 = 61 + 1 := by decide +kernel
theorem c225_62 : mj_Y.code kY 225 62 = some (.getfield 197) ∧ mj_Y.fl kY 225 197 12 = some (25, .int, true) ∧ 65 = 62 + 3 := by decide +kernel
theorem c225_65 : mj_Y.code kY 225 65 = some .iadd ∧ 66 = 65 + 1 := by decide +kernel
theorem c225_66 : mj_Y.code kY 225 66 = some (.aload_n 0) ∧ ((0 : Fin 4) : Nat) = 0 ∧ 67 = 66 + 1 := by decide +kernel
theorem c225_67 : mj_Y.code kY 225 67 = some (.getfield 177) ∧ mj_Y.fl kY 225 177 12 = some (26, .int, true) ∧ 70 = 67 + 3 := by decide +kernel
theorem c225_70 : mj_Y.code kY 225 70 = some .iastore ∧ 71 = 70 + 1 := by decide +kernel
theorem c225_71 : mj_Y.code kY 225 71 = some (.aload_n 0) ∧ ((0 : Fin 4) : Nat) = 0 ∧ 72 = 71 + 1 := by decide +kernel
theorem c225_72 : mj_Y.code kY 225 72 = some .dup ∧ 73 = 72 + 1 := by decide +kernel
theorem c225_73 : mj_Y.code kY 225 73 = some (.getfield 197) ∧ mj_Y.fl kY 225 197 12 = some (25, .int, true) ∧ 76 = 73 + 3 := by decide +kernel
theorem c225_76 : mj_Y.code kY 225 76 = some (.iconst 1) ∧ Int32.ofInt 1 = 1 ∧ 77 = 76 + 1 := by decide +kernel
theorem c225_77 : mj_Y.code kY 225 77 = some .iadd ∧ 78 = 77 + 1 := by decide +kernel
theorem c225_78 : mj_Y.code kY 225 78 = some (.putfield 197) ∧ mj_Y.fl kY 225 197 12 = some (25, .int, true) ∧ 81 = 78 + 3 := by decide +kernel
theorem c225_81 : mj_Y.code kY 225 81 = some (.aload_n 0) ∧ ((0 : Fin 4) : Nat) = 0 ∧ 82 = 81 + 1 := by decide +kernel
theorem c225_82 : mj_Y.code kY 225 82 = some (.invokevirtual 165) ∧ mj_Y.na kY 225 165 = some 0 ∧ mj_Y.cv kY 225 165 12 = some 212 ∧ mj_Y.nL kY 212 = 1 ∧ 85 = 82 + 3 := by decide +kernel
theorem c225_85 : mj_Y.code kY 225 85 = some (.bipush 44) ∧ (Int8.ofInt 44).toInt32 = 44 ∧ 87 = 85 + 2 := by decide +kernel
theorem c225_87 : mj_Y.code kY 225 87 = some (.if_icmp .ne 7) ∧ mj_tg 87 7 = some 94 ∧ 90 = 87 + 3 := by decide +kernel
theorem c225_90 : mj_Y.code kY 225 90 = some (.iconst 1) ∧ Int32.ofInt 1 = 1 ∧ 91 = 90 + 1 := by decide +kernel
theorem c225_91 : mj_Y.code kY 225 91 = some (.goto 4) ∧ mj_tg 91 4 = some 95 := by decide +kernel
theorem c225_94 : mj_Y.code kY 225 94 = some (.iconst 0) ∧ Int32.ofInt 0 = 0 ∧ 95 = 94 + 1 := by decide +kernel
theorem c225_95 : mj_Y.code kY 225 95 = some (.istore_n 2) ∧ ((2 : Fin 4) : Nat) = 2 ∧ 2 < mj_Y.nL kY 225 ∧ 96 = 95 + 1 := by decide +kernel
theorem c225_96 : mj_Y.code kY 225 96 = some (.goto (-89)) ∧ mj_tg 96 (-89) = some 7 := by decide +kernel
theorem c225_99 : mj_Y.code kY 225 99 = some (.aload_n 0) ∧ ((0 : Fin 4) : Nat) = 0 ∧ 100 = 99 + 1 := by decide +kernel
theorem c225_100 : mj_Y.code kY 225 100 = some (.iconst 5) ∧ Int32.ofInt 5 = 5 ∧ 101 = 100 + 1 := by decide +kernel
theorem c225_101 : mj_Y.code kY 225 101 = some (.iload_n 1) ∧ ((1 : Fin 4) : Nat) = 1 ∧ 102 = 101 + 1 := by decide +kernel
theorem c225_102 : mj_Y.code kY 225 102 = some (.aload_n 0) ∧ ((0 : Fin 4) : Nat) = 0 ∧ 103 = 102 + 1 := by decide +kernel
theorem c225_103 : mj_Y.code kY 225 103 = some (.getfield 197) ∧ mj_Y.fl kY 225 197 12 = some (25, .int, true) ∧ 106 = 103 + 3 := by decide +kernel
theorem c225_106 : mj_Y.code kY 225 106 = some (.iload_n 1) ∧ ((1 : Fin 4) : Nat) = 1 ∧ 107 = 106 + 1 := by decide +kernel
theorem c225_107 : mj_Y.code kY 225 107 = some .isub ∧ 108 = 107 + 1 := by decide +kernel
theorem c225_108 : mj_Y.code kY 225 108 = some (.iconst 0) ∧ Int32.ofInt 0 = 0 ∧ 109 = 108 + 1 := by decide +kernel
theorem c225_109 : mj_Y.code kY 225 109 = some (.iconst 0) ∧ Int32.ofInt 0 = 0 ∧ 110 = 109 + 1 := by decide +kernel
theorem c225_110 : mj_Y.code kY 225 110 = some (.invokevirtual 186) ∧ mj_Y.na kY 225 186 = some 5 ∧ mj_Y.cv kY 225 186 12 = some 224 ∧ mj_Y.nL kY 224 = 7 ∧ 113 = 110 + 3 := by decide +kernel
theorem c225_113 : mj_Y.code kY 225 113 = some (.aload_n 0) ∧ ((0 : Fin 4) : Nat) = 0 ∧ 114 = 113 + 1 := by decide +kernel
theorem c225_114 : mj_Y.code kY 225 114 = some (.bipush 93) ∧ (Int8.ofInt 93).toInt32 = 93 ∧ 116 = 114 + 2 := by decide +kernel
theorem c225_116 : mj_Y.code kY 225 116 = some (.invokevirtual 190) ∧ mj_Y.na kY 225 190 = some 1 ∧ mj_Y.cv kY 225 190 12 = some 219 ∧ mj_Y.nL kY 219 = 2 ∧ 119 = 116 + 3 := by decide +kernel
theorem c225_119 : mj_Y.code kY 225 119 = some .ireturn ∧ mj_Y.rt kY 225 = some .boolean := by decide +kernel
theorem c226_0 : mj_Y.code kY 226 0 = some (.aload_n 0) ∧ ((0 : Fin 4) : Nat) = 0 ∧ 1 = 0 + 1 := by decide +kernel
theorem c226_1 : mj_Y.code kY 226 1 = some (.bipush 100) ∧ (Int8.ofInt 100).toInt32 = 100 ∧ 3 = 1 + 2 := by decide +kernel
theorem c226_3 : mj_Y.code kY 226 3 = some (.invokevirtual 190) ∧ mj_Y.na kY 226 190 = some 1 ∧ mj_Y.cv kY 226 190 12 = some 219 ∧ mj_Y.nL kY 219 = 2 ∧ 6 = 3 + 3 := by decide +kernel
theorem c226_6 : mj_Y.code kY 226 6 = some (.ifCond .eq 13) ∧ mj_tg 6 13 = some 19 ∧ 9 = 6 + 3 := by decide +kernel
theorem c226_9 : mj_Y.code kY 226 9 = some (.aload_n 0) ∧ ((0 : Fin 4) : Nat) = 0 ∧ 10 = 9 + 1 := by decide +kernel
theorem c226_10 : mj_Y.code kY 226 10 = some (.iconst 2) ∧ Int32.ofInt 2 = 2 ∧ 11 = 10 + 1 := by decide +kernel
theorem c226_11 : mj_Y.code kY 226 11 = some (.bipush 20) ∧ (Int8.ofInt 20).toInt32 = 20 ∧ 13 = 11 + 2 := by decide +kernel
theorem c226_13 : mj_Y.code kY 226 13 = some (.invokevirtual 193) ∧ mj_Y.na kY 226 193 = some 2 ∧ mj_Y.cv kY 226 193 12 = some 216 ∧ mj_Y.nL kY 216 = 5 ∧ 16 = 13 + 3 := by decide +kernel
theorem c226_16 : mj_Y.code kY 226 16 = some (.ifCond .ne 5) ∧ mj_tg 16 5 = some 21 ∧ 19 = 16 + 3 := by decide +kernel
theorem c226_19 : mj_Y.code kY 226 19 = some (.iconst 0) ∧ Int32.ofInt 0 = 0 ∧ 20 = 19 + 1 := by decide +kernel
theorem c226_20 : mj_Y.code kY 226 20 = some .ireturn ∧ mj_Y.rt kY 226 = some .boolean := by decide +kernel
theorem c226_21 : mj_Y.code kY 226 21 = some (.aload_n 0) ∧ ((0 : Fin 4) : Nat) = 0 ∧ 22 = 21 + 1 := by decide +kernel
theorem c226_22 : mj_Y.code kY 226 22 = some (.getfield 177) ∧ mj_Y.fl kY 226 177 12 = some (26, .int, true) ∧ 25 = 22 + 3 := by decide +kernel
theorem c226_25 : mj_Y.code kY 226 25 = some (.istore_n 2) ∧ ((2 : Fin 4) : Nat) = 2 ∧ 2 < mj_Y.nL kY 226 ∧ 26 = 25 + 1 := by decide +kernel
theorem c226_26 : mj_Y.code kY 226 26 = some (.aload_n 0) ∧ ((0 : Fin 4) : Nat) = 0 ∧ 27 = 26 + 1 := by decide +kernel
theorem c226_27 : mj_Y.code kY 226 27 = some (.invokevirtual 165) ∧ mj_Y.na kY 226 165 = some 0 ∧ mj_Y.cv kY 226 165 12 = some 212 ∧ mj_Y.nL kY 212 = 1 ∧ 30 = 27 + 3 := by decide +kernel
theorem c226_30 : mj_Y.code kY 226 30 = some (.istore_n 3) ∧ ((3 : Fin 4) : Nat) = 3 ∧ 3 < mj_Y.nL kY 226 ∧ 31 = 30 + 1 := by decide +kernel
theorem c226_31 : mj_Y.code kY 226 31 = some (.iconst 0) ∧ Int32.ofInt 0 = 0 ∧ 32 = 31 + 1 := by decide +kernel
theorem c226_32 : mj_Y.code kY 226 32 = some (.istore 4) ∧ 4 = 4 ∧ 4 < mj_Y.nL kY 226 ∧ 34 = 32 + 2 := by decide +kernel
theorem c226_34 : mj_Y.code kY 226 34 = some (.iload_n 3) ∧ ((3 : Fin 4) : Nat) = 3 ∧ 35 = 34 + 1 := by decide +kernel
theorem c226_35 : mj_Y.code kY 226 35 = some (.bipush 104) ∧ (Int8.ofInt 104).toInt32 = 104 ∧ 37 = 35 + 2 := by decide +kernel
theorem c226_37 : mj_Y.code kY 226 37 = some (.if_icmp .eq 15) ∧ mj_tg 37 15 = some 52 ∧ 40 = 37 + 3 := by decide +kernel
theorem c226_40 : mj_Y.code kY 226 40 = some (.iload_n 3) ∧ ((3 : Fin 4) : Nat) = 3 ∧ 41 = 40 + 1 := by decide +kernel
theorem c226_41 : mj_Y.code kY 226 41 = some (.bipush 108) ∧ (Int8.ofInt 108).toInt32 = 108 ∧ 43 = 41 + 2 := by decide +kernel
theorem c226_43 : mj_Y.code kY 226 43 = some (.if_icmp .eq 9) ∧ mj_tg 43 9 = some 52 ∧ 46 = 43 + 3 := by decide +kernel
theorem c226_46 : mj_Y.code kY 226 46 = some (.iload_n 3) ∧ ((3 : Fin 4) : Nat) = 3 ∧ 47 = 46 + 1 := by decide +kernel
theorem c226_47 : mj_Y.code kY 226 47 = some (.bipush 101) ∧ (Int8.ofInt 101).toInt32 = 101 ∧ 49 = 47 + 2 := by decide +kernel
theorem c226_49 : mj_Y.code kY 226 49 = some (.if_icmp .ne 63) ∧ mj_tg 49 63 = some 112 ∧ 52 = 49 + 3 := by decide +kernel
theorem c226_52 : mj_Y.code kY 226 52 = some (.iload_n 3) ∧ ((3 : Fin 4) : Nat) = 3 ∧ 53 = 52 + 1 := by decide +kernel
theorem c226_53 : mj_Y.code kY 226 53 = some (.bipush 101) ∧ (Int8.ofInt 101).toInt32 = 101 ∧ 55 = 53 + 2 := by decide +kernel
theorem c226_55 : mj_Y.code kY 226 55 = some (.if_icmp .ne 17) ∧ mj_tg 55 17 = some 72 ∧ 58 = 55 + 3 := by decide +kernel
theorem c226_58 : mj_Y.code kY 226 58 = some (.iload_n 1) ∧ ((1 : Fin 4) : Nat) = 1 ∧ 59 = 58 + 1 := by decide +kernel
theorem c226_59 : mj_Y.code kY 226 59 = some (.iconst 1) ∧ Int32.ofInt 1 = 1 ∧ 60 = 59 + 1 := by decide +kernel
theorem c226_60 : mj_Y.code kY 226 60 = some (.if_icmp .le 12) ∧ mj_tg 60 12 = some 72 ∧ 63 = 60 + 3 := by decide +kernel
theorem c226_63 : mj_Y.code kY 226 63 = some (.aload_n 0) ∧ ((0 : Fin 4) : Nat) = 0 ∧ 64 = 63 + 1 := by decide +kernel
theorem c226_64 : mj_Y.code kY 226 64 = some (.aload_n 0) ∧ ((0 : Fin 4) : Nat) = 0 ∧ 65 = 64 + 1 := by decide +kernel
theorem c226_65 : mj_Y.code kY 226 65 = some (.getfield 162) ∧ mj_Y.fl kY 226 162 12 = some (22, .int, true) ∧ 68 = 65 + 3 := by decide +kernel
theorem c226_68 : mj_Y.code kY 226 68 = some (.invokevirtual 169) ∧ mj_Y.na kY 226 169 = some 1 ∧ mj_Y.cv kY 226 169 12 = some 213 ∧ mj_Y.nL kY 213 = 2 ∧ 71 = 68 + 3 := by decide +kernel
theorem c226_71 : mj_Y.code kY 226 71 = some .ireturn ∧ mj_Y.rt kY 226 = some .boolean := by decide +kernel
theorem c226_72 : mj_Y.code kY 226 72 = some (.aload_n 0) ∧ ((0 : Fin 4) : Nat) = 0 ∧ 73 = 72 + 1 := by decide +kernel
theorem c226_73 : mj_Y.code kY 226 73 = some .dup ∧ 74 = 73 + 1 := by decide +kernel
theorem c226_74 : mj_Y.code kY 226 74 = some (.getfield 162) ∧ mj_Y.fl kY 226 162 12 = some (22, .int, true) ∧ 77 = 74 + 3 := by decide +kernel
theorem c226_77 : mj_Y.code kY 226 77 = some (.iconst 1) ∧ Int32.ofInt 1 = 1 ∧ 78 = 77 + 1 := by decide +kernel
theorem c226_78 : mj_Y.code kY 226 78 = some .iadd ∧ 79 = 78 + 1 := by decide +kernel
theorem c226_79 : mj_Y.code kY 226 79 = some (.putfield 162) ∧ mj_Y.fl kY 226 162 12 = some (22, .int, true) ∧ 82 = 79 + 3 := by decide +kernel
theorem c226_82 : mj_Y.code kY 226 82 = some (.aload_n 0) ∧ ((0 : Fin 4) : Nat) = 0 ∧ 83 = 82 + 1 := by decide +kernel
theorem c226_83 : mj_Y.code kY 226 83 = some (.iconst 1) ∧ Int32.ofInt 1 = 1 ∧ 84 = 83 + 1 := by decide +kernel
theorem c226_84 : mj_Y.code kY 226 84 = some (.iload_n 3) ∧ ((3 : Fin 4) : Nat) = 3 ∧ 85 = 84 + 1 := by decide +kernel
theorem c226_85 : mj_Y.code kY 226 85 = some (.bipush 101) ∧ (Int8.ofInt 101).toInt32 = 101 ∧ 87 = 85 + 2 := by decide +kernel
theorem c226_87 : mj_Y.code kY 226 87 = some (.if_icmp .ne 7) ∧ mj_tg 87 7 = some 94 ∧ 90 = 87 + 3 := by decide +kernel
theorem c226_90 : mj_Y.code kY 226 90 = some (.iconst 3) ∧ Int32.ofInt 3 = 3 ∧ 91 = 90 + 1 := by decide +kernel
theorem c226_91 : mj_Y.code kY 226 91 = some (.goto 4) ∧ mj_tg 91 4 = some 95 := by decide +kernel
theorem c226_94 : mj_Y.code kY 226 94 = some (.iload_n 1) ∧ ((1 : Fin 4) : Nat) = 1 ∧ 95 = 94 + 1 := by decide +kernel
theorem c226_95 : mj_Y.code kY 226 95 = some (.invokevirtual 193) ∧ mj_Y.na kY 226 193 = some 2 ∧ mj_Y.cv kY 226 193 12 = some 216 ∧ mj_Y.nL kY 216 = 5 ∧ 98 = 95 + 3 := by decide +kernel
theorem c226_98 : mj_Y.code kY 226 98 = some (.ifCond .ne 5) ∧ mj_tg 98 5 = some 103 ∧ 101 = 98 + 3 := by decide +kernel
theorem c226_101 : mj_Y.code kY 226 101 = some (.iconst 0) ∧ Int32.ofInt 0 = 0 ∧ 102 = 101 + 1 := by decide +kernel
theorem c226_102 : mj_Y.code kY 226 102 = some .ireturn ∧ mj_Y.rt kY 226 = some .boolean := by decide +kernel
theorem c226_103 : mj_Y.code kY 226 103 = some (.aload_n 0) ∧ ((0 : Fin 4) : Nat) = 0 ∧ 104 = 103 + 1 := by decide +kernel
theorem c226_104 : mj_Y.code kY 226 104 = some (.getfield 177) ∧ mj_Y.fl kY 226 177 12 = some (26, .int, true) ∧ 107 = 104 + 3 := by decide +kernel
theorem c226_107 : mj_Y.code kY 226 107 = some (.istore 4) ∧ 4 = 4 ∧ 4 < mj_Y.nL kY 226 ∧ 109 = 107 + 2 := by decide +kernel
theorem c226_109 : mj_Y.code kY 226 109 = some (.goto 6) ∧ mj_tg 109 6 = some 115 := by decide +kernel
theorem c226_112 : mj_Y.code kY 226 112 = some (.bipush 32) ∧ (Int8.ofInt 32).toInt32 = 32 ∧ 114 = 112 + 2 := by decide +kernel
theorem c226_114 : mj_Y.code kY 226 114 = some (.istore_n 3) ∧ ((3 : Fin 4) : Nat) = 3 ∧ 3 < mj_Y.nL kY 226 ∧ 115 = 114 + 1 := by decide +kernel
theorem c226_115 : mj_Y.code kY 226 115 = some (.aload_n 0) ∧ ((0 : Fin 4) : Nat) = 0 ∧ 116 = 115 + 1 := by decide +kernel
theorem c226_116 : mj_Y.code kY 226 116 = some (.iconst 4) ∧ Int32.ofInt 4 = 4 ∧ 117 = 116 + 1 := by decide +kernel
theorem c226_117 : mj_Y.code kY 226 117 = some (.iload_n 1) ∧ ((1 : Fin 4) : Nat) = 1 ∧ 118 = 117 + 1 := by decide +kernel
theorem c226_118 : mj_Y.code kY 226 118 = some (.iload_n 2) ∧ ((2 : Fin 4) : Nat) = 2 ∧ 119 = 118 + 1 := by decide +kernel
theorem c226_119 : mj_Y.code kY 226 119 = some (.iload_n 3) ∧ ((3 : Fin 4) : Nat) = 3 ∧ 120 = 119 + 1 := by decide +kernel
theorem c226_120 : mj_Y.code kY 226 120 = some (.iload 4) ∧ 4 = 4 ∧ 122 = 120 + 2 := by decide +kernel
theorem c226_122 : mj_Y.code kY 226 122 = some (.invokevirtual 186) ∧ mj_Y.na kY 226 186 = some 5 ∧ mj_Y.cv kY 226 186 12 = some 224 ∧ mj_Y.nL kY 224 = 7 ∧ 125 = 122 + 3 := by decide +kernel
theorem c226_125 : mj_Y.code kY 226 125 = some (.iconst 1) ∧ Int32.ofInt 1 = 1 ∧ 126 = 125 + 1 := by decide +kernel
theorem c226_126 : mj_Y.code kY 226 126 = some .ireturn ∧ mj_Y.rt kY 226 = some .boolean := by decide +kernel
