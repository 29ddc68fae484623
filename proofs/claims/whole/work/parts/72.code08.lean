theorem c290_0 : mj_Y.code kY 290 0 = some (.iload_n 1) ∧ ((1 : Fin 4) : Nat) = 1 ∧ 1 = 0 + 1 := by decide +kernel
theorem c290_1 : mj_Y.code kY 290 1 = some (.invokestatic 312) ∧ mj_Y.pr kY 290 312 = none ∧ mj_Y.cs kY 290 312 = some (210, 1) ∧ mj_Y.nL kY 210 = 1 ∧ 4 = 1 + 3 := by decide +kernel
theorem c290_4 : mj_Y.code kY 290 4 = some (.ifCond .ne 7) ∧ mj_tg 4 7 = some 11 ∧ 7 = 4 + 3 := by decide +kernel
theorem c290_7 : mj_Y.code kY 290 7 = some (.iconst 1) ∧ Int32.ofInt 1 = 1 ∧ 8 = 7 + 1 := by decide +kernel
theorem c290_8 : mj_Y.code kY 290 8 = some (.goto 17) ∧ mj_tg 8 17 = some 25 := by decide +kernel
theorem c290_11 : mj_Y.code kY 290 11 = some (.aload_n 0) ∧ ((0 : Fin 4) : Nat) = 0 ∧ 12 = 11 + 1 := by decide +kernel
theorem c290_12 : mj_Y.code kY 290 12 = some (.getfield 127) ∧ mj_Y.fl kY 290 127 12 = some (57, (.array .boolean), false) ∧ 15 = 12 + 3 := by decide +kernel
theorem c290_15 : mj_Y.code kY 290 15 = some (.iload_n 1) ∧ ((1 : Fin 4) : Nat) = 1 ∧ 16 = 15 + 1 := by decide +kernel
theorem c290_16 : mj_Y.code kY 290 16 = some .baload ∧ 17 = 16 + 1 := by decide +kernel
theorem c290_17 : mj_Y.code kY 290 17 = some (.ifCond .ne 7) ∧ mj_tg 17 7 = some 24 ∧ 20 = 17 + 3 := by decide +kernel
theorem c290_20 : mj_Y.code kY 290 20 = some (.iconst 2) ∧ Int32.ofInt 2 = 2 ∧ 21 = 20 + 1 := by decide +kernel
theorem c290_21 : mj_Y.code kY 290 21 = some (.goto 4) ∧ mj_tg 21 4 = some 25 := by decide +kernel
theorem c290_24 : mj_Y.code kY 290 24 = some (.iconst 0) ∧ Int32.ofInt 0 = 0 ∧ 25 = 24 + 1 := by decide +kernel
theorem c290_25 : mj_Y.code kY 290 25 = some .ireturn ∧ mj_Y.rt kY 290 = some .int := by decide +kernel
theorem c291_0 : mj_Y.code kY 291 0 = some (.aload_n 0) ∧ ((0 : Fin 4) : Nat) = 0 ∧ 1 = 0 + 1 := by decide +kernel
theorem c291_1 : mj_Y.code kY 291 1 = some (.aload_n 0) ∧ ((0 : Fin 4) : Nat) = 0 ∧ 2 = 1 + 1 := by decide +kernel
theorem c291_2 : mj_Y.code kY 291 2 = some (.iload_n 1) ∧ ((1 : Fin 4) : Nat) = 1 ∧ 3 = 2 + 1 := by decide +kernel
theorem c291_3 : mj_Y.code kY 291 3 = some (.iload_n 2) ∧ ((2 : Fin 4) : Nat) = 2 ∧ 4 = 3 + 1 := by decide +kernel
theorem c291_4 : mj_Y.code kY 291 4 = some (.invokevirtual 465) ∧ mj_Y.na kY 291 465 = some 2 ∧ mj_Y.cv kY 291 465 12 = some 292 ∧ mj_Y.nL kY 292 = 4 ∧ 7 = 4 + 3 := by decide +kernel
theorem c291_7 : mj_Y.code kY 291 7 = some (.putfield 142) ∧ mj_Y.fl kY 291 142 12 = some (0, .int, true) ∧ 10 = 7 + 3 := by decide +kernel
theorem c291_10 : mj_Y.code kY 291 10 = some (.aload_n 0) ∧ ((0 : Fin 4) : Nat) = 0 ∧ 11 = 10 + 1 := by decide +kernel
theorem c291_11 : mj_Y.code kY 291 11 = some (.getfield 142) ∧ mj_Y.fl kY 291 142 12 = some (0, .int, true) ∧ 14 = 11 + 3 := by decide +kernel
theorem c291_14 : mj_Y.code kY 291 14 = some (.ifCond .le 7) ∧ mj_tg 14 7 = some 21 ∧ 17 = 14 + 3 := by decide +kernel
theorem c291_17 : mj_Y.code kY 291 17 = some (.iconst 0) ∧ Int32.ofInt 0 = 0 ∧ 18 = 17 + 1 := by decide +kernel
theorem c291_18 : mj_Y.code kY 291 18 = some (.goto 14) ∧ mj_tg 18 14 = some 32 := by decide +kernel
theorem c291_21 : mj_Y.code kY 291 21 = some (.aload_n 0) ∧ ((0 : Fin 4) : Nat) = 0 ∧ 22 = 21 + 1 := by decide +kernel
theorem c291_22 : mj_Y.code kY 291 22 = some (.getfield 133) ∧ mj_Y.fl kY 291 133 12 = some (59, (.array .int), false) ∧ 25 = 22 + 3 := by decide +kernel
theorem c291_25 : mj_Y.code kY 291 25 = some (.bipush 64) ∧ (Int8.ofInt 64).toInt32 = 64 ∧ 27 = 25 + 2 := by decide +kernel
theorem c291_27 : mj_Y.code kY 291 27 = some (.iload_n 1) ∧ ((1 : Fin 4) : Nat) = 1 ∧ 28 = 27 + 1 := by decide +kernel
theorem c291_28 : mj_Y.code kY 291 28 = some .imul ∧ 29 = 28 + 1 := by decide +kernel
theorem c291_29 : mj_Y.code kY 291 29 = some (.iload_n 2) ∧ ((2 : Fin 4) : Nat) = 2 ∧ 30 = 29 + 1 := by decide +kernel
theorem c291_30 : mj_Y.code kY 291 30 = some .iadd ∧ 31 = 30 + 1 := by decide +kernel
theorem c291_31 : mj_Y.code kY 291 31 = some .iaload ∧ 32 = 31 + 1 := by decide +kernel
theorem c291_32 : mj_Y.code kY 291 32 = some .ireturn ∧ mj_Y.rt kY 291 = some .int := by decide +kernel
theorem c292_0 : mj_Y.code kY 292 0 = some (.aload_n 0) ∧ ((0 : Fin 4) : Nat) = 0 ∧ 1 = 0 + 1 := by decide +kernel
theorem c292_1 : mj_Y.code kY 292 1 = some (.iload_n 1) ∧ ((1 : Fin 4) : Nat) = 1 ∧ 2 = 1 + 1 := by decide +kernel
theorem c292_2 : mj_Y.code kY 292 2 = some (.invokevirtual 462) ∧ mj_Y.na kY 292 462 = some 1 ∧ mj_Y.cv kY 292 462 12 = some 290 ∧ mj_Y.nL kY 290 = 2 ∧ 5 = 2 + 3 := by decide +kernel
theorem c292_5 : mj_Y.code kY 292 5 = some (.istore_n 3) ∧ ((3 : Fin 4) : Nat) = 3 ∧ 3 < mj_Y.nL kY 292 ∧ 6 = 5 + 1 := by decide +kernel
theorem c292_6 : mj_Y.code kY 292 6 = some (.iload_n 3) ∧ ((3 : Fin 4) : Nat) = 3 ∧ 7 = 6 + 1 := by decide +kernel
theorem c292_7 : mj_Y.code kY 292 7 = some (.ifCond .le 7) ∧ mj_tg 7 7 = some 14 ∧ 10 = 7 + 3 := by decide +kernel
theorem c292_10 : mj_Y.code kY 292 10 = some (.iload_n 3) ∧ ((3 : Fin 4) : Nat) = 3 ∧ 11 = 10 + 1 := by decide +kernel
theorem c292_11 : mj_Y.code kY 292 11 = some (.goto 24) ∧ mj_tg 11 24 = some 35 := by decide +kernel
theorem c292_14 : mj_Y.code kY 292 14 = some (.iload_n 2) ∧ ((2 : Fin 4) : Nat) = 2 ∧ 15 = 14 + 1 := by decide +kernel
theorem c292_15 : mj_Y.code kY 292 15 = some (.iconst 0) ∧ Int32.ofInt 0 = 0 ∧ 16 = 15 + 1 := by decide +kernel
theorem c292_16 : mj_Y.code kY 292 16 = some (.aload_n 0) ∧ ((0 : Fin 4) : Nat) = 0 ∧ 17 = 16 + 1 := by decide +kernel
theorem c292_17 : mj_Y.code kY 292 17 = some (.getfield 130) ∧ mj_Y.fl kY 292 130 12 = some (58, (.array .int), false) ∧ 20 = 17 + 3 := by decide +kernel
theorem c292_20 : mj_Y.code kY 292 20 = some (.iload_n 1) ∧ ((1 : Fin 4) : Nat) = 1 ∧ 21 = 20 + 1 := by decide +kernel
theorem c292_21 : mj_Y.code kY 292 21 = some .iaload ∧ 22 = 21 + 1 := by decide +kernel
theorem c292_22 : mj_Y.code kY 292 22 = some (.iconst 1) ∧ Int32.ofInt 1 = 1 ∧ 23 = 22 + 1 := by decide +kernel
theorem c292_23 : mj_Y.code kY 292 23 = some .isub ∧ 24 = 23 + 1 := by decide +kernel
theorem c292_24 : mj_Y.code kY 292 24 = some (.invokestatic 145) ∧ mj_Y.pr kY 292 145 = none ∧ mj_Y.cs kY 292 145 = some (205, 3) ∧ mj_Y.nL kY 205 = 3 ∧ 27 = 24 + 3 := by decide +kernel
theorem c292_27 : mj_Y.code kY 292 27 = some (.ifCond .ne 7) ∧ mj_tg 27 7 = some 34 ∧ 30 = 27 + 3 := by decide +kernel
theorem c292_30 : mj_Y.code kY 292 30 = some (.iconst 3) ∧ Int32.ofInt 3 = 3 ∧ 31 = 30 + 1 := by decide +kernel
theorem c292_31 : mj_Y.code kY 292 31 = some (.goto 4) ∧ mj_tg 31 4 = some 35 := by decide +kernel
theorem c292_34 : mj_Y.code kY 292 34 = some (.iconst 0) ∧ Int32.ofInt 0 = 0 ∧ 35 = 34 + 1 := by decide +kernel
theorem c292_35 : mj_Y.code kY 292 35 = some .ireturn ∧ mj_Y.rt kY 292 = some .int := by decide +kernel
theorem c293_0 : mj_Y.code kY 293 0 = some (.aload_n 0) ∧ ((0 : Fin 4) : Nat) = 0 ∧ 1 = 0 + 1 := by decide +kernel
theorem c293_1 : mj_Y.code kY 293 1 = some (.aload_n 0) ∧ ((0 : Fin 4) : Nat) = 0 ∧ 2 = 1 + 1 := by decide +kernel
theorem c293_2 : mj_Y.code kY 293 2 = some (.iload_n 1) ∧ ((1 : Fin 4) : Nat) = 1 ∧ 3 = 2 + 1 := by decide +kernel
theorem c293_3 : mj_Y.code kY 293 3 = some (.iload_n 2) ∧ ((2 : Fin 4) : Nat) = 2 ∧ 4 = 3 + 1 := by decide +kernel
theorem c293_4 : mj_Y.code kY 293 4 = some (.invokevirtual 465) ∧ mj_Y.na kY 293 465 = some 2 ∧ mj_Y.cv kY 293 465 12 = some 292 ∧ mj_Y.nL kY 292 = 4 ∧ 7 = 4 + 3 := by decide +kernel
theorem c293_7 : mj_Y.code kY 293 7 = some (.putfield 142) ∧ mj_Y.fl kY 293 142 12 = some (0, .int, true) ∧ 10 = 7 + 3 := by decide +kernel
theorem c293_10 : mj_Y.code kY 293 10 = some (.aload_n 0) ∧ ((0 : Fin 4) : Nat) = 0 ∧ 11 = 10 + 1 := by decide +kernel
theorem c293_11 : mj_Y.code kY 293 11 = some (.getfield 142) ∧ mj_Y.fl kY 293 142 12 = some (0, .int, true) ∧ 14 = 11 + 3 := by decide +kernel
theorem c293_14 : mj_Y.code kY 293 14 = some (.ifCond .le 7) ∧ mj_tg 14 7 = some 21 ∧ 17 = 14 + 3 := by decide +kernel
theorem c293_17 : mj_Y.code kY 293 17 = some (.lconst 0) ∧ Int64.ofNat ((0 : Fin 2) : Nat) = 0 ∧ 18 = 17 + 1 := by decide +kernel
theorem c293_18 : mj_Y.code kY 293 18 = some (.goto 14) ∧ mj_tg 18 14 = some 32 := by decide +kernel
theorem c293_21 : mj_Y.code kY 293 21 = some (.aload_n 0) ∧ ((0 : Fin 4) : Nat) = 0 ∧ 22 = 21 + 1 := by decide +kernel
theorem c293_22 : mj_Y.code kY 293 22 = some (.getfield 136) ∧ mj_Y.fl kY 293 136 12 = some (60, (.array .long), false) ∧ 25 = 22 + 3 := by decide +kernel
theorem c293_25 : mj_Y.code kY 293 25 = some (.bipush 64) ∧ (Int8.ofInt 64).toInt32 = 64 ∧ 27 = 25 + 2 := by decide +kernel
theorem c293_27 : mj_Y.code kY 293 27 = some (.iload_n 1) ∧ ((1 : Fin 4) : Nat) = 1 ∧ 28 = 27 + 1 := by decide +kernel
theorem c293_28 : mj_Y.code kY 293 28 = some .imul ∧ 29 = 28 + 1 := by decide +kernel
theorem c293_29 : mj_Y.code kY 293 29 = some (.iload_n 2) ∧ ((2 : Fin 4) : Nat) = 2 ∧ 30 = 29 + 1 := by decide +kernel
theorem c293_30 : mj_Y.code kY 293 30 = some .iadd ∧ 31 = 30 + 1 := by decide +kernel
theorem c293_31 : mj_Y.code kY 293 31 = some .laload ∧ 32 = 31 + 1 := by decide +kernel
theorem c293_32 : mj_Y.code kY 293 32 = some .lreturn ∧ mj_Y.rt kY 293 = some .long := by decide +kernel
theorem c294_0 : mj_Y.code kY 294 0 = some (.aload_n 0) ∧ ((0 : Fin 4) : Nat) = 0 ∧ 1 = 0 + 1 := by decide +kernel
theorem c294_1 : mj_Y.code kY 294 1 = some (.aload_n 0) ∧ ((0 : Fin 4) : Nat) = 0 ∧ 2 = 1 + 1 := by decide +kernel
theorem c294_2 : mj_Y.code kY 294 2 = some (.iload_n 1) ∧ ((1 : Fin 4) : Nat) = 1 ∧ 3 = 2 + 1 := by decide +kernel
theorem c294_3 : mj_Y.code kY 294 3 = some (.invokevirtual 462) ∧ mj_Y.na kY 294 462 = some 1 ∧ mj_Y.cv kY 294 462 12 = some 290 ∧ mj_Y.nL kY 290 = 2 ∧ 6 = 3 + 3 := by decide +kernel
theorem c294_6 : mj_Y.code kY 294 6 = some (.putfield 142) ∧ mj_Y.fl kY 294 142 12 = some (0, .int, true) ∧ 9 = 6 + 3 := by decide +kernel
theorem c294_9 : mj_Y.code kY 294 9 = some (.aload_n 0) ∧ ((0 : Fin 4) : Nat) = 0 ∧ 10 = 9 + 1 := by decide +kernel
theorem c294_10 : mj_Y.code kY 294 10 = some (.getfield 142) ∧ mj_Y.fl kY 294 142 12 = some (0, .int, true) ∧ 13 = 10 + 3 := by decide +kernel
theorem c294_13 : mj_Y.code kY 294 13 = some (.ifCond .le 7) ∧ mj_tg 13 7 = some 20 ∧ 16 = 13 + 3 := by decide +kernel
theorem c294_16 : mj_Y.code kY 294 16 = some (.lconst 0) ∧ Int64.ofNat ((0 : Fin 2) : Nat) = 0 ∧ 17 = 16 + 1 := by decide +kernel
theorem c294_17 : mj_Y.code kY 294 17 = some (.goto 9) ∧ mj_tg 17 9 = some 26 := by decide +kernel
theorem c294_20 : mj_Y.code kY 294 20 = some (.aload_n 0) ∧ ((0 : Fin 4) : Nat) = 0 ∧ 21 = 20 + 1 := by decide +kernel
theorem c294_21 : mj_Y.code kY 294 21 = some (.getfield 139) ∧ mj_Y.fl kY 294 139 12 = some (61, (.array .long), false) ∧ 24 = 21 + 3 := by decide +kernel
theorem c294_24 : mj_Y.code kY 294 24 = some (.iload_n 1) ∧ ((1 : Fin 4) : Nat) = 1 ∧ 25 = 24 + 1 := by decide +kernel
theorem c294_25 : mj_Y.code kY 294 25 = some .laload ∧ 26 = 25 + 1 := by decide +kernel
theorem c294_26 : mj_Y.code kY 294 26 = some .lreturn ∧ mj_Y.rt kY 294 = some .long := by decide +kernel
theorem c295_0 : mj_Y.code kY 295 0 = some (.aload_n 0) ∧ ((0 : Fin 4) : Nat) = 0 ∧ 1 = 0 + 1 := by decide +kernel
theorem c295_1 : mj_Y.code kY 295 1 = some (.iload_n 1) ∧ ((1 : Fin 4) : Nat) = 1 ∧ 2 = 1 + 1 := by decide +kernel
theorem c295_2 : mj_Y.code kY 295 2 = some (.invokestatic 312) ∧ mj_Y.pr kY 295 312 = none ∧ mj_Y.cs kY 295 312 = some (210, 1) ∧ mj_Y.nL kY 210 = 1 ∧ 5 = 2 + 3 := by decide +kernel
theorem c295_5 : mj_Y.code kY 295 5 = some (.ifCond .eq 12) ∧ mj_tg 5 12 = some 17 ∧ 8 = 5 + 3 := by decide +kernel
theorem c295_8 : mj_Y.code kY 295 8 = some (.iload_n 2) ∧ ((2 : Fin 4) : Nat) = 2 ∧ 9 = 8 + 1 := by decide +kernel
theorem c295_9 : mj_Y.code kY 295 9 = some (.iconst 1) ∧ Int32.ofInt 1 = 1 ∧ 10 = 9 + 1 := by decide +kernel
theorem c295_10 : mj_Y.code kY 295 10 = some (.iconst 2) ∧ Int32.ofInt 2 = 2 ∧ 11 = 10 + 1 := by decide +kernel
theorem c295_11 : mj_Y.code kY 295 11 = some (.invokestatic 145) ∧ mj_Y.pr kY 295 145 = none ∧ mj_Y.cs kY 295 145 = some (205, 3) ∧ mj_Y.nL kY 205 = 3 ∧ 14 = 11 + 3 := by decide +kernel
theorem c295_14 : mj_Y.code kY 295 14 = some (.ifCond .ne 7) ∧ mj_tg 14 7 = some 21 ∧ 17 = 14 + 3 := by decide +kernel
theorem c295_17 : mj_Y.code kY 295 17 = some (.iconst 1) ∧ Int32.ofInt 1 = 1 ∧ 18 = 17 + 1 := by decide +kernel
theorem c295_18 : mj_Y.code kY 295 18 = some (.goto 17) ∧ mj_tg 18 17 = some 35 := by decide +kernel
theorem c295_21 : mj_Y.code kY 295 21 = some (.aload_n 0) ∧ ((0 : Fin 4) : Nat) = 0 ∧ 22 = 21 + 1 := by decide +kernel
theorem c295_22 : mj_Y.code kY 295 22 = some (.getfield 127) ∧ mj_Y.fl kY 295 127 12 = some (57, (.array .boolean), false) ∧ 25 = 22 + 3 := by decide +kernel
theorem c295_25 : mj_Y.code kY 295 25 = some (.iload_n 1) ∧ ((1 : Fin 4) : Nat) = 1 ∧ 26 = 25 + 1 := by decide +kernel
theorem c295_26 : mj_Y.code kY 295 26 = some .baload ∧ 27 = 26 + 1 := by decide +kernel
theorem c295_27 : mj_Y.code kY 295 27 = some (.ifCond .ne 7) ∧ mj_tg 27 7 = some 34 ∧ 30 = 27 + 3 := by decide +kernel
theorem c295_30 : mj_Y.code kY 295 30 = some (.iconst 2) ∧ Int32.ofInt 2 = 2 ∧ 31 = 30 + 1 := by decide +kernel
theorem c295_31 : mj_Y.code kY 295 31 = some (.goto 4) ∧ mj_tg 31 4 = some 35 := by decide +kernel
theorem c295_34 : mj_Y.code kY 295 34 = some (.iconst 0) ∧ Int32.ofInt 0 = 0 ∧ 35 = 34 + 1 := by decide +kernel
theorem c295_35 : mj_Y.code kY 295 35 = some (.putfield 142) ∧ mj_Y.fl kY 295 142 12 = some (0, .int, true) ∧ 38 = 35 + 3 := by decide +kernel
theorem c295_38 : mj_Y.code kY 295 38 = some (.lconst 0) ∧ Int64.ofNat ((0 : Fin 2) : Nat) = 0 ∧ 39 = 38 + 1 := by decide +kernel
theorem c295_39 : mj_Y.code kY 295 39 = some (.lstore_n 3) ∧ ((3 : Fin 4) : Nat) = 3 ∧ 3 + 1 < mj_Y.nL kY 295 ∧ 40 = 39 + 1 := by decide +kernel
theorem c295_40 : mj_Y.code kY 295 40 = some (.bipush 64) ∧ (Int8.ofInt 64).toInt32 = 64 ∧ 42 = 40 + 2 := by decide +kernel
theorem c295_42 : mj_Y.code kY 295 42 = some (.iload_n 1) ∧ ((1 : Fin 4) : Nat) = 1 ∧ 43 = 42 + 1 := by decide +kernel
theorem c295_43 : mj_Y.code kY 295 43 = some .imul ∧ 44 = 43 + 1 := by decide +kernel
theorem c295_44 : mj_Y.code kY 295 44 = some (.istore 5) ∧ 5 = 5 ∧ 5 < mj_Y.nL kY 295 ∧ 46 = 44 + 2 := by decide +kernel
theorem c295_46 : mj_Y.code kY 295 46 = some (.aload_n 0) ∧ ((0 : Fin 4) : Nat) = 0 ∧ 47 = 46 + 1 := by decide +kernel
theorem c295_47 : mj_Y.code kY 295 47 = some (.getfield 142) ∧ mj_Y.fl kY 295 142 12 = some (0, .int, true) ∧ 50 = 47 + 3 := by decide +kernel
theorem c295_50 : mj_Y.code kY 295 50 = some (.ifCond .ne 61) ∧ mj_tg 50 61 = some 111 ∧ 53 = 50 + 3 := by decide +kernel
theorem c295_53 : mj_Y.code kY 295 53 = some (.iload 5) ∧ 5 = 5 ∧ 55 = 53 + 2 := by decide +kernel
theorem c295_55 : mj_Y.code kY 295 55 = some (.bipush 64) ∧ (Int8.ofInt 64).toInt32 = 64 ∧ 57 = 55 + 2 := by decide +kernel
theorem c295_57 : mj_Y.code kY 295 57 = some (.iload_n 1) ∧ ((1 : Fin 4) : Nat) = 1 ∧ 58 = 57 + 1 := by decide +kernel
theorem c295_58 : mj_Y.code kY 295 58 = some .imul ∧ 59 = 58 + 1 := by decide +kernel
theorem c295_59 : mj_Y.code kY 295 59 = some (.aload_n 0) ∧ ((0 : Fin 4) : Nat) = 0 ∧ 60 = 59 + 1 := by decide +kernel
theorem c295_60 : mj_Y.code kY 295 60 = some (.getfield 130) ∧ mj_Y.fl kY 295 130 12 = some (58, (.array .int), false) ∧ 63 = 60 + 3 := by decide +kernel
theorem c295_63 : mj_Y.code kY 295 63 = some (.iload_n 1) ∧ ((1 : Fin 4) : Nat) = 1 ∧ 64 = 63 + 1 := by decide +kernel
theorem c295_64 : mj_Y.code kY 295 64 = some .iaload ∧ 65 = 64 + 1 := by decide +kernel
theorem c295_65 : mj_Y.code kY 295 65 = some .iadd ∧ 66 = 65 + 1 := by decide +kernel
theorem c295_66 : mj_Y.code kY 295 66 = some (.if_icmp .ge 45) ∧ mj_tg 66 45 = some 111 ∧ 69 = 66 + 3 := by decide +kernel
theorem c295_69 : mj_Y.code kY 295 69 = some (.aload_n 0) ∧ ((0 : Fin 4) : Nat) = 0 ∧ 70 = 69 + 1 := by decide +kernel
theorem c295_70 : mj_Y.code kY 295 70 = some (.getfield 133) ∧ mj_Y.fl kY 295 133 12 = some (59, (.array .int), false) ∧ 73 = 70 + 3 := by decide +kernel
theorem c295_73 : mj_Y.code kY 295 73 = some (.iload 5) ∧ 5 = 5 ∧ 75 = 73 + 2 := by decide +kernel
theorem c295_75 : mj_Y.code kY 295 75 = some .iaload ∧ 76 = 75 + 1 := by decide +kernel
theorem c295_76 : mj_Y.code kY 295 76 = some .i2l ∧ 77 = 76 + 1 := by decide +kernel
theorem c295_77 : mj_Y.code kY 295 77 = some (.lstore 6) ∧ 6 = 6 ∧ 6 + 1 < mj_Y.nL kY 295 ∧ 79 = 77 + 2 := by decide +kernel
theorem c295_79 : mj_Y.code kY 295 79 = some (.lload_n 3) ∧ ((3 : Fin 4) : Nat) = 3 ∧ 80 = 79 + 1 := by decide +kernel
theorem c295_80 : mj_Y.code kY 295 80 = some (.aload_n 0) ∧ ((0 : Fin 4) : Nat) = 0 ∧ 81 = 80 + 1 := by decide +kernel
theorem c295_81 : mj_Y.code kY 295 81 = some (.getfield 136) ∧ mj_Y.fl kY 295 136 12 = some (60, (.array .long), false) ∧ 84 = 81 + 3 := by decide +kernel
theorem c295_84 : mj_Y.code kY 295 84 = some (.iload 5) ∧ 5 = 5 ∧ 86 = 84 + 2 := by decide +kernel
theorem c295_86 : mj_Y.code kY 295 86 = some .laload ∧ 87 = 86 + 1 := by decide +kernel
theorem c295_87 : mj_Y.code kY 295 87 = some (.iload_n 2) ∧ ((2 : Fin 4) : Nat) = 2 ∧ 88 = 87 + 1 := by decide +kernel
theorem c295_88 : mj_Y.code kY 295 88 = some (.iconst 1) ∧ Int32.ofInt 1 = 1 ∧ 89 = 88 + 1 := by decide +kernel
theorem c295_89 : mj_Y.code kY 295 89 = some (.if_icmp .ne 8) ∧ mj_tg 89 8 = some 97 ∧ 92 = 89 + 3 := by decide +kernel
theorem c295_92 : mj_Y.code kY 295 92 = some (.lload 6) ∧ 6 = 6 ∧ 94 = 92 + 2 := by decide +kernel
theorem c295_94 : mj_Y.code kY 295 94 = some (.goto 8) ∧ mj_tg 94 8 = some 102 := by decide +kernel
theorem c295_97 : mj_Y.code kY 295 97 = some (.lload 6) ∧ 6 = 6 ∧ 99 = 97 + 2 := by decide +kernel
theorem c295_99 : mj_Y.code kY 295 99 = some (.lload 6) ∧ 6 = 6 ∧ 101 = 99 + 2 := by decide +kernel
theorem c295_101 : mj_Y.code kY 295 101 = some .lmul ∧ 102 = 101 + 1 := by decide +kernel
theorem c295_102 : mj_Y.code kY 295 102 = some .lmul ∧ 103 = 102 + 1 := by decide +kernel
theorem c295_103 : mj_Y.code kY 295 103 = some .ladd ∧ 104 = 103 + 1 := by decide +kernel
theorem c295_104 : mj_Y.code kY 295 104 = some (.lstore_n 3) ∧ ((3 : Fin 4) : Nat) = 3 ∧ 3 + 1 < mj_Y.nL kY 295 ∧ 105 = 104 + 1 := by decide +kernel
theorem c295_105 : mj_Y.code kY 295 105 = some (.iinc 5 1) ∧ 5 < mj_Y.nL kY 295 ∧ Int32.ofInt 1 = 1 ∧ 108 = 105 + 3 := by decide +kernel
theorem c295_108 : mj_Y.code kY 295 108 = some (.goto (-62)) ∧ mj_tg 108 (-62) = some 46 := by decide +kernel
theorem c295_111 : mj_Y.code kY 295 111 = some (.lload_n 3) ∧ ((3 : Fin 4) : Nat) = 3 ∧ 112 = 111 + 1 := by decide +kernel
theorem c295_112 : mj_Y.code kY 295 112 = some .lreturn ∧ mj_Y.rt kY 295 = some .long := by decide +kernel
theorem c296_0 : mj_Y.code kY 296 0 = some (.aload_n 0) ∧ ((0 : Fin 4) : Nat) = 0 ∧ 1 = 0 + 1 := by decide +kernel
theorem c296_1 : mj_Y.code kY 296 1 = some (.aload_n 0) ∧ ((0 : Fin 4) : Nat) = 0 ∧ 2 = 1 + 1 := by decide +kernel
theorem c296_2 : mj_Y.code kY 296 2 = some (.iload_n 1) ∧ ((1 : Fin 4) : Nat) = 1 ∧ 3 = 2 + 1 := by decide +kernel
theorem c296_3 : mj_Y.code kY 296 3 = some (.iload_n 2) ∧ ((2 : Fin 4) : Nat) = 2 ∧ 4 = 3 + 1 := by decide +kernel
theorem c296_4 : mj_Y.code kY 296 4 = some (.invokevirtual 465) ∧ mj_Y.na kY 296 465 = some 2 ∧ mj_Y.cv kY 296 465 12 = some 292 ∧ mj_Y.nL kY 292 = 4 ∧ 7 = 4 + 3 := by decide +kernel
theorem c296_7 : mj_Y.code kY 296 7 = some (.putfield 142) ∧ mj_Y.fl kY 296 142 12 = some (0, .int, true) ∧ 10 = 7 + 3 := by decide +kernel
theorem c296_10 : mj_Y.code kY 296 10 = some (.aload_n 0) ∧ ((0 : Fin 4) : Nat) = 0 ∧ 11 = 10 + 1 := by decide +kernel
theorem c296_11 : mj_Y.code kY 296 11 = some (.getfield 142) ∧ mj_Y.fl kY 296 142 12 = some (0, .int, true) ∧ 14 = 11 + 3 := by decide +kernel
theorem c296_14 : mj_Y.code kY 296 14 = some (.ifCond .le 5) ∧ mj_tg 14 5 = some 19 ∧ 17 = 14 + 3 := by decide +kernel
theorem c296_17 : mj_Y.code kY 296 17 = some (.iconst 0) ∧ Int32.ofInt 0 = 0 ∧ 18 = 17 + 1 := by decide +kernel
theorem c296_18 : mj_Y.code kY 296 18 = some .ireturn ∧ mj_Y.rt kY 296 = some .int := by decide +kernel
theorem c296_19 : mj_Y.code kY 296 19 = some (.aload_n 0) ∧ ((0 : Fin 4) : Nat) = 0 ∧ 20 = 19 + 1 := by decide +kernel
theorem c296_20 : mj_Y.code kY 296 20 = some (.getfield 136) ∧ mj_Y.fl kY 296 136 12 = some (60, (.array .long), false) ∧ 23 = 20 + 3 := by decide +kernel
theorem c296_23 : mj_Y.code kY 296 23 = some (.bipush 64) ∧ (Int8.ofInt 64).toInt32 = 64 ∧ 25 = 23 + 2 := by decide +kernel
theorem c296_25 : mj_Y.code kY 296 25 = some (.iload_n 1) ∧ ((1 : Fin 4) : Nat) = 1 ∧ 26 = 25 + 1 := by decide +kernel
theorem c296_26 : mj_Y.code kY 296 26 = some .imul ∧ 27 = 26 + 1 := by decide +kernel
theorem c296_27 : mj_Y.code kY 296 27 = some (.iload_n 2) ∧ ((2 : Fin 4) : Nat) = 2 ∧ 28 = 27 + 1 := by decide +kernel
theorem c296_28 : mj_Y.code kY 296 28 = some .iadd ∧ 29 = 28 + 1 := by decide +kernel
theorem c296_29 : mj_Y.code kY 296 29 = some .laload ∧ 30 = 29 + 1 := by decide +kernel
theorem c296_30 : mj_Y.code kY 296 30 = some (.ldc2_w 468) ∧ mj_Y.ck kY 296 468 = some (.long 1000000) ∧ 33 = 30 + 3 := by decide +kernel
theorem c296_33 : mj_Y.code kY 296 33 = some .lmul ∧ 34 = 33 + 1 := by decide +kernel
theorem c296_34 : mj_Y.code kY 296 34 = some (.lstore_n 3) ∧ ((3 : Fin 4) : Nat) = 3 ∧ 3 + 1 < mj_Y.nL kY 296 ∧ 35 = 34 + 1 := by decide +kernel
theorem c296_35 : mj_Y.code kY 296 35 = some (.lload_n 3) ∧ ((3 : Fin 4) : Nat) = 3 ∧ 36 = 35 + 1 := by decide +kernel
theorem c296_36 : mj_Y.code kY 296 36 = some (.aload_n 0) ∧ ((0 : Fin 4) : Nat) = 0 ∧ 37 = 36 + 1 := by decide +kernel
theorem c296_37 : mj_Y.code kY 296 37 = some (.getfield 139) ∧ mj_Y.fl kY 296 139 12 = some (61, (.array .long), false) ∧ 40 = 37 + 3 := by decide +kernel
theorem c296_40 : mj_Y.code kY 296 40 = some (.iload_n 1) ∧ ((1 : Fin 4) : Nat) = 1 ∧ 41 = 40 + 1 := by decide +kernel
theorem c296_41 : mj_Y.code kY 296 41 = some .laload ∧ 42 = 41 + 1 := by decide +kernel
theorem c296_42 : mj_Y.code kY 296 42 = some .ldiv ∧ 43 = 42 + 1 := by decide +kernel
theorem c296_43 : mj_Y.code kY 296 43 = some (.lstore 5) ∧ 5 = 5 ∧ 5 + 1 < mj_Y.nL kY 296 ∧ 45 = 43 + 2 := by decide +kernel
theorem c296_45 : mj_Y.code kY 296 45 = some (.lload_n 3) ∧ ((3 : Fin 4) : Nat) = 3 ∧ 46 = 45 + 1 := by decide +kernel
theorem c296_46 : mj_Y.code kY 296 46 = some (.lload 5) ∧ 5 = 5 ∧ 48 = 46 + 2 := by decide +kernel
theorem c296_48 : mj_Y.code kY 296 48 = some (.aload_n 0) ∧ ((0 : Fin 4) : Nat) = 0 ∧ 49 = 48 + 1 := by decide +kernel
theorem c296_49 : mj_Y.code kY 296 49 = some (.getfield 139) ∧ mj_Y.fl kY 296 139 12 = some (61, (.array .long), false) ∧ 52 = 49 + 3 := by decide +kernel
theorem c296_52 : mj_Y.code kY 296 52 = some (.iload_n 1) ∧ ((1 : Fin 4) : Nat) = 1 ∧ 53 = 52 + 1 := by decide +kernel
theorem c296_53 : mj_Y.code kY 296 53 = some .laload ∧ 54 = 53 + 1 := by decide +kernel
theorem c296_54 : mj_Y.code kY 296 54 = some .lmul ∧ 55 = 54 + 1 := by decide +kernel
theorem c296_55 : mj_Y.code kY 296 55 = some .lsub ∧ 56 = 55 + 1 := by decide +kernel
theorem c296_56 : mj_Y.code kY 296 56 = some (.lstore 7) ∧ 7 = 7 ∧ 7 + 1 < mj_Y.nL kY 296 ∧ 58 = 56 + 2 := by decide +kernel
theorem c296_58 : mj_Y.code kY 296 58 = some (.aload_n 0) ∧ ((0 : Fin 4) : Nat) = 0 ∧ 59 = 58 + 1 := by decide +kernel
theorem c296_59 : mj_Y.code kY 296 59 = some (.getfield 139) ∧ mj_Y.fl kY 296 139 12 = some (61, (.array .long), false) ∧ 62 = 59 + 3 := by decide +kernel
theorem c296_62 : mj_Y.code kY 296 62 = some (.iload_n 1) ∧ ((1 : Fin 4) : Nat) = 1 ∧ 63 = 62 + 1 := by decide +kernel
theorem c296_63 : mj_Y.code kY 296 63 = some .laload ∧ 64 = 63 + 1 := by decide +kernel
theorem c296_64 : mj_Y.code kY 296 64 = some (.lload 7) ∧ 7 = 7 ∧ 66 = 64 + 2 := by decide +kernel
theorem c296_66 : mj_Y.code kY 296 66 = some .lsub ∧ 67 = 66 + 1 := by decide +kernel
theorem c296_67 : mj_Y.code kY 296 67 = some (.lstore 9) ∧ 9 = 9 ∧ 9 + 1 < mj_Y.nL kY 296 ∧ 69 = 67 + 2 := by decide +kernel
theorem c296_69 : mj_Y.code kY 296 69 = some (.lload 7) ∧ 7 = 7 ∧ 71 = 69 + 2 := by decide +kernel
theorem c296_71 : mj_Y.code kY 296 71 = some (.lload 9) ∧ 9 = 9 ∧ 73 = 71 + 2 := by decide +kernel
theorem c296_73 : mj_Y.code kY 296 73 = some .lcmp ∧ 74 = 73 + 1 := by decide +kernel
theorem c296_74 : mj_Y.code kY 296 74 = some (.ifCond .gt 22) ∧ mj_tg 74 22 = some 96 ∧ 77 = 74 + 3 := by decide +kernel
theorem c296_77 : mj_Y.code kY 296 77 = some (.lload 7) ∧ 7 = 7 ∧ 79 = 77 + 2 := by decide +kernel
theorem c296_79 : mj_Y.code kY 296 79 = some (.lload 9) ∧ 9 = 9 ∧ 81 = 79 + 2 := by decide +kernel
theorem c296_81 : mj_Y.code kY 296 81 = some .lcmp ∧ 82 = 81 + 1 := by decide +kernel
theorem c296_82 : mj_Y.code kY 296 82 = some (.ifCond .ne 21) ∧ mj_tg 82 21 = some 103 ∧ 85 = 82 + 3 := by decide +kernel
theorem c296_85 : mj_Y.code kY 296 85 = some (.lload 5) ∧ 5 = 5 ∧ 87 = 85 + 2 := by decide +kernel
theorem c296_87 : mj_Y.code kY 296 87 = some (.ldc2_w 470) ∧ mj_Y.ck kY 296 470 = some (.long 2) ∧ 90 = 87 + 3 := by decide +kernel
theorem c296_90 : mj_Y.code kY 296 90 = some .lrem ∧ 91 = 90 + 1 := by decide +kernel
theorem c296_91 : mj_Y.code kY 296 91 = some (.lconst 1) ∧ Int64.ofNat ((1 : Fin 2) : Nat) = 1 ∧ 92 = 91 + 1 := by decide +kernel
theorem c296_92 : mj_Y.code kY 296 92 = some .lcmp ∧ 93 = 92 + 1 := by decide +kernel
theorem c296_93 : mj_Y.code kY 296 93 = some (.ifCond .ne 10) ∧ mj_tg 93 10 = some 103 ∧ 96 = 93 + 3 := by decide +kernel
theorem c296_96 : mj_Y.code kY 296 96 = some (.lload 5) ∧ 5 = 5 ∧ 98 = 96 + 2 := by decide +kernel
theorem c296_98 : mj_Y.code kY 296 98 = some (.lconst 1) ∧ Int64.ofNat ((1 : Fin 2) : Nat) = 1 ∧ 99 = 98 + 1 := by decide +kernel
theorem c296_99 : mj_Y.code kY 296 99 = some .ladd ∧ 100 = 99 + 1 := by decide +kernel
theorem c296_100 : mj_Y.code kY 296 100 = some (.goto 5) ∧ mj_tg 100 5 = some 105 := by decide +kernel
theorem c296_103 : mj_Y.code kY 296 103 = some (.lload 5) ∧ 5 = 5 ∧ 105 = 103 + 2 := by decide +kernel
theorem c296_105 : mj_Y.code kY 296 105 = some .l2i ∧ 106 = 105 + 1 := by decide +kernel
theorem c296_106 : mj_Y.code kY 296 106 = some .ireturn ∧ mj_Y.rt kY 296 = some .int := by decide +kernel
theorem c297_0 : mj_Y.code kY 297 0 = some (.aload_n 0) ∧ ((0 : Fin 4) : Nat) = 0 ∧ 1 = 0 + 1 := by decide +kernel
theorem c297_1 : mj_Y.code kY 297 1 = some (.iload_n 1) ∧ ((1 : Fin 4) : Nat) = 1 ∧ 2 = 1 + 1 := by decide +kernel
theorem c297_2 : mj_Y.code kY 297 2 = some (.invokestatic 312) ∧ mj_Y.pr kY 297 312 = none ∧ mj_Y.cs kY 297 312 = some (210, 1) ∧ mj_Y.nL kY 210 = 1 ∧ 5 = 2 + 3 := by decide +kernel
theorem c297_5 : mj_Y.code kY 297 5 = some (.ifCond .eq 23) ∧ mj_tg 5 23 = some 28 ∧ 8 = 5 + 3 := by decide +kernel
theorem c297_8 : mj_Y.code kY 297 8 = some (.iload_n 3) ∧ ((3 : Fin 4) : Nat) = 3 ∧ 9 = 8 + 1 := by decide +kernel
theorem c297_9 : mj_Y.code kY 297 9 = some (.iconst 1) ∧ Int32.ofInt 1 = 1 ∧ 10 = 9 + 1 := by decide +kernel
theorem c297_10 : mj_Y.code kY 297 10 = some (.sipush 1000) ∧ (Int16.ofInt 1000).toInt32 = 1000 ∧ 13 = 10 + 3 := by decide +kernel
theorem c297_13 : mj_Y.code kY 297 13 = some (.invokestatic 145) ∧ mj_Y.pr kY 297 145 = none ∧ mj_Y.cs kY 297 145 = some (205, 3) ∧ mj_Y.nL kY 205 = 3 ∧ 16 = 13 + 3 := by decide +kernel
theorem c297_16 : mj_Y.code kY 297 16 = some (.ifCond .eq 12) ∧ mj_tg 16 12 = some 28 ∧ 19 = 16 + 3 := by decide +kernel
theorem c297_19 : mj_Y.code kY 297 19 = some (.iload_n 2) ∧ ((2 : Fin 4) : Nat) = 2 ∧ 20 = 19 + 1 := by decide +kernel
theorem c297_20 : mj_Y.code kY 297 20 = some (.iconst 0) ∧ Int32.ofInt 0 = 0 ∧ 21 = 20 + 1 := by decide +kernel
theorem c297_21 : mj_Y.code kY 297 21 = some (.iload_n 3) ∧ ((3 : Fin 4) : Nat) = 3 ∧ 22 = 21 + 1 := by decide +kernel
theorem c297_22 : mj_Y.code kY 297 22 = some (.invokestatic 145) ∧ mj_Y.pr kY 297 145 = none ∧ mj_Y.cs kY 297 145 = some (205, 3) ∧ mj_Y.nL kY 205 = 3 ∧ 25 = 22 + 3 := by decide +kernel
theorem c297_25 : mj_Y.code kY 297 25 = some (.ifCond .ne 7) ∧ mj_tg 25 7 = some 32 ∧ 28 = 25 + 3 := by decide +kernel
theorem c297_28 : mj_Y.code kY 297 28 = some (.iconst 1) ∧ Int32.ofInt 1 = 1 ∧ 29 = 28 + 1 := by decide +kernel
theorem c297_29 : mj_Y.code kY 297 29 = some (.goto 17) ∧ mj_tg 29 17 = some 46 := by decide +kernel
theorem c297_32 : mj_Y.code kY 297 32 = some (.aload_n 0) ∧ ((0 : Fin 4) : Nat) = 0 ∧ 33 = 32 + 1 := by decide +kernel
theorem c297_33 : mj_Y.code kY 297 33 = some (.getfield 127) ∧ mj_Y.fl kY 297 127 12 = some (57, (.array .boolean), false) ∧ 36 = 33 + 3 := by decide +kernel
theorem c297_36 : mj_Y.code kY 297 36 = some (.iload_n 1) ∧ ((1 : Fin 4) : Nat) = 1 ∧ 37 = 36 + 1 := by decide +kernel
theorem c297_37 : mj_Y.code kY 297 37 = some .baload ∧ 38 = 37 + 1 := by decide +kernel
theorem c297_38 : mj_Y.code kY 297 38 = some (.ifCond .ne 7) ∧ mj_tg 38 7 = some 45 ∧ 41 = 38 + 3 := by decide +kernel
theorem c297_41 : mj_Y.code kY 297 41 = some (.iconst 2) ∧ Int32.ofInt 2 = 2 ∧ 42 = 41 + 1 := by decide +kernel
theorem c297_42 : mj_Y.code kY 297 42 = some (.goto 4) ∧ mj_tg 42 4 = some 46 := by decide +kernel
theorem c297_45 : mj_Y.code kY 297 45 = some (.iconst 0) ∧ Int32.ofInt 0 = 0 ∧ 46 = 45 + 1 := by decide +kernel
theorem c297_46 : mj_Y.code kY 297 46 = some (.putfield 142) ∧ mj_Y.fl kY 297 142 12 = some (0, .int, true) ∧ 49 = 46 + 3 := by decide +kernel
theorem c297_49 : mj_Y.code kY 297 49 = some (.aload_n 0) ∧ ((0 : Fin 4) : Nat) = 0 ∧ 50 = 49 + 1 := by decide +kernel
theorem c297_50 : mj_Y.code kY 297 50 = some (.getfield 142) ∧ mj_Y.fl kY 297 142 12 = some (0, .int, true) ∧ 53 = 50 + 3 := by decide +kernel
theorem c297_53 : mj_Y.code kY 297 53 = some (.ifCond .le 5) ∧ mj_tg 53 5 = some 58 ∧ 56 = 53 + 3 := by decide +kernel
theorem c297_56 : mj_Y.code kY 297 56 = some (.iconst 0) ∧ Int32.ofInt 0 = 0 ∧ 57 = 56 + 1 := by decide +kernel
theorem c297_57 : mj_Y.code kY 297 57 = some .ireturn ∧ mj_Y.rt kY 297 = some .int := by decide +kernel
theorem c297_58 : mj_Y.code kY 297 58 = some (.bipush 64) ∧ (Int8.ofInt 64).toInt32 = 64 ∧ 60 = 58 + 2 := by decide +kernel
theorem c297_60 : mj_Y.code kY 297 60 = some (.iload_n 1) ∧ ((1 : Fin 4) : Nat) = 1 ∧ 61 = 60 + 1 := by decide +kernel
theorem c297_61 : mj_Y.code kY 297 61 = some .imul ∧ 62 = 61 + 1 := by decide +kernel
theorem c297_62 : mj_Y.code kY 297 62 = some (.istore 4) ∧ 4 = 4 ∧ 4 < mj_Y.nL kY 297 ∧ 64 = 62 + 2 := by decide +kernel
theorem c297_64 : mj_Y.code kY 297 64 = some (.aload_n 0) ∧ ((0 : Fin 4) : Nat) = 0 ∧ 65 = 64 + 1 := by decide +kernel
theorem c297_65 : mj_Y.code kY 297 65 = some (.getfield 136) ∧ mj_Y.fl kY 297 136 12 = some (60, (.array .long), false) ∧ 68 = 65 + 3 := by decide +kernel
theorem c297_68 : mj_Y.code kY 297 68 = some (.iload 4) ∧ 4 = 4 ∧ 70 = 68 + 2 := by decide +kernel
theorem c297_70 : mj_Y.code kY 297 70 = some .laload ∧ 71 = 70 + 1 := by decide +kernel
theorem c297_71 : mj_Y.code kY 297 71 = some (.lstore 5) ∧ 5 = 5 ∧ 5 + 1 < mj_Y.nL kY 297 ∧ 73 = 71 + 2 := by decide +kernel
theorem c297_73 : mj_Y.code kY 297 73 = some (.lload 5) ∧ 5 = 5 ∧ 75 = 73 + 2 := by decide +kernel
theorem c297_75 : mj_Y.code kY 297 75 = some (.iload_n 3) ∧ ((3 : Fin 4) : Nat) = 3 ∧ 76 = 75 + 1 := by decide +kernel
theorem c297_76 : mj_Y.code kY 297 76 = some .i2l ∧ 77 = 76 + 1 := by decide +kernel
theorem c297_77 : mj_Y.code kY 297 77 = some .lmul ∧ 78 = 77 + 1 := by decide +kernel
theorem c297_78 : mj_Y.code kY 297 78 = some (.aload_n 0) ∧ ((0 : Fin 4) : Nat) = 0 ∧ 79 = 78 + 1 := by decide +kernel
theorem c297_79 : mj_Y.code kY 297 79 = some (.getfield 139) ∧ mj_Y.fl kY 297 139 12 = some (61, (.array .long), false) ∧ 82 = 79 + 3 := by decide +kernel
theorem c297_82 : mj_Y.code kY 297 82 = some (.iload_n 1) ∧ ((1 : Fin 4) : Nat) = 1 ∧ 83 = 82 + 1 := by decide +kernel
theorem c297_83 : mj_Y.code kY 297 83 = some .laload ∧ 84 = 83 + 1 := by decide +kernel
theorem c297_84 : mj_Y.code kY 297 84 = some (.iload_n 2) ∧ ((2 : Fin 4) : Nat) = 2 ∧ 85 = 84 + 1 := by decide +kernel
theorem c297_85 : mj_Y.code kY 297 85 = some .i2l ∧ 86 = 85 + 1 := by decide +kernel
theorem c297_86 : mj_Y.code kY 297 86 = some .lmul ∧ 87 = 86 + 1 := by decide +kernel
theorem c297_87 : mj_Y.code kY 297 87 = some .lcmp ∧ 88 = 87 + 1 := by decide +kernel
theorem c297_88 : mj_Y.code kY 297 88 = some (.ifCond .ge 21) ∧ mj_tg 88 21 = some 109 ∧ 91 = 88 + 3 := by decide +kernel
theorem c297_91 : mj_Y.code kY 297 91 = some (.iinc 4 1) ∧ 4 < mj_Y.nL kY 297 ∧ Int32.ofInt 1 = 1 ∧ 94 = 91 + 3 := by decide +kernel
theorem c297_94 : mj_Y.code kY 297 94 = some (.lload 5) ∧ 5 = 5 ∧ 96 = 94 + 2 := by decide +kernel
theorem c297_96 : mj_Y.code kY 297 96 = some (.aload_n 0) ∧ ((0 : Fin 4) : Nat) = 0 ∧ 97 = 96 + 1 := by decide +kernel
theorem c297_97 : mj_Y.code kY 297 97 = some (.getfield 136) ∧ mj_Y.fl kY 297 136 12 = some (60, (.array .long), false) ∧ 100 = 97 + 3 := by decide +kernel
theorem c297_100 : mj_Y.code kY 297 100 = some (.iload 4) ∧ 4 = 4 ∧ 102 = 100 + 2 := by decide +kernel
theorem c297_102 : mj_Y.code kY 297 102 = some .laload ∧ 103 = 102 + 1 := by decide +kernel
theorem c297_103 : mj_Y.code kY 297 103 = some .ladd ∧ 104 = 103 + 1 := by decide +kernel
theorem c297_104 : mj_Y.code kY 297 104 = some (.lstore 5) ∧ 5 = 5 ∧ 5 + 1 < mj_Y.nL kY 297 ∧ 106 = 104 + 2 := by decide +kernel
theorem c297_106 : mj_Y.code kY 297 106 = some (.goto (-33)) ∧ mj_tg 106 (-33) = some 73 := by decide +kernel
theorem c297_109 : mj_Y.code kY 297 109 = some (.aload_n 0) ∧ ((0 : Fin 4) : Nat) = 0 ∧ 110 = 109 + 1 := by decide +kernel
theorem c297_110 : mj_Y.code kY 297 110 = some (.getfield 133) ∧ mj_Y.fl kY 297 133 12 = some (59, (.array .int), false) ∧ 113 = 110 + 3 := by decide +kernel
theorem c297_113 : mj_Y.code kY 297 113 = some (.iload 4) ∧ 4 = 4 ∧ 115 = 113 + 2 := by decide +kernel
theorem c297_115 : mj_Y.code kY 297 115 = some .iaload ∧ 116 = 115 + 1 := by decide +kernel
theorem c297_116 : mj_Y.code kY 297 116 = some .ireturn ∧ mj_Y.rt kY 297 = some .int := by decide +kernel
theorem c298_0 : mj_Y.code kY 298 0 = some (.aload_n 0) ∧ ((0 : Fin 4) : Nat) = 0 ∧ 1 = 0 + 1 := by decide +kernel
theorem c298_1 : mj_Y.code kY 298 1 = some (.aload_n 0) ∧ ((0 : Fin 4) : Nat) = 0 ∧ 2 = 1 + 1 := by decide +kernel
theorem c298_2 : mj_Y.code kY 298 2 = some (.iload_n 1) ∧ ((1 : Fin 4) : Nat) = 1 ∧ 3 = 2 + 1 := by decide +kernel
theorem c298_3 : mj_Y.code kY 298 3 = some (.invokevirtual 462) ∧ mj_Y.na kY 298 462 = some 1 ∧ mj_Y.cv kY 298 462 12 = some 290 ∧ mj_Y.nL kY 290 = 2 ∧ 6 = 3 + 3 := by decide +kernel
theorem c298_6 : mj_Y.code kY 298 6 = some (.putfield 142) ∧ mj_Y.fl kY 298 142 12 = some (0, .int, true) ∧ 9 = 6 + 3 := by decide +kernel
theorem c298_9 : mj_Y.code kY 298 9 = some (.aload_n 0) ∧ ((0 : Fin 4) : Nat) = 0 ∧ 10 = 9 + 1 := by decide +kernel
theorem c298_10 : mj_Y.code kY 298 10 = some (.aload_n 0) ∧ ((0 : Fin 4) : Nat) = 0 ∧ 11 = 10 + 1 := by decide +kernel
theorem c298_11 : mj_Y.code kY 298 11 = some (.getfield 142) ∧ mj_Y.fl kY 298 142 12 = some (0, .int, true) ∧ 14 = 11 + 3 := by decide +kernel
theorem c298_14 : mj_Y.code kY 298 14 = some (.ifCond .ne 24) ∧ mj_tg 14 24 = some 38 ∧ 17 = 14 + 3 := by decide +kernel
theorem c298_17 : mj_Y.code kY 298 17 = some (.lload_n 2) ∧ ((2 : Fin 4) : Nat) = 2 ∧ 18 = 17 + 1 := by decide +kernel
theorem c298_18 : mj_Y.code kY 298 18 = some (.lconst 0) ∧ Int64.ofNat ((0 : Fin 2) : Nat) = 0 ∧ 19 = 18 + 1 := by decide +kernel
theorem c298_19 : mj_Y.code kY 298 19 = some .lcmp ∧ 20 = 19 + 1 := by decide +kernel
theorem c298_20 : mj_Y.code kY 298 20 = some (.ifCond .lt 14) ∧ mj_tg 20 14 = some 34 ∧ 23 = 20 + 3 := by decide +kernel
theorem c298_23 : mj_Y.code kY 298 23 = some (.lload_n 2) ∧ ((2 : Fin 4) : Nat) = 2 ∧ 24 = 23 + 1 := by decide +kernel
theorem c298_24 : mj_Y.code kY 298 24 = some (.aload_n 0) ∧ ((0 : Fin 4) : Nat) = 0 ∧ 25 = 24 + 1 := by decide +kernel
theorem c298_25 : mj_Y.code kY 298 25 = some (.getfield 139) ∧ mj_Y.fl kY 298 139 12 = some (61, (.array .long), false) ∧ 28 = 25 + 3 := by decide +kernel
theorem c298_28 : mj_Y.code kY 298 28 = some (.iload_n 1) ∧ ((1 : Fin 4) : Nat) = 1 ∧ 29 = 28 + 1 := by decide +kernel
theorem c298_29 : mj_Y.code kY 298 29 = some .laload ∧ 30 = 29 + 1 := by decide +kernel
theorem c298_30 : mj_Y.code kY 298 30 = some .lcmp ∧ 31 = 30 + 1 := by decide +kernel
theorem c298_31 : mj_Y.code kY 298 31 = some (.ifCond .lt 7) ∧ mj_tg 31 7 = some 38 ∧ 34 = 31 + 3 := by decide +kernel
theorem c298_34 : mj_Y.code kY 298 34 = some (.iconst 3) ∧ Int32.ofInt 3 = 3 ∧ 35 = 34 + 1 := by decide +kernel
theorem c298_35 : mj_Y.code kY 298 35 = some (.goto 7) ∧ mj_tg 35 7 = some 42 := by decide +kernel
theorem c298_38 : mj_Y.code kY 298 38 = some (.aload_n 0) ∧ ((0 : Fin 4) : Nat) = 0 ∧ 39 = 38 + 1 := by decide +kernel
theorem c298_39 : mj_Y.code kY 298 39 = some (.getfield 142) ∧ mj_Y.fl kY 298 142 12 = some (0, .int, true) ∧ 42 = 39 + 3 := by decide +kernel
theorem c298_42 : mj_Y.code kY 298 42 = some (.putfield 142) ∧ mj_Y.fl kY 298 142 12 = some (0, .int, true) ∧ 45 = 42 + 3 := by decide +kernel
theorem c298_45 : mj_Y.code kY 298 45 = some (.aload_n 0) ∧ ((0 : Fin 4) : Nat) = 0 ∧ 46 = 45 + 1 := by decide +kernel
theorem c298_46 : mj_Y.code kY 298 46 = some (.getfield 142) ∧ mj_Y.fl kY 298 142 12 = some (0, .int, true) ∧ 49 = 46 + 3 := by decide +kernel
theorem c298_49 : mj_Y.code kY 298 49 = some (.ifCond .le 5) ∧ mj_tg 49 5 = some 54 ∧ 52 = 49 + 3 := by decide +kernel
theorem c298_52 : mj_Y.code kY 298 52 = some (.iconst 0) ∧ Int32.ofInt 0 = 0 ∧ 53 = 52 + 1 := by decide +kernel
theorem c298_53 : mj_Y.code kY 298 53 = some .ireturn ∧ mj_Y.rt kY 298 = some .int := by decide +kernel
theorem c298_54 : mj_Y.code kY 298 54 = some (.bipush 64) ∧ (Int8.ofInt 64).toInt32 = 64 ∧ 56 = 54 + 2 := by decide +kernel
theorem c298_56 : mj_Y.code kY 298 56 = some (.iload_n 1) ∧ ((1 : Fin 4) : Nat) = 1 ∧ 57 = 56 + 1 := by decide +kernel
theorem c298_57 : mj_Y.code kY 298 57 = some .imul ∧ 58 = 57 + 1 := by decide +kernel
theorem c298_58 : mj_Y.code kY 298 58 = some (.istore 4) ∧ 4 = 4 ∧ 4 < mj_Y.nL kY 298 ∧ 60 = 58 + 2 := by decide +kernel
theorem c298_60 : mj_Y.code kY 298 60 = some (.lload_n 2) ∧ ((2 : Fin 4) : Nat) = 2 ∧ 61 = 60 + 1 := by decide +kernel
theorem c298_61 : mj_Y.code kY 298 61 = some (.aload_n 0) ∧ ((0 : Fin 4) : Nat) = 0 ∧ 62 = 61 + 1 := by decide +kernel
theorem c298_62 : mj_Y.code kY 298 62 = some (.getfield 136) ∧ mj_Y.fl kY 298 136 12 = some (60, (.array .long), false) ∧ 65 = 62 + 3 := by decide +kernel
theorem c298_65 : mj_Y.code kY 298 65 = some (.iload 4) ∧ 4 = 4 ∧ 67 = 65 + 2 := by decide +kernel
theorem c298_67 : mj_Y.code kY 298 67 = some .laload ∧ 68 = 67 + 1 := by decide +kernel
theorem c298_68 : mj_Y.code kY 298 68 = some .lsub ∧ 69 = 68 + 1 := by decide +kernel
theorem c298_69 : mj_Y.code kY 298 69 = some (.lstore 5) ∧ 5 = 5 ∧ 5 + 1 < mj_Y.nL kY 298 ∧ 71 = 69 + 2 := by decide +kernel
theorem c298_71 : mj_Y.code kY 298 71 = some (.lload 5) ∧ 5 = 5 ∧ 73 = 71 + 2 := by decide +kernel
theorem c298_73 : mj_Y.code kY 298 73 = some (.lconst 0) ∧ Int64.ofNat ((0 : Fin 2) : Nat) = 0 ∧ 74 = 73 + 1 := by decide +kernel
theorem c298_74 : mj_Y.code kY 298 74 = some .lcmp ∧ 75 = 74 + 1 := by decide +kernel
theorem c298_75 : mj_Y.code kY 298 75 = some (.ifCond .lt 21) ∧ mj_tg 75 21 = some 96 ∧ 78 = 75 + 3 := by decide +kernel
theorem c298_78 : mj_Y.code kY 298 78 = some (.iinc 4 1) ∧ 4 < mj_Y.nL kY 298 ∧ Int32.ofInt 1 = 1 ∧ 81 = 78 + 3 := by decide +kernel
theorem c298_81 : mj_Y.code kY 298 81 = some (.lload 5) ∧ 5 = 5 ∧ 83 = 81 + 2 := by decide +kernel
theorem c298_83 : mj_Y.code kY 298 83 = some (.aload_n 0) ∧ ((0 : Fin 4) : Nat) = 0 ∧ 84 = 83 + 1 := by decide +kernel
theorem c298_84 : mj_Y.code kY 298 84 = some (.getfield 136) ∧ mj_Y.fl kY 298 136 12 = some (60, (.array .long), false) ∧ 87 = 84 + 3 := by decide +kernel
theorem c298_87 : mj_Y.code kY 298 87 = some (.iload 4) ∧ 4 = 4 ∧ 89 = 87 + 2 := by decide +kernel
theorem c298_89 : mj_Y.code kY 298 89 = some .laload ∧ 90 = 89 + 1 := by decide +kernel
theorem c298_90 : mj_Y.code kY 298 90 = some .lsub ∧ 91 = 90 + 1 := by decide +kernel
theorem c298_91 : mj_Y.code kY 298 91 = some (.lstore 5) ∧ 5 = 5 ∧ 5 + 1 < mj_Y.nL kY 298 ∧ 93 = 91 + 2 := by decide +kernel
theorem c298_93 : mj_Y.code kY 298 93 = some (.goto (-22)) ∧ mj_tg 93 (-22) = some 71 := by decide +kernel
theorem c298_96 : mj_Y.code kY 298 96 = some (.aload_n 0) ∧ ((0 : Fin 4) : Nat) = 0 ∧ 97 = 96 + 1 := by decide +kernel
theorem c298_97 : mj_Y.code kY 298 97 = some (.getfield 133) ∧ mj_Y.fl kY 298 133 12 = some (59, (.array .int), false) ∧ 100 = 97 + 3 := by decide +kernel
theorem c298_100 : mj_Y.code kY 298 100 = some (.iload 4) ∧ 4 = 4 ∧ 102 = 100 + 2 := by decide +kernel
theorem c298_102 : mj_Y.code kY 298 102 = some .iaload ∧ 103 = 102 + 1 := by decide +kernel
theorem c298_103 : mj_Y.code kY 298 103 = some .ireturn ∧ mj_Y.rt kY 298 = some .int := by decide +kernel
theorem c299_0 : mj_Y.code kY 299 0 = some (.aload_n 0) ∧ ((0 : Fin 4) : Nat) = 0 ∧ 1 = 0 + 1 := by decide +kernel
theorem c299_1 : mj_Y.code kY 299 1 = some (.iload_n 1) ∧ ((1 : Fin 4) : Nat) = 1 ∧ 2 = 1 + 1 := by decide +kernel
theorem c299_2 : mj_Y.code kY 299 2 = some (.invokestatic 312) ∧ mj_Y.pr kY 299 312 = none ∧ mj_Y.cs kY 299 312 = some (210, 1) ∧ mj_Y.nL kY 210 = 1 ∧ 5 = 2 + 3 := by decide +kernel
theorem c299_5 : mj_Y.code kY 299 5 = some (.ifCond .eq 19) ∧ mj_tg 5 19 = some 24 ∧ 8 = 5 + 3 := by decide +kernel
theorem c299_8 : mj_Y.code kY 299 8 = some (.iload_n 2) ∧ ((2 : Fin 4) : Nat) = 2 ∧ 9 = 8 + 1 := by decide +kernel
theorem c299_9 : mj_Y.code kY 299 9 = some (.invokestatic 312) ∧ mj_Y.pr kY 299 312 = none ∧ mj_Y.cs kY 299 312 = some (210, 1) ∧ mj_Y.nL kY 210 = 1 ∧ 12 = 9 + 3 := by decide +kernel
theorem c299_12 : mj_Y.code kY 299 12 = some (.ifCond .eq 12) ∧ mj_tg 12 12 = some 24 ∧ 15 = 12 + 3 := by decide +kernel
theorem c299_15 : mj_Y.code kY 299 15 = some (.iload_n 3) ∧ ((3 : Fin 4) : Nat) = 3 ∧ 16 = 15 + 1 := by decide +kernel
theorem c299_16 : mj_Y.code kY 299 16 = some (.iconst (-1)) ∧ Int32.ofInt (-1) = (-1) ∧ 17 = 16 + 1 := by decide +kernel
theorem c299_17 : mj_Y.code kY 299 17 = some (.iconst 1) ∧ Int32.ofInt 1 = 1 ∧ 18 = 17 + 1 := by decide +kernel
theorem c299_18 : mj_Y.code kY 299 18 = some (.invokestatic 145) ∧ mj_Y.pr kY 299 145 = none ∧ mj_Y.cs kY 299 145 = some (205, 3) ∧ mj_Y.nL kY 205 = 3 ∧ 21 = 18 + 3 := by decide +kernel
theorem c299_21 : mj_Y.code kY 299 21 = some (.ifCond .ne 7) ∧ mj_tg 21 7 = some 28 ∧ 24 = 21 + 3 := by decide +kernel
theorem c299_24 : mj_Y.code kY 299 24 = some (.iconst 1) ∧ Int32.ofInt 1 = 1 ∧ 25 = 24 + 1 := by decide +kernel
theorem c299_25 : mj_Y.code kY 299 25 = some (.goto 26) ∧ mj_tg 25 26 = some 51 := by decide +kernel
theorem c299_28 : mj_Y.code kY 299 28 = some (.aload_n 0) ∧ ((0 : Fin 4) : Nat) = 0 ∧ 29 = 28 + 1 := by decide +kernel
theorem c299_29 : mj_Y.code kY 299 29 = some (.getfield 127) ∧ mj_Y.fl kY 299 127 12 = some (57, (.array .boolean), false) ∧ 32 = 29 + 3 := by decide +kernel
theorem c299_32 : mj_Y.code kY 299 32 = some (.iload_n 1) ∧ ((1 : Fin 4) : Nat) = 1 ∧ 33 = 32 + 1 := by decide +kernel
theorem c299_33 : mj_Y.code kY 299 33 = some .baload ∧ 34 = 33 + 1 := by decide +kernel
theorem c299_34 : mj_Y.code kY 299 34 = some (.ifCond .eq 12) ∧ mj_tg 34 12 = some 46 ∧ 37 = 34 + 3 := by decide +kernel
theorem c299_37 : mj_Y.code kY 299 37 = some (.aload_n 0) ∧ ((0 : Fin 4) : Nat) = 0 ∧ 38 = 37 + 1 := by decide +kernel
theorem c299_38 : mj_Y.code kY 299 38 = some (.getfield 127) ∧ mj_Y.fl kY 299 127 12 = some (57, (.array .boolean), false) ∧ 41 = 38 + 3 := by decide +kernel
theorem c299_41 : mj_Y.code kY 299 41 = some (.iload_n 2) ∧ ((2 : Fin 4) : Nat) = 2 ∧ 42 = 41 + 1 := by decide +kernel
theorem c299_42 : mj_Y.code kY 299 42 = some .baload ∧ 43 = 42 + 1 := by decide +kernel
theorem c299_43 : mj_Y.code kY 299 43 = some (.ifCond .ne 7) ∧ mj_tg 43 7 = some 50 ∧ 46 = 43 + 3 := by decide +kernel
theorem c299_46 : mj_Y.code kY 299 46 = some (.iconst 2) ∧ Int32.ofInt 2 = 2 ∧ 47 = 46 + 1 := by decide +kernel
theorem c299_47 : mj_Y.code kY 299 47 = some (.goto 4) ∧ mj_tg 47 4 = some 51 := by decide +kernel
theorem c299_50 : mj_Y.code kY 299 50 = some (.iconst 0) ∧ Int32.ofInt 0 = 0 ∧ 51 = 50 + 1 := by decide +kernel
theorem c299_51 : mj_Y.code kY 299 51 = some (.putfield 142) ∧ mj_Y.fl kY 299 142 12 = some (0, .int, true) ∧ 54 = 51 + 3 := by decide +kernel
theorem c299_54 : mj_Y.code kY 299 54 = some (.aload_n 0) ∧ ((0 : Fin 4) : Nat) = 0 ∧ 55 = 54 + 1 := by decide +kernel
theorem c299_55 : mj_Y.code kY 299 55 = some (.getfield 142) ∧ mj_Y.fl kY 299 142 12 = some (0, .int, true) ∧ 58 = 55 + 3 := by decide +kernel
theorem c299_58 : mj_Y.code kY 299 58 = some (.ifCond .le 5) ∧ mj_tg 58 5 = some 63 ∧ 61 = 58 + 3 := by decide +kernel
theorem c299_61 : mj_Y.code kY 299 61 = some (.lconst 0) ∧ Int64.ofNat ((0 : Fin 2) : Nat) = 0 ∧ 62 = 61 + 1 := by decide +kernel
theorem c299_62 : mj_Y.code kY 299 62 = some .lreturn ∧ mj_Y.rt kY 299 = some .long := by decide +kernel
theorem c299_63 : mj_Y.code kY 299 63 = some (.lconst 0) ∧ Int64.ofNat ((0 : Fin 2) : Nat) = 0 ∧ 64 = 63 + 1 := by decide +kernel
theorem c299_64 : mj_Y.code kY 299 64 = some (.lstore 4) ∧ 4 = 4 ∧ 4 + 1 < mj_Y.nL kY 299 ∧ 66 = 64 + 2 := by decide +kernel
theorem c299_66 : mj_Y.code kY 299 66 = some (.bipush 64) ∧ (Int8.ofInt 64).toInt32 = 64 ∧ 68 = 66 + 2 := by decide +kernel
theorem c299_68 : mj_Y.code kY 299 68 = some (.iload_n 1) ∧ ((1 : Fin 4) : Nat) = 1 ∧ 69 = 68 + 1 := by decide +kernel
theorem c299_69 : mj_Y.code kY 299 69 = some .imul ∧ 70 = 69 + 1 := by decide +kernel
theorem c299_70 : mj_Y.code kY 299 70 = some (.istore 6) ∧ 6 = 6 ∧ 6 < mj_Y.nL kY 299 ∧ 72 = 70 + 2 := by decide +kernel
theorem c299_72 : mj_Y.code kY 299 72 = some (.iload 6) ∧ 6 = 6 ∧ 74 = 72 + 2 := by decide +kernel
theorem c299_74 : mj_Y.code kY 299 74 = some (.bipush 64) ∧ (Int8.ofInt 64).toInt32 = 64 ∧ 76 = 74 + 2 := by decide +kernel
theorem c299_76 : mj_Y.code kY 299 76 = some (.iload_n 1) ∧ ((1 : Fin 4) : Nat) = 1 ∧ 77 = 76 + 1 := by decide +kernel
theorem c299_77 : mj_Y.code kY 299 77 = some .imul ∧ 78 = 77 + 1 := by decide +kernel
theorem c299_78 : mj_Y.code kY 299 78 = some (.aload_n 0) ∧ ((0 : Fin 4) : Nat) = 0 ∧ 79 = 78 + 1 := by decide +kernel
theorem c299_79 : mj_Y.code kY 299 79 = some (.getfield 130) ∧ mj_Y.fl kY 299 130 12 = some (58, (.array .int), false) ∧ 82 = 79 + 3 := by decide +kernel
theorem c299_82 : mj_Y.code kY 299 82 = some (.iload_n 1) ∧ ((1 : Fin 4) : Nat) = 1 ∧ 83 = 82 + 1 := by decide +kernel
theorem c299_83 : mj_Y.code kY 299 83 = some .iaload ∧ 84 = 83 + 1 := by decide +kernel
theorem c299_84 : mj_Y.code kY 299 84 = some .iadd ∧ 85 = 84 + 1 := by decide +kernel
theorem c299_85 : mj_Y.code kY 299 85 = some (.if_icmp .ge 113) ∧ mj_tg 85 113 = some 198 ∧ 88 = 85 + 3 := by decide +kernel
theorem c299_88 : mj_Y.code kY 299 88 = some (.bipush 64) ∧ (Int8.ofInt 64).toInt32 = 64 ∧ 90 = 88 + 2 := by decide +kernel
theorem c299_90 : mj_Y.code kY 299 90 = some (.iload_n 2) ∧ ((2 : Fin 4) : Nat) = 2 ∧ 91 = 90 + 1 := by decide +kernel
theorem c299_91 : mj_Y.code kY 299 91 = some .imul ∧ 92 = 91 + 1 := by decide +kernel
theorem c299_92 : mj_Y.code kY 299 92 = some (.istore 7) ∧ 7 = 7 ∧ 7 < mj_Y.nL kY 299 ∧ 94 = 92 + 2 := by decide +kernel
theorem c299_94 : mj_Y.code kY 299 94 = some (.iload 7) ∧ 7 = 7 ∧ 96 = 94 + 2 := by decide +kernel
theorem c299_96 : mj_Y.code kY 299 96 = some (.bipush 64) ∧ (Int8.ofInt 64).toInt32 = 64 ∧ 98 = 96 + 2 := by decide +kernel
theorem c299_98 : mj_Y.code kY 299 98 = some (.iload_n 2) ∧ ((2 : Fin 4) : Nat) = 2 ∧ 99 = 98 + 1 := by decide +kernel
theorem c299_99 : mj_Y.code kY 299 99 = some .imul ∧ 100 = 99 + 1 := by decide +kernel
theorem c299_100 : mj_Y.code kY 299 100 = some (.aload_n 0) ∧ ((0 : Fin 4) : Nat) = 0 ∧ 101 = 100 + 1 := by decide +kernel
theorem c299_101 : mj_Y.code kY 299 101 = some (.getfield 130) ∧ mj_Y.fl kY 299 130 12 = some (58, (.array .int), false) ∧ 104 = 101 + 3 := by decide +kernel
theorem c299_104 : mj_Y.code kY 299 104 = some (.iload_n 2) ∧ ((2 : Fin 4) : Nat) = 2 ∧ 105 = 104 + 1 := by decide +kernel
theorem c299_105 : mj_Y.code kY 299 105 = some .iaload ∧ 106 = 105 + 1 := by decide +kernel
theorem c299_106 : mj_Y.code kY 299 106 = some .iadd ∧ 107 = 106 + 1 := by decide +kernel
theorem c299_107 : mj_Y.code kY 299 107 = some (.if_icmp .ge 85) ∧ mj_tg 107 85 = some 192 ∧ 110 = 107 + 3 := by decide +kernel
theorem c299_110 : mj_Y.code kY 299 110 = some (.aload_n 0) ∧ ((0 : Fin 4) : Nat) = 0 ∧ 111 = 110 + 1 := by decide +kernel
theorem c299_111 : mj_Y.code kY 299 111 = some (.getfield 133) ∧ mj_Y.fl kY 299 133 12 = some (59, (.array .int), false) ∧ 114 = 111 + 3 := by decide +kernel
theorem c299_114 : mj_Y.code kY 299 114 = some (.iload 6) ∧ 6 = 6 ∧ 116 = 114 + 2 := by decide +kernel
theorem c299_116 : mj_Y.code kY 299 116 = some .iaload ∧ 117 = 116 + 1 := by decide +kernel
theorem c299_117 : mj_Y.code kY 299 117 = some (.aload_n 0) ∧ ((0 : Fin 4) : Nat) = 0 ∧ 118 = 117 + 1 := by decide +kernel
theorem c299_118 : mj_Y.code kY 299 118 = some (.getfield 133) ∧ mj_Y.fl kY 299 133 12 = some (59, (.array .int), false) ∧ 121 = 118 + 3 := by decide +kernel
theorem c299_121 : mj_Y.code kY 299 121 = some (.iload 7) ∧ 7 = 7 ∧ 123 = 121 + 2 := by decide +kernel
theorem c299_123 : mj_Y.code kY 299 123 = some .iaload ∧ 124 = 123 + 1 := by decide +kernel
theorem c299_124 : mj_Y.code kY 299 124 = some (.if_icmp .ge 7) ∧ mj_tg 124 7 = some 131 ∧ 127 = 124 + 3 := by decide +kernel
theorem c299_127 : mj_Y.code kY 299 127 = some (.iconst (-1)) ∧ Int32.ofInt (-1) = (-1) ∧ 128 = 127 + 1 := by decide +kernel
theorem c299_128 : mj_Y.code kY 299 128 = some (.goto 25) ∧ mj_tg 128 25 = some 153 := by decide +kernel
theorem c299_131 : mj_Y.code kY 299 131 = some (.aload_n 0) ∧ ((0 : Fin 4) : Nat) = 0 ∧ 132 = 131 + 1 := by decide +kernel
theorem c299_132 : mj_Y.code kY 299 132 = some (.getfield 133) ∧ mj_Y.fl kY 299 133 12 = some (59, (.array .int), false) ∧ 135 = 132 + 3 := by decide +kernel
theorem c299_135 : mj_Y.code kY 299 135 = some (.iload 6) ∧ 6 = 6 ∧ 137 = 135 + 2 := by decide +kernel
theorem c299_137 : mj_Y.code kY 299 137 = some .iaload ∧ 138 = 137 + 1 := by decide +kernel
theorem c299_138 : mj_Y.code kY 299 138 = some (.aload_n 0) ∧ ((0 : Fin 4) : Nat) = 0 ∧ 139 = 138 + 1 := by decide +kernel
theorem c299_139 : mj_Y.code kY 299 139 = some (.getfield 133) ∧ mj_Y.fl kY 299 133 12 = some (59, (.array .int), false) ∧ 142 = 139 + 3 := by decide +kernel
theorem c299_142 : mj_Y.code kY 299 142 = some (.iload 7) ∧ 7 = 7 ∧ 144 = 142 + 2 := by decide +kernel
theorem c299_144 : mj_Y.code kY 299 144 = some .iaload ∧ 145 = 144 + 1 := by decide +kernel
theorem c299_145 : mj_Y.code kY 299 145 = some (.if_icmp .ne 7) ∧ mj_tg 145 7 = some 152 ∧ 148 = 145 + 3 := by decide +kernel
theorem c299_148 : mj_Y.code kY 299 148 = some (.iconst 0) ∧ Int32.ofInt 0 = 0 ∧ 149 = 148 + 1 := by decide +kernel
theorem c299_149 : mj_Y.code kY 299 149 = some (.goto 4) ∧ mj_tg 149 4 = some 153 := by decide +kernel
theorem c299_152 : mj_Y.code kY 299 152 = some (.iconst 1) ∧ Int32.ofInt 1 = 1 ∧ 153 = 152 + 1 := by decide +kernel
theorem c299_153 : mj_Y.code kY 299 153 = some (.istore 8) ∧ 8 = 8 ∧ 8 < mj_Y.nL kY 299 ∧ 155 = 153 + 2 := by decide +kernel
theorem c299_155 : mj_Y.code kY 299 155 = some (.iload 8) ∧ 8 = 8 ∧ 157 = 155 + 2 := by decide +kernel
theorem c299_157 : mj_Y.code kY 299 157 = some (.iload_n 3) ∧ ((3 : Fin 4) : Nat) = 3 ∧ 158 = 157 + 1 := by decide +kernel
theorem c299_158 : mj_Y.code kY 299 158 = some (.if_icmp .ne 24) ∧ mj_tg 158 24 = some 182 ∧ 161 = 158 + 3 := by decide +kernel
theorem c299_161 : mj_Y.code kY 299 161 = some (.lload 4) ∧ 4 = 4 ∧ 163 = 161 + 2 := by decide +kernel
theorem c299_163 : mj_Y.code kY 299 163 = some (.aload_n 0) ∧ ((0 : Fin 4) : Nat) = 0 ∧ 164 = 163 + 1 := by decide +kernel
theorem c299_164 : mj_Y.code kY 299 164 = some (.getfield 136) ∧ mj_Y.fl kY 299 136 12 = some (60, (.array .long), false) ∧ 167 = 164 + 3 := by decide +kernel
theorem c299_167 : mj_Y.code kY 299 167 = some (.iload 6) ∧ 6 = 6 ∧ 169 = 167 + 2 := by decide +kernel
theorem c299_169 : mj_Y.code kY 299 169 = some .laload ∧ 170 = 169 + 1 := by decide +kernel
theorem c299_170 : mj_Y.code kY 299 170 = some (.aload_n 0) ∧ ((0 : Fin 4) : Nat) = 0 ∧ 171 = 170 + 1 := by decide +kernel
theorem c299_171 : mj_Y.code kY 299 171 = some (.getfield 136) ∧ mj_Y.fl kY 299 136 12 = some (60, (.array .long), false) ∧ 174 = 171 + 3 := by decide +kernel
theorem c299_174 : mj_Y.code kY 299 174 = some (.iload 7) ∧ 7 = 7 ∧ 176 = 174 + 2 := by decide +kernel
theorem c299_176 : mj_Y.code kY 299 176 = some .laload ∧ 177 = 176 + 1 := by decide +kernel
theorem c299_177 : mj_Y.code kY 299 177 = some .lmul ∧ 178 = 177 + 1 := by decide +kernel
theorem c299_178 : mj_Y.code kY 299 178 = some .ladd ∧ 179 = 178 + 1 := by decide +kernel
theorem c299_179 : mj_Y.code kY 299 179 = some (.goto 5) ∧ mj_tg 179 5 = some 184 := by decide +kernel
theorem c299_182 : mj_Y.code kY 299 182 = some (.lload 4) ∧ 4 = 4 ∧ 184 = 182 + 2 := by decide +kernel
theorem c299_184 : mj_Y.code kY 299 184 = some (.lstore 4) ∧ 4 = 4 ∧ 4 + 1 < mj_Y.nL kY 299 ∧ 186 = 184 + 2 := by decide +kernel
theorem c299_186 : mj_Y.code kY 299 186 = some (.iinc 7 1) ∧ 7 < mj_Y.nL kY 299 ∧ Int32.ofInt 1 = 1 ∧ 189 = 186 + 3 := by decide +kernel
theorem c299_189 : mj_Y.code kY 299 189 = some (.goto (-95)) ∧ mj_tg 189 (-95) = some 94 := by decide +kernel
theorem c299_192 : mj_Y.code kY 299 192 = some (.iinc 6 1) ∧ 6 < mj_Y.nL kY 299 ∧ Int32.ofInt 1 = 1 ∧ 195 = 192 + 3 := by decide +kernel
theorem c299_195 : mj_Y.code kY 299 195 = some (.goto (-123)) ∧ mj_tg 195 (-123) = some 72 := by decide +kernel
theorem c299_198 : mj_Y.code kY 299 198 = some (.lload 4) ∧ 4 = 4 ∧ 200 = 198 + 2 := by decide +kernel
theorem c299_200 : mj_Y.code kY 299 200 = some .lreturn ∧ mj_Y.rt kY 299 = some .long := by decide +kernel
