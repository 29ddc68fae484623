theorem c170_0 : mj_Y.code kY 170 0 = some (.iconst 0) ∧ Int32.ofInt 0 = 0 ∧ 1 = 0 + 1 := by decide +kernel
theorem c170_1 : mj_Y.code kY 170 1 = some (.istore 4) ∧ 4 = 4 ∧ 4 < mj_Y.nL kY 170 ∧ 3 = 1 + 2 := by decide +kernel
theorem c170_3 : mj_Y.code kY 170 3 = some (.iconst 0) ∧ Int32.ofInt 0 = 0 ∧ 4 = 3 + 1 := by decide +kernel
theorem c170_4 : mj_Y.code kY 170 4 = some (.istore 5) ∧ 5 = 5 ∧ 5 < mj_Y.nL kY 170 ∧ 6 = 4 + 2 := by decide +kernel
theorem c170_6 : mj_Y.code kY 170 6 = some (.iload 5) ∧ 5 = 5 ∧ 8 = 6 + 2 := by decide +kernel
theorem c170_8 : mj_Y.code kY 170 8 = some (.aload_n 0) ∧ ((0 : Fin 4) : Nat) = 0 ∧ 9 = 8 + 1 := by decide +kernel
theorem c170_9 : mj_Y.code kY 170 9 = some (.getfield 23) ∧ mj_Y.fl kY 170 23 11 = some (2, .int, false) ∧ 12 = 9 + 3 := by decide +kernel
theorem c170_12 : mj_Y.code kY 170 12 = some (.if_icmp .ge 28) ∧ mj_tg 12 28 = some 40 ∧ 15 = 12 + 3 := by decide +kernel
theorem c170_15 : mj_Y.code kY 170 15 = some (.iload 4) ∧ 4 = 4 ∧ 17 = 15 + 2 := by decide +kernel
theorem c170_17 : mj_Y.code kY 170 17 = some (.ifCond .ne 23) ∧ mj_tg 17 23 = some 40 ∧ 20 = 17 + 3 := by decide +kernel
theorem c170_20 : mj_Y.code kY 170 20 = some (.aload_n 0) ∧ ((0 : Fin 4) : Nat) = 0 ∧ 21 = 20 + 1 := by decide +kernel
theorem c170_21 : mj_Y.code kY 170 21 = some (.getfield 27) ∧ mj_Y.fl kY 170 27 11 = some (3, (.object "DiceOdds$Statement"), false) ∧ 24 = 21 + 3 := by decide +kernel
theorem c170_24 : mj_Y.code kY 170 24 = some (.aload_n 1) ∧ ((1 : Fin 4) : Nat) = 1 ∧ 25 = 24 + 1 := by decide +kernel
theorem c170_25 : mj_Y.code kY 170 25 = some (.aload_n 2) ∧ ((2 : Fin 4) : Nat) = 2 ∧ 26 = 25 + 1 := by decide +kernel
theorem c170_26 : mj_Y.code kY 170 26 = some (.iload_n 3) ∧ ((3 : Fin 4) : Nat) = 3 ∧ 27 = 26 + 1 := by decide +kernel
theorem c170_27 : mj_Y.code kY 170 27 = some (.iconst 1) ∧ Int32.ofInt 1 = 1 ∧ 28 = 27 + 1 := by decide +kernel
theorem c170_28 : mj_Y.code kY 170 28 = some .iadd ∧ 29 = 28 + 1 := by decide +kernel
theorem c170_29 : mj_Y.code kY 170 29 = some (.invokestatic 152) ∧ mj_Y.pr kY 170 152 = none ∧ mj_Y.cs kY 170 152 = some (138, 4) ∧ mj_Y.nL kY 138 = 6 ∧ 32 = 29 + 3 := by decide +kernel
theorem c170_32 : mj_Y.code kY 170 32 = some (.istore 4) ∧ 4 = 4 ∧ 4 < mj_Y.nL kY 170 ∧ 34 = 32 + 2 := by decide +kernel
theorem c170_34 : mj_Y.code kY 170 34 = some (.iinc 5 1) ∧ 5 < mj_Y.nL kY 170 ∧ Int32.ofInt 1 = 1 ∧ 37 = 34 + 3 := by decide +kernel
theorem c170_37 : mj_Y.code kY 170 37 = some (.goto (-31)) ∧ mj_tg 37 (-31) = some 6 := by decide +kernel
theorem c170_40 : mj_Y.code kY 170 40 = some (.iload 4) ∧ 4 = 4 ∧ 42 = 40 + 2 := by decide +kernel
theorem c170_42 : mj_Y.code kY 170 42 = some .ireturn ∧ mj_Y.rt kY 170 = some .int := by decide +kernel
theorem c171_0 : mj_Y.code kY 171 0 = some (.aload_n 2) ∧ ((2 : Fin 4) : Nat) = 2 ∧ 1 = 0 + 1 := by decide +kernel
theorem c171_1 : mj_Y.code kY 171 1 = some (.getfield 119) ∧ mj_Y.fl kY 171 119 3 = some (9, (.object "DiceOdds$States"), false) ∧ 4 = 1 + 3 := by decide +kernel
theorem c171_4 : mj_Y.code kY 171 4 = some (.astore_n 3) ∧ ((3 : Fin 4) : Nat) = 3 ∧ 3 < mj_Y.nL kY 171 ∧ 5 = 4 + 1 := by decide +kernel
theorem c171_5 : mj_Y.code kY 171 5 = some (.aload_n 3) ∧ ((3 : Fin 4) : Nat) = 3 ∧ 6 = 5 + 1 := by decide +kernel
theorem c171_6 : mj_Y.code kY 171 6 = some (.invokevirtual 123) ∧ mj_Y.na kY 171 123 = some 0 ∧ mj_Y.cv kY 171 123 2 = some 136 ∧ mj_Y.nL kY 136 = 1 ∧ 9 = 6 + 3 := by decide +kernel
theorem c171_9 : mj_Y.code kY 171 9 = some (.iconst 1) ∧ Int32.ofInt 1 = 1 ∧ 10 = 9 + 1 := by decide +kernel
theorem c171_10 : mj_Y.code kY 171 10 = some (.istore 4) ∧ 4 = 4 ∧ 4 < mj_Y.nL kY 171 ∧ 12 = 10 + 2 := by decide +kernel
theorem c171_12 : mj_Y.code kY 171 12 = some (.iconst 0) ∧ Int32.ofInt 0 = 0 ∧ 13 = 12 + 1 := by decide +kernel
theorem c171_13 : mj_Y.code kY 171 13 = some (.istore 5) ∧ 5 = 5 ∧ 5 < mj_Y.nL kY 171 ∧ 15 = 13 + 2 := by decide +kernel
theorem c171_15 : mj_Y.code kY 171 15 = some (.iload 5) ∧ 5 = 5 ∧ 17 = 15 + 2 := by decide +kernel
theorem c171_17 : mj_Y.code kY 171 17 = some (.aload_n 1) ∧ ((1 : Fin 4) : Nat) = 1 ∧ 18 = 17 + 1 := by decide +kernel
theorem c171_18 : mj_Y.code kY 171 18 = some (.getfield 86) ∧ mj_Y.fl kY 171 86 2 = some (2, .int, true) ∧ 21 = 18 + 3 := by decide +kernel
theorem c171_21 : mj_Y.code kY 171 21 = some (.if_icmp .ge 55) ∧ mj_tg 21 55 = some 76 ∧ 24 = 21 + 3 := by decide +kernel
theorem c171_24 : mj_Y.code kY 171 24 = some (.aload_n 2) ∧ ((2 : Fin 4) : Nat) = 2 ∧ 25 = 24 + 1 := by decide +kernel
theorem c171_25 : mj_Y.code kY 171 25 = some (.aload_n 0) ∧ ((0 : Fin 4) : Nat) = 0 ∧ 26 = 25 + 1 := by decide +kernel
theorem c171_26 : mj_Y.code kY 171 26 = some (.getfield 19) ∧ mj_Y.fl kY 171 19 11 = some (1, (.object "DiceOdds$Expression"), false) ∧ 29 = 26 + 3 := by decide +kernel
theorem c171_29 : mj_Y.code kY 171 29 = some (.aload_n 1) ∧ ((1 : Fin 4) : Nat) = 1 ∧ 30 = 29 + 1 := by decide +kernel
theorem c171_30 : mj_Y.code kY 171 30 = some (.iload 5) ∧ 5 = 5 ∧ 32 = 30 + 2 := by decide +kernel
theorem c171_32 : mj_Y.code kY 171 32 = some (.invokevirtual 126) ∧ mj_Y.na kY 171 126 = some 3 ∧ mj_Y.cv kY 171 126 3 = some 141 ∧ mj_Y.nL kY 141 = 4 ∧ 35 = 32 + 3 := by decide +kernel
theorem c171_35 : mj_Y.code kY 171 35 = some (.ifCond .ne 5) ∧ mj_tg 35 5 = some 40 ∧ 38 = 35 + 3 := by decide +kernel
theorem c171_38 : mj_Y.code kY 171 38 = some (.iconst (-1)) ∧ Int32.ofInt (-1) = (-1) ∧ 39 = 38 + 1 := by decide +kernel
theorem c171_39 : mj_Y.code kY 171 39 = some .ireturn ∧ mj_Y.rt kY 171 = some .int := by decide +kernel
theorem c171_40 : mj_Y.code kY 171 40 = some (.iload 4) ∧ 4 = 4 ∧ 42 = 40 + 2 := by decide +kernel
theorem c171_42 : mj_Y.code kY 171 42 = some (.ifCond .eq 25) ∧ mj_tg 42 25 = some 67 ∧ 45 = 42 + 3 := by decide +kernel
theorem c171_45 : mj_Y.code kY 171 45 = some (.aload_n 2) ∧ ((2 : Fin 4) : Nat) = 2 ∧ 46 = 45 + 1 := by decide +kernel
theorem c171_46 : mj_Y.code kY 171 46 = some (.aload_n 3) ∧ ((3 : Fin 4) : Nat) = 3 ∧ 47 = 46 + 1 := by decide +kernel
theorem c171_47 : mj_Y.code kY 171 47 = some (.aload_n 1) ∧ ((1 : Fin 4) : Nat) = 1 ∧ 48 = 47 + 1 := by decide +kernel
theorem c171_48 : mj_Y.code kY 171 48 = some (.iload 5) ∧ 5 = 5 ∧ 50 = 48 + 2 := by decide +kernel
theorem c171_50 : mj_Y.code kY 171 50 = some (.aload_n 0) ∧ ((0 : Fin 4) : Nat) = 0 ∧ 51 = 50 + 1 := by decide +kernel
theorem c171_51 : mj_Y.code kY 171 51 = some (.getfield 15) ∧ mj_Y.fl kY 171 15 11 = some (0, .char, false) ∧ 54 = 51 + 3 := by decide +kernel
theorem c171_54 : mj_Y.code kY 171 54 = some (.bipush 65) ∧ (Int8.ofInt 65).toInt32 = 65 ∧ 56 = 54 + 2 := by decide +kernel
theorem c171_56 : mj_Y.code kY 171 56 = some .isub ∧ 57 = 56 + 1 := by decide +kernel
theorem c171_57 : mj_Y.code kY 171 57 = some (.invokevirtual 130) ∧ mj_Y.na kY 171 130 = some 4 ∧ mj_Y.cv kY 171 130 3 = some 172 ∧ mj_Y.nL kY 172 = 6 ∧ 60 = 57 + 3 := by decide +kernel
theorem c171_60 : mj_Y.code kY 171 60 = some (.ifCond .eq 7) ∧ mj_tg 60 7 = some 67 ∧ 63 = 60 + 3 := by decide +kernel
theorem c171_63 : mj_Y.code kY 171 63 = some (.iconst 1) ∧ Int32.ofInt 1 = 1 ∧ 64 = 63 + 1 := by decide +kernel
theorem c171_64 : mj_Y.code kY 171 64 = some (.goto 4) ∧ mj_tg 64 4 = some 68 := by decide +kernel
theorem c171_67 : mj_Y.code kY 171 67 = some (.iconst 0) ∧ Int32.ofInt 0 = 0 ∧ 68 = 67 + 1 := by decide +kernel
theorem c171_68 : mj_Y.code kY 171 68 = some (.istore 4) ∧ 4 = 4 ∧ 4 < mj_Y.nL kY 171 ∧ 70 = 68 + 2 := by decide +kernel
theorem c171_70 : mj_Y.code kY 171 70 = some (.iinc 5 1) ∧ 5 < mj_Y.nL kY 171 ∧ Int32.ofInt 1 = 1 ∧ 73 = 70 + 3 := by decide +kernel
theorem c171_73 : mj_Y.code kY 171 73 = some (.goto (-58)) ∧ mj_tg 73 (-58) = some 15 := by decide +kernel
theorem c171_76 : mj_Y.code kY 171 76 = some (.iload 4) ∧ 4 = 4 ∧ 78 = 76 + 2 := by decide +kernel
theorem c171_78 : mj_Y.code kY 171 78 = some (.ifCond .ne 6) ∧ mj_tg 78 6 = some 84 ∧ 81 = 78 + 3 := by decide +kernel
theorem c171_81 : mj_Y.code kY 171 81 = some (.bipush (-2)) ∧ (Int8.ofInt (-2)).toInt32 = (-2) ∧ 83 = 81 + 2 := by decide +kernel
theorem c171_83 : mj_Y.code kY 171 83 = some .ireturn ∧ mj_Y.rt kY 171 = some .int := by decide +kernel
theorem c171_84 : mj_Y.code kY 171 84 = some (.aload_n 1) ∧ ((1 : Fin 4) : Nat) = 1 ∧ 85 = 84 + 1 := by decide +kernel
theorem c171_85 : mj_Y.code kY 171 85 = some (.aload_n 3) ∧ ((3 : Fin 4) : Nat) = 3 ∧ 86 = 85 + 1 := by decide +kernel
theorem c171_86 : mj_Y.code kY 171 86 = some (.invokevirtual 134) ∧ mj_Y.na kY 171 134 = some 1 ∧ mj_Y.cv kY 171 134 2 = some 165 ∧ mj_Y.nL kY 165 = 5 ∧ 89 = 86 + 3 := by decide +kernel
theorem c171_89 : mj_Y.code kY 171 89 = some (.iconst 0) ∧ Int32.ofInt 0 = 0 ∧ 90 = 89 + 1 := by decide +kernel
theorem c171_90 : mj_Y.code kY 171 90 = some .ireturn ∧ mj_Y.rt kY 171 = some .int := by decide +kernel
theorem c172_0 : mj_Y.code kY 172 0 = some (.iconst 0) ∧ Int32.ofInt 0 = 0 ∧ 1 = 0 + 1 := by decide +kernel
theorem c172_1 : mj_Y.code kY 172 1 = some (.istore 5) ∧ 5 = 5 ∧ 5 < mj_Y.nL kY 172 ∧ 3 = 1 + 2 := by decide +kernel
theorem c172_3 : mj_Y.code kY 172 3 = some (.iload 5) ∧ 5 = 5 ∧ 5 = 3 + 2 := by decide +kernel
theorem c172_5 : mj_Y.code kY 172 5 = some (.aload_n 0) ∧ ((0 : Fin 4) : Nat) = 0 ∧ 6 = 5 + 1 := by decide +kernel
theorem c172_6 : mj_Y.code kY 172 6 = some (.getfield 19) ∧ mj_Y.fl kY 172 19 3 = some (2, (.array .int), false) ∧ 9 = 6 + 3 := by decide +kernel
theorem c172_9 : mj_Y.code kY 172 9 = some (.iconst 1) ∧ Int32.ofInt 1 = 1 ∧ 10 = 9 + 1 := by decide +kernel
theorem c172_10 : mj_Y.code kY 172 10 = some .iaload ∧ 11 = 10 + 1 := by decide +kernel
theorem c172_11 : mj_Y.code kY 172 11 = some (.if_icmp .ge 36) ∧ mj_tg 11 36 = some 47 ∧ 14 = 11 + 3 := by decide +kernel
theorem c172_14 : mj_Y.code kY 172 14 = some (.aload_n 1) ∧ ((1 : Fin 4) : Nat) = 1 ∧ 15 = 14 + 1 := by decide +kernel
theorem c172_15 : mj_Y.code kY 172 15 = some (.aload_n 2) ∧ ((2 : Fin 4) : Nat) = 2 ∧ 16 = 15 + 1 := by decide +kernel
theorem c172_16 : mj_Y.code kY 172 16 = some (.iload_n 3) ∧ ((3 : Fin 4) : Nat) = 3 ∧ 17 = 16 + 1 := by decide +kernel
theorem c172_17 : mj_Y.code kY 172 17 = some (.iload 4) ∧ 4 = 4 ∧ 19 = 17 + 2 := by decide +kernel
theorem c172_19 : mj_Y.code kY 172 19 = some (.aload_n 0) ∧ ((0 : Fin 4) : Nat) = 0 ∧ 20 = 19 + 1 := by decide +kernel
theorem c172_20 : mj_Y.code kY 172 20 = some (.getfield 11) ∧ mj_Y.fl kY 172 11 3 = some (0, (.array .int), false) ∧ 23 = 20 + 3 := by decide +kernel
theorem c172_23 : mj_Y.code kY 172 23 = some (.iload 5) ∧ 5 = 5 ∧ 25 = 23 + 2 := by decide +kernel
theorem c172_25 : mj_Y.code kY 172 25 = some .iaload ∧ 26 = 25 + 1 := by decide +kernel
theorem c172_26 : mj_Y.code kY 172 26 = some (.aload_n 0) ∧ ((0 : Fin 4) : Nat) = 0 ∧ 27 = 26 + 1 := by decide +kernel
theorem c172_27 : mj_Y.code kY 172 27 = some (.getfield 15) ∧ mj_Y.fl kY 172 15 3 = some (1, (.array .long), false) ∧ 30 = 27 + 3 := by decide +kernel
theorem c172_30 : mj_Y.code kY 172 30 = some (.iload 5) ∧ 5 = 5 ∧ 32 = 30 + 2 := by decide +kernel
theorem c172_32 : mj_Y.code kY 172 32 = some .laload ∧ 33 = 32 + 1 := by decide +kernel
theorem c172_33 : mj_Y.code kY 172 33 = some (.invokevirtual 89) ∧ mj_Y.na kY 172 89 = some 5 ∧ mj_Y.cv kY 172 89 2 = some 173 ∧ mj_Y.nL kY 173 = 7 ∧ 36 = 33 + 3 := by decide +kernel
theorem c172_36 : mj_Y.code kY 172 36 = some (.ifCond .ne 5) ∧ mj_tg 36 5 = some 41 ∧ 39 = 36 + 3 := by decide +kernel
theorem c172_39 : mj_Y.code kY 172 39 = some (.iconst 0) ∧ Int32.ofInt 0 = 0 ∧ 40 = 39 + 1 := by decide +kernel
theorem c172_40 : mj_Y.code kY 172 40 = some .ireturn ∧ mj_Y.rt kY 172 = some .boolean := by decide +kernel
theorem c172_41 : mj_Y.code kY 172 41 = some (.iinc 5 1) ∧ 5 < mj_Y.nL kY 172 ∧ Int32.ofInt 1 = 1 ∧ 44 = 41 + 3 := by decide +kernel
theorem c172_44 : mj_Y.code kY 172 44 = some (.goto (-41)) ∧ mj_tg 44 (-41) = some 3 := by decide +kernel
theorem c172_47 : mj_Y.code kY 172 47 = some (.iconst 1) ∧ Int32.ofInt 1 = 1 ∧ 48 = 47 + 1 := by decide +kernel
theorem c172_48 : mj_Y.code kY 172 48 = some .ireturn ∧ mj_Y.rt kY 172 = some .boolean := by decide +kernel
theorem c173_0 : mj_Y.code kY 173 0 = some (.aload_n 0) ∧ ((0 : Fin 4) : Nat) = 0 ∧ 1 = 0 + 1 := by decide +kernel
theorem c173_1 : mj_Y.code kY 173 1 = some (.aload_n 1) ∧ ((1 : Fin 4) : Nat) = 1 ∧ 2 = 1 + 1 := by decide +kernel
theorem c173_2 : mj_Y.code kY 173 2 = some (.iload_n 2) ∧ ((2 : Fin 4) : Nat) = 2 ∧ 3 = 2 + 1 := by decide +kernel
theorem c173_3 : mj_Y.code kY 173 3 = some (.invokevirtual 23) ∧ mj_Y.na kY 173 23 = some 2 ∧ mj_Y.cv kY 173 23 2 = some 164 ∧ mj_Y.nL kY 164 = 3 ∧ 6 = 3 + 3 := by decide +kernel
theorem c173_6 : mj_Y.code kY 173 6 = some (.aload_n 0) ∧ ((0 : Fin 4) : Nat) = 0 ∧ 7 = 6 + 1 := by decide +kernel
theorem c173_7 : mj_Y.code kY 173 7 = some (.getfield 9) ∧ mj_Y.fl kY 173 9 2 = some (0, (.array .int), true) ∧ 10 = 7 + 3 := by decide +kernel
theorem c173_10 : mj_Y.code kY 173 10 = some (.aload_n 0) ∧ ((0 : Fin 4) : Nat) = 0 ∧ 11 = 10 + 1 := by decide +kernel
theorem c173_11 : mj_Y.code kY 173 11 = some (.getfield 19) ∧ mj_Y.fl kY 173 19 2 = some (2, .int, true) ∧ 14 = 11 + 3 := by decide +kernel
theorem c173_14 : mj_Y.code kY 173 14 = some (.bipush 6) ∧ (Int8.ofInt 6).toInt32 = 6 ∧ 16 = 14 + 2 := by decide +kernel
theorem c173_16 : mj_Y.code kY 173 16 = some .imul ∧ 17 = 16 + 1 := by decide +kernel
theorem c173_17 : mj_Y.code kY 173 17 = some (.iload_n 3) ∧ ((3 : Fin 4) : Nat) = 3 ∧ 18 = 17 + 1 := by decide +kernel
theorem c173_18 : mj_Y.code kY 173 18 = some .iadd ∧ 19 = 18 + 1 := by decide +kernel
theorem c173_19 : mj_Y.code kY 173 19 = some (.iload 4) ∧ 4 = 4 ∧ 21 = 19 + 2 := by decide +kernel
theorem c173_21 : mj_Y.code kY 173 21 = some .iastore ∧ 22 = 21 + 1 := by decide +kernel
theorem c173_22 : mj_Y.code kY 173 22 = some (.aload_n 0) ∧ ((0 : Fin 4) : Nat) = 0 ∧ 23 = 22 + 1 := by decide +kernel
theorem c173_23 : mj_Y.code kY 173 23 = some (.aload_n 1) ∧ ((1 : Fin 4) : Nat) = 1 ∧ 24 = 23 + 1 := by decide +kernel
theorem c173_24 : mj_Y.code kY 173 24 = some (.getfield 15) ∧ mj_Y.fl kY 173 15 2 = some (1, (.array .long), true) ∧ 27 = 24 + 3 := by decide +kernel
theorem c173_27 : mj_Y.code kY 173 27 = some (.iload_n 2) ∧ ((2 : Fin 4) : Nat) = 2 ∧ 28 = 27 + 1 := by decide +kernel
theorem c173_28 : mj_Y.code kY 173 28 = some .laload ∧ 29 = 28 + 1 := by decide +kernel
theorem c173_29 : mj_Y.code kY 173 29 = some (.lload 5) ∧ 5 = 5 ∧ 31 = 29 + 2 := by decide +kernel
theorem c173_31 : mj_Y.code kY 173 31 = some .lmul ∧ 32 = 31 + 1 := by decide +kernel
theorem c173_32 : mj_Y.code kY 173 32 = some (.invokevirtual 27) ∧ mj_Y.na kY 173 27 = some 1 ∧ mj_Y.cv kY 173 27 2 = some 168 ∧ mj_Y.nL kY 168 = 4 ∧ 35 = 32 + 3 := by decide +kernel
theorem c173_35 : mj_Y.code kY 173 35 = some .ireturn ∧ mj_Y.rt kY 173 = some .boolean := by decide +kernel
theorem c174_0 : mj_Y.code kY 174 0 = some (.iconst 0) ∧ Int32.ofInt 0 = 0 ∧ 1 = 0 + 1 := by decide +kernel
theorem c174_1 : mj_Y.code kY 174 1 = some (.istore_n 2) ∧ ((2 : Fin 4) : Nat) = 2 ∧ 2 < mj_Y.nL kY 174 ∧ 2 = 1 + 1 := by decide +kernel
theorem c174_2 : mj_Y.code kY 174 2 = some (.iload_n 2) ∧ ((2 : Fin 4) : Nat) = 2 ∧ 3 = 2 + 1 := by decide +kernel
theorem c174_3 : mj_Y.code kY 174 3 = some (.aload_n 1) ∧ ((1 : Fin 4) : Nat) = 1 ∧ 4 = 3 + 1 := by decide +kernel
theorem c174_4 : mj_Y.code kY 174 4 = some (.getfield 38) ∧ mj_Y.fl kY 174 38 2 = some (2, .int, true) ∧ 7 = 4 + 3 := by decide +kernel
theorem c174_7 : mj_Y.code kY 174 7 = some (.if_icmp .ge 25) ∧ mj_tg 7 25 = some 32 ∧ 10 = 7 + 3 := by decide +kernel
theorem c174_10 : mj_Y.code kY 174 10 = some (.aload_n 0) ∧ ((0 : Fin 4) : Nat) = 0 ∧ 11 = 10 + 1 := by decide +kernel
theorem c174_11 : mj_Y.code kY 174 11 = some (.aload_n 1) ∧ ((1 : Fin 4) : Nat) = 1 ∧ 12 = 11 + 1 := by decide +kernel
theorem c174_12 : mj_Y.code kY 174 12 = some (.iload_n 2) ∧ ((2 : Fin 4) : Nat) = 2 ∧ 13 = 12 + 1 := by decide +kernel
theorem c174_13 : mj_Y.code kY 174 13 = some (.iconst 0) ∧ Int32.ofInt 0 = 0 ∧ 14 = 13 + 1 := by decide +kernel
theorem c174_14 : mj_Y.code kY 174 14 = some (.invokevirtual 43) ∧ mj_Y.na kY 174 43 = some 2 ∧ mj_Y.cv kY 174 43 2 = some 154 ∧ mj_Y.nL kY 154 = 3 ∧ 17 = 14 + 3 := by decide +kernel
theorem c174_17 : mj_Y.code kY 174 17 = some (.aload_n 1) ∧ ((1 : Fin 4) : Nat) = 1 ∧ 18 = 17 + 1 := by decide +kernel
theorem c174_18 : mj_Y.code kY 174 18 = some (.getfield 47) ∧ mj_Y.fl kY 174 47 2 = some (1, (.array .long), true) ∧ 21 = 18 + 3 := by decide +kernel
theorem c174_21 : mj_Y.code kY 174 21 = some (.iload_n 2) ∧ ((2 : Fin 4) : Nat) = 2 ∧ 22 = 21 + 1 := by decide +kernel
theorem c174_22 : mj_Y.code kY 174 22 = some .laload ∧ 23 = 22 + 1 := by decide +kernel
theorem c174_23 : mj_Y.code kY 174 23 = some (.invokevirtual 48) ∧ mj_Y.na kY 174 48 = some 2 ∧ mj_Y.cv kY 174 48 4 = some 175 ∧ mj_Y.nL kY 175 = 5 ∧ 26 = 23 + 3 := by decide +kernel
theorem c174_26 : mj_Y.code kY 174 26 = some (.iinc 2 1) ∧ 2 < mj_Y.nL kY 174 ∧ Int32.ofInt 1 = 1 ∧ 29 = 26 + 3 := by decide +kernel
theorem c174_29 : mj_Y.code kY 174 29 = some (.goto (-27)) ∧ mj_tg 29 (-27) = some 2 := by decide +kernel
theorem c174_32 : mj_Y.code kY 174 32 = some (.aload_n 0) ∧ ((0 : Fin 4) : Nat) = 0 ∧ 33 = 32 + 1 := by decide +kernel
theorem c174_33 : mj_Y.code kY 174 33 = some (.invokevirtual 52) ∧ mj_Y.na kY 174 52 = some 0 ∧ mj_Y.cv kY 174 52 4 = some 176 ∧ mj_Y.nL kY 176 = 4 ∧ 36 = 33 + 3 := by decide +kernel
theorem c174_36 : mj_Y.code kY 174 36 = some .return_ ∧ mj_Y.rt kY 174 = none := by decide +kernel
theorem c175_0 : mj_Y.code kY 175 0 = some (.aload_n 0) ∧ ((0 : Fin 4) : Nat) = 0 ∧ 1 = 0 + 1 := by decide +kernel
theorem c175_1 : mj_Y.code kY 175 1 = some (.getfield 27) ∧ mj_Y.fl kY 175 27 4 = some (4, .int, true) ∧ 4 = 1 + 3 := by decide +kernel
theorem c175_4 : mj_Y.code kY 175 4 = some (.istore 4) ∧ 4 = 4 ∧ 4 < mj_Y.nL kY 175 ∧ 6 = 4 + 2 := by decide +kernel
theorem c175_6 : mj_Y.code kY 175 6 = some (.iload 4) ∧ 4 = 4 ∧ 8 = 6 + 2 := by decide +kernel
theorem c175_8 : mj_Y.code kY 175 8 = some (.ifCond .le 22) ∧ mj_tg 8 22 = some 30 ∧ 11 = 8 + 3 := by decide +kernel
theorem c175_11 : mj_Y.code kY 175 11 = some (.aload_n 0) ∧ ((0 : Fin 4) : Nat) = 0 ∧ 12 = 11 + 1 := by decide +kernel
theorem c175_12 : mj_Y.code kY 175 12 = some (.getfield 9) ∧ mj_Y.fl kY 175 9 4 = some (0, (.array .int), false) ∧ 15 = 12 + 3 := by decide +kernel
theorem c175_15 : mj_Y.code kY 175 15 = some (.iload 4) ∧ 4 = 4 ∧ 17 = 15 + 2 := by decide +kernel
theorem c175_17 : mj_Y.code kY 175 17 = some (.iconst 1) ∧ Int32.ofInt 1 = 1 ∧ 18 = 17 + 1 := by decide +kernel
theorem c175_18 : mj_Y.code kY 175 18 = some .isub ∧ 19 = 18 + 1 := by decide +kernel
theorem c175_19 : mj_Y.code kY 175 19 = some .iaload ∧ 20 = 19 + 1 := by decide +kernel
theorem c175_20 : mj_Y.code kY 175 20 = some (.iload_n 1) ∧ ((1 : Fin 4) : Nat) = 1 ∧ 21 = 20 + 1 := by decide +kernel
theorem c175_21 : mj_Y.code kY 175 21 = some (.if_icmp .lt 9) ∧ mj_tg 21 9 = some 30 ∧ 24 = 21 + 3 := by decide +kernel
theorem c175_24 : mj_Y.code kY 175 24 = some (.iinc 4 (-1)) ∧ 4 < mj_Y.nL kY 175 ∧ Int32.ofInt (-1) = (-1) ∧ 27 = 24 + 3 := by decide +kernel
theorem c175_27 : mj_Y.code kY 175 27 = some (.goto (-21)) ∧ mj_tg 27 (-21) = some 6 := by decide +kernel
theorem c175_30 : mj_Y.code kY 175 30 = some (.iload 4) ∧ 4 = 4 ∧ 32 = 30 + 2 := by decide +kernel
theorem c175_32 : mj_Y.code kY 175 32 = some (.aload_n 0) ∧ ((0 : Fin 4) : Nat) = 0 ∧ 33 = 32 + 1 := by decide +kernel
theorem c175_33 : mj_Y.code kY 175 33 = some (.getfield 27) ∧ mj_Y.fl kY 175 27 4 = some (4, .int, true) ∧ 36 = 33 + 3 := by decide +kernel
theorem c175_36 : mj_Y.code kY 175 36 = some (.if_icmp .ge 28) ∧ mj_tg 36 28 = some 64 ∧ 39 = 36 + 3 := by decide +kernel
theorem c175_39 : mj_Y.code kY 175 39 = some (.aload_n 0) ∧ ((0 : Fin 4) : Nat) = 0 ∧ 40 = 39 + 1 := by decide +kernel
theorem c175_40 : mj_Y.code kY 175 40 = some (.getfield 9) ∧ mj_Y.fl kY 175 9 4 = some (0, (.array .int), false) ∧ 43 = 40 + 3 := by decide +kernel
theorem c175_43 : mj_Y.code kY 175 43 = some (.iload 4) ∧ 4 = 4 ∧ 45 = 43 + 2 := by decide +kernel
theorem c175_45 : mj_Y.code kY 175 45 = some .iaload ∧ 46 = 45 + 1 := by decide +kernel
theorem c175_46 : mj_Y.code kY 175 46 = some (.iload_n 1) ∧ ((1 : Fin 4) : Nat) = 1 ∧ 47 = 46 + 1 := by decide +kernel
theorem c175_47 : mj_Y.code kY 175 47 = some (.if_icmp .ne 17) ∧ mj_tg 47 17 = some 64 ∧ 50 = 47 + 3 := by decide +kernel
theorem c175_50 : mj_Y.code kY 175 50 = some (.aload_n 0) ∧ ((0 : Fin 4) : Nat) = 0 ∧ 51 = 50 + 1 := by decide +kernel
theorem c175_51 : mj_Y.code kY 175 51 = some (.getfield 15) ∧ mj_Y.fl kY 175 15 4 = some (1, (.array .long), false) ∧ 54 = 51 + 3 := by decide +kernel
theorem c175_54 : mj_Y.code kY 175 54 = some (.iload 4) ∧ 4 = 4 ∧ 56 = 54 + 2 := by decide +kernel
theorem c175_56 : mj_Y.code kY 175 56 = some .dup2 ∧ 57 = 56 + 1 := by decide +kernel
theorem c175_57 : mj_Y.code kY 175 57 = some .laload ∧ 58 = 57 + 1 := by decide +kernel
theorem c175_58 : mj_Y.code kY 175 58 = some (.lload_n 2) ∧ ((2 : Fin 4) : Nat) = 2 ∧ 59 = 58 + 1 := by decide +kernel
theorem c175_59 : mj_Y.code kY 175 59 = some .ladd ∧ 60 = 59 + 1 := by decide +kernel
theorem c175_60 : mj_Y.code kY 175 60 = some .lastore ∧ 61 = 60 + 1 := by decide +kernel
theorem c175_61 : mj_Y.code kY 175 61 = some (.goto 86) ∧ mj_tg 61 86 = some 147 := by decide +kernel
theorem c175_64 : mj_Y.code kY 175 64 = some (.aload_n 0) ∧ ((0 : Fin 4) : Nat) = 0 ∧ 65 = 64 + 1 := by decide +kernel
theorem c175_65 : mj_Y.code kY 175 65 = some (.getfield 27) ∧ mj_Y.fl kY 175 27 4 = some (4, .int, true) ∧ 68 = 65 + 3 := by decide +kernel
theorem c175_68 : mj_Y.code kY 175 68 = some (.bipush 64) ∧ (Int8.ofInt 64).toInt32 = 64 ∧ 70 = 68 + 2 := by decide +kernel
theorem c175_70 : mj_Y.code kY 175 70 = some (.if_icmp .ge 77) ∧ mj_tg 70 77 = some 147 ∧ 73 = 70 + 3 := by decide +kernel
theorem c175_73 : mj_Y.code kY 175 73 = some (.aload_n 0) ∧ ((0 : Fin 4) : Nat) = 0 ∧ 74 = 73 + 1 := by decide +kernel
theorem c175_74 : mj_Y.code kY 175 74 = some (.getfield 9) ∧ mj_Y.fl kY 175 9 4 = some (0, (.array .int), false) ∧ 77 = 74 + 3 := by decide +kernel
theorem c175_77 : mj_Y.code kY 175 77 = some (.iload 4) ∧ 4 = 4 ∧ 79 = 77 + 2 := by decide +kernel
theorem c175_79 : mj_Y.code kY 175 79 = some (.aload_n 0) ∧ ((0 : Fin 4) : Nat) = 0 ∧ 80 = 79 + 1 := by decide +kernel
theorem c175_80 : mj_Y.code kY 175 80 = some (.getfield 9) ∧ mj_Y.fl kY 175 9 4 = some (0, (.array .int), false) ∧ 83 = 80 + 3 := by decide +kernel
theorem c175_83 : mj_Y.code kY 175 83 = some (.iload 4) ∧ 4 = 4 ∧ 85 = 83 + 2 := by decide +kernel
theorem c175_85 : mj_Y.code kY 175 85 = some (.iconst 1) ∧ Int32.ofInt 1 = 1 ∧ 86 = 85 + 1 := by decide +kernel
theorem c175_86 : mj_Y.code kY 175 86 = some .iadd ∧ 87 = 86 + 1 := by decide +kernel
theorem c175_87 : mj_Y.code kY 175 87 = some (.aload_n 0) ∧ ((0 : Fin 4) : Nat) = 0 ∧ 88 = 87 + 1 := by decide +kernel
theorem c175_88 : mj_Y.code kY 175 88 = some (.getfield 27) ∧ mj_Y.fl kY 175 27 4 = some (4, .int, true) ∧ 91 = 88 + 3 := by decide +kernel
theorem c175_91 : mj_Y.code kY 175 91 = some (.iload 4) ∧ 4 = 4 ∧ 93 = 91 + 2 := by decide +kernel
theorem c175_93 : mj_Y.code kY 175 93 = some .isub ∧ 94 = 93 + 1 := by decide +kernel
theorem c175_94 : mj_Y.code kY 175 94 = some (.invokestatic 55) ∧ mj_Y.pr kY 175 55 = some 0 ∧ 97 = 94 + 3 := by decide +kernel
theorem c175_97 : mj_Y.code kY 175 97 = some (.aload_n 0) ∧ ((0 : Fin 4) : Nat) = 0 ∧ 98 = 97 + 1 := by decide +kernel
theorem c175_98 : mj_Y.code kY 175 98 = some (.getfield 15) ∧ mj_Y.fl kY 175 15 4 = some (1, (.array .long), false) ∧ 101 = 98 + 3 := by decide +kernel
theorem c175_101 : mj_Y.code kY 175 101 = some (.iload 4) ∧ 4 = 4 ∧ 103 = 101 + 2 := by decide +kernel
theorem c175_103 : mj_Y.code kY 175 103 = some (.aload_n 0) ∧ ((0 : Fin 4) : Nat) = 0 ∧ 104 = 103 + 1 := by decide +kernel
theorem c175_104 : mj_Y.code kY 175 104 = some (.getfield 15) ∧ mj_Y.fl kY 175 15 4 = some (1, (.array .long), false) ∧ 107 = 104 + 3 := by decide +kernel
theorem c175_107 : mj_Y.code kY 175 107 = some (.iload 4) ∧ 4 = 4 ∧ 109 = 107 + 2 := by decide +kernel
theorem c175_109 : mj_Y.code kY 175 109 = some (.iconst 1) ∧ Int32.ofInt 1 = 1 ∧ 110 = 109 + 1 := by decide +kernel
theorem c175_110 : mj_Y.code kY 175 110 = some .iadd ∧ 111 = 110 + 1 := by decide +kernel
theorem c175_111 : mj_Y.code kY 175 111 = some (.aload_n 0) ∧ ((0 : Fin 4) : Nat) = 0 ∧ 112 = 111 + 1 := by decide +kernel
theorem c175_112 : mj_Y.code kY 175 112 = some (.getfield 27) ∧ mj_Y.fl kY 175 27 4 = some (4, .int, true) ∧ 115 = 112 + 3 := by decide +kernel
theorem c175_115 : mj_Y.code kY 175 115 = some (.iload 4) ∧ 4 = 4 ∧ 117 = 115 + 2 := by decide +kernel
theorem c175_117 : mj_Y.code kY 175 117 = some .isub ∧ 118 = 117 + 1 := by decide +kernel
theorem c175_118 : mj_Y.code kY 175 118 = some (.invokestatic 55) ∧ mj_Y.pr kY 175 55 = some 0 ∧ 121 = 118 + 3 := by decide +kernel
theorem c175_121 : mj_Y.code kY 175 121 = some (.aload_n 0) ∧ ((0 : Fin 4) : Nat) = 0 ∧ 122 = 121 + 1 := by decide +kernel
theorem c175_122 : mj_Y.code kY 175 122 = some (.getfield 9) ∧ mj_Y.fl kY 175 9 4 = some (0, (.array .int), false) ∧ 125 = 122 + 3 := by decide +kernel
theorem c175_125 : mj_Y.code kY 175 125 = some (.iload 4) ∧ 4 = 4 ∧ 127 = 125 + 2 := by decide +kernel
theorem c175_127 : mj_Y.code kY 175 127 = some (.iload_n 1) ∧ ((1 : Fin 4) : Nat) = 1 ∧ 128 = 127 + 1 := by decide +kernel
theorem c175_128 : mj_Y.code kY 175 128 = some .iastore ∧ 129 = 128 + 1 := by decide +kernel
theorem c175_129 : mj_Y.code kY 175 129 = some (.aload_n 0) ∧ ((0 : Fin 4) : Nat) = 0 ∧ 130 = 129 + 1 := by decide +kernel
theorem c175_130 : mj_Y.code kY 175 130 = some (.getfield 15) ∧ mj_Y.fl kY 175 15 4 = some (1, (.array .long), false) ∧ 133 = 130 + 3 := by decide +kernel
theorem c175_133 : mj_Y.code kY 175 133 = some (.iload 4) ∧ 4 = 4 ∧ 135 = 133 + 2 := by decide +kernel
theorem c175_135 : mj_Y.code kY 175 135 = some (.lload_n 2) ∧ ((2 : Fin 4) : Nat) = 2 ∧ 136 = 135 + 1 := by decide +kernel
theorem c175_136 : mj_Y.code kY 175 136 = some .lastore ∧ 137 = 136 + 1 := by decide +kernel
theorem c175_137 : mj_Y.code kY 175 137 = some (.aload_n 0) ∧ ((0 : Fin 4) : Nat) = 0 ∧ 138 = 137 + 1 := by decide +kernel
theorem c175_138 : mj_Y.code kY 175 138 = some .dup ∧ 139 = 138 + 1 := by decide +kernel
theorem c175_139 : mj_Y.code kY 175 139 = some (.getfield 27) ∧ mj_Y.fl kY 175 27 4 = some (4, .int, true) ∧ 142 = 139 + 3 := by decide +kernel
theorem c175_142 : mj_Y.code kY 175 142 = some (.iconst 1) ∧ Int32.ofInt 1 = 1 ∧ 143 = 142 + 1 := by decide +kernel
theorem c175_143 : mj_Y.code kY 175 143 = some .iadd ∧ 144 = 143 + 1 := by decide +kernel
theorem c175_144 : mj_Y.code kY 175 144 = some (.putfield 27) ∧ mj_Y.fl kY 175 27 4 = some (4, .int, true) ∧ 147 = 144 + 3 := by decide +kernel
theorem c175_147 : mj_Y.code kY 175 147 = some .return_ ∧ mj_Y.rt kY 175 = none := by decide +kernel
theorem c176_0 : mj_Y.code kY 176 0 = some (.lconst 0) ∧ Int64.ofNat ((0 : Fin 2) : Nat) = 0 ∧ 1 = 0 + 1 := by decide +kernel
theorem c176_1 : mj_Y.code kY 176 1 = some (.lstore_n 1) ∧ ((1 : Fin 4) : Nat) = 1 ∧ 1 + 1 < mj_Y.nL kY 176 ∧ 2 = 1 + 1 := by decide +kernel
theorem c176_2 : mj_Y.code kY 176 2 = some (.iconst 0) ∧ Int32.ofInt 0 = 0 ∧ 3 = 2 + 1 := by decide +kernel
theorem c176_3 : mj_Y.code kY 176 3 = some (.istore_n 3) ∧ ((3 : Fin 4) : Nat) = 3 ∧ 3 < mj_Y.nL kY 176 ∧ 4 = 3 + 1 := by decide +kernel
theorem c176_4 : mj_Y.code kY 176 4 = some (.iload_n 3) ∧ ((3 : Fin 4) : Nat) = 3 ∧ 5 = 4 + 1 := by decide +kernel
theorem c176_5 : mj_Y.code kY 176 5 = some (.aload_n 0) ∧ ((0 : Fin 4) : Nat) = 0 ∧ 6 = 5 + 1 := by decide +kernel
theorem c176_6 : mj_Y.code kY 176 6 = some (.getfield 27) ∧ mj_Y.fl kY 176 27 4 = some (4, .int, true) ∧ 9 = 6 + 3 := by decide +kernel
theorem c176_9 : mj_Y.code kY 176 9 = some (.if_icmp .ge 20) ∧ mj_tg 9 20 = some 29 ∧ 12 = 9 + 3 := by decide +kernel
theorem c176_12 : mj_Y.code kY 176 12 = some (.lload_n 1) ∧ ((1 : Fin 4) : Nat) = 1 ∧ 13 = 12 + 1 := by decide +kernel
theorem c176_13 : mj_Y.code kY 176 13 = some (.aload_n 0) ∧ ((0 : Fin 4) : Nat) = 0 ∧ 14 = 13 + 1 := by decide +kernel
theorem c176_14 : mj_Y.code kY 176 14 = some (.getfield 15) ∧ mj_Y.fl kY 176 15 4 = some (1, (.array .long), false) ∧ 17 = 14 + 3 := by decide +kernel
theorem c176_17 : mj_Y.code kY 176 17 = some (.iload_n 3) ∧ ((3 : Fin 4) : Nat) = 3 ∧ 18 = 17 + 1 := by decide +kernel
theorem c176_18 : mj_Y.code kY 176 18 = some .laload ∧ 19 = 18 + 1 := by decide +kernel
theorem c176_19 : mj_Y.code kY 176 19 = some (.invokestatic 61) ∧ mj_Y.pr kY 176 61 = none ∧ mj_Y.cs kY 176 61 = some (114, 2) ∧ mj_Y.nL kY 114 = 11 ∧ 22 = 19 + 3 := by decide +kernel
theorem c176_22 : mj_Y.code kY 176 22 = some (.lstore_n 1) ∧ ((1 : Fin 4) : Nat) = 1 ∧ 1 + 1 < mj_Y.nL kY 176 ∧ 23 = 22 + 1 := by decide +kernel
theorem c176_23 : mj_Y.code kY 176 23 = some (.iinc 3 1) ∧ 3 < mj_Y.nL kY 176 ∧ Int32.ofInt 1 = 1 ∧ 26 = 23 + 3 := by decide +kernel
theorem c176_26 : mj_Y.code kY 176 26 = some (.goto (-22)) ∧ mj_tg 26 (-22) = some 4 := by decide +kernel
theorem c176_29 : mj_Y.code kY 176 29 = some (.iconst 0) ∧ Int32.ofInt 0 = 0 ∧ 30 = 29 + 1 := by decide +kernel
theorem c176_30 : mj_Y.code kY 176 30 = some (.istore_n 3) ∧ ((3 : Fin 4) : Nat) = 3 ∧ 3 < mj_Y.nL kY 176 ∧ 31 = 30 + 1 := by decide +kernel
theorem c176_31 : mj_Y.code kY 176 31 = some (.iload_n 3) ∧ ((3 : Fin 4) : Nat) = 3 ∧ 32 = 31 + 1 := by decide +kernel
theorem c176_32 : mj_Y.code kY 176 32 = some (.aload_n 0) ∧ ((0 : Fin 4) : Nat) = 0 ∧ 33 = 32 + 1 := by decide +kernel
theorem c176_33 : mj_Y.code kY 176 33 = some (.getfield 27) ∧ mj_Y.fl kY 176 27 4 = some (4, .int, true) ∧ 36 = 33 + 3 := by decide +kernel
theorem c176_36 : mj_Y.code kY 176 36 = some (.if_icmp .ge 40) ∧ mj_tg 36 40 = some 76 ∧ 39 = 36 + 3 := by decide +kernel
theorem c176_39 : mj_Y.code kY 176 39 = some (.aload_n 0) ∧ ((0 : Fin 4) : Nat) = 0 ∧ 40 = 39 + 1 := by decide +kernel
theorem c176_40 : mj_Y.code kY 176 40 = some (.getfield 15) ∧ mj_Y.fl kY 176 15 4 = some (1, (.array .long), false) ∧ 43 = 40 + 3 := by decide +kernel
theorem c176_43 : mj_Y.code kY 176 43 = some (.iload_n 3) ∧ ((3 : Fin 4) : Nat) = 3 ∧ 44 = 43 + 1 := by decide +kernel
theorem c176_44 : mj_Y.code kY 176 44 = some (.aload_n 0) ∧ ((0 : Fin 4) : Nat) = 0 ∧ 45 = 44 + 1 := by decide +kernel
theorem c176_45 : mj_Y.code kY 176 45 = some (.getfield 15) ∧ mj_Y.fl kY 176 15 4 = some (1, (.array .long), false) ∧ 48 = 45 + 3 := by decide +kernel
theorem c176_48 : mj_Y.code kY 176 48 = some (.iload_n 3) ∧ ((3 : Fin 4) : Nat) = 3 ∧ 49 = 48 + 1 := by decide +kernel
theorem c176_49 : mj_Y.code kY 176 49 = some .laload ∧ 50 = 49 + 1 := by decide +kernel
theorem c176_50 : mj_Y.code kY 176 50 = some (.lload_n 1) ∧ ((1 : Fin 4) : Nat) = 1 ∧ 51 = 50 + 1 := by decide +kernel
theorem c176_51 : mj_Y.code kY 176 51 = some (.invokestatic 65) ∧ mj_Y.pr kY 176 65 = none ∧ mj_Y.cs kY 176 65 = some (115, 2) ∧ mj_Y.nL kY 115 = 4 ∧ 54 = 51 + 3 := by decide +kernel
theorem c176_54 : mj_Y.code kY 176 54 = some .lastore ∧ 55 = 54 + 1 := by decide +kernel
theorem c176_55 : mj_Y.code kY 176 55 = some (.aload_n 0) ∧ ((0 : Fin 4) : Nat) = 0 ∧ 56 = 55 + 1 := by decide +kernel
theorem c176_56 : mj_Y.code kY 176 56 = some .dup ∧ 57 = 56 + 1 := by decide +kernel
theorem c176_57 : mj_Y.code kY 176 57 = some (.getfield 31) ∧ mj_Y.fl kY 176 31 4 = some (5, .long, true) ∧ 60 = 57 + 3 := by decide +kernel
theorem c176_60 : mj_Y.code kY 176 60 = some (.aload_n 0) ∧ ((0 : Fin 4) : Nat) = 0 ∧ 61 = 60 + 1 := by decide +kernel
theorem c176_61 : mj_Y.code kY 176 61 = some (.getfield 15) ∧ mj_Y.fl kY 176 15 4 = some (1, (.array .long), false) ∧ 64 = 61 + 3 := by decide +kernel
theorem c176_64 : mj_Y.code kY 176 64 = some (.iload_n 3) ∧ ((3 : Fin 4) : Nat) = 3 ∧ 65 = 64 + 1 := by decide +kernel
theorem c176_65 : mj_Y.code kY 176 65 = some .laload ∧ 66 = 65 + 1 := by decide +kernel
theorem c176_66 : mj_Y.code kY 176 66 = some .ladd ∧ 67 = 66 + 1 := by decide +kernel
theorem c176_67 : mj_Y.code kY 176 67 = some (.putfield 31) ∧ mj_Y.fl kY 176 31 4 = some (5, .long, true) ∧ 70 = 67 + 3 := by decide +kernel
theorem c176_70 : mj_Y.code kY 176 70 = some (.iinc 3 1) ∧ 3 < mj_Y.nL kY 176 ∧ Int32.ofInt 1 = 1 ∧ 73 = 70 + 3 := by decide +kernel
theorem c176_73 : mj_Y.code kY 176 73 = some (.goto (-42)) ∧ mj_tg 73 (-42) = some 31 := by decide +kernel
theorem c176_76 : mj_Y.code kY 176 76 = some .return_ ∧ mj_Y.rt kY 176 = none := by decide +kernel
theorem c178_0 : mj_Y.code kY 178 0 = some (.aload_n 0) ∧ ((0 : Fin 4) : Nat) = 0 ∧ 1 = 0 + 1 := by decide +kernel
theorem c178_1 : mj_Y.code kY 178 1 = some (.iload_n 1) ∧ ((1 : Fin 4) : Nat) = 1 ∧ 2 = 1 + 1 := by decide +kernel
theorem c178_2 : mj_Y.code kY 178 2 = some (.invokevirtual 76) ∧ mj_Y.na kY 178 76 = some 1 ∧ mj_Y.cv kY 178 76 5 = some 121 ∧ mj_Y.nL kY 121 = 3 ∧ 5 = 2 + 3 := by decide +kernel
theorem c178_5 : mj_Y.code kY 178 5 = some (.getfield 79) ∧ mj_Y.fl kY 178 79 4 = some (3, (.object "DiceOdds$Statement"), true) ∧ 8 = 5 + 3 := by decide +kernel
theorem c178_8 : mj_Y.code kY 178 8 = some (.invokestatic 112) ∧ mj_Y.pr kY 178 112 = none ∧ mj_Y.cs kY 178 112 = some (112, 1) ∧ mj_Y.nL kY 112 = 4 ∧ 11 = 8 + 3 := by decide +kernel
theorem c178_11 : mj_Y.code kY 178 11 = some .lreturn ∧ mj_Y.rt kY 178 = some .long := by decide +kernel
theorem nh178 : mj_Y.nh kY 178 = true := by decide +kernel
theorem c180_0 : mj_Y.code kY 180 0 = some (.aload_n 0) ∧ ((0 : Fin 4) : Nat) = 0 ∧ 1 = 0 + 1 := by decide +kernel
theorem c180_1 : mj_Y.code kY 180 1 = some (.iload_n 1) ∧ ((1 : Fin 4) : Nat) = 1 ∧ 2 = 1 + 1 := by decide +kernel
theorem c180_2 : mj_Y.code kY 180 2 = some (.invokevirtual 116) ∧ mj_Y.na kY 180 116 = some 1 ∧ mj_Y.cv kY 180 116 5 = some 181 ∧ mj_Y.nL kY 181 = 3 ∧ 5 = 2 + 3 := by decide +kernel
theorem c180_5 : mj_Y.code kY 180 5 = some (.getfield 119) ∧ mj_Y.fl kY 180 119 4 = some (4, .int, true) ∧ 8 = 5 + 3 := by decide +kernel
theorem c180_8 : mj_Y.code kY 180 8 = some .ireturn ∧ mj_Y.rt kY 180 = some .int := by decide +kernel
theorem nh180 : mj_Y.nh kY 180 = true := by decide +kernel
theorem c181_0 : mj_Y.code kY 181 0 = some (.aload_n 0) ∧ ((0 : Fin 4) : Nat) = 0 ∧ 1 = 0 + 1 := by decide +kernel
theorem c181_1 : mj_Y.code kY 181 1 = some (.iload_n 1) ∧ ((1 : Fin 4) : Nat) = 1 ∧ 2 = 1 + 1 := by decide +kernel
theorem c181_2 : mj_Y.code kY 181 2 = some (.invokevirtual 57) ∧ mj_Y.na kY 181 57 = some 1 ∧ mj_Y.cv kY 181 57 5 = some 79 ∧ mj_Y.nL kY 79 = 2 ∧ 5 = 2 + 3 := by decide +kernel
theorem c181_5 : mj_Y.code kY 181 5 = some (.astore_n 2) ∧ ((2 : Fin 4) : Nat) = 2 ∧ 2 < mj_Y.nL kY 181 ∧ 6 = 5 + 1 := by decide +kernel
theorem c181_6 : mj_Y.code kY 181 6 = some (.aload_n 2) ∧ ((2 : Fin 4) : Nat) = 2 ∧ 7 = 6 + 1 := by decide +kernel
theorem c181_7 : mj_Y.code kY 181 7 = some (.getfield 119) ∧ mj_Y.fl kY 181 119 4 = some (4, .int, true) ∧ 10 = 7 + 3 := by decide +kernel
theorem c181_10 : mj_Y.code kY 181 10 = some (.ifCond .ne 13) ∧ mj_tg 10 13 = some 23 ∧ 13 = 10 + 3 := by decide +kernel
theorem c181_13 : mj_Y.code kY 181 13 = some (.new 177) ∧ mj_Y.ex kY 181 177 = some 14 ∧ mj_Y.nh kY 181 = true := by decide +kernel
theorem c181_23 : mj_Y.code kY 181 23 = some (.aload_n 2) ∧ ((2 : Fin 4) : Nat) = 2 ∧ 24 = 23 + 1 := by decide +kernel
theorem c181_24 : mj_Y.code kY 181 24 = some .areturn ∧ mj_Y.rt kY 181 = some (.object "DiceOdds$Slot") ∧ ((.object "DiceOdds$Slot") : FieldType).isReference = true := by decide +kernel
theorem nh181 : mj_Y.nh kY 181 = true := by decide +kernel
theorem c183_0 : mj_Y.code kY 183 0 = some (.aload_n 0) ∧ ((0 : Fin 4) : Nat) = 0 ∧ 1 = 0 + 1 := by decide +kernel
theorem c183_1 : mj_Y.code kY 183 1 = some (.iload_n 1) ∧ ((1 : Fin 4) : Nat) = 1 ∧ 2 = 1 + 1 := by decide +kernel
theorem c183_2 : mj_Y.code kY 183 2 = some (.iload_n 2) ∧ ((2 : Fin 4) : Nat) = 2 ∧ 3 = 2 + 1 := by decide +kernel
theorem c183_3 : mj_Y.code kY 183 3 = some (.invokevirtual 122) ∧ mj_Y.na kY 183 122 = some 2 ∧ mj_Y.cv kY 183 122 5 = some 184 ∧ mj_Y.nL kY 184 = 4 ∧ 6 = 3 + 3 := by decide +kernel
theorem c183_6 : mj_Y.code kY 183 6 = some (.astore_n 3) ∧ ((3 : Fin 4) : Nat) = 3 ∧ 3 < mj_Y.nL kY 183 ∧ 7 = 6 + 1 := by decide +kernel
theorem c183_7 : mj_Y.code kY 183 7 = some (.aload_n 3) ∧ ((3 : Fin 4) : Nat) = 3 ∧ 8 = 7 + 1 := by decide +kernel
theorem c183_8 : mj_Y.code kY 183 8 = some (.getfield 126) ∧ mj_Y.fl kY 183 126 4 = some (0, (.array .int), false) ∧ 11 = 8 + 3 := by decide +kernel
theorem c183_11 : mj_Y.code kY 183 11 = some (.iload_n 2) ∧ ((2 : Fin 4) : Nat) = 2 ∧ 12 = 11 + 1 := by decide +kernel
theorem c183_12 : mj_Y.code kY 183 12 = some .iaload ∧ 13 = 12 + 1 := by decide +kernel
theorem c183_13 : mj_Y.code kY 183 13 = some .ireturn ∧ mj_Y.rt kY 183 = some .int := by decide +kernel
theorem nh183 : mj_Y.nh kY 183 = true := by decide +kernel
theorem c184_0 : mj_Y.code kY 184 0 = some (.aload_n 0) ∧ ((0 : Fin 4) : Nat) = 0 ∧ 1 = 0 + 1 := by decide +kernel
theorem c184_1 : mj_Y.code kY 184 1 = some (.iload_n 1) ∧ ((1 : Fin 4) : Nat) = 1 ∧ 2 = 1 + 1 := by decide +kernel
theorem c184_2 : mj_Y.code kY 184 2 = some (.invokevirtual 116) ∧ mj_Y.na kY 184 116 = some 1 ∧ mj_Y.cv kY 184 116 5 = some 181 ∧ mj_Y.nL kY 181 = 3 ∧ 5 = 2 + 3 := by decide +kernel
theorem c184_5 : mj_Y.code kY 184 5 = some (.astore_n 3) ∧ ((3 : Fin 4) : Nat) = 3 ∧ 3 < mj_Y.nL kY 184 ∧ 6 = 5 + 1 := by decide +kernel
theorem c184_6 : mj_Y.code kY 184 6 = some (.iload_n 2) ∧ ((2 : Fin 4) : Nat) = 2 ∧ 7 = 6 + 1 := by decide +kernel
theorem c184_7 : mj_Y.code kY 184 7 = some (.ifCond .lt 11) ∧ mj_tg 7 11 = some 18 ∧ 10 = 7 + 3 := by decide +kernel
theorem c184_10 : mj_Y.code kY 184 10 = some (.iload_n 2) ∧ ((2 : Fin 4) : Nat) = 2 ∧ 11 = 10 + 1 := by decide +kernel
theorem c184_11 : mj_Y.code kY 184 11 = some (.aload_n 3) ∧ ((3 : Fin 4) : Nat) = 3 ∧ 12 = 11 + 1 := by decide +kernel
theorem c184_12 : mj_Y.code kY 184 12 = some (.getfield 119) ∧ mj_Y.fl kY 184 119 4 = some (4, .int, true) ∧ 15 = 12 + 3 := by decide +kernel
theorem c184_15 : mj_Y.code kY 184 15 = some (.if_icmp .lt 13) ∧ mj_tg 15 13 = some 28 ∧ 18 = 15 + 3 := by decide +kernel
theorem c184_18 : mj_Y.code kY 184 18 = some (.new 149) ∧ mj_Y.ex kY 184 149 = some 15 ∧ mj_Y.nh kY 184 = true := by decide +kernel
theorem c184_28 : mj_Y.code kY 184 28 = some (.aload_n 3) ∧ ((3 : Fin 4) : Nat) = 3 ∧ 29 = 28 + 1 := by decide +kernel
theorem c184_29 : mj_Y.code kY 184 29 = some .areturn ∧ mj_Y.rt kY 184 = some (.object "DiceOdds$Slot") ∧ ((.object "DiceOdds$Slot") : FieldType).isReference = true := by decide +kernel
theorem nh184 : mj_Y.nh kY 184 = true := by decide +kernel
theorem c186_0 : mj_Y.code kY 186 0 = some (.aload_n 0) ∧ ((0 : Fin 4) : Nat) = 0 ∧ 1 = 0 + 1 := by decide +kernel
theorem c186_1 : mj_Y.code kY 186 1 = some (.iload_n 1) ∧ ((1 : Fin 4) : Nat) = 1 ∧ 2 = 1 + 1 := by decide +kernel
theorem c186_2 : mj_Y.code kY 186 2 = some (.iload_n 2) ∧ ((2 : Fin 4) : Nat) = 2 ∧ 3 = 2 + 1 := by decide +kernel
theorem c186_3 : mj_Y.code kY 186 3 = some (.invokevirtual 122) ∧ mj_Y.na kY 186 122 = some 2 ∧ mj_Y.cv kY 186 122 5 = some 184 ∧ mj_Y.nL kY 184 = 4 ∧ 6 = 3 + 3 := by decide +kernel
theorem c186_6 : mj_Y.code kY 186 6 = some (.astore_n 3) ∧ ((3 : Fin 4) : Nat) = 3 ∧ 3 < mj_Y.nL kY 186 ∧ 7 = 6 + 1 := by decide +kernel
theorem c186_7 : mj_Y.code kY 186 7 = some (.aload_n 3) ∧ ((3 : Fin 4) : Nat) = 3 ∧ 8 = 7 + 1 := by decide +kernel
theorem c186_8 : mj_Y.code kY 186 8 = some (.getfield 130) ∧ mj_Y.fl kY 186 130 4 = some (1, (.array .long), false) ∧ 11 = 8 + 3 := by decide +kernel
theorem c186_11 : mj_Y.code kY 186 11 = some (.iload_n 2) ∧ ((2 : Fin 4) : Nat) = 2 ∧ 12 = 11 + 1 := by decide +kernel
theorem c186_12 : mj_Y.code kY 186 12 = some .laload ∧ 13 = 12 + 1 := by decide +kernel
theorem c186_13 : mj_Y.code kY 186 13 = some .lreturn ∧ mj_Y.rt kY 186 = some .long := by decide +kernel
theorem nh186 : mj_Y.nh kY 186 = true := by decide +kernel
theorem c188_0 : mj_Y.code kY 188 0 = some (.aload_n 0) ∧ ((0 : Fin 4) : Nat) = 0 ∧ 1 = 0 + 1 := by decide +kernel
theorem c188_1 : mj_Y.code kY 188 1 = some (.iload_n 1) ∧ ((1 : Fin 4) : Nat) = 1 ∧ 2 = 1 + 1 := by decide +kernel
theorem c188_2 : mj_Y.code kY 188 2 = some (.invokevirtual 116) ∧ mj_Y.na kY 188 116 = some 1 ∧ mj_Y.cv kY 188 116 5 = some 181 ∧ mj_Y.nL kY 181 = 3 ∧ 5 = 2 + 3 := by decide +kernel
theorem c188_5 : mj_Y.code kY 188 5 = some (.getfield 134) ∧ mj_Y.fl kY 188 134 4 = some (5, .long, true) ∧ 8 = 5 + 3 := by decide +kernel
theorem c188_8 : mj_Y.code kY 188 8 = some .lreturn ∧ mj_Y.rt kY 188 = some .long := by decide +kernel
theorem nh188 : mj_Y.nh kY 188 = true := by decide +kernel
theorem c190_0 : mj_Y.code kY 190 0 = some (.iload_n 2) ∧ ((2 : Fin 4) : Nat) = 2 ∧ 1 = 0 + 1 := by decide +kernel
theorem c190_1 : mj_Y.code kY 190 1 = some (.iconst 1) ∧ Int32.ofInt 1 = 1 ∧ 2 = 1 + 1 := by decide +kernel
theorem c190_2 : mj_Y.code kY 190 2 = some (.if_icmp .eq 8) ∧ mj_tg 2 8 = some 10 ∧ 5 = 2 + 3 := by decide +kernel
theorem c190_5 : mj_Y.code kY 190 5 = some (.iload_n 2) ∧ ((2 : Fin 4) : Nat) = 2 ∧ 6 = 5 + 1 := by decide +kernel
theorem c190_6 : mj_Y.code kY 190 6 = some (.iconst 2) ∧ Int32.ofInt 2 = 2 ∧ 7 = 6 + 1 := by decide +kernel
theorem c190_7 : mj_Y.code kY 190 7 = some (.if_icmp .ne 7) ∧ mj_tg 7 7 = some 14 ∧ 10 = 7 + 3 := by decide +kernel
theorem c190_10 : mj_Y.code kY 190 10 = some (.iconst 1) ∧ Int32.ofInt 1 = 1 ∧ 11 = 10 + 1 := by decide +kernel
theorem c190_11 : mj_Y.code kY 190 11 = some (.goto 4) ∧ mj_tg 11 4 = some 15 := by decide +kernel
theorem c190_14 : mj_Y.code kY 190 14 = some (.iconst 0) ∧ Int32.ofInt 0 = 0 ∧ 15 = 14 + 1 := by decide +kernel
theorem c190_15 : mj_Y.code kY 190 15 = some (.invokestatic 138) ∧ mj_Y.pr kY 190 138 = none ∧ mj_Y.cs kY 190 138 = some (191, 1) ∧ mj_Y.nL kY 191 = 1 ∧ 18 = 15 + 3 := by decide +kernel
theorem c190_18 : mj_Y.code kY 190 18 = some (.aload_n 0) ∧ ((0 : Fin 4) : Nat) = 0 ∧ 19 = 18 + 1 := by decide +kernel
theorem c190_19 : mj_Y.code kY 190 19 = some (.iload_n 1) ∧ ((1 : Fin 4) : Nat) = 1 ∧ 20 = 19 + 1 := by decide +kernel
theorem c190_20 : mj_Y.code kY 190 20 = some (.invokevirtual 116) ∧ mj_Y.na kY 190 116 = some 1 ∧ mj_Y.cv kY 190 116 5 = some 181 ∧ mj_Y.nL kY 181 = 3 ∧ 23 = 20 + 3 := by decide +kernel
theorem c190_23 : mj_Y.code kY 190 23 = some (.astore_n 3) ∧ ((3 : Fin 4) : Nat) = 3 ∧ 3 < mj_Y.nL kY 190 ∧ 24 = 23 + 1 := by decide +kernel
theorem c190_24 : mj_Y.code kY 190 24 = some (.lconst 0) ∧ Int64.ofNat ((0 : Fin 2) : Nat) = 0 ∧ 25 = 24 + 1 := by decide +kernel
theorem c190_25 : mj_Y.code kY 190 25 = some (.lstore 4) ∧ 4 = 4 ∧ 4 + 1 < mj_Y.nL kY 190 ∧ 27 = 25 + 2 := by decide +kernel
theorem c190_27 : mj_Y.code kY 190 27 = some (.iconst 0) ∧ Int32.ofInt 0 = 0 ∧ 28 = 27 + 1 := by decide +kernel
theorem c190_28 : mj_Y.code kY 190 28 = some (.istore 6) ∧ 6 = 6 ∧ 6 < mj_Y.nL kY 190 ∧ 30 = 28 + 2 := by decide +kernel
theorem c190_30 : mj_Y.code kY 190 30 = some (.iload 6) ∧ 6 = 6 ∧ 32 = 30 + 2 := by decide +kernel
theorem c190_32 : mj_Y.code kY 190 32 = some (.aload_n 3) ∧ ((3 : Fin 4) : Nat) = 3 ∧ 33 = 32 + 1 := by decide +kernel
theorem c190_33 : mj_Y.code kY 190 33 = some (.getfield 119) ∧ mj_Y.fl kY 190 119 4 = some (4, .int, true) ∧ 36 = 33 + 3 := by decide +kernel
theorem c190_36 : mj_Y.code kY 190 36 = some (.if_icmp .ge 47) ∧ mj_tg 36 47 = some 83 ∧ 39 = 36 + 3 := by decide +kernel
theorem c190_39 : mj_Y.code kY 190 39 = some (.aload_n 3) ∧ ((3 : Fin 4) : Nat) = 3 ∧ 40 = 39 + 1 := by decide +kernel
theorem c190_40 : mj_Y.code kY 190 40 = some (.getfield 126) ∧ mj_Y.fl kY 190 126 4 = some (0, (.array .int), false) ∧ 43 = 40 + 3 := by decide +kernel
theorem c190_43 : mj_Y.code kY 190 43 = some (.iload 6) ∧ 6 = 6 ∧ 45 = 43 + 2 := by decide +kernel
theorem c190_45 : mj_Y.code kY 190 45 = some .iaload ∧ 46 = 45 + 1 := by decide +kernel
theorem c190_46 : mj_Y.code kY 190 46 = some .i2l ∧ 47 = 46 + 1 := by decide +kernel
theorem c190_47 : mj_Y.code kY 190 47 = some (.lstore 7) ∧ 7 = 7 ∧ 7 + 1 < mj_Y.nL kY 190 ∧ 49 = 47 + 2 := by decide +kernel
theorem c190_49 : mj_Y.code kY 190 49 = some (.lload 4) ∧ 4 = 4 ∧ 51 = 49 + 2 := by decide +kernel
theorem c190_51 : mj_Y.code kY 190 51 = some (.aload_n 3) ∧ ((3 : Fin 4) : Nat) = 3 ∧ 52 = 51 + 1 := by decide +kernel
theorem c190_52 : mj_Y.code kY 190 52 = some (.getfield 130) ∧ mj_Y.fl kY 190 130 4 = some (1, (.array .long), false) ∧ 55 = 52 + 3 := by decide +kernel
theorem c190_55 : mj_Y.code kY 190 55 = some (.iload 6) ∧ 6 = 6 ∧ 57 = 55 + 2 := by decide +kernel
theorem c190_57 : mj_Y.code kY 190 57 = some .laload ∧ 58 = 57 + 1 := by decide +kernel
theorem c190_58 : mj_Y.code kY 190 58 = some (.iload_n 2) ∧ ((2 : Fin 4) : Nat) = 2 ∧ 59 = 58 + 1 := by decide +kernel
theorem c190_59 : mj_Y.code kY 190 59 = some (.iconst 1) ∧ Int32.ofInt 1 = 1 ∧ 60 = 59 + 1 := by decide +kernel
theorem c190_60 : mj_Y.code kY 190 60 = some (.if_icmp .ne 8) ∧ mj_tg 60 8 = some 68 ∧ 63 = 60 + 3 := by decide +kernel
theorem c190_63 : mj_Y.code kY 190 63 = some (.lload 7) ∧ 7 = 7 ∧ 65 = 63 + 2 := by decide +kernel
theorem c190_65 : mj_Y.code kY 190 65 = some (.goto 8) ∧ mj_tg 65 8 = some 73 := by decide +kernel
theorem c190_68 : mj_Y.code kY 190 68 = some (.lload 7) ∧ 7 = 7 ∧ 70 = 68 + 2 := by decide +kernel
theorem c190_70 : mj_Y.code kY 190 70 = some (.lload 7) ∧ 7 = 7 ∧ 72 = 70 + 2 := by decide +kernel
theorem c190_72 : mj_Y.code kY 190 72 = some .lmul ∧ 73 = 72 + 1 := by decide +kernel
theorem c190_73 : mj_Y.code kY 190 73 = some .lmul ∧ 74 = 73 + 1 := by decide +kernel
theorem c190_74 : mj_Y.code kY 190 74 = some .ladd ∧ 75 = 74 + 1 := by decide +kernel
theorem c190_75 : mj_Y.code kY 190 75 = some (.lstore 4) ∧ 4 = 4 ∧ 4 + 1 < mj_Y.nL kY 190 ∧ 77 = 75 + 2 := by decide +kernel
theorem c190_77 : mj_Y.code kY 190 77 = some (.iinc 6 1) ∧ 6 < mj_Y.nL kY 190 ∧ Int32.ofInt 1 = 1 ∧ 80 = 77 + 3 := by decide +kernel
theorem c190_80 : mj_Y.code kY 190 80 = some (.goto (-50)) ∧ mj_tg 80 (-50) = some 30 := by decide +kernel
theorem c190_83 : mj_Y.code kY 190 83 = some (.lload 4) ∧ 4 = 4 ∧ 85 = 83 + 2 := by decide +kernel
theorem c190_85 : mj_Y.code kY 190 85 = some .lreturn ∧ mj_Y.rt kY 190 = some .long := by decide +kernel
theorem nh190 : mj_Y.nh kY 190 = true := by decide +kernel
theorem c191_0 : mj_Y.code kY 191 0 = some (.iload_n 0) ∧ ((0 : Fin 4) : Nat) = 0 ∧ 1 = 0 + 1 := by decide +kernel
theorem c191_1 : mj_Y.code kY 191 1 = some (.ifCond .ne 13) ∧ mj_tg 1 13 = some 14 ∧ 4 = 1 + 3 := by decide +kernel
theorem c191_4 : mj_Y.code kY 191 4 = some (.new 166) ∧ mj_Y.ex kY 191 166 = some 13 ∧ mj_Y.nh kY 191 = true := by decide +kernel
theorem c191_14 : mj_Y.code kY 191 14 = some .return_ ∧ mj_Y.rt kY 191 = none := by decide +kernel
theorem c193_0 : mj_Y.code kY 193 0 = some (.aload_n 0) ∧ ((0 : Fin 4) : Nat) = 0 ∧ 1 = 0 + 1 := by decide +kernel
theorem c193_1 : mj_Y.code kY 193 1 = some (.iload_n 1) ∧ ((1 : Fin 4) : Nat) = 1 ∧ 2 = 1 + 1 := by decide +kernel
theorem c193_2 : mj_Y.code kY 193 2 = some (.iload_n 2) ∧ ((2 : Fin 4) : Nat) = 2 ∧ 3 = 2 + 1 := by decide +kernel
theorem c193_3 : mj_Y.code kY 193 3 = some (.invokevirtual 122) ∧ mj_Y.na kY 193 122 = some 2 ∧ mj_Y.cv kY 193 122 5 = some 184 ∧ mj_Y.nL kY 184 = 4 ∧ 6 = 3 + 3 := by decide +kernel
theorem c193_6 : mj_Y.code kY 193 6 = some (.astore_n 3) ∧ ((3 : Fin 4) : Nat) = 3 ∧ 3 < mj_Y.nL kY 193 ∧ 7 = 6 + 1 := by decide +kernel
theorem c193_7 : mj_Y.code kY 193 7 = some (.aload_n 3) ∧ ((3 : Fin 4) : Nat) = 3 ∧ 8 = 7 + 1 := by decide +kernel
theorem c193_8 : mj_Y.code kY 193 8 = some (.getfield 134) ∧ mj_Y.fl kY 193 134 4 = some (5, .long, true) ∧ 11 = 8 + 3 := by decide +kernel
theorem c193_11 : mj_Y.code kY 193 11 = some (.lconst 1) ∧ Int64.ofNat ((1 : Fin 2) : Nat) = 1 ∧ 12 = 11 + 1 := by decide +kernel
theorem c193_12 : mj_Y.code kY 193 12 = some .lcmp ∧ 13 = 12 + 1 := by decide +kernel
theorem c193_13 : mj_Y.code kY 193 13 = some (.ifCond .le 23) ∧ mj_tg 13 23 = some 36 ∧ 16 = 13 + 3 := by decide +kernel
theorem c193_16 : mj_Y.code kY 193 16 = some (.aload_n 3) ∧ ((3 : Fin 4) : Nat) = 3 ∧ 17 = 16 + 1 := by decide +kernel
theorem c193_17 : mj_Y.code kY 193 17 = some (.getfield 130) ∧ mj_Y.fl kY 193 130 4 = some (1, (.array .long), false) ∧ 20 = 17 + 3 := by decide +kernel
theorem c193_20 : mj_Y.code kY 193 20 = some (.iload_n 2) ∧ ((2 : Fin 4) : Nat) = 2 ∧ 21 = 20 + 1 := by decide +kernel
theorem c193_21 : mj_Y.code kY 193 21 = some .laload ∧ 22 = 21 + 1 := by decide +kernel
theorem c193_22 : mj_Y.code kY 193 22 = some (.ldc2_w 142) ∧ mj_Y.ck kY 193 142 = some (.long 1000000) ∧ 25 = 22 + 3 := by decide +kernel
theorem c193_25 : mj_Y.code kY 193 25 = some .lmul ∧ 26 = 25 + 1 := by decide +kernel
theorem c193_26 : mj_Y.code kY 193 26 = some (.aload_n 3) ∧ ((3 : Fin 4) : Nat) = 3 ∧ 27 = 26 + 1 := by decide +kernel
theorem c193_27 : mj_Y.code kY 193 27 = some (.getfield 134) ∧ mj_Y.fl kY 193 134 4 = some (5, .long, true) ∧ 30 = 27 + 3 := by decide +kernel
theorem c193_30 : mj_Y.code kY 193 30 = some (.invokestatic 144) ∧ mj_Y.pr kY 193 144 = none ∧ mj_Y.cs kY 193 144 = some (194, 2) ∧ mj_Y.nL kY 194 = 8 ∧ 33 = 30 + 3 := by decide +kernel
theorem c193_33 : mj_Y.code kY 193 33 = some (.goto 5) ∧ mj_tg 33 5 = some 38 := by decide +kernel
theorem c193_36 : mj_Y.code kY 193 36 = some (.ldc 148) ∧ mj_Y.ck kY 193 148 = some (.int 1000000) ∧ 38 = 36 + 2 := by decide +kernel
theorem c193_38 : mj_Y.code kY 193 38 = some .ireturn ∧ mj_Y.rt kY 193 = some .int := by decide +kernel
theorem nh193 : mj_Y.nh kY 193 = true := by decide +kernel
theorem c194_0 : mj_Y.code kY 194 0 = some (.lload_n 2) ∧ ((2 : Fin 4) : Nat) = 2 ∧ 1 = 0 + 1 := by decide +kernel
theorem c194_1 : mj_Y.code kY 194 1 = some (.lconst 0) ∧ Int64.ofNat ((0 : Fin 2) : Nat) = 0 ∧ 2 = 1 + 1 := by decide +kernel
theorem c194_2 : mj_Y.code kY 194 2 = some .lcmp ∧ 3 = 2 + 1 := by decide +kernel
theorem c194_3 : mj_Y.code kY 194 3 = some (.ifCond .gt 5) ∧ mj_tg 3 5 = some 8 ∧ 6 = 3 + 3 := by decide +kernel
theorem c194_6 : mj_Y.code kY 194 6 = some (.iconst 0) ∧ Int32.ofInt 0 = 0 ∧ 7 = 6 + 1 := by decide +kernel
theorem c194_7 : mj_Y.code kY 194 7 = some .ireturn ∧ mj_Y.rt kY 194 = some .int := by decide +kernel
theorem c194_8 : mj_Y.code kY 194 8 = some (.lload_n 0) ∧ ((0 : Fin 4) : Nat) = 0 ∧ 9 = 8 + 1 := by decide +kernel
theorem c194_9 : mj_Y.code kY 194 9 = some (.lload_n 2) ∧ ((2 : Fin 4) : Nat) = 2 ∧ 10 = 9 + 1 := by decide +kernel
theorem c194_10 : mj_Y.code kY 194 10 = some .ldiv ∧ 11 = 10 + 1 := by decide +kernel
theorem c194_11 : mj_Y.code kY 194 11 = some (.lstore 4) ∧ 4 = 4 ∧ 4 + 1 < mj_Y.nL kY 194 ∧ 13 = 11 + 2 := by decide +kernel
theorem c194_13 : mj_Y.code kY 194 13 = some (.ldc2_w 186) ∧ mj_Y.ck kY 194 186 = some (.long 2) ∧ 16 = 13 + 3 := by decide +kernel
theorem c194_16 : mj_Y.code kY 194 16 = some (.lload_n 0) ∧ ((0 : Fin 4) : Nat) = 0 ∧ 17 = 16 + 1 := by decide +kernel
theorem c194_17 : mj_Y.code kY 194 17 = some (.lload 4) ∧ 4 = 4 ∧ 19 = 17 + 2 := by decide +kernel
theorem c194_19 : mj_Y.code kY 194 19 = some (.lload_n 2) ∧ ((2 : Fin 4) : Nat) = 2 ∧ 20 = 19 + 1 := by decide +kernel
theorem c194_20 : mj_Y.code kY 194 20 = some .lmul ∧ 21 = 20 + 1 := by decide +kernel
theorem c194_21 : mj_Y.code kY 194 21 = some .lsub ∧ 22 = 21 + 1 := by decide +kernel
theorem c194_22 : mj_Y.code kY 194 22 = some .lmul ∧ 23 = 22 + 1 := by decide +kernel
theorem c194_23 : mj_Y.code kY 194 23 = some (.lstore 6) ∧ 6 = 6 ∧ 6 + 1 < mj_Y.nL kY 194 ∧ 25 = 23 + 2 := by decide +kernel
theorem c194_25 : mj_Y.code kY 194 25 = some (.lload 6) ∧ 6 = 6 ∧ 27 = 25 + 2 := by decide +kernel
theorem c194_27 : mj_Y.code kY 194 27 = some (.lload_n 2) ∧ ((2 : Fin 4) : Nat) = 2 ∧ 28 = 27 + 1 := by decide +kernel
theorem c194_28 : mj_Y.code kY 194 28 = some .lcmp ∧ 29 = 28 + 1 := by decide +kernel
theorem c194_29 : mj_Y.code kY 194 29 = some (.ifCond .gt 21) ∧ mj_tg 29 21 = some 50 ∧ 32 = 29 + 3 := by decide +kernel
theorem c194_32 : mj_Y.code kY 194 32 = some (.lload 6) ∧ 6 = 6 ∧ 34 = 32 + 2 := by decide +kernel
theorem c194_34 : mj_Y.code kY 194 34 = some (.lload_n 2) ∧ ((2 : Fin 4) : Nat) = 2 ∧ 35 = 34 + 1 := by decide +kernel
theorem c194_35 : mj_Y.code kY 194 35 = some .lcmp ∧ 36 = 35 + 1 := by decide +kernel
theorem c194_36 : mj_Y.code kY 194 36 = some (.ifCond .ne 20) ∧ mj_tg 36 20 = some 56 ∧ 39 = 36 + 3 := by decide +kernel
theorem c194_39 : mj_Y.code kY 194 39 = some (.lload 4) ∧ 4 = 4 ∧ 41 = 39 + 2 := by decide +kernel
theorem c194_41 : mj_Y.code kY 194 41 = some (.ldc2_w 186) ∧ mj_Y.ck kY 194 186 = some (.long 2) ∧ 44 = 41 + 3 := by decide +kernel
theorem c194_44 : mj_Y.code kY 194 44 = some .lrem ∧ 45 = 44 + 1 := by decide +kernel
theorem c194_45 : mj_Y.code kY 194 45 = some (.lconst 1) ∧ Int64.ofNat ((1 : Fin 2) : Nat) = 1 ∧ 46 = 45 + 1 := by decide +kernel
theorem c194_46 : mj_Y.code kY 194 46 = some .lcmp ∧ 47 = 46 + 1 := by decide +kernel
theorem c194_47 : mj_Y.code kY 194 47 = some (.ifCond .ne 9) ∧ mj_tg 47 9 = some 56 ∧ 50 = 47 + 3 := by decide +kernel
theorem c194_50 : mj_Y.code kY 194 50 = some (.lload 4) ∧ 4 = 4 ∧ 52 = 50 + 2 := by decide +kernel
theorem c194_52 : mj_Y.code kY 194 52 = some (.lconst 1) ∧ Int64.ofNat ((1 : Fin 2) : Nat) = 1 ∧ 53 = 52 + 1 := by decide +kernel
theorem c194_53 : mj_Y.code kY 194 53 = some .ladd ∧ 54 = 53 + 1 := by decide +kernel
theorem c194_54 : mj_Y.code kY 194 54 = some (.lstore 4) ∧ 4 = 4 ∧ 4 + 1 < mj_Y.nL kY 194 ∧ 56 = 54 + 2 := by decide +kernel
theorem c194_56 : mj_Y.code kY 194 56 = some (.lload 4) ∧ 4 = 4 ∧ 58 = 56 + 2 := by decide +kernel
theorem c194_58 : mj_Y.code kY 194 58 = some .l2i ∧ 59 = 58 + 1 := by decide +kernel
theorem c194_59 : mj_Y.code kY 194 59 = some .ireturn ∧ mj_Y.rt kY 194 = some .int := by decide +kernel
theorem c196_0 : mj_Y.code kY 196 0 = some (.iload_n 3) ∧ ((3 : Fin 4) : Nat) = 3 ∧ 1 = 0 + 1 := by decide +kernel
theorem c196_1 : mj_Y.code kY 196 1 = some (.iconst 1) ∧ Int32.ofInt 1 = 1 ∧ 2 = 1 + 1 := by decide +kernel
theorem c196_2 : mj_Y.code kY 196 2 = some (.if_icmp .lt 23) ∧ mj_tg 2 23 = some 25 ∧ 5 = 2 + 3 := by decide +kernel
theorem c196_5 : mj_Y.code kY 196 5 = some (.iload_n 3) ∧ ((3 : Fin 4) : Nat) = 3 ∧ 6 = 5 + 1 := by decide +kernel
theorem c196_6 : mj_Y.code kY 196 6 = some (.sipush 1000) ∧ (Int16.ofInt 1000).toInt32 = 1000 ∧ 9 = 6 + 3 := by decide +kernel
theorem c196_9 : mj_Y.code kY 196 9 = some (.if_icmp .gt 16) ∧ mj_tg 9 16 = some 25 ∧ 12 = 9 + 3 := by decide +kernel
theorem c196_12 : mj_Y.code kY 196 12 = some (.iload_n 2) ∧ ((2 : Fin 4) : Nat) = 2 ∧ 13 = 12 + 1 := by decide +kernel
theorem c196_13 : mj_Y.code kY 196 13 = some (.ifCond .lt 12) ∧ mj_tg 13 12 = some 25 ∧ 16 = 13 + 3 := by decide +kernel
theorem c196_16 : mj_Y.code kY 196 16 = some (.iload_n 2) ∧ ((2 : Fin 4) : Nat) = 2 ∧ 17 = 16 + 1 := by decide +kernel
theorem c196_17 : mj_Y.code kY 196 17 = some (.iload_n 3) ∧ ((3 : Fin 4) : Nat) = 3 ∧ 18 = 17 + 1 := by decide +kernel
theorem c196_18 : mj_Y.code kY 196 18 = some (.if_icmp .gt 7) ∧ mj_tg 18 7 = some 25 ∧ 21 = 18 + 3 := by decide +kernel
theorem c196_21 : mj_Y.code kY 196 21 = some (.iconst 1) ∧ Int32.ofInt 1 = 1 ∧ 22 = 21 + 1 := by decide +kernel
theorem c196_22 : mj_Y.code kY 196 22 = some (.goto 4) ∧ mj_tg 22 4 = some 26 := by decide +kernel
theorem c196_25 : mj_Y.code kY 196 25 = some (.iconst 0) ∧ Int32.ofInt 0 = 0 ∧ 26 = 25 + 1 := by decide +kernel
theorem c196_26 : mj_Y.code kY 196 26 = some (.invokestatic 138) ∧ mj_Y.pr kY 196 138 = none ∧ mj_Y.cs kY 196 138 = some (191, 1) ∧ mj_Y.nL kY 191 = 1 ∧ 29 = 26 + 3 := by decide +kernel
theorem c196_29 : mj_Y.code kY 196 29 = some (.aload_n 0) ∧ ((0 : Fin 4) : Nat) = 0 ∧ 30 = 29 + 1 := by decide +kernel
theorem c196_30 : mj_Y.code kY 196 30 = some (.iload_n 1) ∧ ((1 : Fin 4) : Nat) = 1 ∧ 31 = 30 + 1 := by decide +kernel
theorem c196_31 : mj_Y.code kY 196 31 = some (.invokevirtual 116) ∧ mj_Y.na kY 196 116 = some 1 ∧ mj_Y.cv kY 196 116 5 = some 181 ∧ mj_Y.nL kY 181 = 3 ∧ 34 = 31 + 3 := by decide +kernel
theorem c196_34 : mj_Y.code kY 196 34 = some (.astore 4) ∧ 4 = 4 ∧ 4 < mj_Y.nL kY 196 ∧ 36 = 34 + 2 := by decide +kernel
theorem c196_36 : mj_Y.code kY 196 36 = some (.iconst 0) ∧ Int32.ofInt 0 = 0 ∧ 37 = 36 + 1 := by decide +kernel
theorem c196_37 : mj_Y.code kY 196 37 = some (.istore 5) ∧ 5 = 5 ∧ 5 < mj_Y.nL kY 196 ∧ 39 = 37 + 2 := by decide +kernel
theorem c196_39 : mj_Y.code kY 196 39 = some (.aload 4) ∧ 4 = 4 ∧ 41 = 39 + 2 := by decide +kernel
theorem c196_41 : mj_Y.code kY 196 41 = some (.getfield 130) ∧ mj_Y.fl kY 196 130 4 = some (1, (.array .long), false) ∧ 44 = 41 + 3 := by decide +kernel
theorem c196_44 : mj_Y.code kY 196 44 = some (.iconst 0) ∧ Int32.ofInt 0 = 0 ∧ 45 = 44 + 1 := by decide +kernel
theorem c196_45 : mj_Y.code kY 196 45 = some .laload ∧ 46 = 45 + 1 := by decide +kernel
theorem c196_46 : mj_Y.code kY 196 46 = some (.lstore 6) ∧ 6 = 6 ∧ 6 + 1 < mj_Y.nL kY 196 ∧ 48 = 46 + 2 := by decide +kernel
theorem c196_48 : mj_Y.code kY 196 48 = some (.iload 5) ∧ 5 = 5 ∧ 50 = 48 + 2 := by decide +kernel
theorem c196_50 : mj_Y.code kY 196 50 = some (.aload 4) ∧ 4 = 4 ∧ 52 = 50 + 2 := by decide +kernel
theorem c196_52 : mj_Y.code kY 196 52 = some (.getfield 119) ∧ mj_Y.fl kY 196 119 4 = some (4, .int, true) ∧ 55 = 52 + 3 := by decide +kernel
theorem c196_55 : mj_Y.code kY 196 55 = some (.iconst 1) ∧ Int32.ofInt 1 = 1 ∧ 56 = 55 + 1 := by decide +kernel
theorem c196_56 : mj_Y.code kY 196 56 = some .isub ∧ 57 = 56 + 1 := by decide +kernel
theorem c196_57 : mj_Y.code kY 196 57 = some (.if_icmp .ge 39) ∧ mj_tg 57 39 = some 96 ∧ 60 = 57 + 3 := by decide +kernel
theorem c196_60 : mj_Y.code kY 196 60 = some (.lload 6) ∧ 6 = 6 ∧ 62 = 60 + 2 := by decide +kernel
theorem c196_62 : mj_Y.code kY 196 62 = some (.iload_n 3) ∧ ((3 : Fin 4) : Nat) = 3 ∧ 63 = 62 + 1 := by decide +kernel
theorem c196_63 : mj_Y.code kY 196 63 = some .i2l ∧ 64 = 63 + 1 := by decide +kernel
theorem c196_64 : mj_Y.code kY 196 64 = some .lmul ∧ 65 = 64 + 1 := by decide +kernel
theorem c196_65 : mj_Y.code kY 196 65 = some (.iload_n 2) ∧ ((2 : Fin 4) : Nat) = 2 ∧ 66 = 65 + 1 := by decide +kernel
theorem c196_66 : mj_Y.code kY 196 66 = some .i2l ∧ 67 = 66 + 1 := by decide +kernel
theorem c196_67 : mj_Y.code kY 196 67 = some (.aload 4) ∧ 4 = 4 ∧ 69 = 67 + 2 := by decide +kernel
theorem c196_69 : mj_Y.code kY 196 69 = some (.getfield 134) ∧ mj_Y.fl kY 196 134 4 = some (5, .long, true) ∧ 72 = 69 + 3 := by decide +kernel
theorem c196_72 : mj_Y.code kY 196 72 = some .lmul ∧ 73 = 72 + 1 := by decide +kernel
theorem c196_73 : mj_Y.code kY 196 73 = some .lcmp ∧ 74 = 73 + 1 := by decide +kernel
theorem c196_74 : mj_Y.code kY 196 74 = some (.ifCond .ge 22) ∧ mj_tg 74 22 = some 96 ∧ 77 = 74 + 3 := by decide +kernel
theorem c196_77 : mj_Y.code kY 196 77 = some (.iinc 5 1) ∧ 5 < mj_Y.nL kY 196 ∧ Int32.ofInt 1 = 1 ∧ 80 = 77 + 3 := by decide +kernel
theorem c196_80 : mj_Y.code kY 196 80 = some (.lload 6) ∧ 6 = 6 ∧ 82 = 80 + 2 := by decide +kernel
theorem c196_82 : mj_Y.code kY 196 82 = some (.aload 4) ∧ 4 = 4 ∧ 84 = 82 + 2 := by decide +kernel
theorem c196_84 : mj_Y.code kY 196 84 = some (.getfield 130) ∧ mj_Y.fl kY 196 130 4 = some (1, (.array .long), false) ∧ 87 = 84 + 3 := by decide +kernel
theorem c196_87 : mj_Y.code kY 196 87 = some (.iload 5) ∧ 5 = 5 ∧ 89 = 87 + 2 := by decide +kernel
theorem c196_89 : mj_Y.code kY 196 89 = some .laload ∧ 90 = 89 + 1 := by decide +kernel
theorem c196_90 : mj_Y.code kY 196 90 = some .ladd ∧ 91 = 90 + 1 := by decide +kernel
theorem c196_91 : mj_Y.code kY 196 91 = some (.lstore 6) ∧ 6 = 6 ∧ 6 + 1 < mj_Y.nL kY 196 ∧ 93 = 91 + 2 := by decide +kernel
theorem c196_93 : mj_Y.code kY 196 93 = some (.goto (-45)) ∧ mj_tg 93 (-45) = some 48 := by decide +kernel
theorem c196_96 : mj_Y.code kY 196 96 = some (.aload 4) ∧ 4 = 4 ∧ 98 = 96 + 2 := by decide +kernel
theorem c196_98 : mj_Y.code kY 196 98 = some (.getfield 126) ∧ mj_Y.fl kY 196 126 4 = some (0, (.array .int), false) ∧ 101 = 98 + 3 := by decide +kernel
theorem c196_101 : mj_Y.code kY 196 101 = some (.iload 5) ∧ 5 = 5 ∧ 103 = 101 + 2 := by decide +kernel
theorem c196_103 : mj_Y.code kY 196 103 = some .iaload ∧ 104 = 103 + 1 := by decide +kernel
theorem c196_104 : mj_Y.code kY 196 104 = some .ireturn ∧ mj_Y.rt kY 196 = some .int := by decide +kernel
theorem nh196 : mj_Y.nh kY 196 = true := by decide +kernel
