theorem c79_0 : mj_Y.code kY 79 0 = some (.iload_n 1) ∧ ((1 : Fin 4) : Nat) = 1 ∧ 1 = 0 + 1 := by decide +kernel
theorem c79_1 : mj_Y.code kY 79 1 = some (.invokestatic 156) ∧ mj_Y.pr kY 79 156 = none ∧ mj_Y.cs kY 79 156 = some (80, 1) ∧ mj_Y.nL kY 80 = 1 ∧ 4 = 1 + 3 := by decide +kernel
theorem c79_4 : mj_Y.code kY 79 4 = some (.ifCond .ne 13) ∧ mj_tg 4 13 = some 17 ∧ 7 = 4 + 3 := by decide +kernel
theorem c79_7 : mj_Y.code kY 79 7 = some (.new 166) ∧ mj_Y.ex kY 79 166 = some 13 ∧ mj_Y.nh kY 79 = true := by decide +kernel
theorem c79_17 : mj_Y.code kY 79 17 = some (.aload_n 0) ∧ ((0 : Fin 4) : Nat) = 0 ∧ 18 = 17 + 1 := by decide +kernel
theorem c79_18 : mj_Y.code kY 79 18 = some (.getfield 18) ∧ mj_Y.fl kY 79 18 5 = some (1, (.array (.object "DiceOdds$Slot")), false) ∧ 21 = 18 + 3 := by decide +kernel
theorem c79_21 : mj_Y.code kY 79 21 = some (.iload_n 1) ∧ ((1 : Fin 4) : Nat) = 1 ∧ 22 = 21 + 1 := by decide +kernel
theorem c79_22 : mj_Y.code kY 79 22 = some .aaload ∧ 23 = 22 + 1 := by decide +kernel
theorem c79_23 : mj_Y.code kY 79 23 = some .areturn ∧ mj_Y.rt kY 79 = some (.object "DiceOdds$Slot") ∧ ((.object "DiceOdds$Slot") : FieldType).isReference = true := by decide +kernel
theorem c80_0 : mj_Y.code kY 80 0 = some (.iload_n 0) ∧ ((0 : Fin 4) : Nat) = 0 ∧ 1 = 0 + 1 := by decide +kernel
theorem c80_1 : mj_Y.code kY 80 1 = some (.ifCond .lt 12) ∧ mj_tg 1 12 = some 13 ∧ 4 = 1 + 3 := by decide +kernel
theorem c80_4 : mj_Y.code kY 80 4 = some (.iload_n 0) ∧ ((0 : Fin 4) : Nat) = 0 ∧ 5 = 4 + 1 := by decide +kernel
theorem c80_5 : mj_Y.code kY 80 5 = some (.iconst 3) ∧ Int32.ofInt 3 = 3 ∧ 6 = 5 + 1 := by decide +kernel
theorem c80_6 : mj_Y.code kY 80 6 = some (.if_icmp .ge 7) ∧ mj_tg 6 7 = some 13 ∧ 9 = 6 + 3 := by decide +kernel
theorem c80_9 : mj_Y.code kY 80 9 = some (.iconst 1) ∧ Int32.ofInt 1 = 1 ∧ 10 = 9 + 1 := by decide +kernel
theorem c80_10 : mj_Y.code kY 80 10 = some (.goto 4) ∧ mj_tg 10 4 = some 14 := by decide +kernel
theorem c80_13 : mj_Y.code kY 80 13 = some (.iconst 0) ∧ Int32.ofInt 0 = 0 ∧ 14 = 13 + 1 := by decide +kernel
theorem c80_14 : mj_Y.code kY 80 14 = some .ireturn ∧ mj_Y.rt kY 80 = some .boolean := by decide +kernel
theorem c81_0 : mj_Y.code kY 81 0 = some (.aload_n 0) ∧ ((0 : Fin 4) : Nat) = 0 ∧ 1 = 0 + 1 := by decide +kernel
theorem c81_1 : mj_Y.code kY 81 1 = some (.aload_n 1) ∧ ((1 : Fin 4) : Nat) = 1 ∧ 2 = 1 + 1 := by decide +kernel
theorem c81_2 : mj_Y.code kY 81 2 = some (.invokevirtual 35) ∧ mj_Y.na kY 81 35 = some 1 ∧ mj_Y.cv kY 81 35 1 = some 82 ∧ mj_Y.nL kY 82 = 3 ∧ 5 = 2 + 3 := by decide +kernel
theorem c81_5 : mj_Y.code kY 81 5 = some (.aload_n 0) ∧ ((0 : Fin 4) : Nat) = 0 ∧ 6 = 5 + 1 := by decide +kernel
theorem c81_6 : mj_Y.code kY 81 6 = some (.iconst 0) ∧ Int32.ofInt 0 = 0 ∧ 7 = 6 + 1 := by decide +kernel
theorem c81_7 : mj_Y.code kY 81 7 = some (.invokevirtual 39) ∧ mj_Y.na kY 81 39 = some 1 ∧ mj_Y.cv kY 81 39 1 = some 83 ∧ mj_Y.nL kY 83 = 6 ∧ 10 = 7 + 3 := by decide +kernel
theorem c81_10 : mj_Y.code kY 81 10 = some (.astore_n 2) ∧ ((2 : Fin 4) : Nat) = 2 ∧ 2 < mj_Y.nL kY 81 ∧ 11 = 10 + 1 := by decide +kernel
theorem c81_11 : mj_Y.code kY 81 11 = some (.aload_n 0) ∧ ((0 : Fin 4) : Nat) = 0 ∧ 12 = 11 + 1 := by decide +kernel
theorem c81_12 : mj_Y.code kY 81 12 = some (.aload_n 0) ∧ ((0 : Fin 4) : Nat) = 0 ∧ 13 = 12 + 1 := by decide +kernel
theorem c81_13 : mj_Y.code kY 81 13 = some (.getfield 23) ∧ mj_Y.fl kY 81 23 1 = some (3, .int, true) ∧ 16 = 13 + 3 := by decide +kernel
theorem c81_16 : mj_Y.code kY 81 16 = some (.aload_n 0) ∧ ((0 : Fin 4) : Nat) = 0 ∧ 17 = 16 + 1 := by decide +kernel
theorem c81_17 : mj_Y.code kY 81 17 = some (.getfield 19) ∧ mj_Y.fl kY 81 19 1 = some (2, .int, true) ∧ 20 = 17 + 3 := by decide +kernel
theorem c81_20 : mj_Y.code kY 81 20 = some (.if_icmp .ne 7) ∧ mj_tg 20 7 = some 27 ∧ 23 = 20 + 3 := by decide +kernel
theorem c81_23 : mj_Y.code kY 81 23 = some (.iconst 1) ∧ Int32.ofInt 1 = 1 ∧ 24 = 23 + 1 := by decide +kernel
theorem c81_24 : mj_Y.code kY 81 24 = some (.goto 4) ∧ mj_tg 24 4 = some 28 := by decide +kernel
theorem c81_27 : mj_Y.code kY 81 27 = some (.iconst 0) ∧ Int32.ofInt 0 = 0 ∧ 28 = 27 + 1 := by decide +kernel
theorem c81_28 : mj_Y.code kY 81 28 = some (.aload_n 0) ∧ ((0 : Fin 4) : Nat) = 0 ∧ 29 = 28 + 1 := by decide +kernel
theorem c81_29 : mj_Y.code kY 81 29 = some (.getfield 23) ∧ mj_Y.fl kY 81 23 1 = some (3, .int, true) ∧ 32 = 29 + 3 := by decide +kernel
theorem c81_32 : mj_Y.code kY 81 32 = some (.invokevirtual 43) ∧ mj_Y.na kY 81 43 = some 2 ∧ mj_Y.cv kY 81 43 1 = some 87 ∧ mj_Y.nL kY 87 = 3 ∧ 35 = 32 + 3 := by decide +kernel
theorem c81_35 : mj_Y.code kY 81 35 = some (.aload_n 0) ∧ ((0 : Fin 4) : Nat) = 0 ∧ 36 = 35 + 1 := by decide +kernel
theorem c81_36 : mj_Y.code kY 81 36 = some (.aload_n 2) ∧ ((2 : Fin 4) : Nat) = 2 ∧ 37 = 36 + 1 := by decide +kernel
theorem c81_37 : mj_Y.code kY 81 37 = some (.invokestatic 47) ∧ mj_Y.pr kY 81 47 = none ∧ mj_Y.cs kY 81 47 = some (112, 1) ∧ mj_Y.nL kY 112 = 4 ∧ 40 = 37 + 3 := by decide +kernel
theorem c81_40 : mj_Y.code kY 81 40 = some (.ldc2_w 53) ∧ mj_Y.ck kY 81 53 = some (.long 2147483648) ∧ 43 = 40 + 3 := by decide +kernel
theorem c81_43 : mj_Y.code kY 81 43 = some .lcmp ∧ 44 = 43 + 1 := by decide +kernel
theorem c81_44 : mj_Y.code kY 81 44 = some (.ifCond .gt 7) ∧ mj_tg 44 7 = some 51 ∧ 47 = 44 + 3 := by decide +kernel
theorem c81_47 : mj_Y.code kY 81 47 = some (.iconst 1) ∧ Int32.ofInt 1 = 1 ∧ 48 = 47 + 1 := by decide +kernel
theorem c81_48 : mj_Y.code kY 81 48 = some (.goto 4) ∧ mj_tg 48 4 = some 52 := by decide +kernel
theorem c81_51 : mj_Y.code kY 81 51 = some (.iconst 0) ∧ Int32.ofInt 0 = 0 ∧ 52 = 51 + 1 := by decide +kernel
theorem c81_52 : mj_Y.code kY 81 52 = some (.aload_n 0) ∧ ((0 : Fin 4) : Nat) = 0 ∧ 53 = 52 + 1 := by decide +kernel
theorem c81_53 : mj_Y.code kY 81 53 = some (.getfield 19) ∧ mj_Y.fl kY 81 19 1 = some (2, .int, true) ∧ 56 = 53 + 3 := by decide +kernel
theorem c81_56 : mj_Y.code kY 81 56 = some (.invokevirtual 43) ∧ mj_Y.na kY 81 43 = some 2 ∧ mj_Y.cv kY 81 43 1 = some 87 ∧ mj_Y.nL kY 87 = 3 ∧ 59 = 56 + 3 := by decide +kernel
theorem c81_59 : mj_Y.code kY 81 59 = some (.aload_n 2) ∧ ((2 : Fin 4) : Nat) = 2 ∧ 60 = 59 + 1 := by decide +kernel
theorem c81_60 : mj_Y.code kY 81 60 = some .areturn ∧ mj_Y.rt kY 81 = some (.object "DiceOdds$Statement") ∧ ((.object "DiceOdds$Statement") : FieldType).isReference = true := by decide +kernel
theorem nh81 : mj_Y.nh kY 81 = true := by decide +kernel
theorem c82_0 : mj_Y.code kY 82 0 = some (.aload_n 0) ∧ ((0 : Fin 4) : Nat) = 0 ∧ 1 = 0 + 1 := by decide +kernel
theorem c82_1 : mj_Y.code kY 82 1 = some (.aload_n 1) ∧ ((1 : Fin 4) : Nat) = 1 ∧ 2 = 1 + 1 := by decide +kernel
theorem c82_2 : mj_Y.code kY 82 2 = some (.invokevirtual 55) ∧ mj_Y.na kY 82 55 = some 0 ∧ mj_Y.cv kY 82 55 0 = some 10 ∧ mj_Y.nL kY 10 = 1 ∧ 5 = 2 + 3 := by decide +kernel
theorem c82_5 : mj_Y.code kY 82 5 = some (.sipush 160) ∧ (Int16.ofInt 160).toInt32 = 160 ∧ 8 = 5 + 3 := by decide +kernel
theorem c82_8 : mj_Y.code kY 82 8 = some (.invokestatic 60) ∧ mj_Y.pr kY 82 60 = none ∧ mj_Y.cs kY 82 60 = some (21, 2) ∧ mj_Y.nL kY 21 = 2 ∧ 11 = 8 + 3 := by decide +kernel
theorem c82_11 : mj_Y.code kY 82 11 = some (.putfield 19) ∧ mj_Y.fl kY 82 19 1 = some (2, .int, true) ∧ 14 = 11 + 3 := by decide +kernel
theorem c82_14 : mj_Y.code kY 82 14 = some (.iconst 0) ∧ Int32.ofInt 0 = 0 ∧ 15 = 14 + 1 := by decide +kernel
theorem c82_15 : mj_Y.code kY 82 15 = some (.istore_n 2) ∧ ((2 : Fin 4) : Nat) = 2 ∧ 2 < mj_Y.nL kY 82 ∧ 16 = 15 + 1 := by decide +kernel
theorem c82_16 : mj_Y.code kY 82 16 = some (.iload_n 2) ∧ ((2 : Fin 4) : Nat) = 2 ∧ 17 = 16 + 1 := by decide +kernel
theorem c82_17 : mj_Y.code kY 82 17 = some (.aload_n 0) ∧ ((0 : Fin 4) : Nat) = 0 ∧ 18 = 17 + 1 := by decide +kernel
theorem c82_18 : mj_Y.code kY 82 18 = some (.getfield 19) ∧ mj_Y.fl kY 82 19 1 = some (2, .int, true) ∧ 21 = 18 + 3 := by decide +kernel
theorem c82_21 : mj_Y.code kY 82 21 = some (.if_icmp .ge 20) ∧ mj_tg 21 20 = some 41 ∧ 24 = 21 + 3 := by decide +kernel
theorem c82_24 : mj_Y.code kY 82 24 = some (.aload_n 0) ∧ ((0 : Fin 4) : Nat) = 0 ∧ 25 = 24 + 1 := by decide +kernel
theorem c82_25 : mj_Y.code kY 82 25 = some (.getfield 9) ∧ mj_Y.fl kY 82 9 1 = some (0, (.array .char), false) ∧ 28 = 25 + 3 := by decide +kernel
theorem c82_28 : mj_Y.code kY 82 28 = some (.iload_n 2) ∧ ((2 : Fin 4) : Nat) = 2 ∧ 29 = 28 + 1 := by decide +kernel
theorem c82_29 : mj_Y.code kY 82 29 = some (.aload_n 1) ∧ ((1 : Fin 4) : Nat) = 1 ∧ 30 = 29 + 1 := by decide +kernel
theorem c82_30 : mj_Y.code kY 82 30 = some (.iload_n 2) ∧ ((2 : Fin 4) : Nat) = 2 ∧ 31 = 30 + 1 := by decide +kernel
theorem c82_31 : mj_Y.code kY 82 31 = some (.invokevirtual 66) ∧ mj_Y.na kY 82 66 = some 1 ∧ mj_Y.cv kY 82 66 0 = some 73 ∧ mj_Y.nL kY 73 = 2 ∧ 34 = 31 + 3 := by decide +kernel
theorem c82_34 : mj_Y.code kY 82 34 = some .castore ∧ 35 = 34 + 1 := by decide +kernel
theorem c82_35 : mj_Y.code kY 82 35 = some (.iinc 2 1) ∧ 2 < mj_Y.nL kY 82 ∧ Int32.ofInt 1 = 1 ∧ 38 = 35 + 3 := by decide +kernel
theorem c82_38 : mj_Y.code kY 82 38 = some (.goto (-22)) ∧ mj_tg 38 (-22) = some 16 := by decide +kernel
theorem c82_41 : mj_Y.code kY 82 41 = some (.aload_n 0) ∧ ((0 : Fin 4) : Nat) = 0 ∧ 42 = 41 + 1 := by decide +kernel
theorem c82_42 : mj_Y.code kY 82 42 = some (.iconst 0) ∧ Int32.ofInt 0 = 0 ∧ 43 = 42 + 1 := by decide +kernel
theorem c82_43 : mj_Y.code kY 82 43 = some (.putfield 23) ∧ mj_Y.fl kY 82 23 1 = some (3, .int, true) ∧ 46 = 43 + 3 := by decide +kernel
theorem c82_46 : mj_Y.code kY 82 46 = some (.aload_n 0) ∧ ((0 : Fin 4) : Nat) = 0 ∧ 47 = 46 + 1 := by decide +kernel
theorem c82_47 : mj_Y.code kY 82 47 = some (.iconst 0) ∧ Int32.ofInt 0 = 0 ∧ 48 = 47 + 1 := by decide +kernel
theorem c82_48 : mj_Y.code kY 82 48 = some (.putfield 26) ∧ mj_Y.fl kY 82 26 1 = some (4, .int, true) ∧ 51 = 48 + 3 := by decide +kernel
theorem c82_51 : mj_Y.code kY 82 51 = some (.aload_n 0) ∧ ((0 : Fin 4) : Nat) = 0 ∧ 52 = 51 + 1 := by decide +kernel
theorem c82_52 : mj_Y.code kY 82 52 = some (.iconst 0) ∧ Int32.ofInt 0 = 0 ∧ 53 = 52 + 1 := by decide +kernel
theorem c82_53 : mj_Y.code kY 82 53 = some (.putfield 29) ∧ mj_Y.fl kY 82 29 1 = some (5, .int, true) ∧ 56 = 53 + 3 := by decide +kernel
theorem c82_56 : mj_Y.code kY 82 56 = some .return_ ∧ mj_Y.rt kY 82 = none := by decide +kernel
theorem c83_0 : mj_Y.code kY 83 0 = some .aconst_null ∧ 1 = 0 + 1 := by decide +kernel
theorem c83_1 : mj_Y.code kY 83 1 = some (.astore_n 2) ∧ ((2 : Fin 4) : Nat) = 2 ∧ 2 < mj_Y.nL kY 83 ∧ 2 = 1 + 1 := by decide +kernel
theorem c83_2 : mj_Y.code kY 83 2 = some .aconst_null ∧ 3 = 2 + 1 := by decide +kernel
theorem c83_3 : mj_Y.code kY 83 3 = some (.astore_n 3) ∧ ((3 : Fin 4) : Nat) = 3 ∧ 3 < mj_Y.nL kY 83 ∧ 4 = 3 + 1 := by decide +kernel
theorem c83_4 : mj_Y.code kY 83 4 = some (.iconst 0) ∧ Int32.ofInt 0 = 0 ∧ 5 = 4 + 1 := by decide +kernel
theorem c83_5 : mj_Y.code kY 83 5 = some (.istore 4) ∧ 4 = 4 ∧ 4 < mj_Y.nL kY 83 ∧ 7 = 5 + 2 := by decide +kernel
theorem c83_7 : mj_Y.code kY 83 7 = some (.iload 4) ∧ 4 = 4 ∧ 9 = 7 + 2 := by decide +kernel
theorem c83_9 : mj_Y.code kY 83 9 = some (.bipush 24) ∧ (Int8.ofInt 24).toInt32 = 24 ∧ 11 = 9 + 2 := by decide +kernel
theorem c83_11 : mj_Y.code kY 83 11 = some (.if_icmp .gt 51) ∧ mj_tg 11 51 = some 62 ∧ 14 = 11 + 3 := by decide +kernel
theorem c83_14 : mj_Y.code kY 83 14 = some (.aload_n 0) ∧ ((0 : Fin 4) : Nat) = 0 ∧ 15 = 14 + 1 := by decide +kernel
theorem c83_15 : mj_Y.code kY 83 15 = some (.invokevirtual 77) ∧ mj_Y.na kY 83 77 = some 0 ∧ mj_Y.cv kY 83 77 1 = some 84 ∧ mj_Y.nL kY 84 = 1 ∧ 18 = 15 + 3 := by decide +kernel
theorem c83_18 : mj_Y.code kY 83 18 = some (.ifCond .eq 44) ∧ mj_tg 18 44 = some 62 ∧ 21 = 18 + 3 := by decide +kernel
theorem c83_21 : mj_Y.code kY 83 21 = some (.aload_n 0) ∧ ((0 : Fin 4) : Nat) = 0 ∧ 22 = 21 + 1 := by decide +kernel
theorem c83_22 : mj_Y.code kY 83 22 = some (.invokevirtual 77) ∧ mj_Y.na kY 83 77 = some 0 ∧ mj_Y.cv kY 83 77 1 = some 84 ∧ mj_Y.nL kY 84 = 1 ∧ 25 = 22 + 3 := by decide +kernel
theorem c83_25 : mj_Y.code kY 83 25 = some (.bipush 125) ∧ (Int8.ofInt 125).toInt32 = 125 ∧ 27 = 25 + 2 := by decide +kernel
theorem c83_27 : mj_Y.code kY 83 27 = some (.if_icmp .eq 35) ∧ mj_tg 27 35 = some 62 ∧ 30 = 27 + 3 := by decide +kernel
theorem c83_30 : mj_Y.code kY 83 30 = some (.aload_n 0) ∧ ((0 : Fin 4) : Nat) = 0 ∧ 31 = 30 + 1 := by decide +kernel
theorem c83_31 : mj_Y.code kY 83 31 = some (.iload_n 1) ∧ ((1 : Fin 4) : Nat) = 1 ∧ 32 = 31 + 1 := by decide +kernel
theorem c83_32 : mj_Y.code kY 83 32 = some (.invokevirtual 81) ∧ mj_Y.na kY 83 81 = some 1 ∧ mj_Y.cv kY 83 81 1 = some 85 ∧ mj_Y.nL kY 85 = 4 ∧ 35 = 32 + 3 := by decide +kernel
theorem c83_35 : mj_Y.code kY 83 35 = some (.astore 5) ∧ 5 = 5 ∧ 5 < mj_Y.nL kY 83 ∧ 37 = 35 + 2 := by decide +kernel
theorem c83_37 : mj_Y.code kY 83 37 = some (.aload_n 3) ∧ ((3 : Fin 4) : Nat) = 3 ∧ 38 = 37 + 1 := by decide +kernel
theorem c83_38 : mj_Y.code kY 83 38 = some (.ifnonnull 9) ∧ mj_tg 38 9 = some 47 ∧ 41 = 38 + 3 := by decide +kernel
theorem c83_41 : mj_Y.code kY 83 41 = some (.aload 5) ∧ 5 = 5 ∧ 43 = 41 + 2 := by decide +kernel
theorem c83_43 : mj_Y.code kY 83 43 = some (.astore_n 2) ∧ ((2 : Fin 4) : Nat) = 2 ∧ 2 < mj_Y.nL kY 83 ∧ 44 = 43 + 1 := by decide +kernel
theorem c83_44 : mj_Y.code kY 83 44 = some (.goto 9) ∧ mj_tg 44 9 = some 53 := by decide +kernel
theorem c83_47 : mj_Y.code kY 83 47 = some (.aload_n 3) ∧ ((3 : Fin 4) : Nat) = 3 ∧ 48 = 47 + 1 := by decide +kernel
theorem c83_48 : mj_Y.code kY 83 48 = some (.aload 5) ∧ 5 = 5 ∧ 50 = 48 + 2 := by decide +kernel
theorem c83_50 : mj_Y.code kY 83 50 = some (.putfield 84) ∧ mj_Y.fl kY 83 84 11 = some (8, (.object "DiceOdds$Statement"), true) ∧ 53 = 50 + 3 := by decide +kernel
theorem c83_53 : mj_Y.code kY 83 53 = some (.aload 5) ∧ 5 = 5 ∧ 55 = 53 + 2 := by decide +kernel
theorem c83_55 : mj_Y.code kY 83 55 = some (.astore_n 3) ∧ ((3 : Fin 4) : Nat) = 3 ∧ 3 < mj_Y.nL kY 83 ∧ 56 = 55 + 1 := by decide +kernel
theorem c83_56 : mj_Y.code kY 83 56 = some (.iinc 4 1) ∧ 4 < mj_Y.nL kY 83 ∧ Int32.ofInt 1 = 1 ∧ 59 = 56 + 3 := by decide +kernel
theorem c83_59 : mj_Y.code kY 83 59 = some (.goto (-52)) ∧ mj_tg 59 (-52) = some 7 := by decide +kernel
theorem c83_62 : mj_Y.code kY 83 62 = some (.aload_n 2) ∧ ((2 : Fin 4) : Nat) = 2 ∧ 63 = 62 + 1 := by decide +kernel
theorem c83_63 : mj_Y.code kY 83 63 = some .areturn ∧ mj_Y.rt kY 83 = some (.object "DiceOdds$Statement") ∧ ((.object "DiceOdds$Statement") : FieldType).isReference = true := by decide +kernel
theorem nh83 : mj_Y.nh kY 83 = true := by decide +kernel
theorem c84_0 : mj_Y.code kY 84 0 = some (.aload_n 0) ∧ ((0 : Fin 4) : Nat) = 0 ∧ 1 = 0 + 1 := by decide +kernel
theorem c84_1 : mj_Y.code kY 84 1 = some (.getfield 23) ∧ mj_Y.fl kY 84 23 1 = some (3, .int, true) ∧ 4 = 1 + 3 := by decide +kernel
theorem c84_4 : mj_Y.code kY 84 4 = some (.aload_n 0) ∧ ((0 : Fin 4) : Nat) = 0 ∧ 5 = 4 + 1 := by decide +kernel
theorem c84_5 : mj_Y.code kY 84 5 = some (.getfield 19) ∧ mj_Y.fl kY 84 19 1 = some (2, .int, true) ∧ 8 = 5 + 3 := by decide +kernel
theorem c84_8 : mj_Y.code kY 84 8 = some (.if_icmp .ge 15) ∧ mj_tg 8 15 = some 23 ∧ 11 = 8 + 3 := by decide +kernel
theorem c84_11 : mj_Y.code kY 84 11 = some (.aload_n 0) ∧ ((0 : Fin 4) : Nat) = 0 ∧ 12 = 11 + 1 := by decide +kernel
theorem c84_12 : mj_Y.code kY 84 12 = some (.getfield 9) ∧ mj_Y.fl kY 84 9 1 = some (0, (.array .char), false) ∧ 15 = 12 + 3 := by decide +kernel
theorem c84_15 : mj_Y.code kY 84 15 = some (.aload_n 0) ∧ ((0 : Fin 4) : Nat) = 0 ∧ 16 = 15 + 1 := by decide +kernel
theorem c84_16 : mj_Y.code kY 84 16 = some (.getfield 23) ∧ mj_Y.fl kY 84 23 1 = some (3, .int, true) ∧ 19 = 16 + 3 := by decide +kernel
theorem c84_19 : mj_Y.code kY 84 19 = some .caload ∧ 20 = 19 + 1 := by decide +kernel
theorem c84_20 : mj_Y.code kY 84 20 = some (.goto 4) ∧ mj_tg 20 4 = some 24 := by decide +kernel
theorem c84_23 : mj_Y.code kY 84 23 = some (.iconst 0) ∧ Int32.ofInt 0 = 0 ∧ 24 = 23 + 1 := by decide +kernel
theorem c84_24 : mj_Y.code kY 84 24 = some .ireturn ∧ mj_Y.rt kY 84 = some .char := by decide +kernel
theorem c85_0 : mj_Y.code kY 85 0 = some (.aload_n 0) ∧ ((0 : Fin 4) : Nat) = 0 ∧ 1 = 0 + 1 := by decide +kernel
theorem c85_1 : mj_Y.code kY 85 1 = some (.invokevirtual 77) ∧ mj_Y.na kY 85 77 = some 0 ∧ mj_Y.cv kY 85 77 1 = some 84 ∧ mj_Y.nL kY 84 = 1 ∧ 4 = 1 + 3 := by decide +kernel
theorem c85_4 : mj_Y.code kY 85 4 = some (.istore_n 2) ∧ ((2 : Fin 4) : Nat) = 2 ∧ 2 < mj_Y.nL kY 85 ∧ 5 = 4 + 1 := by decide +kernel
theorem c85_5 : mj_Y.code kY 85 5 = some (.aload_n 0) ∧ ((0 : Fin 4) : Nat) = 0 ∧ 6 = 5 + 1 := by decide +kernel
theorem c85_6 : mj_Y.code kY 85 6 = some (.iload_n 2) ∧ ((2 : Fin 4) : Nat) = 2 ∧ 7 = 6 + 1 := by decide +kernel
theorem c85_7 : mj_Y.code kY 85 7 = some (.invokestatic 88) ∧ mj_Y.pr kY 85 88 = none ∧ mj_Y.cs kY 85 88 = some (86, 1) ∧ mj_Y.nL kY 86 = 1 ∧ 10 = 7 + 3 := by decide +kernel
theorem c85_10 : mj_Y.code kY 85 10 = some (.ifCond .ne 21) ∧ mj_tg 10 21 = some 31 ∧ 13 = 10 + 3 := by decide +kernel
theorem c85_13 : mj_Y.code kY 85 13 = some (.iload_n 2) ∧ ((2 : Fin 4) : Nat) = 2 ∧ 14 = 13 + 1 := by decide +kernel
theorem c85_14 : mj_Y.code kY 85 14 = some (.bipush 33) ∧ (Int8.ofInt 33).toInt32 = 33 ∧ 16 = 14 + 2 := by decide +kernel
theorem c85_16 : mj_Y.code kY 85 16 = some (.if_icmp .eq 15) ∧ mj_tg 16 15 = some 31 ∧ 19 = 16 + 3 := by decide +kernel
theorem c85_19 : mj_Y.code kY 85 19 = some (.iload_n 2) ∧ ((2 : Fin 4) : Nat) = 2 ∧ 20 = 19 + 1 := by decide +kernel
theorem c85_20 : mj_Y.code kY 85 20 = some (.bipush 63) ∧ (Int8.ofInt 63).toInt32 = 63 ∧ 22 = 20 + 2 := by decide +kernel
theorem c85_22 : mj_Y.code kY 85 22 = some (.if_icmp .eq 9) ∧ mj_tg 22 9 = some 31 ∧ 25 = 22 + 3 := by decide +kernel
theorem c85_25 : mj_Y.code kY 85 25 = some (.iload_n 2) ∧ ((2 : Fin 4) : Nat) = 2 ∧ 26 = 25 + 1 := by decide +kernel
theorem c85_26 : mj_Y.code kY 85 26 = some (.bipush 42) ∧ (Int8.ofInt 42).toInt32 = 42 ∧ 28 = 26 + 2 := by decide +kernel
theorem c85_28 : mj_Y.code kY 85 28 = some (.if_icmp .ne 7) ∧ mj_tg 28 7 = some 35 ∧ 31 = 28 + 3 := by decide +kernel
theorem c85_31 : mj_Y.code kY 85 31 = some (.iconst 1) ∧ Int32.ofInt 1 = 1 ∧ 32 = 31 + 1 := by decide +kernel
theorem c85_32 : mj_Y.code kY 85 32 = some (.goto 4) ∧ mj_tg 32 4 = some 36 := by decide +kernel
theorem c85_35 : mj_Y.code kY 85 35 = some (.iconst 0) ∧ Int32.ofInt 0 = 0 ∧ 36 = 35 + 1 := by decide +kernel
theorem c85_36 : mj_Y.code kY 85 36 = some (.aload_n 0) ∧ ((0 : Fin 4) : Nat) = 0 ∧ 37 = 36 + 1 := by decide +kernel
theorem c85_37 : mj_Y.code kY 85 37 = some (.getfield 23) ∧ mj_Y.fl kY 85 23 1 = some (3, .int, true) ∧ 40 = 37 + 3 := by decide +kernel
theorem c85_40 : mj_Y.code kY 85 40 = some (.invokevirtual 43) ∧ mj_Y.na kY 85 43 = some 2 ∧ mj_Y.cv kY 85 43 1 = some 87 ∧ mj_Y.nL kY 87 = 3 ∧ 43 = 40 + 3 := by decide +kernel
theorem c85_43 : mj_Y.code kY 85 43 = some (.aload_n 0) ∧ ((0 : Fin 4) : Nat) = 0 ∧ 44 = 43 + 1 := by decide +kernel
theorem c85_44 : mj_Y.code kY 85 44 = some (.aload_n 0) ∧ ((0 : Fin 4) : Nat) = 0 ∧ 45 = 44 + 1 := by decide +kernel
theorem c85_45 : mj_Y.code kY 85 45 = some (.getfield 26) ∧ mj_Y.fl kY 85 26 1 = some (4, .int, true) ∧ 48 = 45 + 3 := by decide +kernel
theorem c85_48 : mj_Y.code kY 85 48 = some (.bipush 24) ∧ (Int8.ofInt 24).toInt32 = 24 ∧ 50 = 48 + 2 := by decide +kernel
theorem c85_50 : mj_Y.code kY 85 50 = some (.if_icmp .ge 7) ∧ mj_tg 50 7 = some 57 ∧ 53 = 50 + 3 := by decide +kernel
theorem c85_53 : mj_Y.code kY 85 53 = some (.iconst 1) ∧ Int32.ofInt 1 = 1 ∧ 54 = 53 + 1 := by decide +kernel
theorem c85_54 : mj_Y.code kY 85 54 = some (.goto 4) ∧ mj_tg 54 4 = some 58 := by decide +kernel
theorem c85_57 : mj_Y.code kY 85 57 = some (.iconst 0) ∧ Int32.ofInt 0 = 0 ∧ 58 = 57 + 1 := by decide +kernel
theorem c85_58 : mj_Y.code kY 85 58 = some (.aload_n 0) ∧ ((0 : Fin 4) : Nat) = 0 ∧ 59 = 58 + 1 := by decide +kernel
theorem c85_59 : mj_Y.code kY 85 59 = some (.getfield 23) ∧ mj_Y.fl kY 85 23 1 = some (3, .int, true) ∧ 62 = 59 + 3 := by decide +kernel
theorem c85_62 : mj_Y.code kY 85 62 = some (.invokevirtual 43) ∧ mj_Y.na kY 85 43 = some 2 ∧ mj_Y.cv kY 85 43 1 = some 87 ∧ mj_Y.nL kY 87 = 3 ∧ 65 = 62 + 3 := by decide +kernel
theorem c85_65 : mj_Y.code kY 85 65 = some (.aload_n 0) ∧ ((0 : Fin 4) : Nat) = 0 ∧ 66 = 65 + 1 := by decide +kernel
theorem c85_66 : mj_Y.code kY 85 66 = some .dup ∧ 67 = 66 + 1 := by decide +kernel
theorem c85_67 : mj_Y.code kY 85 67 = some (.getfield 26) ∧ mj_Y.fl kY 85 26 1 = some (4, .int, true) ∧ 70 = 67 + 3 := by decide +kernel
theorem c85_70 : mj_Y.code kY 85 70 = some (.iconst 1) ∧ Int32.ofInt 1 = 1 ∧ 71 = 70 + 1 := by decide +kernel
theorem c85_71 : mj_Y.code kY 85 71 = some .iadd ∧ 72 = 71 + 1 := by decide +kernel
theorem c85_72 : mj_Y.code kY 85 72 = some (.putfield 26) ∧ mj_Y.fl kY 85 26 1 = some (4, .int, true) ∧ 75 = 72 + 3 := by decide +kernel
theorem c85_75 : mj_Y.code kY 85 75 = some (.aload_n 0) ∧ ((0 : Fin 4) : Nat) = 0 ∧ 76 = 75 + 1 := by decide +kernel
theorem c85_76 : mj_Y.code kY 85 76 = some .dup ∧ 77 = 76 + 1 := by decide +kernel
theorem c85_77 : mj_Y.code kY 85 77 = some (.getfield 23) ∧ mj_Y.fl kY 85 23 1 = some (3, .int, true) ∧ 80 = 77 + 3 := by decide +kernel
theorem c85_80 : mj_Y.code kY 85 80 = some (.iconst 1) ∧ Int32.ofInt 1 = 1 ∧ 81 = 80 + 1 := by decide +kernel
theorem c85_81 : mj_Y.code kY 85 81 = some .iadd ∧ 82 = 81 + 1 := by decide +kernel
theorem c85_82 : mj_Y.code kY 85 82 = some (.putfield 23) ∧ mj_Y.fl kY 85 23 1 = some (3, .int, true) ∧ 85 = 82 + 3 := by decide +kernel
theorem c85_85 : mj_Y.code kY 85 85 = some (.iload_n 2) ∧ ((2 : Fin 4) : Nat) = 2 ∧ 86 = 85 + 1 := by decide +kernel
theorem c85_86 : mj_Y.code kY 85 86 = some (.bipush 63) ∧ (Int8.ofInt 63).toInt32 = 63 ∧ 88 = 86 + 2 := by decide +kernel
theorem c85_88 : mj_Y.code kY 85 88 = some (.if_icmp .ne 9) ∧ mj_tg 88 9 = some 97 ∧ 91 = 88 + 3 := by decide +kernel
theorem c85_91 : mj_Y.code kY 85 91 = some (.aload_n 0) ∧ ((0 : Fin 4) : Nat) = 0 ∧ 92 = 91 + 1 := by decide +kernel
theorem c85_92 : mj_Y.code kY 85 92 = some (.iload_n 1) ∧ ((1 : Fin 4) : Nat) = 1 ∧ 93 = 92 + 1 := by decide +kernel
theorem c85_93 : mj_Y.code kY 85 93 = some (.invokevirtual 92) ∧ mj_Y.na kY 85 92 = some 1 ∧ mj_Y.cv kY 85 92 1 = some 88 ∧ mj_Y.nL kY 88 = 5 ∧ 96 = 93 + 3 := by decide +kernel
theorem c85_96 : mj_Y.code kY 85 96 = some .areturn ∧ mj_Y.rt kY 85 = some (.object "DiceOdds$Statement") ∧ ((.object "DiceOdds$Statement") : FieldType).isReference = true := by decide +kernel
theorem c85_97 : mj_Y.code kY 85 97 = some (.iload_n 2) ∧ ((2 : Fin 4) : Nat) = 2 ∧ 98 = 97 + 1 := by decide +kernel
theorem c85_98 : mj_Y.code kY 85 98 = some (.bipush 42) ∧ (Int8.ofInt 42).toInt32 = 42 ∧ 100 = 98 + 2 := by decide +kernel
theorem c85_100 : mj_Y.code kY 85 100 = some (.if_icmp .ne 9) ∧ mj_tg 100 9 = some 109 ∧ 103 = 100 + 3 := by decide +kernel
theorem c85_103 : mj_Y.code kY 85 103 = some (.aload_n 0) ∧ ((0 : Fin 4) : Nat) = 0 ∧ 104 = 103 + 1 := by decide +kernel
theorem c85_104 : mj_Y.code kY 85 104 = some (.iload_n 1) ∧ ((1 : Fin 4) : Nat) = 1 ∧ 105 = 104 + 1 := by decide +kernel
theorem c85_105 : mj_Y.code kY 85 105 = some (.invokevirtual 95) ∧ mj_Y.na kY 85 95 = some 1 ∧ mj_Y.cv kY 85 95 1 = some 116 ∧ mj_Y.nL kY 116 = 3 ∧ 108 = 105 + 3 := by decide +kernel
theorem c85_108 : mj_Y.code kY 85 108 = some .areturn ∧ mj_Y.rt kY 85 = some (.object "DiceOdds$Statement") ∧ ((.object "DiceOdds$Statement") : FieldType).isReference = true := by decide +kernel
theorem c85_109 : mj_Y.code kY 85 109 = some (.iload_n 2) ∧ ((2 : Fin 4) : Nat) = 2 ∧ 110 = 109 + 1 := by decide +kernel
theorem c85_110 : mj_Y.code kY 85 110 = some (.bipush 33) ∧ (Int8.ofInt 33).toInt32 = 33 ∧ 112 = 110 + 2 := by decide +kernel
theorem c85_112 : mj_Y.code kY 85 112 = some (.if_icmp .eq 9) ∧ mj_tg 112 9 = some 121 ∧ 115 = 112 + 3 := by decide +kernel
theorem c85_115 : mj_Y.code kY 85 115 = some (.aload_n 0) ∧ ((0 : Fin 4) : Nat) = 0 ∧ 116 = 115 + 1 := by decide +kernel
theorem c85_116 : mj_Y.code kY 85 116 = some (.bipush 61) ∧ (Int8.ofInt 61).toInt32 = 61 ∧ 118 = 116 + 2 := by decide +kernel
theorem c85_118 : mj_Y.code kY 85 118 = some (.invokevirtual 98) ∧ mj_Y.na kY 85 98 = some 1 ∧ mj_Y.cv kY 85 98 1 = some 94 ∧ mj_Y.nL kY 94 = 2 ∧ 121 = 118 + 3 := by decide +kernel
theorem c85_121 : mj_Y.code kY 85 121 = some (.aload_n 0) ∧ ((0 : Fin 4) : Nat) = 0 ∧ 122 = 121 + 1 := by decide +kernel
theorem c85_122 : mj_Y.code kY 85 122 = some (.iconst 0) ∧ Int32.ofInt 0 = 0 ∧ 123 = 122 + 1 := by decide +kernel
theorem c85_123 : mj_Y.code kY 85 123 = some (.iconst 0) ∧ Int32.ofInt 0 = 0 ∧ 124 = 123 + 1 := by decide +kernel
theorem c85_124 : mj_Y.code kY 85 124 = some (.invokevirtual 102) ∧ mj_Y.na kY 85 102 = some 2 ∧ mj_Y.cv kY 85 102 1 = some 89 ∧ mj_Y.nL kY 89 = 7 ∧ 127 = 124 + 3 := by decide +kernel
theorem c85_127 : mj_Y.code kY 85 127 = some (.astore_n 3) ∧ ((3 : Fin 4) : Nat) = 3 ∧ 3 < mj_Y.nL kY 85 ∧ 128 = 127 + 1 := by decide +kernel
theorem c85_128 : mj_Y.code kY 85 128 = some (.aload_n 0) ∧ ((0 : Fin 4) : Nat) = 0 ∧ 129 = 128 + 1 := by decide +kernel
theorem c85_129 : mj_Y.code kY 85 129 = some (.bipush 59) ∧ (Int8.ofInt 59).toInt32 = 59 ∧ 131 = 129 + 2 := by decide +kernel
theorem c85_131 : mj_Y.code kY 85 131 = some (.invokevirtual 98) ∧ mj_Y.na kY 85 98 = some 1 ∧ mj_Y.cv kY 85 98 1 = some 94 ∧ mj_Y.nL kY 94 = 2 ∧ 134 = 131 + 3 := by decide +kernel
theorem c85_134 : mj_Y.code kY 85 134 = some (.new 48) ∧ mj_Y.ex kY 85 48 = none ∧ mj_Y.nw kY 85 48 = some (11, 9, [.int 0, .null, .int 0, .null, .null, .long 0, .long 0, .long 0, .null]) ∧ 137 = 134 + 3 := by decide +kernel
theorem c85_137 : mj_Y.code kY 85 137 = some .dup ∧ 138 = 137 + 1 := by decide +kernel
theorem c85_138 : mj_Y.code kY 85 138 = some (.iload_n 2) ∧ ((2 : Fin 4) : Nat) = 2 ∧ 139 = 138 + 1 := by decide +kernel
theorem c85_139 : mj_Y.code kY 85 139 = some (.aload_n 3) ∧ ((3 : Fin 4) : Nat) = 3 ∧ 140 = 139 + 1 := by decide +kernel
theorem c85_140 : mj_Y.code kY 85 140 = some (.iconst 0) ∧ Int32.ofInt 0 = 0 ∧ 141 = 140 + 1 := by decide +kernel
theorem c85_141 : mj_Y.code kY 85 141 = some .aconst_null ∧ 142 = 141 + 1 := by decide +kernel
theorem c85_142 : mj_Y.code kY 85 142 = some .aconst_null ∧ 143 = 142 + 1 := by decide +kernel
theorem c85_143 : mj_Y.code kY 85 143 = some (.invokespecial 106) ∧ mj_Y.pr kY 85 106 = none ∧ mj_Y.cp kY 85 106 = some (111, 5) ∧ mj_Y.nL kY 111 = 12 ∧ 146 = 143 + 3 := by decide +kernel
theorem c85_146 : mj_Y.code kY 85 146 = some .areturn ∧ mj_Y.rt kY 85 = some (.object "DiceOdds$Statement") ∧ ((.object "DiceOdds$Statement") : FieldType).isReference = true := by decide +kernel
theorem nh85 : mj_Y.nh kY 85 = true := by decide +kernel
theorem c86_0 : mj_Y.code kY 86 0 = some (.iload_n 0) ∧ ((0 : Fin 4) : Nat) = 0 ∧ 1 = 0 + 1 := by decide +kernel
theorem c86_1 : mj_Y.code kY 86 1 = some (.bipush 65) ∧ (Int8.ofInt 65).toInt32 = 65 ∧ 3 = 1 + 2 := by decide +kernel
theorem c86_3 : mj_Y.code kY 86 3 = some (.if_icmp .lt 13) ∧ mj_tg 3 13 = some 16 ∧ 6 = 3 + 3 := by decide +kernel
theorem c86_6 : mj_Y.code kY 86 6 = some (.iload_n 0) ∧ ((0 : Fin 4) : Nat) = 0 ∧ 7 = 6 + 1 := by decide +kernel
theorem c86_7 : mj_Y.code kY 86 7 = some (.bipush 71) ∧ (Int8.ofInt 71).toInt32 = 71 ∧ 9 = 7 + 2 := by decide +kernel
theorem c86_9 : mj_Y.code kY 86 9 = some (.if_icmp .ge 7) ∧ mj_tg 9 7 = some 16 ∧ 12 = 9 + 3 := by decide +kernel
theorem c86_12 : mj_Y.code kY 86 12 = some (.iconst 1) ∧ Int32.ofInt 1 = 1 ∧ 13 = 12 + 1 := by decide +kernel
theorem c86_13 : mj_Y.code kY 86 13 = some (.goto 4) ∧ mj_tg 13 4 = some 17 := by decide +kernel
theorem c86_16 : mj_Y.code kY 86 16 = some (.iconst 0) ∧ Int32.ofInt 0 = 0 ∧ 17 = 16 + 1 := by decide +kernel
theorem c86_17 : mj_Y.code kY 86 17 = some .ireturn ∧ mj_Y.rt kY 86 = some .boolean := by decide +kernel
theorem c87_0 : mj_Y.code kY 87 0 = some (.iload_n 1) ∧ ((1 : Fin 4) : Nat) = 1 ∧ 1 = 0 + 1 := by decide +kernel
theorem c87_1 : mj_Y.code kY 87 1 = some (.ifCond .ne 18) ∧ mj_tg 1 18 = some 19 ∧ 4 = 1 + 3 := by decide +kernel
theorem c87_4 : mj_Y.code kY 87 4 = some (.aload_n 0) ∧ ((0 : Fin 4) : Nat) = 0 ∧ 5 = 4 + 1 := by decide +kernel
theorem c87_5 : mj_Y.code kY 87 5 = some (.iload_n 2) ∧ ((2 : Fin 4) : Nat) = 2 ∧ 6 = 5 + 1 := by decide +kernel
theorem c87_6 : mj_Y.code kY 87 6 = some (.putfield 32) ∧ mj_Y.fl kY 87 32 1 = some (6, .int, true) ∧ 9 = 6 + 3 := by decide +kernel
theorem c87_9 : mj_Y.code kY 87 9 = some (.new 70) ∧ mj_Y.ex kY 87 70 = some 13 ∧ mj_Y.nh kY 87 = true := by decide +kernel
theorem c87_19 : mj_Y.code kY 87 19 = some .return_ ∧ mj_Y.rt kY 87 = none := by decide +kernel
theorem c88_0 : mj_Y.code kY 88 0 = some (.aload_n 0) ∧ ((0 : Fin 4) : Nat) = 0 ∧ 1 = 0 + 1 := by decide +kernel
theorem c88_1 : mj_Y.code kY 88 1 = some (.iconst 0) ∧ Int32.ofInt 0 = 0 ∧ 2 = 1 + 1 := by decide +kernel
theorem c88_2 : mj_Y.code kY 88 2 = some (.iconst 0) ∧ Int32.ofInt 0 = 0 ∧ 3 = 2 + 1 := by decide +kernel
theorem c88_3 : mj_Y.code kY 88 3 = some (.invokevirtual 102) ∧ mj_Y.na kY 88 102 = some 2 ∧ mj_Y.cv kY 88 102 1 = some 89 ∧ mj_Y.nL kY 89 = 7 ∧ 6 = 3 + 3 := by decide +kernel
theorem c88_6 : mj_Y.code kY 88 6 = some (.astore_n 2) ∧ ((2 : Fin 4) : Nat) = 2 ∧ 2 < mj_Y.nL kY 88 ∧ 7 = 6 + 1 := by decide +kernel
theorem c88_7 : mj_Y.code kY 88 7 = some (.aload_n 0) ∧ ((0 : Fin 4) : Nat) = 0 ∧ 8 = 7 + 1 := by decide +kernel
theorem c88_8 : mj_Y.code kY 88 8 = some (.iload_n 1) ∧ ((1 : Fin 4) : Nat) = 1 ∧ 9 = 8 + 1 := by decide +kernel
theorem c88_9 : mj_Y.code kY 88 9 = some (.invokevirtual 109) ∧ mj_Y.na kY 88 109 = some 1 ∧ mj_Y.cv kY 88 109 1 = some 110 ∧ mj_Y.nL kY 110 = 3 ∧ 12 = 9 + 3 := by decide +kernel
theorem c88_12 : mj_Y.code kY 88 12 = some (.astore_n 3) ∧ ((3 : Fin 4) : Nat) = 3 ∧ 3 < mj_Y.nL kY 88 ∧ 13 = 12 + 1 := by decide +kernel
theorem c88_13 : mj_Y.code kY 88 13 = some .aconst_null ∧ 14 = 13 + 1 := by decide +kernel
theorem c88_14 : mj_Y.code kY 88 14 = some (.astore 4) ∧ 4 = 4 ∧ 4 < mj_Y.nL kY 88 ∧ 16 = 14 + 2 := by decide +kernel
theorem c88_16 : mj_Y.code kY 88 16 = some (.aload_n 0) ∧ ((0 : Fin 4) : Nat) = 0 ∧ 17 = 16 + 1 := by decide +kernel
theorem c88_17 : mj_Y.code kY 88 17 = some (.invokevirtual 77) ∧ mj_Y.na kY 88 77 = some 0 ∧ mj_Y.cv kY 88 77 1 = some 84 ∧ mj_Y.nL kY 84 = 1 ∧ 20 = 17 + 3 := by decide +kernel
theorem c88_20 : mj_Y.code kY 88 20 = some (.bipush 58) ∧ (Int8.ofInt 58).toInt32 = 58 ∧ 22 = 20 + 2 := by decide +kernel
theorem c88_22 : mj_Y.code kY 88 22 = some (.if_icmp .ne 20) ∧ mj_tg 22 20 = some 42 ∧ 25 = 22 + 3 := by decide +kernel
theorem c88_25 : mj_Y.code kY 88 25 = some (.aload_n 0) ∧ ((0 : Fin 4) : Nat) = 0 ∧ 26 = 25 + 1 := by decide +kernel
theorem c88_26 : mj_Y.code kY 88 26 = some .dup ∧ 27 = 26 + 1 := by decide +kernel
theorem c88_27 : mj_Y.code kY 88 27 = some (.getfield 23) ∧ mj_Y.fl kY 88 23 1 = some (3, .int, true) ∧ 30 = 27 + 3 := by decide +kernel
theorem c88_30 : mj_Y.code kY 88 30 = some (.iconst 1) ∧ Int32.ofInt 1 = 1 ∧ 31 = 30 + 1 := by decide +kernel
theorem c88_31 : mj_Y.code kY 88 31 = some .iadd ∧ 32 = 31 + 1 := by decide +kernel
theorem c88_32 : mj_Y.code kY 88 32 = some (.putfield 23) ∧ mj_Y.fl kY 88 23 1 = some (3, .int, true) ∧ 35 = 32 + 3 := by decide +kernel
theorem c88_35 : mj_Y.code kY 88 35 = some (.aload_n 0) ∧ ((0 : Fin 4) : Nat) = 0 ∧ 36 = 35 + 1 := by decide +kernel
theorem c88_36 : mj_Y.code kY 88 36 = some (.iload_n 1) ∧ ((1 : Fin 4) : Nat) = 1 ∧ 37 = 36 + 1 := by decide +kernel
theorem c88_37 : mj_Y.code kY 88 37 = some (.invokevirtual 109) ∧ mj_Y.na kY 88 109 = some 1 ∧ mj_Y.cv kY 88 109 1 = some 110 ∧ mj_Y.nL kY 110 = 3 ∧ 40 = 37 + 3 := by decide +kernel
theorem c88_40 : mj_Y.code kY 88 40 = some (.astore 4) ∧ 4 = 4 ∧ 4 < mj_Y.nL kY 88 ∧ 42 = 40 + 2 := by decide +kernel
theorem c88_42 : mj_Y.code kY 88 42 = some (.new 48) ∧ mj_Y.ex kY 88 48 = none ∧ mj_Y.nw kY 88 48 = some (11, 9, [.int 0, .null, .int 0, .null, .null, .long 0, .long 0, .long 0, .null]) ∧ 45 = 42 + 3 := by decide +kernel
theorem c88_45 : mj_Y.code kY 88 45 = some .dup ∧ 46 = 45 + 1 := by decide +kernel
theorem c88_46 : mj_Y.code kY 88 46 = some (.bipush 63) ∧ (Int8.ofInt 63).toInt32 = 63 ∧ 48 = 46 + 2 := by decide +kernel
theorem c88_48 : mj_Y.code kY 88 48 = some (.aload_n 2) ∧ ((2 : Fin 4) : Nat) = 2 ∧ 49 = 48 + 1 := by decide +kernel
theorem c88_49 : mj_Y.code kY 88 49 = some (.iconst 0) ∧ Int32.ofInt 0 = 0 ∧ 50 = 49 + 1 := by decide +kernel
theorem c88_50 : mj_Y.code kY 88 50 = some (.aload_n 3) ∧ ((3 : Fin 4) : Nat) = 3 ∧ 51 = 50 + 1 := by decide +kernel
theorem c88_51 : mj_Y.code kY 88 51 = some (.aload 4) ∧ 4 = 4 ∧ 53 = 51 + 2 := by decide +kernel
theorem c88_53 : mj_Y.code kY 88 53 = some (.invokespecial 106) ∧ mj_Y.pr kY 88 106 = none ∧ mj_Y.cp kY 88 106 = some (111, 5) ∧ mj_Y.nL kY 111 = 12 ∧ 56 = 53 + 3 := by decide +kernel
theorem c88_56 : mj_Y.code kY 88 56 = some .areturn ∧ mj_Y.rt kY 88 = some (.object "DiceOdds$Statement") ∧ ((.object "DiceOdds$Statement") : FieldType).isReference = true := by decide +kernel
theorem nh88 : mj_Y.nh kY 88 = true := by decide +kernel
theorem c89_0 : mj_Y.code kY 89 0 = some (.iload_n 1) ∧ ((1 : Fin 4) : Nat) = 1 ∧ 1 = 0 + 1 := by decide +kernel
theorem c89_1 : mj_Y.code kY 89 1 = some (.iconst 3) ∧ Int32.ofInt 3 = 3 ∧ 2 = 1 + 1 := by decide +kernel
theorem c89_2 : mj_Y.code kY 89 2 = some (.if_icmp .lt 9) ∧ mj_tg 2 9 = some 11 ∧ 5 = 2 + 3 := by decide +kernel
theorem c89_5 : mj_Y.code kY 89 5 = some (.aload_n 0) ∧ ((0 : Fin 4) : Nat) = 0 ∧ 6 = 5 + 1 := by decide +kernel
theorem c89_6 : mj_Y.code kY 89 6 = some (.iload_n 2) ∧ ((2 : Fin 4) : Nat) = 2 ∧ 7 = 6 + 1 := by decide +kernel
theorem c89_7 : mj_Y.code kY 89 7 = some (.invokevirtual 120) ∧ mj_Y.na kY 89 120 = some 1 ∧ mj_Y.cv kY 89 120 1 = some 90 ∧ mj_Y.nL kY 90 = 3 ∧ 10 = 7 + 3 := by decide +kernel
theorem c89_10 : mj_Y.code kY 89 10 = some .areturn ∧ mj_Y.rt kY 89 = some (.object "DiceOdds$Expression") ∧ ((.object "DiceOdds$Expression") : FieldType).isReference = true := by decide +kernel
theorem c89_11 : mj_Y.code kY 89 11 = some (.aload_n 0) ∧ ((0 : Fin 4) : Nat) = 0 ∧ 12 = 11 + 1 := by decide +kernel
theorem c89_12 : mj_Y.code kY 89 12 = some (.iload_n 1) ∧ ((1 : Fin 4) : Nat) = 1 ∧ 13 = 12 + 1 := by decide +kernel
theorem c89_13 : mj_Y.code kY 89 13 = some (.iconst 1) ∧ Int32.ofInt 1 = 1 ∧ 14 = 13 + 1 := by decide +kernel
theorem c89_14 : mj_Y.code kY 89 14 = some .iadd ∧ 15 = 14 + 1 := by decide +kernel
theorem c89_15 : mj_Y.code kY 89 15 = some (.iload_n 2) ∧ ((2 : Fin 4) : Nat) = 2 ∧ 16 = 15 + 1 := by decide +kernel
theorem c89_16 : mj_Y.code kY 89 16 = some (.invokevirtual 102) ∧ mj_Y.na kY 89 102 = some 2 ∧ mj_Y.cv kY 89 102 1 = some 89 ∧ mj_Y.nL kY 89 = 7 ∧ 19 = 16 + 3 := by decide +kernel
theorem c89_19 : mj_Y.code kY 89 19 = some (.astore_n 3) ∧ ((3 : Fin 4) : Nat) = 3 ∧ 3 < mj_Y.nL kY 89 ∧ 20 = 19 + 1 := by decide +kernel
theorem c89_20 : mj_Y.code kY 89 20 = some (.iload_n 1) ∧ ((1 : Fin 4) : Nat) = 1 ∧ 21 = 20 + 1 := by decide +kernel
theorem c89_21 : mj_Y.code kY 89 21 = some (.ifCond .ne 7) ∧ mj_tg 21 7 = some 28 ∧ 24 = 21 + 3 := by decide +kernel
theorem c89_24 : mj_Y.code kY 89 24 = some (.iconst 1) ∧ Int32.ofInt 1 = 1 ∧ 25 = 24 + 1 := by decide +kernel
theorem c89_25 : mj_Y.code kY 89 25 = some (.goto 5) ∧ mj_tg 25 5 = some 30 := by decide +kernel
theorem c89_28 : mj_Y.code kY 89 28 = some (.bipush 40) ∧ (Int8.ofInt 40).toInt32 = 40 ∧ 30 = 28 + 2 := by decide +kernel
theorem c89_30 : mj_Y.code kY 89 30 = some (.istore 4) ∧ 4 = 4 ∧ 4 < mj_Y.nL kY 89 ∧ 32 = 30 + 2 := by decide +kernel
theorem c89_32 : mj_Y.code kY 89 32 = some (.iconst 0) ∧ Int32.ofInt 0 = 0 ∧ 33 = 32 + 1 := by decide +kernel
theorem c89_33 : mj_Y.code kY 89 33 = some (.istore 5) ∧ 5 = 5 ∧ 5 < mj_Y.nL kY 89 ∧ 35 = 33 + 2 := by decide +kernel
theorem c89_35 : mj_Y.code kY 89 35 = some (.iload 5) ∧ 5 = 5 ∧ 37 = 35 + 2 := by decide +kernel
theorem c89_37 : mj_Y.code kY 89 37 = some (.iload 4) ∧ 4 = 4 ∧ 39 = 37 + 2 := by decide +kernel
theorem c89_39 : mj_Y.code kY 89 39 = some (.if_icmp .ge 55) ∧ mj_tg 39 55 = some 94 ∧ 42 = 39 + 3 := by decide +kernel
theorem c89_42 : mj_Y.code kY 89 42 = some (.aload_n 0) ∧ ((0 : Fin 4) : Nat) = 0 ∧ 43 = 42 + 1 := by decide +kernel
theorem c89_43 : mj_Y.code kY 89 43 = some (.invokevirtual 77) ∧ mj_Y.na kY 89 77 = some 0 ∧ mj_Y.cv kY 89 77 1 = some 84 ∧ mj_Y.nL kY 84 = 1 ∧ 46 = 43 + 3 := by decide +kernel
theorem c89_46 : mj_Y.code kY 89 46 = some (.invokestatic 124) ∧ mj_Y.pr kY 89 124 = none ∧ mj_Y.cs kY 89 124 = some (108, 1) ∧ mj_Y.nL kY 108 = 1 ∧ 49 = 46 + 3 := by decide +kernel
theorem c89_49 : mj_Y.code kY 89 49 = some (.iload_n 1) ∧ ((1 : Fin 4) : Nat) = 1 ∧ 50 = 49 + 1 := by decide +kernel
theorem c89_50 : mj_Y.code kY 89 50 = some (.if_icmp .ne 44) ∧ mj_tg 50 44 = some 94 ∧ 53 = 50 + 3 := by decide +kernel
theorem c89_53 : mj_Y.code kY 89 53 = some (.aload_n 0) ∧ ((0 : Fin 4) : Nat) = 0 ∧ 54 = 53 + 1 := by decide +kernel
theorem c89_54 : mj_Y.code kY 89 54 = some (.invokevirtual 77) ∧ mj_Y.na kY 89 77 = some 0 ∧ mj_Y.cv kY 89 77 1 = some 84 ∧ mj_Y.nL kY 84 = 1 ∧ 57 = 54 + 3 := by decide +kernel
theorem c89_57 : mj_Y.code kY 89 57 = some (.istore 6) ∧ 6 = 6 ∧ 6 < mj_Y.nL kY 89 ∧ 59 = 57 + 2 := by decide +kernel
theorem c89_59 : mj_Y.code kY 89 59 = some (.aload_n 0) ∧ ((0 : Fin 4) : Nat) = 0 ∧ 60 = 59 + 1 := by decide +kernel
theorem c89_60 : mj_Y.code kY 89 60 = some .dup ∧ 61 = 60 + 1 := by decide +kernel
theorem c89_61 : mj_Y.code kY 89 61 = some (.getfield 23) ∧ mj_Y.fl kY 89 23 1 = some (3, .int, true) ∧ 64 = 61 + 3 := by decide +kernel
theorem c89_64 : mj_Y.code kY 89 64 = some (.iconst 1) ∧ Int32.ofInt 1 = 1 ∧ 65 = 64 + 1 := by decide +kernel
theorem c89_65 : mj_Y.code kY 89 65 = some .iadd ∧ 66 = 65 + 1 := by decide +kernel
theorem c89_66 : mj_Y.code kY 89 66 = some (.putfield 23) ∧ mj_Y.fl kY 89 23 1 = some (3, .int, true) ∧ 69 = 66 + 3 := by decide +kernel
theorem c89_69 : mj_Y.code kY 89 69 = some (.new 128) ∧ mj_Y.ex kY 89 128 = none ∧ mj_Y.nw kY 89 128 = some (10, 4, [.int 0, .null, .null, .long 0]) ∧ 72 = 69 + 3 := by decide +kernel
theorem c89_72 : mj_Y.code kY 89 72 = some .dup ∧ 73 = 72 + 1 := by decide +kernel
theorem c89_73 : mj_Y.code kY 89 73 = some (.iload 6) ∧ 6 = 6 ∧ 75 = 73 + 2 := by decide +kernel
theorem c89_75 : mj_Y.code kY 89 75 = some (.aload_n 3) ∧ ((3 : Fin 4) : Nat) = 3 ∧ 76 = 75 + 1 := by decide +kernel
theorem c89_76 : mj_Y.code kY 89 76 = some (.aload_n 0) ∧ ((0 : Fin 4) : Nat) = 0 ∧ 77 = 76 + 1 := by decide +kernel
theorem c89_77 : mj_Y.code kY 89 77 = some (.iload_n 1) ∧ ((1 : Fin 4) : Nat) = 1 ∧ 78 = 77 + 1 := by decide +kernel
theorem c89_78 : mj_Y.code kY 89 78 = some (.iconst 1) ∧ Int32.ofInt 1 = 1 ∧ 79 = 78 + 1 := by decide +kernel
theorem c89_79 : mj_Y.code kY 89 79 = some .iadd ∧ 80 = 79 + 1 := by decide +kernel
theorem c89_80 : mj_Y.code kY 89 80 = some (.iload_n 2) ∧ ((2 : Fin 4) : Nat) = 2 ∧ 81 = 80 + 1 := by decide +kernel
theorem c89_81 : mj_Y.code kY 89 81 = some (.invokevirtual 102) ∧ mj_Y.na kY 89 102 = some 2 ∧ mj_Y.cv kY 89 102 1 = some 89 ∧ mj_Y.nL kY 89 = 7 ∧ 84 = 81 + 3 := by decide +kernel
theorem c89_84 : mj_Y.code kY 89 84 = some (.invokespecial 130) ∧ mj_Y.pr kY 89 130 = none ∧ mj_Y.cp kY 89 130 = some (109, 3) ∧ mj_Y.nL kY 109 = 4 ∧ 87 = 84 + 3 := by decide +kernel
theorem c89_87 : mj_Y.code kY 89 87 = some (.astore_n 3) ∧ ((3 : Fin 4) : Nat) = 3 ∧ 3 < mj_Y.nL kY 89 ∧ 88 = 87 + 1 := by decide +kernel
theorem c89_88 : mj_Y.code kY 89 88 = some (.iinc 5 1) ∧ 5 < mj_Y.nL kY 89 ∧ Int32.ofInt 1 = 1 ∧ 91 = 88 + 3 := by decide +kernel
theorem c89_91 : mj_Y.code kY 89 91 = some (.goto (-56)) ∧ mj_tg 91 (-56) = some 35 := by decide +kernel
theorem c89_94 : mj_Y.code kY 89 94 = some (.aload_n 3) ∧ ((3 : Fin 4) : Nat) = 3 ∧ 95 = 94 + 1 := by decide +kernel
theorem c89_95 : mj_Y.code kY 89 95 = some .areturn ∧ mj_Y.rt kY 89 = some (.object "DiceOdds$Expression") ∧ ((.object "DiceOdds$Expression") : FieldType).isReference = true := by decide +kernel
theorem nh89 : mj_Y.nh kY 89 = true := by decide +kernel
theorem c90_0 : mj_Y.code kY 90 0 = some (.aload_n 0) ∧ ((0 : Fin 4) : Nat) = 0 ∧ 1 = 0 + 1 := by decide +kernel
theorem c90_1 : mj_Y.code kY 90 1 = some (.invokevirtual 77) ∧ mj_Y.na kY 90 77 = some 0 ∧ mj_Y.cv kY 90 77 1 = some 84 ∧ mj_Y.nL kY 84 = 1 ∧ 4 = 1 + 3 := by decide +kernel
theorem c90_4 : mj_Y.code kY 90 4 = some (.istore_n 2) ∧ ((2 : Fin 4) : Nat) = 2 ∧ 2 < mj_Y.nL kY 90 ∧ 5 = 4 + 1 := by decide +kernel
theorem c90_5 : mj_Y.code kY 90 5 = some (.iload_n 2) ∧ ((2 : Fin 4) : Nat) = 2 ∧ 6 = 5 + 1 := by decide +kernel
theorem c90_6 : mj_Y.code kY 90 6 = some (.bipush 45) ∧ (Int8.ofInt 45).toInt32 = 45 ∧ 8 = 6 + 2 := by decide +kernel
theorem c90_8 : mj_Y.code kY 90 8 = some (.if_icmp .eq 9) ∧ mj_tg 8 9 = some 17 ∧ 11 = 8 + 3 := by decide +kernel
theorem c90_11 : mj_Y.code kY 90 11 = some (.iload_n 2) ∧ ((2 : Fin 4) : Nat) = 2 ∧ 12 = 11 + 1 := by decide +kernel
theorem c90_12 : mj_Y.code kY 90 12 = some (.bipush 40) ∧ (Int8.ofInt 40).toInt32 = 40 ∧ 14 = 12 + 2 := by decide +kernel
theorem c90_14 : mj_Y.code kY 90 14 = some (.if_icmp .ne 62) ∧ mj_tg 14 62 = some 76 ∧ 17 = 14 + 3 := by decide +kernel
theorem c90_17 : mj_Y.code kY 90 17 = some (.aload_n 0) ∧ ((0 : Fin 4) : Nat) = 0 ∧ 18 = 17 + 1 := by decide +kernel
theorem c90_18 : mj_Y.code kY 90 18 = some (.iload_n 1) ∧ ((1 : Fin 4) : Nat) = 1 ∧ 19 = 18 + 1 := by decide +kernel
theorem c90_19 : mj_Y.code kY 90 19 = some (.iconst 5) ∧ Int32.ofInt 5 = 5 ∧ 20 = 19 + 1 := by decide +kernel
theorem c90_20 : mj_Y.code kY 90 20 = some (.if_icmp .ge 7) ∧ mj_tg 20 7 = some 27 ∧ 23 = 20 + 3 := by decide +kernel
theorem c90_23 : mj_Y.code kY 90 23 = some (.iconst 1) ∧ Int32.ofInt 1 = 1 ∧ 24 = 23 + 1 := by decide +kernel
theorem c90_24 : mj_Y.code kY 90 24 = some (.goto 4) ∧ mj_tg 24 4 = some 28 := by decide +kernel
theorem c90_27 : mj_Y.code kY 90 27 = some (.iconst 0) ∧ Int32.ofInt 0 = 0 ∧ 28 = 27 + 1 := by decide +kernel
theorem c90_28 : mj_Y.code kY 90 28 = some (.aload_n 0) ∧ ((0 : Fin 4) : Nat) = 0 ∧ 29 = 28 + 1 := by decide +kernel
theorem c90_29 : mj_Y.code kY 90 29 = some (.getfield 23) ∧ mj_Y.fl kY 90 23 1 = some (3, .int, true) ∧ 32 = 29 + 3 := by decide +kernel
theorem c90_32 : mj_Y.code kY 90 32 = some (.invokevirtual 43) ∧ mj_Y.na kY 90 43 = some 2 ∧ mj_Y.cv kY 90 43 1 = some 87 ∧ mj_Y.nL kY 87 = 3 ∧ 35 = 32 + 3 := by decide +kernel
theorem c90_35 : mj_Y.code kY 90 35 = some (.aload_n 0) ∧ ((0 : Fin 4) : Nat) = 0 ∧ 36 = 35 + 1 := by decide +kernel
theorem c90_36 : mj_Y.code kY 90 36 = some .dup ∧ 37 = 36 + 1 := by decide +kernel
theorem c90_37 : mj_Y.code kY 90 37 = some (.getfield 23) ∧ mj_Y.fl kY 90 23 1 = some (3, .int, true) ∧ 40 = 37 + 3 := by decide +kernel
theorem c90_40 : mj_Y.code kY 90 40 = some (.iconst 1) ∧ Int32.ofInt 1 = 1 ∧ 41 = 40 + 1 := by decide +kernel
theorem c90_41 : mj_Y.code kY 90 41 = some .iadd ∧ 42 = 41 + 1 := by decide +kernel
theorem c90_42 : mj_Y.code kY 90 42 = some (.putfield 23) ∧ mj_Y.fl kY 90 23 1 = some (3, .int, true) ∧ 45 = 42 + 3 := by decide +kernel
theorem c90_45 : mj_Y.code kY 90 45 = some (.iload_n 2) ∧ ((2 : Fin 4) : Nat) = 2 ∧ 46 = 45 + 1 := by decide +kernel
theorem c90_46 : mj_Y.code kY 90 46 = some (.bipush 45) ∧ (Int8.ofInt 45).toInt32 = 45 ∧ 48 = 46 + 2 := by decide +kernel
theorem c90_48 : mj_Y.code kY 90 48 = some (.if_icmp .ne 20) ∧ mj_tg 48 20 = some 68 ∧ 51 = 48 + 3 := by decide +kernel
theorem c90_51 : mj_Y.code kY 90 51 = some (.new 133) ∧ mj_Y.ex kY 90 133 = none ∧ mj_Y.nw kY 90 133 = some (6, 2, [.null, .long 0]) ∧ 54 = 51 + 3 := by decide +kernel
theorem c90_54 : mj_Y.code kY 90 54 = some .dup ∧ 55 = 54 + 1 := by decide +kernel
theorem c90_55 : mj_Y.code kY 90 55 = some (.aload_n 0) ∧ ((0 : Fin 4) : Nat) = 0 ∧ 56 = 55 + 1 := by decide +kernel
theorem c90_56 : mj_Y.code kY 90 56 = some (.iload_n 1) ∧ ((1 : Fin 4) : Nat) = 1 ∧ 57 = 56 + 1 := by decide +kernel
theorem c90_57 : mj_Y.code kY 90 57 = some (.iconst 1) ∧ Int32.ofInt 1 = 1 ∧ 58 = 57 + 1 := by decide +kernel
theorem c90_58 : mj_Y.code kY 90 58 = some .iadd ∧ 59 = 58 + 1 := by decide +kernel
theorem c90_59 : mj_Y.code kY 90 59 = some (.invokevirtual 120) ∧ mj_Y.na kY 90 120 = some 1 ∧ mj_Y.cv kY 90 120 1 = some 90 ∧ mj_Y.nL kY 90 = 3 ∧ 62 = 59 + 3 := by decide +kernel
theorem c90_62 : mj_Y.code kY 90 62 = some (.invokespecial 135) ∧ mj_Y.pr kY 90 135 = none ∧ mj_Y.cp kY 90 135 = some (91, 1) ∧ mj_Y.nL kY 91 = 2 ∧ 65 = 62 + 3 := by decide +kernel
theorem c90_65 : mj_Y.code kY 90 65 = some (.goto 10) ∧ mj_tg 65 10 = some 75 := by decide +kernel
theorem c90_68 : mj_Y.code kY 90 68 = some (.aload_n 0) ∧ ((0 : Fin 4) : Nat) = 0 ∧ 69 = 68 + 1 := by decide +kernel
theorem c90_69 : mj_Y.code kY 90 69 = some (.iload_n 1) ∧ ((1 : Fin 4) : Nat) = 1 ∧ 70 = 69 + 1 := by decide +kernel
theorem c90_70 : mj_Y.code kY 90 70 = some (.iconst 1) ∧ Int32.ofInt 1 = 1 ∧ 71 = 70 + 1 := by decide +kernel
theorem c90_71 : mj_Y.code kY 90 71 = some .iadd ∧ 72 = 71 + 1 := by decide +kernel
theorem c90_72 : mj_Y.code kY 90 72 = some (.invokevirtual 138) ∧ mj_Y.na kY 90 138 = some 1 ∧ mj_Y.cv kY 90 138 1 = some 93 ∧ mj_Y.nL kY 93 = 3 ∧ 75 = 72 + 3 := by decide +kernel
theorem c90_75 : mj_Y.code kY 90 75 = some .areturn ∧ mj_Y.rt kY 90 = some (.object "DiceOdds$Expression") ∧ ((.object "DiceOdds$Expression") : FieldType).isReference = true := by decide +kernel
theorem c90_76 : mj_Y.code kY 90 76 = some (.aload_n 0) ∧ ((0 : Fin 4) : Nat) = 0 ∧ 77 = 76 + 1 := by decide +kernel
theorem c90_77 : mj_Y.code kY 90 77 = some (.iload_n 2) ∧ ((2 : Fin 4) : Nat) = 2 ∧ 78 = 77 + 1 := by decide +kernel
theorem c90_78 : mj_Y.code kY 90 78 = some (.invokestatic 88) ∧ mj_Y.pr kY 90 88 = none ∧ mj_Y.cs kY 90 88 = some (86, 1) ∧ mj_Y.nL kY 86 = 1 ∧ 81 = 78 + 3 := by decide +kernel
theorem c90_81 : mj_Y.code kY 90 81 = some (.ifCond .ne 22) ∧ mj_tg 81 22 = some 103 ∧ 84 = 81 + 3 := by decide +kernel
theorem c90_84 : mj_Y.code kY 90 84 = some (.iload_n 2) ∧ ((2 : Fin 4) : Nat) = 2 ∧ 85 = 84 + 1 := by decide +kernel
theorem c90_85 : mj_Y.code kY 90 85 = some (.invokestatic 141) ∧ mj_Y.pr kY 90 141 = none ∧ mj_Y.cs kY 90 141 = some (95, 1) ∧ mj_Y.nL kY 95 = 1 ∧ 88 = 85 + 3 := by decide +kernel
theorem c90_88 : mj_Y.code kY 90 88 = some (.ifCond .ne 15) ∧ mj_tg 88 15 = some 103 ∧ 91 = 88 + 3 := by decide +kernel
theorem c90_91 : mj_Y.code kY 90 91 = some (.iload_n 2) ∧ ((2 : Fin 4) : Nat) = 2 ∧ 92 = 91 + 1 := by decide +kernel
theorem c90_92 : mj_Y.code kY 90 92 = some (.bipush 100) ∧ (Int8.ofInt 100).toInt32 = 100 ∧ 94 = 92 + 2 := by decide +kernel
theorem c90_94 : mj_Y.code kY 90 94 = some (.if_icmp .eq 9) ∧ mj_tg 94 9 = some 103 ∧ 97 = 94 + 3 := by decide +kernel
theorem c90_97 : mj_Y.code kY 90 97 = some (.iload_n 2) ∧ ((2 : Fin 4) : Nat) = 2 ∧ 98 = 97 + 1 := by decide +kernel
theorem c90_98 : mj_Y.code kY 90 98 = some (.bipush 91) ∧ (Int8.ofInt 91).toInt32 = 91 ∧ 100 = 98 + 2 := by decide +kernel
theorem c90_100 : mj_Y.code kY 90 100 = some (.if_icmp .ne 7) ∧ mj_tg 100 7 = some 107 ∧ 103 = 100 + 3 := by decide +kernel
theorem c90_103 : mj_Y.code kY 90 103 = some (.iconst 1) ∧ Int32.ofInt 1 = 1 ∧ 104 = 103 + 1 := by decide +kernel
theorem c90_104 : mj_Y.code kY 90 104 = some (.goto 4) ∧ mj_tg 104 4 = some 108 := by decide +kernel
theorem c90_107 : mj_Y.code kY 90 107 = some (.iconst 0) ∧ Int32.ofInt 0 = 0 ∧ 108 = 107 + 1 := by decide +kernel
theorem c90_108 : mj_Y.code kY 90 108 = some (.aload_n 0) ∧ ((0 : Fin 4) : Nat) = 0 ∧ 109 = 108 + 1 := by decide +kernel
theorem c90_109 : mj_Y.code kY 90 109 = some (.getfield 23) ∧ mj_Y.fl kY 90 23 1 = some (3, .int, true) ∧ 112 = 109 + 3 := by decide +kernel
theorem c90_112 : mj_Y.code kY 90 112 = some (.invokevirtual 43) ∧ mj_Y.na kY 90 43 = some 2 ∧ mj_Y.cv kY 90 43 1 = some 87 ∧ mj_Y.nL kY 87 = 3 ∧ 115 = 112 + 3 := by decide +kernel
theorem c90_115 : mj_Y.code kY 90 115 = some (.aload_n 0) ∧ ((0 : Fin 4) : Nat) = 0 ∧ 116 = 115 + 1 := by decide +kernel
theorem c90_116 : mj_Y.code kY 90 116 = some (.aload_n 0) ∧ ((0 : Fin 4) : Nat) = 0 ∧ 117 = 116 + 1 := by decide +kernel
theorem c90_117 : mj_Y.code kY 90 117 = some (.getfield 29) ∧ mj_Y.fl kY 90 29 1 = some (5, .int, true) ∧ 120 = 117 + 3 := by decide +kernel
theorem c90_120 : mj_Y.code kY 90 120 = some (.bipush 40) ∧ (Int8.ofInt 40).toInt32 = 40 ∧ 122 = 120 + 2 := by decide +kernel
theorem c90_122 : mj_Y.code kY 90 122 = some (.if_icmp .ge 7) ∧ mj_tg 122 7 = some 129 ∧ 125 = 122 + 3 := by decide +kernel
theorem c90_125 : mj_Y.code kY 90 125 = some (.iconst 1) ∧ Int32.ofInt 1 = 1 ∧ 126 = 125 + 1 := by decide +kernel
theorem c90_126 : mj_Y.code kY 90 126 = some (.goto 4) ∧ mj_tg 126 4 = some 130 := by decide +kernel
theorem c90_129 : mj_Y.code kY 90 129 = some (.iconst 0) ∧ Int32.ofInt 0 = 0 ∧ 130 = 129 + 1 := by decide +kernel
theorem c90_130 : mj_Y.code kY 90 130 = some (.aload_n 0) ∧ ((0 : Fin 4) : Nat) = 0 ∧ 131 = 130 + 1 := by decide +kernel
theorem c90_131 : mj_Y.code kY 90 131 = some (.getfield 23) ∧ mj_Y.fl kY 90 23 1 = some (3, .int, true) ∧ 134 = 131 + 3 := by decide +kernel
theorem c90_134 : mj_Y.code kY 90 134 = some (.invokevirtual 43) ∧ mj_Y.na kY 90 43 = some 2 ∧ mj_Y.cv kY 90 43 1 = some 87 ∧ mj_Y.nL kY 87 = 3 ∧ 137 = 134 + 3 := by decide +kernel
theorem c90_137 : mj_Y.code kY 90 137 = some (.aload_n 0) ∧ ((0 : Fin 4) : Nat) = 0 ∧ 138 = 137 + 1 := by decide +kernel
theorem c90_138 : mj_Y.code kY 90 138 = some .dup ∧ 139 = 138 + 1 := by decide +kernel
theorem c90_139 : mj_Y.code kY 90 139 = some (.getfield 29) ∧ mj_Y.fl kY 90 29 1 = some (5, .int, true) ∧ 142 = 139 + 3 := by decide +kernel
theorem c90_142 : mj_Y.code kY 90 142 = some (.iconst 1) ∧ Int32.ofInt 1 = 1 ∧ 143 = 142 + 1 := by decide +kernel
theorem c90_143 : mj_Y.code kY 90 143 = some .iadd ∧ 144 = 143 + 1 := by decide +kernel
theorem c90_144 : mj_Y.code kY 90 144 = some (.putfield 29) ∧ mj_Y.fl kY 90 29 1 = some (5, .int, true) ∧ 147 = 144 + 3 := by decide +kernel
theorem c90_147 : mj_Y.code kY 90 147 = some (.iload_n 2) ∧ ((2 : Fin 4) : Nat) = 2 ∧ 148 = 147 + 1 := by decide +kernel
theorem c90_148 : mj_Y.code kY 90 148 = some (.invokestatic 88) ∧ mj_Y.pr kY 90 88 = none ∧ mj_Y.cs kY 90 88 = some (86, 1) ∧ mj_Y.nL kY 86 = 1 ∧ 151 = 148 + 3 := by decide +kernel
theorem c90_151 : mj_Y.code kY 90 151 = some (.ifCond .eq 26) ∧ mj_tg 151 26 = some 177 ∧ 154 = 151 + 3 := by decide +kernel
theorem c90_154 : mj_Y.code kY 90 154 = some (.aload_n 0) ∧ ((0 : Fin 4) : Nat) = 0 ∧ 155 = 154 + 1 := by decide +kernel
theorem c90_155 : mj_Y.code kY 90 155 = some .dup ∧ 156 = 155 + 1 := by decide +kernel
theorem c90_156 : mj_Y.code kY 90 156 = some (.getfield 23) ∧ mj_Y.fl kY 90 23 1 = some (3, .int, true) ∧ 159 = 156 + 3 := by decide +kernel
theorem c90_159 : mj_Y.code kY 90 159 = some (.iconst 1) ∧ Int32.ofInt 1 = 1 ∧ 160 = 159 + 1 := by decide +kernel
theorem c90_160 : mj_Y.code kY 90 160 = some .iadd ∧ 161 = 160 + 1 := by decide +kernel
theorem c90_161 : mj_Y.code kY 90 161 = some (.putfield 23) ∧ mj_Y.fl kY 90 23 1 = some (3, .int, true) ∧ 164 = 161 + 3 := by decide +kernel
theorem c90_164 : mj_Y.code kY 90 164 = some (.new 115) ∧ mj_Y.ex kY 90 115 = none ∧ mj_Y.nw kY 90 115 = some (7, 3, [.int 0, .int 0, .long 0]) ∧ 167 = 164 + 3 := by decide +kernel
theorem c90_167 : mj_Y.code kY 90 167 = some .dup ∧ 168 = 167 + 1 := by decide +kernel
theorem c90_168 : mj_Y.code kY 90 168 = some (.iload_n 2) ∧ ((2 : Fin 4) : Nat) = 2 ∧ 169 = 168 + 1 := by decide +kernel
theorem c90_169 : mj_Y.code kY 90 169 = some (.bipush 65) ∧ (Int8.ofInt 65).toInt32 = 65 ∧ 171 = 169 + 2 := by decide +kernel
theorem c90_171 : mj_Y.code kY 90 171 = some .isub ∧ 172 = 171 + 1 := by decide +kernel
theorem c90_172 : mj_Y.code kY 90 172 = some (.iconst 0) ∧ Int32.ofInt 0 = 0 ∧ 173 = 172 + 1 := by decide +kernel
theorem c90_173 : mj_Y.code kY 90 173 = some (.invokespecial 117) ∧ mj_Y.pr kY 90 117 = none ∧ mj_Y.cp kY 90 117 = some (97, 2) ∧ mj_Y.nL kY 97 = 3 ∧ 176 = 173 + 3 := by decide +kernel
theorem c90_176 : mj_Y.code kY 90 176 = some .areturn ∧ mj_Y.rt kY 90 = some (.object "DiceOdds$Expression") ∧ ((.object "DiceOdds$Expression") : FieldType).isReference = true := by decide +kernel
theorem c90_177 : mj_Y.code kY 90 177 = some (.iload_n 2) ∧ ((2 : Fin 4) : Nat) = 2 ∧ 178 = 177 + 1 := by decide +kernel
theorem c90_178 : mj_Y.code kY 90 178 = some (.invokestatic 141) ∧ mj_Y.pr kY 90 141 = none ∧ mj_Y.cs kY 90 141 = some (95, 1) ∧ mj_Y.nL kY 95 = 1 ∧ 181 = 178 + 3 := by decide +kernel
theorem c90_181 : mj_Y.code kY 90 181 = some (.ifCond .eq 8) ∧ mj_tg 181 8 = some 189 ∧ 184 = 181 + 3 := by decide +kernel
theorem c90_184 : mj_Y.code kY 90 184 = some (.aload_n 0) ∧ ((0 : Fin 4) : Nat) = 0 ∧ 185 = 184 + 1 := by decide +kernel
theorem c90_185 : mj_Y.code kY 90 185 = some (.invokevirtual 144) ∧ mj_Y.na kY 90 144 = some 0 ∧ mj_Y.cv kY 90 144 1 = some 107 ∧ mj_Y.nL kY 107 = 3 ∧ 188 = 185 + 3 := by decide +kernel
theorem c90_188 : mj_Y.code kY 90 188 = some .areturn ∧ mj_Y.rt kY 90 = some (.object "DiceOdds$Expression") ∧ ((.object "DiceOdds$Expression") : FieldType).isReference = true := by decide +kernel
theorem c90_189 : mj_Y.code kY 90 189 = some (.iload_n 2) ∧ ((2 : Fin 4) : Nat) = 2 ∧ 190 = 189 + 1 := by decide +kernel
theorem c90_190 : mj_Y.code kY 90 190 = some (.bipush 100) ∧ (Int8.ofInt 100).toInt32 = 100 ∧ 192 = 190 + 2 := by decide +kernel
theorem c90_192 : mj_Y.code kY 90 192 = some (.if_icmp .ne 11) ∧ mj_tg 192 11 = some 203 ∧ 195 = 192 + 3 := by decide +kernel
theorem c90_195 : mj_Y.code kY 90 195 = some (.aload_n 0) ∧ ((0 : Fin 4) : Nat) = 0 ∧ 196 = 195 + 1 := by decide +kernel
theorem c90_196 : mj_Y.code kY 90 196 = some (.iconst 1) ∧ Int32.ofInt 1 = 1 ∧ 197 = 196 + 1 := by decide +kernel
theorem c90_197 : mj_Y.code kY 90 197 = some (.invokevirtual 148) ∧ mj_Y.na kY 90 148 = some 1 ∧ mj_Y.cv kY 90 148 1 = some 98 ∧ mj_Y.nL kY 98 = 4 ∧ 200 = 197 + 3 := by decide +kernel
theorem c90_200 : mj_Y.code kY 90 200 = some (.goto 7) ∧ mj_tg 200 7 = some 207 := by decide +kernel
theorem c90_203 : mj_Y.code kY 90 203 = some (.aload_n 0) ∧ ((0 : Fin 4) : Nat) = 0 ∧ 204 = 203 + 1 := by decide +kernel
theorem c90_204 : mj_Y.code kY 90 204 = some (.invokevirtual 151) ∧ mj_Y.na kY 90 151 = some 0 ∧ mj_Y.cv kY 90 151 1 = some 104 ∧ mj_Y.nL kY 104 = 2 ∧ 207 = 204 + 3 := by decide +kernel
theorem c90_207 : mj_Y.code kY 90 207 = some .areturn ∧ mj_Y.rt kY 90 = some (.object "DiceOdds$Expression") ∧ ((.object "DiceOdds$Expression") : FieldType).isReference = true := by decide +kernel
theorem nh90 : mj_Y.nh kY 90 = true := by decide +kernel
theorem c91_0 : mj_Y.code kY 91 0 = some (.aload_n 0) ∧ ((0 : Fin 4) : Nat) = 0 ∧ 1 = 0 + 1 := by decide +kernel
theorem c91_1 : mj_Y.code kY 91 1 = some (.aload_n 1) ∧ ((1 : Fin 4) : Nat) = 1 ∧ 2 = 1 + 1 := by decide +kernel
theorem c91_2_t : ∀ c n, df c = some n → mj_Y.fl kY 91 3 c = some (n, .long, false) := by
  intro c n h
  have hc : c = 6 ∨ c = 7 ∨ c = 8 ∨ c = 9 ∨ c = 10 := df_c h
  rcases hc with rfl | rfl | rfl | rfl | rfl <;> (cases h; decide +kernel)
theorem c91_2 : mj_Y.code kY 91 2 = some (.getfield 3) ∧ 5 = 2 + 3 := by decide +kernel
theorem c91_5 : mj_Y.code kY 91 5 = some (.invokespecial 9) ∧ mj_Y.pr kY 91 9 = none ∧ mj_Y.cp kY 91 9 = some (92, 1) ∧ mj_Y.nL kY 92 = 3 ∧ 8 = 5 + 3 := by decide +kernel
theorem c91_8 : mj_Y.code kY 91 8 = some (.aload_n 0) ∧ ((0 : Fin 4) : Nat) = 0 ∧ 9 = 8 + 1 := by decide +kernel
theorem c91_9 : mj_Y.code kY 91 9 = some (.aload_n 1) ∧ ((1 : Fin 4) : Nat) = 1 ∧ 10 = 9 + 1 := by decide +kernel
theorem c91_10 : mj_Y.code kY 91 10 = some (.putfield 13) ∧ mj_Y.fl kY 91 13 6 = some (0, (.object "DiceOdds$Expression"), true) ∧ 13 = 10 + 3 := by decide +kernel
theorem c91_13 : mj_Y.code kY 91 13 = some .return_ ∧ mj_Y.rt kY 91 = none := by decide +kernel
theorem c92_0 : mj_Y.code kY 92 0 = some (.aload_n 0) ∧ ((0 : Fin 4) : Nat) = 0 ∧ 1 = 0 + 1 := by decide +kernel
theorem c92_1 : mj_Y.code kY 92 1 = some (.invokespecial 3) ∧ mj_Y.pr kY 92 3 = some 1 ∧ 4 = 1 + 3 := by decide +kernel
theorem c92_4 : mj_Y.code kY 92 4 = some (.aload_n 0) ∧ ((0 : Fin 4) : Nat) = 0 ∧ 5 = 4 + 1 := by decide +kernel
theorem c92_5 : mj_Y.code kY 92 5 = some (.lload_n 1) ∧ ((1 : Fin 4) : Nat) = 1 ∧ 6 = 5 + 1 := by decide +kernel
theorem c92_6_t : ∀ c n, df c = some n → mj_Y.fl kY 92 9 c = some (n, .long, true) := by
  intro c n h
  have hc : c = 6 ∨ c = 7 ∨ c = 8 ∨ c = 9 ∨ c = 10 := df_c h
  rcases hc with rfl | rfl | rfl | rfl | rfl <;> (cases h; decide +kernel)
theorem c92_6 : mj_Y.code kY 92 6 = some (.putfield 9) ∧ 9 = 6 + 3 := by decide +kernel
theorem c92_9 : mj_Y.code kY 92 9 = some .return_ ∧ mj_Y.rt kY 92 = none := by decide +kernel
theorem c93_0 : mj_Y.code kY 93 0 = some (.aload_n 0) ∧ ((0 : Fin 4) : Nat) = 0 ∧ 1 = 0 + 1 := by decide +kernel
theorem c93_1 : mj_Y.code kY 93 1 = some (.iconst 0) ∧ Int32.ofInt 0 = 0 ∧ 2 = 1 + 1 := by decide +kernel
theorem c93_2 : mj_Y.code kY 93 2 = some (.iload_n 1) ∧ ((1 : Fin 4) : Nat) = 1 ∧ 3 = 2 + 1 := by decide +kernel
theorem c93_3 : mj_Y.code kY 93 3 = some (.invokevirtual 102) ∧ mj_Y.na kY 93 102 = some 2 ∧ mj_Y.cv kY 93 102 1 = some 89 ∧ mj_Y.nL kY 89 = 7 ∧ 6 = 3 + 3 := by decide +kernel
theorem c93_6 : mj_Y.code kY 93 6 = some (.astore_n 2) ∧ ((2 : Fin 4) : Nat) = 2 ∧ 2 < mj_Y.nL kY 93 ∧ 7 = 6 + 1 := by decide +kernel
theorem c93_7 : mj_Y.code kY 93 7 = some (.aload_n 0) ∧ ((0 : Fin 4) : Nat) = 0 ∧ 8 = 7 + 1 := by decide +kernel
theorem c93_8 : mj_Y.code kY 93 8 = some (.bipush 41) ∧ (Int8.ofInt 41).toInt32 = 41 ∧ 10 = 8 + 2 := by decide +kernel
theorem c93_10 : mj_Y.code kY 93 10 = some (.invokevirtual 98) ∧ mj_Y.na kY 93 98 = some 1 ∧ mj_Y.cv kY 93 98 1 = some 94 ∧ mj_Y.nL kY 94 = 2 ∧ 13 = 10 + 3 := by decide +kernel
theorem c93_13 : mj_Y.code kY 93 13 = some (.aload_n 2) ∧ ((2 : Fin 4) : Nat) = 2 ∧ 14 = 13 + 1 := by decide +kernel
theorem c93_14 : mj_Y.code kY 93 14 = some .areturn ∧ mj_Y.rt kY 93 = some (.object "DiceOdds$Expression") ∧ ((.object "DiceOdds$Expression") : FieldType).isReference = true := by decide +kernel
theorem nh93 : mj_Y.nh kY 93 = true := by decide +kernel
theorem c94_0 : mj_Y.code kY 94 0 = some (.aload_n 0) ∧ ((0 : Fin 4) : Nat) = 0 ∧ 1 = 0 + 1 := by decide +kernel
theorem c94_1 : mj_Y.code kY 94 1 = some (.aload_n 0) ∧ ((0 : Fin 4) : Nat) = 0 ∧ 2 = 1 + 1 := by decide +kernel
theorem c94_2 : mj_Y.code kY 94 2 = some (.invokevirtual 77) ∧ mj_Y.na kY 94 77 = some 0 ∧ mj_Y.cv kY 94 77 1 = some 84 ∧ mj_Y.nL kY 84 = 1 ∧ 5 = 2 + 3 := by decide +kernel
theorem c94_5 : mj_Y.code kY 94 5 = some (.iload_n 1) ∧ ((1 : Fin 4) : Nat) = 1 ∧ 6 = 5 + 1 := by decide +kernel
theorem c94_6 : mj_Y.code kY 94 6 = some (.if_icmp .ne 7) ∧ mj_tg 6 7 = some 13 ∧ 9 = 6 + 3 := by decide +kernel
theorem c94_9 : mj_Y.code kY 94 9 = some (.iconst 1) ∧ Int32.ofInt 1 = 1 ∧ 10 = 9 + 1 := by decide +kernel
theorem c94_10 : mj_Y.code kY 94 10 = some (.goto 4) ∧ mj_tg 10 4 = some 14 := by decide +kernel
theorem c94_13 : mj_Y.code kY 94 13 = some (.iconst 0) ∧ Int32.ofInt 0 = 0 ∧ 14 = 13 + 1 := by decide +kernel
theorem c94_14 : mj_Y.code kY 94 14 = some (.aload_n 0) ∧ ((0 : Fin 4) : Nat) = 0 ∧ 15 = 14 + 1 := by decide +kernel
theorem c94_15 : mj_Y.code kY 94 15 = some (.getfield 23) ∧ mj_Y.fl kY 94 23 1 = some (3, .int, true) ∧ 18 = 15 + 3 := by decide +kernel
theorem c94_18 : mj_Y.code kY 94 18 = some (.invokevirtual 43) ∧ mj_Y.na kY 94 43 = some 2 ∧ mj_Y.cv kY 94 43 1 = some 87 ∧ mj_Y.nL kY 87 = 3 ∧ 21 = 18 + 3 := by decide +kernel
theorem c94_21 : mj_Y.code kY 94 21 = some (.aload_n 0) ∧ ((0 : Fin 4) : Nat) = 0 ∧ 22 = 21 + 1 := by decide +kernel
theorem c94_22 : mj_Y.code kY 94 22 = some .dup ∧ 23 = 22 + 1 := by decide +kernel
theorem c94_23 : mj_Y.code kY 94 23 = some (.getfield 23) ∧ mj_Y.fl kY 94 23 1 = some (3, .int, true) ∧ 26 = 23 + 3 := by decide +kernel
theorem c94_26 : mj_Y.code kY 94 26 = some (.iconst 1) ∧ Int32.ofInt 1 = 1 ∧ 27 = 26 + 1 := by decide +kernel
theorem c94_27 : mj_Y.code kY 94 27 = some .iadd ∧ 28 = 27 + 1 := by decide +kernel
theorem c94_28 : mj_Y.code kY 94 28 = some (.putfield 23) ∧ mj_Y.fl kY 94 23 1 = some (3, .int, true) ∧ 31 = 28 + 3 := by decide +kernel
theorem c94_31 : mj_Y.code kY 94 31 = some .return_ ∧ mj_Y.rt kY 94 = none := by decide +kernel
theorem nh94 : mj_Y.nh kY 94 = true := by decide +kernel
theorem c95_0 : mj_Y.code kY 95 0 = some (.iload_n 0) ∧ ((0 : Fin 4) : Nat) = 0 ∧ 1 = 0 + 1 := by decide +kernel
theorem c95_1 : mj_Y.code kY 95 1 = some (.bipush 48) ∧ (Int8.ofInt 48).toInt32 = 48 ∧ 3 = 1 + 2 := by decide +kernel
theorem c95_3 : mj_Y.code kY 95 3 = some (.if_icmp .lt 13) ∧ mj_tg 3 13 = some 16 ∧ 6 = 3 + 3 := by decide +kernel
theorem c95_6 : mj_Y.code kY 95 6 = some (.iload_n 0) ∧ ((0 : Fin 4) : Nat) = 0 ∧ 7 = 6 + 1 := by decide +kernel
theorem c95_7 : mj_Y.code kY 95 7 = some (.bipush 57) ∧ (Int8.ofInt 57).toInt32 = 57 ∧ 9 = 7 + 2 := by decide +kernel
theorem c95_9 : mj_Y.code kY 95 9 = some (.if_icmp .gt 7) ∧ mj_tg 9 7 = some 16 ∧ 12 = 9 + 3 := by decide +kernel
theorem c95_12 : mj_Y.code kY 95 12 = some (.iconst 1) ∧ Int32.ofInt 1 = 1 ∧ 13 = 12 + 1 := by decide +kernel
theorem c95_13 : mj_Y.code kY 95 13 = some (.goto 4) ∧ mj_tg 13 4 = some 17 := by decide +kernel
theorem c95_16 : mj_Y.code kY 95 16 = some (.iconst 0) ∧ Int32.ofInt 0 = 0 ∧ 17 = 16 + 1 := by decide +kernel
theorem c95_17 : mj_Y.code kY 95 17 = some .ireturn ∧ mj_Y.rt kY 95 = some .boolean := by decide +kernel
theorem c97_0 : mj_Y.code kY 97 0 = some (.aload_n 0) ∧ ((0 : Fin 4) : Nat) = 0 ∧ 1 = 0 + 1 := by decide +kernel
theorem c97_1 : mj_Y.code kY 97 1 = some (.lconst 1) ∧ Int64.ofNat ((1 : Fin 2) : Nat) = 1 ∧ 2 = 1 + 1 := by decide +kernel
theorem c97_2 : mj_Y.code kY 97 2 = some (.invokespecial 3) ∧ mj_Y.pr kY 97 3 = none ∧ mj_Y.cp kY 97 3 = some (92, 1) ∧ mj_Y.nL kY 92 = 3 ∧ 5 = 2 + 3 := by decide +kernel
theorem c97_5 : mj_Y.code kY 97 5 = some (.aload_n 0) ∧ ((0 : Fin 4) : Nat) = 0 ∧ 6 = 5 + 1 := by decide +kernel
theorem c97_6 : mj_Y.code kY 97 6 = some (.iload_n 1) ∧ ((1 : Fin 4) : Nat) = 1 ∧ 7 = 6 + 1 := by decide +kernel
theorem c97_7 : mj_Y.code kY 97 7 = some (.putfield 9) ∧ mj_Y.fl kY 97 9 7 = some (0, .int, true) ∧ 10 = 7 + 3 := by decide +kernel
theorem c97_10 : mj_Y.code kY 97 10 = some (.aload_n 0) ∧ ((0 : Fin 4) : Nat) = 0 ∧ 11 = 10 + 1 := by decide +kernel
theorem c97_11 : mj_Y.code kY 97 11 = some (.iload_n 2) ∧ ((2 : Fin 4) : Nat) = 2 ∧ 12 = 11 + 1 := by decide +kernel
theorem c97_12 : mj_Y.code kY 97 12 = some (.putfield 15) ∧ mj_Y.fl kY 97 15 7 = some (1, .int, true) ∧ 15 = 12 + 3 := by decide +kernel
theorem c97_15 : mj_Y.code kY 97 15 = some .return_ ∧ mj_Y.rt kY 97 = none := by decide +kernel
