theorem c112_0 : mj_Y.code kY 112 0 = some (.lconst 1) ∧ Int64.ofNat ((1 : Fin 2) : Nat) = 1 ∧ 1 = 0 + 1 := by decide +kernel
theorem c112_1 : mj_Y.code kY 112 1 = some (.lstore_n 1) ∧ ((1 : Fin 4) : Nat) = 1 ∧ 1 + 1 < mj_Y.nL kY 112 ∧ 2 = 1 + 1 := by decide +kernel
theorem c112_2 : mj_Y.code kY 112 2 = some (.aload_n 0) ∧ ((0 : Fin 4) : Nat) = 0 ∧ 3 = 2 + 1 := by decide +kernel
theorem c112_3 : mj_Y.code kY 112 3 = some (.astore_n 3) ∧ ((3 : Fin 4) : Nat) = 3 ∧ 3 < mj_Y.nL kY 112 ∧ 4 = 3 + 1 := by decide +kernel
theorem c112_4 : mj_Y.code kY 112 4 = some (.aload_n 3) ∧ ((3 : Fin 4) : Nat) = 3 ∧ 5 = 4 + 1 := by decide +kernel
theorem c112_5 : mj_Y.code kY 112 5 = some (.ifnull 20) ∧ mj_tg 5 20 = some 25 ∧ 8 = 5 + 3 := by decide +kernel
theorem c112_8 : mj_Y.code kY 112 8 = some (.lload_n 1) ∧ ((1 : Fin 4) : Nat) = 1 ∧ 9 = 8 + 1 := by decide +kernel
theorem c112_9 : mj_Y.code kY 112 9 = some (.aload_n 3) ∧ ((3 : Fin 4) : Nat) = 3 ∧ 10 = 9 + 1 := by decide +kernel
theorem c112_10 : mj_Y.code kY 112 10 = some (.getfield 63) ∧ mj_Y.fl kY 112 63 11 = some (5, .long, false) ∧ 13 = 10 + 3 := by decide +kernel
theorem c112_13 : mj_Y.code kY 112 13 = some (.invokestatic 60) ∧ mj_Y.pr kY 112 60 = none ∧ mj_Y.cs kY 112 60 = some (102, 2) ∧ mj_Y.nL kY 102 = 4 ∧ 16 = 13 + 3 := by decide +kernel
theorem c112_16 : mj_Y.code kY 112 16 = some (.lstore_n 1) ∧ ((1 : Fin 4) : Nat) = 1 ∧ 1 + 1 < mj_Y.nL kY 112 ∧ 17 = 16 + 1 := by decide +kernel
theorem c112_17 : mj_Y.code kY 112 17 = some (.aload_n 3) ∧ ((3 : Fin 4) : Nat) = 3 ∧ 18 = 17 + 1 := by decide +kernel
theorem c112_18 : mj_Y.code kY 112 18 = some (.getfield 9) ∧ mj_Y.fl kY 112 9 11 = some (8, (.object "DiceOdds$Statement"), true) ∧ 21 = 18 + 3 := by decide +kernel
theorem c112_21 : mj_Y.code kY 112 21 = some (.astore_n 3) ∧ ((3 : Fin 4) : Nat) = 3 ∧ 3 < mj_Y.nL kY 112 ∧ 22 = 21 + 1 := by decide +kernel
theorem c112_22 : mj_Y.code kY 112 22 = some (.goto (-18)) ∧ mj_tg 22 (-18) = some 4 := by decide +kernel
theorem c112_25 : mj_Y.code kY 112 25 = some (.lload_n 1) ∧ ((1 : Fin 4) : Nat) = 1 ∧ 26 = 25 + 1 := by decide +kernel
theorem c112_26 : mj_Y.code kY 112 26 = some .lreturn ∧ mj_Y.rt kY 112 = some .long := by decide +kernel
theorem c113_0 : mj_Y.code kY 113 0 = some (.lload_n 0) ∧ ((0 : Fin 4) : Nat) = 0 ∧ 1 = 0 + 1 := by decide +kernel
theorem c113_1 : mj_Y.code kY 113 1 = some (.lload_n 0) ∧ ((0 : Fin 4) : Nat) = 0 ∧ 2 = 1 + 1 := by decide +kernel
theorem c113_2 : mj_Y.code kY 113 2 = some (.lload_n 2) ∧ ((2 : Fin 4) : Nat) = 2 ∧ 3 = 2 + 1 := by decide +kernel
theorem c113_3 : mj_Y.code kY 113 3 = some (.invokestatic 196) ∧ mj_Y.pr kY 113 196 = none ∧ mj_Y.cs kY 113 196 = some (114, 2) ∧ mj_Y.nL kY 114 = 11 ∧ 6 = 3 + 3 := by decide +kernel
theorem c113_6 : mj_Y.code kY 113 6 = some (.invokestatic 199) ∧ mj_Y.pr kY 113 199 = none ∧ mj_Y.cs kY 113 199 = some (115, 2) ∧ mj_Y.nL kY 115 = 4 ∧ 9 = 6 + 3 := by decide +kernel
theorem c113_9 : mj_Y.code kY 113 9 = some (.lload_n 2) ∧ ((2 : Fin 4) : Nat) = 2 ∧ 10 = 9 + 1 := by decide +kernel
theorem c113_10 : mj_Y.code kY 113 10 = some (.invokestatic 202) ∧ mj_Y.pr kY 113 202 = none ∧ mj_Y.cs kY 113 202 = some (102, 2) ∧ mj_Y.nL kY 102 = 4 ∧ 13 = 10 + 3 := by decide +kernel
theorem c113_13 : mj_Y.code kY 113 13 = some .lreturn ∧ mj_Y.rt kY 113 = some .long := by decide +kernel
theorem c114_0 : mj_Y.code kY 114 0 = some (.lload_n 0) ∧ ((0 : Fin 4) : Nat) = 0 ∧ 1 = 0 + 1 := by decide +kernel
theorem c114_1 : mj_Y.code kY 114 1 = some (.lstore 4) ∧ 4 = 4 ∧ 4 + 1 < mj_Y.nL kY 114 ∧ 3 = 1 + 2 := by decide +kernel
theorem c114_3 : mj_Y.code kY 114 3 = some (.lload_n 2) ∧ ((2 : Fin 4) : Nat) = 2 ∧ 4 = 3 + 1 := by decide +kernel
theorem c114_4 : mj_Y.code kY 114 4 = some (.lstore 6) ∧ 6 = 6 ∧ 6 + 1 < mj_Y.nL kY 114 ∧ 6 = 4 + 2 := by decide +kernel
theorem c114_6 : mj_Y.code kY 114 6 = some (.iconst 0) ∧ Int32.ofInt 0 = 0 ∧ 7 = 6 + 1 := by decide +kernel
theorem c114_7 : mj_Y.code kY 114 7 = some (.istore 8) ∧ 8 = 8 ∧ 8 < mj_Y.nL kY 114 ∧ 9 = 7 + 2 := by decide +kernel
theorem c114_9 : mj_Y.code kY 114 9 = some (.iload 8) ∧ 8 = 8 ∧ 11 = 9 + 2 := by decide +kernel
theorem c114_11 : mj_Y.code kY 114 11 = some (.sipush 128) ∧ (Int16.ofInt 128).toInt32 = 128 ∧ 14 = 11 + 3 := by decide +kernel
theorem c114_14 : mj_Y.code kY 114 14 = some (.if_icmp .ge 31) ∧ mj_tg 14 31 = some 45 ∧ 17 = 14 + 3 := by decide +kernel
theorem c114_17 : mj_Y.code kY 114 17 = some (.lload 6) ∧ 6 = 6 ∧ 19 = 17 + 2 := by decide +kernel
theorem c114_19 : mj_Y.code kY 114 19 = some (.lconst 0) ∧ Int64.ofNat ((0 : Fin 2) : Nat) = 0 ∧ 20 = 19 + 1 := by decide +kernel
theorem c114_20 : mj_Y.code kY 114 20 = some .lcmp ∧ 21 = 20 + 1 := by decide +kernel
theorem c114_21 : mj_Y.code kY 114 21 = some (.ifCond .eq 24) ∧ mj_tg 21 24 = some 45 ∧ 24 = 21 + 3 := by decide +kernel
theorem c114_24 : mj_Y.code kY 114 24 = some (.lload 4) ∧ 4 = 4 ∧ 26 = 24 + 2 := by decide +kernel
theorem c114_26 : mj_Y.code kY 114 26 = some (.lload 6) ∧ 6 = 6 ∧ 28 = 26 + 2 := by decide +kernel
theorem c114_28 : mj_Y.code kY 114 28 = some .lrem ∧ 29 = 28 + 1 := by decide +kernel
theorem c114_29 : mj_Y.code kY 114 29 = some (.lstore 9) ∧ 9 = 9 ∧ 9 + 1 < mj_Y.nL kY 114 ∧ 31 = 29 + 2 := by decide +kernel
theorem c114_31 : mj_Y.code kY 114 31 = some (.lload 6) ∧ 6 = 6 ∧ 33 = 31 + 2 := by decide +kernel
theorem c114_33 : mj_Y.code kY 114 33 = some (.lstore 4) ∧ 4 = 4 ∧ 4 + 1 < mj_Y.nL kY 114 ∧ 35 = 33 + 2 := by decide +kernel
theorem c114_35 : mj_Y.code kY 114 35 = some (.lload 9) ∧ 9 = 9 ∧ 37 = 35 + 2 := by decide +kernel
theorem c114_37 : mj_Y.code kY 114 37 = some (.lstore 6) ∧ 6 = 6 ∧ 6 + 1 < mj_Y.nL kY 114 ∧ 39 = 37 + 2 := by decide +kernel
theorem c114_39 : mj_Y.code kY 114 39 = some (.iinc 8 1) ∧ 8 < mj_Y.nL kY 114 ∧ Int32.ofInt 1 = 1 ∧ 42 = 39 + 3 := by decide +kernel
theorem c114_42 : mj_Y.code kY 114 42 = some (.goto (-33)) ∧ mj_tg 42 (-33) = some 9 := by decide +kernel
theorem c114_45 : mj_Y.code kY 114 45 = some (.lload 4) ∧ 4 = 4 ∧ 47 = 45 + 2 := by decide +kernel
theorem c114_47 : mj_Y.code kY 114 47 = some .lreturn ∧ mj_Y.rt kY 114 = some .long := by decide +kernel
theorem c115_0 : mj_Y.code kY 115 0 = some (.lload_n 2) ∧ ((2 : Fin 4) : Nat) = 2 ∧ 1 = 0 + 1 := by decide +kernel
theorem c115_1 : mj_Y.code kY 115 1 = some (.lconst 1) ∧ Int64.ofNat ((1 : Fin 2) : Nat) = 1 ∧ 2 = 1 + 1 := by decide +kernel
theorem c115_2 : mj_Y.code kY 115 2 = some .lcmp ∧ 3 = 2 + 1 := by decide +kernel
theorem c115_3 : mj_Y.code kY 115 3 = some (.ifCond .le 9) ∧ mj_tg 3 9 = some 12 ∧ 6 = 3 + 3 := by decide +kernel
theorem c115_6 : mj_Y.code kY 115 6 = some (.lload_n 0) ∧ ((0 : Fin 4) : Nat) = 0 ∧ 7 = 6 + 1 := by decide +kernel
theorem c115_7 : mj_Y.code kY 115 7 = some (.lload_n 2) ∧ ((2 : Fin 4) : Nat) = 2 ∧ 8 = 7 + 1 := by decide +kernel
theorem c115_8 : mj_Y.code kY 115 8 = some .ldiv ∧ 9 = 8 + 1 := by decide +kernel
theorem c115_9 : mj_Y.code kY 115 9 = some (.goto 4) ∧ mj_tg 9 4 = some 13 := by decide +kernel
theorem c115_12 : mj_Y.code kY 115 12 = some (.lload_n 0) ∧ ((0 : Fin 4) : Nat) = 0 ∧ 13 = 12 + 1 := by decide +kernel
theorem c115_13 : mj_Y.code kY 115 13 = some .lreturn ∧ mj_Y.rt kY 115 = some .long := by decide +kernel
theorem c116_0 : mj_Y.code kY 116 0 = some (.aload_n 0) ∧ ((0 : Fin 4) : Nat) = 0 ∧ 1 = 0 + 1 := by decide +kernel
theorem c116_1 : mj_Y.code kY 116 1 = some (.iconst 0) ∧ Int32.ofInt 0 = 0 ∧ 2 = 1 + 1 := by decide +kernel
theorem c116_2 : mj_Y.code kY 116 2 = some (.bipush 20) ∧ (Int8.ofInt 20).toInt32 = 20 ∧ 4 = 2 + 2 := by decide +kernel
theorem c116_4 : mj_Y.code kY 116 4 = some (.invokevirtual 112) ∧ mj_Y.na kY 116 112 = some 2 ∧ mj_Y.cv kY 116 112 1 = some 99 ∧ mj_Y.nL kY 99 = 6 ∧ 7 = 4 + 3 := by decide +kernel
theorem c116_7 : mj_Y.code kY 116 7 = some (.istore_n 2) ∧ ((2 : Fin 4) : Nat) = 2 ∧ 2 < mj_Y.nL kY 116 ∧ 8 = 7 + 1 := by decide +kernel
theorem c116_8 : mj_Y.code kY 116 8 = some (.new 48) ∧ mj_Y.ex kY 116 48 = none ∧ mj_Y.nw kY 116 48 = some (11, 9, [.int 0, .null, .int 0, .null, .null, .long 0, .long 0, .long 0, .null]) ∧ 11 = 8 + 3 := by decide +kernel
theorem c116_11 : mj_Y.code kY 116 11 = some .dup ∧ 12 = 11 + 1 := by decide +kernel
theorem c116_12 : mj_Y.code kY 116 12 = some (.bipush 42) ∧ (Int8.ofInt 42).toInt32 = 42 ∧ 14 = 12 + 2 := by decide +kernel
theorem c116_14 : mj_Y.code kY 116 14 = some (.new 115) ∧ mj_Y.ex kY 116 115 = none ∧ mj_Y.nw kY 116 115 = some (7, 3, [.int 0, .int 0, .long 0]) ∧ 17 = 14 + 3 := by decide +kernel
theorem c116_17 : mj_Y.code kY 116 17 = some .dup ∧ 18 = 17 + 1 := by decide +kernel
theorem c116_18 : mj_Y.code kY 116 18 = some (.sipush (-1000)) ∧ (Int16.ofInt (-1000)).toInt32 = (-1000) ∧ 21 = 18 + 3 := by decide +kernel
theorem c116_21 : mj_Y.code kY 116 21 = some (.iload_n 2) ∧ ((2 : Fin 4) : Nat) = 2 ∧ 22 = 21 + 1 := by decide +kernel
theorem c116_22 : mj_Y.code kY 116 22 = some (.invokespecial 117) ∧ mj_Y.pr kY 116 117 = none ∧ mj_Y.cp kY 116 117 = some (97, 2) ∧ mj_Y.nL kY 97 = 3 ∧ 25 = 22 + 3 := by decide +kernel
theorem c116_25 : mj_Y.code kY 116 25 = some (.iload_n 2) ∧ ((2 : Fin 4) : Nat) = 2 ∧ 26 = 25 + 1 := by decide +kernel
theorem c116_26 : mj_Y.code kY 116 26 = some (.aload_n 0) ∧ ((0 : Fin 4) : Nat) = 0 ∧ 27 = 26 + 1 := by decide +kernel
theorem c116_27 : mj_Y.code kY 116 27 = some (.iload_n 1) ∧ ((1 : Fin 4) : Nat) = 1 ∧ 28 = 27 + 1 := by decide +kernel
theorem c116_28 : mj_Y.code kY 116 28 = some (.invokevirtual 109) ∧ mj_Y.na kY 116 109 = some 1 ∧ mj_Y.cv kY 116 109 1 = some 110 ∧ mj_Y.nL kY 110 = 3 ∧ 31 = 28 + 3 := by decide +kernel
theorem c116_31 : mj_Y.code kY 116 31 = some .aconst_null ∧ 32 = 31 + 1 := by decide +kernel
theorem c116_32 : mj_Y.code kY 116 32 = some (.invokespecial 106) ∧ mj_Y.pr kY 116 106 = none ∧ mj_Y.cp kY 116 106 = some (111, 5) ∧ mj_Y.nL kY 111 = 12 ∧ 35 = 32 + 3 := by decide +kernel
theorem c116_35 : mj_Y.code kY 116 35 = some .areturn ∧ mj_Y.rt kY 116 = some (.object "DiceOdds$Statement") ∧ ((.object "DiceOdds$Statement") : FieldType).isReference = true := by decide +kernel
theorem nh116 : mj_Y.nh kY 116 = true := by decide +kernel
theorem c117_0 : mj_Y.code kY 117 0 = some (.aload_n 0) ∧ ((0 : Fin 4) : Nat) = 0 ∧ 1 = 0 + 1 := by decide +kernel
theorem c117_1 : mj_Y.code kY 117 1 = some (.iconst 1) ∧ Int32.ofInt 1 = 1 ∧ 2 = 1 + 1 := by decide +kernel
theorem c117_2 : mj_Y.code kY 117 2 = some (.putfield 19) ∧ mj_Y.fl kY 117 19 4 = some (2, .boolean, true) ∧ 5 = 2 + 3 := by decide +kernel
theorem c117_5 : mj_Y.code kY 117 5 = some (.aload_n 0) ∧ ((0 : Fin 4) : Nat) = 0 ∧ 6 = 5 + 1 := by decide +kernel
theorem c117_6 : mj_Y.code kY 117 6 = some (.aload_n 1) ∧ ((1 : Fin 4) : Nat) = 1 ∧ 7 = 6 + 1 := by decide +kernel
theorem c117_7 : mj_Y.code kY 117 7 = some (.putfield 23) ∧ mj_Y.fl kY 117 23 4 = some (3, (.object "DiceOdds$Statement"), true) ∧ 10 = 7 + 3 := by decide +kernel
theorem c117_10 : mj_Y.code kY 117 10 = some (.aload_n 0) ∧ ((0 : Fin 4) : Nat) = 0 ∧ 11 = 10 + 1 := by decide +kernel
theorem c117_11 : mj_Y.code kY 117 11 = some (.invokevirtual 35) ∧ mj_Y.na kY 117 35 = some 0 ∧ mj_Y.cv kY 117 35 4 = some 118 ∧ mj_Y.nL kY 118 = 1 ∧ 14 = 11 + 3 := by decide +kernel
theorem c117_14 : mj_Y.code kY 117 14 = some .return_ ∧ mj_Y.rt kY 117 = none := by decide +kernel
theorem c118_0 : mj_Y.code kY 118 0 = some (.aload_n 0) ∧ ((0 : Fin 4) : Nat) = 0 ∧ 1 = 0 + 1 := by decide +kernel
theorem c118_1 : mj_Y.code kY 118 1 = some (.iconst 0) ∧ Int32.ofInt 0 = 0 ∧ 2 = 1 + 1 := by decide +kernel
theorem c118_2 : mj_Y.code kY 118 2 = some (.putfield 27) ∧ mj_Y.fl kY 118 27 4 = some (4, .int, true) ∧ 5 = 2 + 3 := by decide +kernel
theorem c118_5 : mj_Y.code kY 118 5 = some (.aload_n 0) ∧ ((0 : Fin 4) : Nat) = 0 ∧ 6 = 5 + 1 := by decide +kernel
theorem c118_6 : mj_Y.code kY 118 6 = some (.lconst 0) ∧ Int64.ofNat ((0 : Fin 2) : Nat) = 0 ∧ 7 = 6 + 1 := by decide +kernel
theorem c118_7 : mj_Y.code kY 118 7 = some (.putfield 31) ∧ mj_Y.fl kY 118 31 4 = some (5, .long, true) ∧ 10 = 7 + 3 := by decide +kernel
theorem c118_10 : mj_Y.code kY 118 10 = some .return_ ∧ mj_Y.rt kY 118 = none := by decide +kernel
theorem c120_0 : mj_Y.code kY 120 0 = some (.aload_n 0) ∧ ((0 : Fin 4) : Nat) = 0 ∧ 1 = 0 + 1 := by decide +kernel
theorem c120_1 : mj_Y.code kY 120 1 = some (.iload_n 1) ∧ ((1 : Fin 4) : Nat) = 1 ∧ 2 = 1 + 1 := by decide +kernel
theorem c120_2 : mj_Y.code kY 120 2 = some (.invokevirtual 76) ∧ mj_Y.na kY 120 76 = some 1 ∧ mj_Y.cv kY 120 76 5 = some 121 ∧ mj_Y.nL kY 121 = 3 ∧ 5 = 2 + 3 := by decide +kernel
theorem c120_5 : mj_Y.code kY 120 5 = some (.astore_n 2) ∧ ((2 : Fin 4) : Nat) = 2 ∧ 2 < mj_Y.nL kY 120 ∧ 6 = 5 + 1 := by decide +kernel
theorem c120_6 : mj_Y.code kY 120 6 = some (.aload_n 0) ∧ ((0 : Fin 4) : Nat) = 0 ∧ 7 = 6 + 1 := by decide +kernel
theorem c120_7 : mj_Y.code kY 120 7 = some (.getfield 12) ∧ mj_Y.fl kY 120 12 5 = some (0, (.object "java/lang/StringBuilder"), false) ∧ 10 = 7 + 3 := by decide +kernel
theorem c120_10 : mj_Y.code kY 120 10 = some (.iconst 0) ∧ Int32.ofInt 0 = 0 ∧ 11 = 10 + 1 := by decide +kernel
theorem c120_11 : mj_Y.code kY 120 11 = some (.invokevirtual 49) ∧ mj_Y.na kY 120 49 = some 1 ∧ mj_Y.cv kY 120 49 0 = some 37 ∧ mj_Y.nL kY 37 = 2 ∧ 14 = 11 + 3 := by decide +kernel
theorem c120_14 : mj_Y.code kY 120 14 = some (.aload_n 2) ∧ ((2 : Fin 4) : Nat) = 2 ∧ 15 = 14 + 1 := by decide +kernel
theorem c120_15 : mj_Y.code kY 120 15 = some (.getfield 79) ∧ mj_Y.fl kY 120 79 4 = some (3, (.object "DiceOdds$Statement"), true) ∧ 18 = 15 + 3 := by decide +kernel
theorem c120_18 : mj_Y.code kY 120 18 = some (.aload_n 0) ∧ ((0 : Fin 4) : Nat) = 0 ∧ 19 = 18 + 1 := by decide +kernel
theorem c120_19 : mj_Y.code kY 120 19 = some (.getfield 12) ∧ mj_Y.fl kY 120 12 5 = some (0, (.object "java/lang/StringBuilder"), false) ∧ 22 = 19 + 3 := by decide +kernel
theorem c120_22 : mj_Y.code kY 120 22 = some (.invokestatic 83) ∧ mj_Y.pr kY 120 83 = none ∧ mj_Y.cs kY 120 83 = some (122, 2) ∧ mj_Y.nL kY 122 = 3 ∧ 25 = 22 + 3 := by decide +kernel
theorem c120_25 : mj_Y.code kY 120 25 = some (.aload_n 0) ∧ ((0 : Fin 4) : Nat) = 0 ∧ 26 = 25 + 1 := by decide +kernel
theorem c120_26 : mj_Y.code kY 120 26 = some (.getfield 12) ∧ mj_Y.fl kY 120 12 5 = some (0, (.object "java/lang/StringBuilder"), false) ∧ 29 = 26 + 3 := by decide +kernel
theorem c120_29 : mj_Y.code kY 120 29 = some (.invokevirtual 37) ∧ mj_Y.na kY 120 37 = some 0 ∧ mj_Y.cv kY 120 37 0 = some 10 ∧ mj_Y.nL kY 10 = 1 ∧ 32 = 29 + 3 := by decide +kernel
theorem c120_32 : mj_Y.code kY 120 32 = some .ireturn ∧ mj_Y.rt kY 120 = some .int := by decide +kernel
theorem nh120 : mj_Y.nh kY 120 = true := by decide +kernel
theorem c121_0 : mj_Y.code kY 121 0 = some (.aload_n 0) ∧ ((0 : Fin 4) : Nat) = 0 ∧ 1 = 0 + 1 := by decide +kernel
theorem c121_1 : mj_Y.code kY 121 1 = some (.iload_n 1) ∧ ((1 : Fin 4) : Nat) = 1 ∧ 2 = 1 + 1 := by decide +kernel
theorem c121_2 : mj_Y.code kY 121 2 = some (.invokevirtual 57) ∧ mj_Y.na kY 121 57 = some 1 ∧ mj_Y.cv kY 121 57 5 = some 79 ∧ mj_Y.nL kY 79 = 2 ∧ 5 = 2 + 3 := by decide +kernel
theorem c121_5 : mj_Y.code kY 121 5 = some (.astore_n 2) ∧ ((2 : Fin 4) : Nat) = 2 ∧ 2 < mj_Y.nL kY 121 ∧ 6 = 5 + 1 := by decide +kernel
theorem c121_6 : mj_Y.code kY 121 6 = some (.aload_n 2) ∧ ((2 : Fin 4) : Nat) = 2 ∧ 7 = 6 + 1 := by decide +kernel
theorem c121_7 : mj_Y.code kY 121 7 = some (.getfield 173) ∧ mj_Y.fl kY 121 173 4 = some (2, .boolean, true) ∧ 10 = 7 + 3 := by decide +kernel
theorem c121_10 : mj_Y.code kY 121 10 = some (.ifCond .ne 13) ∧ mj_tg 10 13 = some 23 ∧ 13 = 10 + 3 := by decide +kernel
theorem c121_13 : mj_Y.code kY 121 13 = some (.new 177) ∧ mj_Y.ex kY 121 177 = some 14 ∧ mj_Y.nh kY 121 = true := by decide +kernel
theorem c121_23 : mj_Y.code kY 121 23 = some (.aload_n 2) ∧ ((2 : Fin 4) : Nat) = 2 ∧ 24 = 23 + 1 := by decide +kernel
theorem c121_24 : mj_Y.code kY 121 24 = some .areturn ∧ mj_Y.rt kY 121 = some (.object "DiceOdds$Slot") ∧ ((.object "DiceOdds$Slot") : FieldType).isReference = true := by decide +kernel
theorem nh121 : mj_Y.nh kY 121 = true := by decide +kernel
theorem c122_0 : mj_Y.code kY 122 0 = some (.aload_n 0) ∧ ((0 : Fin 4) : Nat) = 0 ∧ 1 = 0 + 1 := by decide +kernel
theorem c122_1 : mj_Y.code kY 122 1 = some (.astore_n 2) ∧ ((2 : Fin 4) : Nat) = 2 ∧ 2 < mj_Y.nL kY 122 ∧ 2 = 1 + 1 := by decide +kernel
theorem c122_2 : mj_Y.code kY 122 2 = some (.aload_n 2) ∧ ((2 : Fin 4) : Nat) = 2 ∧ 3 = 2 + 1 := by decide +kernel
theorem c122_3 : mj_Y.code kY 122 3 = some (.ifnull 16) ∧ mj_tg 3 16 = some 19 ∧ 6 = 3 + 3 := by decide +kernel
theorem c122_6 : mj_Y.code kY 122 6 = some (.aload_n 2) ∧ ((2 : Fin 4) : Nat) = 2 ∧ 7 = 6 + 1 := by decide +kernel
theorem c122_7 : mj_Y.code kY 122 7 = some (.aload_n 1) ∧ ((1 : Fin 4) : Nat) = 1 ∧ 8 = 7 + 1 := by decide +kernel
theorem c122_8 : mj_Y.code kY 122 8 = some (.invokevirtual 64) ∧ mj_Y.na kY 122 64 = some 1 ∧ mj_Y.cv kY 122 64 11 = some 123 ∧ mj_Y.nL kY 123 = 2 ∧ 11 = 8 + 3 := by decide +kernel
theorem c122_11 : mj_Y.code kY 122 11 = some (.aload_n 2) ∧ ((2 : Fin 4) : Nat) = 2 ∧ 12 = 11 + 1 := by decide +kernel
theorem c122_12 : mj_Y.code kY 122 12 = some (.getfield 9) ∧ mj_Y.fl kY 122 9 11 = some (8, (.object "DiceOdds$Statement"), true) ∧ 15 = 12 + 3 := by decide +kernel
theorem c122_15 : mj_Y.code kY 122 15 = some (.astore_n 2) ∧ ((2 : Fin 4) : Nat) = 2 ∧ 2 < mj_Y.nL kY 122 ∧ 16 = 15 + 1 := by decide +kernel
theorem c122_16 : mj_Y.code kY 122 16 = some (.goto (-14)) ∧ mj_tg 16 (-14) = some 2 := by decide +kernel
theorem c122_19 : mj_Y.code kY 122 19 = some .return_ ∧ mj_Y.rt kY 122 = none := by decide +kernel
theorem c123_0 : mj_Y.code kY 123 0 = some (.aload_n 1) ∧ ((1 : Fin 4) : Nat) = 1 ∧ 1 = 0 + 1 := by decide +kernel
theorem c123_1 : mj_Y.code kY 123 1 = some (.aload_n 0) ∧ ((0 : Fin 4) : Nat) = 0 ∧ 2 = 1 + 1 := by decide +kernel
theorem c123_2 : mj_Y.code kY 123 2 = some (.getfield 15) ∧ mj_Y.fl kY 123 15 11 = some (0, .char, false) ∧ 5 = 2 + 3 := by decide +kernel
theorem c123_5 : mj_Y.code kY 123 5 = some (.invokevirtual 68) ∧ mj_Y.na kY 123 68 = some 1 ∧ mj_Y.cv kY 123 68 0 = some 13 ∧ mj_Y.nL kY 13 = 2 ∧ 8 = 5 + 3 := by decide +kernel
theorem c123_8 : mj_Y.code kY 123 8 = some .pop ∧ 9 = 8 + 1 := by decide +kernel
theorem c123_9 : mj_Y.code kY 123 9 = some (.aload_n 0) ∧ ((0 : Fin 4) : Nat) = 0 ∧ 10 = 9 + 1 := by decide +kernel
theorem c123_10 : mj_Y.code kY 123 10 = some (.getfield 15) ∧ mj_Y.fl kY 123 15 11 = some (0, .char, false) ∧ 13 = 10 + 3 := by decide +kernel
theorem c123_13 : mj_Y.code kY 123 13 = some (.invokestatic 74) ∧ mj_Y.pr kY 123 74 = none ∧ mj_Y.cs kY 123 74 = some (86, 1) ∧ mj_Y.nL kY 86 = 1 ∧ 16 = 13 + 3 := by decide +kernel
theorem c123_16 : mj_Y.code kY 123 16 = some (.ifCond .eq 10) ∧ mj_tg 16 10 = some 26 ∧ 19 = 16 + 3 := by decide +kernel
theorem c123_19 : mj_Y.code kY 123 19 = some (.aload_n 1) ∧ ((1 : Fin 4) : Nat) = 1 ∧ 20 = 19 + 1 := by decide +kernel
theorem c123_20 : mj_Y.code kY 123 20 = some (.bipush 61) ∧ (Int8.ofInt 61).toInt32 = 61 ∧ 22 = 20 + 2 := by decide +kernel
theorem c123_22 : mj_Y.code kY 123 22 = some (.invokevirtual 68) ∧ mj_Y.na kY 123 68 = some 1 ∧ mj_Y.cv kY 123 68 0 = some 13 ∧ mj_Y.nL kY 13 = 2 ∧ 25 = 22 + 3 := by decide +kernel
theorem c123_25 : mj_Y.code kY 123 25 = some .pop ∧ 26 = 25 + 1 := by decide +kernel
theorem c123_26 : mj_Y.code kY 123 26 = some (.aload_n 0) ∧ ((0 : Fin 4) : Nat) = 0 ∧ 27 = 26 + 1 := by decide +kernel
theorem c123_27 : mj_Y.code kY 123 27 = some (.getfield 19) ∧ mj_Y.fl kY 123 19 11 = some (1, (.object "DiceOdds$Expression"), false) ∧ 30 = 27 + 3 := by decide +kernel
theorem c123_30 : mj_Y.code kY 123 30 = some (.aload_n 1) ∧ ((1 : Fin 4) : Nat) = 1 ∧ 31 = 30 + 1 := by decide +kernel
theorem c123_31_t : ∀ c k2, dw c = some k2 → mj_Y.cv kY 123 78 c = some k2 ∧ 2 ≤ mj_Y.nL kY k2 ∧ mj_Y.nL kY k2 ≤ 20 := by
  intro c n h
  have hc : c = 6 ∨ c = 7 ∨ c = 8 ∨ c = 9 ∨ c = 10 := dw_c h
  rcases hc with rfl | rfl | rfl | rfl | rfl <;> (cases h; decide +kernel)
theorem c123_31 : mj_Y.code kY 123 31 = some (.invokevirtual 78) ∧ mj_Y.na kY 123 78 = some 1 ∧ 34 = 31 + 3 := by decide +kernel
theorem c123_34 : mj_Y.code kY 123 34 = some (.aload_n 0) ∧ ((0 : Fin 4) : Nat) = 0 ∧ 35 = 34 + 1 := by decide +kernel
theorem c123_35 : mj_Y.code kY 123 35 = some (.getfield 15) ∧ mj_Y.fl kY 123 15 11 = some (0, .char, false) ∧ 38 = 35 + 3 := by decide +kernel
theorem c123_38 : mj_Y.code kY 123 38 = some (.bipush 63) ∧ (Int8.ofInt 63).toInt32 = 63 ∧ 40 = 38 + 2 := by decide +kernel
theorem c123_40 : mj_Y.code kY 123 40 = some (.if_icmp .eq 20) ∧ mj_tg 40 20 = some 60 ∧ 43 = 40 + 3 := by decide +kernel
theorem c123_43 : mj_Y.code kY 123 43 = some (.aload_n 0) ∧ ((0 : Fin 4) : Nat) = 0 ∧ 44 = 43 + 1 := by decide +kernel
theorem c123_44 : mj_Y.code kY 123 44 = some (.getfield 15) ∧ mj_Y.fl kY 123 15 11 = some (0, .char, false) ∧ 47 = 44 + 3 := by decide +kernel
theorem c123_47 : mj_Y.code kY 123 47 = some (.bipush 42) ∧ (Int8.ofInt 42).toInt32 = 42 ∧ 49 = 47 + 2 := by decide +kernel
theorem c123_49 : mj_Y.code kY 123 49 = some (.if_icmp .eq 11) ∧ mj_tg 49 11 = some 60 ∧ 52 = 49 + 3 := by decide +kernel
theorem c123_52 : mj_Y.code kY 123 52 = some (.aload_n 1) ∧ ((1 : Fin 4) : Nat) = 1 ∧ 53 = 52 + 1 := by decide +kernel
theorem c123_53 : mj_Y.code kY 123 53 = some (.bipush 59) ∧ (Int8.ofInt 59).toInt32 = 59 ∧ 55 = 53 + 2 := by decide +kernel
theorem c123_55 : mj_Y.code kY 123 55 = some (.invokevirtual 68) ∧ mj_Y.na kY 123 68 = some 1 ∧ mj_Y.cv kY 123 68 0 = some 13 ∧ mj_Y.nL kY 13 = 2 ∧ 58 = 55 + 3 := by decide +kernel
theorem c123_58 : mj_Y.code kY 123 58 = some .pop ∧ 59 = 58 + 1 := by decide +kernel
theorem c123_59 : mj_Y.code kY 123 59 = some .return_ ∧ mj_Y.rt kY 123 = none := by decide +kernel
theorem c123_60 : mj_Y.code kY 123 60 = some (.aload_n 0) ∧ ((0 : Fin 4) : Nat) = 0 ∧ 61 = 60 + 1 := by decide +kernel
theorem c123_61 : mj_Y.code kY 123 61 = some (.getfield 27) ∧ mj_Y.fl kY 123 27 11 = some (3, (.object "DiceOdds$Statement"), false) ∧ 64 = 61 + 3 := by decide +kernel
theorem c123_64 : mj_Y.code kY 123 64 = some (.aload_n 1) ∧ ((1 : Fin 4) : Nat) = 1 ∧ 65 = 64 + 1 := by decide +kernel
theorem c123_65 : mj_Y.code kY 123 65 = some (.invokestatic 79) ∧ mj_Y.pr kY 123 79 = none ∧ mj_Y.cs kY 123 79 = some (132, 2) ∧ mj_Y.nL kY 132 = 2 ∧ 68 = 65 + 3 := by decide +kernel
theorem c123_68 : mj_Y.code kY 123 68 = some (.aload_n 0) ∧ ((0 : Fin 4) : Nat) = 0 ∧ 69 = 68 + 1 := by decide +kernel
theorem c123_69 : mj_Y.code kY 123 69 = some (.getfield 30) ∧ mj_Y.fl kY 123 30 11 = some (4, (.object "DiceOdds$Statement"), false) ∧ 72 = 69 + 3 := by decide +kernel
theorem c123_72 : mj_Y.code kY 123 72 = some (.ifnull 18) ∧ mj_tg 72 18 = some 90 ∧ 75 = 72 + 3 := by decide +kernel
theorem c123_75 : mj_Y.code kY 123 75 = some (.aload_n 1) ∧ ((1 : Fin 4) : Nat) = 1 ∧ 76 = 75 + 1 := by decide +kernel
theorem c123_76 : mj_Y.code kY 123 76 = some (.bipush 58) ∧ (Int8.ofInt 58).toInt32 = 58 ∧ 78 = 76 + 2 := by decide +kernel
theorem c123_78 : mj_Y.code kY 123 78 = some (.invokevirtual 68) ∧ mj_Y.na kY 123 68 = some 1 ∧ mj_Y.cv kY 123 68 0 = some 13 ∧ mj_Y.nL kY 13 = 2 ∧ 81 = 78 + 3 := by decide +kernel
theorem c123_81 : mj_Y.code kY 123 81 = some .pop ∧ 82 = 81 + 1 := by decide +kernel
theorem c123_82 : mj_Y.code kY 123 82 = some (.aload_n 0) ∧ ((0 : Fin 4) : Nat) = 0 ∧ 83 = 82 + 1 := by decide +kernel
theorem c123_83 : mj_Y.code kY 123 83 = some (.getfield 30) ∧ mj_Y.fl kY 123 30 11 = some (4, (.object "DiceOdds$Statement"), false) ∧ 86 = 83 + 3 := by decide +kernel
theorem c123_86 : mj_Y.code kY 123 86 = some (.aload_n 1) ∧ ((1 : Fin 4) : Nat) = 1 ∧ 87 = 86 + 1 := by decide +kernel
theorem c123_87 : mj_Y.code kY 123 87 = some (.invokestatic 79) ∧ mj_Y.pr kY 123 79 = none ∧ mj_Y.cs kY 123 79 = some (132, 2) ∧ mj_Y.nL kY 132 = 2 ∧ 90 = 87 + 3 := by decide +kernel
theorem c123_90 : mj_Y.code kY 123 90 = some .return_ ∧ mj_Y.rt kY 123 = none := by decide +kernel
theorem c124_0 : mj_Y.code kY 124 0 = some (.aload_n 0) ∧ ((0 : Fin 4) : Nat) = 0 ∧ 1 = 0 + 1 := by decide +kernel
theorem c124_1 : mj_Y.code kY 124 1 = some (.getfield 19) ∧ mj_Y.fl kY 124 19 8 = some (0, .int, false) ∧ 4 = 1 + 3 := by decide +kernel
theorem c124_4 : mj_Y.code kY 124 4 = some (.iconst 1) ∧ Int32.ofInt 1 = 1 ∧ 5 = 4 + 1 := by decide +kernel
theorem c124_5 : mj_Y.code kY 124 5 = some (.if_icmp .le 12) ∧ mj_tg 5 12 = some 17 ∧ 8 = 5 + 3 := by decide +kernel
theorem c124_8 : mj_Y.code kY 124 8 = some (.aload_n 1) ∧ ((1 : Fin 4) : Nat) = 1 ∧ 9 = 8 + 1 := by decide +kernel
theorem c124_9 : mj_Y.code kY 124 9 = some (.aload_n 0) ∧ ((0 : Fin 4) : Nat) = 0 ∧ 10 = 9 + 1 := by decide +kernel
theorem c124_10 : mj_Y.code kY 124 10 = some (.getfield 19) ∧ mj_Y.fl kY 124 19 8 = some (0, .int, false) ∧ 13 = 10 + 3 := by decide +kernel
theorem c124_13 : mj_Y.code kY 124 13 = some (.invokevirtual 33) ∧ mj_Y.na kY 124 33 = some 1 ∧ mj_Y.cv kY 124 33 0 = some 51 ∧ mj_Y.nL kY 51 = 2 ∧ 16 = 13 + 3 := by decide +kernel
theorem c124_16 : mj_Y.code kY 124 16 = some .pop ∧ 17 = 16 + 1 := by decide +kernel
theorem c124_17 : mj_Y.code kY 124 17 = some (.aload_n 1) ∧ ((1 : Fin 4) : Nat) = 1 ∧ 18 = 17 + 1 := by decide +kernel
theorem c124_18 : mj_Y.code kY 124 18 = some (.bipush 100) ∧ (Int8.ofInt 100).toInt32 = 100 ∧ 20 = 18 + 2 := by decide +kernel
theorem c124_20 : mj_Y.code kY 124 20 = some (.invokevirtual 39) ∧ mj_Y.na kY 124 39 = some 1 ∧ mj_Y.cv kY 124 39 0 = some 13 ∧ mj_Y.nL kY 13 = 2 ∧ 23 = 20 + 3 := by decide +kernel
theorem c124_23 : mj_Y.code kY 124 23 = some .pop ∧ 24 = 23 + 1 := by decide +kernel
theorem c124_24 : mj_Y.code kY 124 24 = some (.aload_n 1) ∧ ((1 : Fin 4) : Nat) = 1 ∧ 25 = 24 + 1 := by decide +kernel
theorem c124_25 : mj_Y.code kY 124 25 = some (.aload_n 0) ∧ ((0 : Fin 4) : Nat) = 0 ∧ 26 = 25 + 1 := by decide +kernel
theorem c124_26 : mj_Y.code kY 124 26 = some (.getfield 23) ∧ mj_Y.fl kY 124 23 8 = some (1, .int, false) ∧ 29 = 26 + 3 := by decide +kernel
theorem c124_29 : mj_Y.code kY 124 29 = some (.invokevirtual 33) ∧ mj_Y.na kY 124 33 = some 1 ∧ mj_Y.cv kY 124 33 0 = some 51 ∧ mj_Y.nL kY 51 = 2 ∧ 32 = 29 + 3 := by decide +kernel
theorem c124_32 : mj_Y.code kY 124 32 = some .pop ∧ 33 = 32 + 1 := by decide +kernel
theorem c124_33 : mj_Y.code kY 124 33 = some (.aload_n 0) ∧ ((0 : Fin 4) : Nat) = 0 ∧ 34 = 33 + 1 := by decide +kernel
theorem c124_34 : mj_Y.code kY 124 34 = some (.getfield 26) ∧ mj_Y.fl kY 124 26 8 = some (2, .char, false) ∧ 37 = 34 + 3 := by decide +kernel
theorem c124_37 : mj_Y.code kY 124 37 = some (.bipush 97) ∧ (Int8.ofInt 97).toInt32 = 97 ∧ 39 = 37 + 2 := by decide +kernel
theorem c124_39 : mj_Y.code kY 124 39 = some (.if_icmp .eq 21) ∧ mj_tg 39 21 = some 60 ∧ 42 = 39 + 3 := by decide +kernel
theorem c124_42 : mj_Y.code kY 124 42 = some (.aload_n 1) ∧ ((1 : Fin 4) : Nat) = 1 ∧ 43 = 42 + 1 := by decide +kernel
theorem c124_43 : mj_Y.code kY 124 43 = some (.aload_n 0) ∧ ((0 : Fin 4) : Nat) = 0 ∧ 44 = 43 + 1 := by decide +kernel
theorem c124_44 : mj_Y.code kY 124 44 = some (.getfield 26) ∧ mj_Y.fl kY 124 26 8 = some (2, .char, false) ∧ 47 = 44 + 3 := by decide +kernel
theorem c124_47 : mj_Y.code kY 124 47 = some (.invokevirtual 39) ∧ mj_Y.na kY 124 39 = some 1 ∧ mj_Y.cv kY 124 39 0 = some 13 ∧ mj_Y.nL kY 13 = 2 ∧ 50 = 47 + 3 := by decide +kernel
theorem c124_50 : mj_Y.code kY 124 50 = some .pop ∧ 51 = 50 + 1 := by decide +kernel
theorem c124_51 : mj_Y.code kY 124 51 = some (.aload_n 1) ∧ ((1 : Fin 4) : Nat) = 1 ∧ 52 = 51 + 1 := by decide +kernel
theorem c124_52 : mj_Y.code kY 124 52 = some (.aload_n 0) ∧ ((0 : Fin 4) : Nat) = 0 ∧ 53 = 52 + 1 := by decide +kernel
theorem c124_53 : mj_Y.code kY 124 53 = some (.getfield 30) ∧ mj_Y.fl kY 124 30 8 = some (3, .int, false) ∧ 56 = 53 + 3 := by decide +kernel
theorem c124_56 : mj_Y.code kY 124 56 = some (.invokevirtual 33) ∧ mj_Y.na kY 124 33 = some 1 ∧ mj_Y.cv kY 124 33 0 = some 51 ∧ mj_Y.nL kY 51 = 2 ∧ 59 = 56 + 3 := by decide +kernel
theorem c124_59 : mj_Y.code kY 124 59 = some .pop ∧ 60 = 59 + 1 := by decide +kernel
theorem c124_60 : mj_Y.code kY 124 60 = some .return_ ∧ mj_Y.rt kY 124 = none := by decide +kernel
theorem c125_0 : mj_Y.code kY 125 0 = some (.aload_n 1) ∧ ((1 : Fin 4) : Nat) = 1 ∧ 1 = 0 + 1 := by decide +kernel
theorem c125_1 : mj_Y.code kY 125 1 = some (.bipush 45) ∧ (Int8.ofInt 45).toInt32 = 45 ∧ 3 = 1 + 2 := by decide +kernel
theorem c125_3 : mj_Y.code kY 125 3 = some (.invokevirtual 19) ∧ mj_Y.na kY 125 19 = some 1 ∧ mj_Y.cv kY 125 19 0 = some 13 ∧ mj_Y.nL kY 13 = 2 ∧ 6 = 3 + 3 := by decide +kernel
theorem c125_6 : mj_Y.code kY 125 6 = some .pop ∧ 7 = 6 + 1 := by decide +kernel
theorem c125_7 : mj_Y.code kY 125 7 = some (.aload_n 0) ∧ ((0 : Fin 4) : Nat) = 0 ∧ 8 = 7 + 1 := by decide +kernel
theorem c125_8 : mj_Y.code kY 125 8 = some (.getfield 13) ∧ mj_Y.fl kY 125 13 6 = some (0, (.object "DiceOdds$Expression"), false) ∧ 11 = 8 + 3 := by decide +kernel
theorem c125_11 : mj_Y.code kY 125 11 = some (.aload_n 1) ∧ ((1 : Fin 4) : Nat) = 1 ∧ 12 = 11 + 1 := by decide +kernel
theorem c125_12 : mj_Y.code kY 125 12 = some (.aload_n 0) ∧ ((0 : Fin 4) : Nat) = 0 ∧ 13 = 12 + 1 := by decide +kernel
theorem c125_13 : mj_Y.code kY 125 13 = some (.getfield 13) ∧ mj_Y.fl kY 125 13 6 = some (0, (.object "DiceOdds$Expression"), false) ∧ 16 = 13 + 3 := by decide +kernel
theorem c125_16_t : ∀ c k2, db c = some k2 → mj_Y.cv kY 125 25 c = some k2 ∧ 1 ≤ mj_Y.nL kY k2 ∧ mj_Y.nL kY k2 ≤ 20 := by
  intro c n h
  have hc : c = 6 ∨ c = 7 ∨ c = 8 ∨ c = 9 ∨ c = 10 := db_c h
  rcases hc with rfl | rfl | rfl | rfl | rfl <;> (cases h; decide +kernel)
theorem c125_16 : mj_Y.code kY 125 16 = some (.invokevirtual 25) ∧ mj_Y.na kY 125 25 = some 0 ∧ 19 = 16 + 3 := by decide +kernel
theorem c125_19 : mj_Y.code kY 125 19 = some (.iconst 3) ∧ Int32.ofInt 3 = 3 ∧ 20 = 19 + 1 := by decide +kernel
theorem c125_20 : mj_Y.code kY 125 20 = some (.if_icmp .ge 7) ∧ mj_tg 20 7 = some 27 ∧ 23 = 20 + 3 := by decide +kernel
theorem c125_23 : mj_Y.code kY 125 23 = some (.iconst 1) ∧ Int32.ofInt 1 = 1 ∧ 24 = 23 + 1 := by decide +kernel
theorem c125_24 : mj_Y.code kY 125 24 = some (.goto 4) ∧ mj_tg 24 4 = some 28 := by decide +kernel
theorem c125_27 : mj_Y.code kY 125 27 = some (.iconst 0) ∧ Int32.ofInt 0 = 0 ∧ 28 = 27 + 1 := by decide +kernel
theorem c125_28_t : ∀ c, 6 ≤ c ∧ c ≤ 10 → mj_Y.cv kY 125 29 c = some 128 := by
  intro c h
  have hc : c = 6 ∨ c = 7 ∨ c = 8 ∨ c = 9 ∨ c = 10 := by omega
  rcases hc with rfl | rfl | rfl | rfl | rfl <;> decide +kernel
theorem c125_28 : mj_Y.code kY 125 28 = some (.invokevirtual 29) ∧ mj_Y.na kY 125 29 = some 2 ∧ mj_Y.nL kY 128 = 3 ∧ 31 = 28 + 3 := by decide +kernel
theorem c125_31 : mj_Y.code kY 125 31 = some .return_ ∧ mj_Y.rt kY 125 = none := by decide +kernel
theorem c126_0 : mj_Y.code kY 126 0 = some (.aload_n 0) ∧ ((0 : Fin 4) : Nat) = 0 ∧ 1 = 0 + 1 := by decide +kernel
theorem c126_1 : mj_Y.code kY 126 1 = some (.getfield 17) ∧ mj_Y.fl kY 126 17 10 = some (0, .char, false) ∧ 4 = 1 + 3 := by decide +kernel
theorem c126_4 : mj_Y.code kY 126 4 = some (.invokestatic 30) ∧ mj_Y.pr kY 126 30 = none ∧ mj_Y.cs kY 126 30 = some (108, 1) ∧ mj_Y.nL kY 108 = 1 ∧ 7 = 4 + 3 := by decide +kernel
theorem c126_7 : mj_Y.code kY 126 7 = some .ireturn ∧ mj_Y.rt kY 126 = some .int := by decide +kernel
theorem c127_0 : mj_Y.code kY 127 0 = some (.iconst 3) ∧ Int32.ofInt 3 = 3 ∧ 1 = 0 + 1 := by decide +kernel
theorem c127_1 : mj_Y.code kY 127 1 = some .ireturn ∧ mj_Y.rt kY 127 = some .int := by decide +kernel
theorem c128_0 : mj_Y.code kY 128 0 = some (.iload_n 2) ∧ ((2 : Fin 4) : Nat) = 2 ∧ 1 = 0 + 1 := by decide +kernel
theorem c128_1 : mj_Y.code kY 128 1 = some (.ifCond .eq 10) ∧ mj_tg 1 10 = some 11 ∧ 4 = 1 + 3 := by decide +kernel
theorem c128_4 : mj_Y.code kY 128 4 = some (.aload_n 1) ∧ ((1 : Fin 4) : Nat) = 1 ∧ 5 = 4 + 1 := by decide +kernel
theorem c128_5 : mj_Y.code kY 128 5 = some (.bipush 40) ∧ (Int8.ofInt 40).toInt32 = 40 ∧ 7 = 5 + 2 := by decide +kernel
theorem c128_7 : mj_Y.code kY 128 7 = some (.invokevirtual 15) ∧ mj_Y.na kY 128 15 = some 1 ∧ mj_Y.cv kY 128 15 0 = some 13 ∧ mj_Y.nL kY 13 = 2 ∧ 10 = 7 + 3 := by decide +kernel
theorem c128_10 : mj_Y.code kY 128 10 = some .pop ∧ 11 = 10 + 1 := by decide +kernel
theorem c128_11 : mj_Y.code kY 128 11 = some (.aload_n 0) ∧ ((0 : Fin 4) : Nat) = 0 ∧ 12 = 11 + 1 := by decide +kernel
theorem c128_12 : mj_Y.code kY 128 12 = some (.aload_n 1) ∧ ((1 : Fin 4) : Nat) = 1 ∧ 13 = 12 + 1 := by decide +kernel
theorem c128_13_t : ∀ c k2, dw c = some k2 → mj_Y.cv kY 128 21 c = some k2 ∧ 2 ≤ mj_Y.nL kY k2 ∧ mj_Y.nL kY k2 ≤ 20 := by
  intro c n h
  have hc : c = 6 ∨ c = 7 ∨ c = 8 ∨ c = 9 ∨ c = 10 := dw_c h
  rcases hc with rfl | rfl | rfl | rfl | rfl <;> (cases h; decide +kernel)
theorem c128_13 : mj_Y.code kY 128 13 = some (.invokevirtual 21) ∧ mj_Y.na kY 128 21 = some 1 ∧ 16 = 13 + 3 := by decide +kernel
theorem c128_16 : mj_Y.code kY 128 16 = some (.iload_n 2) ∧ ((2 : Fin 4) : Nat) = 2 ∧ 17 = 16 + 1 := by decide +kernel
theorem c128_17 : mj_Y.code kY 128 17 = some (.ifCond .eq 10) ∧ mj_tg 17 10 = some 27 ∧ 20 = 17 + 3 := by decide +kernel
theorem c128_20 : mj_Y.code kY 128 20 = some (.aload_n 1) ∧ ((1 : Fin 4) : Nat) = 1 ∧ 21 = 20 + 1 := by decide +kernel
theorem c128_21 : mj_Y.code kY 128 21 = some (.bipush 41) ∧ (Int8.ofInt 41).toInt32 = 41 ∧ 23 = 21 + 2 := by decide +kernel
theorem c128_23 : mj_Y.code kY 128 23 = some (.invokevirtual 15) ∧ mj_Y.na kY 128 15 = some 1 ∧ mj_Y.cv kY 128 15 0 = some 13 ∧ mj_Y.nL kY 13 = 2 ∧ 26 = 23 + 3 := by decide +kernel
theorem c128_26 : mj_Y.code kY 128 26 = some .pop ∧ 27 = 26 + 1 := by decide +kernel
theorem c128_27 : mj_Y.code kY 128 27 = some .return_ ∧ mj_Y.rt kY 128 = none := by decide +kernel
theorem c129_0 : mj_Y.code kY 129 0 = some (.aload_n 0) ∧ ((0 : Fin 4) : Nat) = 0 ∧ 1 = 0 + 1 := by decide +kernel
theorem c129_1 : mj_Y.code kY 129 1 = some (.invokevirtual 34) ∧ mj_Y.na kY 129 34 = some 0 ∧ mj_Y.cv kY 129 34 10 = some 126 ∧ mj_Y.nL kY 126 = 1 ∧ 4 = 1 + 3 := by decide +kernel
theorem c129_4 : mj_Y.code kY 129 4 = some (.istore_n 2) ∧ ((2 : Fin 4) : Nat) = 2 ∧ 2 < mj_Y.nL kY 129 ∧ 5 = 4 + 1 := by decide +kernel
theorem c129_5 : mj_Y.code kY 129 5 = some (.aload_n 0) ∧ ((0 : Fin 4) : Nat) = 0 ∧ 6 = 5 + 1 := by decide +kernel
theorem c129_6 : mj_Y.code kY 129 6 = some (.getfield 23) ∧ mj_Y.fl kY 129 23 10 = some (1, (.object "DiceOdds$Expression"), false) ∧ 9 = 6 + 3 := by decide +kernel
theorem c129_9_t : ∀ c k2, db c = some k2 → mj_Y.cv kY 129 38 c = some k2 ∧ 1 ≤ mj_Y.nL kY k2 ∧ mj_Y.nL kY k2 ≤ 20 := by
  intro c n h
  have hc : c = 6 ∨ c = 7 ∨ c = 8 ∨ c = 9 ∨ c = 10 := db_c h
  rcases hc with rfl | rfl | rfl | rfl | rfl <;> (cases h; decide +kernel)
theorem c129_9 : mj_Y.code kY 129 9 = some (.invokevirtual 38) ∧ mj_Y.na kY 129 38 = some 0 ∧ 12 = 9 + 3 := by decide +kernel
theorem c129_12 : mj_Y.code kY 129 12 = some (.istore_n 3) ∧ ((3 : Fin 4) : Nat) = 3 ∧ 3 < mj_Y.nL kY 129 ∧ 13 = 12 + 1 := by decide +kernel
theorem c129_13 : mj_Y.code kY 129 13 = some (.aload_n 0) ∧ ((0 : Fin 4) : Nat) = 0 ∧ 14 = 13 + 1 := by decide +kernel
theorem c129_14 : mj_Y.code kY 129 14 = some (.getfield 23) ∧ mj_Y.fl kY 129 23 10 = some (1, (.object "DiceOdds$Expression"), false) ∧ 17 = 14 + 3 := by decide +kernel
theorem c129_17 : mj_Y.code kY 129 17 = some (.aload_n 1) ∧ ((1 : Fin 4) : Nat) = 1 ∧ 18 = 17 + 1 := by decide +kernel
theorem c129_18 : mj_Y.code kY 129 18 = some (.iload_n 3) ∧ ((3 : Fin 4) : Nat) = 3 ∧ 19 = 18 + 1 := by decide +kernel
theorem c129_19 : mj_Y.code kY 129 19 = some (.iload_n 2) ∧ ((2 : Fin 4) : Nat) = 2 ∧ 20 = 19 + 1 := by decide +kernel
theorem c129_20 : mj_Y.code kY 129 20 = some (.if_icmp .lt 11) ∧ mj_tg 20 11 = some 31 ∧ 23 = 20 + 3 := by decide +kernel
theorem c129_23 : mj_Y.code kY 129 23 = some (.iload_n 3) ∧ ((3 : Fin 4) : Nat) = 3 ∧ 24 = 23 + 1 := by decide +kernel
theorem c129_24 : mj_Y.code kY 129 24 = some (.ifCond .ne 11) ∧ mj_tg 24 11 = some 35 ∧ 27 = 24 + 3 := by decide +kernel
theorem c129_27 : mj_Y.code kY 129 27 = some (.iload_n 2) ∧ ((2 : Fin 4) : Nat) = 2 ∧ 28 = 27 + 1 := by decide +kernel
theorem c129_28 : mj_Y.code kY 129 28 = some (.ifCond .ne 7) ∧ mj_tg 28 7 = some 35 ∧ 31 = 28 + 3 := by decide +kernel
theorem c129_31 : mj_Y.code kY 129 31 = some (.iconst 1) ∧ Int32.ofInt 1 = 1 ∧ 32 = 31 + 1 := by decide +kernel
theorem c129_32 : mj_Y.code kY 129 32 = some (.goto 4) ∧ mj_tg 32 4 = some 36 := by decide +kernel
theorem c129_35 : mj_Y.code kY 129 35 = some (.iconst 0) ∧ Int32.ofInt 0 = 0 ∧ 36 = 35 + 1 := by decide +kernel
theorem c129_36_t : ∀ c, 6 ≤ c ∧ c ≤ 10 → mj_Y.cv kY 129 39 c = some 128 := by
  intro c h
  have hc : c = 6 ∨ c = 7 ∨ c = 8 ∨ c = 9 ∨ c = 10 := by omega
  rcases hc with rfl | rfl | rfl | rfl | rfl <;> decide +kernel
theorem c129_36 : mj_Y.code kY 129 36 = some (.invokevirtual 39) ∧ mj_Y.na kY 129 39 = some 2 ∧ mj_Y.nL kY 128 = 3 ∧ 39 = 36 + 3 := by decide +kernel
theorem c129_39 : mj_Y.code kY 129 39 = some (.aload_n 1) ∧ ((1 : Fin 4) : Nat) = 1 ∧ 40 = 39 + 1 := by decide +kernel
theorem c129_40 : mj_Y.code kY 129 40 = some (.aload_n 0) ∧ ((0 : Fin 4) : Nat) = 0 ∧ 41 = 40 + 1 := by decide +kernel
theorem c129_41 : mj_Y.code kY 129 41 = some (.getfield 17) ∧ mj_Y.fl kY 129 17 10 = some (0, .char, false) ∧ 44 = 41 + 3 := by decide +kernel
theorem c129_44 : mj_Y.code kY 129 44 = some (.invokevirtual 43) ∧ mj_Y.na kY 129 43 = some 1 ∧ mj_Y.cv kY 129 43 0 = some 13 ∧ mj_Y.nL kY 13 = 2 ∧ 47 = 44 + 3 := by decide +kernel
theorem c129_47 : mj_Y.code kY 129 47 = some .pop ∧ 48 = 47 + 1 := by decide +kernel
theorem c129_48 : mj_Y.code kY 129 48 = some (.aload_n 0) ∧ ((0 : Fin 4) : Nat) = 0 ∧ 49 = 48 + 1 := by decide +kernel
theorem c129_49 : mj_Y.code kY 129 49 = some (.getfield 27) ∧ mj_Y.fl kY 129 27 10 = some (2, (.object "DiceOdds$Expression"), false) ∧ 52 = 49 + 3 := by decide +kernel
theorem c129_52 : mj_Y.code kY 129 52 = some (.aload_n 1) ∧ ((1 : Fin 4) : Nat) = 1 ∧ 53 = 52 + 1 := by decide +kernel
theorem c129_53 : mj_Y.code kY 129 53 = some (.aload_n 0) ∧ ((0 : Fin 4) : Nat) = 0 ∧ 54 = 53 + 1 := by decide +kernel
theorem c129_54 : mj_Y.code kY 129 54 = some (.getfield 27) ∧ mj_Y.fl kY 129 27 10 = some (2, (.object "DiceOdds$Expression"), false) ∧ 57 = 54 + 3 := by decide +kernel
theorem c129_57_t : ∀ c k2, db c = some k2 → mj_Y.cv kY 129 38 c = some k2 ∧ 1 ≤ mj_Y.nL kY k2 ∧ mj_Y.nL kY k2 ≤ 20 := by
  intro c n h
  have hc : c = 6 ∨ c = 7 ∨ c = 8 ∨ c = 9 ∨ c = 10 := db_c h
  rcases hc with rfl | rfl | rfl | rfl | rfl <;> (cases h; decide +kernel)
theorem c129_57 : mj_Y.code kY 129 57 = some (.invokevirtual 38) ∧ mj_Y.na kY 129 38 = some 0 ∧ 60 = 57 + 3 := by decide +kernel
theorem c129_60 : mj_Y.code kY 129 60 = some (.iload_n 2) ∧ ((2 : Fin 4) : Nat) = 2 ∧ 61 = 60 + 1 := by decide +kernel
theorem c129_61 : mj_Y.code kY 129 61 = some (.if_icmp .gt 7) ∧ mj_tg 61 7 = some 68 ∧ 64 = 61 + 3 := by decide +kernel
theorem c129_64 : mj_Y.code kY 129 64 = some (.iconst 1) ∧ Int32.ofInt 1 = 1 ∧ 65 = 64 + 1 := by decide +kernel
theorem c129_65 : mj_Y.code kY 129 65 = some (.goto 4) ∧ mj_tg 65 4 = some 69 := by decide +kernel
theorem c129_68 : mj_Y.code kY 129 68 = some (.iconst 0) ∧ Int32.ofInt 0 = 0 ∧ 69 = 68 + 1 := by decide +kernel
theorem c129_69_t : ∀ c, 6 ≤ c ∧ c ≤ 10 → mj_Y.cv kY 129 39 c = some 128 := by
  intro c h
  have hc : c = 6 ∨ c = 7 ∨ c = 8 ∨ c = 9 ∨ c = 10 := by omega
  rcases hc with rfl | rfl | rfl | rfl | rfl <;> decide +kernel
theorem c129_69 : mj_Y.code kY 129 69 = some (.invokevirtual 39) ∧ mj_Y.na kY 129 39 = some 2 ∧ mj_Y.nL kY 128 = 3 ∧ 72 = 69 + 3 := by decide +kernel
theorem c129_72 : mj_Y.code kY 129 72 = some .return_ ∧ mj_Y.rt kY 129 = none := by decide +kernel
theorem c130_0 : mj_Y.code kY 130 0 = some (.aload_n 0) ∧ ((0 : Fin 4) : Nat) = 0 ∧ 1 = 0 + 1 := by decide +kernel
theorem c130_1 : mj_Y.code kY 130 1 = some (.getfield 9) ∧ mj_Y.fl kY 130 9 7 = some (0, .int, false) ∧ 4 = 1 + 3 := by decide +kernel
theorem c130_4 : mj_Y.code kY 130 4 = some (.sipush (-1000)) ∧ (Int16.ofInt (-1000)).toInt32 = (-1000) ∧ 7 = 4 + 3 := by decide +kernel
theorem c130_7 : mj_Y.code kY 130 7 = some (.if_icmp .ne 15) ∧ mj_tg 7 15 = some 22 ∧ 10 = 7 + 3 := by decide +kernel
theorem c130_10 : mj_Y.code kY 130 10 = some (.aload_n 1) ∧ ((1 : Fin 4) : Nat) = 1 ∧ 11 = 10 + 1 := by decide +kernel
theorem c130_11 : mj_Y.code kY 130 11 = some (.aload_n 0) ∧ ((0 : Fin 4) : Nat) = 0 ∧ 12 = 11 + 1 := by decide +kernel
theorem c130_12 : mj_Y.code kY 130 12 = some (.getfield 15) ∧ mj_Y.fl kY 130 15 7 = some (1, .int, false) ∧ 15 = 12 + 3 := by decide +kernel
theorem c130_15 : mj_Y.code kY 130 15 = some (.invokevirtual 18) ∧ mj_Y.na kY 130 18 = some 1 ∧ mj_Y.cv kY 130 18 0 = some 51 ∧ mj_Y.nL kY 51 = 2 ∧ 18 = 15 + 3 := by decide +kernel
theorem c130_18 : mj_Y.code kY 130 18 = some .pop ∧ 19 = 18 + 1 := by decide +kernel
theorem c130_19 : mj_Y.code kY 130 19 = some (.goto 16) ∧ mj_tg 19 16 = some 35 := by decide +kernel
theorem c130_22 : mj_Y.code kY 130 22 = some (.aload_n 1) ∧ ((1 : Fin 4) : Nat) = 1 ∧ 23 = 22 + 1 := by decide +kernel
theorem c130_23 : mj_Y.code kY 130 23 = some (.bipush 65) ∧ (Int8.ofInt 65).toInt32 = 65 ∧ 25 = 23 + 2 := by decide +kernel
theorem c130_25 : mj_Y.code kY 130 25 = some (.aload_n 0) ∧ ((0 : Fin 4) : Nat) = 0 ∧ 26 = 25 + 1 := by decide +kernel
theorem c130_26 : mj_Y.code kY 130 26 = some (.getfield 9) ∧ mj_Y.fl kY 130 9 7 = some (0, .int, false) ∧ 29 = 26 + 3 := by decide +kernel
theorem c130_29 : mj_Y.code kY 130 29 = some .iadd ∧ 30 = 29 + 1 := by decide +kernel
theorem c130_30 : mj_Y.code kY 130 30 = some .i2c ∧ 31 = 30 + 1 := by decide +kernel
theorem c130_31 : mj_Y.code kY 130 31 = some (.invokevirtual 24) ∧ mj_Y.na kY 130 24 = some 1 ∧ mj_Y.cv kY 130 24 0 = some 13 ∧ mj_Y.nL kY 13 = 2 ∧ 34 = 31 + 3 := by decide +kernel
theorem c130_34 : mj_Y.code kY 130 34 = some .pop ∧ 35 = 34 + 1 := by decide +kernel
theorem c130_35 : mj_Y.code kY 130 35 = some .return_ ∧ mj_Y.rt kY 130 = none := by decide +kernel
theorem c131_0 : mj_Y.code kY 131 0 = some (.iconst 0) ∧ Int32.ofInt 0 = 0 ∧ 1 = 0 + 1 := by decide +kernel
theorem c131_1 : mj_Y.code kY 131 1 = some (.istore_n 2) ∧ ((2 : Fin 4) : Nat) = 2 ∧ 2 < mj_Y.nL kY 131 ∧ 2 = 1 + 1 := by decide +kernel
theorem c131_2 : mj_Y.code kY 131 2 = some (.iload_n 2) ∧ ((2 : Fin 4) : Nat) = 2 ∧ 3 = 2 + 1 := by decide +kernel
theorem c131_3 : mj_Y.code kY 131 3 = some (.aload_n 0) ∧ ((0 : Fin 4) : Nat) = 0 ∧ 4 = 3 + 1 := by decide +kernel
theorem c131_4 : mj_Y.code kY 131 4 = some (.getfield 7) ∧ mj_Y.fl kY 131 7 9 = some (0, (.array .int), false) ∧ 7 = 4 + 3 := by decide +kernel
theorem c131_7 : mj_Y.code kY 131 7 = some .arraylength ∧ 8 = 7 + 1 := by decide +kernel
theorem c131_8 : mj_Y.code kY 131 8 = some (.if_icmp .ge 36) ∧ mj_tg 8 36 = some 44 ∧ 11 = 8 + 3 := by decide +kernel
theorem c131_11 : mj_Y.code kY 131 11 = some (.aload_n 1) ∧ ((1 : Fin 4) : Nat) = 1 ∧ 12 = 11 + 1 := by decide +kernel
theorem c131_12 : mj_Y.code kY 131 12 = some (.iload_n 2) ∧ ((2 : Fin 4) : Nat) = 2 ∧ 13 = 12 + 1 := by decide +kernel
theorem c131_13 : mj_Y.code kY 131 13 = some (.ifCond .ne 8) ∧ mj_tg 13 8 = some 21 ∧ 16 = 13 + 3 := by decide +kernel
theorem c131_16 : mj_Y.code kY 131 16 = some (.bipush 91) ∧ (Int8.ofInt 91).toInt32 = 91 ∧ 18 = 16 + 2 := by decide +kernel
theorem c131_18 : mj_Y.code kY 131 18 = some (.goto 5) ∧ mj_tg 18 5 = some 23 := by decide +kernel
theorem c131_21 : mj_Y.code kY 131 21 = some (.bipush 44) ∧ (Int8.ofInt 44).toInt32 = 44 ∧ 23 = 21 + 2 := by decide +kernel
theorem c131_23 : mj_Y.code kY 131 23 = some (.invokevirtual 13) ∧ mj_Y.na kY 131 13 = some 1 ∧ mj_Y.cv kY 131 13 0 = some 13 ∧ mj_Y.nL kY 13 = 2 ∧ 26 = 23 + 3 := by decide +kernel
theorem c131_26 : mj_Y.code kY 131 26 = some .pop ∧ 27 = 26 + 1 := by decide +kernel
theorem c131_27 : mj_Y.code kY 131 27 = some (.aload_n 1) ∧ ((1 : Fin 4) : Nat) = 1 ∧ 28 = 27 + 1 := by decide +kernel
theorem c131_28 : mj_Y.code kY 131 28 = some (.aload_n 0) ∧ ((0 : Fin 4) : Nat) = 0 ∧ 29 = 28 + 1 := by decide +kernel
theorem c131_29 : mj_Y.code kY 131 29 = some (.getfield 7) ∧ mj_Y.fl kY 131 7 9 = some (0, (.array .int), false) ∧ 32 = 29 + 3 := by decide +kernel
theorem c131_32 : mj_Y.code kY 131 32 = some (.iload_n 2) ∧ ((2 : Fin 4) : Nat) = 2 ∧ 33 = 32 + 1 := by decide +kernel
theorem c131_33 : mj_Y.code kY 131 33 = some .iaload ∧ 34 = 33 + 1 := by decide +kernel
theorem c131_34 : mj_Y.code kY 131 34 = some (.invokevirtual 19) ∧ mj_Y.na kY 131 19 = some 1 ∧ mj_Y.cv kY 131 19 0 = some 51 ∧ mj_Y.nL kY 51 = 2 ∧ 37 = 34 + 3 := by decide +kernel
theorem c131_37 : mj_Y.code kY 131 37 = some .pop ∧ 38 = 37 + 1 := by decide +kernel
theorem c131_38 : mj_Y.code kY 131 38 = some (.iinc 2 1) ∧ 2 < mj_Y.nL kY 131 ∧ Int32.ofInt 1 = 1 ∧ 41 = 38 + 3 := by decide +kernel
theorem c131_41 : mj_Y.code kY 131 41 = some (.goto (-39)) ∧ mj_tg 41 (-39) = some 2 := by decide +kernel
theorem c131_44 : mj_Y.code kY 131 44 = some (.aload_n 1) ∧ ((1 : Fin 4) : Nat) = 1 ∧ 45 = 44 + 1 := by decide +kernel
theorem c131_45 : mj_Y.code kY 131 45 = some (.bipush 93) ∧ (Int8.ofInt 93).toInt32 = 93 ∧ 47 = 45 + 2 := by decide +kernel
theorem c131_47 : mj_Y.code kY 131 47 = some (.invokevirtual 13) ∧ mj_Y.na kY 131 13 = some 1 ∧ mj_Y.cv kY 131 13 0 = some 13 ∧ mj_Y.nL kY 13 = 2 ∧ 50 = 47 + 3 := by decide +kernel
theorem c131_50 : mj_Y.code kY 131 50 = some .pop ∧ 51 = 50 + 1 := by decide +kernel
theorem c131_51 : mj_Y.code kY 131 51 = some .return_ ∧ mj_Y.rt kY 131 = none := by decide +kernel
theorem c132_0 : mj_Y.code kY 132 0 = some (.aload_n 1) ∧ ((1 : Fin 4) : Nat) = 1 ∧ 1 = 0 + 1 := by decide +kernel
theorem c132_1 : mj_Y.code kY 132 1 = some (.bipush 123) ∧ (Int8.ofInt 123).toInt32 = 123 ∧ 3 = 1 + 2 := by decide +kernel
theorem c132_3 : mj_Y.code kY 132 3 = some (.invokevirtual 68) ∧ mj_Y.na kY 132 68 = some 1 ∧ mj_Y.cv kY 132 68 0 = some 13 ∧ mj_Y.nL kY 13 = 2 ∧ 6 = 3 + 3 := by decide +kernel
theorem c132_6 : mj_Y.code kY 132 6 = some .pop ∧ 7 = 6 + 1 := by decide +kernel
theorem c132_7 : mj_Y.code kY 132 7 = some (.aload_n 0) ∧ ((0 : Fin 4) : Nat) = 0 ∧ 8 = 7 + 1 := by decide +kernel
theorem c132_8 : mj_Y.code kY 132 8 = some (.aload_n 1) ∧ ((1 : Fin 4) : Nat) = 1 ∧ 9 = 8 + 1 := by decide +kernel
theorem c132_9 : mj_Y.code kY 132 9 = some (.invokestatic 83) ∧ mj_Y.pr kY 132 83 = none ∧ mj_Y.cs kY 132 83 = some (122, 2) ∧ mj_Y.nL kY 122 = 3 ∧ 12 = 9 + 3 := by decide +kernel
theorem c132_12 : mj_Y.code kY 132 12 = some (.aload_n 1) ∧ ((1 : Fin 4) : Nat) = 1 ∧ 13 = 12 + 1 := by decide +kernel
theorem c132_13 : mj_Y.code kY 132 13 = some (.bipush 125) ∧ (Int8.ofInt 125).toInt32 = 125 ∧ 15 = 13 + 2 := by decide +kernel
theorem c132_15 : mj_Y.code kY 132 15 = some (.invokevirtual 68) ∧ mj_Y.na kY 132 68 = some 1 ∧ mj_Y.cv kY 132 68 0 = some 13 ∧ mj_Y.nL kY 13 = 2 ∧ 18 = 15 + 3 := by decide +kernel
theorem c132_18 : mj_Y.code kY 132 18 = some .pop ∧ 19 = 18 + 1 := by decide +kernel
theorem c132_19 : mj_Y.code kY 132 19 = some .return_ ∧ mj_Y.rt kY 132 = none := by decide +kernel
theorem c134_0 : mj_Y.code kY 134 0 = some (.aload_n 0) ∧ ((0 : Fin 4) : Nat) = 0 ∧ 1 = 0 + 1 := by decide +kernel
theorem c134_1 : mj_Y.code kY 134 1 = some (.iload_n 1) ∧ ((1 : Fin 4) : Nat) = 1 ∧ 2 = 1 + 1 := by decide +kernel
theorem c134_2 : mj_Y.code kY 134 2 = some (.invokevirtual 76) ∧ mj_Y.na kY 134 76 = some 1 ∧ mj_Y.cv kY 134 76 5 = some 121 ∧ mj_Y.nL kY 121 = 3 ∧ 5 = 2 + 3 := by decide +kernel
theorem c134_5 : mj_Y.code kY 134 5 = some (.astore_n 2) ∧ ((2 : Fin 4) : Nat) = 2 ∧ 2 < mj_Y.nL kY 134 ∧ 6 = 5 + 1 := by decide +kernel
theorem c134_6 : mj_Y.code kY 134 6 = some (.aload_n 2) ∧ ((2 : Fin 4) : Nat) = 2 ∧ 7 = 6 + 1 := by decide +kernel
theorem c134_7 : mj_Y.code kY 134 7 = some (.invokevirtual 89) ∧ mj_Y.na kY 134 89 = some 0 ∧ mj_Y.cv kY 134 89 4 = some 118 ∧ mj_Y.nL kY 118 = 1 ∧ 10 = 7 + 3 := by decide +kernel
theorem c134_10 : mj_Y.code kY 134 10 = some (.aload_n 0) ∧ ((0 : Fin 4) : Nat) = 0 ∧ 11 = 10 + 1 := by decide +kernel
theorem c134_11 : mj_Y.code kY 134 11 = some (.getfield 32) ∧ mj_Y.fl kY 134 32 5 = some (3, (.object "DiceOdds$Bench"), false) ∧ 14 = 11 + 3 := by decide +kernel
theorem c134_14 : mj_Y.code kY 134 14 = some (.invokevirtual 92) ∧ mj_Y.na kY 134 92 = some 0 ∧ mj_Y.cv kY 134 92 3 = some 135 ∧ mj_Y.nL kY 135 = 1 ∧ 17 = 14 + 3 := by decide +kernel
theorem c134_17 : mj_Y.code kY 134 17 = some (.astore_n 3) ∧ ((3 : Fin 4) : Nat) = 3 ∧ 3 < mj_Y.nL kY 134 ∧ 18 = 17 + 1 := by decide +kernel
theorem c134_18 : mj_Y.code kY 134 18 = some (.aload_n 2) ∧ ((2 : Fin 4) : Nat) = 2 ∧ 19 = 18 + 1 := by decide +kernel
theorem c134_19 : mj_Y.code kY 134 19 = some (.getfield 79) ∧ mj_Y.fl kY 134 79 4 = some (3, (.object "DiceOdds$Statement"), true) ∧ 22 = 19 + 3 := by decide +kernel
theorem c134_22 : mj_Y.code kY 134 22 = some (.aload_n 3) ∧ ((3 : Fin 4) : Nat) = 3 ∧ 23 = 22 + 1 := by decide +kernel
theorem c134_23 : mj_Y.code kY 134 23 = some (.aload_n 0) ∧ ((0 : Fin 4) : Nat) = 0 ∧ 24 = 23 + 1 := by decide +kernel
theorem c134_24 : mj_Y.code kY 134 24 = some (.getfield 32) ∧ mj_Y.fl kY 134 32 5 = some (3, (.object "DiceOdds$Bench"), false) ∧ 27 = 24 + 3 := by decide +kernel
theorem c134_27 : mj_Y.code kY 134 27 = some (.iconst 0) ∧ Int32.ofInt 0 = 0 ∧ 28 = 27 + 1 := by decide +kernel
theorem c134_28 : mj_Y.code kY 134 28 = some (.invokestatic 96) ∧ mj_Y.pr kY 134 96 = none ∧ mj_Y.cs kY 134 96 = some (138, 4) ∧ mj_Y.nL kY 138 = 6 ∧ 31 = 28 + 3 := by decide +kernel
theorem c134_31 : mj_Y.code kY 134 31 = some (.istore 4) ∧ 4 = 4 ∧ 4 < mj_Y.nL kY 134 ∧ 33 = 31 + 2 := by decide +kernel
theorem c134_33 : mj_Y.code kY 134 33 = some (.iload 4) ∧ 4 = 4 ∧ 35 = 33 + 2 := by decide +kernel
theorem c134_35 : mj_Y.code kY 134 35 = some (.ifCond .eq 6) ∧ mj_tg 35 6 = some 41 ∧ 38 = 35 + 3 := by decide +kernel
theorem c134_38 : mj_Y.code kY 134 38 = some (.iload 4) ∧ 4 = 4 ∧ 40 = 38 + 2 := by decide +kernel
theorem c134_40 : mj_Y.code kY 134 40 = some .ireturn ∧ mj_Y.rt kY 134 = some .int := by decide +kernel
theorem c134_41 : mj_Y.code kY 134 41 = some (.aload_n 3) ∧ ((3 : Fin 4) : Nat) = 3 ∧ 42 = 41 + 1 := by decide +kernel
theorem c134_42 : mj_Y.code kY 134 42 = some (.getfield 100) ∧ mj_Y.fl kY 134 100 2 = some (2, .int, true) ∧ 45 = 42 + 3 := by decide +kernel
theorem c134_45 : mj_Y.code kY 134 45 = some (.ifCond .ne 6) ∧ mj_tg 45 6 = some 51 ∧ 48 = 45 + 3 := by decide +kernel
theorem c134_48 : mj_Y.code kY 134 48 = some (.bipush (-3)) ∧ (Int8.ofInt (-3)).toInt32 = (-3) ∧ 50 = 48 + 2 := by decide +kernel
theorem c134_50 : mj_Y.code kY 134 50 = some .ireturn ∧ mj_Y.rt kY 134 = some .int := by decide +kernel
theorem c134_51 : mj_Y.code kY 134 51 = some (.aload_n 2) ∧ ((2 : Fin 4) : Nat) = 2 ∧ 52 = 51 + 1 := by decide +kernel
theorem c134_52 : mj_Y.code kY 134 52 = some (.aload_n 3) ∧ ((3 : Fin 4) : Nat) = 3 ∧ 53 = 52 + 1 := by decide +kernel
theorem c134_53 : mj_Y.code kY 134 53 = some (.invokevirtual 105) ∧ mj_Y.na kY 134 105 = some 1 ∧ mj_Y.cv kY 134 105 4 = some 174 ∧ mj_Y.nL kY 174 = 3 ∧ 56 = 53 + 3 := by decide +kernel
theorem c134_56 : mj_Y.code kY 134 56 = some (.iconst 0) ∧ Int32.ofInt 0 = 0 ∧ 57 = 56 + 1 := by decide +kernel
theorem c134_57 : mj_Y.code kY 134 57 = some .ireturn ∧ mj_Y.rt kY 134 = some .int := by decide +kernel
theorem nh134 : mj_Y.nh kY 134 = true := by decide +kernel
theorem c135_0 : mj_Y.code kY 135 0 = some (.aload_n 0) ∧ ((0 : Fin 4) : Nat) = 0 ∧ 1 = 0 + 1 := by decide +kernel
theorem c135_1 : mj_Y.code kY 135 1 = some (.getfield 43) ∧ mj_Y.fl kY 135 43 3 = some (8, (.object "DiceOdds$States"), false) ∧ 4 = 1 + 3 := by decide +kernel
theorem c135_4 : mj_Y.code kY 135 4 = some (.invokevirtual 60) ∧ mj_Y.na kY 135 60 = some 0 ∧ mj_Y.cv kY 135 60 2 = some 136 ∧ mj_Y.nL kY 136 = 1 ∧ 7 = 4 + 3 := by decide +kernel
theorem c135_7 : mj_Y.code kY 135 7 = some (.aload_n 0) ∧ ((0 : Fin 4) : Nat) = 0 ∧ 8 = 7 + 1 := by decide +kernel
theorem c135_8 : mj_Y.code kY 135 8 = some (.getfield 43) ∧ mj_Y.fl kY 135 43 3 = some (8, (.object "DiceOdds$States"), false) ∧ 11 = 8 + 3 := by decide +kernel
theorem c135_11 : mj_Y.code kY 135 11 = some (.invokevirtual 63) ∧ mj_Y.na kY 135 63 = some 0 ∧ mj_Y.cv kY 135 63 2 = some 137 ∧ mj_Y.nL kY 137 = 2 ∧ 14 = 11 + 3 := by decide +kernel
theorem c135_14 : mj_Y.code kY 135 14 = some (.aload_n 0) ∧ ((0 : Fin 4) : Nat) = 0 ∧ 15 = 14 + 1 := by decide +kernel
theorem c135_15 : mj_Y.code kY 135 15 = some (.aload_n 0) ∧ ((0 : Fin 4) : Nat) = 0 ∧ 16 = 15 + 1 := by decide +kernel
theorem c135_16 : mj_Y.code kY 135 16 = some (.getfield 43) ∧ mj_Y.fl kY 135 43 3 = some (8, (.object "DiceOdds$States"), false) ∧ 19 = 16 + 3 := by decide +kernel
theorem c135_19 : mj_Y.code kY 135 19 = some (.getfield 66) ∧ mj_Y.fl kY 135 66 2 = some (2, .int, true) ∧ 22 = 19 + 3 := by decide +kernel
theorem c135_22 : mj_Y.code kY 135 22 = some (.putfield 57) ∧ mj_Y.fl kY 135 57 3 = some (12, .int, true) ∧ 25 = 22 + 3 := by decide +kernel
theorem c135_25 : mj_Y.code kY 135 25 = some (.aload_n 0) ∧ ((0 : Fin 4) : Nat) = 0 ∧ 26 = 25 + 1 := by decide +kernel
theorem c135_26 : mj_Y.code kY 135 26 = some (.getfield 43) ∧ mj_Y.fl kY 135 43 3 = some (8, (.object "DiceOdds$States"), false) ∧ 29 = 26 + 3 := by decide +kernel
theorem c135_29 : mj_Y.code kY 135 29 = some .areturn ∧ mj_Y.rt kY 135 = some (.object "DiceOdds$States") ∧ ((.object "DiceOdds$States") : FieldType).isReference = true := by decide +kernel
theorem c136_0 : mj_Y.code kY 136 0 = some (.aload_n 0) ∧ ((0 : Fin 4) : Nat) = 0 ∧ 1 = 0 + 1 := by decide +kernel
theorem c136_1 : mj_Y.code kY 136 1 = some (.iconst 0) ∧ Int32.ofInt 0 = 0 ∧ 2 = 1 + 1 := by decide +kernel
theorem c136_2 : mj_Y.code kY 136 2 = some (.putfield 19) ∧ mj_Y.fl kY 136 19 2 = some (2, .int, true) ∧ 5 = 2 + 3 := by decide +kernel
theorem c136_5 : mj_Y.code kY 136 5 = some .return_ ∧ mj_Y.rt kY 136 = none := by decide +kernel
theorem c137_0 : mj_Y.code kY 137 0 = some (.iconst 0) ∧ Int32.ofInt 0 = 0 ∧ 1 = 0 + 1 := by decide +kernel
theorem c137_1 : mj_Y.code kY 137 1 = some (.istore_n 1) ∧ ((1 : Fin 4) : Nat) = 1 ∧ 1 < mj_Y.nL kY 137 ∧ 2 = 1 + 1 := by decide +kernel
theorem c137_2 : mj_Y.code kY 137 2 = some (.iload_n 1) ∧ ((1 : Fin 4) : Nat) = 1 ∧ 3 = 2 + 1 := by decide +kernel
theorem c137_3 : mj_Y.code kY 137 3 = some (.bipush 6) ∧ (Int8.ofInt 6).toInt32 = 6 ∧ 5 = 3 + 2 := by decide +kernel
theorem c137_5 : mj_Y.code kY 137 5 = some (.if_icmp .ge 16) ∧ mj_tg 5 16 = some 21 ∧ 8 = 5 + 3 := by decide +kernel
theorem c137_8 : mj_Y.code kY 137 8 = some (.aload_n 0) ∧ ((0 : Fin 4) : Nat) = 0 ∧ 9 = 8 + 1 := by decide +kernel
theorem c137_9 : mj_Y.code kY 137 9 = some (.getfield 9) ∧ mj_Y.fl kY 137 9 2 = some (0, (.array .int), true) ∧ 12 = 9 + 3 := by decide +kernel
theorem c137_12 : mj_Y.code kY 137 12 = some (.iload_n 1) ∧ ((1 : Fin 4) : Nat) = 1 ∧ 13 = 12 + 1 := by decide +kernel
theorem c137_13 : mj_Y.code kY 137 13 = some (.iconst 0) ∧ Int32.ofInt 0 = 0 ∧ 14 = 13 + 1 := by decide +kernel
theorem c137_14 : mj_Y.code kY 137 14 = some .iastore ∧ 15 = 14 + 1 := by decide +kernel
theorem c137_15 : mj_Y.code kY 137 15 = some (.iinc 1 1) ∧ 1 < mj_Y.nL kY 137 ∧ Int32.ofInt 1 = 1 ∧ 18 = 15 + 3 := by decide +kernel
theorem c137_18 : mj_Y.code kY 137 18 = some (.goto (-16)) ∧ mj_tg 18 (-16) = some 2 := by decide +kernel
theorem c137_21 : mj_Y.code kY 137 21 = some (.aload_n 0) ∧ ((0 : Fin 4) : Nat) = 0 ∧ 22 = 21 + 1 := by decide +kernel
theorem c137_22 : mj_Y.code kY 137 22 = some (.getfield 15) ∧ mj_Y.fl kY 137 15 2 = some (1, (.array .long), true) ∧ 25 = 22 + 3 := by decide +kernel
theorem c137_25 : mj_Y.code kY 137 25 = some (.iconst 0) ∧ Int32.ofInt 0 = 0 ∧ 26 = 25 + 1 := by decide +kernel
theorem c137_26 : mj_Y.code kY 137 26 = some (.lconst 1) ∧ Int64.ofNat ((1 : Fin 2) : Nat) = 1 ∧ 27 = 26 + 1 := by decide +kernel
theorem c137_27 : mj_Y.code kY 137 27 = some .lastore ∧ 28 = 27 + 1 := by decide +kernel
theorem c137_28 : mj_Y.code kY 137 28 = some (.aload_n 0) ∧ ((0 : Fin 4) : Nat) = 0 ∧ 29 = 28 + 1 := by decide +kernel
theorem c137_29 : mj_Y.code kY 137 29 = some (.iconst 1) ∧ Int32.ofInt 1 = 1 ∧ 30 = 29 + 1 := by decide +kernel
theorem c137_30 : mj_Y.code kY 137 30 = some (.putfield 19) ∧ mj_Y.fl kY 137 19 2 = some (2, .int, true) ∧ 33 = 30 + 3 := by decide +kernel
theorem c137_33 : mj_Y.code kY 137 33 = some .return_ ∧ mj_Y.rt kY 137 = none := by decide +kernel
theorem c138_0 : mj_Y.code kY 138 0 = some (.iconst 0) ∧ Int32.ofInt 0 = 0 ∧ 1 = 0 + 1 := by decide +kernel
theorem c138_1 : mj_Y.code kY 138 1 = some (.istore 4) ∧ 4 = 4 ∧ 4 < mj_Y.nL kY 138 ∧ 3 = 1 + 2 := by decide +kernel
theorem c138_3 : mj_Y.code kY 138 3 = some (.aload_n 0) ∧ ((0 : Fin 4) : Nat) = 0 ∧ 4 = 3 + 1 := by decide +kernel
theorem c138_4 : mj_Y.code kY 138 4 = some (.astore 5) ∧ 5 = 5 ∧ 5 < mj_Y.nL kY 138 ∧ 6 = 4 + 2 := by decide +kernel
theorem c138_6 : mj_Y.code kY 138 6 = some (.aload 5) ∧ 5 = 5 ∧ 8 = 6 + 2 := by decide +kernel
theorem c138_8 : mj_Y.code kY 138 8 = some (.ifnull 55) ∧ mj_tg 8 55 = some 63 ∧ 11 = 8 + 3 := by decide +kernel
theorem c138_11 : mj_Y.code kY 138 11 = some (.iload 4) ∧ 4 = 4 ∧ 13 = 11 + 2 := by decide +kernel
theorem c138_13 : mj_Y.code kY 138 13 = some (.ifCond .ne 50) ∧ mj_tg 13 50 = some 63 ∧ 16 = 13 + 3 := by decide +kernel
theorem c138_16 : mj_Y.code kY 138 16 = some (.aload_n 1) ∧ ((1 : Fin 4) : Nat) = 1 ∧ 17 = 16 + 1 := by decide +kernel
theorem c138_17 : mj_Y.code kY 138 17 = some (.getfield 86) ∧ mj_Y.fl kY 138 86 2 = some (2, .int, true) ∧ 20 = 17 + 3 := by decide +kernel
theorem c138_20 : mj_Y.code kY 138 20 = some (.ifCond .le 43) ∧ mj_tg 20 43 = some 63 ∧ 23 = 20 + 3 := by decide +kernel
theorem c138_23 : mj_Y.code kY 138 23 = some (.aload 5) ∧ 5 = 5 ∧ 25 = 23 + 2 := by decide +kernel
theorem c138_25 : mj_Y.code kY 138 25 = some (.aload_n 1) ∧ ((1 : Fin 4) : Nat) = 1 ∧ 26 = 25 + 1 := by decide +kernel
theorem c138_26 : mj_Y.code kY 138 26 = some (.aload_n 2) ∧ ((2 : Fin 4) : Nat) = 2 ∧ 27 = 26 + 1 := by decide +kernel
theorem c138_27 : mj_Y.code kY 138 27 = some (.iload_n 3) ∧ ((3 : Fin 4) : Nat) = 3 ∧ 28 = 27 + 1 := by decide +kernel
theorem c138_28 : mj_Y.code kY 138 28 = some (.invokevirtual 91) ∧ mj_Y.na kY 138 91 = some 3 ∧ mj_Y.cv kY 138 91 11 = some 139 ∧ mj_Y.nL kY 139 = 4 ∧ 31 = 28 + 3 := by decide +kernel
theorem c138_31 : mj_Y.code kY 138 31 = some (.istore 4) ∧ 4 = 4 ∧ 4 < mj_Y.nL kY 138 ∧ 33 = 31 + 2 := by decide +kernel
theorem c138_33 : mj_Y.code kY 138 33 = some (.iload 4) ∧ 4 = 4 ∧ 35 = 33 + 2 := by decide +kernel
theorem c138_35 : mj_Y.code kY 138 35 = some (.ifCond .ne 18) ∧ mj_tg 35 18 = some 53 ∧ 38 = 35 + 3 := by decide +kernel
theorem c138_38 : mj_Y.code kY 138 38 = some (.aload_n 2) ∧ ((2 : Fin 4) : Nat) = 2 ∧ 39 = 38 + 1 := by decide +kernel
theorem c138_39 : mj_Y.code kY 138 39 = some (.aload_n 2) ∧ ((2 : Fin 4) : Nat) = 2 ∧ 40 = 39 + 1 := by decide +kernel
theorem c138_40 : mj_Y.code kY 138 40 = some (.getfield 95) ∧ mj_Y.fl kY 138 95 3 = some (12, .int, true) ∧ 43 = 40 + 3 := by decide +kernel
theorem c138_43 : mj_Y.code kY 138 43 = some (.aload_n 1) ∧ ((1 : Fin 4) : Nat) = 1 ∧ 44 = 43 + 1 := by decide +kernel
theorem c138_44 : mj_Y.code kY 138 44 = some (.getfield 86) ∧ mj_Y.fl kY 138 86 2 = some (2, .int, true) ∧ 47 = 44 + 3 := by decide +kernel
theorem c138_47 : mj_Y.code kY 138 47 = some (.invokestatic 100) ∧ mj_Y.pr kY 138 100 = none ∧ mj_Y.cs kY 138 100 = some (18, 2) ∧ mj_Y.nL kY 18 = 2 ∧ 50 = 47 + 3 := by decide +kernel
theorem c138_50 : mj_Y.code kY 138 50 = some (.putfield 95) ∧ mj_Y.fl kY 138 95 3 = some (12, .int, true) ∧ 53 = 50 + 3 := by decide +kernel
theorem c138_53 : mj_Y.code kY 138 53 = some (.aload 5) ∧ 5 = 5 ∧ 55 = 53 + 2 := by decide +kernel
theorem c138_55 : mj_Y.code kY 138 55 = some (.getfield 9) ∧ mj_Y.fl kY 138 9 11 = some (8, (.object "DiceOdds$Statement"), true) ∧ 58 = 55 + 3 := by decide +kernel
theorem c138_58 : mj_Y.code kY 138 58 = some (.astore 5) ∧ 5 = 5 ∧ 5 < mj_Y.nL kY 138 ∧ 60 = 58 + 2 := by decide +kernel
theorem c138_60 : mj_Y.code kY 138 60 = some (.goto (-54)) ∧ mj_tg 60 (-54) = some 6 := by decide +kernel
theorem c138_63 : mj_Y.code kY 138 63 = some (.iload 4) ∧ 4 = 4 ∧ 65 = 63 + 2 := by decide +kernel
theorem c138_65 : mj_Y.code kY 138 65 = some .ireturn ∧ mj_Y.rt kY 138 = some .int := by decide +kernel
theorem c139_0 : mj_Y.code kY 139 0 = some (.aload_n 0) ∧ ((0 : Fin 4) : Nat) = 0 ∧ 1 = 0 + 1 := by decide +kernel
theorem c139_1 : mj_Y.code kY 139 1 = some (.getfield 15) ∧ mj_Y.fl kY 139 15 11 = some (0, .char, false) ∧ 4 = 1 + 3 := by decide +kernel
theorem c139_4_d {x : Int32} (b0 : mj_c2 .eq x 33 = false) (b1 : mj_c2 .eq x 42 = false) (b2 : mj_c2 .eq x 63 = false) : mj_Y.code kY 139 4 = some (.lookupswitch 59 #[(33, 36), (42, 51), (63, 43)]) ∧ r_np (.lookupswitch 59 #[(33, 36), (42, 51), (63, 43)]) = true ∧ ∀ (l : mj_L) (st : List Value), mj_p (mj_Y.nL kY 139) 4 (.lookupswitch 59 #[(33, 36), (42, 51), (63, 43)]) l (.int x :: st) = some (63, l, st) := by
  refine ⟨by decide +kernel, rfl, fun l st => ?_⟩
  have n0 : x.toInt ≠ 33 := fun h => of_decide_eq_false b0 (Int32.toInt_inj.mp (h.trans (show 33 = (33 : Int32).toInt from rfl)))
  have n1 : x.toInt ≠ 42 := fun h => of_decide_eq_false b1 (Int32.toInt_inj.mp (h.trans (show 42 = (42 : Int32).toInt from rfl)))
  have n2 : x.toInt ≠ 63 := fun h => of_decide_eq_false b2 (Int32.toInt_inj.mp (h.trans (show 63 = (63 : Int32).toInt from rfl)))
  refine sw_dfl (by decide) (by decide) (fun p hp => ?_)
  simp only [List.mem_cons, List.not_mem_nil, or_false] at hp
  rcases hp with rfl | rfl | rfl
  · exact fun z => n0 z.symm
  · exact fun z => n1 z.symm
  · exact fun z => n2 z.symm
theorem c139_4_33 : mj_Y.code kY 139 4 = some (.lookupswitch 59 #[(33, 36), (42, 51), (63, 43)]) ∧ r_np (.lookupswitch 59 #[(33, 36), (42, 51), (63, 43)]) = true ∧ ∀ (l : mj_L) (st : List Value), mj_p (mj_Y.nL kY 139) 4 (.lookupswitch 59 #[(33, 36), (42, 51), (63, 43)]) l (.int 33 :: st) = some (40, l, st) := ⟨by decide +kernel, rfl, fun _ _ => rfl⟩
theorem c139_4_42 : mj_Y.code kY 139 4 = some (.lookupswitch 59 #[(33, 36), (42, 51), (63, 43)]) ∧ r_np (.lookupswitch 59 #[(33, 36), (42, 51), (63, 43)]) = true ∧ ∀ (l : mj_L) (st : List Value), mj_p (mj_Y.nL kY 139) 4 (.lookupswitch 59 #[(33, 36), (42, 51), (63, 43)]) l (.int 42 :: st) = some (55, l, st) := ⟨by decide +kernel, rfl, fun _ _ => rfl⟩
theorem c139_4_63 : mj_Y.code kY 139 4 = some (.lookupswitch 59 #[(33, 36), (42, 51), (63, 43)]) ∧ r_np (.lookupswitch 59 #[(33, 36), (42, 51), (63, 43)]) = true ∧ ∀ (l : mj_L) (st : List Value), mj_p (mj_Y.nL kY 139) 4 (.lookupswitch 59 #[(33, 36), (42, 51), (63, 43)]) l (.int 63 :: st) = some (47, l, st) := ⟨by decide +kernel, rfl, fun _ _ => rfl⟩
theorem c139_40 : mj_Y.code kY 139 40 = some (.aload_n 0) ∧ ((0 : Fin 4) : Nat) = 0 ∧ 41 = 40 + 1 := by decide +kernel
theorem c139_41 : mj_Y.code kY 139 41 = some (.aload_n 1) ∧ ((1 : Fin 4) : Nat) = 1 ∧ 42 = 41 + 1 := by decide +kernel
theorem c139_42 : mj_Y.code kY 139 42 = some (.aload_n 2) ∧ ((2 : Fin 4) : Nat) = 2 ∧ 43 = 42 + 1 := by decide +kernel
theorem c139_43 : mj_Y.code kY 139 43 = some (.invokevirtual 106) ∧ mj_Y.na kY 139 106 = some 2 ∧ mj_Y.cv kY 139 106 11 = some 140 ∧ mj_Y.nL kY 140 = 5 ∧ 46 = 43 + 3 := by decide +kernel
theorem c139_46 : mj_Y.code kY 139 46 = some .ireturn ∧ mj_Y.rt kY 139 = some .int := by decide +kernel
theorem c139_47 : mj_Y.code kY 139 47 = some (.aload_n 0) ∧ ((0 : Fin 4) : Nat) = 0 ∧ 48 = 47 + 1 := by decide +kernel
theorem c139_48 : mj_Y.code kY 139 48 = some (.aload_n 1) ∧ ((1 : Fin 4) : Nat) = 1 ∧ 49 = 48 + 1 := by decide +kernel
theorem c139_49 : mj_Y.code kY 139 49 = some (.aload_n 2) ∧ ((2 : Fin 4) : Nat) = 2 ∧ 50 = 49 + 1 := by decide +kernel
theorem c139_50 : mj_Y.code kY 139 50 = some (.iload_n 3) ∧ ((3 : Fin 4) : Nat) = 3 ∧ 51 = 50 + 1 := by decide +kernel
theorem c139_51 : mj_Y.code kY 139 51 = some (.invokevirtual 110) ∧ mj_Y.na kY 139 110 = some 3 ∧ mj_Y.cv kY 139 110 11 = some 166 ∧ mj_Y.nL kY 166 = 9 ∧ 54 = 51 + 3 := by decide +kernel
theorem c139_54 : mj_Y.code kY 139 54 = some .ireturn ∧ mj_Y.rt kY 139 = some .int := by decide +kernel
theorem c139_55 : mj_Y.code kY 139 55 = some (.aload_n 0) ∧ ((0 : Fin 4) : Nat) = 0 ∧ 56 = 55 + 1 := by decide +kernel
theorem c139_56 : mj_Y.code kY 139 56 = some (.aload_n 1) ∧ ((1 : Fin 4) : Nat) = 1 ∧ 57 = 56 + 1 := by decide +kernel
theorem c139_57 : mj_Y.code kY 139 57 = some (.aload_n 2) ∧ ((2 : Fin 4) : Nat) = 2 ∧ 58 = 57 + 1 := by decide +kernel
theorem c139_58 : mj_Y.code kY 139 58 = some (.iload_n 3) ∧ ((3 : Fin 4) : Nat) = 3 ∧ 59 = 58 + 1 := by decide +kernel
theorem c139_59 : mj_Y.code kY 139 59 = some (.invokevirtual 113) ∧ mj_Y.na kY 139 113 = some 3 ∧ mj_Y.cv kY 139 113 11 = some 170 ∧ mj_Y.nL kY 170 = 6 ∧ 62 = 59 + 3 := by decide +kernel
theorem c139_62 : mj_Y.code kY 139 62 = some .ireturn ∧ mj_Y.rt kY 139 = some .int := by decide +kernel
theorem c139_63 : mj_Y.code kY 139 63 = some (.aload_n 0) ∧ ((0 : Fin 4) : Nat) = 0 ∧ 64 = 63 + 1 := by decide +kernel
theorem c139_64 : mj_Y.code kY 139 64 = some (.aload_n 1) ∧ ((1 : Fin 4) : Nat) = 1 ∧ 65 = 64 + 1 := by decide +kernel
theorem c139_65 : mj_Y.code kY 139 65 = some (.aload_n 2) ∧ ((2 : Fin 4) : Nat) = 2 ∧ 66 = 65 + 1 := by decide +kernel
theorem c139_66 : mj_Y.code kY 139 66 = some (.invokevirtual 116) ∧ mj_Y.na kY 139 116 = some 2 ∧ mj_Y.cv kY 139 116 11 = some 171 ∧ mj_Y.nL kY 171 = 6 ∧ 69 = 66 + 3 := by decide +kernel
theorem c139_69 : mj_Y.code kY 139 69 = some .ireturn ∧ mj_Y.rt kY 139 = some .int := by decide +kernel
