theorem c262_0 : mj_Y.code kY 262 0 = some (.iconst 0) ∧ Int32.ofInt 0 = 0 ∧ 1 = 0 + 1 := by decide +kernel
theorem c262_1 : mj_Y.code kY 262 1 = some (.istore_n 3) ∧ ((3 : Fin 4) : Nat) = 3 ∧ 3 < mj_Y.nL kY 262 ∧ 2 = 1 + 1 := by decide +kernel
theorem c262_2 : mj_Y.code kY 262 2 = some (.iload_n 3) ∧ ((3 : Fin 4) : Nat) = 3 ∧ 3 = 2 + 1 := by decide +kernel
theorem c262_3 : mj_Y.code kY 262 3 = some (.iload_n 2) ∧ ((2 : Fin 4) : Nat) = 2 ∧ 4 = 3 + 1 := by decide +kernel
theorem c262_4 : mj_Y.code kY 262 4 = some (.if_icmp .gt 66) ∧ mj_tg 4 66 = some 70 ∧ 7 = 4 + 3 := by decide +kernel
theorem c262_7 : mj_Y.code kY 262 7 = some (.iconst 1) ∧ Int32.ofInt 1 = 1 ∧ 8 = 7 + 1 := by decide +kernel
theorem c262_8 : mj_Y.code kY 262 8 = some (.istore 4) ∧ 4 = 4 ∧ 4 < mj_Y.nL kY 262 ∧ 10 = 8 + 2 := by decide +kernel
theorem c262_10 : mj_Y.code kY 262 10 = some (.iload 4) ∧ 4 = 4 ∧ 12 = 10 + 2 := by decide +kernel
theorem c262_12 : mj_Y.code kY 262 12 = some (.iload_n 1) ∧ ((1 : Fin 4) : Nat) = 1 ∧ 13 = 12 + 1 := by decide +kernel
theorem c262_13 : mj_Y.code kY 262 13 = some (.if_icmp .gt 51) ∧ mj_tg 13 51 = some 64 ∧ 16 = 13 + 3 := by decide +kernel
theorem c262_16 : mj_Y.code kY 262 16 = some (.iload 4) ∧ 4 = 4 ∧ 18 = 16 + 2 := by decide +kernel
theorem c262_18 : mj_Y.code kY 262 18 = some (.iload_n 1) ∧ ((1 : Fin 4) : Nat) = 1 ∧ 19 = 18 + 1 := by decide +kernel
theorem c262_19 : mj_Y.code kY 262 19 = some (.if_icmp .lt 8) ∧ mj_tg 19 8 = some 27 ∧ 22 = 19 + 3 := by decide +kernel
theorem c262_22 : mj_Y.code kY 262 22 = some (.iload_n 3) ∧ ((3 : Fin 4) : Nat) = 3 ∧ 23 = 22 + 1 := by decide +kernel
theorem c262_23 : mj_Y.code kY 262 23 = some (.iload_n 2) ∧ ((2 : Fin 4) : Nat) = 2 ∧ 24 = 23 + 1 := by decide +kernel
theorem c262_24 : mj_Y.code kY 262 24 = some (.if_icmp .ne 34) ∧ mj_tg 24 34 = some 58 ∧ 27 = 24 + 3 := by decide +kernel
theorem c262_27 : mj_Y.code kY 262 27 = some (.aload_n 0) ∧ ((0 : Fin 4) : Nat) = 0 ∧ 28 = 27 + 1 := by decide +kernel
theorem c262_28 : mj_Y.code kY 262 28 = some (.getfield 91) ∧ mj_Y.fl kY 262 91 12 = some (38, (.array .long), false) ∧ 31 = 28 + 3 := by decide +kernel
theorem c262_31 : mj_Y.code kY 262 31 = some (.iload_n 1) ∧ ((1 : Fin 4) : Nat) = 1 ∧ 32 = 31 + 1 := by decide +kernel
theorem c262_32 : mj_Y.code kY 262 32 = some (.iload_n 3) ∧ ((3 : Fin 4) : Nat) = 3 ∧ 33 = 32 + 1 := by decide +kernel
theorem c262_33 : mj_Y.code kY 262 33 = some .imul ∧ 34 = 33 + 1 := by decide +kernel
theorem c262_34 : mj_Y.code kY 262 34 = some (.iload 4) ∧ 4 = 4 ∧ 36 = 34 + 2 := by decide +kernel
theorem c262_36 : mj_Y.code kY 262 36 = some .iadd ∧ 37 = 36 + 1 := by decide +kernel
theorem c262_37 : mj_Y.code kY 262 37 = some (.aload_n 0) ∧ ((0 : Fin 4) : Nat) = 0 ∧ 38 = 37 + 1 := by decide +kernel
theorem c262_38 : mj_Y.code kY 262 38 = some (.getfield 91) ∧ mj_Y.fl kY 262 91 12 = some (38, (.array .long), false) ∧ 41 = 38 + 3 := by decide +kernel
theorem c262_41 : mj_Y.code kY 262 41 = some (.iload_n 1) ∧ ((1 : Fin 4) : Nat) = 1 ∧ 42 = 41 + 1 := by decide +kernel
theorem c262_42 : mj_Y.code kY 262 42 = some (.iload_n 3) ∧ ((3 : Fin 4) : Nat) = 3 ∧ 43 = 42 + 1 := by decide +kernel
theorem c262_43 : mj_Y.code kY 262 43 = some .imul ∧ 44 = 43 + 1 := by decide +kernel
theorem c262_44 : mj_Y.code kY 262 44 = some (.iload 4) ∧ 4 = 4 ∧ 46 = 44 + 2 := by decide +kernel
theorem c262_46 : mj_Y.code kY 262 46 = some .iadd ∧ 47 = 46 + 1 := by decide +kernel
theorem c262_47 : mj_Y.code kY 262 47 = some .laload ∧ 48 = 47 + 1 := by decide +kernel
theorem c262_48 : mj_Y.code kY 262 48 = some (.iload_n 1) ∧ ((1 : Fin 4) : Nat) = 1 ∧ 49 = 48 + 1 := by decide +kernel
theorem c262_49 : mj_Y.code kY 262 49 = some .i2l ∧ 50 = 49 + 1 := by decide +kernel
theorem c262_50 : mj_Y.code kY 262 50 = some (.iload_n 2) ∧ ((2 : Fin 4) : Nat) = 2 ∧ 51 = 50 + 1 := by decide +kernel
theorem c262_51 : mj_Y.code kY 262 51 = some (.iload_n 3) ∧ ((3 : Fin 4) : Nat) = 3 ∧ 52 = 51 + 1 := by decide +kernel
theorem c262_52 : mj_Y.code kY 262 52 = some .isub ∧ 53 = 52 + 1 := by decide +kernel
theorem c262_53 : mj_Y.code kY 262 53 = some (.invokestatic 287) ∧ mj_Y.pr kY 262 287 = none ∧ mj_Y.cs kY 262 287 = some (238, 2) ∧ mj_Y.nL kY 238 = 6 ∧ 56 = 53 + 3 := by decide +kernel
theorem c262_56 : mj_Y.code kY 262 56 = some .ladd ∧ 57 = 56 + 1 := by decide +kernel
theorem c262_57 : mj_Y.code kY 262 57 = some .lastore ∧ 58 = 57 + 1 := by decide +kernel
theorem c262_58 : mj_Y.code kY 262 58 = some (.iinc 4 1) ∧ 4 < mj_Y.nL kY 262 ∧ Int32.ofInt 1 = 1 ∧ 61 = 58 + 3 := by decide +kernel
theorem c262_61 : mj_Y.code kY 262 61 = some (.goto (-51)) ∧ mj_tg 61 (-51) = some 10 := by decide +kernel
theorem c262_64 : mj_Y.code kY 262 64 = some (.iinc 3 1) ∧ 3 < mj_Y.nL kY 262 ∧ Int32.ofInt 1 = 1 ∧ 67 = 64 + 3 := by decide +kernel
theorem c262_67 : mj_Y.code kY 262 67 = some (.goto (-65)) ∧ mj_tg 67 (-65) = some 2 := by decide +kernel
theorem c262_70 : mj_Y.code kY 262 70 = some .return_ ∧ mj_Y.rt kY 262 = none := by decide +kernel
theorem c263_0 : mj_Y.code kY 263 0 = some (.aload_n 0) ∧ ((0 : Fin 4) : Nat) = 0 ∧ 1 = 0 + 1 := by decide +kernel
theorem c263_1 : mj_Y.code kY 263 1 = some (.getfield 91) ∧ mj_Y.fl kY 263 91 12 = some (38, (.array .long), false) ∧ 4 = 1 + 3 := by decide +kernel
theorem c263_4 : mj_Y.code kY 263 4 = some (.iconst 0) ∧ Int32.ofInt 0 = 0 ∧ 5 = 4 + 1 := by decide +kernel
theorem c263_5 : mj_Y.code kY 263 5 = some (.lconst 1) ∧ Int64.ofNat ((1 : Fin 2) : Nat) = 1 ∧ 6 = 5 + 1 := by decide +kernel
theorem c263_6 : mj_Y.code kY 263 6 = some .lastore ∧ 7 = 6 + 1 := by decide +kernel
theorem c263_7 : mj_Y.code kY 263 7 = some (.iconst 0) ∧ Int32.ofInt 0 = 0 ∧ 8 = 7 + 1 := by decide +kernel
theorem c263_8 : mj_Y.code kY 263 8 = some (.istore_n 3) ∧ ((3 : Fin 4) : Nat) = 3 ∧ 3 < mj_Y.nL kY 263 ∧ 9 = 8 + 1 := by decide +kernel
theorem c263_9 : mj_Y.code kY 263 9 = some (.iload_n 3) ∧ ((3 : Fin 4) : Nat) = 3 ∧ 10 = 9 + 1 := by decide +kernel
theorem c263_10 : mj_Y.code kY 263 10 = some (.iload_n 1) ∧ ((1 : Fin 4) : Nat) = 1 ∧ 11 = 10 + 1 := by decide +kernel
theorem c263_11 : mj_Y.code kY 263 11 = some (.if_icmp .ge 73) ∧ mj_tg 11 73 = some 84 ∧ 14 = 11 + 3 := by decide +kernel
theorem c263_14 : mj_Y.code kY 263 14 = some (.bipush 120) ∧ (Int8.ofInt 120).toInt32 = 120 ∧ 16 = 14 + 2 := by decide +kernel
theorem c263_16 : mj_Y.code kY 263 16 = some (.istore 4) ∧ 4 = 4 ∧ 4 < mj_Y.nL kY 263 ∧ 18 = 16 + 2 := by decide +kernel
theorem c263_18 : mj_Y.code kY 263 18 = some (.iload 4) ∧ 4 = 4 ∧ 20 = 18 + 2 := by decide +kernel
theorem c263_20 : mj_Y.code kY 263 20 = some (.ifCond .lt 58) ∧ mj_tg 20 58 = some 78 ∧ 23 = 20 + 3 := by decide +kernel
theorem c263_23 : mj_Y.code kY 263 23 = some (.lconst 0) ∧ Int64.ofNat ((0 : Fin 2) : Nat) = 0 ∧ 24 = 23 + 1 := by decide +kernel
theorem c263_24 : mj_Y.code kY 263 24 = some (.lstore 5) ∧ 5 = 5 ∧ 5 + 1 < mj_Y.nL kY 263 ∧ 26 = 24 + 2 := by decide +kernel
theorem c263_26 : mj_Y.code kY 263 26 = some (.iconst 1) ∧ Int32.ofInt 1 = 1 ∧ 27 = 26 + 1 := by decide +kernel
theorem c263_27 : mj_Y.code kY 263 27 = some (.istore 7) ∧ 7 = 7 ∧ 7 < mj_Y.nL kY 263 ∧ 29 = 27 + 2 := by decide +kernel
theorem c263_29 : mj_Y.code kY 263 29 = some (.iload 7) ∧ 7 = 7 ∧ 31 = 29 + 2 := by decide +kernel
theorem c263_31 : mj_Y.code kY 263 31 = some (.iload_n 2) ∧ ((2 : Fin 4) : Nat) = 2 ∧ 32 = 31 + 1 := by decide +kernel
theorem c263_32 : mj_Y.code kY 263 32 = some (.if_icmp .gt 31) ∧ mj_tg 32 31 = some 63 ∧ 35 = 32 + 3 := by decide +kernel
theorem c263_35 : mj_Y.code kY 263 35 = some (.iload 7) ∧ 7 = 7 ∧ 37 = 35 + 2 := by decide +kernel
theorem c263_37 : mj_Y.code kY 263 37 = some (.iload 4) ∧ 4 = 4 ∧ 39 = 37 + 2 := by decide +kernel
theorem c263_39 : mj_Y.code kY 263 39 = some (.if_icmp .gt 24) ∧ mj_tg 39 24 = some 63 ∧ 42 = 39 + 3 := by decide +kernel
theorem c263_42 : mj_Y.code kY 263 42 = some (.lload 5) ∧ 5 = 5 ∧ 44 = 42 + 2 := by decide +kernel
theorem c263_44 : mj_Y.code kY 263 44 = some (.aload_n 0) ∧ ((0 : Fin 4) : Nat) = 0 ∧ 45 = 44 + 1 := by decide +kernel
theorem c263_45 : mj_Y.code kY 263 45 = some (.getfield 91) ∧ mj_Y.fl kY 263 91 12 = some (38, (.array .long), false) ∧ 48 = 45 + 3 := by decide +kernel
theorem c263_48 : mj_Y.code kY 263 48 = some (.iload 4) ∧ 4 = 4 ∧ 50 = 48 + 2 := by decide +kernel
theorem c263_50 : mj_Y.code kY 263 50 = some (.iload 7) ∧ 7 = 7 ∧ 52 = 50 + 2 := by decide +kernel
theorem c263_52 : mj_Y.code kY 263 52 = some .isub ∧ 53 = 52 + 1 := by decide +kernel
theorem c263_53 : mj_Y.code kY 263 53 = some .laload ∧ 54 = 53 + 1 := by decide +kernel
theorem c263_54 : mj_Y.code kY 263 54 = some .ladd ∧ 55 = 54 + 1 := by decide +kernel
theorem c263_55 : mj_Y.code kY 263 55 = some (.lstore 5) ∧ 5 = 5 ∧ 5 + 1 < mj_Y.nL kY 263 ∧ 57 = 55 + 2 := by decide +kernel
theorem c263_57 : mj_Y.code kY 263 57 = some (.iinc 7 1) ∧ 7 < mj_Y.nL kY 263 ∧ Int32.ofInt 1 = 1 ∧ 60 = 57 + 3 := by decide +kernel
theorem c263_60 : mj_Y.code kY 263 60 = some (.goto (-31)) ∧ mj_tg 60 (-31) = some 29 := by decide +kernel
theorem c263_63 : mj_Y.code kY 263 63 = some (.aload_n 0) ∧ ((0 : Fin 4) : Nat) = 0 ∧ 64 = 63 + 1 := by decide +kernel
theorem c263_64 : mj_Y.code kY 263 64 = some (.getfield 91) ∧ mj_Y.fl kY 263 91 12 = some (38, (.array .long), false) ∧ 67 = 64 + 3 := by decide +kernel
theorem c263_67 : mj_Y.code kY 263 67 = some (.iload 4) ∧ 4 = 4 ∧ 69 = 67 + 2 := by decide +kernel
theorem c263_69 : mj_Y.code kY 263 69 = some (.lload 5) ∧ 5 = 5 ∧ 71 = 69 + 2 := by decide +kernel
theorem c263_71 : mj_Y.code kY 263 71 = some .lastore ∧ 72 = 71 + 1 := by decide +kernel
theorem c263_72 : mj_Y.code kY 263 72 = some (.iinc 4 (-1)) ∧ 4 < mj_Y.nL kY 263 ∧ Int32.ofInt (-1) = (-1) ∧ 75 = 72 + 3 := by decide +kernel
theorem c263_75 : mj_Y.code kY 263 75 = some (.goto (-57)) ∧ mj_tg 75 (-57) = some 18 := by decide +kernel
theorem c263_78 : mj_Y.code kY 263 78 = some (.iinc 3 1) ∧ 3 < mj_Y.nL kY 263 ∧ Int32.ofInt 1 = 1 ∧ 81 = 78 + 3 := by decide +kernel
theorem c263_81 : mj_Y.code kY 263 81 = some (.goto (-72)) ∧ mj_tg 81 (-72) = some 9 := by decide +kernel
theorem c263_84 : mj_Y.code kY 263 84 = some .return_ ∧ mj_Y.rt kY 263 = none := by decide +kernel
theorem c264_0 : mj_Y.code kY 264 0 = some (.iconst 0) ∧ Int32.ofInt 0 = 0 ∧ 1 = 0 + 1 := by decide +kernel
theorem c264_1 : mj_Y.code kY 264 1 = some (.istore 5) ∧ 5 = 5 ∧ 5 < mj_Y.nL kY 264 ∧ 3 = 1 + 2 := by decide +kernel
theorem c264_3 : mj_Y.code kY 264 3 = some (.iload 5) ∧ 5 = 5 ∧ 5 = 3 + 2 := by decide +kernel
theorem c264_5 : mj_Y.code kY 264 5 = some (.iload_n 1) ∧ ((1 : Fin 4) : Nat) = 1 ∧ 6 = 5 + 1 := by decide +kernel
theorem c264_6 : mj_Y.code kY 264 6 = some (.if_icmp .ge 17) ∧ mj_tg 6 17 = some 23 ∧ 9 = 6 + 3 := by decide +kernel
theorem c264_9 : mj_Y.code kY 264 9 = some (.aload_n 0) ∧ ((0 : Fin 4) : Nat) = 0 ∧ 10 = 9 + 1 := by decide +kernel
theorem c264_10 : mj_Y.code kY 264 10 = some (.getfield 88) ∧ mj_Y.fl kY 264 88 12 = some (37, (.array .int), false) ∧ 13 = 10 + 3 := by decide +kernel
theorem c264_13 : mj_Y.code kY 264 13 = some (.iload 5) ∧ 5 = 5 ∧ 15 = 13 + 2 := by decide +kernel
theorem c264_15 : mj_Y.code kY 264 15 = some (.iload_n 2) ∧ ((2 : Fin 4) : Nat) = 2 ∧ 16 = 15 + 1 := by decide +kernel
theorem c264_16 : mj_Y.code kY 264 16 = some .iastore ∧ 17 = 16 + 1 := by decide +kernel
theorem c264_17 : mj_Y.code kY 264 17 = some (.iinc 5 1) ∧ 5 < mj_Y.nL kY 264 ∧ Int32.ofInt 1 = 1 ∧ 20 = 17 + 3 := by decide +kernel
theorem c264_20 : mj_Y.code kY 264 20 = some (.goto (-17)) ∧ mj_tg 20 (-17) = some 3 := by decide +kernel
theorem c264_23 : mj_Y.code kY 264 23 = some (.iconst 1) ∧ Int32.ofInt 1 = 1 ∧ 24 = 23 + 1 := by decide +kernel
theorem c264_24 : mj_Y.code kY 264 24 = some (.istore 5) ∧ 5 = 5 ∧ 5 < mj_Y.nL kY 264 ∧ 26 = 24 + 2 := by decide +kernel
theorem c264_26 : mj_Y.code kY 264 26 = some (.iload 5) ∧ 5 = 5 ∧ 28 = 26 + 2 := by decide +kernel
theorem c264_28 : mj_Y.code kY 264 28 = some (.ifCond .eq 181) ∧ mj_tg 28 181 = some 209 ∧ 31 = 28 + 3 := by decide +kernel
theorem c264_31 : mj_Y.code kY 264 31 = some (.iconst 0) ∧ Int32.ofInt 0 = 0 ∧ 32 = 31 + 1 := by decide +kernel
theorem c264_32 : mj_Y.code kY 264 32 = some (.istore 6) ∧ 6 = 6 ∧ 6 < mj_Y.nL kY 264 ∧ 34 = 32 + 2 := by decide +kernel
theorem c264_34 : mj_Y.code kY 264 34 = some (.iconst 0) ∧ Int32.ofInt 0 = 0 ∧ 35 = 34 + 1 := by decide +kernel
theorem c264_35 : mj_Y.code kY 264 35 = some (.istore 7) ∧ 7 = 7 ∧ 7 < mj_Y.nL kY 264 ∧ 37 = 35 + 2 := by decide +kernel
theorem c264_37 : mj_Y.code kY 264 37 = some (.iload 7) ∧ 7 = 7 ∧ 39 = 37 + 2 := by decide +kernel
theorem c264_39 : mj_Y.code kY 264 39 = some (.iload_n 1) ∧ ((1 : Fin 4) : Nat) = 1 ∧ 40 = 39 + 1 := by decide +kernel
theorem c264_40 : mj_Y.code kY 264 40 = some (.if_icmp .ge 66) ∧ mj_tg 40 66 = some 106 ∧ 43 = 40 + 3 := by decide +kernel
theorem c264_43 : mj_Y.code kY 264 43 = some (.iload_n 3) ∧ ((3 : Fin 4) : Nat) = 3 ∧ 44 = 43 + 1 := by decide +kernel
theorem c264_44 : mj_Y.code kY 264 44 = some (.ifCond .eq 20) ∧ mj_tg 44 20 = some 64 ∧ 47 = 44 + 3 := by decide +kernel
theorem c264_47 : mj_Y.code kY 264 47 = some (.iload 7) ∧ 7 = 7 ∧ 49 = 47 + 2 := by decide +kernel
theorem c264_49 : mj_Y.code kY 264 49 = some (.iload_n 1) ∧ ((1 : Fin 4) : Nat) = 1 ∧ 50 = 49 + 1 := by decide +kernel
theorem c264_50 : mj_Y.code kY 264 50 = some (.iload 4) ∧ 4 = 4 ∧ 52 = 50 + 2 := by decide +kernel
theorem c264_52 : mj_Y.code kY 264 52 = some .isub ∧ 53 = 52 + 1 := by decide +kernel
theorem c264_53 : mj_Y.code kY 264 53 = some (.if_icmp .lt 7) ∧ mj_tg 53 7 = some 60 ∧ 56 = 53 + 3 := by decide +kernel
theorem c264_56 : mj_Y.code kY 264 56 = some (.iconst 1) ∧ Int32.ofInt 1 = 1 ∧ 57 = 56 + 1 := by decide +kernel
theorem c264_57 : mj_Y.code kY 264 57 = some (.goto 19) ∧ mj_tg 57 19 = some 76 := by decide +kernel
theorem c264_60 : mj_Y.code kY 264 60 = some (.iconst 0) ∧ Int32.ofInt 0 = 0 ∧ 61 = 60 + 1 := by decide +kernel
theorem c264_61 : mj_Y.code kY 264 61 = some (.goto 15) ∧ mj_tg 61 15 = some 76 := by decide +kernel
theorem c264_64 : mj_Y.code kY 264 64 = some (.iload 7) ∧ 7 = 7 ∧ 66 = 64 + 2 := by decide +kernel
theorem c264_66 : mj_Y.code kY 264 66 = some (.iload 4) ∧ 4 = 4 ∧ 68 = 66 + 2 := by decide +kernel
theorem c264_68 : mj_Y.code kY 264 68 = some (.if_icmp .ge 7) ∧ mj_tg 68 7 = some 75 ∧ 71 = 68 + 3 := by decide +kernel
theorem c264_71 : mj_Y.code kY 264 71 = some (.iconst 1) ∧ Int32.ofInt 1 = 1 ∧ 72 = 71 + 1 := by decide +kernel
theorem c264_72 : mj_Y.code kY 264 72 = some (.goto 4) ∧ mj_tg 72 4 = some 76 := by decide +kernel
theorem c264_75 : mj_Y.code kY 264 75 = some (.iconst 0) ∧ Int32.ofInt 0 = 0 ∧ 76 = 75 + 1 := by decide +kernel
theorem c264_76 : mj_Y.code kY 264 76 = some (.istore 8) ∧ 8 = 8 ∧ 8 < mj_Y.nL kY 264 ∧ 78 = 76 + 2 := by decide +kernel
theorem c264_78 : mj_Y.code kY 264 78 = some (.iload 8) ∧ 8 = 8 ∧ 80 = 78 + 2 := by decide +kernel
theorem c264_80 : mj_Y.code kY 264 80 = some (.ifCond .eq 16) ∧ mj_tg 80 16 = some 96 ∧ 83 = 80 + 3 := by decide +kernel
theorem c264_83 : mj_Y.code kY 264 83 = some (.iload 6) ∧ 6 = 6 ∧ 85 = 83 + 2 := by decide +kernel
theorem c264_85 : mj_Y.code kY 264 85 = some (.aload_n 0) ∧ ((0 : Fin 4) : Nat) = 0 ∧ 86 = 85 + 1 := by decide +kernel
theorem c264_86 : mj_Y.code kY 264 86 = some (.getfield 88) ∧ mj_Y.fl kY 264 88 12 = some (37, (.array .int), false) ∧ 89 = 86 + 3 := by decide +kernel
theorem c264_89 : mj_Y.code kY 264 89 = some (.iload 7) ∧ 7 = 7 ∧ 91 = 89 + 2 := by decide +kernel
theorem c264_91 : mj_Y.code kY 264 91 = some .iaload ∧ 92 = 91 + 1 := by decide +kernel
theorem c264_92 : mj_Y.code kY 264 92 = some .iadd ∧ 93 = 92 + 1 := by decide +kernel
theorem c264_93 : mj_Y.code kY 264 93 = some (.goto 5) ∧ mj_tg 93 5 = some 98 := by decide +kernel
theorem c264_96 : mj_Y.code kY 264 96 = some (.iload 6) ∧ 6 = 6 ∧ 98 = 96 + 2 := by decide +kernel
theorem c264_98 : mj_Y.code kY 264 98 = some (.istore 6) ∧ 6 = 6 ∧ 6 < mj_Y.nL kY 264 ∧ 100 = 98 + 2 := by decide +kernel
theorem c264_100 : mj_Y.code kY 264 100 = some (.iinc 7 1) ∧ 7 < mj_Y.nL kY 264 ∧ Int32.ofInt 1 = 1 ∧ 103 = 100 + 3 := by decide +kernel
theorem c264_103 : mj_Y.code kY 264 103 = some (.goto (-66)) ∧ mj_tg 103 (-66) = some 37 := by decide +kernel
theorem c264_106 : mj_Y.code kY 264 106 = some (.aload_n 0) ∧ ((0 : Fin 4) : Nat) = 0 ∧ 107 = 106 + 1 := by decide +kernel
theorem c264_107 : mj_Y.code kY 264 107 = some (.getfield 91) ∧ mj_Y.fl kY 264 91 12 = some (38, (.array .long), false) ∧ 110 = 107 + 3 := by decide +kernel
theorem c264_110 : mj_Y.code kY 264 110 = some (.iload 6) ∧ 6 = 6 ∧ 112 = 110 + 2 := by decide +kernel
theorem c264_112 : mj_Y.code kY 264 112 = some (.aload_n 0) ∧ ((0 : Fin 4) : Nat) = 0 ∧ 113 = 112 + 1 := by decide +kernel
theorem c264_113 : mj_Y.code kY 264 113 = some (.getfield 91) ∧ mj_Y.fl kY 264 91 12 = some (38, (.array .long), false) ∧ 116 = 113 + 3 := by decide +kernel
theorem c264_116 : mj_Y.code kY 264 116 = some (.iload 6) ∧ 6 = 6 ∧ 118 = 116 + 2 := by decide +kernel
theorem c264_118 : mj_Y.code kY 264 118 = some .laload ∧ 119 = 118 + 1 := by decide +kernel
theorem c264_119 : mj_Y.code kY 264 119 = some (.aload_n 0) ∧ ((0 : Fin 4) : Nat) = 0 ∧ 120 = 119 + 1 := by decide +kernel
theorem c264_120 : mj_Y.code kY 264 120 = some (.iload_n 1) ∧ ((1 : Fin 4) : Nat) = 1 ∧ 121 = 120 + 1 := by decide +kernel
theorem c264_121 : mj_Y.code kY 264 121 = some (.invokevirtual 298) ∧ mj_Y.na kY 264 298 = some 1 ∧ mj_Y.cv kY 264 298 12 = some 265 ∧ mj_Y.nL kY 265 = 6 ∧ 124 = 121 + 3 := by decide +kernel
theorem c264_124 : mj_Y.code kY 264 124 = some .ladd ∧ 125 = 124 + 1 := by decide +kernel
theorem c264_125 : mj_Y.code kY 264 125 = some .lastore ∧ 126 = 125 + 1 := by decide +kernel
theorem c264_126 : mj_Y.code kY 264 126 = some (.iload_n 1) ∧ ((1 : Fin 4) : Nat) = 1 ∧ 127 = 126 + 1 := by decide +kernel
theorem c264_127 : mj_Y.code kY 264 127 = some (.iconst 1) ∧ Int32.ofInt 1 = 1 ∧ 128 = 127 + 1 := by decide +kernel
theorem c264_128 : mj_Y.code kY 264 128 = some .isub ∧ 129 = 128 + 1 := by decide +kernel
theorem c264_129 : mj_Y.code kY 264 129 = some (.istore 7) ∧ 7 = 7 ∧ 7 < mj_Y.nL kY 264 ∧ 131 = 129 + 2 := by decide +kernel
theorem c264_131 : mj_Y.code kY 264 131 = some (.iload 7) ∧ 7 = 7 ∧ 133 = 131 + 2 := by decide +kernel
theorem c264_133 : mj_Y.code kY 264 133 = some (.ifCond .lt 20) ∧ mj_tg 133 20 = some 153 ∧ 136 = 133 + 3 := by decide +kernel
theorem c264_136 : mj_Y.code kY 264 136 = some (.aload_n 0) ∧ ((0 : Fin 4) : Nat) = 0 ∧ 137 = 136 + 1 := by decide +kernel
theorem c264_137 : mj_Y.code kY 264 137 = some (.getfield 88) ∧ mj_Y.fl kY 264 88 12 = some (37, (.array .int), false) ∧ 140 = 137 + 3 := by decide +kernel
theorem c264_140 : mj_Y.code kY 264 140 = some (.iload 7) ∧ 7 = 7 ∧ 142 = 140 + 2 := by decide +kernel
theorem c264_142 : mj_Y.code kY 264 142 = some .iaload ∧ 143 = 142 + 1 := by decide +kernel
theorem c264_143 : mj_Y.code kY 264 143 = some (.iconst 1) ∧ Int32.ofInt 1 = 1 ∧ 144 = 143 + 1 := by decide +kernel
theorem c264_144 : mj_Y.code kY 264 144 = some (.if_icmp .ne 9) ∧ mj_tg 144 9 = some 153 ∧ 147 = 144 + 3 := by decide +kernel
theorem c264_147 : mj_Y.code kY 264 147 = some (.iinc 7 (-1)) ∧ 7 < mj_Y.nL kY 264 ∧ Int32.ofInt (-1) = (-1) ∧ 150 = 147 + 3 := by decide +kernel
theorem c264_150 : mj_Y.code kY 264 150 = some (.goto (-19)) ∧ mj_tg 150 (-19) = some 131 := by decide +kernel
theorem c264_153 : mj_Y.code kY 264 153 = some (.iload 7) ∧ 7 = 7 ∧ 155 = 153 + 2 := by decide +kernel
theorem c264_155 : mj_Y.code kY 264 155 = some (.ifCond .lt 7) ∧ mj_tg 155 7 = some 162 ∧ 158 = 155 + 3 := by decide +kernel
theorem c264_158 : mj_Y.code kY 264 158 = some (.iconst 1) ∧ Int32.ofInt 1 = 1 ∧ 159 = 158 + 1 := by decide +kernel
theorem c264_159 : mj_Y.code kY 264 159 = some (.goto 4) ∧ mj_tg 159 4 = some 163 := by decide +kernel
theorem c264_162 : mj_Y.code kY 264 162 = some (.iconst 0) ∧ Int32.ofInt 0 = 0 ∧ 163 = 162 + 1 := by decide +kernel
theorem c264_163 : mj_Y.code kY 264 163 = some (.istore 5) ∧ 5 = 5 ∧ 5 < mj_Y.nL kY 264 ∧ 165 = 163 + 2 := by decide +kernel
theorem c264_165 : mj_Y.code kY 264 165 = some (.iload 5) ∧ 5 = 5 ∧ 167 = 165 + 2 := by decide +kernel
theorem c264_167 : mj_Y.code kY 264 167 = some (.ifCond .eq 39) ∧ mj_tg 167 39 = some 206 ∧ 170 = 167 + 3 := by decide +kernel
theorem c264_170 : mj_Y.code kY 264 170 = some (.aload_n 0) ∧ ((0 : Fin 4) : Nat) = 0 ∧ 171 = 170 + 1 := by decide +kernel
theorem c264_171 : mj_Y.code kY 264 171 = some (.getfield 88) ∧ mj_Y.fl kY 264 88 12 = some (37, (.array .int), false) ∧ 174 = 171 + 3 := by decide +kernel
theorem c264_174 : mj_Y.code kY 264 174 = some (.iload 7) ∧ 7 = 7 ∧ 176 = 174 + 2 := by decide +kernel
theorem c264_176 : mj_Y.code kY 264 176 = some .iaload ∧ 177 = 176 + 1 := by decide +kernel
theorem c264_177 : mj_Y.code kY 264 177 = some (.iconst 1) ∧ Int32.ofInt 1 = 1 ∧ 178 = 177 + 1 := by decide +kernel
theorem c264_178 : mj_Y.code kY 264 178 = some .isub ∧ 179 = 178 + 1 := by decide +kernel
theorem c264_179 : mj_Y.code kY 264 179 = some (.istore 8) ∧ 8 = 8 ∧ 8 < mj_Y.nL kY 264 ∧ 181 = 179 + 2 := by decide +kernel
theorem c264_181 : mj_Y.code kY 264 181 = some (.iload 7) ∧ 7 = 7 ∧ 183 = 181 + 2 := by decide +kernel
theorem c264_183 : mj_Y.code kY 264 183 = some (.istore 9) ∧ 9 = 9 ∧ 9 < mj_Y.nL kY 264 ∧ 185 = 183 + 2 := by decide +kernel
theorem c264_185 : mj_Y.code kY 264 185 = some (.iload 9) ∧ 9 = 9 ∧ 187 = 185 + 2 := by decide +kernel
theorem c264_187 : mj_Y.code kY 264 187 = some (.iload_n 1) ∧ ((1 : Fin 4) : Nat) = 1 ∧ 188 = 187 + 1 := by decide +kernel
theorem c264_188 : mj_Y.code kY 264 188 = some (.if_icmp .ge 18) ∧ mj_tg 188 18 = some 206 ∧ 191 = 188 + 3 := by decide +kernel
theorem c264_191 : mj_Y.code kY 264 191 = some (.aload_n 0) ∧ ((0 : Fin 4) : Nat) = 0 ∧ 192 = 191 + 1 := by decide +kernel
theorem c264_192 : mj_Y.code kY 264 192 = some (.getfield 88) ∧ mj_Y.fl kY 264 88 12 = some (37, (.array .int), false) ∧ 195 = 192 + 3 := by decide +kernel
theorem c264_195 : mj_Y.code kY 264 195 = some (.iload 9) ∧ 9 = 9 ∧ 197 = 195 + 2 := by decide +kernel
theorem c264_197 : mj_Y.code kY 264 197 = some (.iload 8) ∧ 8 = 8 ∧ 199 = 197 + 2 := by decide +kernel
theorem c264_199 : mj_Y.code kY 264 199 = some .iastore ∧ 200 = 199 + 1 := by decide +kernel
theorem c264_200 : mj_Y.code kY 264 200 = some (.iinc 9 1) ∧ 9 < mj_Y.nL kY 264 ∧ Int32.ofInt 1 = 1 ∧ 203 = 200 + 3 := by decide +kernel
theorem c264_203 : mj_Y.code kY 264 203 = some (.goto (-18)) ∧ mj_tg 203 (-18) = some 185 := by decide +kernel
theorem c264_206 : mj_Y.code kY 264 206 = some (.goto (-180)) ∧ mj_tg 206 (-180) = some 26 := by decide +kernel
theorem c264_209 : mj_Y.code kY 264 209 = some .return_ ∧ mj_Y.rt kY 264 = none := by decide +kernel
theorem c265_0 : mj_Y.code kY 265 0 = some (.lconst 1) ∧ Int64.ofNat ((1 : Fin 2) : Nat) = 1 ∧ 1 = 0 + 1 := by decide +kernel
theorem c265_1 : mj_Y.code kY 265 1 = some (.lstore_n 2) ∧ ((2 : Fin 4) : Nat) = 2 ∧ 2 + 1 < mj_Y.nL kY 265 ∧ 2 = 1 + 1 := by decide +kernel
theorem c265_2 : mj_Y.code kY 265 2 = some (.iconst 0) ∧ Int32.ofInt 0 = 0 ∧ 3 = 2 + 1 := by decide +kernel
theorem c265_3 : mj_Y.code kY 265 3 = some (.istore 4) ∧ 4 = 4 ∧ 4 < mj_Y.nL kY 265 ∧ 5 = 3 + 2 := by decide +kernel
theorem c265_5 : mj_Y.code kY 265 5 = some (.iconst 0) ∧ Int32.ofInt 0 = 0 ∧ 6 = 5 + 1 := by decide +kernel
theorem c265_6 : mj_Y.code kY 265 6 = some (.istore 5) ∧ 5 = 5 ∧ 5 < mj_Y.nL kY 265 ∧ 8 = 6 + 2 := by decide +kernel
theorem c265_8 : mj_Y.code kY 265 8 = some (.iload 5) ∧ 5 = 5 ∧ 10 = 8 + 2 := by decide +kernel
theorem c265_10 : mj_Y.code kY 265 10 = some (.iload_n 1) ∧ ((1 : Fin 4) : Nat) = 1 ∧ 11 = 10 + 1 := by decide +kernel
theorem c265_11 : mj_Y.code kY 265 11 = some (.if_icmp .ge 55) ∧ mj_tg 11 55 = some 66 ∧ 14 = 11 + 3 := by decide +kernel
theorem c265_14 : mj_Y.code kY 265 14 = some (.iload 5) ∧ 5 = 5 ∧ 16 = 14 + 2 := by decide +kernel
theorem c265_16 : mj_Y.code kY 265 16 = some (.ifCond .le 29) ∧ mj_tg 16 29 = some 45 ∧ 19 = 16 + 3 := by decide +kernel
theorem c265_19 : mj_Y.code kY 265 19 = some (.aload_n 0) ∧ ((0 : Fin 4) : Nat) = 0 ∧ 20 = 19 + 1 := by decide +kernel
theorem c265_20 : mj_Y.code kY 265 20 = some (.getfield 88) ∧ mj_Y.fl kY 265 88 12 = some (37, (.array .int), false) ∧ 23 = 20 + 3 := by decide +kernel
theorem c265_23 : mj_Y.code kY 265 23 = some (.iload 5) ∧ 5 = 5 ∧ 25 = 23 + 2 := by decide +kernel
theorem c265_25 : mj_Y.code kY 265 25 = some .iaload ∧ 26 = 25 + 1 := by decide +kernel
theorem c265_26 : mj_Y.code kY 265 26 = some (.aload_n 0) ∧ ((0 : Fin 4) : Nat) = 0 ∧ 27 = 26 + 1 := by decide +kernel
theorem c265_27 : mj_Y.code kY 265 27 = some (.getfield 88) ∧ mj_Y.fl kY 265 88 12 = some (37, (.array .int), false) ∧ 30 = 27 + 3 := by decide +kernel
theorem c265_30 : mj_Y.code kY 265 30 = some (.iload 5) ∧ 5 = 5 ∧ 32 = 30 + 2 := by decide +kernel
theorem c265_32 : mj_Y.code kY 265 32 = some (.iconst 1) ∧ Int32.ofInt 1 = 1 ∧ 33 = 32 + 1 := by decide +kernel
theorem c265_33 : mj_Y.code kY 265 33 = some .isub ∧ 34 = 33 + 1 := by decide +kernel
theorem c265_34 : mj_Y.code kY 265 34 = some .iaload ∧ 35 = 34 + 1 := by decide +kernel
theorem c265_35 : mj_Y.code kY 265 35 = some (.if_icmp .ne 10) ∧ mj_tg 35 10 = some 45 ∧ 38 = 35 + 3 := by decide +kernel
theorem c265_38 : mj_Y.code kY 265 38 = some (.iload 4) ∧ 4 = 4 ∧ 40 = 38 + 2 := by decide +kernel
theorem c265_40 : mj_Y.code kY 265 40 = some (.iconst 1) ∧ Int32.ofInt 1 = 1 ∧ 41 = 40 + 1 := by decide +kernel
theorem c265_41 : mj_Y.code kY 265 41 = some .iadd ∧ 42 = 41 + 1 := by decide +kernel
theorem c265_42 : mj_Y.code kY 265 42 = some (.goto 4) ∧ mj_tg 42 4 = some 46 := by decide +kernel
theorem c265_45 : mj_Y.code kY 265 45 = some (.iconst 1) ∧ Int32.ofInt 1 = 1 ∧ 46 = 45 + 1 := by decide +kernel
theorem c265_46 : mj_Y.code kY 265 46 = some (.istore 4) ∧ 4 = 4 ∧ 4 < mj_Y.nL kY 265 ∧ 48 = 46 + 2 := by decide +kernel
theorem c265_48 : mj_Y.code kY 265 48 = some (.lload_n 2) ∧ ((2 : Fin 4) : Nat) = 2 ∧ 49 = 48 + 1 := by decide +kernel
theorem c265_49 : mj_Y.code kY 265 49 = some (.iload 5) ∧ 5 = 5 ∧ 51 = 49 + 2 := by decide +kernel
theorem c265_51 : mj_Y.code kY 265 51 = some (.iconst 1) ∧ Int32.ofInt 1 = 1 ∧ 52 = 51 + 1 := by decide +kernel
theorem c265_52 : mj_Y.code kY 265 52 = some .iadd ∧ 53 = 52 + 1 := by decide +kernel
theorem c265_53 : mj_Y.code kY 265 53 = some .i2l ∧ 54 = 53 + 1 := by decide +kernel
theorem c265_54 : mj_Y.code kY 265 54 = some .lmul ∧ 55 = 54 + 1 := by decide +kernel
theorem c265_55 : mj_Y.code kY 265 55 = some (.iload 4) ∧ 4 = 4 ∧ 57 = 55 + 2 := by decide +kernel
theorem c265_57 : mj_Y.code kY 265 57 = some .i2l ∧ 58 = 57 + 1 := by decide +kernel
theorem c265_58 : mj_Y.code kY 265 58 = some .ldiv ∧ 59 = 58 + 1 := by decide +kernel
theorem c265_59 : mj_Y.code kY 265 59 = some (.lstore_n 2) ∧ ((2 : Fin 4) : Nat) = 2 ∧ 2 + 1 < mj_Y.nL kY 265 ∧ 60 = 59 + 1 := by decide +kernel
theorem c265_60 : mj_Y.code kY 265 60 = some (.iinc 5 1) ∧ 5 < mj_Y.nL kY 265 ∧ Int32.ofInt 1 = 1 ∧ 63 = 60 + 3 := by decide +kernel
theorem c265_63 : mj_Y.code kY 265 63 = some (.goto (-55)) ∧ mj_tg 63 (-55) = some 8 := by decide +kernel
theorem c265_66 : mj_Y.code kY 265 66 = some (.lload_n 2) ∧ ((2 : Fin 4) : Nat) = 2 ∧ 67 = 66 + 1 := by decide +kernel
theorem c265_67 : mj_Y.code kY 265 67 = some .lreturn ∧ mj_Y.rt kY 265 = some .long := by decide +kernel
theorem c266_0 : mj_Y.code kY 266 0 = some (.aload_n 0) ∧ ((0 : Fin 4) : Nat) = 0 ∧ 1 = 0 + 1 := by decide +kernel
theorem c266_1 : mj_Y.code kY 266 1 = some (.getfield 353) ∧ mj_Y.fl kY 266 353 12 = some (56, .int, true) ∧ 4 = 1 + 3 := by decide +kernel
theorem c266_4 : mj_Y.code kY 266 4 = some (.ifCond .ne 10) ∧ mj_tg 4 10 = some 14 ∧ 7 = 4 + 3 := by decide +kernel
theorem c266_7 : mj_Y.code kY 266 7 = some (.aload_n 0) ∧ ((0 : Fin 4) : Nat) = 0 ∧ 8 = 7 + 1 := by decide +kernel
theorem c266_8 : mj_Y.code kY 266 8 = some (.getfield 21) ∧ mj_Y.fl kY 266 21 12 = some (5, (.array .int), false) ∧ 11 = 8 + 3 := by decide +kernel
theorem c266_11 : mj_Y.code kY 266 11 = some (.iload_n 1) ∧ ((1 : Fin 4) : Nat) = 1 ∧ 12 = 11 + 1 := by decide +kernel
theorem c266_12 : mj_Y.code kY 266 12 = some .iaload ∧ 13 = 12 + 1 := by decide +kernel
theorem c266_13 : mj_Y.code kY 266 13 = some .ireturn ∧ mj_Y.rt kY 266 = some .int := by decide +kernel
theorem c266_14 : mj_Y.code kY 266 14 = some (.bipush 24) ∧ (Int8.ofInt 24).toInt32 = 24 ∧ 16 = 14 + 2 := by decide +kernel
theorem c266_16 : mj_Y.code kY 266 16 = some (.iload_n 1) ∧ ((1 : Fin 4) : Nat) = 1 ∧ 17 = 16 + 1 := by decide +kernel
theorem c266_17 : mj_Y.code kY 266 17 = some .imul ∧ 18 = 17 + 1 := by decide +kernel
theorem c266_18 : mj_Y.code kY 266 18 = some (.aload_n 0) ∧ ((0 : Fin 4) : Nat) = 0 ∧ 19 = 18 + 1 := by decide +kernel
theorem c266_19 : mj_Y.code kY 266 19 = some (.getfield 118) ∧ mj_Y.fl kY 266 118 12 = some (53, (.array .int), false) ∧ 22 = 19 + 3 := by decide +kernel
theorem c266_22 : mj_Y.code kY 266 22 = some (.aload_n 0) ∧ ((0 : Fin 4) : Nat) = 0 ∧ 23 = 22 + 1 := by decide +kernel
theorem c266_23 : mj_Y.code kY 266 23 = some (.getfield 353) ∧ mj_Y.fl kY 266 353 12 = some (56, .int, true) ∧ 26 = 23 + 3 := by decide +kernel
theorem c266_26 : mj_Y.code kY 266 26 = some (.iconst 1) ∧ Int32.ofInt 1 = 1 ∧ 27 = 26 + 1 := by decide +kernel
theorem c266_27 : mj_Y.code kY 266 27 = some .isub ∧ 28 = 27 + 1 := by decide +kernel
theorem c266_28 : mj_Y.code kY 266 28 = some .iaload ∧ 29 = 28 + 1 := by decide +kernel
theorem c266_29 : mj_Y.code kY 266 29 = some .iadd ∧ 30 = 29 + 1 := by decide +kernel
theorem c266_30 : mj_Y.code kY 266 30 = some (.istore_n 2) ∧ ((2 : Fin 4) : Nat) = 2 ∧ 2 < mj_Y.nL kY 266 ∧ 31 = 30 + 1 := by decide +kernel
theorem c266_31 : mj_Y.code kY 266 31 = some (.aload_n 0) ∧ ((0 : Fin 4) : Nat) = 0 ∧ 32 = 31 + 1 := by decide +kernel
theorem c266_32 : mj_Y.code kY 266 32 = some (.getfield 24) ∧ mj_Y.fl kY 266 24 12 = some (6, (.array .int), false) ∧ 35 = 32 + 3 := by decide +kernel
theorem c266_35 : mj_Y.code kY 266 35 = some (.iload_n 2) ∧ ((2 : Fin 4) : Nat) = 2 ∧ 36 = 35 + 1 := by decide +kernel
theorem c266_36 : mj_Y.code kY 266 36 = some .iaload ∧ 37 = 36 + 1 := by decide +kernel
theorem c266_37 : mj_Y.code kY 266 37 = some (.iconst 2) ∧ Int32.ofInt 2 = 2 ∧ 38 = 37 + 1 := by decide +kernel
theorem c266_38 : mj_Y.code kY 266 38 = some (.if_icmp .ne 27) ∧ mj_tg 38 27 = some 65 ∧ 41 = 38 + 3 := by decide +kernel
theorem c266_41 : mj_Y.code kY 266 41 = some (.aload_n 0) ∧ ((0 : Fin 4) : Nat) = 0 ∧ 42 = 41 + 1 := by decide +kernel
theorem c266_42 : mj_Y.code kY 266 42 = some (.getfield 124) ∧ mj_Y.fl kY 266 124 12 = some (55, (.array .int), false) ∧ 45 = 42 + 3 := by decide +kernel
theorem c266_45 : mj_Y.code kY 266 45 = some (.aload_n 0) ∧ ((0 : Fin 4) : Nat) = 0 ∧ 46 = 45 + 1 := by decide +kernel
theorem c266_46 : mj_Y.code kY 266 46 = some (.getfield 353) ∧ mj_Y.fl kY 266 353 12 = some (56, .int, true) ∧ 49 = 46 + 3 := by decide +kernel
theorem c266_49 : mj_Y.code kY 266 49 = some (.iconst 1) ∧ Int32.ofInt 1 = 1 ∧ 50 = 49 + 1 := by decide +kernel
theorem c266_50 : mj_Y.code kY 266 50 = some .isub ∧ 51 = 50 + 1 := by decide +kernel
theorem c266_51 : mj_Y.code kY 266 51 = some .iaload ∧ 52 = 51 + 1 := by decide +kernel
theorem c266_52 : mj_Y.code kY 266 52 = some (.iconst 1) ∧ Int32.ofInt 1 = 1 ∧ 53 = 52 + 1 := by decide +kernel
theorem c266_53 : mj_Y.code kY 266 53 = some (.if_icmp .ne 12) ∧ mj_tg 53 12 = some 65 ∧ 56 = 53 + 3 := by decide +kernel
theorem c266_56 : mj_Y.code kY 266 56 = some (.aload_n 0) ∧ ((0 : Fin 4) : Nat) = 0 ∧ 57 = 56 + 1 := by decide +kernel
theorem c266_57 : mj_Y.code kY 266 57 = some (.getfield 36) ∧ mj_Y.fl kY 266 36 12 = some (10, (.array .int), false) ∧ 60 = 57 + 3 := by decide +kernel
theorem c266_60 : mj_Y.code kY 266 60 = some (.iload_n 2) ∧ ((2 : Fin 4) : Nat) = 2 ∧ 61 = 60 + 1 := by decide +kernel
theorem c266_61 : mj_Y.code kY 266 61 = some .iaload ∧ 62 = 61 + 1 := by decide +kernel
theorem c266_62 : mj_Y.code kY 266 62 = some (.goto 9) ∧ mj_tg 62 9 = some 71 := by decide +kernel
theorem c266_65 : mj_Y.code kY 266 65 = some (.aload_n 0) ∧ ((0 : Fin 4) : Nat) = 0 ∧ 66 = 65 + 1 := by decide +kernel
theorem c266_66 : mj_Y.code kY 266 66 = some (.getfield 39) ∧ mj_Y.fl kY 266 39 12 = some (11, (.array .int), false) ∧ 69 = 66 + 3 := by decide +kernel
theorem c266_69 : mj_Y.code kY 266 69 = some (.iload_n 2) ∧ ((2 : Fin 4) : Nat) = 2 ∧ 70 = 69 + 1 := by decide +kernel
theorem c266_70 : mj_Y.code kY 266 70 = some .iaload ∧ 71 = 70 + 1 := by decide +kernel
theorem c266_71 : mj_Y.code kY 266 71 = some .ireturn ∧ mj_Y.rt kY 266 = some .int := by decide +kernel
theorem c267_0 : mj_Y.code kY 267 0 = some (.aload_n 0) ∧ ((0 : Fin 4) : Nat) = 0 ∧ 1 = 0 + 1 := by decide +kernel
theorem c267_1 : mj_Y.code kY 267 1 = some (.getfield 353) ∧ mj_Y.fl kY 267 353 12 = some (56, .int, true) ∧ 4 = 1 + 3 := by decide +kernel
theorem c267_4 : mj_Y.code kY 267 4 = some (.iconst 1) ∧ Int32.ofInt 1 = 1 ∧ 5 = 4 + 1 := by decide +kernel
theorem c267_5 : mj_Y.code kY 267 5 = some .isub ∧ 6 = 5 + 1 := by decide +kernel
theorem c267_6 : mj_Y.code kY 267 6 = some (.istore_n 3) ∧ ((3 : Fin 4) : Nat) = 3 ∧ 3 < mj_Y.nL kY 267 ∧ 7 = 6 + 1 := by decide +kernel
theorem c267_7 : mj_Y.code kY 267 7 = some (.aload_n 0) ∧ ((0 : Fin 4) : Nat) = 0 ∧ 8 = 7 + 1 := by decide +kernel
theorem c267_8 : mj_Y.code kY 267 8 = some (.getfield 118) ∧ mj_Y.fl kY 267 118 12 = some (53, (.array .int), false) ∧ 11 = 8 + 3 := by decide +kernel
theorem c267_11 : mj_Y.code kY 267 11 = some (.iload_n 3) ∧ ((3 : Fin 4) : Nat) = 3 ∧ 12 = 11 + 1 := by decide +kernel
theorem c267_12 : mj_Y.code kY 267 12 = some .iaload ∧ 13 = 12 + 1 := by decide +kernel
theorem c267_13 : mj_Y.code kY 267 13 = some (.istore 4) ∧ 4 = 4 ∧ 4 < mj_Y.nL kY 267 ∧ 15 = 13 + 2 := by decide +kernel
theorem c267_15 : mj_Y.code kY 267 15 = some (.bipush 24) ∧ (Int8.ofInt 24).toInt32 = 24 ∧ 17 = 15 + 2 := by decide +kernel
theorem c267_17 : mj_Y.code kY 267 17 = some (.iload_n 1) ∧ ((1 : Fin 4) : Nat) = 1 ∧ 18 = 17 + 1 := by decide +kernel
theorem c267_18 : mj_Y.code kY 267 18 = some .imul ∧ 19 = 18 + 1 := by decide +kernel
theorem c267_19 : mj_Y.code kY 267 19 = some (.iload 4) ∧ 4 = 4 ∧ 21 = 19 + 2 := by decide +kernel
theorem c267_21 : mj_Y.code kY 267 21 = some .iadd ∧ 22 = 21 + 1 := by decide +kernel
theorem c267_22 : mj_Y.code kY 267 22 = some (.istore 5) ∧ 5 = 5 ∧ 5 < mj_Y.nL kY 267 ∧ 24 = 22 + 2 := by decide +kernel
theorem c267_24 : mj_Y.code kY 267 24 = some (.aload_n 0) ∧ ((0 : Fin 4) : Nat) = 0 ∧ 25 = 24 + 1 := by decide +kernel
theorem c267_25 : mj_Y.code kY 267 25 = some (.getfield 124) ∧ mj_Y.fl kY 267 124 12 = some (55, (.array .int), false) ∧ 28 = 25 + 3 := by decide +kernel
theorem c267_28 : mj_Y.code kY 267 28 = some (.iload_n 3) ∧ ((3 : Fin 4) : Nat) = 3 ∧ 29 = 28 + 1 := by decide +kernel
theorem c267_29 : mj_Y.code kY 267 29 = some .dup2 ∧ 30 = 29 + 1 := by decide +kernel
theorem c267_30 : mj_Y.code kY 267 30 = some .iaload ∧ 31 = 30 + 1 := by decide +kernel
theorem c267_31 : mj_Y.code kY 267 31 = some (.iconst 1) ∧ Int32.ofInt 1 = 1 ∧ 32 = 31 + 1 := by decide +kernel
theorem c267_32 : mj_Y.code kY 267 32 = some .isub ∧ 33 = 32 + 1 := by decide +kernel
theorem c267_33 : mj_Y.code kY 267 33 = some .iastore ∧ 34 = 33 + 1 := by decide +kernel
theorem c267_34 : mj_Y.code kY 267 34 = some (.aload_n 0) ∧ ((0 : Fin 4) : Nat) = 0 ∧ 35 = 34 + 1 := by decide +kernel
theorem c267_35 : mj_Y.code kY 267 35 = some (.getfield 24) ∧ mj_Y.fl kY 267 24 12 = some (6, (.array .int), false) ∧ 38 = 35 + 3 := by decide +kernel
theorem c267_38 : mj_Y.code kY 267 38 = some (.iload 5) ∧ 5 = 5 ∧ 40 = 38 + 2 := by decide +kernel
theorem c267_40 : mj_Y.code kY 267 40 = some .iaload ∧ 41 = 40 + 1 := by decide +kernel
theorem c267_41 : mj_Y.code kY 267 41 = some (.iconst 3) ∧ Int32.ofInt 3 = 3 ∧ 42 = 41 + 1 := by decide +kernel
theorem c267_42 : mj_Y.code kY 267 42 = some (.if_icmp .ne 42) ∧ mj_tg 42 42 = some 84 ∧ 45 = 42 + 3 := by decide +kernel
theorem c267_45 : mj_Y.code kY 267 45 = some (.aload_n 0) ∧ ((0 : Fin 4) : Nat) = 0 ∧ 46 = 45 + 1 := by decide +kernel
theorem c267_46 : mj_Y.code kY 267 46 = some (.aload_n 0) ∧ ((0 : Fin 4) : Nat) = 0 ∧ 47 = 46 + 1 := by decide +kernel
theorem c267_47 : mj_Y.code kY 267 47 = some (.getfield 124) ∧ mj_Y.fl kY 267 124 12 = some (55, (.array .int), false) ∧ 50 = 47 + 3 := by decide +kernel
theorem c267_50 : mj_Y.code kY 267 50 = some (.iload_n 3) ∧ ((3 : Fin 4) : Nat) = 3 ∧ 51 = 50 + 1 := by decide +kernel
theorem c267_51 : mj_Y.code kY 267 51 = some .iaload ∧ 52 = 51 + 1 := by decide +kernel
theorem c267_52 : mj_Y.code kY 267 52 = some (.ifCond .ne 7) ∧ mj_tg 52 7 = some 59 ∧ 55 = 52 + 3 := by decide +kernel
theorem c267_55 : mj_Y.code kY 267 55 = some (.iload_n 3) ∧ ((3 : Fin 4) : Nat) = 3 ∧ 56 = 55 + 1 := by decide +kernel
theorem c267_56 : mj_Y.code kY 267 56 = some (.goto 7) ∧ mj_tg 56 7 = some 63 := by decide +kernel
theorem c267_59 : mj_Y.code kY 267 59 = some (.aload_n 0) ∧ ((0 : Fin 4) : Nat) = 0 ∧ 60 = 59 + 1 := by decide +kernel
theorem c267_60 : mj_Y.code kY 267 60 = some (.getfield 353) ∧ mj_Y.fl kY 267 353 12 = some (56, .int, true) ∧ 63 = 60 + 3 := by decide +kernel
theorem c267_63 : mj_Y.code kY 267 63 = some (.putfield 353) ∧ mj_Y.fl kY 267 353 12 = some (56, .int, true) ∧ 66 = 63 + 3 := by decide +kernel
theorem c267_66 : mj_Y.code kY 267 66 = some (.aload_n 0) ∧ ((0 : Fin 4) : Nat) = 0 ∧ 67 = 66 + 1 := by decide +kernel
theorem c267_67 : mj_Y.code kY 267 67 = some (.getfield 124) ∧ mj_Y.fl kY 267 124 12 = some (55, (.array .int), false) ∧ 70 = 67 + 3 := by decide +kernel
theorem c267_70 : mj_Y.code kY 267 70 = some (.iload_n 3) ∧ ((3 : Fin 4) : Nat) = 3 ∧ 71 = 70 + 1 := by decide +kernel
theorem c267_71 : mj_Y.code kY 267 71 = some .iaload ∧ 72 = 71 + 1 := by decide +kernel
theorem c267_72 : mj_Y.code kY 267 72 = some (.ifCond .ne 7) ∧ mj_tg 72 7 = some 79 ∧ 75 = 72 + 3 := by decide +kernel
theorem c267_75 : mj_Y.code kY 267 75 = some (.iload_n 2) ∧ ((2 : Fin 4) : Nat) = 2 ∧ 76 = 75 + 1 := by decide +kernel
theorem c267_76 : mj_Y.code kY 267 76 = some (.goto 7) ∧ mj_tg 76 7 = some 83 := by decide +kernel
theorem c267_79 : mj_Y.code kY 267 79 = some (.iload 4) ∧ 4 = 4 ∧ 81 = 79 + 2 := by decide +kernel
theorem c267_81 : mj_Y.code kY 267 81 = some (.iconst 1) ∧ Int32.ofInt 1 = 1 ∧ 82 = 81 + 1 := by decide +kernel
theorem c267_82 : mj_Y.code kY 267 82 = some .iadd ∧ 83 = 82 + 1 := by decide +kernel
theorem c267_83 : mj_Y.code kY 267 83 = some .ireturn ∧ mj_Y.rt kY 267 = some .int := by decide +kernel
theorem c267_84 : mj_Y.code kY 267 84 = some (.aload_n 0) ∧ ((0 : Fin 4) : Nat) = 0 ∧ 85 = 84 + 1 := by decide +kernel
theorem c267_85 : mj_Y.code kY 267 85 = some (.getfield 124) ∧ mj_Y.fl kY 267 124 12 = some (55, (.array .int), false) ∧ 88 = 85 + 3 := by decide +kernel
theorem c267_88 : mj_Y.code kY 267 88 = some (.iload_n 3) ∧ ((3 : Fin 4) : Nat) = 3 ∧ 89 = 88 + 1 := by decide +kernel
theorem c267_89 : mj_Y.code kY 267 89 = some .iaload ∧ 90 = 89 + 1 := by decide +kernel
theorem c267_90 : mj_Y.code kY 267 90 = some (.ifCond .ne 23) ∧ mj_tg 90 23 = some 113 ∧ 93 = 90 + 3 := by decide +kernel
theorem c267_93 : mj_Y.code kY 267 93 = some (.aload_n 0) ∧ ((0 : Fin 4) : Nat) = 0 ∧ 94 = 93 + 1 := by decide +kernel
theorem c267_94 : mj_Y.code kY 267 94 = some (.aload_n 0) ∧ ((0 : Fin 4) : Nat) = 0 ∧ 95 = 94 + 1 := by decide +kernel
theorem c267_95 : mj_Y.code kY 267 95 = some (.getfield 121) ∧ mj_Y.fl kY 267 121 12 = some (54, (.array .int), false) ∧ 98 = 95 + 3 := by decide +kernel
theorem c267_98 : mj_Y.code kY 267 98 = some (.iload_n 3) ∧ ((3 : Fin 4) : Nat) = 3 ∧ 99 = 98 + 1 := by decide +kernel
theorem c267_99 : mj_Y.code kY 267 99 = some .iaload ∧ 100 = 99 + 1 := by decide +kernel
theorem c267_100 : mj_Y.code kY 267 100 = some (.iconst 2) ∧ Int32.ofInt 2 = 2 ∧ 101 = 100 + 1 := by decide +kernel
theorem c267_101 : mj_Y.code kY 267 101 = some .iadd ∧ 102 = 101 + 1 := by decide +kernel
theorem c267_102 : mj_Y.code kY 267 102 = some (.aload_n 0) ∧ ((0 : Fin 4) : Nat) = 0 ∧ 103 = 102 + 1 := by decide +kernel
theorem c267_103 : mj_Y.code kY 267 103 = some (.getfield 121) ∧ mj_Y.fl kY 267 121 12 = some (54, (.array .int), false) ∧ 106 = 103 + 3 := by decide +kernel
theorem c267_106 : mj_Y.code kY 267 106 = some (.iload_n 3) ∧ ((3 : Fin 4) : Nat) = 3 ∧ 107 = 106 + 1 := by decide +kernel
theorem c267_107 : mj_Y.code kY 267 107 = some .iaload ∧ 108 = 107 + 1 := by decide +kernel
theorem c267_108 : mj_Y.code kY 267 108 = some (.invokevirtual 416) ∧ mj_Y.na kY 267 416 = some 2 ∧ mj_Y.cv kY 267 416 12 = some 268 ∧ mj_Y.nL kY 268 = 3 ∧ 111 = 108 + 3 := by decide +kernel
theorem c267_111 : mj_Y.code kY 267 111 = some (.iload_n 2) ∧ ((2 : Fin 4) : Nat) = 2 ∧ 112 = 111 + 1 := by decide +kernel
theorem c267_112 : mj_Y.code kY 267 112 = some .ireturn ∧ mj_Y.rt kY 267 = some .int := by decide +kernel
theorem c267_113 : mj_Y.code kY 267 113 = some (.aload_n 0) ∧ ((0 : Fin 4) : Nat) = 0 ∧ 114 = 113 + 1 := by decide +kernel
theorem c267_114 : mj_Y.code kY 267 114 = some (.iload_n 3) ∧ ((3 : Fin 4) : Nat) = 3 ∧ 115 = 114 + 1 := by decide +kernel
theorem c267_115 : mj_Y.code kY 267 115 = some (.putfield 353) ∧ mj_Y.fl kY 267 353 12 = some (56, .int, true) ∧ 118 = 115 + 3 := by decide +kernel
theorem c267_118 : mj_Y.code kY 267 118 = some (.aload_n 0) ∧ ((0 : Fin 4) : Nat) = 0 ∧ 119 = 118 + 1 := by decide +kernel
theorem c267_119 : mj_Y.code kY 267 119 = some (.iload_n 1) ∧ ((1 : Fin 4) : Nat) = 1 ∧ 120 = 119 + 1 := by decide +kernel
theorem c267_120 : mj_Y.code kY 267 120 = some (.iload 4) ∧ 4 = 4 ∧ 122 = 120 + 2 := by decide +kernel
theorem c267_122 : mj_Y.code kY 267 122 = some (.aload_n 0) ∧ ((0 : Fin 4) : Nat) = 0 ∧ 123 = 122 + 1 := by decide +kernel
theorem c267_123 : mj_Y.code kY 267 123 = some (.getfield 121) ∧ mj_Y.fl kY 267 121 12 = some (54, (.array .int), false) ∧ 126 = 123 + 3 := by decide +kernel
theorem c267_126 : mj_Y.code kY 267 126 = some (.iload_n 3) ∧ ((3 : Fin 4) : Nat) = 3 ∧ 127 = 126 + 1 := by decide +kernel
theorem c267_127 : mj_Y.code kY 267 127 = some .iaload ∧ 128 = 127 + 1 := by decide +kernel
theorem c267_128 : mj_Y.code kY 267 128 = some (.invokevirtual 428) ∧ mj_Y.na kY 267 428 = some 3 ∧ mj_Y.cv kY 267 428 12 = some 272 ∧ mj_Y.nL kY 272 = 11 ∧ 131 = 128 + 3 := by decide +kernel
theorem c267_131 : mj_Y.code kY 267 131 = some (.ifCond .eq 7) ∧ mj_tg 131 7 = some 138 ∧ 134 = 131 + 3 := by decide +kernel
theorem c267_134 : mj_Y.code kY 267 134 = some (.iload_n 2) ∧ ((2 : Fin 4) : Nat) = 2 ∧ 135 = 134 + 1 := by decide +kernel
theorem c267_135 : mj_Y.code kY 267 135 = some (.goto 4) ∧ mj_tg 135 4 = some 139 := by decide +kernel
theorem c267_138 : mj_Y.code kY 267 138 = some (.iconst (-1)) ∧ Int32.ofInt (-1) = (-1) ∧ 139 = 138 + 1 := by decide +kernel
theorem c267_139 : mj_Y.code kY 267 139 = some .ireturn ∧ mj_Y.rt kY 267 = some .int := by decide +kernel
theorem c268_0 : mj_Y.code kY 268 0 = some (.aload_n 0) ∧ ((0 : Fin 4) : Nat) = 0 ∧ 1 = 0 + 1 := by decide +kernel
theorem c268_1 : mj_Y.code kY 268 1 = some (.getfield 115) ∧ mj_Y.fl kY 268 115 12 = some (49, (.array .int), false) ∧ 4 = 1 + 3 := by decide +kernel
theorem c268_4 : mj_Y.code kY 268 4 = some (.iload_n 1) ∧ ((1 : Fin 4) : Nat) = 1 ∧ 5 = 4 + 1 := by decide +kernel
theorem c268_5 : mj_Y.code kY 268 5 = some (.iconst 0) ∧ Int32.ofInt 0 = 0 ∧ 6 = 5 + 1 := by decide +kernel
theorem c268_6 : mj_Y.code kY 268 6 = some .iastore ∧ 7 = 6 + 1 := by decide +kernel
theorem c268_7 : mj_Y.code kY 268 7 = some (.aload_n 0) ∧ ((0 : Fin 4) : Nat) = 0 ∧ 8 = 7 + 1 := by decide +kernel
theorem c268_8 : mj_Y.code kY 268 8 = some (.iload_n 1) ∧ ((1 : Fin 4) : Nat) = 1 ∧ 9 = 8 + 1 := by decide +kernel
theorem c268_9 : mj_Y.code kY 268 9 = some (.iload_n 2) ∧ ((2 : Fin 4) : Nat) = 2 ∧ 10 = 9 + 1 := by decide +kernel
theorem c268_10 : mj_Y.code kY 268 10 = some (.lconst 1) ∧ Int64.ofNat ((1 : Fin 2) : Nat) = 1 ∧ 11 = 10 + 1 := by decide +kernel
theorem c268_11 : mj_Y.code kY 268 11 = some (.invokevirtual 409) ∧ mj_Y.na kY 268 409 = some 3 ∧ mj_Y.cv kY 268 409 12 = some 269 ∧ mj_Y.nL kY 269 = 6 ∧ 14 = 11 + 3 := by decide +kernel
theorem c268_14 : mj_Y.code kY 268 14 = some .return_ ∧ mj_Y.rt kY 268 = none := by decide +kernel
theorem c269_0 : mj_Y.code kY 269 0 = some (.iconst 0) ∧ Int32.ofInt 0 = 0 ∧ 1 = 0 + 1 := by decide +kernel
theorem c269_1 : mj_Y.code kY 269 1 = some (.istore 5) ∧ 5 = 5 ∧ 5 < mj_Y.nL kY 269 ∧ 3 = 1 + 2 := by decide +kernel
theorem c269_3 : mj_Y.code kY 269 3 = some (.iload 5) ∧ 5 = 5 ∧ 5 = 3 + 2 := by decide +kernel
theorem c269_5 : mj_Y.code kY 269 5 = some (.aload_n 0) ∧ ((0 : Fin 4) : Nat) = 0 ∧ 6 = 5 + 1 := by decide +kernel
theorem c269_6 : mj_Y.code kY 269 6 = some (.getfield 115) ∧ mj_Y.fl kY 269 115 12 = some (49, (.array .int), false) ∧ 9 = 6 + 3 := by decide +kernel
theorem c269_9 : mj_Y.code kY 269 9 = some (.iload_n 2) ∧ ((2 : Fin 4) : Nat) = 2 ∧ 10 = 9 + 1 := by decide +kernel
theorem c269_10 : mj_Y.code kY 269 10 = some .iaload ∧ 11 = 10 + 1 := by decide +kernel
theorem c269_11 : mj_Y.code kY 269 11 = some (.if_icmp .ge 33) ∧ mj_tg 11 33 = some 44 ∧ 14 = 11 + 3 := by decide +kernel
theorem c269_14 : mj_Y.code kY 269 14 = some (.aload_n 0) ∧ ((0 : Fin 4) : Nat) = 0 ∧ 15 = 14 + 1 := by decide +kernel
theorem c269_15 : mj_Y.code kY 269 15 = some (.iload_n 1) ∧ ((1 : Fin 4) : Nat) = 1 ∧ 16 = 15 + 1 := by decide +kernel
theorem c269_16 : mj_Y.code kY 269 16 = some (.iload_n 2) ∧ ((2 : Fin 4) : Nat) = 2 ∧ 17 = 16 + 1 := by decide +kernel
theorem c269_17 : mj_Y.code kY 269 17 = some (.iload 5) ∧ 5 = 5 ∧ 19 = 17 + 2 := by decide +kernel
theorem c269_19 : mj_Y.code kY 269 19 = some (.iconst (-1)) ∧ Int32.ofInt (-1) = (-1) ∧ 20 = 19 + 1 := by decide +kernel
theorem c269_20 : mj_Y.code kY 269 20 = some (.iconst 0) ∧ Int32.ofInt 0 = 0 ∧ 21 = 20 + 1 := by decide +kernel
theorem c269_21 : mj_Y.code kY 269 21 = some (.aload_n 0) ∧ ((0 : Fin 4) : Nat) = 0 ∧ 22 = 21 + 1 := by decide +kernel
theorem c269_22 : mj_Y.code kY 269 22 = some (.getfield 112) ∧ mj_Y.fl kY 269 112 12 = some (48, (.array .long), false) ∧ 25 = 22 + 3 := by decide +kernel
theorem c269_25 : mj_Y.code kY 269 25 = some (.bipush 64) ∧ (Int8.ofInt 64).toInt32 = 64 ∧ 27 = 25 + 2 := by decide +kernel
theorem c269_27 : mj_Y.code kY 269 27 = some (.iload_n 2) ∧ ((2 : Fin 4) : Nat) = 2 ∧ 28 = 27 + 1 := by decide +kernel
theorem c269_28 : mj_Y.code kY 269 28 = some .imul ∧ 29 = 28 + 1 := by decide +kernel
theorem c269_29 : mj_Y.code kY 269 29 = some (.iload 5) ∧ 5 = 5 ∧ 31 = 29 + 2 := by decide +kernel
theorem c269_31 : mj_Y.code kY 269 31 = some .iadd ∧ 32 = 31 + 1 := by decide +kernel
theorem c269_32 : mj_Y.code kY 269 32 = some .laload ∧ 33 = 32 + 1 := by decide +kernel
theorem c269_33 : mj_Y.code kY 269 33 = some (.lload_n 3) ∧ ((3 : Fin 4) : Nat) = 3 ∧ 34 = 33 + 1 := by decide +kernel
theorem c269_34 : mj_Y.code kY 269 34 = some .lmul ∧ 35 = 34 + 1 := by decide +kernel
theorem c269_35 : mj_Y.code kY 269 35 = some (.invokevirtual 405) ∧ mj_Y.na kY 269 405 = some 6 ∧ mj_Y.cv kY 269 405 12 = some 270 ∧ mj_Y.nL kY 270 = 10 ∧ 38 = 35 + 3 := by decide +kernel
theorem c269_38 : mj_Y.code kY 269 38 = some (.iinc 5 1) ∧ 5 < mj_Y.nL kY 269 ∧ Int32.ofInt 1 = 1 ∧ 41 = 38 + 3 := by decide +kernel
theorem c269_41 : mj_Y.code kY 269 41 = some (.goto (-38)) ∧ mj_tg 41 (-38) = some 3 := by decide +kernel
theorem c269_44 : mj_Y.code kY 269 44 = some .return_ ∧ mj_Y.rt kY 269 = none := by decide +kernel
theorem c270_0 : mj_Y.code kY 270 0 = some (.iconst 0) ∧ Int32.ofInt 0 = 0 ∧ 1 = 0 + 1 := by decide +kernel
theorem c270_1 : mj_Y.code kY 270 1 = some (.istore 8) ∧ 8 = 8 ∧ 8 < mj_Y.nL kY 270 ∧ 3 = 1 + 2 := by decide +kernel
theorem c270_3 : mj_Y.code kY 270 3 = some (.iload 8) ∧ 8 = 8 ∧ 5 = 3 + 2 := by decide +kernel
theorem c270_5 : mj_Y.code kY 270 5 = some (.aload_n 0) ∧ ((0 : Fin 4) : Nat) = 0 ∧ 6 = 5 + 1 := by decide +kernel
theorem c270_6 : mj_Y.code kY 270 6 = some (.getfield 115) ∧ mj_Y.fl kY 270 115 12 = some (49, (.array .int), false) ∧ 9 = 6 + 3 := by decide +kernel
theorem c270_9 : mj_Y.code kY 270 9 = some (.iload_n 1) ∧ ((1 : Fin 4) : Nat) = 1 ∧ 10 = 9 + 1 := by decide +kernel
theorem c270_10 : mj_Y.code kY 270 10 = some .iaload ∧ 11 = 10 + 1 := by decide +kernel
theorem c270_11 : mj_Y.code kY 270 11 = some (.if_icmp .ge 25) ∧ mj_tg 11 25 = some 36 ∧ 14 = 11 + 3 := by decide +kernel
theorem c270_14 : mj_Y.code kY 270 14 = some (.aload_n 0) ∧ ((0 : Fin 4) : Nat) = 0 ∧ 15 = 14 + 1 := by decide +kernel
theorem c270_15 : mj_Y.code kY 270 15 = some (.iload_n 1) ∧ ((1 : Fin 4) : Nat) = 1 ∧ 16 = 15 + 1 := by decide +kernel
theorem c270_16 : mj_Y.code kY 270 16 = some (.iload 8) ∧ 8 = 8 ∧ 18 = 16 + 2 := by decide +kernel
theorem c270_18 : mj_Y.code kY 270 18 = some (.iload_n 2) ∧ ((2 : Fin 4) : Nat) = 2 ∧ 19 = 18 + 1 := by decide +kernel
theorem c270_19 : mj_Y.code kY 270 19 = some (.iload_n 3) ∧ ((3 : Fin 4) : Nat) = 3 ∧ 20 = 19 + 1 := by decide +kernel
theorem c270_20 : mj_Y.code kY 270 20 = some (.iload 4) ∧ 4 = 4 ∧ 22 = 20 + 2 := by decide +kernel
theorem c270_22 : mj_Y.code kY 270 22 = some (.iload 5) ∧ 5 = 5 ∧ 24 = 22 + 2 := by decide +kernel
theorem c270_24 : mj_Y.code kY 270 24 = some (.invokevirtual 398) ∧ mj_Y.na kY 270 398 = some 6 ∧ mj_Y.cv kY 270 398 12 = some 271 ∧ mj_Y.nL kY 271 = 10 ∧ 27 = 24 + 3 := by decide +kernel
theorem c270_27 : mj_Y.code kY 270 27 = some (.ifCond .ne 9) ∧ mj_tg 27 9 = some 36 ∧ 30 = 27 + 3 := by decide +kernel
theorem c270_30 : mj_Y.code kY 270 30 = some (.iinc 8 1) ∧ 8 < mj_Y.nL kY 270 ∧ Int32.ofInt 1 = 1 ∧ 33 = 30 + 3 := by decide +kernel
theorem c270_33 : mj_Y.code kY 270 33 = some (.goto (-30)) ∧ mj_tg 33 (-30) = some 3 := by decide +kernel
theorem c270_36 : mj_Y.code kY 270 36 = some (.iload 8) ∧ 8 = 8 ∧ 38 = 36 + 2 := by decide +kernel
theorem c270_38 : mj_Y.code kY 270 38 = some (.bipush 64) ∧ (Int8.ofInt 64).toInt32 = 64 ∧ 40 = 38 + 2 := by decide +kernel
theorem c270_40 : mj_Y.code kY 270 40 = some (.if_icmp .ne 9) ∧ mj_tg 40 9 = some 49 ∧ 43 = 40 + 3 := by decide +kernel
theorem c270_43 : mj_Y.code kY 270 43 = some (.aload_n 0) ∧ ((0 : Fin 4) : Nat) = 0 ∧ 44 = 43 + 1 := by decide +kernel
theorem c270_44 : mj_Y.code kY 270 44 = some (.iconst 1) ∧ Int32.ofInt 1 = 1 ∧ 45 = 44 + 1 := by decide +kernel
theorem c270_45 : mj_Y.code kY 270 45 = some (.putfield 402) ∧ mj_Y.fl kY 270 402 12 = some (50, .boolean, true) ∧ 48 = 45 + 3 := by decide +kernel
theorem c270_48 : mj_Y.code kY 270 48 = some .return_ ∧ mj_Y.rt kY 270 = none := by decide +kernel
theorem c270_49 : mj_Y.code kY 270 49 = some (.iload 8) ∧ 8 = 8 ∧ 51 = 49 + 2 := by decide +kernel
theorem c270_51 : mj_Y.code kY 270 51 = some (.aload_n 0) ∧ ((0 : Fin 4) : Nat) = 0 ∧ 52 = 51 + 1 := by decide +kernel
theorem c270_52 : mj_Y.code kY 270 52 = some (.getfield 115) ∧ mj_Y.fl kY 270 115 12 = some (49, (.array .int), false) ∧ 55 = 52 + 3 := by decide +kernel
theorem c270_55 : mj_Y.code kY 270 55 = some (.iload_n 1) ∧ ((1 : Fin 4) : Nat) = 1 ∧ 56 = 55 + 1 := by decide +kernel
theorem c270_56 : mj_Y.code kY 270 56 = some .iaload ∧ 57 = 56 + 1 := by decide +kernel
theorem c270_57 : mj_Y.code kY 270 57 = some (.if_icmp .ne 91) ∧ mj_tg 57 91 = some 148 ∧ 60 = 57 + 3 := by decide +kernel
theorem c270_60 : mj_Y.code kY 270 60 = some (.aload_n 0) ∧ ((0 : Fin 4) : Nat) = 0 ∧ 61 = 60 + 1 := by decide +kernel
theorem c270_61 : mj_Y.code kY 270 61 = some (.getfield 115) ∧ mj_Y.fl kY 270 115 12 = some (49, (.array .int), false) ∧ 64 = 61 + 3 := by decide +kernel
theorem c270_64 : mj_Y.code kY 270 64 = some (.iload_n 1) ∧ ((1 : Fin 4) : Nat) = 1 ∧ 65 = 64 + 1 := by decide +kernel
theorem c270_65 : mj_Y.code kY 270 65 = some .dup2 ∧ 66 = 65 + 1 := by decide +kernel
theorem c270_66 : mj_Y.code kY 270 66 = some .iaload ∧ 67 = 66 + 1 := by decide +kernel
theorem c270_67 : mj_Y.code kY 270 67 = some (.iconst 1) ∧ Int32.ofInt 1 = 1 ∧ 68 = 67 + 1 := by decide +kernel
theorem c270_68 : mj_Y.code kY 270 68 = some .iadd ∧ 69 = 68 + 1 := by decide +kernel
theorem c270_69 : mj_Y.code kY 270 69 = some .iastore ∧ 70 = 69 + 1 := by decide +kernel
theorem c270_70 : mj_Y.code kY 270 70 = some (.aload_n 0) ∧ ((0 : Fin 4) : Nat) = 0 ∧ 71 = 70 + 1 := by decide +kernel
theorem c270_71 : mj_Y.code kY 270 71 = some (.getfield 112) ∧ mj_Y.fl kY 270 112 12 = some (48, (.array .long), false) ∧ 74 = 71 + 3 := by decide +kernel
theorem c270_74 : mj_Y.code kY 270 74 = some (.bipush 64) ∧ (Int8.ofInt 64).toInt32 = 64 ∧ 76 = 74 + 2 := by decide +kernel
theorem c270_76 : mj_Y.code kY 270 76 = some (.iload_n 1) ∧ ((1 : Fin 4) : Nat) = 1 ∧ 77 = 76 + 1 := by decide +kernel
theorem c270_77 : mj_Y.code kY 270 77 = some .imul ∧ 78 = 77 + 1 := by decide +kernel
theorem c270_78 : mj_Y.code kY 270 78 = some (.iload 8) ∧ 8 = 8 ∧ 80 = 78 + 2 := by decide +kernel
theorem c270_80 : mj_Y.code kY 270 80 = some .iadd ∧ 81 = 80 + 1 := by decide +kernel
theorem c270_81 : mj_Y.code kY 270 81 = some (.lconst 0) ∧ Int64.ofNat ((0 : Fin 2) : Nat) = 0 ∧ 82 = 81 + 1 := by decide +kernel
theorem c270_82 : mj_Y.code kY 270 82 = some .lastore ∧ 83 = 82 + 1 := by decide +kernel
theorem c270_83 : mj_Y.code kY 270 83 = some (.iconst 0) ∧ Int32.ofInt 0 = 0 ∧ 84 = 83 + 1 := by decide +kernel
theorem c270_84 : mj_Y.code kY 270 84 = some (.istore 9) ∧ 9 = 9 ∧ 9 < mj_Y.nL kY 270 ∧ 86 = 84 + 2 := by decide +kernel
theorem c270_86 : mj_Y.code kY 270 86 = some (.iload 9) ∧ 9 = 9 ∧ 88 = 86 + 2 := by decide +kernel
theorem c270_88 : mj_Y.code kY 270 88 = some (.bipush 6) ∧ (Int8.ofInt 6).toInt32 = 6 ∧ 90 = 88 + 2 := by decide +kernel
theorem c270_90 : mj_Y.code kY 270 90 = some (.if_icmp .ge 58) ∧ mj_tg 90 58 = some 148 ∧ 93 = 90 + 3 := by decide +kernel
theorem c270_93 : mj_Y.code kY 270 93 = some (.aload_n 0) ∧ ((0 : Fin 4) : Nat) = 0 ∧ 94 = 93 + 1 := by decide +kernel
theorem c270_94 : mj_Y.code kY 270 94 = some (.getfield 109) ∧ mj_Y.fl kY 270 109 12 = some (47, (.array .int), false) ∧ 97 = 94 + 3 := by decide +kernel
theorem c270_97 : mj_Y.code kY 270 97 = some (.sipush 384) ∧ (Int16.ofInt 384).toInt32 = 384 ∧ 100 = 97 + 3 := by decide +kernel
theorem c270_100 : mj_Y.code kY 270 100 = some (.iload_n 1) ∧ ((1 : Fin 4) : Nat) = 1 ∧ 101 = 100 + 1 := by decide +kernel
theorem c270_101 : mj_Y.code kY 270 101 = some .imul ∧ 102 = 101 + 1 := by decide +kernel
theorem c270_102 : mj_Y.code kY 270 102 = some (.bipush 6) ∧ (Int8.ofInt 6).toInt32 = 6 ∧ 104 = 102 + 2 := by decide +kernel
theorem c270_104 : mj_Y.code kY 270 104 = some (.iload 8) ∧ 8 = 8 ∧ 106 = 104 + 2 := by decide +kernel
theorem c270_106 : mj_Y.code kY 270 106 = some .imul ∧ 107 = 106 + 1 := by decide +kernel
theorem c270_107 : mj_Y.code kY 270 107 = some .iadd ∧ 108 = 107 + 1 := by decide +kernel
theorem c270_108 : mj_Y.code kY 270 108 = some (.iload 9) ∧ 9 = 9 ∧ 110 = 108 + 2 := by decide +kernel
theorem c270_110 : mj_Y.code kY 270 110 = some .iadd ∧ 111 = 110 + 1 := by decide +kernel
theorem c270_111 : mj_Y.code kY 270 111 = some (.iload 9) ∧ 9 = 9 ∧ 113 = 111 + 2 := by decide +kernel
theorem c270_113 : mj_Y.code kY 270 113 = some (.iload 4) ∧ 4 = 4 ∧ 115 = 113 + 2 := by decide +kernel
theorem c270_115 : mj_Y.code kY 270 115 = some (.if_icmp .ne 8) ∧ mj_tg 115 8 = some 123 ∧ 118 = 115 + 3 := by decide +kernel
theorem c270_118 : mj_Y.code kY 270 118 = some (.iload 5) ∧ 5 = 5 ∧ 120 = 118 + 2 := by decide +kernel
theorem c270_120 : mj_Y.code kY 270 120 = some (.goto 21) ∧ mj_tg 120 21 = some 141 := by decide +kernel
theorem c270_123 : mj_Y.code kY 270 123 = some (.aload_n 0) ∧ ((0 : Fin 4) : Nat) = 0 ∧ 124 = 123 + 1 := by decide +kernel
theorem c270_124 : mj_Y.code kY 270 124 = some (.getfield 109) ∧ mj_Y.fl kY 270 109 12 = some (47, (.array .int), false) ∧ 127 = 124 + 3 := by decide +kernel
theorem c270_127 : mj_Y.code kY 270 127 = some (.sipush 384) ∧ (Int16.ofInt 384).toInt32 = 384 ∧ 130 = 127 + 3 := by decide +kernel
theorem c270_130 : mj_Y.code kY 270 130 = some (.iload_n 2) ∧ ((2 : Fin 4) : Nat) = 2 ∧ 131 = 130 + 1 := by decide +kernel
theorem c270_131 : mj_Y.code kY 270 131 = some .imul ∧ 132 = 131 + 1 := by decide +kernel
theorem c270_132 : mj_Y.code kY 270 132 = some (.bipush 6) ∧ (Int8.ofInt 6).toInt32 = 6 ∧ 134 = 132 + 2 := by decide +kernel
theorem c270_134 : mj_Y.code kY 270 134 = some (.iload_n 3) ∧ ((3 : Fin 4) : Nat) = 3 ∧ 135 = 134 + 1 := by decide +kernel
theorem c270_135 : mj_Y.code kY 270 135 = some .imul ∧ 136 = 135 + 1 := by decide +kernel
theorem c270_136 : mj_Y.code kY 270 136 = some .iadd ∧ 137 = 136 + 1 := by decide +kernel
theorem c270_137 : mj_Y.code kY 270 137 = some (.iload 9) ∧ 9 = 9 ∧ 139 = 137 + 2 := by decide +kernel
theorem c270_139 : mj_Y.code kY 270 139 = some .iadd ∧ 140 = 139 + 1 := by decide +kernel
theorem c270_140 : mj_Y.code kY 270 140 = some .iaload ∧ 141 = 140 + 1 := by decide +kernel
theorem c270_141 : mj_Y.code kY 270 141 = some .iastore ∧ 142 = 141 + 1 := by decide +kernel
theorem c270_142 : mj_Y.code kY 270 142 = some (.iinc 9 1) ∧ 9 < mj_Y.nL kY 270 ∧ Int32.ofInt 1 = 1 ∧ 145 = 142 + 3 := by decide +kernel
theorem c270_145 : mj_Y.code kY 270 145 = some (.goto (-59)) ∧ mj_tg 145 (-59) = some 86 := by decide +kernel
theorem c270_148 : mj_Y.code kY 270 148 = some (.aload_n 0) ∧ ((0 : Fin 4) : Nat) = 0 ∧ 149 = 148 + 1 := by decide +kernel
theorem c270_149 : mj_Y.code kY 270 149 = some (.getfield 112) ∧ mj_Y.fl kY 270 112 12 = some (48, (.array .long), false) ∧ 152 = 149 + 3 := by decide +kernel
theorem c270_152 : mj_Y.code kY 270 152 = some (.bipush 64) ∧ (Int8.ofInt 64).toInt32 = 64 ∧ 154 = 152 + 2 := by decide +kernel
theorem c270_154 : mj_Y.code kY 270 154 = some (.iload_n 1) ∧ ((1 : Fin 4) : Nat) = 1 ∧ 155 = 154 + 1 := by decide +kernel
theorem c270_155 : mj_Y.code kY 270 155 = some .imul ∧ 156 = 155 + 1 := by decide +kernel
theorem c270_156 : mj_Y.code kY 270 156 = some (.iload 8) ∧ 8 = 8 ∧ 158 = 156 + 2 := by decide +kernel
theorem c270_158 : mj_Y.code kY 270 158 = some .iadd ∧ 159 = 158 + 1 := by decide +kernel
theorem c270_159 : mj_Y.code kY 270 159 = some (.aload_n 0) ∧ ((0 : Fin 4) : Nat) = 0 ∧ 160 = 159 + 1 := by decide +kernel
theorem c270_160 : mj_Y.code kY 270 160 = some (.getfield 112) ∧ mj_Y.fl kY 270 112 12 = some (48, (.array .long), false) ∧ 163 = 160 + 3 := by decide +kernel
theorem c270_163 : mj_Y.code kY 270 163 = some (.bipush 64) ∧ (Int8.ofInt 64).toInt32 = 64 ∧ 165 = 163 + 2 := by decide +kernel
theorem c270_165 : mj_Y.code kY 270 165 = some (.iload_n 1) ∧ ((1 : Fin 4) : Nat) = 1 ∧ 166 = 165 + 1 := by decide +kernel
theorem c270_166 : mj_Y.code kY 270 166 = some .imul ∧ 167 = 166 + 1 := by decide +kernel
theorem c270_167 : mj_Y.code kY 270 167 = some (.iload 8) ∧ 8 = 8 ∧ 169 = 167 + 2 := by decide +kernel
theorem c270_169 : mj_Y.code kY 270 169 = some .iadd ∧ 170 = 169 + 1 := by decide +kernel
theorem c270_170 : mj_Y.code kY 270 170 = some .laload ∧ 171 = 170 + 1 := by decide +kernel
theorem c270_171 : mj_Y.code kY 270 171 = some (.lload 6) ∧ 6 = 6 ∧ 173 = 171 + 2 := by decide +kernel
theorem c270_173 : mj_Y.code kY 270 173 = some .ladd ∧ 174 = 173 + 1 := by decide +kernel
theorem c270_174 : mj_Y.code kY 270 174 = some .lastore ∧ 175 = 174 + 1 := by decide +kernel
theorem c270_175 : mj_Y.code kY 270 175 = some .return_ ∧ mj_Y.rt kY 270 = none := by decide +kernel
