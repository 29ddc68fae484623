theorem c198_0 : mj_Y.code kY 198 0 = some (.aload_n 0) ∧ ((0 : Fin 4) : Nat) = 0 ∧ 1 = 0 + 1 := by decide +kernel
theorem c198_1 : mj_Y.code kY 198 1 = some (.iload_n 1) ∧ ((1 : Fin 4) : Nat) = 1 ∧ 2 = 1 + 1 := by decide +kernel
theorem c198_2 : mj_Y.code kY 198 2 = some (.invokevirtual 116) ∧ mj_Y.na kY 198 116 = some 1 ∧ mj_Y.cv kY 198 116 5 = some 181 ∧ mj_Y.nL kY 181 = 3 ∧ 5 = 2 + 3 := by decide +kernel
theorem c198_5 : mj_Y.code kY 198 5 = some (.astore 4) ∧ 4 = 4 ∧ 4 < mj_Y.nL kY 198 ∧ 7 = 5 + 2 := by decide +kernel
theorem c198_7 : mj_Y.code kY 198 7 = some (.lload_n 2) ∧ ((2 : Fin 4) : Nat) = 2 ∧ 8 = 7 + 1 := by decide +kernel
theorem c198_8 : mj_Y.code kY 198 8 = some (.lconst 0) ∧ Int64.ofNat ((0 : Fin 2) : Nat) = 0 ∧ 9 = 8 + 1 := by decide +kernel
theorem c198_9 : mj_Y.code kY 198 9 = some .lcmp ∧ 10 = 9 + 1 := by decide +kernel
theorem c198_10 : mj_Y.code kY 198 10 = some (.ifCond .lt 13) ∧ mj_tg 10 13 = some 23 ∧ 13 = 10 + 3 := by decide +kernel
theorem c198_13 : mj_Y.code kY 198 13 = some (.lload_n 2) ∧ ((2 : Fin 4) : Nat) = 2 ∧ 14 = 13 + 1 := by decide +kernel
theorem c198_14 : mj_Y.code kY 198 14 = some (.aload 4) ∧ 4 = 4 ∧ 16 = 14 + 2 := by decide +kernel
theorem c198_16 : mj_Y.code kY 198 16 = some (.getfield 134) ∧ mj_Y.fl kY 198 134 4 = some (5, .long, true) ∧ 19 = 16 + 3 := by decide +kernel
theorem c198_19 : mj_Y.code kY 198 19 = some .lcmp ∧ 20 = 19 + 1 := by decide +kernel
theorem c198_20 : mj_Y.code kY 198 20 = some (.ifCond .lt 13) ∧ mj_tg 20 13 = some 33 ∧ 23 = 20 + 3 := by decide +kernel
theorem c198_23 : mj_Y.code kY 198 23 = some (.new 149) ∧ mj_Y.ex kY 198 149 = some 15 ∧ mj_Y.nh kY 198 = true := by decide +kernel
theorem c198_33 : mj_Y.code kY 198 33 = some (.iconst 0) ∧ Int32.ofInt 0 = 0 ∧ 34 = 33 + 1 := by decide +kernel
theorem c198_34 : mj_Y.code kY 198 34 = some (.istore 5) ∧ 5 = 5 ∧ 5 < mj_Y.nL kY 198 ∧ 36 = 34 + 2 := by decide +kernel
theorem c198_36 : mj_Y.code kY 198 36 = some (.aload 4) ∧ 4 = 4 ∧ 38 = 36 + 2 := by decide +kernel
theorem c198_38 : mj_Y.code kY 198 38 = some (.getfield 130) ∧ mj_Y.fl kY 198 130 4 = some (1, (.array .long), false) ∧ 41 = 38 + 3 := by decide +kernel
theorem c198_41 : mj_Y.code kY 198 41 = some (.iconst 0) ∧ Int32.ofInt 0 = 0 ∧ 42 = 41 + 1 := by decide +kernel
theorem c198_42 : mj_Y.code kY 198 42 = some .laload ∧ 43 = 42 + 1 := by decide +kernel
theorem c198_43 : mj_Y.code kY 198 43 = some (.lstore 6) ∧ 6 = 6 ∧ 6 + 1 < mj_Y.nL kY 198 ∧ 45 = 43 + 2 := by decide +kernel
theorem c198_45 : mj_Y.code kY 198 45 = some (.iload 5) ∧ 5 = 5 ∧ 47 = 45 + 2 := by decide +kernel
theorem c198_47 : mj_Y.code kY 198 47 = some (.aload 4) ∧ 4 = 4 ∧ 49 = 47 + 2 := by decide +kernel
theorem c198_49 : mj_Y.code kY 198 49 = some (.getfield 119) ∧ mj_Y.fl kY 198 119 4 = some (4, .int, true) ∧ 52 = 49 + 3 := by decide +kernel
theorem c198_52 : mj_Y.code kY 198 52 = some (.iconst 1) ∧ Int32.ofInt 1 = 1 ∧ 53 = 52 + 1 := by decide +kernel
theorem c198_53 : mj_Y.code kY 198 53 = some .isub ∧ 54 = 53 + 1 := by decide +kernel
theorem c198_54 : mj_Y.code kY 198 54 = some (.if_icmp .ge 29) ∧ mj_tg 54 29 = some 83 ∧ 57 = 54 + 3 := by decide +kernel
theorem c198_57 : mj_Y.code kY 198 57 = some (.lload 6) ∧ 6 = 6 ∧ 59 = 57 + 2 := by decide +kernel
theorem c198_59 : mj_Y.code kY 198 59 = some (.lload_n 2) ∧ ((2 : Fin 4) : Nat) = 2 ∧ 60 = 59 + 1 := by decide +kernel
theorem c198_60 : mj_Y.code kY 198 60 = some .lcmp ∧ 61 = 60 + 1 := by decide +kernel
theorem c198_61 : mj_Y.code kY 198 61 = some (.ifCond .gt 22) ∧ mj_tg 61 22 = some 83 ∧ 64 = 61 + 3 := by decide +kernel
theorem c198_64 : mj_Y.code kY 198 64 = some (.iinc 5 1) ∧ 5 < mj_Y.nL kY 198 ∧ Int32.ofInt 1 = 1 ∧ 67 = 64 + 3 := by decide +kernel
theorem c198_67 : mj_Y.code kY 198 67 = some (.lload 6) ∧ 6 = 6 ∧ 69 = 67 + 2 := by decide +kernel
theorem c198_69 : mj_Y.code kY 198 69 = some (.aload 4) ∧ 4 = 4 ∧ 71 = 69 + 2 := by decide +kernel
theorem c198_71 : mj_Y.code kY 198 71 = some (.getfield 130) ∧ mj_Y.fl kY 198 130 4 = some (1, (.array .long), false) ∧ 74 = 71 + 3 := by decide +kernel
theorem c198_74 : mj_Y.code kY 198 74 = some (.iload 5) ∧ 5 = 5 ∧ 76 = 74 + 2 := by decide +kernel
theorem c198_76 : mj_Y.code kY 198 76 = some .laload ∧ 77 = 76 + 1 := by decide +kernel
theorem c198_77 : mj_Y.code kY 198 77 = some .ladd ∧ 78 = 77 + 1 := by decide +kernel
theorem c198_78 : mj_Y.code kY 198 78 = some (.lstore 6) ∧ 6 = 6 ∧ 6 + 1 < mj_Y.nL kY 198 ∧ 80 = 78 + 2 := by decide +kernel
theorem c198_80 : mj_Y.code kY 198 80 = some (.goto (-35)) ∧ mj_tg 80 (-35) = some 45 := by decide +kernel
theorem c198_83 : mj_Y.code kY 198 83 = some (.aload 4) ∧ 4 = 4 ∧ 85 = 83 + 2 := by decide +kernel
theorem c198_85 : mj_Y.code kY 198 85 = some (.getfield 126) ∧ mj_Y.fl kY 198 126 4 = some (0, (.array .int), false) ∧ 88 = 85 + 3 := by decide +kernel
theorem c198_88 : mj_Y.code kY 198 88 = some (.iload 5) ∧ 5 = 5 ∧ 90 = 88 + 2 := by decide +kernel
theorem c198_90 : mj_Y.code kY 198 90 = some .iaload ∧ 91 = 90 + 1 := by decide +kernel
theorem c198_91 : mj_Y.code kY 198 91 = some .ireturn ∧ mj_Y.rt kY 198 = some .int := by decide +kernel
theorem nh198 : mj_Y.nh kY 198 = true := by decide +kernel
theorem c200_0 : mj_Y.code kY 200 0 = some (.iload_n 3) ∧ ((3 : Fin 4) : Nat) = 3 ∧ 1 = 0 + 1 := by decide +kernel
theorem c200_1 : mj_Y.code kY 200 1 = some (.iconst (-1)) ∧ Int32.ofInt (-1) = (-1) ∧ 2 = 1 + 1 := by decide +kernel
theorem c200_2 : mj_Y.code kY 200 2 = some (.if_icmp .lt 26) ∧ mj_tg 2 26 = some 28 ∧ 5 = 2 + 3 := by decide +kernel
theorem c200_5 : mj_Y.code kY 200 5 = some (.iload_n 3) ∧ ((3 : Fin 4) : Nat) = 3 ∧ 6 = 5 + 1 := by decide +kernel
theorem c200_6 : mj_Y.code kY 200 6 = some (.iconst 1) ∧ Int32.ofInt 1 = 1 ∧ 7 = 6 + 1 := by decide +kernel
theorem c200_7 : mj_Y.code kY 200 7 = some (.if_icmp .gt 21) ∧ mj_tg 7 21 = some 28 ∧ 10 = 7 + 3 := by decide +kernel
theorem c200_10 : mj_Y.code kY 200 10 = some (.iload_n 1) ∧ ((1 : Fin 4) : Nat) = 1 ∧ 11 = 10 + 1 := by decide +kernel
theorem c200_11 : mj_Y.code kY 200 11 = some (.invokestatic 156) ∧ mj_Y.pr kY 200 156 = none ∧ mj_Y.cs kY 200 156 = some (80, 1) ∧ mj_Y.nL kY 80 = 1 ∧ 14 = 11 + 3 := by decide +kernel
theorem c200_14 : mj_Y.code kY 200 14 = some (.ifCond .eq 14) ∧ mj_tg 14 14 = some 28 ∧ 17 = 14 + 3 := by decide +kernel
theorem c200_17 : mj_Y.code kY 200 17 = some (.iload_n 2) ∧ ((2 : Fin 4) : Nat) = 2 ∧ 18 = 17 + 1 := by decide +kernel
theorem c200_18 : mj_Y.code kY 200 18 = some (.invokestatic 156) ∧ mj_Y.pr kY 200 156 = none ∧ mj_Y.cs kY 200 156 = some (80, 1) ∧ mj_Y.nL kY 80 = 1 ∧ 21 = 18 + 3 := by decide +kernel
theorem c200_21 : mj_Y.code kY 200 21 = some (.ifCond .eq 7) ∧ mj_tg 21 7 = some 28 ∧ 24 = 21 + 3 := by decide +kernel
theorem c200_24 : mj_Y.code kY 200 24 = some (.iconst 1) ∧ Int32.ofInt 1 = 1 ∧ 25 = 24 + 1 := by decide +kernel
theorem c200_25 : mj_Y.code kY 200 25 = some (.goto 4) ∧ mj_tg 25 4 = some 29 := by decide +kernel
theorem c200_28 : mj_Y.code kY 200 28 = some (.iconst 0) ∧ Int32.ofInt 0 = 0 ∧ 29 = 28 + 1 := by decide +kernel
theorem c200_29 : mj_Y.code kY 200 29 = some (.invokestatic 138) ∧ mj_Y.pr kY 200 138 = none ∧ mj_Y.cs kY 200 138 = some (191, 1) ∧ mj_Y.nL kY 191 = 1 ∧ 32 = 29 + 3 := by decide +kernel
theorem c200_32 : mj_Y.code kY 200 32 = some (.aload_n 0) ∧ ((0 : Fin 4) : Nat) = 0 ∧ 33 = 32 + 1 := by decide +kernel
theorem c200_33 : mj_Y.code kY 200 33 = some (.iload_n 1) ∧ ((1 : Fin 4) : Nat) = 1 ∧ 34 = 33 + 1 := by decide +kernel
theorem c200_34 : mj_Y.code kY 200 34 = some (.invokevirtual 116) ∧ mj_Y.na kY 200 116 = some 1 ∧ mj_Y.cv kY 200 116 5 = some 181 ∧ mj_Y.nL kY 181 = 3 ∧ 37 = 34 + 3 := by decide +kernel
theorem c200_37 : mj_Y.code kY 200 37 = some (.astore 4) ∧ 4 = 4 ∧ 4 < mj_Y.nL kY 200 ∧ 39 = 37 + 2 := by decide +kernel
theorem c200_39 : mj_Y.code kY 200 39 = some (.aload_n 0) ∧ ((0 : Fin 4) : Nat) = 0 ∧ 40 = 39 + 1 := by decide +kernel
theorem c200_40 : mj_Y.code kY 200 40 = some (.iload_n 2) ∧ ((2 : Fin 4) : Nat) = 2 ∧ 41 = 40 + 1 := by decide +kernel
theorem c200_41 : mj_Y.code kY 200 41 = some (.invokevirtual 116) ∧ mj_Y.na kY 200 116 = some 1 ∧ mj_Y.cv kY 200 116 5 = some 181 ∧ mj_Y.nL kY 181 = 3 ∧ 44 = 41 + 3 := by decide +kernel
theorem c200_44 : mj_Y.code kY 200 44 = some (.astore 5) ∧ 5 = 5 ∧ 5 < mj_Y.nL kY 200 ∧ 46 = 44 + 2 := by decide +kernel
theorem c200_46 : mj_Y.code kY 200 46 = some (.lconst 0) ∧ Int64.ofNat ((0 : Fin 2) : Nat) = 0 ∧ 47 = 46 + 1 := by decide +kernel
theorem c200_47 : mj_Y.code kY 200 47 = some (.lstore 6) ∧ 6 = 6 ∧ 6 + 1 < mj_Y.nL kY 200 ∧ 49 = 47 + 2 := by decide +kernel
theorem c200_49 : mj_Y.code kY 200 49 = some (.iconst 0) ∧ Int32.ofInt 0 = 0 ∧ 50 = 49 + 1 := by decide +kernel
theorem c200_50 : mj_Y.code kY 200 50 = some (.istore 8) ∧ 8 = 8 ∧ 8 < mj_Y.nL kY 200 ∧ 52 = 50 + 2 := by decide +kernel
theorem c200_52 : mj_Y.code kY 200 52 = some (.iload 8) ∧ 8 = 8 ∧ 54 = 52 + 2 := by decide +kernel
theorem c200_54 : mj_Y.code kY 200 54 = some (.aload 4) ∧ 4 = 4 ∧ 56 = 54 + 2 := by decide +kernel
theorem c200_56 : mj_Y.code kY 200 56 = some (.getfield 119) ∧ mj_Y.fl kY 200 119 4 = some (4, .int, true) ∧ 59 = 56 + 3 := by decide +kernel
theorem c200_59 : mj_Y.code kY 200 59 = some (.if_icmp .ge 74) ∧ mj_tg 59 74 = some 133 ∧ 62 = 59 + 3 := by decide +kernel
theorem c200_62 : mj_Y.code kY 200 62 = some (.iconst 0) ∧ Int32.ofInt 0 = 0 ∧ 63 = 62 + 1 := by decide +kernel
theorem c200_63 : mj_Y.code kY 200 63 = some (.istore 9) ∧ 9 = 9 ∧ 9 < mj_Y.nL kY 200 ∧ 65 = 63 + 2 := by decide +kernel
theorem c200_65 : mj_Y.code kY 200 65 = some (.iload 9) ∧ 9 = 9 ∧ 67 = 65 + 2 := by decide +kernel
theorem c200_67 : mj_Y.code kY 200 67 = some (.aload 5) ∧ 5 = 5 ∧ 69 = 67 + 2 := by decide +kernel
theorem c200_69 : mj_Y.code kY 200 69 = some (.getfield 119) ∧ mj_Y.fl kY 200 119 4 = some (4, .int, true) ∧ 72 = 69 + 3 := by decide +kernel
theorem c200_72 : mj_Y.code kY 200 72 = some (.if_icmp .ge 55) ∧ mj_tg 72 55 = some 127 ∧ 75 = 72 + 3 := by decide +kernel
theorem c200_75 : mj_Y.code kY 200 75 = some (.aload 4) ∧ 4 = 4 ∧ 77 = 75 + 2 := by decide +kernel
theorem c200_77 : mj_Y.code kY 200 77 = some (.getfield 126) ∧ mj_Y.fl kY 200 126 4 = some (0, (.array .int), false) ∧ 80 = 77 + 3 := by decide +kernel
theorem c200_80 : mj_Y.code kY 200 80 = some (.iload 8) ∧ 8 = 8 ∧ 82 = 80 + 2 := by decide +kernel
theorem c200_82 : mj_Y.code kY 200 82 = some .iaload ∧ 83 = 82 + 1 := by decide +kernel
theorem c200_83 : mj_Y.code kY 200 83 = some (.aload 5) ∧ 5 = 5 ∧ 85 = 83 + 2 := by decide +kernel
theorem c200_85 : mj_Y.code kY 200 85 = some (.getfield 126) ∧ mj_Y.fl kY 200 126 4 = some (0, (.array .int), false) ∧ 88 = 85 + 3 := by decide +kernel
theorem c200_88 : mj_Y.code kY 200 88 = some (.iload 9) ∧ 9 = 9 ∧ 90 = 88 + 2 := by decide +kernel
theorem c200_90 : mj_Y.code kY 200 90 = some .iaload ∧ 91 = 90 + 1 := by decide +kernel
theorem c200_91 : mj_Y.code kY 200 91 = some .isub ∧ 92 = 91 + 1 := by decide +kernel
theorem c200_92 : mj_Y.code kY 200 92 = some (.invokestatic 160) ∧ mj_Y.pr kY 200 160 = none ∧ mj_Y.cs kY 200 160 = some (201, 1) ∧ mj_Y.nL kY 201 = 1 ∧ 95 = 92 + 3 := by decide +kernel
theorem c200_95 : mj_Y.code kY 200 95 = some (.iload_n 3) ∧ ((3 : Fin 4) : Nat) = 3 ∧ 96 = 95 + 1 := by decide +kernel
theorem c200_96 : mj_Y.code kY 200 96 = some (.if_icmp .ne 25) ∧ mj_tg 96 25 = some 121 ∧ 99 = 96 + 3 := by decide +kernel
theorem c200_99 : mj_Y.code kY 200 99 = some (.lload 6) ∧ 6 = 6 ∧ 101 = 99 + 2 := by decide +kernel
theorem c200_101 : mj_Y.code kY 200 101 = some (.aload 4) ∧ 4 = 4 ∧ 103 = 101 + 2 := by decide +kernel
theorem c200_103 : mj_Y.code kY 200 103 = some (.getfield 130) ∧ mj_Y.fl kY 200 130 4 = some (1, (.array .long), false) ∧ 106 = 103 + 3 := by decide +kernel
theorem c200_106 : mj_Y.code kY 200 106 = some (.iload 8) ∧ 8 = 8 ∧ 108 = 106 + 2 := by decide +kernel
theorem c200_108 : mj_Y.code kY 200 108 = some .laload ∧ 109 = 108 + 1 := by decide +kernel
theorem c200_109 : mj_Y.code kY 200 109 = some (.aload 5) ∧ 5 = 5 ∧ 111 = 109 + 2 := by decide +kernel
theorem c200_111 : mj_Y.code kY 200 111 = some (.getfield 130) ∧ mj_Y.fl kY 200 130 4 = some (1, (.array .long), false) ∧ 114 = 111 + 3 := by decide +kernel
theorem c200_114 : mj_Y.code kY 200 114 = some (.iload 9) ∧ 9 = 9 ∧ 116 = 114 + 2 := by decide +kernel
theorem c200_116 : mj_Y.code kY 200 116 = some .laload ∧ 117 = 116 + 1 := by decide +kernel
theorem c200_117 : mj_Y.code kY 200 117 = some .lmul ∧ 118 = 117 + 1 := by decide +kernel
theorem c200_118 : mj_Y.code kY 200 118 = some .ladd ∧ 119 = 118 + 1 := by decide +kernel
theorem c200_119 : mj_Y.code kY 200 119 = some (.lstore 6) ∧ 6 = 6 ∧ 6 + 1 < mj_Y.nL kY 200 ∧ 121 = 119 + 2 := by decide +kernel
theorem c200_121 : mj_Y.code kY 200 121 = some (.iinc 9 1) ∧ 9 < mj_Y.nL kY 200 ∧ Int32.ofInt 1 = 1 ∧ 124 = 121 + 3 := by decide +kernel
theorem c200_124 : mj_Y.code kY 200 124 = some (.goto (-59)) ∧ mj_tg 124 (-59) = some 65 := by decide +kernel
theorem c200_127 : mj_Y.code kY 200 127 = some (.iinc 8 1) ∧ 8 < mj_Y.nL kY 200 ∧ Int32.ofInt 1 = 1 ∧ 130 = 127 + 3 := by decide +kernel
theorem c200_130 : mj_Y.code kY 200 130 = some (.goto (-78)) ∧ mj_tg 130 (-78) = some 52 := by decide +kernel
theorem c200_133 : mj_Y.code kY 200 133 = some (.lload 6) ∧ 6 = 6 ∧ 135 = 133 + 2 := by decide +kernel
theorem c200_135 : mj_Y.code kY 200 135 = some .lreturn ∧ mj_Y.rt kY 200 = some .long := by decide +kernel
theorem nh200 : mj_Y.nh kY 200 = true := by decide +kernel
theorem c201_0 : mj_Y.code kY 201 0 = some (.iload_n 0) ∧ ((0 : Fin 4) : Nat) = 0 ∧ 1 = 0 + 1 := by decide +kernel
theorem c201_1 : mj_Y.code kY 201 1 = some (.bipush 31) ∧ (Int8.ofInt 31).toInt32 = 31 ∧ 3 = 1 + 2 := by decide +kernel
theorem c201_3 : mj_Y.code kY 201 3 = some .ishr ∧ 4 = 3 + 1 := by decide +kernel
theorem c201_4 : mj_Y.code kY 201 4 = some (.iload_n 0) ∧ ((0 : Fin 4) : Nat) = 0 ∧ 5 = 4 + 1 := by decide +kernel
theorem c201_5 : mj_Y.code kY 201 5 = some .ineg ∧ 6 = 5 + 1 := by decide +kernel
theorem c201_6 : mj_Y.code kY 201 6 = some (.bipush 31) ∧ (Int8.ofInt 31).toInt32 = 31 ∧ 8 = 6 + 2 := by decide +kernel
theorem c201_8 : mj_Y.code kY 201 8 = some .iushr ∧ 9 = 8 + 1 := by decide +kernel
theorem c201_9 : mj_Y.code kY 201 9 = some .ior ∧ 10 = 9 + 1 := by decide +kernel
theorem c201_10 : mj_Y.code kY 201 10 = some .ireturn ∧ mj_Y.rt kY 201 = some .int := by decide +kernel
