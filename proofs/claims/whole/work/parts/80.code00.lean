theorem c77_0 : mj_Y.code kY 77 0 = some (.aload_n 2) ∧ ((2 : Fin 4) : Nat) = 2 ∧ 1 = 0 + 1 := by decide +kernel
theorem c77_1 : mj_Y.code kY 77 1 = some (.iconst 0) ∧ Int32.ofInt 0 = 0 ∧ 2 = 1 + 1 := by decide +kernel
theorem c77_2 : mj_Y.code kY 77 2 = some (.aload_n 0) ∧ ((0 : Fin 4) : Nat) = 0 ∧ 3 = 2 + 1 := by decide +kernel
theorem c77_3 : mj_Y.code kY 77 3 = some (.iload_n 1) ∧ ((1 : Fin 4) : Nat) = 1 ∧ 4 = 3 + 1 := by decide +kernel
theorem c77_4_h13 : mj_Y.nh kY 77 = false ∧ mj_Y.hd kY 77 4 13 = some 12 := by decide +kernel
theorem c77_4 : mj_Y.code kY 77 4 = some (.invokevirtual 7) ∧ mj_Y.na kY 77 7 = some 1 ∧ mj_Y.cv kY 77 7 5 = some 78 ∧ mj_Y.nL kY 78 = 4 ∧ 7 = 4 + 3 := by decide +kernel
theorem c77_7 : mj_Y.code kY 77 7 = some .i2l ∧ 8 = 7 + 1 := by decide +kernel
theorem c77_8 : mj_Y.code kY 77 8 = some .lastore ∧ 9 = 8 + 1 := by decide +kernel
theorem c77_9 : mj_Y.code kY 77 9 = some (.goto 6) ∧ mj_tg 9 6 = some 15 := by decide +kernel
theorem c77_12 : mj_Y.code kY 77 12 = some (.astore_n 3) ∧ ((3 : Fin 4) : Nat) = 3 ∧ 3 < mj_Y.nL kY 77 ∧ 13 = 12 + 1 := by decide +kernel
theorem c77_13 : mj_Y.code kY 77 13 = some (.iconst 1) ∧ Int32.ofInt 1 = 1 ∧ 14 = 13 + 1 := by decide +kernel
theorem c77_14 : mj_Y.code kY 77 14 = some .ireturn ∧ mj_Y.rt kY 77 = some .int := by decide +kernel
theorem c77_15 : mj_Y.code kY 77 15 = some (.iconst 0) ∧ Int32.ofInt 0 = 0 ∧ 16 = 15 + 1 := by decide +kernel
theorem c77_16 : mj_Y.code kY 77 16 = some .ireturn ∧ mj_Y.rt kY 77 = some .int := by decide +kernel
theorem c119_0 : mj_Y.code kY 119 0 = some (.aload_n 2) ∧ ((2 : Fin 4) : Nat) = 2 ∧ 1 = 0 + 1 := by decide +kernel
theorem c119_1 : mj_Y.code kY 119 1 = some (.iconst 0) ∧ Int32.ofInt 0 = 0 ∧ 2 = 1 + 1 := by decide +kernel
theorem c119_2 : mj_Y.code kY 119 2 = some (.aload_n 0) ∧ ((0 : Fin 4) : Nat) = 0 ∧ 3 = 2 + 1 := by decide +kernel
theorem c119_3 : mj_Y.code kY 119 3 = some (.iload_n 1) ∧ ((1 : Fin 4) : Nat) = 1 ∧ 4 = 3 + 1 := by decide +kernel
theorem c119_4_h13 : mj_Y.nh kY 119 = false ∧ mj_Y.hd kY 119 4 13 = some 12 := by decide +kernel
theorem c119_4_h14 : mj_Y.nh kY 119 = false ∧ mj_Y.hd kY 119 4 14 = some 15 := by decide +kernel
theorem c119_4 : mj_Y.code kY 119 4 = some (.invokevirtual 15) ∧ mj_Y.na kY 119 15 = some 1 ∧ mj_Y.cv kY 119 15 5 = some 120 ∧ mj_Y.nL kY 120 = 3 ∧ 7 = 4 + 3 := by decide +kernel
theorem c119_7 : mj_Y.code kY 119 7 = some .i2l ∧ 8 = 7 + 1 := by decide +kernel
theorem c119_8 : mj_Y.code kY 119 8 = some .lastore ∧ 9 = 8 + 1 := by decide +kernel
theorem c119_9 : mj_Y.code kY 119 9 = some (.goto 9) ∧ mj_tg 9 9 = some 18 := by decide +kernel
theorem c119_12 : mj_Y.code kY 119 12 = some (.astore_n 3) ∧ ((3 : Fin 4) : Nat) = 3 ∧ 3 < mj_Y.nL kY 119 ∧ 13 = 12 + 1 := by decide +kernel
theorem c119_13 : mj_Y.code kY 119 13 = some (.iconst 1) ∧ Int32.ofInt 1 = 1 ∧ 14 = 13 + 1 := by decide +kernel
theorem c119_14 : mj_Y.code kY 119 14 = some .ireturn ∧ mj_Y.rt kY 119 = some .int := by decide +kernel
theorem c119_15 : mj_Y.code kY 119 15 = some (.astore_n 3) ∧ ((3 : Fin 4) : Nat) = 3 ∧ 3 < mj_Y.nL kY 119 ∧ 16 = 15 + 1 := by decide +kernel
theorem c119_16 : mj_Y.code kY 119 16 = some (.iconst 2) ∧ Int32.ofInt 2 = 2 ∧ 17 = 16 + 1 := by decide +kernel
theorem c119_17 : mj_Y.code kY 119 17 = some .ireturn ∧ mj_Y.rt kY 119 = some .int := by decide +kernel
theorem c119_18 : mj_Y.code kY 119 18 = some (.iconst 0) ∧ Int32.ofInt 0 = 0 ∧ 19 = 18 + 1 := by decide +kernel
theorem c119_19 : mj_Y.code kY 119 19 = some .ireturn ∧ mj_Y.rt kY 119 = some .int := by decide +kernel
theorem c133_0 : mj_Y.code kY 133 0 = some (.aload_n 2) ∧ ((2 : Fin 4) : Nat) = 2 ∧ 1 = 0 + 1 := by decide +kernel
theorem c133_1 : mj_Y.code kY 133 1 = some (.iconst 0) ∧ Int32.ofInt 0 = 0 ∧ 2 = 1 + 1 := by decide +kernel
theorem c133_2 : mj_Y.code kY 133 2 = some (.aload_n 0) ∧ ((0 : Fin 4) : Nat) = 0 ∧ 3 = 2 + 1 := by decide +kernel
theorem c133_3 : mj_Y.code kY 133 3 = some (.iload_n 1) ∧ ((1 : Fin 4) : Nat) = 1 ∧ 4 = 3 + 1 := by decide +kernel
theorem c133_4_h13 : mj_Y.nh kY 133 = false ∧ mj_Y.hd kY 133 4 13 = some 12 := by decide +kernel
theorem c133_4_h14 : mj_Y.nh kY 133 = false ∧ mj_Y.hd kY 133 4 14 = some 15 := by decide +kernel
theorem c133_4 : mj_Y.code kY 133 4 = some (.invokevirtual 20) ∧ mj_Y.na kY 133 20 = some 1 ∧ mj_Y.cv kY 133 20 5 = some 134 ∧ mj_Y.nL kY 134 = 5 ∧ 7 = 4 + 3 := by decide +kernel
theorem c133_7 : mj_Y.code kY 133 7 = some .i2l ∧ 8 = 7 + 1 := by decide +kernel
theorem c133_8 : mj_Y.code kY 133 8 = some .lastore ∧ 9 = 8 + 1 := by decide +kernel
theorem c133_9 : mj_Y.code kY 133 9 = some (.goto 9) ∧ mj_tg 9 9 = some 18 := by decide +kernel
theorem c133_12 : mj_Y.code kY 133 12 = some (.astore_n 3) ∧ ((3 : Fin 4) : Nat) = 3 ∧ 3 < mj_Y.nL kY 133 ∧ 13 = 12 + 1 := by decide +kernel
theorem c133_13 : mj_Y.code kY 133 13 = some (.iconst 1) ∧ Int32.ofInt 1 = 1 ∧ 14 = 13 + 1 := by decide +kernel
theorem c133_14 : mj_Y.code kY 133 14 = some .ireturn ∧ mj_Y.rt kY 133 = some .int := by decide +kernel
theorem c133_15 : mj_Y.code kY 133 15 = some (.astore_n 3) ∧ ((3 : Fin 4) : Nat) = 3 ∧ 3 < mj_Y.nL kY 133 ∧ 16 = 15 + 1 := by decide +kernel
theorem c133_16 : mj_Y.code kY 133 16 = some (.iconst 2) ∧ Int32.ofInt 2 = 2 ∧ 17 = 16 + 1 := by decide +kernel
theorem c133_17 : mj_Y.code kY 133 17 = some .ireturn ∧ mj_Y.rt kY 133 = some .int := by decide +kernel
theorem c133_18 : mj_Y.code kY 133 18 = some (.iconst 0) ∧ Int32.ofInt 0 = 0 ∧ 19 = 18 + 1 := by decide +kernel
theorem c133_19 : mj_Y.code kY 133 19 = some .ireturn ∧ mj_Y.rt kY 133 = some .int := by decide +kernel
theorem c177_0 : mj_Y.code kY 177 0 = some (.aload_n 2) ∧ ((2 : Fin 4) : Nat) = 2 ∧ 1 = 0 + 1 := by decide +kernel
theorem c177_1 : mj_Y.code kY 177 1 = some (.iconst 0) ∧ Int32.ofInt 0 = 0 ∧ 2 = 1 + 1 := by decide +kernel
theorem c177_2 : mj_Y.code kY 177 2 = some (.aload_n 0) ∧ ((0 : Fin 4) : Nat) = 0 ∧ 3 = 2 + 1 := by decide +kernel
theorem c177_3 : mj_Y.code kY 177 3 = some (.iload_n 1) ∧ ((1 : Fin 4) : Nat) = 1 ∧ 4 = 3 + 1 := by decide +kernel
theorem c177_4_h13 : mj_Y.nh kY 177 = false ∧ mj_Y.hd kY 177 4 13 = some 11 := by decide +kernel
theorem c177_4_h14 : mj_Y.nh kY 177 = false ∧ mj_Y.hd kY 177 4 14 = some 14 := by decide +kernel
theorem c177_4 : mj_Y.code kY 177 4 = some (.invokevirtual 23) ∧ mj_Y.na kY 177 23 = some 1 ∧ mj_Y.cv kY 177 23 5 = some 178 ∧ mj_Y.nL kY 178 = 2 ∧ 7 = 4 + 3 := by decide +kernel
theorem c177_7 : mj_Y.code kY 177 7 = some .lastore ∧ 8 = 7 + 1 := by decide +kernel
theorem c177_8 : mj_Y.code kY 177 8 = some (.goto 9) ∧ mj_tg 8 9 = some 17 := by decide +kernel
theorem c177_11 : mj_Y.code kY 177 11 = some (.astore_n 3) ∧ ((3 : Fin 4) : Nat) = 3 ∧ 3 < mj_Y.nL kY 177 ∧ 12 = 11 + 1 := by decide +kernel
theorem c177_12 : mj_Y.code kY 177 12 = some (.iconst 1) ∧ Int32.ofInt 1 = 1 ∧ 13 = 12 + 1 := by decide +kernel
theorem c177_13 : mj_Y.code kY 177 13 = some .ireturn ∧ mj_Y.rt kY 177 = some .int := by decide +kernel
theorem c177_14 : mj_Y.code kY 177 14 = some (.astore_n 3) ∧ ((3 : Fin 4) : Nat) = 3 ∧ 3 < mj_Y.nL kY 177 ∧ 15 = 14 + 1 := by decide +kernel
theorem c177_15 : mj_Y.code kY 177 15 = some (.iconst 2) ∧ Int32.ofInt 2 = 2 ∧ 16 = 15 + 1 := by decide +kernel
theorem c177_16 : mj_Y.code kY 177 16 = some .ireturn ∧ mj_Y.rt kY 177 = some .int := by decide +kernel
theorem c177_17 : mj_Y.code kY 177 17 = some (.iconst 0) ∧ Int32.ofInt 0 = 0 ∧ 18 = 17 + 1 := by decide +kernel
theorem c177_18 : mj_Y.code kY 177 18 = some .ireturn ∧ mj_Y.rt kY 177 = some .int := by decide +kernel
theorem c179_0 : mj_Y.code kY 179 0 = some (.aload_n 2) ∧ ((2 : Fin 4) : Nat) = 2 ∧ 1 = 0 + 1 := by decide +kernel
theorem c179_1 : mj_Y.code kY 179 1 = some (.iconst 0) ∧ Int32.ofInt 0 = 0 ∧ 2 = 1 + 1 := by decide +kernel
theorem c179_2 : mj_Y.code kY 179 2 = some (.aload_n 0) ∧ ((0 : Fin 4) : Nat) = 0 ∧ 3 = 2 + 1 := by decide +kernel
theorem c179_3 : mj_Y.code kY 179 3 = some (.iload_n 1) ∧ ((1 : Fin 4) : Nat) = 1 ∧ 4 = 3 + 1 := by decide +kernel
theorem c179_4_h13 : mj_Y.nh kY 179 = false ∧ mj_Y.hd kY 179 4 13 = some 12 := by decide +kernel
theorem c179_4_h14 : mj_Y.nh kY 179 = false ∧ mj_Y.hd kY 179 4 14 = some 15 := by decide +kernel
theorem c179_4 : mj_Y.code kY 179 4 = some (.invokevirtual 27) ∧ mj_Y.na kY 179 27 = some 1 ∧ mj_Y.cv kY 179 27 5 = some 180 ∧ mj_Y.nL kY 180 = 2 ∧ 7 = 4 + 3 := by decide +kernel
theorem c179_7 : mj_Y.code kY 179 7 = some .i2l ∧ 8 = 7 + 1 := by decide +kernel
theorem c179_8 : mj_Y.code kY 179 8 = some .lastore ∧ 9 = 8 + 1 := by decide +kernel
theorem c179_9 : mj_Y.code kY 179 9 = some (.goto 9) ∧ mj_tg 9 9 = some 18 := by decide +kernel
theorem c179_12 : mj_Y.code kY 179 12 = some (.astore_n 3) ∧ ((3 : Fin 4) : Nat) = 3 ∧ 3 < mj_Y.nL kY 179 ∧ 13 = 12 + 1 := by decide +kernel
theorem c179_13 : mj_Y.code kY 179 13 = some (.iconst 1) ∧ Int32.ofInt 1 = 1 ∧ 14 = 13 + 1 := by decide +kernel
theorem c179_14 : mj_Y.code kY 179 14 = some .ireturn ∧ mj_Y.rt kY 179 = some .int := by decide +kernel
theorem c179_15 : mj_Y.code kY 179 15 = some (.astore_n 3) ∧ ((3 : Fin 4) : Nat) = 3 ∧ 3 < mj_Y.nL kY 179 ∧ 16 = 15 + 1 := by decide +kernel
theorem c179_16 : mj_Y.code kY 179 16 = some (.iconst 2) ∧ Int32.ofInt 2 = 2 ∧ 17 = 16 + 1 := by decide +kernel
theorem c179_17 : mj_Y.code kY 179 17 = some .ireturn ∧ mj_Y.rt kY 179 = some .int := by decide +kernel
theorem c179_18 : mj_Y.code kY 179 18 = some (.iconst 0) ∧ Int32.ofInt 0 = 0 ∧ 19 = 18 + 1 := by decide +kernel
theorem c179_19 : mj_Y.code kY 179 19 = some .ireturn ∧ mj_Y.rt kY 179 = some .int := by decide +kernel
theorem c182_0 : mj_Y.code kY 182 0 = some (.aload_n 3) ∧ ((3 : Fin 4) : Nat) = 3 ∧ 1 = 0 + 1 := by decide +kernel
theorem c182_1 : mj_Y.code kY 182 1 = some (.iconst 0) ∧ Int32.ofInt 0 = 0 ∧ 2 = 1 + 1 := by decide +kernel
theorem c182_2 : mj_Y.code kY 182 2 = some (.aload_n 0) ∧ ((0 : Fin 4) : Nat) = 0 ∧ 3 = 2 + 1 := by decide +kernel
theorem c182_3 : mj_Y.code kY 182 3 = some (.iload_n 1) ∧ ((1 : Fin 4) : Nat) = 1 ∧ 4 = 3 + 1 := by decide +kernel
theorem c182_4 : mj_Y.code kY 182 4 = some (.iload_n 2) ∧ ((2 : Fin 4) : Nat) = 2 ∧ 5 = 4 + 1 := by decide +kernel
theorem c182_5_h13 : mj_Y.nh kY 182 = false ∧ mj_Y.hd kY 182 5 13 = some 13 := by decide +kernel
theorem c182_5_h14 : mj_Y.nh kY 182 = false ∧ mj_Y.hd kY 182 5 14 = some 17 := by decide +kernel
theorem c182_5_h15 : mj_Y.nh kY 182 = false ∧ mj_Y.hd kY 182 5 15 = some 21 := by decide +kernel
theorem c182_5 : mj_Y.code kY 182 5 = some (.invokevirtual 30) ∧ mj_Y.na kY 182 30 = some 2 ∧ mj_Y.cv kY 182 30 5 = some 183 ∧ mj_Y.nL kY 183 = 4 ∧ 8 = 5 + 3 := by decide +kernel
theorem c182_8 : mj_Y.code kY 182 8 = some .i2l ∧ 9 = 8 + 1 := by decide +kernel
theorem c182_9 : mj_Y.code kY 182 9 = some .lastore ∧ 10 = 9 + 1 := by decide +kernel
theorem c182_10 : mj_Y.code kY 182 10 = some (.goto 15) ∧ mj_tg 10 15 = some 25 := by decide +kernel
theorem c182_13 : mj_Y.code kY 182 13 = some (.astore 4) ∧ 4 = 4 ∧ 4 < mj_Y.nL kY 182 ∧ 15 = 13 + 2 := by decide +kernel
theorem c182_15 : mj_Y.code kY 182 15 = some (.iconst 1) ∧ Int32.ofInt 1 = 1 ∧ 16 = 15 + 1 := by decide +kernel
theorem c182_16 : mj_Y.code kY 182 16 = some .ireturn ∧ mj_Y.rt kY 182 = some .int := by decide +kernel
theorem c182_17 : mj_Y.code kY 182 17 = some (.astore 4) ∧ 4 = 4 ∧ 4 < mj_Y.nL kY 182 ∧ 19 = 17 + 2 := by decide +kernel
theorem c182_19 : mj_Y.code kY 182 19 = some (.iconst 2) ∧ Int32.ofInt 2 = 2 ∧ 20 = 19 + 1 := by decide +kernel
theorem c182_20 : mj_Y.code kY 182 20 = some .ireturn ∧ mj_Y.rt kY 182 = some .int := by decide +kernel
theorem c182_21 : mj_Y.code kY 182 21 = some (.astore 4) ∧ 4 = 4 ∧ 4 < mj_Y.nL kY 182 ∧ 23 = 21 + 2 := by decide +kernel
theorem c182_23 : mj_Y.code kY 182 23 = some (.iconst 3) ∧ Int32.ofInt 3 = 3 ∧ 24 = 23 + 1 := by decide +kernel
theorem c182_24 : mj_Y.code kY 182 24 = some .ireturn ∧ mj_Y.rt kY 182 = some .int := by decide +kernel
theorem c182_25 : mj_Y.code kY 182 25 = some (.iconst 0) ∧ Int32.ofInt 0 = 0 ∧ 26 = 25 + 1 := by decide +kernel
theorem c182_26 : mj_Y.code kY 182 26 = some .ireturn ∧ mj_Y.rt kY 182 = some .int := by decide +kernel
theorem c185_0 : mj_Y.code kY 185 0 = some (.aload_n 3) ∧ ((3 : Fin 4) : Nat) = 3 ∧ 1 = 0 + 1 := by decide +kernel
theorem c185_1 : mj_Y.code kY 185 1 = some (.iconst 0) ∧ Int32.ofInt 0 = 0 ∧ 2 = 1 + 1 := by decide +kernel
theorem c185_2 : mj_Y.code kY 185 2 = some (.aload_n 0) ∧ ((0 : Fin 4) : Nat) = 0 ∧ 3 = 2 + 1 := by decide +kernel
theorem c185_3 : mj_Y.code kY 185 3 = some (.iload_n 1) ∧ ((1 : Fin 4) : Nat) = 1 ∧ 4 = 3 + 1 := by decide +kernel
theorem c185_4 : mj_Y.code kY 185 4 = some (.iload_n 2) ∧ ((2 : Fin 4) : Nat) = 2 ∧ 5 = 4 + 1 := by decide +kernel
theorem c185_5_h13 : mj_Y.nh kY 185 = false ∧ mj_Y.hd kY 185 5 13 = some 12 := by decide +kernel
theorem c185_5_h14 : mj_Y.nh kY 185 = false ∧ mj_Y.hd kY 185 5 14 = some 16 := by decide +kernel
theorem c185_5_h15 : mj_Y.nh kY 185 = false ∧ mj_Y.hd kY 185 5 15 = some 20 := by decide +kernel
theorem c185_5 : mj_Y.code kY 185 5 = some (.invokevirtual 36) ∧ mj_Y.na kY 185 36 = some 2 ∧ mj_Y.cv kY 185 36 5 = some 186 ∧ mj_Y.nL kY 186 = 4 ∧ 8 = 5 + 3 := by decide +kernel
theorem c185_8 : mj_Y.code kY 185 8 = some .lastore ∧ 9 = 8 + 1 := by decide +kernel
theorem c185_9 : mj_Y.code kY 185 9 = some (.goto 15) ∧ mj_tg 9 15 = some 24 := by decide +kernel
theorem c185_12 : mj_Y.code kY 185 12 = some (.astore 4) ∧ 4 = 4 ∧ 4 < mj_Y.nL kY 185 ∧ 14 = 12 + 2 := by decide +kernel
theorem c185_14 : mj_Y.code kY 185 14 = some (.iconst 1) ∧ Int32.ofInt 1 = 1 ∧ 15 = 14 + 1 := by decide +kernel
theorem c185_15 : mj_Y.code kY 185 15 = some .ireturn ∧ mj_Y.rt kY 185 = some .int := by decide +kernel
theorem c185_16 : mj_Y.code kY 185 16 = some (.astore 4) ∧ 4 = 4 ∧ 4 < mj_Y.nL kY 185 ∧ 18 = 16 + 2 := by decide +kernel
theorem c185_18 : mj_Y.code kY 185 18 = some (.iconst 2) ∧ Int32.ofInt 2 = 2 ∧ 19 = 18 + 1 := by decide +kernel
theorem c185_19 : mj_Y.code kY 185 19 = some .ireturn ∧ mj_Y.rt kY 185 = some .int := by decide +kernel
theorem c185_20 : mj_Y.code kY 185 20 = some (.astore 4) ∧ 4 = 4 ∧ 4 < mj_Y.nL kY 185 ∧ 22 = 20 + 2 := by decide +kernel
theorem c185_22 : mj_Y.code kY 185 22 = some (.iconst 3) ∧ Int32.ofInt 3 = 3 ∧ 23 = 22 + 1 := by decide +kernel
theorem c185_23 : mj_Y.code kY 185 23 = some .ireturn ∧ mj_Y.rt kY 185 = some .int := by decide +kernel
theorem c185_24 : mj_Y.code kY 185 24 = some (.iconst 0) ∧ Int32.ofInt 0 = 0 ∧ 25 = 24 + 1 := by decide +kernel
theorem c185_25 : mj_Y.code kY 185 25 = some .ireturn ∧ mj_Y.rt kY 185 = some .int := by decide +kernel
theorem c187_0 : mj_Y.code kY 187 0 = some (.aload_n 2) ∧ ((2 : Fin 4) : Nat) = 2 ∧ 1 = 0 + 1 := by decide +kernel
theorem c187_1 : mj_Y.code kY 187 1 = some (.iconst 0) ∧ Int32.ofInt 0 = 0 ∧ 2 = 1 + 1 := by decide +kernel
theorem c187_2 : mj_Y.code kY 187 2 = some (.aload_n 0) ∧ ((0 : Fin 4) : Nat) = 0 ∧ 3 = 2 + 1 := by decide +kernel
theorem c187_3 : mj_Y.code kY 187 3 = some (.iload_n 1) ∧ ((1 : Fin 4) : Nat) = 1 ∧ 4 = 3 + 1 := by decide +kernel
theorem c187_4_h13 : mj_Y.nh kY 187 = false ∧ mj_Y.hd kY 187 4 13 = some 11 := by decide +kernel
theorem c187_4_h14 : mj_Y.nh kY 187 = false ∧ mj_Y.hd kY 187 4 14 = some 14 := by decide +kernel
theorem c187_4 : mj_Y.code kY 187 4 = some (.invokevirtual 40) ∧ mj_Y.na kY 187 40 = some 1 ∧ mj_Y.cv kY 187 40 5 = some 188 ∧ mj_Y.nL kY 188 = 2 ∧ 7 = 4 + 3 := by decide +kernel
theorem c187_7 : mj_Y.code kY 187 7 = some .lastore ∧ 8 = 7 + 1 := by decide +kernel
theorem c187_8 : mj_Y.code kY 187 8 = some (.goto 9) ∧ mj_tg 8 9 = some 17 := by decide +kernel
theorem c187_11 : mj_Y.code kY 187 11 = some (.astore_n 3) ∧ ((3 : Fin 4) : Nat) = 3 ∧ 3 < mj_Y.nL kY 187 ∧ 12 = 11 + 1 := by decide +kernel
theorem c187_12 : mj_Y.code kY 187 12 = some (.iconst 1) ∧ Int32.ofInt 1 = 1 ∧ 13 = 12 + 1 := by decide +kernel
theorem c187_13 : mj_Y.code kY 187 13 = some .ireturn ∧ mj_Y.rt kY 187 = some .int := by decide +kernel
theorem c187_14 : mj_Y.code kY 187 14 = some (.astore_n 3) ∧ ((3 : Fin 4) : Nat) = 3 ∧ 3 < mj_Y.nL kY 187 ∧ 15 = 14 + 1 := by decide +kernel
theorem c187_15 : mj_Y.code kY 187 15 = some (.iconst 2) ∧ Int32.ofInt 2 = 2 ∧ 16 = 15 + 1 := by decide +kernel
theorem c187_16 : mj_Y.code kY 187 16 = some .ireturn ∧ mj_Y.rt kY 187 = some .int := by decide +kernel
theorem c187_17 : mj_Y.code kY 187 17 = some (.iconst 0) ∧ Int32.ofInt 0 = 0 ∧ 18 = 17 + 1 := by decide +kernel
theorem c187_18 : mj_Y.code kY 187 18 = some .ireturn ∧ mj_Y.rt kY 187 = some .int := by decide +kernel
theorem c189_0 : mj_Y.code kY 189 0 = some (.aload_n 3) ∧ ((3 : Fin 4) : Nat) = 3 ∧ 1 = 0 + 1 := by decide +kernel
theorem c189_1 : mj_Y.code kY 189 1 = some (.iconst 0) ∧ Int32.ofInt 0 = 0 ∧ 2 = 1 + 1 := by decide +kernel
theorem c189_2 : mj_Y.code kY 189 2 = some (.aload_n 0) ∧ ((0 : Fin 4) : Nat) = 0 ∧ 3 = 2 + 1 := by decide +kernel
theorem c189_3 : mj_Y.code kY 189 3 = some (.iload_n 1) ∧ ((1 : Fin 4) : Nat) = 1 ∧ 4 = 3 + 1 := by decide +kernel
theorem c189_4 : mj_Y.code kY 189 4 = some (.iload_n 2) ∧ ((2 : Fin 4) : Nat) = 2 ∧ 5 = 4 + 1 := by decide +kernel
theorem c189_5_h13 : mj_Y.nh kY 189 = false ∧ mj_Y.hd kY 189 5 13 = some 12 := by decide +kernel
theorem c189_5_h14 : mj_Y.nh kY 189 = false ∧ mj_Y.hd kY 189 5 14 = some 16 := by decide +kernel
theorem c189_5 : mj_Y.code kY 189 5 = some (.invokevirtual 43) ∧ mj_Y.na kY 189 43 = some 2 ∧ mj_Y.cv kY 189 43 5 = some 190 ∧ mj_Y.nL kY 190 = 9 ∧ 8 = 5 + 3 := by decide +kernel
theorem c189_8 : mj_Y.code kY 189 8 = some .lastore ∧ 9 = 8 + 1 := by decide +kernel
theorem c189_9 : mj_Y.code kY 189 9 = some (.goto 11) ∧ mj_tg 9 11 = some 20 := by decide +kernel
theorem c189_12 : mj_Y.code kY 189 12 = some (.astore 4) ∧ 4 = 4 ∧ 4 < mj_Y.nL kY 189 ∧ 14 = 12 + 2 := by decide +kernel
theorem c189_14 : mj_Y.code kY 189 14 = some (.iconst 1) ∧ Int32.ofInt 1 = 1 ∧ 15 = 14 + 1 := by decide +kernel
theorem c189_15 : mj_Y.code kY 189 15 = some .ireturn ∧ mj_Y.rt kY 189 = some .int := by decide +kernel
theorem c189_16 : mj_Y.code kY 189 16 = some (.astore 4) ∧ 4 = 4 ∧ 4 < mj_Y.nL kY 189 ∧ 18 = 16 + 2 := by decide +kernel
theorem c189_18 : mj_Y.code kY 189 18 = some (.iconst 2) ∧ Int32.ofInt 2 = 2 ∧ 19 = 18 + 1 := by decide +kernel
theorem c189_19 : mj_Y.code kY 189 19 = some .ireturn ∧ mj_Y.rt kY 189 = some .int := by decide +kernel
theorem c189_20 : mj_Y.code kY 189 20 = some (.iconst 0) ∧ Int32.ofInt 0 = 0 ∧ 21 = 20 + 1 := by decide +kernel
theorem c189_21 : mj_Y.code kY 189 21 = some .ireturn ∧ mj_Y.rt kY 189 = some .int := by decide +kernel
theorem c192_0 : mj_Y.code kY 192 0 = some (.aload_n 3) ∧ ((3 : Fin 4) : Nat) = 3 ∧ 1 = 0 + 1 := by decide +kernel
theorem c192_1 : mj_Y.code kY 192 1 = some (.iconst 0) ∧ Int32.ofInt 0 = 0 ∧ 2 = 1 + 1 := by decide +kernel
theorem c192_2 : mj_Y.code kY 192 2 = some (.aload_n 0) ∧ ((0 : Fin 4) : Nat) = 0 ∧ 3 = 2 + 1 := by decide +kernel
theorem c192_3 : mj_Y.code kY 192 3 = some (.iload_n 1) ∧ ((1 : Fin 4) : Nat) = 1 ∧ 4 = 3 + 1 := by decide +kernel
theorem c192_4 : mj_Y.code kY 192 4 = some (.iload_n 2) ∧ ((2 : Fin 4) : Nat) = 2 ∧ 5 = 4 + 1 := by decide +kernel
theorem c192_5_h13 : mj_Y.nh kY 192 = false ∧ mj_Y.hd kY 192 5 13 = some 13 := by decide +kernel
theorem c192_5_h14 : mj_Y.nh kY 192 = false ∧ mj_Y.hd kY 192 5 14 = some 17 := by decide +kernel
theorem c192_5_h15 : mj_Y.nh kY 192 = false ∧ mj_Y.hd kY 192 5 15 = some 21 := by decide +kernel
theorem c192_5 : mj_Y.code kY 192 5 = some (.invokevirtual 46) ∧ mj_Y.na kY 192 46 = some 2 ∧ mj_Y.cv kY 192 46 5 = some 193 ∧ mj_Y.nL kY 193 = 4 ∧ 8 = 5 + 3 := by decide +kernel
theorem c192_8 : mj_Y.code kY 192 8 = some .i2l ∧ 9 = 8 + 1 := by decide +kernel
theorem c192_9 : mj_Y.code kY 192 9 = some .lastore ∧ 10 = 9 + 1 := by decide +kernel
theorem c192_10 : mj_Y.code kY 192 10 = some (.goto 15) ∧ mj_tg 10 15 = some 25 := by decide +kernel
theorem c192_13 : mj_Y.code kY 192 13 = some (.astore 4) ∧ 4 = 4 ∧ 4 < mj_Y.nL kY 192 ∧ 15 = 13 + 2 := by decide +kernel
theorem c192_15 : mj_Y.code kY 192 15 = some (.iconst 1) ∧ Int32.ofInt 1 = 1 ∧ 16 = 15 + 1 := by decide +kernel
theorem c192_16 : mj_Y.code kY 192 16 = some .ireturn ∧ mj_Y.rt kY 192 = some .int := by decide +kernel
theorem c192_17 : mj_Y.code kY 192 17 = some (.astore 4) ∧ 4 = 4 ∧ 4 < mj_Y.nL kY 192 ∧ 19 = 17 + 2 := by decide +kernel
theorem c192_19 : mj_Y.code kY 192 19 = some (.iconst 2) ∧ Int32.ofInt 2 = 2 ∧ 20 = 19 + 1 := by decide +kernel
theorem c192_20 : mj_Y.code kY 192 20 = some .ireturn ∧ mj_Y.rt kY 192 = some .int := by decide +kernel
theorem c192_21 : mj_Y.code kY 192 21 = some (.astore 4) ∧ 4 = 4 ∧ 4 < mj_Y.nL kY 192 ∧ 23 = 21 + 2 := by decide +kernel
theorem c192_23 : mj_Y.code kY 192 23 = some (.iconst 3) ∧ Int32.ofInt 3 = 3 ∧ 24 = 23 + 1 := by decide +kernel
theorem c192_24 : mj_Y.code kY 192 24 = some .ireturn ∧ mj_Y.rt kY 192 = some .int := by decide +kernel
theorem c192_25 : mj_Y.code kY 192 25 = some (.iconst 0) ∧ Int32.ofInt 0 = 0 ∧ 26 = 25 + 1 := by decide +kernel
theorem c192_26 : mj_Y.code kY 192 26 = some .ireturn ∧ mj_Y.rt kY 192 = some .int := by decide +kernel
theorem c195_0 : mj_Y.code kY 195 0 = some (.aload 4) ∧ 4 = 4 ∧ 2 = 0 + 2 := by decide +kernel
theorem c195_2 : mj_Y.code kY 195 2 = some (.iconst 0) ∧ Int32.ofInt 0 = 0 ∧ 3 = 2 + 1 := by decide +kernel
theorem c195_3 : mj_Y.code kY 195 3 = some (.aload_n 0) ∧ ((0 : Fin 4) : Nat) = 0 ∧ 4 = 3 + 1 := by decide +kernel
theorem c195_4 : mj_Y.code kY 195 4 = some (.iload_n 1) ∧ ((1 : Fin 4) : Nat) = 1 ∧ 5 = 4 + 1 := by decide +kernel
theorem c195_5 : mj_Y.code kY 195 5 = some (.iload_n 2) ∧ ((2 : Fin 4) : Nat) = 2 ∧ 6 = 5 + 1 := by decide +kernel
theorem c195_6 : mj_Y.code kY 195 6 = some (.iload_n 3) ∧ ((3 : Fin 4) : Nat) = 3 ∧ 7 = 6 + 1 := by decide +kernel
theorem c195_7_h13 : mj_Y.nh kY 195 = false ∧ mj_Y.hd kY 195 7 13 = some 15 := by decide +kernel
theorem c195_7_h14 : mj_Y.nh kY 195 = false ∧ mj_Y.hd kY 195 7 14 = some 19 := by decide +kernel
theorem c195_7 : mj_Y.code kY 195 7 = some (.invokevirtual 49) ∧ mj_Y.na kY 195 49 = some 3 ∧ mj_Y.cv kY 195 49 5 = some 196 ∧ mj_Y.nL kY 196 = 8 ∧ 10 = 7 + 3 := by decide +kernel
theorem c195_10 : mj_Y.code kY 195 10 = some .i2l ∧ 11 = 10 + 1 := by decide +kernel
theorem c195_11 : mj_Y.code kY 195 11 = some .lastore ∧ 12 = 11 + 1 := by decide +kernel
theorem c195_12 : mj_Y.code kY 195 12 = some (.goto 11) ∧ mj_tg 12 11 = some 23 := by decide +kernel
theorem c195_15 : mj_Y.code kY 195 15 = some (.astore 5) ∧ 5 = 5 ∧ 5 < mj_Y.nL kY 195 ∧ 17 = 15 + 2 := by decide +kernel
theorem c195_17 : mj_Y.code kY 195 17 = some (.iconst 1) ∧ Int32.ofInt 1 = 1 ∧ 18 = 17 + 1 := by decide +kernel
theorem c195_18 : mj_Y.code kY 195 18 = some .ireturn ∧ mj_Y.rt kY 195 = some .int := by decide +kernel
theorem c195_19 : mj_Y.code kY 195 19 = some (.astore 5) ∧ 5 = 5 ∧ 5 < mj_Y.nL kY 195 ∧ 21 = 19 + 2 := by decide +kernel
theorem c195_21 : mj_Y.code kY 195 21 = some (.iconst 2) ∧ Int32.ofInt 2 = 2 ∧ 22 = 21 + 1 := by decide +kernel
theorem c195_22 : mj_Y.code kY 195 22 = some .ireturn ∧ mj_Y.rt kY 195 = some .int := by decide +kernel
theorem c195_23 : mj_Y.code kY 195 23 = some (.iconst 0) ∧ Int32.ofInt 0 = 0 ∧ 24 = 23 + 1 := by decide +kernel
theorem c195_24 : mj_Y.code kY 195 24 = some .ireturn ∧ mj_Y.rt kY 195 = some .int := by decide +kernel
theorem c197_0 : mj_Y.code kY 197 0 = some (.aload 4) ∧ 4 = 4 ∧ 2 = 0 + 2 := by decide +kernel
theorem c197_2 : mj_Y.code kY 197 2 = some (.iconst 0) ∧ Int32.ofInt 0 = 0 ∧ 3 = 2 + 1 := by decide +kernel
theorem c197_3 : mj_Y.code kY 197 3 = some (.aload_n 0) ∧ ((0 : Fin 4) : Nat) = 0 ∧ 4 = 3 + 1 := by decide +kernel
theorem c197_4 : mj_Y.code kY 197 4 = some (.iload_n 1) ∧ ((1 : Fin 4) : Nat) = 1 ∧ 5 = 4 + 1 := by decide +kernel
theorem c197_5 : mj_Y.code kY 197 5 = some (.lload_n 2) ∧ ((2 : Fin 4) : Nat) = 2 ∧ 6 = 5 + 1 := by decide +kernel
theorem c197_6_h13 : mj_Y.nh kY 197 = false ∧ mj_Y.hd kY 197 6 13 = some 14 := by decide +kernel
theorem c197_6_h14 : mj_Y.nh kY 197 = false ∧ mj_Y.hd kY 197 6 14 = some 18 := by decide +kernel
theorem c197_6_h15 : mj_Y.nh kY 197 = false ∧ mj_Y.hd kY 197 6 15 = some 22 := by decide +kernel
theorem c197_6 : mj_Y.code kY 197 6 = some (.invokevirtual 53) ∧ mj_Y.na kY 197 53 = some 2 ∧ mj_Y.cv kY 197 53 5 = some 198 ∧ mj_Y.nL kY 198 = 8 ∧ 9 = 6 + 3 := by decide +kernel
theorem c197_9 : mj_Y.code kY 197 9 = some .i2l ∧ 10 = 9 + 1 := by decide +kernel
theorem c197_10 : mj_Y.code kY 197 10 = some .lastore ∧ 11 = 10 + 1 := by decide +kernel
theorem c197_11 : mj_Y.code kY 197 11 = some (.goto 15) ∧ mj_tg 11 15 = some 26 := by decide +kernel
theorem c197_14 : mj_Y.code kY 197 14 = some (.astore 5) ∧ 5 = 5 ∧ 5 < mj_Y.nL kY 197 ∧ 16 = 14 + 2 := by decide +kernel
theorem c197_16 : mj_Y.code kY 197 16 = some (.iconst 1) ∧ Int32.ofInt 1 = 1 ∧ 17 = 16 + 1 := by decide +kernel
theorem c197_17 : mj_Y.code kY 197 17 = some .ireturn ∧ mj_Y.rt kY 197 = some .int := by decide +kernel
theorem c197_18 : mj_Y.code kY 197 18 = some (.astore 5) ∧ 5 = 5 ∧ 5 < mj_Y.nL kY 197 ∧ 20 = 18 + 2 := by decide +kernel
theorem c197_20 : mj_Y.code kY 197 20 = some (.iconst 2) ∧ Int32.ofInt 2 = 2 ∧ 21 = 20 + 1 := by decide +kernel
theorem c197_21 : mj_Y.code kY 197 21 = some .ireturn ∧ mj_Y.rt kY 197 = some .int := by decide +kernel
theorem c197_22 : mj_Y.code kY 197 22 = some (.astore 5) ∧ 5 = 5 ∧ 5 < mj_Y.nL kY 197 ∧ 24 = 22 + 2 := by decide +kernel
theorem c197_24 : mj_Y.code kY 197 24 = some (.iconst 3) ∧ Int32.ofInt 3 = 3 ∧ 25 = 24 + 1 := by decide +kernel
theorem c197_25 : mj_Y.code kY 197 25 = some .ireturn ∧ mj_Y.rt kY 197 = some .int := by decide +kernel
theorem c197_26 : mj_Y.code kY 197 26 = some (.iconst 0) ∧ Int32.ofInt 0 = 0 ∧ 27 = 26 + 1 := by decide +kernel
theorem c197_27 : mj_Y.code kY 197 27 = some .ireturn ∧ mj_Y.rt kY 197 = some .int := by decide +kernel
theorem c199_0 : mj_Y.code kY 199 0 = some (.aload 4) ∧ 4 = 4 ∧ 2 = 0 + 2 := by decide +kernel
theorem c199_2 : mj_Y.code kY 199 2 = some (.iconst 0) ∧ Int32.ofInt 0 = 0 ∧ 3 = 2 + 1 := by decide +kernel
theorem c199_3 : mj_Y.code kY 199 3 = some (.aload_n 0) ∧ ((0 : Fin 4) : Nat) = 0 ∧ 4 = 3 + 1 := by decide +kernel
theorem c199_4 : mj_Y.code kY 199 4 = some (.iload_n 1) ∧ ((1 : Fin 4) : Nat) = 1 ∧ 5 = 4 + 1 := by decide +kernel
theorem c199_5 : mj_Y.code kY 199 5 = some (.iload_n 2) ∧ ((2 : Fin 4) : Nat) = 2 ∧ 6 = 5 + 1 := by decide +kernel
theorem c199_6 : mj_Y.code kY 199 6 = some (.iload_n 3) ∧ ((3 : Fin 4) : Nat) = 3 ∧ 7 = 6 + 1 := by decide +kernel
theorem c199_7_h13 : mj_Y.nh kY 199 = false ∧ mj_Y.hd kY 199 7 13 = some 14 := by decide +kernel
theorem c199_7_h14 : mj_Y.nh kY 199 = false ∧ mj_Y.hd kY 199 7 14 = some 18 := by decide +kernel
theorem c199_7 : mj_Y.code kY 199 7 = some (.invokevirtual 57) ∧ mj_Y.na kY 199 57 = some 3 ∧ mj_Y.cv kY 199 57 5 = some 200 ∧ mj_Y.nL kY 200 = 10 ∧ 10 = 7 + 3 := by decide +kernel
theorem c199_10 : mj_Y.code kY 199 10 = some .lastore ∧ 11 = 10 + 1 := by decide +kernel
theorem c199_11 : mj_Y.code kY 199 11 = some (.goto 11) ∧ mj_tg 11 11 = some 22 := by decide +kernel
theorem c199_14 : mj_Y.code kY 199 14 = some (.astore 5) ∧ 5 = 5 ∧ 5 < mj_Y.nL kY 199 ∧ 16 = 14 + 2 := by decide +kernel
theorem c199_16 : mj_Y.code kY 199 16 = some (.iconst 1) ∧ Int32.ofInt 1 = 1 ∧ 17 = 16 + 1 := by decide +kernel
theorem c199_17 : mj_Y.code kY 199 17 = some .ireturn ∧ mj_Y.rt kY 199 = some .int := by decide +kernel
theorem c199_18 : mj_Y.code kY 199 18 = some (.astore 5) ∧ 5 = 5 ∧ 5 < mj_Y.nL kY 199 ∧ 20 = 18 + 2 := by decide +kernel
theorem c199_20 : mj_Y.code kY 199 20 = some (.iconst 2) ∧ Int32.ofInt 2 = 2 ∧ 21 = 20 + 1 := by decide +kernel
theorem c199_21 : mj_Y.code kY 199 21 = some .ireturn ∧ mj_Y.rt kY 199 = some .int := by decide +kernel
theorem c199_22 : mj_Y.code kY 199 22 = some (.iconst 0) ∧ Int32.ofInt 0 = 0 ∧ 23 = 22 + 1 := by decide +kernel
theorem c199_23 : mj_Y.code kY 199 23 = some .ireturn ∧ mj_Y.rt kY 199 = some .int := by decide +kernel
