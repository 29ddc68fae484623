theorem c140_0 : mj_Y.code kY 140 0 = some (.aload_n 2) ∧ ((2 : Fin 4) : Nat) = 2 ∧ 1 = 0 + 1 := by decide +kernel
theorem c140_1 : mj_Y.code kY 140 1 = some (.getfield 119) ∧ mj_Y.fl kY 140 119 3 = some (9, (.object "DiceOdds$States"), false) ∧ 4 = 1 + 3 := by decide +kernel
theorem c140_4 : mj_Y.code kY 140 4 = some (.astore_n 3) ∧ ((3 : Fin 4) : Nat) = 3 ∧ 3 < mj_Y.nL kY 140 ∧ 5 = 4 + 1 := by decide +kernel
theorem c140_5 : mj_Y.code kY 140 5 = some (.aload_n 3) ∧ ((3 : Fin 4) : Nat) = 3 ∧ 6 = 5 + 1 := by decide +kernel
theorem c140_6 : mj_Y.code kY 140 6 = some (.invokevirtual 123) ∧ mj_Y.na kY 140 123 = some 0 ∧ mj_Y.cv kY 140 123 2 = some 136 ∧ mj_Y.nL kY 136 = 1 ∧ 9 = 6 + 3 := by decide +kernel
theorem c140_9 : mj_Y.code kY 140 9 = some (.iconst 0) ∧ Int32.ofInt 0 = 0 ∧ 10 = 9 + 1 := by decide +kernel
theorem c140_10 : mj_Y.code kY 140 10 = some (.istore 4) ∧ 4 = 4 ∧ 4 < mj_Y.nL kY 140 ∧ 12 = 10 + 2 := by decide +kernel
theorem c140_12 : mj_Y.code kY 140 12 = some (.iload 4) ∧ 4 = 4 ∧ 14 = 12 + 2 := by decide +kernel
theorem c140_14 : mj_Y.code kY 140 14 = some (.aload_n 1) ∧ ((1 : Fin 4) : Nat) = 1 ∧ 15 = 14 + 1 := by decide +kernel
theorem c140_15 : mj_Y.code kY 140 15 = some (.getfield 86) ∧ mj_Y.fl kY 140 86 2 = some (2, .int, true) ∧ 18 = 15 + 3 := by decide +kernel
theorem c140_18 : mj_Y.code kY 140 18 = some (.if_icmp .ge 36) ∧ mj_tg 18 36 = some 54 ∧ 21 = 18 + 3 := by decide +kernel
theorem c140_21 : mj_Y.code kY 140 21 = some (.aload_n 2) ∧ ((2 : Fin 4) : Nat) = 2 ∧ 22 = 21 + 1 := by decide +kernel
theorem c140_22 : mj_Y.code kY 140 22 = some (.aload_n 0) ∧ ((0 : Fin 4) : Nat) = 0 ∧ 23 = 22 + 1 := by decide +kernel
theorem c140_23 : mj_Y.code kY 140 23 = some (.getfield 19) ∧ mj_Y.fl kY 140 19 11 = some (1, (.object "DiceOdds$Expression"), false) ∧ 26 = 23 + 3 := by decide +kernel
theorem c140_26 : mj_Y.code kY 140 26 = some (.aload_n 1) ∧ ((1 : Fin 4) : Nat) = 1 ∧ 27 = 26 + 1 := by decide +kernel
theorem c140_27 : mj_Y.code kY 140 27 = some (.iload 4) ∧ 4 = 4 ∧ 29 = 27 + 2 := by decide +kernel
theorem c140_29 : mj_Y.code kY 140 29 = some (.invokevirtual 126) ∧ mj_Y.na kY 140 126 = some 3 ∧ mj_Y.cv kY 140 126 3 = some 141 ∧ mj_Y.nL kY 141 = 4 ∧ 32 = 29 + 3 := by decide +kernel
theorem c140_32 : mj_Y.code kY 140 32 = some (.ifCond .ne 5) ∧ mj_tg 32 5 = some 37 ∧ 35 = 32 + 3 := by decide +kernel
theorem c140_35 : mj_Y.code kY 140 35 = some (.iconst (-1)) ∧ Int32.ofInt (-1) = (-1) ∧ 36 = 35 + 1 := by decide +kernel
theorem c140_36 : mj_Y.code kY 140 36 = some .ireturn ∧ mj_Y.rt kY 140 = some .int := by decide +kernel
theorem c140_37 : mj_Y.code kY 140 37 = some (.aload_n 3) ∧ ((3 : Fin 4) : Nat) = 3 ∧ 38 = 37 + 1 := by decide +kernel
theorem c140_38 : mj_Y.code kY 140 38 = some (.aload_n 1) ∧ ((1 : Fin 4) : Nat) = 1 ∧ 39 = 38 + 1 := by decide +kernel
theorem c140_39 : mj_Y.code kY 140 39 = some (.iload 4) ∧ 4 = 4 ∧ 41 = 39 + 2 := by decide +kernel
theorem c140_41 : mj_Y.code kY 140 41 = some (.aload_n 2) ∧ ((2 : Fin 4) : Nat) = 2 ∧ 42 = 41 + 1 := by decide +kernel
theorem c140_42 : mj_Y.code kY 140 42 = some (.invokevirtual 138) ∧ mj_Y.na kY 140 138 = some 0 ∧ mj_Y.cv kY 140 138 3 = some 162 ∧ mj_Y.nL kY 162 = 4 ∧ 45 = 42 + 3 := by decide +kernel
theorem c140_45 : mj_Y.code kY 140 45 = some (.invokevirtual 142) ∧ mj_Y.na kY 140 142 = some 3 ∧ mj_Y.cv kY 140 142 2 = some 163 ∧ mj_Y.nL kY 163 = 5 ∧ 48 = 45 + 3 := by decide +kernel
theorem c140_48 : mj_Y.code kY 140 48 = some (.iinc 4 1) ∧ 4 < mj_Y.nL kY 140 ∧ Int32.ofInt 1 = 1 ∧ 51 = 48 + 3 := by decide +kernel
theorem c140_51 : mj_Y.code kY 140 51 = some (.goto (-39)) ∧ mj_tg 51 (-39) = some 12 := by decide +kernel
theorem c140_54 : mj_Y.code kY 140 54 = some (.aload_n 1) ∧ ((1 : Fin 4) : Nat) = 1 ∧ 55 = 54 + 1 := by decide +kernel
theorem c140_55 : mj_Y.code kY 140 55 = some (.aload_n 3) ∧ ((3 : Fin 4) : Nat) = 3 ∧ 56 = 55 + 1 := by decide +kernel
theorem c140_56 : mj_Y.code kY 140 56 = some (.invokevirtual 134) ∧ mj_Y.na kY 140 134 = some 1 ∧ mj_Y.cv kY 140 134 2 = some 165 ∧ mj_Y.nL kY 165 = 5 ∧ 59 = 56 + 3 := by decide +kernel
theorem c140_59 : mj_Y.code kY 140 59 = some (.iconst 0) ∧ Int32.ofInt 0 = 0 ∧ 60 = 59 + 1 := by decide +kernel
theorem c140_60 : mj_Y.code kY 140 60 = some .ireturn ∧ mj_Y.rt kY 140 = some .int := by decide +kernel
theorem c141_0 : mj_Y.code kY 141 0 = some (.aload_n 0) ∧ ((0 : Fin 4) : Nat) = 0 ∧ 1 = 0 + 1 := by decide +kernel
theorem c141_1 : mj_Y.code kY 141 1 = some (.iconst 0) ∧ Int32.ofInt 0 = 0 ∧ 2 = 1 + 1 := by decide +kernel
theorem c141_2 : mj_Y.code kY 141 2 = some (.putfield 22) ∧ mj_Y.fl kY 141 22 3 = some (3, .int, true) ∧ 5 = 2 + 3 := by decide +kernel
theorem c141_5 : mj_Y.code kY 141 5 = some (.aload_n 1) ∧ ((1 : Fin 4) : Nat) = 1 ∧ 6 = 5 + 1 := by decide +kernel
theorem c141_6 : mj_Y.code kY 141 6 = some (.aload_n 0) ∧ ((0 : Fin 4) : Nat) = 0 ∧ 7 = 6 + 1 := by decide +kernel
theorem c141_7 : mj_Y.code kY 141 7 = some (.aload_n 2) ∧ ((2 : Fin 4) : Nat) = 2 ∧ 8 = 7 + 1 := by decide +kernel
theorem c141_8 : mj_Y.code kY 141 8 = some (.iload_n 3) ∧ ((3 : Fin 4) : Nat) = 3 ∧ 9 = 8 + 1 := by decide +kernel
theorem c141_9_t : ∀ c k2, dl c = some k2 → mj_Y.cv kY 141 69 c = some k2 ∧ 4 ≤ mj_Y.nL kY k2 ∧ mj_Y.nL kY k2 ≤ 20 := by
  intro c n h
  have hc : c = 6 ∨ c = 7 ∨ c = 8 ∨ c = 9 ∨ c = 10 := dl_c h
  rcases hc with rfl | rfl | rfl | rfl | rfl <;> (cases h; decide +kernel)
theorem c141_9 : mj_Y.code kY 141 9 = some (.invokevirtual 69) ∧ mj_Y.na kY 141 69 = some 3 ∧ 12 = 9 + 3 := by decide +kernel
theorem c141_12 : mj_Y.code kY 141 12 = some .ireturn ∧ mj_Y.rt kY 141 = some .boolean := by decide +kernel
theorem c142_0 : mj_Y.code kY 142 0 = some (.aload_n 0) ∧ ((0 : Fin 4) : Nat) = 0 ∧ 1 = 0 + 1 := by decide +kernel
theorem c142_1 : mj_Y.code kY 142 1 = some (.getfield 13) ∧ mj_Y.fl kY 142 13 8 = some (4, (.array .long), true) ∧ 4 = 1 + 3 := by decide +kernel
theorem c142_4 : mj_Y.code kY 142 4 = some (.ifnonnull 31) ∧ mj_tg 4 31 = some 35 ∧ 7 = 4 + 3 := by decide +kernel
theorem c142_7 : mj_Y.code kY 142 7 = some (.aload_n 0) ∧ ((0 : Fin 4) : Nat) = 0 ∧ 8 = 7 + 1 := by decide +kernel
theorem c142_8 : mj_Y.code kY 142 8 = some (.aload_n 0) ∧ ((0 : Fin 4) : Nat) = 0 ∧ 9 = 8 + 1 := by decide +kernel
theorem c142_9 : mj_Y.code kY 142 9 = some (.getfield 26) ∧ mj_Y.fl kY 142 26 8 = some (2, .char, false) ∧ 12 = 9 + 3 := by decide +kernel
theorem c142_12 : mj_Y.code kY 142 12 = some (.bipush 101) ∧ (Int8.ofInt 101).toInt32 = 101 ∧ 14 = 12 + 2 := by decide +kernel
theorem c142_14 : mj_Y.code kY 142 14 = some (.if_icmp .ne 10) ∧ mj_tg 14 10 = some 24 ∧ 17 = 14 + 3 := by decide +kernel
theorem c142_17 : mj_Y.code kY 142 17 = some (.aload_n 0) ∧ ((0 : Fin 4) : Nat) = 0 ∧ 18 = 17 + 1 := by decide +kernel
theorem c142_18 : mj_Y.code kY 142 18 = some (.invokevirtual 42) ∧ mj_Y.na kY 142 42 = some 0 ∧ mj_Y.cv kY 142 42 8 = some 143 ∧ mj_Y.nL kY 143 = 6 ∧ 21 = 18 + 3 := by decide +kernel
theorem c142_21 : mj_Y.code kY 142 21 = some (.goto 11) ∧ mj_tg 21 11 = some 32 := by decide +kernel
theorem c142_24 : mj_Y.code kY 142 24 = some (.aload_n 0) ∧ ((0 : Fin 4) : Nat) = 0 ∧ 25 = 24 + 1 := by decide +kernel
theorem c142_25 : mj_Y.code kY 142 25 = some (.aload_n 1) ∧ ((1 : Fin 4) : Nat) = 1 ∧ 26 = 25 + 1 := by decide +kernel
theorem c142_26 : mj_Y.code kY 142 26 = some (.getfield 46) ∧ mj_Y.fl kY 142 46 3 = some (7, (.array (.array .long)), false) ∧ 29 = 26 + 3 := by decide +kernel
theorem c142_29 : mj_Y.code kY 142 29 = some (.invokevirtual 52) ∧ mj_Y.na kY 142 52 = some 1 ∧ mj_Y.cv kY 142 52 8 = some 144 ∧ mj_Y.nL kY 144 = 7 ∧ 32 = 29 + 3 := by decide +kernel
theorem c142_32 : mj_Y.code kY 142 32 = some (.putfield 13) ∧ mj_Y.fl kY 142 13 8 = some (4, (.array .long), true) ∧ 35 = 32 + 3 := by decide +kernel
theorem c142_35 : mj_Y.code kY 142 35 = some (.aload_n 1) ∧ ((1 : Fin 4) : Nat) = 1 ∧ 36 = 35 + 1 := by decide +kernel
theorem c142_36 : mj_Y.code kY 142 36 = some (.invokevirtual 56) ∧ mj_Y.na kY 142 56 = some 0 ∧ mj_Y.cv kY 142 56 3 = some 149 ∧ mj_Y.nL kY 149 = 1 ∧ 39 = 36 + 3 := by decide +kernel
theorem c142_39 : mj_Y.code kY 142 39 = some (.iconst 0) ∧ Int32.ofInt 0 = 0 ∧ 40 = 39 + 1 := by decide +kernel
theorem c142_40 : mj_Y.code kY 142 40 = some (.istore 4) ∧ 4 = 4 ∧ 4 < mj_Y.nL kY 142 ∧ 42 = 40 + 2 := by decide +kernel
theorem c142_42 : mj_Y.code kY 142 42 = some (.iload 4) ∧ 4 = 4 ∧ 44 = 42 + 2 := by decide +kernel
theorem c142_44 : mj_Y.code kY 142 44 = some (.aload_n 0) ∧ ((0 : Fin 4) : Nat) = 0 ∧ 45 = 44 + 1 := by decide +kernel
theorem c142_45 : mj_Y.code kY 142 45 = some (.getfield 13) ∧ mj_Y.fl kY 142 13 8 = some (4, (.array .long), true) ∧ 48 = 45 + 3 := by decide +kernel
theorem c142_48 : mj_Y.code kY 142 48 = some .arraylength ∧ 49 = 48 + 1 := by decide +kernel
theorem c142_49 : mj_Y.code kY 142 49 = some (.if_icmp .ge 34) ∧ mj_tg 49 34 = some 83 ∧ 52 = 49 + 3 := by decide +kernel
theorem c142_52 : mj_Y.code kY 142 52 = some (.aload_n 0) ∧ ((0 : Fin 4) : Nat) = 0 ∧ 53 = 52 + 1 := by decide +kernel
theorem c142_53 : mj_Y.code kY 142 53 = some (.getfield 13) ∧ mj_Y.fl kY 142 13 8 = some (4, (.array .long), true) ∧ 56 = 53 + 3 := by decide +kernel
theorem c142_56 : mj_Y.code kY 142 56 = some (.iload 4) ∧ 4 = 4 ∧ 58 = 56 + 2 := by decide +kernel
theorem c142_58 : mj_Y.code kY 142 58 = some .laload ∧ 59 = 58 + 1 := by decide +kernel
theorem c142_59 : mj_Y.code kY 142 59 = some (.lconst 0) ∧ Int64.ofNat ((0 : Fin 2) : Nat) = 0 ∧ 60 = 59 + 1 := by decide +kernel
theorem c142_60 : mj_Y.code kY 142 60 = some .lcmp ∧ 61 = 60 + 1 := by decide +kernel
theorem c142_61 : mj_Y.code kY 142 61 = some (.ifCond .le 16) ∧ mj_tg 61 16 = some 77 ∧ 64 = 61 + 3 := by decide +kernel
theorem c142_64 : mj_Y.code kY 142 64 = some (.aload_n 1) ∧ ((1 : Fin 4) : Nat) = 1 ∧ 65 = 64 + 1 := by decide +kernel
theorem c142_65 : mj_Y.code kY 142 65 = some (.iload 4) ∧ 4 = 4 ∧ 67 = 65 + 2 := by decide +kernel
theorem c142_67 : mj_Y.code kY 142 67 = some (.aload_n 0) ∧ ((0 : Fin 4) : Nat) = 0 ∧ 68 = 67 + 1 := by decide +kernel
theorem c142_68 : mj_Y.code kY 142 68 = some (.getfield 13) ∧ mj_Y.fl kY 142 13 8 = some (4, (.array .long), true) ∧ 71 = 68 + 3 := by decide +kernel
theorem c142_71 : mj_Y.code kY 142 71 = some (.iload 4) ∧ 4 = 4 ∧ 73 = 71 + 2 := by decide +kernel
theorem c142_73 : mj_Y.code kY 142 73 = some .laload ∧ 74 = 73 + 1 := by decide +kernel
theorem c142_74 : mj_Y.code kY 142 74 = some (.invokevirtual 60) ∧ mj_Y.na kY 142 60 = some 2 ∧ mj_Y.cv kY 142 60 3 = some 150 ∧ mj_Y.nL kY 150 = 5 ∧ 77 = 74 + 3 := by decide +kernel
theorem c142_77 : mj_Y.code kY 142 77 = some (.iinc 4 1) ∧ 4 < mj_Y.nL kY 142 ∧ Int32.ofInt 1 = 1 ∧ 80 = 77 + 3 := by decide +kernel
theorem c142_80 : mj_Y.code kY 142 80 = some (.goto (-38)) ∧ mj_tg 80 (-38) = some 42 := by decide +kernel
theorem c142_83 : mj_Y.code kY 142 83 = some (.iconst 1) ∧ Int32.ofInt 1 = 1 ∧ 84 = 83 + 1 := by decide +kernel
theorem c142_84 : mj_Y.code kY 142 84 = some .ireturn ∧ mj_Y.rt kY 142 = some .boolean := by decide +kernel
theorem c143_0 : mj_Y.code kY 143 0 = some (.aload_n 0) ∧ ((0 : Fin 4) : Nat) = 0 ∧ 1 = 0 + 1 := by decide +kernel
theorem c143_1 : mj_Y.code kY 143 1 = some (.getfield 23) ∧ mj_Y.fl kY 143 23 8 = some (1, .int, false) ∧ 4 = 1 + 3 := by decide +kernel
theorem c143_4 : mj_Y.code kY 143 4 = some (.aload_n 0) ∧ ((0 : Fin 4) : Nat) = 0 ∧ 5 = 4 + 1 := by decide +kernel
theorem c143_5 : mj_Y.code kY 143 5 = some (.getfield 30) ∧ mj_Y.fl kY 143 30 8 = some (3, .int, false) ∧ 8 = 5 + 3 := by decide +kernel
theorem c143_8 : mj_Y.code kY 143 8 = some (.iconst 1) ∧ Int32.ofInt 1 = 1 ∧ 9 = 8 + 1 := by decide +kernel
theorem c143_9 : mj_Y.code kY 143 9 = some .iadd ∧ 10 = 9 + 1 := by decide +kernel
theorem c143_10 : mj_Y.code kY 143 10 = some .imul ∧ 11 = 10 + 1 := by decide +kernel
theorem c143_11 : mj_Y.code kY 143 11 = some (.iconst 1) ∧ Int32.ofInt 1 = 1 ∧ 12 = 11 + 1 := by decide +kernel
theorem c143_12 : mj_Y.code kY 143 12 = some .iadd ∧ 13 = 12 + 1 := by decide +kernel
theorem c143_13 : mj_Y.code kY 143 13 = some (.newarray .long) ∧ newarray.typeOf .long = .long ∧ 15 = 13 + 2 := by decide +kernel
theorem c143_15 : mj_Y.code kY 143 15 = some (.astore_n 1) ∧ ((1 : Fin 4) : Nat) = 1 ∧ 1 < mj_Y.nL kY 143 ∧ 16 = 15 + 1 := by decide +kernel
theorem c143_16 : mj_Y.code kY 143 16 = some (.iconst 0) ∧ Int32.ofInt 0 = 0 ∧ 17 = 16 + 1 := by decide +kernel
theorem c143_17 : mj_Y.code kY 143 17 = some (.istore_n 2) ∧ ((2 : Fin 4) : Nat) = 2 ∧ 2 < mj_Y.nL kY 143 ∧ 18 = 17 + 1 := by decide +kernel
theorem c143_18 : mj_Y.code kY 143 18 = some (.iload_n 2) ∧ ((2 : Fin 4) : Nat) = 2 ∧ 19 = 18 + 1 := by decide +kernel
theorem c143_19 : mj_Y.code kY 143 19 = some (.aload_n 0) ∧ ((0 : Fin 4) : Nat) = 0 ∧ 20 = 19 + 1 := by decide +kernel
theorem c143_20 : mj_Y.code kY 143 20 = some (.getfield 30) ∧ mj_Y.fl kY 143 30 8 = some (3, .int, false) ∧ 23 = 20 + 3 := by decide +kernel
theorem c143_23 : mj_Y.code kY 143 23 = some (.if_icmp .gt 54) ∧ mj_tg 23 54 = some 77 ∧ 26 = 23 + 3 := by decide +kernel
theorem c143_26 : mj_Y.code kY 143 26 = some (.aload_n 0) ∧ ((0 : Fin 4) : Nat) = 0 ∧ 27 = 26 + 1 := by decide +kernel
theorem c143_27 : mj_Y.code kY 143 27 = some (.getfield 23) ∧ mj_Y.fl kY 143 23 8 = some (1, .int, false) ∧ 30 = 27 + 3 := by decide +kernel
theorem c143_30 : mj_Y.code kY 143 30 = some .i2l ∧ 31 = 30 + 1 := by decide +kernel
theorem c143_31 : mj_Y.code kY 143 31 = some (.aload_n 0) ∧ ((0 : Fin 4) : Nat) = 0 ∧ 32 = 31 + 1 := by decide +kernel
theorem c143_32 : mj_Y.code kY 143 32 = some (.getfield 30) ∧ mj_Y.fl kY 143 30 8 = some (3, .int, false) ∧ 35 = 32 + 3 := by decide +kernel
theorem c143_35 : mj_Y.code kY 143 35 = some (.iload_n 2) ∧ ((2 : Fin 4) : Nat) = 2 ∧ 36 = 35 + 1 := by decide +kernel
theorem c143_36 : mj_Y.code kY 143 36 = some .isub ∧ 37 = 36 + 1 := by decide +kernel
theorem c143_37 : mj_Y.code kY 143 37 = some (.invokestatic 3) ∧ mj_Y.pr kY 143 3 = none ∧ mj_Y.cs kY 143 3 = some (101, 2) ∧ mj_Y.nL kY 101 = 6 ∧ 40 = 37 + 3 := by decide +kernel
theorem c143_40 : mj_Y.code kY 143 40 = some (.lstore_n 3) ∧ ((3 : Fin 4) : Nat) = 3 ∧ 3 + 1 < mj_Y.nL kY 143 ∧ 41 = 40 + 1 := by decide +kernel
theorem c143_41 : mj_Y.code kY 143 41 = some (.iconst 1) ∧ Int32.ofInt 1 = 1 ∧ 42 = 41 + 1 := by decide +kernel
theorem c143_42 : mj_Y.code kY 143 42 = some (.istore 5) ∧ 5 = 5 ∧ 5 < mj_Y.nL kY 143 ∧ 44 = 42 + 2 := by decide +kernel
theorem c143_44 : mj_Y.code kY 143 44 = some (.iload 5) ∧ 5 = 5 ∧ 46 = 44 + 2 := by decide +kernel
theorem c143_46 : mj_Y.code kY 143 46 = some (.aload_n 0) ∧ ((0 : Fin 4) : Nat) = 0 ∧ 47 = 46 + 1 := by decide +kernel
theorem c143_47 : mj_Y.code kY 143 47 = some (.getfield 23) ∧ mj_Y.fl kY 143 23 8 = some (1, .int, false) ∧ 50 = 47 + 3 := by decide +kernel
theorem c143_50 : mj_Y.code kY 143 50 = some (.if_icmp .ge 21) ∧ mj_tg 50 21 = some 71 ∧ 53 = 50 + 3 := by decide +kernel
theorem c143_53 : mj_Y.code kY 143 53 = some (.aload_n 1) ∧ ((1 : Fin 4) : Nat) = 1 ∧ 54 = 53 + 1 := by decide +kernel
theorem c143_54 : mj_Y.code kY 143 54 = some (.iload_n 2) ∧ ((2 : Fin 4) : Nat) = 2 ∧ 55 = 54 + 1 := by decide +kernel
theorem c143_55 : mj_Y.code kY 143 55 = some (.aload_n 0) ∧ ((0 : Fin 4) : Nat) = 0 ∧ 56 = 55 + 1 := by decide +kernel
theorem c143_56 : mj_Y.code kY 143 56 = some (.getfield 23) ∧ mj_Y.fl kY 143 23 8 = some (1, .int, false) ∧ 59 = 56 + 3 := by decide +kernel
theorem c143_59 : mj_Y.code kY 143 59 = some .imul ∧ 60 = 59 + 1 := by decide +kernel
theorem c143_60 : mj_Y.code kY 143 60 = some (.iload 5) ∧ 5 = 5 ∧ 62 = 60 + 2 := by decide +kernel
theorem c143_62 : mj_Y.code kY 143 62 = some .iadd ∧ 63 = 62 + 1 := by decide +kernel
theorem c143_63 : mj_Y.code kY 143 63 = some (.lload_n 3) ∧ ((3 : Fin 4) : Nat) = 3 ∧ 64 = 63 + 1 := by decide +kernel
theorem c143_64 : mj_Y.code kY 143 64 = some .lastore ∧ 65 = 64 + 1 := by decide +kernel
theorem c143_65 : mj_Y.code kY 143 65 = some (.iinc 5 1) ∧ 5 < mj_Y.nL kY 143 ∧ Int32.ofInt 1 = 1 ∧ 68 = 65 + 3 := by decide +kernel
theorem c143_68 : mj_Y.code kY 143 68 = some (.goto (-24)) ∧ mj_tg 68 (-24) = some 44 := by decide +kernel
theorem c143_71 : mj_Y.code kY 143 71 = some (.iinc 2 1) ∧ 2 < mj_Y.nL kY 143 ∧ Int32.ofInt 1 = 1 ∧ 74 = 71 + 3 := by decide +kernel
theorem c143_74 : mj_Y.code kY 143 74 = some (.goto (-56)) ∧ mj_tg 74 (-56) = some 18 := by decide +kernel
theorem c143_77 : mj_Y.code kY 143 77 = some (.aload_n 1) ∧ ((1 : Fin 4) : Nat) = 1 ∧ 78 = 77 + 1 := by decide +kernel
theorem c143_78 : mj_Y.code kY 143 78 = some (.aload_n 0) ∧ ((0 : Fin 4) : Nat) = 0 ∧ 79 = 78 + 1 := by decide +kernel
theorem c143_79 : mj_Y.code kY 143 79 = some (.getfield 23) ∧ mj_Y.fl kY 143 23 8 = some (1, .int, false) ∧ 82 = 79 + 3 := by decide +kernel
theorem c143_82 : mj_Y.code kY 143 82 = some (.aload_n 0) ∧ ((0 : Fin 4) : Nat) = 0 ∧ 83 = 82 + 1 := by decide +kernel
theorem c143_83 : mj_Y.code kY 143 83 = some (.getfield 30) ∧ mj_Y.fl kY 143 30 8 = some (3, .int, false) ∧ 86 = 83 + 3 := by decide +kernel
theorem c143_86 : mj_Y.code kY 143 86 = some (.iconst 1) ∧ Int32.ofInt 1 = 1 ∧ 87 = 86 + 1 := by decide +kernel
theorem c143_87 : mj_Y.code kY 143 87 = some .iadd ∧ 88 = 87 + 1 := by decide +kernel
theorem c143_88 : mj_Y.code kY 143 88 = some .imul ∧ 89 = 88 + 1 := by decide +kernel
theorem c143_89 : mj_Y.code kY 143 89 = some (.lconst 1) ∧ Int64.ofNat ((1 : Fin 2) : Nat) = 1 ∧ 90 = 89 + 1 := by decide +kernel
theorem c143_90 : mj_Y.code kY 143 90 = some .lastore ∧ 91 = 90 + 1 := by decide +kernel
theorem c143_91 : mj_Y.code kY 143 91 = some (.aload_n 1) ∧ ((1 : Fin 4) : Nat) = 1 ∧ 92 = 91 + 1 := by decide +kernel
theorem c143_92 : mj_Y.code kY 143 92 = some .areturn ∧ mj_Y.rt kY 143 = some (.array .long) ∧ ((.array .long) : FieldType).isReference = true := by decide +kernel
theorem c144_0 : mj_Y.code kY 144 0 = some (.aload_n 0) ∧ ((0 : Fin 4) : Nat) = 0 ∧ 1 = 0 + 1 := by decide +kernel
theorem c144_1 : mj_Y.code kY 144 1 = some (.getfield 30) ∧ mj_Y.fl kY 144 30 8 = some (3, .int, false) ∧ 4 = 1 + 3 := by decide +kernel
theorem c144_4 : mj_Y.code kY 144 4 = some (.aload_n 0) ∧ ((0 : Fin 4) : Nat) = 0 ∧ 5 = 4 + 1 := by decide +kernel
theorem c144_5 : mj_Y.code kY 144 5 = some (.getfield 23) ∧ mj_Y.fl kY 144 23 8 = some (1, .int, false) ∧ 8 = 5 + 3 := by decide +kernel
theorem c144_8 : mj_Y.code kY 144 8 = some .imul ∧ 9 = 8 + 1 := by decide +kernel
theorem c144_9 : mj_Y.code kY 144 9 = some (.istore_n 2) ∧ ((2 : Fin 4) : Nat) = 2 ∧ 2 < mj_Y.nL kY 144 ∧ 10 = 9 + 1 := by decide +kernel
theorem c144_10 : mj_Y.code kY 144 10 = some (.iconst 0) ∧ Int32.ofInt 0 = 0 ∧ 11 = 10 + 1 := by decide +kernel
theorem c144_11 : mj_Y.code kY 144 11 = some (.istore_n 3) ∧ ((3 : Fin 4) : Nat) = 3 ∧ 3 < mj_Y.nL kY 144 ∧ 12 = 11 + 1 := by decide +kernel
theorem c144_12 : mj_Y.code kY 144 12 = some (.iload_n 3) ∧ ((3 : Fin 4) : Nat) = 3 ∧ 13 = 12 + 1 := by decide +kernel
theorem c144_13 : mj_Y.code kY 144 13 = some (.aload_n 0) ∧ ((0 : Fin 4) : Nat) = 0 ∧ 14 = 13 + 1 := by decide +kernel
theorem c144_14 : mj_Y.code kY 144 14 = some (.getfield 19) ∧ mj_Y.fl kY 144 19 8 = some (0, .int, false) ∧ 17 = 14 + 3 := by decide +kernel
theorem c144_17 : mj_Y.code kY 144 17 = some (.if_icmp .gt 16) ∧ mj_tg 17 16 = some 33 ∧ 20 = 17 + 3 := by decide +kernel
theorem c144_20 : mj_Y.code kY 144 20 = some (.aload_n 1) ∧ ((1 : Fin 4) : Nat) = 1 ∧ 21 = 20 + 1 := by decide +kernel
theorem c144_21 : mj_Y.code kY 144 21 = some (.iload_n 3) ∧ ((3 : Fin 4) : Nat) = 3 ∧ 22 = 21 + 1 := by decide +kernel
theorem c144_22 : mj_Y.code kY 144 22 = some .aaload ∧ 23 = 22 + 1 := by decide +kernel
theorem c144_23 : mj_Y.code kY 144 23 = some (.lconst 0) ∧ Int64.ofNat ((0 : Fin 2) : Nat) = 0 ∧ 24 = 23 + 1 := by decide +kernel
theorem c144_24 : mj_Y.code kY 144 24 = some (.invokestatic 64) ∧ mj_Y.pr kY 144 64 = none ∧ mj_Y.cs kY 144 64 = some (145, 2) ∧ mj_Y.nL kY 145 = 5 ∧ 27 = 24 + 3 := by decide +kernel
theorem c144_27 : mj_Y.code kY 144 27 = some (.iinc 3 1) ∧ 3 < mj_Y.nL kY 144 ∧ Int32.ofInt 1 = 1 ∧ 30 = 27 + 3 := by decide +kernel
theorem c144_30 : mj_Y.code kY 144 30 = some (.goto (-18)) ∧ mj_tg 30 (-18) = some 12 := by decide +kernel
theorem c144_33 : mj_Y.code kY 144 33 = some (.aload_n 1) ∧ ((1 : Fin 4) : Nat) = 1 ∧ 34 = 33 + 1 := by decide +kernel
theorem c144_34 : mj_Y.code kY 144 34 = some (.iconst 0) ∧ Int32.ofInt 0 = 0 ∧ 35 = 34 + 1 := by decide +kernel
theorem c144_35 : mj_Y.code kY 144 35 = some .aaload ∧ 36 = 35 + 1 := by decide +kernel
theorem c144_36 : mj_Y.code kY 144 36 = some (.iconst 0) ∧ Int32.ofInt 0 = 0 ∧ 37 = 36 + 1 := by decide +kernel
theorem c144_37 : mj_Y.code kY 144 37 = some (.lconst 1) ∧ Int64.ofNat ((1 : Fin 2) : Nat) = 1 ∧ 38 = 37 + 1 := by decide +kernel
theorem c144_38 : mj_Y.code kY 144 38 = some .lastore ∧ 39 = 38 + 1 := by decide +kernel
theorem c144_39 : mj_Y.code kY 144 39 = some (.iconst 1) ∧ Int32.ofInt 1 = 1 ∧ 40 = 39 + 1 := by decide +kernel
theorem c144_40 : mj_Y.code kY 144 40 = some (.istore_n 3) ∧ ((3 : Fin 4) : Nat) = 3 ∧ 3 < mj_Y.nL kY 144 ∧ 41 = 40 + 1 := by decide +kernel
theorem c144_41 : mj_Y.code kY 144 41 = some (.iload_n 3) ∧ ((3 : Fin 4) : Nat) = 3 ∧ 42 = 41 + 1 := by decide +kernel
theorem c144_42 : mj_Y.code kY 144 42 = some (.aload_n 0) ∧ ((0 : Fin 4) : Nat) = 0 ∧ 43 = 42 + 1 := by decide +kernel
theorem c144_43 : mj_Y.code kY 144 43 = some (.getfield 23) ∧ mj_Y.fl kY 144 23 8 = some (1, .int, false) ∧ 46 = 43 + 3 := by decide +kernel
theorem c144_46 : mj_Y.code kY 144 46 = some (.if_icmp .gt 95) ∧ mj_tg 46 95 = some 141 ∧ 49 = 46 + 3 := by decide +kernel
theorem c144_49 : mj_Y.code kY 144 49 = some (.aload_n 0) ∧ ((0 : Fin 4) : Nat) = 0 ∧ 50 = 49 + 1 := by decide +kernel
theorem c144_50 : mj_Y.code kY 144 50 = some (.getfield 26) ∧ mj_Y.fl kY 144 26 8 = some (2, .char, false) ∧ 53 = 50 + 3 := by decide +kernel
theorem c144_53 : mj_Y.code kY 144 53 = some (.bipush 108) ∧ (Int8.ofInt 108).toInt32 = 108 ∧ 55 = 53 + 2 := by decide +kernel
theorem c144_55 : mj_Y.code kY 144 55 = some (.if_icmp .ne 7) ∧ mj_tg 55 7 = some 62 ∧ 58 = 55 + 3 := by decide +kernel
theorem c144_58 : mj_Y.code kY 144 58 = some (.iload_n 3) ∧ ((3 : Fin 4) : Nat) = 3 ∧ 59 = 58 + 1 := by decide +kernel
theorem c144_59 : mj_Y.code kY 144 59 = some (.goto 11) ∧ mj_tg 59 11 = some 70 := by decide +kernel
theorem c144_62 : mj_Y.code kY 144 62 = some (.aload_n 0) ∧ ((0 : Fin 4) : Nat) = 0 ∧ 63 = 62 + 1 := by decide +kernel
theorem c144_63 : mj_Y.code kY 144 63 = some (.getfield 23) ∧ mj_Y.fl kY 144 23 8 = some (1, .int, false) ∧ 66 = 63 + 3 := by decide +kernel
theorem c144_66 : mj_Y.code kY 144 66 = some (.iconst 1) ∧ Int32.ofInt 1 = 1 ∧ 67 = 66 + 1 := by decide +kernel
theorem c144_67 : mj_Y.code kY 144 67 = some .iadd ∧ 68 = 67 + 1 := by decide +kernel
theorem c144_68 : mj_Y.code kY 144 68 = some (.iload_n 3) ∧ ((3 : Fin 4) : Nat) = 3 ∧ 69 = 68 + 1 := by decide +kernel
theorem c144_69 : mj_Y.code kY 144 69 = some .isub ∧ 70 = 69 + 1 := by decide +kernel
theorem c144_70 : mj_Y.code kY 144 70 = some (.istore 4) ∧ 4 = 4 ∧ 4 < mj_Y.nL kY 144 ∧ 72 = 70 + 2 := by decide +kernel
theorem c144_72 : mj_Y.code kY 144 72 = some (.aload_n 0) ∧ ((0 : Fin 4) : Nat) = 0 ∧ 73 = 72 + 1 := by decide +kernel
theorem c144_73 : mj_Y.code kY 144 73 = some (.getfield 19) ∧ mj_Y.fl kY 144 19 8 = some (0, .int, false) ∧ 76 = 73 + 3 := by decide +kernel
theorem c144_76 : mj_Y.code kY 144 76 = some (.iconst 1) ∧ Int32.ofInt 1 = 1 ∧ 77 = 76 + 1 := by decide +kernel
theorem c144_77 : mj_Y.code kY 144 77 = some .isub ∧ 78 = 77 + 1 := by decide +kernel
theorem c144_78 : mj_Y.code kY 144 78 = some (.istore 5) ∧ 5 = 5 ∧ 5 < mj_Y.nL kY 144 ∧ 80 = 78 + 2 := by decide +kernel
theorem c144_80 : mj_Y.code kY 144 80 = some (.iload 5) ∧ 5 = 5 ∧ 82 = 80 + 2 := by decide +kernel
theorem c144_82 : mj_Y.code kY 144 82 = some (.ifCond .lt 53) ∧ mj_tg 82 53 = some 135 ∧ 85 = 82 + 3 := by decide +kernel
theorem c144_85 : mj_Y.code kY 144 85 = some (.iconst 1) ∧ Int32.ofInt 1 = 1 ∧ 86 = 85 + 1 := by decide +kernel
theorem c144_86 : mj_Y.code kY 144 86 = some (.istore 6) ∧ 6 = 6 ∧ 6 < mj_Y.nL kY 144 ∧ 88 = 86 + 2 := by decide +kernel
theorem c144_88 : mj_Y.code kY 144 88 = some (.iload 6) ∧ 6 = 6 ∧ 90 = 88 + 2 := by decide +kernel
theorem c144_90 : mj_Y.code kY 144 90 = some (.aload_n 0) ∧ ((0 : Fin 4) : Nat) = 0 ∧ 91 = 90 + 1 := by decide +kernel
theorem c144_91 : mj_Y.code kY 144 91 = some (.getfield 19) ∧ mj_Y.fl kY 144 19 8 = some (0, .int, false) ∧ 94 = 91 + 3 := by decide +kernel
theorem c144_94 : mj_Y.code kY 144 94 = some (.iload 5) ∧ 5 = 5 ∧ 96 = 94 + 2 := by decide +kernel
theorem c144_96 : mj_Y.code kY 144 96 = some .isub ∧ 97 = 96 + 1 := by decide +kernel
theorem c144_97 : mj_Y.code kY 144 97 = some (.if_icmp .gt 32) ∧ mj_tg 97 32 = some 129 ∧ 100 = 97 + 3 := by decide +kernel
theorem c144_100 : mj_Y.code kY 144 100 = some (.aload_n 0) ∧ ((0 : Fin 4) : Nat) = 0 ∧ 101 = 100 + 1 := by decide +kernel
theorem c144_101 : mj_Y.code kY 144 101 = some (.aload_n 1) ∧ ((1 : Fin 4) : Nat) = 1 ∧ 102 = 101 + 1 := by decide +kernel
theorem c144_102 : mj_Y.code kY 144 102 = some (.iload 5) ∧ 5 = 5 ∧ 104 = 102 + 2 := by decide +kernel
theorem c144_104 : mj_Y.code kY 144 104 = some (.iload 6) ∧ 6 = 6 ∧ 106 = 104 + 2 := by decide +kernel
theorem c144_106 : mj_Y.code kY 144 106 = some (.iload 4) ∧ 4 = 4 ∧ 108 = 106 + 2 := by decide +kernel
theorem c144_108 : mj_Y.code kY 144 108 = some (.iload 6) ∧ 6 = 6 ∧ 110 = 108 + 2 := by decide +kernel
theorem c144_110 : mj_Y.code kY 144 110 = some (.aload_n 0) ∧ ((0 : Fin 4) : Nat) = 0 ∧ 111 = 110 + 1 := by decide +kernel
theorem c144_111 : mj_Y.code kY 144 111 = some (.getfield 19) ∧ mj_Y.fl kY 144 19 8 = some (0, .int, false) ∧ 114 = 111 + 3 := by decide +kernel
theorem c144_114 : mj_Y.code kY 144 114 = some (.iload 5) ∧ 5 = 5 ∧ 116 = 114 + 2 := by decide +kernel
theorem c144_116 : mj_Y.code kY 144 116 = some .isub ∧ 117 = 116 + 1 := by decide +kernel
theorem c144_117 : mj_Y.code kY 144 117 = some (.invokestatic 70) ∧ mj_Y.pr kY 144 70 = none ∧ mj_Y.cs kY 144 70 = some (147, 2) ∧ mj_Y.nL kY 147 = 5 ∧ 120 = 117 + 3 := by decide +kernel
theorem c144_120 : mj_Y.code kY 144 120 = some (.invokevirtual 74) ∧ mj_Y.na kY 144 74 = some 5 ∧ mj_Y.cv kY 144 74 8 = some 146 ∧ mj_Y.nL kY 146 = 12 ∧ 123 = 120 + 3 := by decide +kernel
theorem c144_123 : mj_Y.code kY 144 123 = some (.iinc 6 1) ∧ 6 < mj_Y.nL kY 144 ∧ Int32.ofInt 1 = 1 ∧ 126 = 123 + 3 := by decide +kernel
theorem c144_126 : mj_Y.code kY 144 126 = some (.goto (-38)) ∧ mj_tg 126 (-38) = some 88 := by decide +kernel
theorem c144_129 : mj_Y.code kY 144 129 = some (.iinc 5 (-1)) ∧ 5 < mj_Y.nL kY 144 ∧ Int32.ofInt (-1) = (-1) ∧ 132 = 129 + 3 := by decide +kernel
theorem c144_132 : mj_Y.code kY 144 132 = some (.goto (-52)) ∧ mj_tg 132 (-52) = some 80 := by decide +kernel
theorem c144_135 : mj_Y.code kY 144 135 = some (.iinc 3 1) ∧ 3 < mj_Y.nL kY 144 ∧ Int32.ofInt 1 = 1 ∧ 138 = 135 + 3 := by decide +kernel
theorem c144_138 : mj_Y.code kY 144 138 = some (.goto (-97)) ∧ mj_tg 138 (-97) = some 41 := by decide +kernel
theorem c144_141 : mj_Y.code kY 144 141 = some (.aload_n 1) ∧ ((1 : Fin 4) : Nat) = 1 ∧ 142 = 141 + 1 := by decide +kernel
theorem c144_142 : mj_Y.code kY 144 142 = some (.aload_n 0) ∧ ((0 : Fin 4) : Nat) = 0 ∧ 143 = 142 + 1 := by decide +kernel
theorem c144_143 : mj_Y.code kY 144 143 = some (.getfield 19) ∧ mj_Y.fl kY 144 19 8 = some (0, .int, false) ∧ 146 = 143 + 3 := by decide +kernel
theorem c144_146 : mj_Y.code kY 144 146 = some .aaload ∧ 147 = 146 + 1 := by decide +kernel
theorem c144_147 : mj_Y.code kY 144 147 = some (.iload_n 2) ∧ ((2 : Fin 4) : Nat) = 2 ∧ 148 = 147 + 1 := by decide +kernel
theorem c144_148 : mj_Y.code kY 144 148 = some (.iconst 1) ∧ Int32.ofInt 1 = 1 ∧ 149 = 148 + 1 := by decide +kernel
theorem c144_149 : mj_Y.code kY 144 149 = some .iadd ∧ 150 = 149 + 1 := by decide +kernel
theorem c144_150 : mj_Y.code kY 144 150 = some (.invokestatic 78) ∧ mj_Y.pr kY 144 78 = none ∧ mj_Y.cs kY 144 78 = some (148, 2) ∧ mj_Y.nL kY 148 = 3 ∧ 153 = 150 + 3 := by decide +kernel
theorem c144_153 : mj_Y.code kY 144 153 = some .areturn ∧ mj_Y.rt kY 144 = some (.array .long) ∧ ((.array .long) : FieldType).isReference = true := by decide +kernel
theorem c145_0 : mj_Y.code kY 145 0 = some (.iconst 0) ∧ Int32.ofInt 0 = 0 ∧ 1 = 0 + 1 := by decide +kernel
theorem c145_1 : mj_Y.code kY 145 1 = some (.istore_n 3) ∧ ((3 : Fin 4) : Nat) = 3 ∧ 3 < mj_Y.nL kY 145 ∧ 2 = 1 + 1 := by decide +kernel
theorem c145_2 : mj_Y.code kY 145 2 = some (.aload_n 0) ∧ ((0 : Fin 4) : Nat) = 0 ∧ 3 = 2 + 1 := by decide +kernel
theorem c145_3 : mj_Y.code kY 145 3 = some .arraylength ∧ 4 = 3 + 1 := by decide +kernel
theorem c145_4 : mj_Y.code kY 145 4 = some (.istore 4) ∧ 4 = 4 ∧ 4 < mj_Y.nL kY 145 ∧ 6 = 4 + 2 := by decide +kernel
theorem c145_6 : mj_Y.code kY 145 6 = some (.iload_n 3) ∧ ((3 : Fin 4) : Nat) = 3 ∧ 7 = 6 + 1 := by decide +kernel
theorem c145_7 : mj_Y.code kY 145 7 = some (.iload 4) ∧ 4 = 4 ∧ 9 = 7 + 2 := by decide +kernel
theorem c145_9 : mj_Y.code kY 145 9 = some (.if_icmp .ge 13) ∧ mj_tg 9 13 = some 22 ∧ 12 = 9 + 3 := by decide +kernel
theorem c145_12 : mj_Y.code kY 145 12 = some (.aload_n 0) ∧ ((0 : Fin 4) : Nat) = 0 ∧ 13 = 12 + 1 := by decide +kernel
theorem c145_13 : mj_Y.code kY 145 13 = some (.iload_n 3) ∧ ((3 : Fin 4) : Nat) = 3 ∧ 14 = 13 + 1 := by decide +kernel
theorem c145_14 : mj_Y.code kY 145 14 = some (.lload_n 1) ∧ ((1 : Fin 4) : Nat) = 1 ∧ 15 = 14 + 1 := by decide +kernel
theorem c145_15 : mj_Y.code kY 145 15 = some .lastore ∧ 16 = 15 + 1 := by decide +kernel
theorem c145_16 : mj_Y.code kY 145 16 = some (.iinc 3 1) ∧ 3 < mj_Y.nL kY 145 ∧ Int32.ofInt 1 = 1 ∧ 19 = 16 + 3 := by decide +kernel
theorem c145_19 : mj_Y.code kY 145 19 = some (.goto (-13)) ∧ mj_tg 19 (-13) = some 6 := by decide +kernel
theorem c145_22 : mj_Y.code kY 145 22 = some .return_ ∧ mj_Y.rt kY 145 = none := by decide +kernel
theorem c146_0 : mj_Y.code kY 146 0 = some (.iload_n 2) ∧ ((2 : Fin 4) : Nat) = 2 ∧ 1 = 0 + 1 := by decide +kernel
theorem c146_1 : mj_Y.code kY 146 1 = some (.aload_n 0) ∧ ((0 : Fin 4) : Nat) = 0 ∧ 2 = 1 + 1 := by decide +kernel
theorem c146_2 : mj_Y.code kY 146 2 = some (.getfield 30) ∧ mj_Y.fl kY 146 30 8 = some (3, .int, false) ∧ 5 = 2 + 3 := by decide +kernel
theorem c146_5 : mj_Y.code kY 146 5 = some (.invokestatic 82) ∧ mj_Y.pr kY 146 82 = none ∧ mj_Y.cs kY 146 82 = some (21, 2) ∧ mj_Y.nL kY 21 = 2 ∧ 8 = 5 + 3 := by decide +kernel
theorem c146_8 : mj_Y.code kY 146 8 = some (.istore 7) ∧ 7 = 7 ∧ 7 < mj_Y.nL kY 146 ∧ 10 = 8 + 2 := by decide +kernel
theorem c146_10 : mj_Y.code kY 146 10 = some (.iload 4) ∧ 4 = 4 ∧ 12 = 10 + 2 := by decide +kernel
theorem c146_12 : mj_Y.code kY 146 12 = some (.iload_n 2) ∧ ((2 : Fin 4) : Nat) = 2 ∧ 13 = 12 + 1 := by decide +kernel
theorem c146_13 : mj_Y.code kY 146 13 = some (.iload_n 3) ∧ ((3 : Fin 4) : Nat) = 3 ∧ 14 = 13 + 1 := by decide +kernel
theorem c146_14 : mj_Y.code kY 146 14 = some .iadd ∧ 15 = 14 + 1 := by decide +kernel
theorem c146_15 : mj_Y.code kY 146 15 = some (.aload_n 0) ∧ ((0 : Fin 4) : Nat) = 0 ∧ 16 = 15 + 1 := by decide +kernel
theorem c146_16 : mj_Y.code kY 146 16 = some (.getfield 30) ∧ mj_Y.fl kY 146 30 8 = some (3, .int, false) ∧ 19 = 16 + 3 := by decide +kernel
theorem c146_19 : mj_Y.code kY 146 19 = some (.invokestatic 82) ∧ mj_Y.pr kY 146 82 = none ∧ mj_Y.cs kY 146 82 = some (21, 2) ∧ mj_Y.nL kY 21 = 2 ∧ 22 = 19 + 3 := by decide +kernel
theorem c146_22 : mj_Y.code kY 146 22 = some (.iload 7) ∧ 7 = 7 ∧ 24 = 22 + 2 := by decide +kernel
theorem c146_24 : mj_Y.code kY 146 24 = some .isub ∧ 25 = 24 + 1 := by decide +kernel
theorem c146_25 : mj_Y.code kY 146 25 = some .imul ∧ 26 = 25 + 1 := by decide +kernel
theorem c146_26 : mj_Y.code kY 146 26 = some (.istore 8) ∧ 8 = 8 ∧ 8 < mj_Y.nL kY 146 ∧ 28 = 26 + 2 := by decide +kernel
theorem c146_28 : mj_Y.code kY 146 28 = some (.aload_n 1) ∧ ((1 : Fin 4) : Nat) = 1 ∧ 29 = 28 + 1 := by decide +kernel
theorem c146_29 : mj_Y.code kY 146 29 = some (.iload_n 2) ∧ ((2 : Fin 4) : Nat) = 2 ∧ 30 = 29 + 1 := by decide +kernel
theorem c146_30 : mj_Y.code kY 146 30 = some .aaload ∧ 31 = 30 + 1 := by decide +kernel
theorem c146_31 : mj_Y.code kY 146 31 = some (.astore 9) ∧ 9 = 9 ∧ 9 < mj_Y.nL kY 146 ∧ 33 = 31 + 2 := by decide +kernel
theorem c146_33 : mj_Y.code kY 146 33 = some (.aload_n 1) ∧ ((1 : Fin 4) : Nat) = 1 ∧ 34 = 33 + 1 := by decide +kernel
theorem c146_34 : mj_Y.code kY 146 34 = some (.iload_n 2) ∧ ((2 : Fin 4) : Nat) = 2 ∧ 35 = 34 + 1 := by decide +kernel
theorem c146_35 : mj_Y.code kY 146 35 = some (.iload_n 3) ∧ ((3 : Fin 4) : Nat) = 3 ∧ 36 = 35 + 1 := by decide +kernel
theorem c146_36 : mj_Y.code kY 146 36 = some .iadd ∧ 37 = 36 + 1 := by decide +kernel
theorem c146_37 : mj_Y.code kY 146 37 = some .aaload ∧ 38 = 37 + 1 := by decide +kernel
theorem c146_38 : mj_Y.code kY 146 38 = some (.astore 10) ∧ 10 = 10 ∧ 10 < mj_Y.nL kY 146 ∧ 40 = 38 + 2 := by decide +kernel
theorem c146_40 : mj_Y.code kY 146 40 = some (.iconst 0) ∧ Int32.ofInt 0 = 0 ∧ 41 = 40 + 1 := by decide +kernel
theorem c146_41 : mj_Y.code kY 146 41 = some (.istore 11) ∧ 11 = 11 ∧ 11 < mj_Y.nL kY 146 ∧ 43 = 41 + 2 := by decide +kernel
theorem c146_43 : mj_Y.code kY 146 43 = some (.iload 11) ∧ 11 = 11 ∧ 45 = 43 + 2 := by decide +kernel
theorem c146_45 : mj_Y.code kY 146 45 = some (.iload 7) ∧ 7 = 7 ∧ 47 = 45 + 2 := by decide +kernel
theorem c146_47 : mj_Y.code kY 146 47 = some (.aload_n 0) ∧ ((0 : Fin 4) : Nat) = 0 ∧ 48 = 47 + 1 := by decide +kernel
theorem c146_48 : mj_Y.code kY 146 48 = some (.getfield 23) ∧ mj_Y.fl kY 146 23 8 = some (1, .int, false) ∧ 51 = 48 + 3 := by decide +kernel
theorem c146_51 : mj_Y.code kY 146 51 = some .imul ∧ 52 = 51 + 1 := by decide +kernel
theorem c146_52 : mj_Y.code kY 146 52 = some (.if_icmp .gt 28) ∧ mj_tg 52 28 = some 80 ∧ 55 = 52 + 3 := by decide +kernel
theorem c146_55 : mj_Y.code kY 146 55 = some (.aload 10) ∧ 10 = 10 ∧ 57 = 55 + 2 := by decide +kernel
theorem c146_57 : mj_Y.code kY 146 57 = some (.iload 11) ∧ 11 = 11 ∧ 59 = 57 + 2 := by decide +kernel
theorem c146_59 : mj_Y.code kY 146 59 = some (.iload 8) ∧ 8 = 8 ∧ 61 = 59 + 2 := by decide +kernel
theorem c146_61 : mj_Y.code kY 146 61 = some .iadd ∧ 62 = 61 + 1 := by decide +kernel
theorem c146_62 : mj_Y.code kY 146 62 = some .dup2 ∧ 63 = 62 + 1 := by decide +kernel
theorem c146_63 : mj_Y.code kY 146 63 = some .laload ∧ 64 = 63 + 1 := by decide +kernel
theorem c146_64 : mj_Y.code kY 146 64 = some (.lload 5) ∧ 5 = 5 ∧ 66 = 64 + 2 := by decide +kernel
theorem c146_66 : mj_Y.code kY 146 66 = some (.aload 9) ∧ 9 = 9 ∧ 68 = 66 + 2 := by decide +kernel
theorem c146_68 : mj_Y.code kY 146 68 = some (.iload 11) ∧ 11 = 11 ∧ 70 = 68 + 2 := by decide +kernel
theorem c146_70 : mj_Y.code kY 146 70 = some .laload ∧ 71 = 70 + 1 := by decide +kernel
theorem c146_71 : mj_Y.code kY 146 71 = some .lmul ∧ 72 = 71 + 1 := by decide +kernel
theorem c146_72 : mj_Y.code kY 146 72 = some .ladd ∧ 73 = 72 + 1 := by decide +kernel
theorem c146_73 : mj_Y.code kY 146 73 = some .lastore ∧ 74 = 73 + 1 := by decide +kernel
theorem c146_74 : mj_Y.code kY 146 74 = some (.iinc 11 1) ∧ 11 < mj_Y.nL kY 146 ∧ Int32.ofInt 1 = 1 ∧ 77 = 74 + 3 := by decide +kernel
theorem c146_77 : mj_Y.code kY 146 77 = some (.goto (-34)) ∧ mj_tg 77 (-34) = some 43 := by decide +kernel
theorem c146_80 : mj_Y.code kY 146 80 = some .return_ ∧ mj_Y.rt kY 146 = none := by decide +kernel
theorem c147_0 : mj_Y.code kY 147 0 = some (.lconst 1) ∧ Int64.ofNat ((1 : Fin 2) : Nat) = 1 ∧ 1 = 0 + 1 := by decide +kernel
theorem c147_1 : mj_Y.code kY 147 1 = some (.lstore_n 2) ∧ ((2 : Fin 4) : Nat) = 2 ∧ 2 + 1 < mj_Y.nL kY 147 ∧ 2 = 1 + 1 := by decide +kernel
theorem c147_2 : mj_Y.code kY 147 2 = some (.iconst 1) ∧ Int32.ofInt 1 = 1 ∧ 3 = 2 + 1 := by decide +kernel
theorem c147_3 : mj_Y.code kY 147 3 = some (.istore 4) ∧ 4 = 4 ∧ 4 < mj_Y.nL kY 147 ∧ 5 = 3 + 2 := by decide +kernel
theorem c147_5 : mj_Y.code kY 147 5 = some (.iload 4) ∧ 4 = 4 ∧ 7 = 5 + 2 := by decide +kernel
theorem c147_7 : mj_Y.code kY 147 7 = some (.iload_n 0) ∧ ((0 : Fin 4) : Nat) = 0 ∧ 8 = 7 + 1 := by decide +kernel
theorem c147_8 : mj_Y.code kY 147 8 = some (.if_icmp .gt 23) ∧ mj_tg 8 23 = some 31 ∧ 11 = 8 + 3 := by decide +kernel
theorem c147_11 : mj_Y.code kY 147 11 = some (.lload_n 2) ∧ ((2 : Fin 4) : Nat) = 2 ∧ 12 = 11 + 1 := by decide +kernel
theorem c147_12 : mj_Y.code kY 147 12 = some (.iload_n 1) ∧ ((1 : Fin 4) : Nat) = 1 ∧ 13 = 12 + 1 := by decide +kernel
theorem c147_13 : mj_Y.code kY 147 13 = some (.iload_n 0) ∧ ((0 : Fin 4) : Nat) = 0 ∧ 14 = 13 + 1 := by decide +kernel
theorem c147_14 : mj_Y.code kY 147 14 = some .isub ∧ 15 = 14 + 1 := by decide +kernel
theorem c147_15 : mj_Y.code kY 147 15 = some (.iload 4) ∧ 4 = 4 ∧ 17 = 15 + 2 := by decide +kernel
theorem c147_17 : mj_Y.code kY 147 17 = some .iadd ∧ 18 = 17 + 1 := by decide +kernel
theorem c147_18 : mj_Y.code kY 147 18 = some .i2l ∧ 19 = 18 + 1 := by decide +kernel
theorem c147_19 : mj_Y.code kY 147 19 = some .lmul ∧ 20 = 19 + 1 := by decide +kernel
theorem c147_20 : mj_Y.code kY 147 20 = some (.iload 4) ∧ 4 = 4 ∧ 22 = 20 + 2 := by decide +kernel
theorem c147_22 : mj_Y.code kY 147 22 = some .i2l ∧ 23 = 22 + 1 := by decide +kernel
theorem c147_23 : mj_Y.code kY 147 23 = some .ldiv ∧ 24 = 23 + 1 := by decide +kernel
theorem c147_24 : mj_Y.code kY 147 24 = some (.lstore_n 2) ∧ ((2 : Fin 4) : Nat) = 2 ∧ 2 + 1 < mj_Y.nL kY 147 ∧ 25 = 24 + 1 := by decide +kernel
theorem c147_25 : mj_Y.code kY 147 25 = some (.iinc 4 1) ∧ 4 < mj_Y.nL kY 147 ∧ Int32.ofInt 1 = 1 ∧ 28 = 25 + 3 := by decide +kernel
theorem c147_28 : mj_Y.code kY 147 28 = some (.goto (-23)) ∧ mj_tg 28 (-23) = some 5 := by decide +kernel
theorem c147_31 : mj_Y.code kY 147 31 = some (.lload_n 2) ∧ ((2 : Fin 4) : Nat) = 2 ∧ 32 = 31 + 1 := by decide +kernel
theorem c147_32 : mj_Y.code kY 147 32 = some .lreturn ∧ mj_Y.rt kY 147 = some .long := by decide +kernel
theorem c148_0 : mj_Y.code kY 148 0 = some (.iload_n 1) ∧ ((1 : Fin 4) : Nat) = 1 ∧ 1 = 0 + 1 := by decide +kernel
theorem c148_1 : mj_Y.code kY 148 1 = some (.aload_n 0) ∧ ((0 : Fin 4) : Nat) = 0 ∧ 2 = 1 + 1 := by decide +kernel
theorem c148_2 : mj_Y.code kY 148 2 = some .arraylength ∧ 3 = 2 + 1 := by decide +kernel
theorem c148_3 : mj_Y.code kY 148 3 = some (.if_icmp .ne 11) ∧ mj_tg 3 11 = some 14 ∧ 6 = 3 + 3 := by decide +kernel
theorem c148_6 : mj_Y.code kY 148 6 = some (.aload_n 0) ∧ ((0 : Fin 4) : Nat) = 0 ∧ 7 = 6 + 1 := by decide +kernel
theorem c148_7 : mj_Y.code kY 148 7 = some (.invokevirtual 319) ∧ mj_Y.na kY 148 319 = none ∧ mj_Y.pr kY 148 319 = some 8 ∧ 10 = 7 + 3 := by decide +kernel
theorem c148_10 : mj_Y.code kY 148 10 = some (.checkcast 320) ∧ mj_Y.pr kY 148 320 = some 4 ∧ 13 = 10 + 3 := by decide +kernel
theorem c148_13 : mj_Y.code kY 148 13 = some .areturn ∧ mj_Y.rt kY 148 = some (.array .long) ∧ ((.array .long) : FieldType).isReference = true := by decide +kernel
theorem c148_14 : mj_Y.code kY 148 14 = some (.iload_n 1) ∧ ((1 : Fin 4) : Nat) = 1 ∧ 15 = 14 + 1 := by decide +kernel
theorem c148_15 : mj_Y.code kY 148 15 = some (.newarray .long) ∧ newarray.typeOf .long = .long ∧ 17 = 15 + 2 := by decide +kernel
theorem c148_17 : mj_Y.code kY 148 17 = some (.astore_n 2) ∧ ((2 : Fin 4) : Nat) = 2 ∧ 2 < mj_Y.nL kY 148 ∧ 18 = 17 + 1 := by decide +kernel
theorem c148_18 : mj_Y.code kY 148 18 = some (.aload_n 0) ∧ ((0 : Fin 4) : Nat) = 0 ∧ 19 = 18 + 1 := by decide +kernel
theorem c148_19 : mj_Y.code kY 148 19 = some (.iconst 0) ∧ Int32.ofInt 0 = 0 ∧ 20 = 19 + 1 := by decide +kernel
theorem c148_20 : mj_Y.code kY 148 20 = some (.aload_n 2) ∧ ((2 : Fin 4) : Nat) = 2 ∧ 21 = 20 + 1 := by decide +kernel
theorem c148_21 : mj_Y.code kY 148 21 = some (.iconst 0) ∧ Int32.ofInt 0 = 0 ∧ 22 = 21 + 1 := by decide +kernel
theorem c148_22 : mj_Y.code kY 148 22 = some (.aload_n 0) ∧ ((0 : Fin 4) : Nat) = 0 ∧ 23 = 22 + 1 := by decide +kernel
theorem c148_23 : mj_Y.code kY 148 23 = some .arraylength ∧ 24 = 23 + 1 := by decide +kernel
theorem c148_24 : mj_Y.code kY 148 24 = some (.iload_n 1) ∧ ((1 : Fin 4) : Nat) = 1 ∧ 25 = 24 + 1 := by decide +kernel
theorem c148_25 : mj_Y.code kY 148 25 = some (.invokestatic 304) ∧ mj_Y.pr kY 148 304 = none ∧ mj_Y.cs kY 148 304 = some (21, 2) ∧ mj_Y.nL kY 21 = 2 ∧ 28 = 25 + 3 := by decide +kernel
theorem c148_28 : mj_Y.code kY 148 28 = some (.invokestatic 150) ∧ mj_Y.pr kY 148 150 = some 0 ∧ 31 = 28 + 3 := by decide +kernel
theorem c148_31 : mj_Y.code kY 148 31 = some (.aload_n 2) ∧ ((2 : Fin 4) : Nat) = 2 ∧ 32 = 31 + 1 := by decide +kernel
theorem c148_32 : mj_Y.code kY 148 32 = some .areturn ∧ mj_Y.rt kY 148 = some (.array .long) ∧ ((.array .long) : FieldType).isReference = true := by decide +kernel
theorem c149_0 : mj_Y.code kY 149 0 = some (.aload_n 0) ∧ ((0 : Fin 4) : Nat) = 0 ∧ 1 = 0 + 1 := by decide +kernel
theorem c149_1 : mj_Y.code kY 149 1 = some (.getfield 22) ∧ mj_Y.fl kY 149 22 3 = some (3, .int, true) ∧ 4 = 1 + 3 := by decide +kernel
theorem c149_4 : mj_Y.code kY 149 4 = some (.bipush 40) ∧ (Int8.ofInt 40).toInt32 = 40 ∧ 6 = 4 + 2 := by decide +kernel
theorem c149_6 : mj_Y.code kY 149 6 = some (.if_icmp .ge 33) ∧ mj_tg 6 33 = some 39 ∧ 9 = 6 + 3 := by decide +kernel
theorem c149_9 : mj_Y.code kY 149 9 = some (.aload_n 0) ∧ ((0 : Fin 4) : Nat) = 0 ∧ 10 = 9 + 1 := by decide +kernel
theorem c149_10 : mj_Y.code kY 149 10 = some (.getfield 19) ∧ mj_Y.fl kY 149 19 3 = some (2, (.array .int), false) ∧ 13 = 10 + 3 := by decide +kernel
theorem c149_13 : mj_Y.code kY 149 13 = some (.aload_n 0) ∧ ((0 : Fin 4) : Nat) = 0 ∧ 14 = 13 + 1 := by decide +kernel
theorem c149_14 : mj_Y.code kY 149 14 = some (.getfield 22) ∧ mj_Y.fl kY 149 22 3 = some (3, .int, true) ∧ 17 = 14 + 3 := by decide +kernel
theorem c149_17 : mj_Y.code kY 149 17 = some (.iconst 1) ∧ Int32.ofInt 1 = 1 ∧ 18 = 17 + 1 := by decide +kernel
theorem c149_18 : mj_Y.code kY 149 18 = some .iadd ∧ 19 = 18 + 1 := by decide +kernel
theorem c149_19 : mj_Y.code kY 149 19 = some (.aload_n 0) ∧ ((0 : Fin 4) : Nat) = 0 ∧ 20 = 19 + 1 := by decide +kernel
theorem c149_20 : mj_Y.code kY 149 20 = some (.getfield 19) ∧ mj_Y.fl kY 149 19 3 = some (2, (.array .int), false) ∧ 23 = 20 + 3 := by decide +kernel
theorem c149_23 : mj_Y.code kY 149 23 = some (.aload_n 0) ∧ ((0 : Fin 4) : Nat) = 0 ∧ 24 = 23 + 1 := by decide +kernel
theorem c149_24 : mj_Y.code kY 149 24 = some (.getfield 22) ∧ mj_Y.fl kY 149 22 3 = some (3, .int, true) ∧ 27 = 24 + 3 := by decide +kernel
theorem c149_27 : mj_Y.code kY 149 27 = some .iaload ∧ 28 = 27 + 1 := by decide +kernel
theorem c149_28 : mj_Y.code kY 149 28 = some .iastore ∧ 29 = 28 + 1 := by decide +kernel
theorem c149_29 : mj_Y.code kY 149 29 = some (.aload_n 0) ∧ ((0 : Fin 4) : Nat) = 0 ∧ 30 = 29 + 1 := by decide +kernel
theorem c149_30 : mj_Y.code kY 149 30 = some .dup ∧ 31 = 30 + 1 := by decide +kernel
theorem c149_31 : mj_Y.code kY 149 31 = some (.getfield 22) ∧ mj_Y.fl kY 149 22 3 = some (3, .int, true) ∧ 34 = 31 + 3 := by decide +kernel
theorem c149_34 : mj_Y.code kY 149 34 = some (.iconst 1) ∧ Int32.ofInt 1 = 1 ∧ 35 = 34 + 1 := by decide +kernel
theorem c149_35 : mj_Y.code kY 149 35 = some .iadd ∧ 36 = 35 + 1 := by decide +kernel
theorem c149_36 : mj_Y.code kY 149 36 = some (.putfield 22) ∧ mj_Y.fl kY 149 22 3 = some (3, .int, true) ∧ 39 = 36 + 3 := by decide +kernel
theorem c149_39 : mj_Y.code kY 149 39 = some .return_ ∧ mj_Y.rt kY 149 = none := by decide +kernel
theorem c150_0 : mj_Y.code kY 150 0 = some (.aload_n 0) ∧ ((0 : Fin 4) : Nat) = 0 ∧ 1 = 0 + 1 := by decide +kernel
theorem c150_1 : mj_Y.code kY 150 1 = some (.getfield 19) ∧ mj_Y.fl kY 150 19 3 = some (2, (.array .int), false) ∧ 4 = 1 + 3 := by decide +kernel
theorem c150_4 : mj_Y.code kY 150 4 = some (.aload_n 0) ∧ ((0 : Fin 4) : Nat) = 0 ∧ 5 = 4 + 1 := by decide +kernel
theorem c150_5 : mj_Y.code kY 150 5 = some (.getfield 22) ∧ mj_Y.fl kY 150 22 3 = some (3, .int, true) ∧ 8 = 5 + 3 := by decide +kernel
theorem c150_8 : mj_Y.code kY 150 8 = some .iaload ∧ 9 = 8 + 1 := by decide +kernel
theorem c150_9 : mj_Y.code kY 150 9 = some (.istore 4) ∧ 4 = 4 ∧ 4 < mj_Y.nL kY 150 ∧ 11 = 9 + 2 := by decide +kernel
theorem c150_11 : mj_Y.code kY 150 11 = some (.iload 4) ∧ 4 = 4 ∧ 13 = 11 + 2 := by decide +kernel
theorem c150_13 : mj_Y.code kY 150 13 = some (.sipush 4598) ∧ (Int16.ofInt 4598).toInt32 = 4598 ∧ 16 = 13 + 3 := by decide +kernel
theorem c150_16 : mj_Y.code kY 150 16 = some (.if_icmp .ge 32) ∧ mj_tg 16 32 = some 48 ∧ 19 = 16 + 3 := by decide +kernel
theorem c150_19 : mj_Y.code kY 150 19 = some (.aload_n 0) ∧ ((0 : Fin 4) : Nat) = 0 ∧ 20 = 19 + 1 := by decide +kernel
theorem c150_20 : mj_Y.code kY 150 20 = some (.getfield 11) ∧ mj_Y.fl kY 150 11 3 = some (0, (.array .int), false) ∧ 23 = 20 + 3 := by decide +kernel
theorem c150_23 : mj_Y.code kY 150 23 = some (.iload 4) ∧ 4 = 4 ∧ 25 = 23 + 2 := by decide +kernel
theorem c150_25 : mj_Y.code kY 150 25 = some (.iload_n 1) ∧ ((1 : Fin 4) : Nat) = 1 ∧ 26 = 25 + 1 := by decide +kernel
theorem c150_26 : mj_Y.code kY 150 26 = some .iastore ∧ 27 = 26 + 1 := by decide +kernel
theorem c150_27 : mj_Y.code kY 150 27 = some (.aload_n 0) ∧ ((0 : Fin 4) : Nat) = 0 ∧ 28 = 27 + 1 := by decide +kernel
theorem c150_28 : mj_Y.code kY 150 28 = some (.getfield 15) ∧ mj_Y.fl kY 150 15 3 = some (1, (.array .long), false) ∧ 31 = 28 + 3 := by decide +kernel
theorem c150_31 : mj_Y.code kY 150 31 = some (.iload 4) ∧ 4 = 4 ∧ 33 = 31 + 2 := by decide +kernel
theorem c150_33 : mj_Y.code kY 150 33 = some (.lload_n 2) ∧ ((2 : Fin 4) : Nat) = 2 ∧ 34 = 33 + 1 := by decide +kernel
theorem c150_34 : mj_Y.code kY 150 34 = some .lastore ∧ 35 = 34 + 1 := by decide +kernel
theorem c150_35 : mj_Y.code kY 150 35 = some (.aload_n 0) ∧ ((0 : Fin 4) : Nat) = 0 ∧ 36 = 35 + 1 := by decide +kernel
theorem c150_36 : mj_Y.code kY 150 36 = some (.getfield 19) ∧ mj_Y.fl kY 150 19 3 = some (2, (.array .int), false) ∧ 39 = 36 + 3 := by decide +kernel
theorem c150_39 : mj_Y.code kY 150 39 = some (.aload_n 0) ∧ ((0 : Fin 4) : Nat) = 0 ∧ 40 = 39 + 1 := by decide +kernel
theorem c150_40 : mj_Y.code kY 150 40 = some (.getfield 22) ∧ mj_Y.fl kY 150 22 3 = some (3, .int, true) ∧ 43 = 40 + 3 := by decide +kernel
theorem c150_43 : mj_Y.code kY 150 43 = some (.iload 4) ∧ 4 = 4 ∧ 45 = 43 + 2 := by decide +kernel
theorem c150_45 : mj_Y.code kY 150 45 = some (.iconst 1) ∧ Int32.ofInt 1 = 1 ∧ 46 = 45 + 1 := by decide +kernel
theorem c150_46 : mj_Y.code kY 150 46 = some .iadd ∧ 47 = 46 + 1 := by decide +kernel
theorem c150_47 : mj_Y.code kY 150 47 = some .iastore ∧ 48 = 47 + 1 := by decide +kernel
theorem c150_48 : mj_Y.code kY 150 48 = some .return_ ∧ mj_Y.rt kY 150 = none := by decide +kernel
theorem c151_0 : mj_Y.code kY 151 0 = some (.aload_n 0) ∧ ((0 : Fin 4) : Nat) = 0 ∧ 1 = 0 + 1 := by decide +kernel
theorem c151_1 : mj_Y.code kY 151 1 = some (.getfield 13) ∧ mj_Y.fl kY 151 13 6 = some (0, (.object "DiceOdds$Expression"), false) ∧ 4 = 1 + 3 := by decide +kernel
theorem c151_4 : mj_Y.code kY 151 4 = some (.aload_n 1) ∧ ((1 : Fin 4) : Nat) = 1 ∧ 5 = 4 + 1 := by decide +kernel
theorem c151_5 : mj_Y.code kY 151 5 = some (.aload_n 2) ∧ ((2 : Fin 4) : Nat) = 2 ∧ 6 = 5 + 1 := by decide +kernel
theorem c151_6 : mj_Y.code kY 151 6 = some (.iload_n 3) ∧ ((3 : Fin 4) : Nat) = 3 ∧ 7 = 6 + 1 := by decide +kernel
theorem c151_7_t : ∀ c k2, dl c = some k2 → mj_Y.cv kY 151 33 c = some k2 ∧ 4 ≤ mj_Y.nL kY k2 ∧ mj_Y.nL kY k2 ≤ 20 := by
  intro c n h
  have hc : c = 6 ∨ c = 7 ∨ c = 8 ∨ c = 9 ∨ c = 10 := dl_c h
  rcases hc with rfl | rfl | rfl | rfl | rfl <;> (cases h; decide +kernel)
theorem c151_7 : mj_Y.code kY 151 7 = some (.invokevirtual 33) ∧ mj_Y.na kY 151 33 = some 3 ∧ 10 = 7 + 3 := by decide +kernel
theorem c151_10 : mj_Y.code kY 151 10 = some (.istore 4) ∧ 4 = 4 ∧ 4 < mj_Y.nL kY 151 ∧ 12 = 10 + 2 := by decide +kernel
theorem c151_12 : mj_Y.code kY 151 12 = some (.aload_n 1) ∧ ((1 : Fin 4) : Nat) = 1 ∧ 13 = 12 + 1 := by decide +kernel
theorem c151_13 : mj_Y.code kY 151 13 = some (.invokevirtual 37) ∧ mj_Y.na kY 151 37 = some 0 ∧ mj_Y.cv kY 151 37 3 = some 161 ∧ mj_Y.nL kY 161 = 2 ∧ 16 = 13 + 3 := by decide +kernel
theorem c151_16 : mj_Y.code kY 151 16 = some (.iload 4) ∧ 4 = 4 ∧ 18 = 16 + 2 := by decide +kernel
theorem c151_18 : mj_Y.code kY 151 18 = some .ireturn ∧ mj_Y.rt kY 151 = some .boolean := by decide +kernel
theorem c152_0 : mj_Y.code kY 152 0 = some (.aload_n 0) ∧ ((0 : Fin 4) : Nat) = 0 ∧ 1 = 0 + 1 := by decide +kernel
theorem c152_1 : mj_Y.code kY 152 1 = some (.getfield 23) ∧ mj_Y.fl kY 152 23 10 = some (1, (.object "DiceOdds$Expression"), false) ∧ 4 = 1 + 3 := by decide +kernel
theorem c152_4 : mj_Y.code kY 152 4 = some (.aload_n 1) ∧ ((1 : Fin 4) : Nat) = 1 ∧ 5 = 4 + 1 := by decide +kernel
theorem c152_5 : mj_Y.code kY 152 5 = some (.aload_n 2) ∧ ((2 : Fin 4) : Nat) = 2 ∧ 6 = 5 + 1 := by decide +kernel
theorem c152_6 : mj_Y.code kY 152 6 = some (.iload_n 3) ∧ ((3 : Fin 4) : Nat) = 3 ∧ 7 = 6 + 1 := by decide +kernel
theorem c152_7_t : ∀ c k2, dl c = some k2 → mj_Y.cv kY 152 49 c = some k2 ∧ 4 ≤ mj_Y.nL kY k2 ∧ mj_Y.nL kY k2 ≤ 20 := by
  intro c n h
  have hc : c = 6 ∨ c = 7 ∨ c = 8 ∨ c = 9 ∨ c = 10 := dl_c h
  rcases hc with rfl | rfl | rfl | rfl | rfl <;> (cases h; decide +kernel)
theorem c152_7 : mj_Y.code kY 152 7 = some (.invokevirtual 49) ∧ mj_Y.na kY 152 49 = some 3 ∧ 10 = 7 + 3 := by decide +kernel
theorem c152_10 : mj_Y.code kY 152 10 = some (.ifCond .eq 31) ∧ mj_tg 10 31 = some 41 ∧ 13 = 10 + 3 := by decide +kernel
theorem c152_13 : mj_Y.code kY 152 13 = some (.aload_n 0) ∧ ((0 : Fin 4) : Nat) = 0 ∧ 14 = 13 + 1 := by decide +kernel
theorem c152_14 : mj_Y.code kY 152 14 = some (.getfield 27) ∧ mj_Y.fl kY 152 27 10 = some (2, (.object "DiceOdds$Expression"), false) ∧ 17 = 14 + 3 := by decide +kernel
theorem c152_17 : mj_Y.code kY 152 17 = some (.aload_n 1) ∧ ((1 : Fin 4) : Nat) = 1 ∧ 18 = 17 + 1 := by decide +kernel
theorem c152_18 : mj_Y.code kY 152 18 = some (.aload_n 2) ∧ ((2 : Fin 4) : Nat) = 2 ∧ 19 = 18 + 1 := by decide +kernel
theorem c152_19 : mj_Y.code kY 152 19 = some (.iload_n 3) ∧ ((3 : Fin 4) : Nat) = 3 ∧ 20 = 19 + 1 := by decide +kernel
theorem c152_20_t : ∀ c k2, dl c = some k2 → mj_Y.cv kY 152 49 c = some k2 ∧ 4 ≤ mj_Y.nL kY k2 ∧ mj_Y.nL kY k2 ≤ 20 := by
  intro c n h
  have hc : c = 6 ∨ c = 7 ∨ c = 8 ∨ c = 9 ∨ c = 10 := dl_c h
  rcases hc with rfl | rfl | rfl | rfl | rfl <;> (cases h; decide +kernel)
theorem c152_20 : mj_Y.code kY 152 20 = some (.invokevirtual 49) ∧ mj_Y.na kY 152 49 = some 3 ∧ 23 = 20 + 3 := by decide +kernel
theorem c152_23 : mj_Y.code kY 152 23 = some (.ifCond .eq 18) ∧ mj_tg 23 18 = some 41 ∧ 26 = 23 + 3 := by decide +kernel
theorem c152_26 : mj_Y.code kY 152 26 = some (.aload_n 1) ∧ ((1 : Fin 4) : Nat) = 1 ∧ 27 = 26 + 1 := by decide +kernel
theorem c152_27 : mj_Y.code kY 152 27 = some (.aload_n 0) ∧ ((0 : Fin 4) : Nat) = 0 ∧ 28 = 27 + 1 := by decide +kernel
theorem c152_28 : mj_Y.code kY 152 28 = some (.getfield 17) ∧ mj_Y.fl kY 152 17 10 = some (0, .char, false) ∧ 31 = 28 + 3 := by decide +kernel
theorem c152_31 : mj_Y.code kY 152 31 = some (.invokevirtual 53) ∧ mj_Y.na kY 152 53 = some 1 ∧ mj_Y.cv kY 152 53 3 = some 156 ∧ mj_Y.nL kY 156 = 5 ∧ 34 = 31 + 3 := by decide +kernel
theorem c152_34 : mj_Y.code kY 152 34 = some (.ifCond .eq 7) ∧ mj_tg 34 7 = some 41 ∧ 37 = 34 + 3 := by decide +kernel
theorem c152_37 : mj_Y.code kY 152 37 = some (.iconst 1) ∧ Int32.ofInt 1 = 1 ∧ 38 = 37 + 1 := by decide +kernel
theorem c152_38 : mj_Y.code kY 152 38 = some (.goto 4) ∧ mj_tg 38 4 = some 42 := by decide +kernel
theorem c152_41 : mj_Y.code kY 152 41 = some (.iconst 0) ∧ Int32.ofInt 0 = 0 ∧ 42 = 41 + 1 := by decide +kernel
theorem c152_42 : mj_Y.code kY 152 42 = some .ireturn ∧ mj_Y.rt kY 152 = some .boolean := by decide +kernel
theorem c153_0 : mj_Y.code kY 153 0 = some (.aload_n 1) ∧ ((1 : Fin 4) : Nat) = 1 ∧ 1 = 0 + 1 := by decide +kernel
theorem c153_1 : mj_Y.code kY 153 1 = some (.invokevirtual 27) ∧ mj_Y.na kY 153 27 = some 0 ∧ mj_Y.cv kY 153 27 3 = some 149 ∧ mj_Y.nL kY 149 = 1 ∧ 4 = 1 + 3 := by decide +kernel
theorem c153_4 : mj_Y.code kY 153 4 = some (.aload_n 1) ∧ ((1 : Fin 4) : Nat) = 1 ∧ 5 = 4 + 1 := by decide +kernel
theorem c153_5 : mj_Y.code kY 153 5 = some (.aload_n 0) ∧ ((0 : Fin 4) : Nat) = 0 ∧ 6 = 5 + 1 := by decide +kernel
theorem c153_6 : mj_Y.code kY 153 6 = some (.getfield 9) ∧ mj_Y.fl kY 153 9 7 = some (0, .int, false) ∧ 9 = 6 + 3 := by decide +kernel
theorem c153_9 : mj_Y.code kY 153 9 = some (.sipush (-1000)) ∧ (Int16.ofInt (-1000)).toInt32 = (-1000) ∧ 12 = 9 + 3 := by decide +kernel
theorem c153_12 : mj_Y.code kY 153 12 = some (.if_icmp .ne 10) ∧ mj_tg 12 10 = some 22 ∧ 15 = 12 + 3 := by decide +kernel
theorem c153_15 : mj_Y.code kY 153 15 = some (.aload_n 0) ∧ ((0 : Fin 4) : Nat) = 0 ∧ 16 = 15 + 1 := by decide +kernel
theorem c153_16 : mj_Y.code kY 153 16 = some (.getfield 15) ∧ mj_Y.fl kY 153 15 7 = some (1, .int, false) ∧ 19 = 16 + 3 := by decide +kernel
theorem c153_19 : mj_Y.code kY 153 19 = some (.goto 12) ∧ mj_tg 19 12 = some 31 := by decide +kernel
theorem c153_22 : mj_Y.code kY 153 22 = some (.aload_n 2) ∧ ((2 : Fin 4) : Nat) = 2 ∧ 23 = 22 + 1 := by decide +kernel
theorem c153_23 : mj_Y.code kY 153 23 = some (.iload_n 3) ∧ ((3 : Fin 4) : Nat) = 3 ∧ 24 = 23 + 1 := by decide +kernel
theorem c153_24 : mj_Y.code kY 153 24 = some (.aload_n 0) ∧ ((0 : Fin 4) : Nat) = 0 ∧ 25 = 24 + 1 := by decide +kernel
theorem c153_25 : mj_Y.code kY 153 25 = some (.getfield 9) ∧ mj_Y.fl kY 153 9 7 = some (0, .int, false) ∧ 28 = 25 + 3 := by decide +kernel
theorem c153_28 : mj_Y.code kY 153 28 = some (.invokevirtual 33) ∧ mj_Y.na kY 153 33 = some 2 ∧ mj_Y.cv kY 153 33 2 = some 154 ∧ mj_Y.nL kY 154 = 3 ∧ 31 = 28 + 3 := by decide +kernel
theorem c153_31 : mj_Y.code kY 153 31 = some (.lconst 1) ∧ Int64.ofNat ((1 : Fin 2) : Nat) = 1 ∧ 32 = 31 + 1 := by decide +kernel
theorem c153_32 : mj_Y.code kY 153 32 = some (.invokevirtual 39) ∧ mj_Y.na kY 153 39 = some 2 ∧ mj_Y.cv kY 153 39 3 = some 150 ∧ mj_Y.nL kY 150 = 5 ∧ 35 = 32 + 3 := by decide +kernel
theorem c153_35 : mj_Y.code kY 153 35 = some (.iconst 1) ∧ Int32.ofInt 1 = 1 ∧ 36 = 35 + 1 := by decide +kernel
theorem c153_36 : mj_Y.code kY 153 36 = some .ireturn ∧ mj_Y.rt kY 153 = some .boolean := by decide +kernel
theorem c154_0 : mj_Y.code kY 154 0 = some (.aload_n 0) ∧ ((0 : Fin 4) : Nat) = 0 ∧ 1 = 0 + 1 := by decide +kernel
theorem c154_1 : mj_Y.code kY 154 1 = some (.getfield 9) ∧ mj_Y.fl kY 154 9 2 = some (0, (.array .int), true) ∧ 4 = 1 + 3 := by decide +kernel
theorem c154_4 : mj_Y.code kY 154 4 = some (.iload_n 1) ∧ ((1 : Fin 4) : Nat) = 1 ∧ 5 = 4 + 1 := by decide +kernel
theorem c154_5 : mj_Y.code kY 154 5 = some (.bipush 6) ∧ (Int8.ofInt 6).toInt32 = 6 ∧ 7 = 5 + 2 := by decide +kernel
theorem c154_7 : mj_Y.code kY 154 7 = some .imul ∧ 8 = 7 + 1 := by decide +kernel
theorem c154_8 : mj_Y.code kY 154 8 = some (.iload_n 2) ∧ ((2 : Fin 4) : Nat) = 2 ∧ 9 = 8 + 1 := by decide +kernel
theorem c154_9 : mj_Y.code kY 154 9 = some .iadd ∧ 10 = 9 + 1 := by decide +kernel
theorem c154_10 : mj_Y.code kY 154 10 = some .iaload ∧ 11 = 10 + 1 := by decide +kernel
theorem c154_11 : mj_Y.code kY 154 11 = some .ireturn ∧ mj_Y.rt kY 154 = some .int := by decide +kernel
theorem c155_0 : mj_Y.code kY 155 0 = some (.aload_n 1) ∧ ((1 : Fin 4) : Nat) = 1 ∧ 1 = 0 + 1 := by decide +kernel
theorem c155_1 : mj_Y.code kY 155 1 = some (.invokevirtual 22) ∧ mj_Y.na kY 155 22 = some 0 ∧ mj_Y.cv kY 155 22 3 = some 149 ∧ mj_Y.nL kY 149 = 1 ∧ 4 = 1 + 3 := by decide +kernel
theorem c155_4 : mj_Y.code kY 155 4 = some (.iconst 0) ∧ Int32.ofInt 0 = 0 ∧ 5 = 4 + 1 := by decide +kernel
theorem c155_5 : mj_Y.code kY 155 5 = some (.istore 4) ∧ 4 = 4 ∧ 4 < mj_Y.nL kY 155 ∧ 7 = 5 + 2 := by decide +kernel
theorem c155_7 : mj_Y.code kY 155 7 = some (.iload 4) ∧ 4 = 4 ∧ 9 = 7 + 2 := by decide +kernel
theorem c155_9 : mj_Y.code kY 155 9 = some (.aload_n 0) ∧ ((0 : Fin 4) : Nat) = 0 ∧ 10 = 9 + 1 := by decide +kernel
theorem c155_10 : mj_Y.code kY 155 10 = some (.getfield 7) ∧ mj_Y.fl kY 155 7 9 = some (0, (.array .int), false) ∧ 13 = 10 + 3 := by decide +kernel
theorem c155_13 : mj_Y.code kY 155 13 = some .arraylength ∧ 14 = 13 + 1 := by decide +kernel
theorem c155_14 : mj_Y.code kY 155 14 = some (.if_icmp .ge 21) ∧ mj_tg 14 21 = some 35 ∧ 17 = 14 + 3 := by decide +kernel
theorem c155_17 : mj_Y.code kY 155 17 = some (.aload_n 1) ∧ ((1 : Fin 4) : Nat) = 1 ∧ 18 = 17 + 1 := by decide +kernel
theorem c155_18 : mj_Y.code kY 155 18 = some (.aload_n 0) ∧ ((0 : Fin 4) : Nat) = 0 ∧ 19 = 18 + 1 := by decide +kernel
theorem c155_19 : mj_Y.code kY 155 19 = some (.getfield 7) ∧ mj_Y.fl kY 155 7 9 = some (0, (.array .int), false) ∧ 22 = 19 + 3 := by decide +kernel
theorem c155_22 : mj_Y.code kY 155 22 = some (.iload 4) ∧ 4 = 4 ∧ 24 = 22 + 2 := by decide +kernel
theorem c155_24 : mj_Y.code kY 155 24 = some .iaload ∧ 25 = 24 + 1 := by decide +kernel
theorem c155_25 : mj_Y.code kY 155 25 = some (.lconst 1) ∧ Int64.ofNat ((1 : Fin 2) : Nat) = 1 ∧ 26 = 25 + 1 := by decide +kernel
theorem c155_26 : mj_Y.code kY 155 26 = some (.invokevirtual 28) ∧ mj_Y.na kY 155 28 = some 2 ∧ mj_Y.cv kY 155 28 3 = some 150 ∧ mj_Y.nL kY 150 = 5 ∧ 29 = 26 + 3 := by decide +kernel
theorem c155_29 : mj_Y.code kY 155 29 = some (.iinc 4 1) ∧ 4 < mj_Y.nL kY 155 ∧ Int32.ofInt 1 = 1 ∧ 32 = 29 + 3 := by decide +kernel
theorem c155_32 : mj_Y.code kY 155 32 = some (.goto (-25)) ∧ mj_tg 32 (-25) = some 7 := by decide +kernel
theorem c155_35 : mj_Y.code kY 155 35 = some (.iconst 1) ∧ Int32.ofInt 1 = 1 ∧ 36 = 35 + 1 := by decide +kernel
theorem c155_36 : mj_Y.code kY 155 36 = some .ireturn ∧ mj_Y.rt kY 155 = some .boolean := by decide +kernel
theorem c156_0 : mj_Y.code kY 156 0 = some (.aload_n 0) ∧ ((0 : Fin 4) : Nat) = 0 ∧ 1 = 0 + 1 := by decide +kernel
theorem c156_1 : mj_Y.code kY 156 1 = some (.getfield 22) ∧ mj_Y.fl kY 156 22 3 = some (3, .int, true) ∧ 4 = 1 + 3 := by decide +kernel
theorem c156_4 : mj_Y.code kY 156 4 = some (.iconst 2) ∧ Int32.ofInt 2 = 2 ∧ 5 = 4 + 1 := by decide +kernel
theorem c156_5 : mj_Y.code kY 156 5 = some (.if_icmp .ge 5) ∧ mj_tg 5 5 = some 10 ∧ 8 = 5 + 3 := by decide +kernel
theorem c156_8 : mj_Y.code kY 156 8 = some (.iconst 0) ∧ Int32.ofInt 0 = 0 ∧ 9 = 8 + 1 := by decide +kernel
theorem c156_9 : mj_Y.code kY 156 9 = some .ireturn ∧ mj_Y.rt kY 156 = some .boolean := by decide +kernel
theorem c156_10 : mj_Y.code kY 156 10 = some (.aload_n 0) ∧ ((0 : Fin 4) : Nat) = 0 ∧ 11 = 10 + 1 := by decide +kernel
theorem c156_11 : mj_Y.code kY 156 11 = some (.iload_n 1) ∧ ((1 : Fin 4) : Nat) = 1 ∧ 12 = 11 + 1 := by decide +kernel
theorem c156_12 : mj_Y.code kY 156 12 = some (.aload_n 0) ∧ ((0 : Fin 4) : Nat) = 0 ∧ 13 = 12 + 1 := by decide +kernel
theorem c156_13 : mj_Y.code kY 156 13 = some (.getfield 19) ∧ mj_Y.fl kY 156 19 3 = some (2, (.array .int), false) ∧ 16 = 13 + 3 := by decide +kernel
theorem c156_16 : mj_Y.code kY 156 16 = some (.aload_n 0) ∧ ((0 : Fin 4) : Nat) = 0 ∧ 17 = 16 + 1 := by decide +kernel
theorem c156_17 : mj_Y.code kY 156 17 = some (.getfield 22) ∧ mj_Y.fl kY 156 22 3 = some (3, .int, true) ∧ 20 = 17 + 3 := by decide +kernel
theorem c156_20 : mj_Y.code kY 156 20 = some (.iconst 2) ∧ Int32.ofInt 2 = 2 ∧ 21 = 20 + 1 := by decide +kernel
theorem c156_21 : mj_Y.code kY 156 21 = some .isub ∧ 22 = 21 + 1 := by decide +kernel
theorem c156_22 : mj_Y.code kY 156 22 = some .iaload ∧ 23 = 22 + 1 := by decide +kernel
theorem c156_23 : mj_Y.code kY 156 23 = some (.aload_n 0) ∧ ((0 : Fin 4) : Nat) = 0 ∧ 24 = 23 + 1 := by decide +kernel
theorem c156_24 : mj_Y.code kY 156 24 = some (.getfield 19) ∧ mj_Y.fl kY 156 19 3 = some (2, (.array .int), false) ∧ 27 = 24 + 3 := by decide +kernel
theorem c156_27 : mj_Y.code kY 156 27 = some (.aload_n 0) ∧ ((0 : Fin 4) : Nat) = 0 ∧ 28 = 27 + 1 := by decide +kernel
theorem c156_28 : mj_Y.code kY 156 28 = some (.getfield 22) ∧ mj_Y.fl kY 156 22 3 = some (3, .int, true) ∧ 31 = 28 + 3 := by decide +kernel
theorem c156_31 : mj_Y.code kY 156 31 = some (.iconst 1) ∧ Int32.ofInt 1 = 1 ∧ 32 = 31 + 1 := by decide +kernel
theorem c156_32 : mj_Y.code kY 156 32 = some .isub ∧ 33 = 32 + 1 := by decide +kernel
theorem c156_33 : mj_Y.code kY 156 33 = some .iaload ∧ 34 = 33 + 1 := by decide +kernel
theorem c156_34 : mj_Y.code kY 156 34 = some (.aload_n 0) ∧ ((0 : Fin 4) : Nat) = 0 ∧ 35 = 34 + 1 := by decide +kernel
theorem c156_35 : mj_Y.code kY 156 35 = some (.getfield 19) ∧ mj_Y.fl kY 156 19 3 = some (2, (.array .int), false) ∧ 38 = 35 + 3 := by decide +kernel
theorem c156_38 : mj_Y.code kY 156 38 = some (.aload_n 0) ∧ ((0 : Fin 4) : Nat) = 0 ∧ 39 = 38 + 1 := by decide +kernel
theorem c156_39 : mj_Y.code kY 156 39 = some (.getfield 22) ∧ mj_Y.fl kY 156 22 3 = some (3, .int, true) ∧ 42 = 39 + 3 := by decide +kernel
theorem c156_42 : mj_Y.code kY 156 42 = some .iaload ∧ 43 = 42 + 1 := by decide +kernel
theorem c156_43 : mj_Y.code kY 156 43 = some (.invokevirtual 75) ∧ mj_Y.na kY 156 75 = some 4 ∧ mj_Y.cv kY 156 75 3 = some 157 ∧ mj_Y.nL kY 157 = 8 ∧ 46 = 43 + 3 := by decide +kernel
theorem c156_46 : mj_Y.code kY 156 46 = some (.istore_n 2) ∧ ((2 : Fin 4) : Nat) = 2 ∧ 2 < mj_Y.nL kY 156 ∧ 47 = 46 + 1 := by decide +kernel
theorem c156_47 : mj_Y.code kY 156 47 = some (.aload_n 0) ∧ ((0 : Fin 4) : Nat) = 0 ∧ 48 = 47 + 1 := by decide +kernel
theorem c156_48 : mj_Y.code kY 156 48 = some .dup ∧ 49 = 48 + 1 := by decide +kernel
theorem c156_49 : mj_Y.code kY 156 49 = some (.getfield 22) ∧ mj_Y.fl kY 156 22 3 = some (3, .int, true) ∧ 52 = 49 + 3 := by decide +kernel
theorem c156_52 : mj_Y.code kY 156 52 = some (.iconst 1) ∧ Int32.ofInt 1 = 1 ∧ 53 = 52 + 1 := by decide +kernel
theorem c156_53 : mj_Y.code kY 156 53 = some .isub ∧ 54 = 53 + 1 := by decide +kernel
theorem c156_54 : mj_Y.code kY 156 54 = some (.putfield 22) ∧ mj_Y.fl kY 156 22 3 = some (3, .int, true) ∧ 57 = 54 + 3 := by decide +kernel
theorem c156_57 : mj_Y.code kY 156 57 = some (.aload_n 0) ∧ ((0 : Fin 4) : Nat) = 0 ∧ 58 = 57 + 1 := by decide +kernel
theorem c156_58 : mj_Y.code kY 156 58 = some (.getfield 19) ∧ mj_Y.fl kY 156 19 3 = some (2, (.array .int), false) ∧ 61 = 58 + 3 := by decide +kernel
theorem c156_61 : mj_Y.code kY 156 61 = some (.aload_n 0) ∧ ((0 : Fin 4) : Nat) = 0 ∧ 62 = 61 + 1 := by decide +kernel
theorem c156_62 : mj_Y.code kY 156 62 = some (.getfield 22) ∧ mj_Y.fl kY 156 22 3 = some (3, .int, true) ∧ 65 = 62 + 3 := by decide +kernel
theorem c156_65 : mj_Y.code kY 156 65 = some (.aload_n 0) ∧ ((0 : Fin 4) : Nat) = 0 ∧ 66 = 65 + 1 := by decide +kernel
theorem c156_66 : mj_Y.code kY 156 66 = some (.getfield 19) ∧ mj_Y.fl kY 156 19 3 = some (2, (.array .int), false) ∧ 69 = 66 + 3 := by decide +kernel
theorem c156_69 : mj_Y.code kY 156 69 = some (.aload_n 0) ∧ ((0 : Fin 4) : Nat) = 0 ∧ 70 = 69 + 1 := by decide +kernel
theorem c156_70 : mj_Y.code kY 156 70 = some (.getfield 22) ∧ mj_Y.fl kY 156 22 3 = some (3, .int, true) ∧ 73 = 70 + 3 := by decide +kernel
theorem c156_73 : mj_Y.code kY 156 73 = some (.iconst 1) ∧ Int32.ofInt 1 = 1 ∧ 74 = 73 + 1 := by decide +kernel
theorem c156_74 : mj_Y.code kY 156 74 = some .isub ∧ 75 = 74 + 1 := by decide +kernel
theorem c156_75 : mj_Y.code kY 156 75 = some .iaload ∧ 76 = 75 + 1 := by decide +kernel
theorem c156_76 : mj_Y.code kY 156 76 = some .iastore ∧ 77 = 76 + 1 := by decide +kernel
theorem c156_77 : mj_Y.code kY 156 77 = some (.iconst 0) ∧ Int32.ofInt 0 = 0 ∧ 78 = 77 + 1 := by decide +kernel
theorem c156_78 : mj_Y.code kY 156 78 = some (.istore_n 3) ∧ ((3 : Fin 4) : Nat) = 3 ∧ 3 < mj_Y.nL kY 156 ∧ 79 = 78 + 1 := by decide +kernel
theorem c156_79 : mj_Y.code kY 156 79 = some (.iload_n 3) ∧ ((3 : Fin 4) : Nat) = 3 ∧ 80 = 79 + 1 := by decide +kernel
theorem c156_80 : mj_Y.code kY 156 80 = some (.aload_n 0) ∧ ((0 : Fin 4) : Nat) = 0 ∧ 81 = 80 + 1 := by decide +kernel
theorem c156_81 : mj_Y.code kY 156 81 = some (.getfield 32) ∧ mj_Y.fl kY 156 32 3 = some (6, .int, true) ∧ 84 = 81 + 3 := by decide +kernel
theorem c156_84 : mj_Y.code kY 156 84 = some (.if_icmp .ge 46) ∧ mj_tg 84 46 = some 130 ∧ 87 = 84 + 3 := by decide +kernel
theorem c156_87 : mj_Y.code kY 156 87 = some (.aload_n 0) ∧ ((0 : Fin 4) : Nat) = 0 ∧ 88 = 87 + 1 := by decide +kernel
theorem c156_88 : mj_Y.code kY 156 88 = some (.getfield 29) ∧ mj_Y.fl kY 156 29 3 = some (5, (.array .int), false) ∧ 91 = 88 + 3 := by decide +kernel
theorem c156_91 : mj_Y.code kY 156 91 = some (.iload_n 3) ∧ ((3 : Fin 4) : Nat) = 3 ∧ 92 = 91 + 1 := by decide +kernel
theorem c156_92 : mj_Y.code kY 156 92 = some .iaload ∧ 93 = 92 + 1 := by decide +kernel
theorem c156_93 : mj_Y.code kY 156 93 = some (.sipush 999) ∧ (Int16.ofInt 999).toInt32 = 999 ∧ 96 = 93 + 3 := by decide +kernel
theorem c156_96 : mj_Y.code kY 156 96 = some .iadd ∧ 97 = 96 + 1 := by decide +kernel
theorem c156_97 : mj_Y.code kY 156 97 = some (.istore 4) ∧ 4 = 4 ∧ 4 < mj_Y.nL kY 156 ∧ 99 = 97 + 2 := by decide +kernel
theorem c156_99 : mj_Y.code kY 156 99 = some (.aload_n 0) ∧ ((0 : Fin 4) : Nat) = 0 ∧ 100 = 99 + 1 := by decide +kernel
theorem c156_100 : mj_Y.code kY 156 100 = some (.aload_n 0) ∧ ((0 : Fin 4) : Nat) = 0 ∧ 101 = 100 + 1 := by decide +kernel
theorem c156_101 : mj_Y.code kY 156 101 = some (.getfield 29) ∧ mj_Y.fl kY 156 29 3 = some (5, (.array .int), false) ∧ 104 = 101 + 3 := by decide +kernel
theorem c156_104 : mj_Y.code kY 156 104 = some (.iload_n 3) ∧ ((3 : Fin 4) : Nat) = 3 ∧ 105 = 104 + 1 := by decide +kernel
theorem c156_105 : mj_Y.code kY 156 105 = some .iaload ∧ 106 = 105 + 1 := by decide +kernel
theorem c156_106 : mj_Y.code kY 156 106 = some (.aload_n 0) ∧ ((0 : Fin 4) : Nat) = 0 ∧ 107 = 106 + 1 := by decide +kernel
theorem c156_107 : mj_Y.code kY 156 107 = some (.getfield 26) ∧ mj_Y.fl kY 156 26 3 = some (4, (.array .long), false) ∧ 110 = 107 + 3 := by decide +kernel
theorem c156_110 : mj_Y.code kY 156 110 = some (.iload 4) ∧ 4 = 4 ∧ 112 = 110 + 2 := by decide +kernel
theorem c156_112 : mj_Y.code kY 156 112 = some .laload ∧ 113 = 112 + 1 := by decide +kernel
theorem c156_113 : mj_Y.code kY 156 113 = some (.invokevirtual 79) ∧ mj_Y.na kY 156 79 = some 2 ∧ mj_Y.cv kY 156 79 3 = some 150 ∧ mj_Y.nL kY 150 = 5 ∧ 116 = 113 + 3 := by decide +kernel
theorem c156_116 : mj_Y.code kY 156 116 = some (.aload_n 0) ∧ ((0 : Fin 4) : Nat) = 0 ∧ 117 = 116 + 1 := by decide +kernel
theorem c156_117 : mj_Y.code kY 156 117 = some (.getfield 26) ∧ mj_Y.fl kY 156 26 3 = some (4, (.array .long), false) ∧ 120 = 117 + 3 := by decide +kernel
theorem c156_120 : mj_Y.code kY 156 120 = some (.iload 4) ∧ 4 = 4 ∧ 122 = 120 + 2 := by decide +kernel
theorem c156_122 : mj_Y.code kY 156 122 = some (.lconst 0) ∧ Int64.ofNat ((0 : Fin 2) : Nat) = 0 ∧ 123 = 122 + 1 := by decide +kernel
theorem c156_123 : mj_Y.code kY 156 123 = some .lastore ∧ 124 = 123 + 1 := by decide +kernel
theorem c156_124 : mj_Y.code kY 156 124 = some (.iinc 3 1) ∧ 3 < mj_Y.nL kY 156 ∧ Int32.ofInt 1 = 1 ∧ 127 = 124 + 3 := by decide +kernel
theorem c156_127 : mj_Y.code kY 156 127 = some (.goto (-48)) ∧ mj_tg 127 (-48) = some 79 := by decide +kernel
theorem c156_130 : mj_Y.code kY 156 130 = some (.aload_n 0) ∧ ((0 : Fin 4) : Nat) = 0 ∧ 131 = 130 + 1 := by decide +kernel
theorem c156_131 : mj_Y.code kY 156 131 = some (.iconst 0) ∧ Int32.ofInt 0 = 0 ∧ 132 = 131 + 1 := by decide +kernel
theorem c156_132 : mj_Y.code kY 156 132 = some (.putfield 32) ∧ mj_Y.fl kY 156 32 3 = some (6, .int, true) ∧ 135 = 132 + 3 := by decide +kernel
theorem c156_135 : mj_Y.code kY 156 135 = some (.iload_n 2) ∧ ((2 : Fin 4) : Nat) = 2 ∧ 136 = 135 + 1 := by decide +kernel
theorem c156_136 : mj_Y.code kY 156 136 = some .ireturn ∧ mj_Y.rt kY 156 = some .boolean := by decide +kernel
