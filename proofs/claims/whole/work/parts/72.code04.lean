theorem c251_0 : mj_Y.code kY 251 0 = some (.aload_n 0) ∧ ((0 : Fin 4) : Nat) = 0 ∧ 1 = 0 + 1 := by decide +kernel
theorem c251_1 : mj_Y.code kY 251 1 = some (.getfield 94) ∧ mj_Y.fl kY 251 94 12 = some (39, (.array .int), false) ∧ 4 = 1 + 3 := by decide +kernel
theorem c251_4 : mj_Y.code kY 251 4 = some (.aload_n 0) ∧ ((0 : Fin 4) : Nat) = 0 ∧ 5 = 4 + 1 := by decide +kernel
theorem c251_5 : mj_Y.code kY 251 5 = some (.getfield 324) ∧ mj_Y.fl kY 251 324 12 = some (40, .int, true) ∧ 8 = 5 + 3 := by decide +kernel
theorem c251_8 : mj_Y.code kY 251 8 = some (.iload_n 1) ∧ ((1 : Fin 4) : Nat) = 1 ∧ 9 = 8 + 1 := by decide +kernel
theorem c251_9 : mj_Y.code kY 251 9 = some .iastore ∧ 10 = 9 + 1 := by decide +kernel
theorem c251_10 : mj_Y.code kY 251 10 = some (.aload_n 0) ∧ ((0 : Fin 4) : Nat) = 0 ∧ 11 = 10 + 1 := by decide +kernel
theorem c251_11 : mj_Y.code kY 251 11 = some .dup ∧ 12 = 11 + 1 := by decide +kernel
theorem c251_12 : mj_Y.code kY 251 12 = some (.getfield 324) ∧ mj_Y.fl kY 251 324 12 = some (40, .int, true) ∧ 15 = 12 + 3 := by decide +kernel
theorem c251_15 : mj_Y.code kY 251 15 = some (.iconst 1) ∧ Int32.ofInt 1 = 1 ∧ 16 = 15 + 1 := by decide +kernel
theorem c251_16 : mj_Y.code kY 251 16 = some .iadd ∧ 17 = 16 + 1 := by decide +kernel
theorem c251_17 : mj_Y.code kY 251 17 = some (.putfield 324) ∧ mj_Y.fl kY 251 324 12 = some (40, .int, true) ∧ 20 = 17 + 3 := by decide +kernel
theorem c251_20 : mj_Y.code kY 251 20 = some .return_ ∧ mj_Y.rt kY 251 = none := by decide +kernel
theorem c252_0 : mj_Y.code kY 252 0 = some (.sipush 160) ∧ (Int16.ofInt 160).toInt32 = 160 ∧ 3 = 0 + 3 := by decide +kernel
theorem c252_3 : mj_Y.code kY 252 3 = some (.iload_n 1) ∧ ((1 : Fin 4) : Nat) = 1 ∧ 4 = 3 + 1 := by decide +kernel
theorem c252_4 : mj_Y.code kY 252 4 = some .imul ∧ 5 = 4 + 1 := by decide +kernel
theorem c252_5 : mj_Y.code kY 252 5 = some (.iload_n 2) ∧ ((2 : Fin 4) : Nat) = 2 ∧ 6 = 5 + 1 := by decide +kernel
theorem c252_6 : mj_Y.code kY 252 6 = some .iadd ∧ 7 = 6 + 1 := by decide +kernel
theorem c252_7 : mj_Y.code kY 252 7 = some (.istore_n 3) ∧ ((3 : Fin 4) : Nat) = 3 ∧ 3 < mj_Y.nL kY 252 ∧ 8 = 7 + 1 := by decide +kernel
theorem c252_8 : mj_Y.code kY 252 8 = some (.aload_n 0) ∧ ((0 : Fin 4) : Nat) = 0 ∧ 9 = 8 + 1 := by decide +kernel
theorem c252_9 : mj_Y.code kY 252 9 = some (.getfield 46) ∧ mj_Y.fl kY 252 46 12 = some (13, (.array .int), false) ∧ 12 = 9 + 3 := by decide +kernel
theorem c252_12 : mj_Y.code kY 252 12 = some (.iload_n 3) ∧ ((3 : Fin 4) : Nat) = 3 ∧ 13 = 12 + 1 := by decide +kernel
theorem c252_13 : mj_Y.code kY 252 13 = some .iaload ∧ 14 = 13 + 1 := by decide +kernel
theorem c252_14_d {x : Int32} (b0 : mj_c2 .eq x 0 = false) (b1 : mj_c2 .eq x 1 = false) (b2 : mj_c2 .eq x 2 = false) (b3 : mj_c2 .eq x 4 = false) (b4 : mj_c2 .eq x 5 = false) : mj_Y.code kY 252 14 = some (.tableswitch 123 0 5 #[38, 51, 67, 123, 106, 114]) ∧ r_np (.tableswitch 123 0 5 #[38, 51, 67, 123, 106, 114]) = true ∧ ∀ (l : mj_L) (st : List Value), mj_p (mj_Y.nL kY 252) 14 (.tableswitch 123 0 5 #[38, 51, 67, 123, 106, 114]) l (.int x :: st) = some (137, l, st) := by
  refine ⟨by decide +kernel, rfl, fun l st => ?_⟩
  by_cases g3 : x = 3
  · subst g3
    rfl
  have m3 : x.toInt ≠ 3 := fun h => g3 (Int32.toInt_inj.mp (h.trans (show 3 = (3 : Int32).toInt from rfl)))
  have n0 : x.toInt ≠ 0 := fun h => of_decide_eq_false b0 (Int32.toInt_inj.mp (h.trans (show 0 = (0 : Int32).toInt from rfl)))
  have n1 : x.toInt ≠ 1 := fun h => of_decide_eq_false b1 (Int32.toInt_inj.mp (h.trans (show 1 = (1 : Int32).toInt from rfl)))
  have n2 : x.toInt ≠ 2 := fun h => of_decide_eq_false b2 (Int32.toInt_inj.mp (h.trans (show 2 = (2 : Int32).toInt from rfl)))
  have n3 : x.toInt ≠ 4 := fun h => of_decide_eq_false b3 (Int32.toInt_inj.mp (h.trans (show 4 = (4 : Int32).toInt from rfl)))
  have n4 : x.toInt ≠ 5 := fun h => of_decide_eq_false b4 (Int32.toInt_inj.mp (h.trans (show 5 = (5 : Int32).toInt from rfl)))
  have hx : x.toInt < 0 ∨ 5 < x.toInt := by omega
  show (if x.toInt < 0 ∨ 5 < x.toInt then _ else _) = _
  rw [if_pos hx]
  rfl
theorem c252_14_0 : mj_Y.code kY 252 14 = some (.tableswitch 123 0 5 #[38, 51, 67, 123, 106, 114]) ∧ r_np (.tableswitch 123 0 5 #[38, 51, 67, 123, 106, 114]) = true ∧ ∀ (l : mj_L) (st : List Value), mj_p (mj_Y.nL kY 252) 14 (.tableswitch 123 0 5 #[38, 51, 67, 123, 106, 114]) l (.int 0 :: st) = some (52, l, st) := ⟨by decide +kernel, rfl, fun _ _ => rfl⟩
theorem c252_14_1 : mj_Y.code kY 252 14 = some (.tableswitch 123 0 5 #[38, 51, 67, 123, 106, 114]) ∧ r_np (.tableswitch 123 0 5 #[38, 51, 67, 123, 106, 114]) = true ∧ ∀ (l : mj_L) (st : List Value), mj_p (mj_Y.nL kY 252) 14 (.tableswitch 123 0 5 #[38, 51, 67, 123, 106, 114]) l (.int 1 :: st) = some (65, l, st) := ⟨by decide +kernel, rfl, fun _ _ => rfl⟩
theorem c252_14_2 : mj_Y.code kY 252 14 = some (.tableswitch 123 0 5 #[38, 51, 67, 123, 106, 114]) ∧ r_np (.tableswitch 123 0 5 #[38, 51, 67, 123, 106, 114]) = true ∧ ∀ (l : mj_L) (st : List Value), mj_p (mj_Y.nL kY 252) 14 (.tableswitch 123 0 5 #[38, 51, 67, 123, 106, 114]) l (.int 2 :: st) = some (81, l, st) := ⟨by decide +kernel, rfl, fun _ _ => rfl⟩
theorem c252_14_4 : mj_Y.code kY 252 14 = some (.tableswitch 123 0 5 #[38, 51, 67, 123, 106, 114]) ∧ r_np (.tableswitch 123 0 5 #[38, 51, 67, 123, 106, 114]) = true ∧ ∀ (l : mj_L) (st : List Value), mj_p (mj_Y.nL kY 252) 14 (.tableswitch 123 0 5 #[38, 51, 67, 123, 106, 114]) l (.int 4 :: st) = some (120, l, st) := ⟨by decide +kernel, rfl, fun _ _ => rfl⟩
theorem c252_14_5 : mj_Y.code kY 252 14 = some (.tableswitch 123 0 5 #[38, 51, 67, 123, 106, 114]) ∧ r_np (.tableswitch 123 0 5 #[38, 51, 67, 123, 106, 114]) = true ∧ ∀ (l : mj_L) (st : List Value), mj_p (mj_Y.nL kY 252) 14 (.tableswitch 123 0 5 #[38, 51, 67, 123, 106, 114]) l (.int 5 :: st) = some (128, l, st) := ⟨by decide +kernel, rfl, fun _ _ => rfl⟩
theorem c252_52 : mj_Y.code kY 252 52 = some (.aload_n 0) ∧ ((0 : Fin 4) : Nat) = 0 ∧ 53 = 52 + 1 := by decide +kernel
theorem c252_53 : mj_Y.code kY 252 53 = some (.aload_n 0) ∧ ((0 : Fin 4) : Nat) = 0 ∧ 54 = 53 + 1 := by decide +kernel
theorem c252_54 : mj_Y.code kY 252 54 = some (.getfield 49) ∧ mj_Y.fl kY 252 49 12 = some (14, (.array .int), false) ∧ 57 = 54 + 3 := by decide +kernel
theorem c252_57 : mj_Y.code kY 252 57 = some (.iload_n 3) ∧ ((3 : Fin 4) : Nat) = 3 ∧ 58 = 57 + 1 := by decide +kernel
theorem c252_58 : mj_Y.code kY 252 58 = some .iaload ∧ 59 = 58 + 1 := by decide +kernel
theorem c252_59 : mj_Y.code kY 252 59 = some (.invokevirtual 330) ∧ mj_Y.na kY 252 330 = some 1 ∧ mj_Y.cv kY 252 330 12 = some 249 ∧ mj_Y.nL kY 249 = 2 ∧ 62 = 59 + 3 := by decide +kernel
theorem c252_62 : mj_Y.code kY 252 62 = some (.goto 176) ∧ mj_tg 62 176 = some 238 := by decide +kernel
theorem c252_65 : mj_Y.code kY 252 65 = some (.aload_n 0) ∧ ((0 : Fin 4) : Nat) = 0 ∧ 66 = 65 + 1 := by decide +kernel
theorem c252_66 : mj_Y.code kY 252 66 = some (.bipush 65) ∧ (Int8.ofInt 65).toInt32 = 65 ∧ 68 = 66 + 2 := by decide +kernel
theorem c252_68 : mj_Y.code kY 252 68 = some (.aload_n 0) ∧ ((0 : Fin 4) : Nat) = 0 ∧ 69 = 68 + 1 := by decide +kernel
theorem c252_69 : mj_Y.code kY 252 69 = some (.getfield 49) ∧ mj_Y.fl kY 252 49 12 = some (14, (.array .int), false) ∧ 72 = 69 + 3 := by decide +kernel
theorem c252_72 : mj_Y.code kY 252 72 = some (.iload_n 3) ∧ ((3 : Fin 4) : Nat) = 3 ∧ 73 = 72 + 1 := by decide +kernel
theorem c252_73 : mj_Y.code kY 252 73 = some .iaload ∧ 74 = 73 + 1 := by decide +kernel
theorem c252_74 : mj_Y.code kY 252 74 = some .iadd ∧ 75 = 74 + 1 := by decide +kernel
theorem c252_75 : mj_Y.code kY 252 75 = some (.invokevirtual 158) ∧ mj_Y.na kY 252 158 = some 1 ∧ mj_Y.cv kY 252 158 12 = some 206 ∧ mj_Y.nL kY 206 = 2 ∧ 78 = 75 + 3 := by decide +kernel
theorem c252_78 : mj_Y.code kY 252 78 = some (.goto 160) ∧ mj_tg 78 160 = some 238 := by decide +kernel
theorem c252_81 : mj_Y.code kY 252 81 = some (.aload_n 0) ∧ ((0 : Fin 4) : Nat) = 0 ∧ 82 = 81 + 1 := by decide +kernel
theorem c252_82 : mj_Y.code kY 252 82 = some (.bipush 45) ∧ (Int8.ofInt 45).toInt32 = 45 ∧ 84 = 82 + 2 := by decide +kernel
theorem c252_84 : mj_Y.code kY 252 84 = some (.invokevirtual 158) ∧ mj_Y.na kY 252 158 = some 1 ∧ mj_Y.cv kY 252 158 12 = some 206 ∧ mj_Y.nL kY 206 = 2 ∧ 87 = 84 + 3 := by decide +kernel
theorem c252_87 : mj_Y.code kY 252 87 = some (.aload_n 0) ∧ ((0 : Fin 4) : Nat) = 0 ∧ 88 = 87 + 1 := by decide +kernel
theorem c252_88 : mj_Y.code kY 252 88 = some (.aload_n 0) ∧ ((0 : Fin 4) : Nat) = 0 ∧ 89 = 88 + 1 := by decide +kernel
theorem c252_89 : mj_Y.code kY 252 89 = some (.getfield 61) ∧ mj_Y.fl kY 252 61 12 = some (18, (.array .int), false) ∧ 92 = 89 + 3 := by decide +kernel
theorem c252_92 : mj_Y.code kY 252 92 = some (.iload_n 3) ∧ ((3 : Fin 4) : Nat) = 3 ∧ 93 = 92 + 1 := by decide +kernel
theorem c252_93 : mj_Y.code kY 252 93 = some .iaload ∧ 94 = 93 + 1 := by decide +kernel
theorem c252_94 : mj_Y.code kY 252 94 = some (.aload_n 0) ∧ ((0 : Fin 4) : Nat) = 0 ∧ 95 = 94 + 1 := by decide +kernel
theorem c252_95 : mj_Y.code kY 252 95 = some (.iload_n 1) ∧ ((1 : Fin 4) : Nat) = 1 ∧ 96 = 95 + 1 := by decide +kernel
theorem c252_96 : mj_Y.code kY 252 96 = some (.aload_n 0) ∧ ((0 : Fin 4) : Nat) = 0 ∧ 97 = 96 + 1 := by decide +kernel
theorem c252_97 : mj_Y.code kY 252 97 = some (.getfield 61) ∧ mj_Y.fl kY 252 61 12 = some (18, (.array .int), false) ∧ 100 = 97 + 3 := by decide +kernel
theorem c252_100 : mj_Y.code kY 252 100 = some (.iload_n 3) ∧ ((3 : Fin 4) : Nat) = 3 ∧ 101 = 100 + 1 := by decide +kernel
theorem c252_101 : mj_Y.code kY 252 101 = some .iaload ∧ 102 = 101 + 1 := by decide +kernel
theorem c252_102 : mj_Y.code kY 252 102 = some (.invokevirtual 333) ∧ mj_Y.na kY 252 333 = some 2 ∧ mj_Y.cv kY 252 333 12 = some 253 ∧ mj_Y.nL kY 253 = 4 ∧ 105 = 102 + 3 := by decide +kernel
theorem c252_105 : mj_Y.code kY 252 105 = some (.iconst 3) ∧ Int32.ofInt 3 = 3 ∧ 106 = 105 + 1 := by decide +kernel
theorem c252_106 : mj_Y.code kY 252 106 = some (.if_icmp .ge 7) ∧ mj_tg 106 7 = some 113 ∧ 109 = 106 + 3 := by decide +kernel
theorem c252_109 : mj_Y.code kY 252 109 = some (.iconst 1) ∧ Int32.ofInt 1 = 1 ∧ 110 = 109 + 1 := by decide +kernel
theorem c252_110 : mj_Y.code kY 252 110 = some (.goto 4) ∧ mj_tg 110 4 = some 114 := by decide +kernel
theorem c252_113 : mj_Y.code kY 252 113 = some (.iconst 0) ∧ Int32.ofInt 0 = 0 ∧ 114 = 113 + 1 := by decide +kernel
theorem c252_114 : mj_Y.code kY 252 114 = some (.invokevirtual 337) ∧ mj_Y.na kY 252 337 = some 2 ∧ mj_Y.cv kY 252 337 12 = some 254 ∧ mj_Y.nL kY 254 = 3 ∧ 117 = 114 + 3 := by decide +kernel
theorem c252_117 : mj_Y.code kY 252 117 = some (.goto 121) ∧ mj_tg 117 121 = some 238 := by decide +kernel
theorem c252_120 : mj_Y.code kY 252 120 = some (.aload_n 0) ∧ ((0 : Fin 4) : Nat) = 0 ∧ 121 = 120 + 1 := by decide +kernel
theorem c252_121 : mj_Y.code kY 252 121 = some (.iload_n 3) ∧ ((3 : Fin 4) : Nat) = 3 ∧ 122 = 121 + 1 := by decide +kernel
theorem c252_122 : mj_Y.code kY 252 122 = some (.invokevirtual 341) ∧ mj_Y.na kY 252 341 = some 1 ∧ mj_Y.cv kY 252 341 12 = some 255 ∧ mj_Y.nL kY 255 = 2 ∧ 125 = 122 + 3 := by decide +kernel
theorem c252_125 : mj_Y.code kY 252 125 = some (.goto 113) ∧ mj_tg 125 113 = some 238 := by decide +kernel
theorem c252_128 : mj_Y.code kY 252 128 = some (.aload_n 0) ∧ ((0 : Fin 4) : Nat) = 0 ∧ 129 = 128 + 1 := by decide +kernel
theorem c252_129 : mj_Y.code kY 252 129 = some (.iload_n 1) ∧ ((1 : Fin 4) : Nat) = 1 ∧ 130 = 129 + 1 := by decide +kernel
theorem c252_130 : mj_Y.code kY 252 130 = some (.iload_n 3) ∧ ((3 : Fin 4) : Nat) = 3 ∧ 131 = 130 + 1 := by decide +kernel
theorem c252_131 : mj_Y.code kY 252 131 = some (.invokevirtual 344) ∧ mj_Y.na kY 252 344 = some 2 ∧ mj_Y.cv kY 252 344 12 = some 256 ∧ mj_Y.nL kY 256 = 4 ∧ 134 = 131 + 3 := by decide +kernel
theorem c252_134 : mj_Y.code kY 252 134 = some (.goto 104) ∧ mj_tg 134 104 = some 238 := by decide +kernel
theorem c252_137 : mj_Y.code kY 252 137 = some (.aload_n 0) ∧ ((0 : Fin 4) : Nat) = 0 ∧ 138 = 137 + 1 := by decide +kernel
theorem c252_138 : mj_Y.code kY 252 138 = some (.getfield 49) ∧ mj_Y.fl kY 252 49 12 = some (14, (.array .int), false) ∧ 141 = 138 + 3 := by decide +kernel
theorem c252_141 : mj_Y.code kY 252 141 = some (.iload_n 3) ∧ ((3 : Fin 4) : Nat) = 3 ∧ 142 = 141 + 1 := by decide +kernel
theorem c252_142 : mj_Y.code kY 252 142 = some .iaload ∧ 143 = 142 + 1 := by decide +kernel
theorem c252_143 : mj_Y.code kY 252 143 = some (.invokestatic 215) ∧ mj_Y.pr kY 252 215 = none ∧ mj_Y.cs kY 252 215 = some (231, 1) ∧ mj_Y.nL kY 231 = 1 ∧ 146 = 143 + 3 := by decide +kernel
theorem c252_146 : mj_Y.code kY 252 146 = some (.istore 4) ∧ 4 = 4 ∧ 4 < mj_Y.nL kY 252 ∧ 148 = 146 + 2 := by decide +kernel
theorem c252_148 : mj_Y.code kY 252 148 = some (.aload_n 0) ∧ ((0 : Fin 4) : Nat) = 0 ∧ 149 = 148 + 1 := by decide +kernel
theorem c252_149 : mj_Y.code kY 252 149 = some (.iload_n 1) ∧ ((1 : Fin 4) : Nat) = 1 ∧ 150 = 149 + 1 := by decide +kernel
theorem c252_150 : mj_Y.code kY 252 150 = some (.aload_n 0) ∧ ((0 : Fin 4) : Nat) = 0 ∧ 151 = 150 + 1 := by decide +kernel
theorem c252_151 : mj_Y.code kY 252 151 = some (.getfield 61) ∧ mj_Y.fl kY 252 61 12 = some (18, (.array .int), false) ∧ 154 = 151 + 3 := by decide +kernel
theorem c252_154 : mj_Y.code kY 252 154 = some (.iload_n 3) ∧ ((3 : Fin 4) : Nat) = 3 ∧ 155 = 154 + 1 := by decide +kernel
theorem c252_155 : mj_Y.code kY 252 155 = some .iaload ∧ 156 = 155 + 1 := by decide +kernel
theorem c252_156 : mj_Y.code kY 252 156 = some (.invokevirtual 333) ∧ mj_Y.na kY 252 333 = some 2 ∧ mj_Y.cv kY 252 333 12 = some 253 ∧ mj_Y.nL kY 253 = 4 ∧ 159 = 156 + 3 := by decide +kernel
theorem c252_159 : mj_Y.code kY 252 159 = some (.istore 5) ∧ 5 = 5 ∧ 5 < mj_Y.nL kY 252 ∧ 161 = 159 + 2 := by decide +kernel
theorem c252_161 : mj_Y.code kY 252 161 = some (.aload_n 0) ∧ ((0 : Fin 4) : Nat) = 0 ∧ 162 = 161 + 1 := by decide +kernel
theorem c252_162 : mj_Y.code kY 252 162 = some (.aload_n 0) ∧ ((0 : Fin 4) : Nat) = 0 ∧ 163 = 162 + 1 := by decide +kernel
theorem c252_163 : mj_Y.code kY 252 163 = some (.getfield 64) ∧ mj_Y.fl kY 252 64 12 = some (19, (.array .int), false) ∧ 166 = 163 + 3 := by decide +kernel
theorem c252_166 : mj_Y.code kY 252 166 = some (.iload_n 3) ∧ ((3 : Fin 4) : Nat) = 3 ∧ 167 = 166 + 1 := by decide +kernel
theorem c252_167 : mj_Y.code kY 252 167 = some .iaload ∧ 168 = 167 + 1 := by decide +kernel
theorem c252_168 : mj_Y.code kY 252 168 = some (.aload_n 0) ∧ ((0 : Fin 4) : Nat) = 0 ∧ 169 = 168 + 1 := by decide +kernel
theorem c252_169 : mj_Y.code kY 252 169 = some (.iload_n 1) ∧ ((1 : Fin 4) : Nat) = 1 ∧ 170 = 169 + 1 := by decide +kernel
theorem c252_170 : mj_Y.code kY 252 170 = some (.aload_n 0) ∧ ((0 : Fin 4) : Nat) = 0 ∧ 171 = 170 + 1 := by decide +kernel
theorem c252_171 : mj_Y.code kY 252 171 = some (.getfield 64) ∧ mj_Y.fl kY 252 64 12 = some (19, (.array .int), false) ∧ 174 = 171 + 3 := by decide +kernel
theorem c252_174 : mj_Y.code kY 252 174 = some (.iload_n 3) ∧ ((3 : Fin 4) : Nat) = 3 ∧ 175 = 174 + 1 := by decide +kernel
theorem c252_175 : mj_Y.code kY 252 175 = some .iaload ∧ 176 = 175 + 1 := by decide +kernel
theorem c252_176 : mj_Y.code kY 252 176 = some (.invokevirtual 333) ∧ mj_Y.na kY 252 333 = some 2 ∧ mj_Y.cv kY 252 333 12 = some 253 ∧ mj_Y.nL kY 253 = 4 ∧ 179 = 176 + 3 := by decide +kernel
theorem c252_179 : mj_Y.code kY 252 179 = some (.iload 4) ∧ 4 = 4 ∧ 181 = 179 + 2 := by decide +kernel
theorem c252_181 : mj_Y.code kY 252 181 = some (.if_icmp .gt 7) ∧ mj_tg 181 7 = some 188 ∧ 184 = 181 + 3 := by decide +kernel
theorem c252_184 : mj_Y.code kY 252 184 = some (.iconst 1) ∧ Int32.ofInt 1 = 1 ∧ 185 = 184 + 1 := by decide +kernel
theorem c252_185 : mj_Y.code kY 252 185 = some (.goto 4) ∧ mj_tg 185 4 = some 189 := by decide +kernel
theorem c252_188 : mj_Y.code kY 252 188 = some (.iconst 0) ∧ Int32.ofInt 0 = 0 ∧ 189 = 188 + 1 := by decide +kernel
theorem c252_189 : mj_Y.code kY 252 189 = some (.invokevirtual 337) ∧ mj_Y.na kY 252 337 = some 2 ∧ mj_Y.cv kY 252 337 12 = some 254 ∧ mj_Y.nL kY 254 = 3 ∧ 192 = 189 + 3 := by decide +kernel
theorem c252_192 : mj_Y.code kY 252 192 = some (.aload_n 0) ∧ ((0 : Fin 4) : Nat) = 0 ∧ 193 = 192 + 1 := by decide +kernel
theorem c252_193 : mj_Y.code kY 252 193 = some (.aload_n 0) ∧ ((0 : Fin 4) : Nat) = 0 ∧ 194 = 193 + 1 := by decide +kernel
theorem c252_194 : mj_Y.code kY 252 194 = some (.getfield 49) ∧ mj_Y.fl kY 252 49 12 = some (14, (.array .int), false) ∧ 197 = 194 + 3 := by decide +kernel
theorem c252_197 : mj_Y.code kY 252 197 = some (.iload_n 3) ∧ ((3 : Fin 4) : Nat) = 3 ∧ 198 = 197 + 1 := by decide +kernel
theorem c252_198 : mj_Y.code kY 252 198 = some .iaload ∧ 199 = 198 + 1 := by decide +kernel
theorem c252_199 : mj_Y.code kY 252 199 = some (.invokestatic 347) ∧ mj_Y.pr kY 252 347 = none ∧ mj_Y.cs kY 252 347 = some (257, 1) ∧ mj_Y.nL kY 257 = 1 ∧ 202 = 199 + 3 := by decide +kernel
theorem c252_202 : mj_Y.code kY 252 202 = some .ineg ∧ 203 = 202 + 1 := by decide +kernel
theorem c252_203 : mj_Y.code kY 252 203 = some (.invokevirtual 327) ∧ mj_Y.na kY 252 327 = some 1 ∧ mj_Y.cv kY 252 327 12 = some 251 ∧ mj_Y.nL kY 251 = 2 ∧ 206 = 203 + 3 := by decide +kernel
theorem c252_206 : mj_Y.code kY 252 206 = some (.aload_n 0) ∧ ((0 : Fin 4) : Nat) = 0 ∧ 207 = 206 + 1 := by decide +kernel
theorem c252_207 : mj_Y.code kY 252 207 = some (.aload_n 0) ∧ ((0 : Fin 4) : Nat) = 0 ∧ 208 = 207 + 1 := by decide +kernel
theorem c252_208 : mj_Y.code kY 252 208 = some (.getfield 61) ∧ mj_Y.fl kY 252 61 12 = some (18, (.array .int), false) ∧ 211 = 208 + 3 := by decide +kernel
theorem c252_211 : mj_Y.code kY 252 211 = some (.iload_n 3) ∧ ((3 : Fin 4) : Nat) = 3 ∧ 212 = 211 + 1 := by decide +kernel
theorem c252_212 : mj_Y.code kY 252 212 = some .iaload ∧ 213 = 212 + 1 := by decide +kernel
theorem c252_213 : mj_Y.code kY 252 213 = some (.iload 5) ∧ 5 = 5 ∧ 215 = 213 + 2 := by decide +kernel
theorem c252_215 : mj_Y.code kY 252 215 = some (.iload 4) ∧ 4 = 4 ∧ 217 = 215 + 2 := by decide +kernel
theorem c252_217 : mj_Y.code kY 252 217 = some (.if_icmp .lt 13) ∧ mj_tg 217 13 = some 230 ∧ 220 = 217 + 3 := by decide +kernel
theorem c252_220 : mj_Y.code kY 252 220 = some (.iload 4) ∧ 4 = 4 ∧ 222 = 220 + 2 := by decide +kernel
theorem c252_222 : mj_Y.code kY 252 222 = some (.ifCond .ne 12) ∧ mj_tg 222 12 = some 234 ∧ 225 = 222 + 3 := by decide +kernel
theorem c252_225 : mj_Y.code kY 252 225 = some (.iload 5) ∧ 5 = 5 ∧ 227 = 225 + 2 := by decide +kernel
theorem c252_227 : mj_Y.code kY 252 227 = some (.ifCond .ne 7) ∧ mj_tg 227 7 = some 234 ∧ 230 = 227 + 3 := by decide +kernel
theorem c252_230 : mj_Y.code kY 252 230 = some (.iconst 1) ∧ Int32.ofInt 1 = 1 ∧ 231 = 230 + 1 := by decide +kernel
theorem c252_231 : mj_Y.code kY 252 231 = some (.goto 4) ∧ mj_tg 231 4 = some 235 := by decide +kernel
theorem c252_234 : mj_Y.code kY 252 234 = some (.iconst 0) ∧ Int32.ofInt 0 = 0 ∧ 235 = 234 + 1 := by decide +kernel
theorem c252_235 : mj_Y.code kY 252 235 = some (.invokevirtual 337) ∧ mj_Y.na kY 252 337 = some 2 ∧ mj_Y.cv kY 252 337 12 = some 254 ∧ mj_Y.nL kY 254 = 3 ∧ 238 = 235 + 3 := by decide +kernel
theorem c252_238 : mj_Y.code kY 252 238 = some .return_ ∧ mj_Y.rt kY 252 = none := by decide +kernel
theorem c253_0 : mj_Y.code kY 253 0 = some (.sipush 160) ∧ (Int16.ofInt 160).toInt32 = 160 ∧ 3 = 0 + 3 := by decide +kernel
theorem c253_3 : mj_Y.code kY 253 3 = some (.iload_n 1) ∧ ((1 : Fin 4) : Nat) = 1 ∧ 4 = 3 + 1 := by decide +kernel
theorem c253_4 : mj_Y.code kY 253 4 = some .imul ∧ 5 = 4 + 1 := by decide +kernel
theorem c253_5 : mj_Y.code kY 253 5 = some (.iload_n 2) ∧ ((2 : Fin 4) : Nat) = 2 ∧ 6 = 5 + 1 := by decide +kernel
theorem c253_6 : mj_Y.code kY 253 6 = some .iadd ∧ 7 = 6 + 1 := by decide +kernel
theorem c253_7 : mj_Y.code kY 253 7 = some (.istore_n 3) ∧ ((3 : Fin 4) : Nat) = 3 ∧ 3 < mj_Y.nL kY 253 ∧ 8 = 7 + 1 := by decide +kernel
theorem c253_8 : mj_Y.code kY 253 8 = some (.aload_n 0) ∧ ((0 : Fin 4) : Nat) = 0 ∧ 9 = 8 + 1 := by decide +kernel
theorem c253_9 : mj_Y.code kY 253 9 = some (.getfield 46) ∧ mj_Y.fl kY 253 46 12 = some (13, (.array .int), false) ∧ 12 = 9 + 3 := by decide +kernel
theorem c253_12 : mj_Y.code kY 253 12 = some (.iload_n 3) ∧ ((3 : Fin 4) : Nat) = 3 ∧ 13 = 12 + 1 := by decide +kernel
theorem c253_13 : mj_Y.code kY 253 13 = some .iaload ∧ 14 = 13 + 1 := by decide +kernel
theorem c253_14 : mj_Y.code kY 253 14 = some (.iconst 3) ∧ Int32.ofInt 3 = 3 ∧ 15 = 14 + 1 := by decide +kernel
theorem c253_15 : mj_Y.code kY 253 15 = some (.if_icmp .ne 15) ∧ mj_tg 15 15 = some 30 ∧ 18 = 15 + 3 := by decide +kernel
theorem c253_18 : mj_Y.code kY 253 18 = some (.aload_n 0) ∧ ((0 : Fin 4) : Nat) = 0 ∧ 19 = 18 + 1 := by decide +kernel
theorem c253_19 : mj_Y.code kY 253 19 = some (.getfield 49) ∧ mj_Y.fl kY 253 49 12 = some (14, (.array .int), false) ∧ 22 = 19 + 3 := by decide +kernel
theorem c253_22 : mj_Y.code kY 253 22 = some (.iload_n 3) ∧ ((3 : Fin 4) : Nat) = 3 ∧ 23 = 22 + 1 := by decide +kernel
theorem c253_23 : mj_Y.code kY 253 23 = some .iaload ∧ 24 = 23 + 1 := by decide +kernel
theorem c253_24 : mj_Y.code kY 253 24 = some (.invokestatic 215) ∧ mj_Y.pr kY 253 215 = none ∧ mj_Y.cs kY 253 215 = some (231, 1) ∧ mj_Y.nL kY 231 = 1 ∧ 27 = 24 + 3 := by decide +kernel
theorem c253_27 : mj_Y.code kY 253 27 = some (.goto 4) ∧ mj_tg 27 4 = some 31 := by decide +kernel
theorem c253_30 : mj_Y.code kY 253 30 = some (.iconst 3) ∧ Int32.ofInt 3 = 3 ∧ 31 = 30 + 1 := by decide +kernel
theorem c253_31 : mj_Y.code kY 253 31 = some .ireturn ∧ mj_Y.rt kY 253 = some .int := by decide +kernel
theorem c254_0 : mj_Y.code kY 254 0 = some (.iload_n 2) ∧ ((2 : Fin 4) : Nat) = 2 ∧ 1 = 0 + 1 := by decide +kernel
theorem c254_1 : mj_Y.code kY 254 1 = some (.ifCond .eq 9) ∧ mj_tg 1 9 = some 10 ∧ 4 = 1 + 3 := by decide +kernel
theorem c254_4 : mj_Y.code kY 254 4 = some (.aload_n 0) ∧ ((0 : Fin 4) : Nat) = 0 ∧ 5 = 4 + 1 := by decide +kernel
theorem c254_5 : mj_Y.code kY 254 5 = some (.bipush (-41)) ∧ (Int8.ofInt (-41)).toInt32 = (-41) ∧ 7 = 5 + 2 := by decide +kernel
theorem c254_7 : mj_Y.code kY 254 7 = some (.invokevirtual 327) ∧ mj_Y.na kY 254 327 = some 1 ∧ mj_Y.cv kY 254 327 12 = some 251 ∧ mj_Y.nL kY 251 = 2 ∧ 10 = 7 + 3 := by decide +kernel
theorem c254_10 : mj_Y.code kY 254 10 = some (.aload_n 0) ∧ ((0 : Fin 4) : Nat) = 0 ∧ 11 = 10 + 1 := by decide +kernel
theorem c254_11 : mj_Y.code kY 254 11 = some (.iload_n 1) ∧ ((1 : Fin 4) : Nat) = 1 ∧ 12 = 11 + 1 := by decide +kernel
theorem c254_12 : mj_Y.code kY 254 12 = some (.invokevirtual 327) ∧ mj_Y.na kY 254 327 = some 1 ∧ mj_Y.cv kY 254 327 12 = some 251 ∧ mj_Y.nL kY 251 = 2 ∧ 15 = 12 + 3 := by decide +kernel
theorem c254_15 : mj_Y.code kY 254 15 = some (.iload_n 2) ∧ ((2 : Fin 4) : Nat) = 2 ∧ 16 = 15 + 1 := by decide +kernel
theorem c254_16 : mj_Y.code kY 254 16 = some (.ifCond .eq 9) ∧ mj_tg 16 9 = some 25 ∧ 19 = 16 + 3 := by decide +kernel
theorem c254_19 : mj_Y.code kY 254 19 = some (.aload_n 0) ∧ ((0 : Fin 4) : Nat) = 0 ∧ 20 = 19 + 1 := by decide +kernel
theorem c254_20 : mj_Y.code kY 254 20 = some (.bipush (-40)) ∧ (Int8.ofInt (-40)).toInt32 = (-40) ∧ 22 = 20 + 2 := by decide +kernel
theorem c254_22 : mj_Y.code kY 254 22 = some (.invokevirtual 327) ∧ mj_Y.na kY 254 327 = some 1 ∧ mj_Y.cv kY 254 327 12 = some 251 ∧ mj_Y.nL kY 251 = 2 ∧ 25 = 22 + 3 := by decide +kernel
theorem c254_25 : mj_Y.code kY 254 25 = some .return_ ∧ mj_Y.rt kY 254 = none := by decide +kernel
theorem c255_0 : mj_Y.code kY 255 0 = some (.aload_n 0) ∧ ((0 : Fin 4) : Nat) = 0 ∧ 1 = 0 + 1 := by decide +kernel
theorem c255_1 : mj_Y.code kY 255 1 = some (.getfield 49) ∧ mj_Y.fl kY 255 49 12 = some (14, (.array .int), false) ∧ 4 = 1 + 3 := by decide +kernel
theorem c255_4 : mj_Y.code kY 255 4 = some (.iload_n 1) ∧ ((1 : Fin 4) : Nat) = 1 ∧ 5 = 4 + 1 := by decide +kernel
theorem c255_5 : mj_Y.code kY 255 5 = some .iaload ∧ 6 = 5 + 1 := by decide +kernel
theorem c255_6 : mj_Y.code kY 255 6 = some (.iconst 1) ∧ Int32.ofInt 1 = 1 ∧ 7 = 6 + 1 := by decide +kernel
theorem c255_7 : mj_Y.code kY 255 7 = some (.if_icmp .le 13) ∧ mj_tg 7 13 = some 20 ∧ 10 = 7 + 3 := by decide +kernel
theorem c255_10 : mj_Y.code kY 255 10 = some (.aload_n 0) ∧ ((0 : Fin 4) : Nat) = 0 ∧ 11 = 10 + 1 := by decide +kernel
theorem c255_11 : mj_Y.code kY 255 11 = some (.aload_n 0) ∧ ((0 : Fin 4) : Nat) = 0 ∧ 12 = 11 + 1 := by decide +kernel
theorem c255_12 : mj_Y.code kY 255 12 = some (.getfield 49) ∧ mj_Y.fl kY 255 49 12 = some (14, (.array .int), false) ∧ 15 = 12 + 3 := by decide +kernel
theorem c255_15 : mj_Y.code kY 255 15 = some (.iload_n 1) ∧ ((1 : Fin 4) : Nat) = 1 ∧ 16 = 15 + 1 := by decide +kernel
theorem c255_16 : mj_Y.code kY 255 16 = some .iaload ∧ 17 = 16 + 1 := by decide +kernel
theorem c255_17 : mj_Y.code kY 255 17 = some (.invokevirtual 330) ∧ mj_Y.na kY 255 330 = some 1 ∧ mj_Y.cv kY 255 330 12 = some 249 ∧ mj_Y.nL kY 249 = 2 ∧ 20 = 17 + 3 := by decide +kernel
theorem c255_20 : mj_Y.code kY 255 20 = some (.aload_n 0) ∧ ((0 : Fin 4) : Nat) = 0 ∧ 21 = 20 + 1 := by decide +kernel
theorem c255_21 : mj_Y.code kY 255 21 = some (.bipush 100) ∧ (Int8.ofInt 100).toInt32 = 100 ∧ 23 = 21 + 2 := by decide +kernel
theorem c255_23 : mj_Y.code kY 255 23 = some (.invokevirtual 158) ∧ mj_Y.na kY 255 158 = some 1 ∧ mj_Y.cv kY 255 158 12 = some 206 ∧ mj_Y.nL kY 206 = 2 ∧ 26 = 23 + 3 := by decide +kernel
theorem c255_26 : mj_Y.code kY 255 26 = some (.aload_n 0) ∧ ((0 : Fin 4) : Nat) = 0 ∧ 27 = 26 + 1 := by decide +kernel
theorem c255_27 : mj_Y.code kY 255 27 = some (.aload_n 0) ∧ ((0 : Fin 4) : Nat) = 0 ∧ 28 = 27 + 1 := by decide +kernel
theorem c255_28 : mj_Y.code kY 255 28 = some (.getfield 52) ∧ mj_Y.fl kY 255 52 12 = some (15, (.array .int), false) ∧ 31 = 28 + 3 := by decide +kernel
theorem c255_31 : mj_Y.code kY 255 31 = some (.iload_n 1) ∧ ((1 : Fin 4) : Nat) = 1 ∧ 32 = 31 + 1 := by decide +kernel
theorem c255_32 : mj_Y.code kY 255 32 = some .iaload ∧ 33 = 32 + 1 := by decide +kernel
theorem c255_33 : mj_Y.code kY 255 33 = some (.invokevirtual 330) ∧ mj_Y.na kY 255 330 = some 1 ∧ mj_Y.cv kY 255 330 12 = some 249 ∧ mj_Y.nL kY 249 = 2 ∧ 36 = 33 + 3 := by decide +kernel
theorem c255_36 : mj_Y.code kY 255 36 = some (.aload_n 0) ∧ ((0 : Fin 4) : Nat) = 0 ∧ 37 = 36 + 1 := by decide +kernel
theorem c255_37 : mj_Y.code kY 255 37 = some (.getfield 55) ∧ mj_Y.fl kY 255 55 12 = some (16, (.array .int), false) ∧ 40 = 37 + 3 := by decide +kernel
theorem c255_40 : mj_Y.code kY 255 40 = some (.iload_n 1) ∧ ((1 : Fin 4) : Nat) = 1 ∧ 41 = 40 + 1 := by decide +kernel
theorem c255_41 : mj_Y.code kY 255 41 = some .iaload ∧ 42 = 41 + 1 := by decide +kernel
theorem c255_42 : mj_Y.code kY 255 42 = some (.bipush 32) ∧ (Int8.ofInt 32).toInt32 = 32 ∧ 44 = 42 + 2 := by decide +kernel
theorem c255_44 : mj_Y.code kY 255 44 = some (.if_icmp .eq 23) ∧ mj_tg 44 23 = some 67 ∧ 47 = 44 + 3 := by decide +kernel
theorem c255_47 : mj_Y.code kY 255 47 = some (.aload_n 0) ∧ ((0 : Fin 4) : Nat) = 0 ∧ 48 = 47 + 1 := by decide +kernel
theorem c255_48 : mj_Y.code kY 255 48 = some (.aload_n 0) ∧ ((0 : Fin 4) : Nat) = 0 ∧ 49 = 48 + 1 := by decide +kernel
theorem c255_49 : mj_Y.code kY 255 49 = some (.getfield 55) ∧ mj_Y.fl kY 255 55 12 = some (16, (.array .int), false) ∧ 52 = 49 + 3 := by decide +kernel
theorem c255_52 : mj_Y.code kY 255 52 = some (.iload_n 1) ∧ ((1 : Fin 4) : Nat) = 1 ∧ 53 = 52 + 1 := by decide +kernel
theorem c255_53 : mj_Y.code kY 255 53 = some .iaload ∧ 54 = 53 + 1 := by decide +kernel
theorem c255_54 : mj_Y.code kY 255 54 = some (.invokevirtual 158) ∧ mj_Y.na kY 255 158 = some 1 ∧ mj_Y.cv kY 255 158 12 = some 206 ∧ mj_Y.nL kY 206 = 2 ∧ 57 = 54 + 3 := by decide +kernel
theorem c255_57 : mj_Y.code kY 255 57 = some (.aload_n 0) ∧ ((0 : Fin 4) : Nat) = 0 ∧ 58 = 57 + 1 := by decide +kernel
theorem c255_58 : mj_Y.code kY 255 58 = some (.aload_n 0) ∧ ((0 : Fin 4) : Nat) = 0 ∧ 59 = 58 + 1 := by decide +kernel
theorem c255_59 : mj_Y.code kY 255 59 = some (.getfield 58) ∧ mj_Y.fl kY 255 58 12 = some (17, (.array .int), false) ∧ 62 = 59 + 3 := by decide +kernel
theorem c255_62 : mj_Y.code kY 255 62 = some (.iload_n 1) ∧ ((1 : Fin 4) : Nat) = 1 ∧ 63 = 62 + 1 := by decide +kernel
theorem c255_63 : mj_Y.code kY 255 63 = some .iaload ∧ 64 = 63 + 1 := by decide +kernel
theorem c255_64 : mj_Y.code kY 255 64 = some (.invokevirtual 330) ∧ mj_Y.na kY 255 330 = some 1 ∧ mj_Y.cv kY 255 330 12 = some 249 ∧ mj_Y.nL kY 249 = 2 ∧ 67 = 64 + 3 := by decide +kernel
theorem c255_67 : mj_Y.code kY 255 67 = some .return_ ∧ mj_Y.rt kY 255 = none := by decide +kernel
theorem c256_0 : mj_Y.code kY 256 0 = some (.iconst 0) ∧ Int32.ofInt 0 = 0 ∧ 1 = 0 + 1 := by decide +kernel
theorem c256_1 : mj_Y.code kY 256 1 = some (.istore_n 3) ∧ ((3 : Fin 4) : Nat) = 3 ∧ 3 < mj_Y.nL kY 256 ∧ 2 = 1 + 1 := by decide +kernel
theorem c256_2 : mj_Y.code kY 256 2 = some (.iload_n 3) ∧ ((3 : Fin 4) : Nat) = 3 ∧ 3 = 2 + 1 := by decide +kernel
theorem c256_3 : mj_Y.code kY 256 3 = some (.aload_n 0) ∧ ((0 : Fin 4) : Nat) = 0 ∧ 4 = 3 + 1 := by decide +kernel
theorem c256_4 : mj_Y.code kY 256 4 = some (.getfield 52) ∧ mj_Y.fl kY 256 52 12 = some (15, (.array .int), false) ∧ 7 = 4 + 3 := by decide +kernel
theorem c256_7 : mj_Y.code kY 256 7 = some (.iload_n 2) ∧ ((2 : Fin 4) : Nat) = 2 ∧ 8 = 7 + 1 := by decide +kernel
theorem c256_8 : mj_Y.code kY 256 8 = some .iaload ∧ 9 = 8 + 1 := by decide +kernel
theorem c256_9 : mj_Y.code kY 256 9 = some (.if_icmp .ge 47) ∧ mj_tg 9 47 = some 56 ∧ 12 = 9 + 3 := by decide +kernel
theorem c256_12 : mj_Y.code kY 256 12 = some (.aload_n 0) ∧ ((0 : Fin 4) : Nat) = 0 ∧ 13 = 12 + 1 := by decide +kernel
theorem c256_13 : mj_Y.code kY 256 13 = some (.iload_n 3) ∧ ((3 : Fin 4) : Nat) = 3 ∧ 14 = 13 + 1 := by decide +kernel
theorem c256_14 : mj_Y.code kY 256 14 = some (.ifCond .ne 8) ∧ mj_tg 14 8 = some 22 ∧ 17 = 14 + 3 := by decide +kernel
theorem c256_17 : mj_Y.code kY 256 17 = some (.bipush 91) ∧ (Int8.ofInt 91).toInt32 = 91 ∧ 19 = 17 + 2 := by decide +kernel
theorem c256_19 : mj_Y.code kY 256 19 = some (.goto 5) ∧ mj_tg 19 5 = some 24 := by decide +kernel
theorem c256_22 : mj_Y.code kY 256 22 = some (.bipush 44) ∧ (Int8.ofInt 44).toInt32 = 44 ∧ 24 = 22 + 2 := by decide +kernel
theorem c256_24 : mj_Y.code kY 256 24 = some (.invokevirtual 158) ∧ mj_Y.na kY 256 158 = some 1 ∧ mj_Y.cv kY 256 158 12 = some 206 ∧ mj_Y.nL kY 206 = 2 ∧ 27 = 24 + 3 := by decide +kernel
theorem c256_27 : mj_Y.code kY 256 27 = some (.aload_n 0) ∧ ((0 : Fin 4) : Nat) = 0 ∧ 28 = 27 + 1 := by decide +kernel
theorem c256_28 : mj_Y.code kY 256 28 = some (.aload_n 0) ∧ ((0 : Fin 4) : Nat) = 0 ∧ 29 = 28 + 1 := by decide +kernel
theorem c256_29 : mj_Y.code kY 256 29 = some (.getfield 67) ∧ mj_Y.fl kY 256 67 12 = some (20, (.array .int), false) ∧ 32 = 29 + 3 := by decide +kernel
theorem c256_32 : mj_Y.code kY 256 32 = some (.sipush 160) ∧ (Int16.ofInt 160).toInt32 = 160 ∧ 35 = 32 + 3 := by decide +kernel
theorem c256_35 : mj_Y.code kY 256 35 = some (.iload_n 1) ∧ ((1 : Fin 4) : Nat) = 1 ∧ 36 = 35 + 1 := by decide +kernel
theorem c256_36 : mj_Y.code kY 256 36 = some .imul ∧ 37 = 36 + 1 := by decide +kernel
theorem c256_37 : mj_Y.code kY 256 37 = some (.aload_n 0) ∧ ((0 : Fin 4) : Nat) = 0 ∧ 38 = 37 + 1 := by decide +kernel
theorem c256_38 : mj_Y.code kY 256 38 = some (.getfield 49) ∧ mj_Y.fl kY 256 49 12 = some (14, (.array .int), false) ∧ 41 = 38 + 3 := by decide +kernel
theorem c256_41 : mj_Y.code kY 256 41 = some (.iload_n 2) ∧ ((2 : Fin 4) : Nat) = 2 ∧ 42 = 41 + 1 := by decide +kernel
theorem c256_42 : mj_Y.code kY 256 42 = some .iaload ∧ 43 = 42 + 1 := by decide +kernel
theorem c256_43 : mj_Y.code kY 256 43 = some .iadd ∧ 44 = 43 + 1 := by decide +kernel
theorem c256_44 : mj_Y.code kY 256 44 = some (.iload_n 3) ∧ ((3 : Fin 4) : Nat) = 3 ∧ 45 = 44 + 1 := by decide +kernel
theorem c256_45 : mj_Y.code kY 256 45 = some .iadd ∧ 46 = 45 + 1 := by decide +kernel
theorem c256_46 : mj_Y.code kY 256 46 = some .iaload ∧ 47 = 46 + 1 := by decide +kernel
theorem c256_47 : mj_Y.code kY 256 47 = some (.invokevirtual 330) ∧ mj_Y.na kY 256 330 = some 1 ∧ mj_Y.cv kY 256 330 12 = some 249 ∧ mj_Y.nL kY 249 = 2 ∧ 50 = 47 + 3 := by decide +kernel
theorem c256_50 : mj_Y.code kY 256 50 = some (.iinc 3 1) ∧ 3 < mj_Y.nL kY 256 ∧ Int32.ofInt 1 = 1 ∧ 53 = 50 + 3 := by decide +kernel
theorem c256_53 : mj_Y.code kY 256 53 = some (.goto (-51)) ∧ mj_tg 53 (-51) = some 2 := by decide +kernel
theorem c256_56 : mj_Y.code kY 256 56 = some (.aload_n 0) ∧ ((0 : Fin 4) : Nat) = 0 ∧ 57 = 56 + 1 := by decide +kernel
theorem c256_57 : mj_Y.code kY 256 57 = some (.bipush 93) ∧ (Int8.ofInt 93).toInt32 = 93 ∧ 59 = 57 + 2 := by decide +kernel
theorem c256_59 : mj_Y.code kY 256 59 = some (.invokevirtual 158) ∧ mj_Y.na kY 256 158 = some 1 ∧ mj_Y.cv kY 256 158 12 = some 206 ∧ mj_Y.nL kY 206 = 2 ∧ 62 = 59 + 3 := by decide +kernel
theorem c256_62 : mj_Y.code kY 256 62 = some .return_ ∧ mj_Y.rt kY 256 = none := by decide +kernel
theorem c257_0 : mj_Y.code kY 257 0 = some (.iload_n 0) ∧ ((0 : Fin 4) : Nat) = 0 ∧ 1 = 0 + 1 := by decide +kernel
theorem c257_1 : mj_Y.code kY 257 1 = some (.ifCond .ne 8) ∧ mj_tg 1 8 = some 9 ∧ 4 = 1 + 3 := by decide +kernel
theorem c257_4 : mj_Y.code kY 257 4 = some (.bipush 60) ∧ (Int8.ofInt 60).toInt32 = 60 ∧ 6 = 4 + 2 := by decide +kernel
theorem c257_6 : mj_Y.code kY 257 6 = some (.goto 66) ∧ mj_tg 6 66 = some 72 := by decide +kernel
theorem c257_9 : mj_Y.code kY 257 9 = some (.iload_n 0) ∧ ((0 : Fin 4) : Nat) = 0 ∧ 10 = 9 + 1 := by decide +kernel
theorem c257_10 : mj_Y.code kY 257 10 = some (.iconst 1) ∧ Int32.ofInt 1 = 1 ∧ 11 = 10 + 1 := by decide +kernel
theorem c257_11 : mj_Y.code kY 257 11 = some (.if_icmp .ne 8) ∧ mj_tg 11 8 = some 19 ∧ 14 = 11 + 3 := by decide +kernel
theorem c257_14 : mj_Y.code kY 257 14 = some (.bipush 62) ∧ (Int8.ofInt 62).toInt32 = 62 ∧ 16 = 14 + 2 := by decide +kernel
theorem c257_16 : mj_Y.code kY 257 16 = some (.goto 56) ∧ mj_tg 16 56 = some 72 := by decide +kernel
theorem c257_19 : mj_Y.code kY 257 19 = some (.iload_n 0) ∧ ((0 : Fin 4) : Nat) = 0 ∧ 20 = 19 + 1 := by decide +kernel
theorem c257_20 : mj_Y.code kY 257 20 = some (.iconst 2) ∧ Int32.ofInt 2 = 2 ∧ 21 = 20 + 1 := by decide +kernel
theorem c257_21 : mj_Y.code kY 257 21 = some (.if_icmp .ne 8) ∧ mj_tg 21 8 = some 29 ∧ 24 = 21 + 3 := by decide +kernel
theorem c257_24 : mj_Y.code kY 257 24 = some (.bipush 61) ∧ (Int8.ofInt 61).toInt32 = 61 ∧ 26 = 24 + 2 := by decide +kernel
theorem c257_26 : mj_Y.code kY 257 26 = some (.goto 46) ∧ mj_tg 26 46 = some 72 := by decide +kernel
theorem c257_29 : mj_Y.code kY 257 29 = some (.iload_n 0) ∧ ((0 : Fin 4) : Nat) = 0 ∧ 30 = 29 + 1 := by decide +kernel
theorem c257_30 : mj_Y.code kY 257 30 = some (.iconst 3) ∧ Int32.ofInt 3 = 3 ∧ 31 = 30 + 1 := by decide +kernel
theorem c257_31 : mj_Y.code kY 257 31 = some (.if_icmp .ne 8) ∧ mj_tg 31 8 = some 39 ∧ 34 = 31 + 3 := by decide +kernel
theorem c257_34 : mj_Y.code kY 257 34 = some (.bipush 43) ∧ (Int8.ofInt 43).toInt32 = 43 ∧ 36 = 34 + 2 := by decide +kernel
theorem c257_36 : mj_Y.code kY 257 36 = some (.goto 36) ∧ mj_tg 36 36 = some 72 := by decide +kernel
theorem c257_39 : mj_Y.code kY 257 39 = some (.iload_n 0) ∧ ((0 : Fin 4) : Nat) = 0 ∧ 40 = 39 + 1 := by decide +kernel
theorem c257_40 : mj_Y.code kY 257 40 = some (.iconst 4) ∧ Int32.ofInt 4 = 4 ∧ 41 = 40 + 1 := by decide +kernel
theorem c257_41 : mj_Y.code kY 257 41 = some (.if_icmp .ne 8) ∧ mj_tg 41 8 = some 49 ∧ 44 = 41 + 3 := by decide +kernel
theorem c257_44 : mj_Y.code kY 257 44 = some (.bipush 45) ∧ (Int8.ofInt 45).toInt32 = 45 ∧ 46 = 44 + 2 := by decide +kernel
theorem c257_46 : mj_Y.code kY 257 46 = some (.goto 26) ∧ mj_tg 46 26 = some 72 := by decide +kernel
theorem c257_49 : mj_Y.code kY 257 49 = some (.iload_n 0) ∧ ((0 : Fin 4) : Nat) = 0 ∧ 50 = 49 + 1 := by decide +kernel
theorem c257_50 : mj_Y.code kY 257 50 = some (.iconst 5) ∧ Int32.ofInt 5 = 5 ∧ 51 = 50 + 1 := by decide +kernel
theorem c257_51 : mj_Y.code kY 257 51 = some (.if_icmp .ne 8) ∧ mj_tg 51 8 = some 59 ∧ 54 = 51 + 3 := by decide +kernel
theorem c257_54 : mj_Y.code kY 257 54 = some (.bipush 42) ∧ (Int8.ofInt 42).toInt32 = 42 ∧ 56 = 54 + 2 := by decide +kernel
theorem c257_56 : mj_Y.code kY 257 56 = some (.goto 16) ∧ mj_tg 56 16 = some 72 := by decide +kernel
theorem c257_59 : mj_Y.code kY 257 59 = some (.iload_n 0) ∧ ((0 : Fin 4) : Nat) = 0 ∧ 60 = 59 + 1 := by decide +kernel
theorem c257_60 : mj_Y.code kY 257 60 = some (.bipush 6) ∧ (Int8.ofInt 6).toInt32 = 6 ∧ 62 = 60 + 2 := by decide +kernel
theorem c257_62 : mj_Y.code kY 257 62 = some (.if_icmp .ne 8) ∧ mj_tg 62 8 = some 70 ∧ 65 = 62 + 3 := by decide +kernel
theorem c257_65 : mj_Y.code kY 257 65 = some (.bipush 47) ∧ (Int8.ofInt 47).toInt32 = 47 ∧ 67 = 65 + 2 := by decide +kernel
theorem c257_67 : mj_Y.code kY 257 67 = some (.goto 5) ∧ mj_tg 67 5 = some 72 := by decide +kernel
theorem c257_70 : mj_Y.code kY 257 70 = some (.bipush 37) ∧ (Int8.ofInt 37).toInt32 = 37 ∧ 72 = 70 + 2 := by decide +kernel
theorem c257_72 : mj_Y.code kY 257 72 = some .ireturn ∧ mj_Y.rt kY 257 = some .int := by decide +kernel
theorem c258_0 : mj_Y.code kY 258 0 = some (.aload_n 0) ∧ ((0 : Fin 4) : Nat) = 0 ∧ 1 = 0 + 1 := by decide +kernel
theorem c258_1 : mj_Y.code kY 258 1 = some (.aload_n 0) ∧ ((0 : Fin 4) : Nat) = 0 ∧ 2 = 1 + 1 := by decide +kernel
theorem c258_2 : mj_Y.code kY 258 2 = some (.iload_n 1) ∧ ((1 : Fin 4) : Nat) = 1 ∧ 3 = 2 + 1 := by decide +kernel
theorem c258_3 : mj_Y.code kY 258 3 = some (.invokevirtual 359) ∧ mj_Y.na kY 258 359 = some 1 ∧ mj_Y.cv kY 258 359 12 = some 246 ∧ mj_Y.nL kY 246 = 2 ∧ 6 = 3 + 3 := by decide +kernel
theorem c258_6 : mj_Y.code kY 258 6 = some (.putfield 142) ∧ mj_Y.fl kY 258 142 12 = some (0, .int, true) ∧ 9 = 6 + 3 := by decide +kernel
theorem c258_9 : mj_Y.code kY 258 9 = some (.aload_n 0) ∧ ((0 : Fin 4) : Nat) = 0 ∧ 10 = 9 + 1 := by decide +kernel
theorem c258_10 : mj_Y.code kY 258 10 = some (.getfield 142) ∧ mj_Y.fl kY 258 142 12 = some (0, .int, true) ∧ 13 = 10 + 3 := by decide +kernel
theorem c258_13 : mj_Y.code kY 258 13 = some (.ifCond .le 7) ∧ mj_tg 13 7 = some 20 ∧ 16 = 13 + 3 := by decide +kernel
theorem c258_16 : mj_Y.code kY 258 16 = some (.lconst 0) ∧ Int64.ofNat ((0 : Fin 2) : Nat) = 0 ∧ 17 = 16 + 1 := by decide +kernel
theorem c258_17 : mj_Y.code kY 258 17 = some (.goto 15) ∧ mj_tg 17 15 = some 32 := by decide +kernel
theorem c258_20 : mj_Y.code kY 258 20 = some (.aload_n 0) ∧ ((0 : Fin 4) : Nat) = 0 ∧ 21 = 20 + 1 := by decide +kernel
theorem c258_21 : mj_Y.code kY 258 21 = some (.iload_n 1) ∧ ((1 : Fin 4) : Nat) = 1 ∧ 22 = 21 + 1 := by decide +kernel
theorem c258_22 : mj_Y.code kY 258 22 = some (.iconst 0) ∧ Int32.ofInt 0 = 0 ∧ 23 = 22 + 1 := by decide +kernel
theorem c258_23 : mj_Y.code kY 258 23 = some (.aload_n 0) ∧ ((0 : Fin 4) : Nat) = 0 ∧ 24 = 23 + 1 := by decide +kernel
theorem c258_24 : mj_Y.code kY 258 24 = some (.getfield 21) ∧ mj_Y.fl kY 258 21 12 = some (5, (.array .int), false) ∧ 27 = 24 + 3 := by decide +kernel
theorem c258_27 : mj_Y.code kY 258 27 = some (.iload_n 1) ∧ ((1 : Fin 4) : Nat) = 1 ∧ 28 = 27 + 1 := by decide +kernel
theorem c258_28 : mj_Y.code kY 258 28 = some .iaload ∧ 29 = 28 + 1 := by decide +kernel
theorem c258_29 : mj_Y.code kY 258 29 = some (.invokevirtual 272) ∧ mj_Y.na kY 258 272 = some 3 ∧ mj_Y.cv kY 258 272 12 = some 236 ∧ mj_Y.nL kY 236 = 7 ∧ 32 = 29 + 3 := by decide +kernel
theorem c258_32 : mj_Y.code kY 258 32 = some .lreturn ∧ mj_Y.rt kY 258 = some .long := by decide +kernel
theorem c259_0 : mj_Y.code kY 259 0 = some (.aload_n 0) ∧ ((0 : Fin 4) : Nat) = 0 ∧ 1 = 0 + 1 := by decide +kernel
theorem c259_1 : mj_Y.code kY 259 1 = some (.aload_n 0) ∧ ((0 : Fin 4) : Nat) = 0 ∧ 2 = 1 + 1 := by decide +kernel
theorem c259_2 : mj_Y.code kY 259 2 = some (.iload_n 1) ∧ ((1 : Fin 4) : Nat) = 1 ∧ 3 = 2 + 1 := by decide +kernel
theorem c259_3 : mj_Y.code kY 259 3 = some (.invokevirtual 359) ∧ mj_Y.na kY 259 359 = some 1 ∧ mj_Y.cv kY 259 359 12 = some 246 ∧ mj_Y.nL kY 246 = 2 ∧ 6 = 3 + 3 := by decide +kernel
theorem c259_6 : mj_Y.code kY 259 6 = some (.putfield 142) ∧ mj_Y.fl kY 259 142 12 = some (0, .int, true) ∧ 9 = 6 + 3 := by decide +kernel
theorem c259_9 : mj_Y.code kY 259 9 = some (.aload_n 0) ∧ ((0 : Fin 4) : Nat) = 0 ∧ 10 = 9 + 1 := by decide +kernel
theorem c259_10 : mj_Y.code kY 259 10 = some (.getfield 142) ∧ mj_Y.fl kY 259 142 12 = some (0, .int, true) ∧ 13 = 10 + 3 := by decide +kernel
theorem c259_13 : mj_Y.code kY 259 13 = some (.ifCond .le 5) ∧ mj_tg 13 5 = some 18 ∧ 16 = 13 + 3 := by decide +kernel
theorem c259_16 : mj_Y.code kY 259 16 = some (.iconst 0) ∧ Int32.ofInt 0 = 0 ∧ 17 = 16 + 1 := by decide +kernel
theorem c259_17 : mj_Y.code kY 259 17 = some .ireturn ∧ mj_Y.rt kY 259 = some .int := by decide +kernel
theorem c259_18 : mj_Y.code kY 259 18 = some (.aload_n 0) ∧ ((0 : Fin 4) : Nat) = 0 ∧ 19 = 18 + 1 := by decide +kernel
theorem c259_19 : mj_Y.code kY 259 19 = some (.iload_n 1) ∧ ((1 : Fin 4) : Nat) = 1 ∧ 20 = 19 + 1 := by decide +kernel
theorem c259_20 : mj_Y.code kY 259 20 = some (.invokevirtual 456) ∧ mj_Y.na kY 259 456 = some 1 ∧ mj_Y.cv kY 259 456 12 = some 260 ∧ mj_Y.nL kY 260 = 4 ∧ 23 = 20 + 3 := by decide +kernel
theorem c259_23 : mj_Y.code kY 259 23 = some (.istore_n 2) ∧ ((2 : Fin 4) : Nat) = 2 ∧ 2 < mj_Y.nL kY 259 ∧ 24 = 23 + 1 := by decide +kernel
theorem c259_24 : mj_Y.code kY 259 24 = some (.aload_n 0) ∧ ((0 : Fin 4) : Nat) = 0 ∧ 25 = 24 + 1 := by decide +kernel
theorem c259_25 : mj_Y.code kY 259 25 = some (.getfield 127) ∧ mj_Y.fl kY 259 127 12 = some (57, (.array .boolean), false) ∧ 28 = 25 + 3 := by decide +kernel
theorem c259_28 : mj_Y.code kY 259 28 = some (.iload_n 1) ∧ ((1 : Fin 4) : Nat) = 1 ∧ 29 = 28 + 1 := by decide +kernel
theorem c259_29 : mj_Y.code kY 259 29 = some (.iconst 0) ∧ Int32.ofInt 0 = 0 ∧ 30 = 29 + 1 := by decide +kernel
theorem c259_30 : mj_Y.code kY 259 30 = some .bastore ∧ 31 = 30 + 1 := by decide +kernel
theorem c259_31 : mj_Y.code kY 259 31 = some (.iload_n 2) ∧ ((2 : Fin 4) : Nat) = 2 ∧ 32 = 31 + 1 := by decide +kernel
theorem c259_32 : mj_Y.code kY 259 32 = some (.ifCond .ne 8) ∧ mj_tg 32 8 = some 40 ∧ 35 = 32 + 3 := by decide +kernel
theorem c259_35 : mj_Y.code kY 259 35 = some (.aload_n 0) ∧ ((0 : Fin 4) : Nat) = 0 ∧ 36 = 35 + 1 := by decide +kernel
theorem c259_36 : mj_Y.code kY 259 36 = some (.iload_n 1) ∧ ((1 : Fin 4) : Nat) = 1 ∧ 37 = 36 + 1 := by decide +kernel
theorem c259_37 : mj_Y.code kY 259 37 = some (.invokevirtual 459) ∧ mj_Y.na kY 259 459 = some 1 ∧ mj_Y.cv kY 259 459 12 = some 287 ∧ mj_Y.nL kY 287 = 6 ∧ 40 = 37 + 3 := by decide +kernel
theorem c259_40 : mj_Y.code kY 259 40 = some (.iload_n 2) ∧ ((2 : Fin 4) : Nat) = 2 ∧ 41 = 40 + 1 := by decide +kernel
theorem c259_41 : mj_Y.code kY 259 41 = some .ireturn ∧ mj_Y.rt kY 259 = some .int := by decide +kernel
theorem c260_0 : mj_Y.code kY 260 0 = some (.aload_n 0) ∧ ((0 : Fin 4) : Nat) = 0 ∧ 1 = 0 + 1 := by decide +kernel
theorem c260_1 : mj_Y.code kY 260 1 = some (.iconst 0) ∧ Int32.ofInt 0 = 0 ∧ 2 = 1 + 1 := by decide +kernel
theorem c260_2 : mj_Y.code kY 260 2 = some (.putfield 353) ∧ mj_Y.fl kY 260 353 12 = some (56, .int, true) ∧ 5 = 2 + 3 := by decide +kernel
theorem c260_5 : mj_Y.code kY 260 5 = some (.aload_n 0) ∧ ((0 : Fin 4) : Nat) = 0 ∧ 6 = 5 + 1 := by decide +kernel
theorem c260_6 : mj_Y.code kY 260 6 = some (.iconst 1) ∧ Int32.ofInt 1 = 1 ∧ 7 = 6 + 1 := by decide +kernel
theorem c260_7 : mj_Y.code kY 260 7 = some (.putfield 413) ∧ mj_Y.fl kY 260 413 12 = some (52, .int, true) ∧ 10 = 7 + 3 := by decide +kernel
theorem c260_10 : mj_Y.code kY 260 10 = some (.aload_n 0) ∧ ((0 : Fin 4) : Nat) = 0 ∧ 11 = 10 + 1 := by decide +kernel
theorem c260_11 : mj_Y.code kY 260 11 = some (.getfield 115) ∧ mj_Y.fl kY 260 115 12 = some (49, (.array .int), false) ∧ 14 = 11 + 3 := by decide +kernel
theorem c260_14 : mj_Y.code kY 260 14 = some (.iconst 0) ∧ Int32.ofInt 0 = 0 ∧ 15 = 14 + 1 := by decide +kernel
theorem c260_15 : mj_Y.code kY 260 15 = some (.iconst 1) ∧ Int32.ofInt 1 = 1 ∧ 16 = 15 + 1 := by decide +kernel
theorem c260_16 : mj_Y.code kY 260 16 = some .iastore ∧ 17 = 16 + 1 := by decide +kernel
theorem c260_17 : mj_Y.code kY 260 17 = some (.aload_n 0) ∧ ((0 : Fin 4) : Nat) = 0 ∧ 18 = 17 + 1 := by decide +kernel
theorem c260_18 : mj_Y.code kY 260 18 = some (.getfield 112) ∧ mj_Y.fl kY 260 112 12 = some (48, (.array .long), false) ∧ 21 = 18 + 3 := by decide +kernel
theorem c260_21 : mj_Y.code kY 260 21 = some (.iconst 0) ∧ Int32.ofInt 0 = 0 ∧ 22 = 21 + 1 := by decide +kernel
theorem c260_22 : mj_Y.code kY 260 22 = some (.lconst 1) ∧ Int64.ofNat ((1 : Fin 2) : Nat) = 1 ∧ 23 = 22 + 1 := by decide +kernel
theorem c260_23 : mj_Y.code kY 260 23 = some .lastore ∧ 24 = 23 + 1 := by decide +kernel
theorem c260_24 : mj_Y.code kY 260 24 = some (.iconst 0) ∧ Int32.ofInt 0 = 0 ∧ 25 = 24 + 1 := by decide +kernel
theorem c260_25 : mj_Y.code kY 260 25 = some (.istore_n 2) ∧ ((2 : Fin 4) : Nat) = 2 ∧ 2 < mj_Y.nL kY 260 ∧ 26 = 25 + 1 := by decide +kernel
theorem c260_26 : mj_Y.code kY 260 26 = some (.iload_n 2) ∧ ((2 : Fin 4) : Nat) = 2 ∧ 27 = 26 + 1 := by decide +kernel
theorem c260_27 : mj_Y.code kY 260 27 = some (.bipush 6) ∧ (Int8.ofInt 6).toInt32 = 6 ∧ 29 = 27 + 2 := by decide +kernel
theorem c260_29 : mj_Y.code kY 260 29 = some (.if_icmp .ge 16) ∧ mj_tg 29 16 = some 45 ∧ 32 = 29 + 3 := by decide +kernel
theorem c260_32 : mj_Y.code kY 260 32 = some (.aload_n 0) ∧ ((0 : Fin 4) : Nat) = 0 ∧ 33 = 32 + 1 := by decide +kernel
theorem c260_33 : mj_Y.code kY 260 33 = some (.getfield 109) ∧ mj_Y.fl kY 260 109 12 = some (47, (.array .int), false) ∧ 36 = 33 + 3 := by decide +kernel
theorem c260_36 : mj_Y.code kY 260 36 = some (.iload_n 2) ∧ ((2 : Fin 4) : Nat) = 2 ∧ 37 = 36 + 1 := by decide +kernel
theorem c260_37 : mj_Y.code kY 260 37 = some (.iconst 0) ∧ Int32.ofInt 0 = 0 ∧ 38 = 37 + 1 := by decide +kernel
theorem c260_38 : mj_Y.code kY 260 38 = some .iastore ∧ 39 = 38 + 1 := by decide +kernel
theorem c260_39 : mj_Y.code kY 260 39 = some (.iinc 2 1) ∧ 2 < mj_Y.nL kY 260 ∧ Int32.ofInt 1 = 1 ∧ 42 = 39 + 3 := by decide +kernel
theorem c260_42 : mj_Y.code kY 260 42 = some (.goto (-16)) ∧ mj_tg 42 (-16) = some 26 := by decide +kernel
theorem c260_45 : mj_Y.code kY 260 45 = some (.iconst 0) ∧ Int32.ofInt 0 = 0 ∧ 46 = 45 + 1 := by decide +kernel
theorem c260_46 : mj_Y.code kY 260 46 = some (.istore_n 2) ∧ ((2 : Fin 4) : Nat) = 2 ∧ 2 < mj_Y.nL kY 260 ∧ 47 = 46 + 1 := by decide +kernel
theorem c260_47 : mj_Y.code kY 260 47 = some (.iconst 0) ∧ Int32.ofInt 0 = 0 ∧ 48 = 47 + 1 := by decide +kernel
theorem c260_48 : mj_Y.code kY 260 48 = some (.istore_n 3) ∧ ((3 : Fin 4) : Nat) = 3 ∧ 3 < mj_Y.nL kY 260 ∧ 49 = 48 + 1 := by decide +kernel
theorem c260_49 : mj_Y.code kY 260 49 = some (.iload_n 3) ∧ ((3 : Fin 4) : Nat) = 3 ∧ 50 = 49 + 1 := by decide +kernel
theorem c260_50 : mj_Y.code kY 260 50 = some (.aload_n 0) ∧ ((0 : Fin 4) : Nat) = 0 ∧ 51 = 50 + 1 := by decide +kernel
theorem c260_51 : mj_Y.code kY 260 51 = some (.getfield 21) ∧ mj_Y.fl kY 260 21 12 = some (5, (.array .int), false) ∧ 54 = 51 + 3 := by decide +kernel
theorem c260_54 : mj_Y.code kY 260 54 = some (.iload_n 1) ∧ ((1 : Fin 4) : Nat) = 1 ∧ 55 = 54 + 1 := by decide +kernel
theorem c260_55 : mj_Y.code kY 260 55 = some .iaload ∧ 56 = 55 + 1 := by decide +kernel
theorem c260_56 : mj_Y.code kY 260 56 = some (.if_icmp .ge 36) ∧ mj_tg 56 36 = some 92 ∧ 59 = 56 + 3 := by decide +kernel
theorem c260_59 : mj_Y.code kY 260 59 = some (.aload_n 0) ∧ ((0 : Fin 4) : Nat) = 0 ∧ 60 = 59 + 1 := by decide +kernel
theorem c260_60 : mj_Y.code kY 260 60 = some (.getfield 24) ∧ mj_Y.fl kY 260 24 12 = some (6, (.array .int), false) ∧ 63 = 60 + 3 := by decide +kernel
theorem c260_63 : mj_Y.code kY 260 63 = some (.bipush 24) ∧ (Int8.ofInt 24).toInt32 = 24 ∧ 65 = 63 + 2 := by decide +kernel
theorem c260_65 : mj_Y.code kY 260 65 = some (.iload_n 1) ∧ ((1 : Fin 4) : Nat) = 1 ∧ 66 = 65 + 1 := by decide +kernel
theorem c260_66 : mj_Y.code kY 260 66 = some .imul ∧ 67 = 66 + 1 := by decide +kernel
theorem c260_67 : mj_Y.code kY 260 67 = some (.iload_n 3) ∧ ((3 : Fin 4) : Nat) = 3 ∧ 68 = 67 + 1 := by decide +kernel
theorem c260_68 : mj_Y.code kY 260 68 = some .iadd ∧ 69 = 68 + 1 := by decide +kernel
theorem c260_69 : mj_Y.code kY 260 69 = some .iaload ∧ 70 = 69 + 1 := by decide +kernel
theorem c260_70 : mj_Y.code kY 260 70 = some (.iconst 3) ∧ Int32.ofInt 3 = 3 ∧ 71 = 70 + 1 := by decide +kernel
theorem c260_71 : mj_Y.code kY 260 71 = some (.if_icmp .ne 7) ∧ mj_tg 71 7 = some 78 ∧ 74 = 71 + 3 := by decide +kernel
theorem c260_74 : mj_Y.code kY 260 74 = some (.iload_n 2) ∧ ((2 : Fin 4) : Nat) = 2 ∧ 75 = 74 + 1 := by decide +kernel
theorem c260_75 : mj_Y.code kY 260 75 = some (.goto 10) ∧ mj_tg 75 10 = some 85 := by decide +kernel
theorem c260_78 : mj_Y.code kY 260 78 = some (.aload_n 0) ∧ ((0 : Fin 4) : Nat) = 0 ∧ 79 = 78 + 1 := by decide +kernel
theorem c260_79 : mj_Y.code kY 260 79 = some (.iload_n 1) ∧ ((1 : Fin 4) : Nat) = 1 ∧ 80 = 79 + 1 := by decide +kernel
theorem c260_80 : mj_Y.code kY 260 80 = some (.iload_n 3) ∧ ((3 : Fin 4) : Nat) = 3 ∧ 81 = 80 + 1 := by decide +kernel
theorem c260_81 : mj_Y.code kY 260 81 = some (.iload_n 2) ∧ ((2 : Fin 4) : Nat) = 2 ∧ 82 = 81 + 1 := by decide +kernel
theorem c260_82 : mj_Y.code kY 260 82 = some (.invokevirtual 444) ∧ mj_Y.na kY 260 444 = some 3 ∧ mj_Y.cv kY 260 444 12 = some 261 ∧ mj_Y.nL kY 261 = 7 ∧ 85 = 82 + 3 := by decide +kernel
theorem c260_85 : mj_Y.code kY 260 85 = some (.istore_n 2) ∧ ((2 : Fin 4) : Nat) = 2 ∧ 2 < mj_Y.nL kY 260 ∧ 86 = 85 + 1 := by decide +kernel
theorem c260_86 : mj_Y.code kY 260 86 = some (.iinc 3 1) ∧ 3 < mj_Y.nL kY 260 ∧ Int32.ofInt 1 = 1 ∧ 89 = 86 + 3 := by decide +kernel
theorem c260_89 : mj_Y.code kY 260 89 = some (.goto (-40)) ∧ mj_tg 89 (-40) = some 49 := by decide +kernel
theorem c260_92 : mj_Y.code kY 260 92 = some (.iconst 0) ∧ Int32.ofInt 0 = 0 ∧ 93 = 92 + 1 := by decide +kernel
theorem c260_93 : mj_Y.code kY 260 93 = some (.istore_n 3) ∧ ((3 : Fin 4) : Nat) = 3 ∧ 3 < mj_Y.nL kY 260 ∧ 94 = 93 + 1 := by decide +kernel
theorem c260_94 : mj_Y.code kY 260 94 = some (.iload_n 3) ∧ ((3 : Fin 4) : Nat) = 3 ∧ 95 = 94 + 1 := by decide +kernel
theorem c260_95 : mj_Y.code kY 260 95 = some (.ifCond .lt 48) ∧ mj_tg 95 48 = some 143 ∧ 98 = 95 + 3 := by decide +kernel
theorem c260_98 : mj_Y.code kY 260 98 = some (.aload_n 0) ∧ ((0 : Fin 4) : Nat) = 0 ∧ 99 = 98 + 1 := by decide +kernel
theorem c260_99 : mj_Y.code kY 260 99 = some (.getfield 353) ∧ mj_Y.fl kY 260 353 12 = some (56, .int, true) ∧ 102 = 99 + 3 := by decide +kernel
theorem c260_102 : mj_Y.code kY 260 102 = some (.ifCond .gt 13) ∧ mj_tg 102 13 = some 115 ∧ 105 = 102 + 3 := by decide +kernel
theorem c260_105 : mj_Y.code kY 260 105 = some (.iload_n 3) ∧ ((3 : Fin 4) : Nat) = 3 ∧ 106 = 105 + 1 := by decide +kernel
theorem c260_106 : mj_Y.code kY 260 106 = some (.aload_n 0) ∧ ((0 : Fin 4) : Nat) = 0 ∧ 107 = 106 + 1 := by decide +kernel
theorem c260_107 : mj_Y.code kY 260 107 = some (.getfield 21) ∧ mj_Y.fl kY 260 21 12 = some (5, (.array .int), false) ∧ 110 = 107 + 3 := by decide +kernel
theorem c260_110 : mj_Y.code kY 260 110 = some (.iload_n 1) ∧ ((1 : Fin 4) : Nat) = 1 ∧ 111 = 110 + 1 := by decide +kernel
theorem c260_111 : mj_Y.code kY 260 111 = some .iaload ∧ 112 = 111 + 1 := by decide +kernel
theorem c260_112 : mj_Y.code kY 260 112 = some (.if_icmp .ge 31) ∧ mj_tg 112 31 = some 143 ∧ 115 = 112 + 3 := by decide +kernel
theorem c260_115 : mj_Y.code kY 260 115 = some (.iload_n 3) ∧ ((3 : Fin 4) : Nat) = 3 ∧ 116 = 115 + 1 := by decide +kernel
theorem c260_116 : mj_Y.code kY 260 116 = some (.aload_n 0) ∧ ((0 : Fin 4) : Nat) = 0 ∧ 117 = 116 + 1 := by decide +kernel
theorem c260_117 : mj_Y.code kY 260 117 = some (.iload_n 1) ∧ ((1 : Fin 4) : Nat) = 1 ∧ 118 = 117 + 1 := by decide +kernel
theorem c260_118 : mj_Y.code kY 260 118 = some (.invokevirtual 447) ∧ mj_Y.na kY 260 447 = some 1 ∧ mj_Y.cv kY 260 447 12 = some 266 ∧ mj_Y.nL kY 266 = 3 ∧ 121 = 118 + 3 := by decide +kernel
theorem c260_121 : mj_Y.code kY 260 121 = some (.if_icmp .ne 12) ∧ mj_tg 121 12 = some 133 ∧ 124 = 121 + 3 := by decide +kernel
theorem c260_124 : mj_Y.code kY 260 124 = some (.aload_n 0) ∧ ((0 : Fin 4) : Nat) = 0 ∧ 125 = 124 + 1 := by decide +kernel
theorem c260_125 : mj_Y.code kY 260 125 = some (.iload_n 1) ∧ ((1 : Fin 4) : Nat) = 1 ∧ 126 = 125 + 1 := by decide +kernel
theorem c260_126 : mj_Y.code kY 260 126 = some (.iload_n 3) ∧ ((3 : Fin 4) : Nat) = 3 ∧ 127 = 126 + 1 := by decide +kernel
theorem c260_127 : mj_Y.code kY 260 127 = some (.invokevirtual 450) ∧ mj_Y.na kY 260 450 = some 2 ∧ mj_Y.cv kY 260 450 12 = some 267 ∧ mj_Y.nL kY 267 = 6 ∧ 130 = 127 + 3 := by decide +kernel
theorem c260_130 : mj_Y.code kY 260 130 = some (.goto 9) ∧ mj_tg 130 9 = some 139 := by decide +kernel
theorem c260_133 : mj_Y.code kY 260 133 = some (.aload_n 0) ∧ ((0 : Fin 4) : Nat) = 0 ∧ 134 = 133 + 1 := by decide +kernel
theorem c260_134 : mj_Y.code kY 260 134 = some (.iload_n 1) ∧ ((1 : Fin 4) : Nat) = 1 ∧ 135 = 134 + 1 := by decide +kernel
theorem c260_135 : mj_Y.code kY 260 135 = some (.iload_n 3) ∧ ((3 : Fin 4) : Nat) = 3 ∧ 136 = 135 + 1 := by decide +kernel
theorem c260_136 : mj_Y.code kY 260 136 = some (.invokevirtual 453) ∧ mj_Y.na kY 260 453 = some 2 ∧ mj_Y.cv kY 260 453 12 = some 275 ∧ mj_Y.nL kY 275 = 5 ∧ 139 = 136 + 3 := by decide +kernel
theorem c260_139 : mj_Y.code kY 260 139 = some (.istore_n 3) ∧ ((3 : Fin 4) : Nat) = 3 ∧ 3 < mj_Y.nL kY 260 ∧ 140 = 139 + 1 := by decide +kernel
theorem c260_140 : mj_Y.code kY 260 140 = some (.goto (-46)) ∧ mj_tg 140 (-46) = some 94 := by decide +kernel
theorem c260_143 : mj_Y.code kY 260 143 = some (.iload_n 3) ∧ ((3 : Fin 4) : Nat) = 3 ∧ 144 = 143 + 1 := by decide +kernel
theorem c260_144 : mj_Y.code kY 260 144 = some (.ifCond .ge 10) ∧ mj_tg 144 10 = some 154 ∧ 147 = 144 + 3 := by decide +kernel
theorem c260_147 : mj_Y.code kY 260 147 = some (.aload_n 0) ∧ ((0 : Fin 4) : Nat) = 0 ∧ 148 = 147 + 1 := by decide +kernel
theorem c260_148 : mj_Y.code kY 260 148 = some (.getfield 395) ∧ mj_Y.fl kY 260 395 12 = some (51, .int, true) ∧ 151 = 148 + 3 := by decide +kernel
theorem c260_151 : mj_Y.code kY 260 151 = some (.goto 18) ∧ mj_tg 151 18 = some 169 := by decide +kernel
theorem c260_154 : mj_Y.code kY 260 154 = some (.aload_n 0) ∧ ((0 : Fin 4) : Nat) = 0 ∧ 155 = 154 + 1 := by decide +kernel
theorem c260_155 : mj_Y.code kY 260 155 = some (.getfield 115) ∧ mj_Y.fl kY 260 115 12 = some (49, (.array .int), false) ∧ 158 = 155 + 3 := by decide +kernel
theorem c260_158 : mj_Y.code kY 260 158 = some (.iconst 0) ∧ Int32.ofInt 0 = 0 ∧ 159 = 158 + 1 := by decide +kernel
theorem c260_159 : mj_Y.code kY 260 159 = some .iaload ∧ 160 = 159 + 1 := by decide +kernel
theorem c260_160 : mj_Y.code kY 260 160 = some (.ifCond .ne 8) ∧ mj_tg 160 8 = some 168 ∧ 163 = 160 + 3 := by decide +kernel
theorem c260_163 : mj_Y.code kY 260 163 = some (.bipush (-3)) ∧ (Int8.ofInt (-3)).toInt32 = (-3) ∧ 165 = 163 + 2 := by decide +kernel
theorem c260_165 : mj_Y.code kY 260 165 = some (.goto 4) ∧ mj_tg 165 4 = some 169 := by decide +kernel
theorem c260_168 : mj_Y.code kY 260 168 = some (.iconst 0) ∧ Int32.ofInt 0 = 0 ∧ 169 = 168 + 1 := by decide +kernel
theorem c260_169 : mj_Y.code kY 260 169 = some .ireturn ∧ mj_Y.rt kY 260 = some .int := by decide +kernel
theorem c261_0 : mj_Y.code kY 261 0 = some (.iload_n 3) ∧ ((3 : Fin 4) : Nat) = 3 ∧ 1 = 0 + 1 := by decide +kernel
theorem c261_1 : mj_Y.code kY 261 1 = some (.istore 4) ∧ 4 = 4 ∧ 4 < mj_Y.nL kY 261 ∧ 3 = 1 + 2 := by decide +kernel
theorem c261_3 : mj_Y.code kY 261 3 = some (.sipush 160) ∧ (Int16.ofInt 160).toInt32 = 160 ∧ 6 = 3 + 3 := by decide +kernel
theorem c261_6 : mj_Y.code kY 261 6 = some (.iload_n 1) ∧ ((1 : Fin 4) : Nat) = 1 ∧ 7 = 6 + 1 := by decide +kernel
theorem c261_7 : mj_Y.code kY 261 7 = some .imul ∧ 8 = 7 + 1 := by decide +kernel
theorem c261_8 : mj_Y.code kY 261 8 = some (.aload_n 0) ∧ ((0 : Fin 4) : Nat) = 0 ∧ 9 = 8 + 1 := by decide +kernel
theorem c261_9 : mj_Y.code kY 261 9 = some (.getfield 30) ∧ mj_Y.fl kY 261 30 12 = some (8, (.array .int), false) ∧ 12 = 9 + 3 := by decide +kernel
theorem c261_12 : mj_Y.code kY 261 12 = some (.bipush 24) ∧ (Int8.ofInt 24).toInt32 = 24 ∧ 14 = 12 + 2 := by decide +kernel
theorem c261_14 : mj_Y.code kY 261 14 = some (.iload_n 1) ∧ ((1 : Fin 4) : Nat) = 1 ∧ 15 = 14 + 1 := by decide +kernel
theorem c261_15 : mj_Y.code kY 261 15 = some .imul ∧ 16 = 15 + 1 := by decide +kernel
theorem c261_16 : mj_Y.code kY 261 16 = some (.iload_n 2) ∧ ((2 : Fin 4) : Nat) = 2 ∧ 17 = 16 + 1 := by decide +kernel
theorem c261_17 : mj_Y.code kY 261 17 = some .iadd ∧ 18 = 17 + 1 := by decide +kernel
theorem c261_18 : mj_Y.code kY 261 18 = some .iaload ∧ 19 = 18 + 1 := by decide +kernel
theorem c261_19 : mj_Y.code kY 261 19 = some .iadd ∧ 20 = 19 + 1 := by decide +kernel
theorem c261_20 : mj_Y.code kY 261 20 = some (.istore 5) ∧ 5 = 5 ∧ 5 < mj_Y.nL kY 261 ∧ 22 = 20 + 2 := by decide +kernel
theorem c261_22 : mj_Y.code kY 261 22 = some (.iload 5) ∧ 5 = 5 ∧ 24 = 22 + 2 := by decide +kernel
theorem c261_24 : mj_Y.code kY 261 24 = some (.sipush 160) ∧ (Int16.ofInt 160).toInt32 = 160 ∧ 27 = 24 + 3 := by decide +kernel
theorem c261_27 : mj_Y.code kY 261 27 = some (.iload_n 1) ∧ ((1 : Fin 4) : Nat) = 1 ∧ 28 = 27 + 1 := by decide +kernel
theorem c261_28 : mj_Y.code kY 261 28 = some .imul ∧ 29 = 28 + 1 := by decide +kernel
theorem c261_29 : mj_Y.code kY 261 29 = some (.aload_n 0) ∧ ((0 : Fin 4) : Nat) = 0 ∧ 30 = 29 + 1 := by decide +kernel
theorem c261_30 : mj_Y.code kY 261 30 = some (.getfield 33) ∧ mj_Y.fl kY 261 33 12 = some (9, (.array .int), false) ∧ 33 = 30 + 3 := by decide +kernel
theorem c261_33 : mj_Y.code kY 261 33 = some (.bipush 24) ∧ (Int8.ofInt 24).toInt32 = 24 ∧ 35 = 33 + 2 := by decide +kernel
theorem c261_35 : mj_Y.code kY 261 35 = some (.iload_n 1) ∧ ((1 : Fin 4) : Nat) = 1 ∧ 36 = 35 + 1 := by decide +kernel
theorem c261_36 : mj_Y.code kY 261 36 = some .imul ∧ 37 = 36 + 1 := by decide +kernel
theorem c261_37 : mj_Y.code kY 261 37 = some (.iload_n 2) ∧ ((2 : Fin 4) : Nat) = 2 ∧ 38 = 37 + 1 := by decide +kernel
theorem c261_38 : mj_Y.code kY 261 38 = some .iadd ∧ 39 = 38 + 1 := by decide +kernel
theorem c261_39 : mj_Y.code kY 261 39 = some .iaload ∧ 40 = 39 + 1 := by decide +kernel
theorem c261_40 : mj_Y.code kY 261 40 = some .iadd ∧ 41 = 40 + 1 := by decide +kernel
theorem c261_41 : mj_Y.code kY 261 41 = some (.if_icmp .gt 200) ∧ mj_tg 41 200 = some 241 ∧ 44 = 41 + 3 := by decide +kernel
theorem c261_44 : mj_Y.code kY 261 44 = some (.aload_n 0) ∧ ((0 : Fin 4) : Nat) = 0 ∧ 45 = 44 + 1 := by decide +kernel
theorem c261_45 : mj_Y.code kY 261 45 = some (.getfield 46) ∧ mj_Y.fl kY 261 46 12 = some (13, (.array .int), false) ∧ 48 = 45 + 3 := by decide +kernel
theorem c261_48 : mj_Y.code kY 261 48 = some (.iload 5) ∧ 5 = 5 ∧ 50 = 48 + 2 := by decide +kernel
theorem c261_50 : mj_Y.code kY 261 50 = some .iaload ∧ 51 = 50 + 1 := by decide +kernel
theorem c261_51 : mj_Y.code kY 261 51 = some (.iconst 4) ∧ Int32.ofInt 4 = 4 ∧ 52 = 51 + 1 := by decide +kernel
theorem c261_52 : mj_Y.code kY 261 52 = some (.if_icmp .ne 183) ∧ mj_tg 52 183 = some 235 ∧ 55 = 52 + 3 := by decide +kernel
theorem c261_55 : mj_Y.code kY 261 55 = some (.iconst 0) ∧ Int32.ofInt 0 = 0 ∧ 56 = 55 + 1 := by decide +kernel
theorem c261_56 : mj_Y.code kY 261 56 = some (.istore 6) ∧ 6 = 6 ∧ 6 < mj_Y.nL kY 261 ∧ 58 = 56 + 2 := by decide +kernel
theorem c261_58 : mj_Y.code kY 261 58 = some (.iload 6) ∧ 6 = 6 ∧ 60 = 58 + 2 := by decide +kernel
theorem c261_60 : mj_Y.code kY 261 60 = some (.bipush 121) ∧ (Int8.ofInt 121).toInt32 = 121 ∧ 62 = 60 + 2 := by decide +kernel
theorem c261_62 : mj_Y.code kY 261 62 = some (.if_icmp .ge 17) ∧ mj_tg 62 17 = some 79 ∧ 65 = 62 + 3 := by decide +kernel
theorem c261_65 : mj_Y.code kY 261 65 = some (.aload_n 0) ∧ ((0 : Fin 4) : Nat) = 0 ∧ 66 = 65 + 1 := by decide +kernel
theorem c261_66 : mj_Y.code kY 261 66 = some (.getfield 91) ∧ mj_Y.fl kY 261 91 12 = some (38, (.array .long), false) ∧ 69 = 66 + 3 := by decide +kernel
theorem c261_69 : mj_Y.code kY 261 69 = some (.iload 6) ∧ 6 = 6 ∧ 71 = 69 + 2 := by decide +kernel
theorem c261_71 : mj_Y.code kY 261 71 = some (.lconst 0) ∧ Int64.ofNat ((0 : Fin 2) : Nat) = 0 ∧ 72 = 71 + 1 := by decide +kernel
theorem c261_72 : mj_Y.code kY 261 72 = some .lastore ∧ 73 = 72 + 1 := by decide +kernel
theorem c261_73 : mj_Y.code kY 261 73 = some (.iinc 6 1) ∧ 6 < mj_Y.nL kY 261 ∧ Int32.ofInt 1 = 1 ∧ 76 = 73 + 3 := by decide +kernel
theorem c261_76 : mj_Y.code kY 261 76 = some (.goto (-18)) ∧ mj_tg 76 (-18) = some 58 := by decide +kernel
theorem c261_79 : mj_Y.code kY 261 79 = some (.aload_n 0) ∧ ((0 : Fin 4) : Nat) = 0 ∧ 80 = 79 + 1 := by decide +kernel
theorem c261_80 : mj_Y.code kY 261 80 = some (.getfield 55) ∧ mj_Y.fl kY 261 55 12 = some (16, (.array .int), false) ∧ 83 = 80 + 3 := by decide +kernel
theorem c261_83 : mj_Y.code kY 261 83 = some (.iload 5) ∧ 5 = 5 ∧ 85 = 83 + 2 := by decide +kernel
theorem c261_85 : mj_Y.code kY 261 85 = some .iaload ∧ 86 = 85 + 1 := by decide +kernel
theorem c261_86 : mj_Y.code kY 261 86 = some (.bipush 101) ∧ (Int8.ofInt 101).toInt32 = 101 ∧ 88 = 86 + 2 := by decide +kernel
theorem c261_88 : mj_Y.code kY 261 88 = some (.if_icmp .ne 24) ∧ mj_tg 88 24 = some 112 ∧ 91 = 88 + 3 := by decide +kernel
theorem c261_91 : mj_Y.code kY 261 91 = some (.aload_n 0) ∧ ((0 : Fin 4) : Nat) = 0 ∧ 92 = 91 + 1 := by decide +kernel
theorem c261_92 : mj_Y.code kY 261 92 = some (.aload_n 0) ∧ ((0 : Fin 4) : Nat) = 0 ∧ 93 = 92 + 1 := by decide +kernel
theorem c261_93 : mj_Y.code kY 261 93 = some (.getfield 52) ∧ mj_Y.fl kY 261 52 12 = some (15, (.array .int), false) ∧ 96 = 93 + 3 := by decide +kernel
theorem c261_96 : mj_Y.code kY 261 96 = some (.iload 5) ∧ 5 = 5 ∧ 98 = 96 + 2 := by decide +kernel
theorem c261_98 : mj_Y.code kY 261 98 = some .iaload ∧ 99 = 98 + 1 := by decide +kernel
theorem c261_99 : mj_Y.code kY 261 99 = some (.aload_n 0) ∧ ((0 : Fin 4) : Nat) = 0 ∧ 100 = 99 + 1 := by decide +kernel
theorem c261_100 : mj_Y.code kY 261 100 = some (.getfield 58) ∧ mj_Y.fl kY 261 58 12 = some (17, (.array .int), false) ∧ 103 = 100 + 3 := by decide +kernel
theorem c261_103 : mj_Y.code kY 261 103 = some (.iload 5) ∧ 5 = 5 ∧ 105 = 103 + 2 := by decide +kernel
theorem c261_105 : mj_Y.code kY 261 105 = some .iaload ∧ 106 = 105 + 1 := by decide +kernel
theorem c261_106 : mj_Y.code kY 261 106 = some (.invokevirtual 301) ∧ mj_Y.na kY 261 301 = some 2 ∧ mj_Y.cv kY 261 301 12 = some 262 ∧ mj_Y.nL kY 262 = 5 ∧ 109 = 106 + 3 := by decide +kernel
theorem c261_109 : mj_Y.code kY 261 109 = some (.goto 78) ∧ mj_tg 109 78 = some 187 := by decide +kernel
theorem c261_112 : mj_Y.code kY 261 112 = some (.aload_n 0) ∧ ((0 : Fin 4) : Nat) = 0 ∧ 113 = 112 + 1 := by decide +kernel
theorem c261_113 : mj_Y.code kY 261 113 = some (.getfield 55) ∧ mj_Y.fl kY 261 55 12 = some (16, (.array .int), false) ∧ 116 = 113 + 3 := by decide +kernel
theorem c261_116 : mj_Y.code kY 261 116 = some (.iload 5) ∧ 5 = 5 ∧ 118 = 116 + 2 := by decide +kernel
theorem c261_118 : mj_Y.code kY 261 118 = some .iaload ∧ 119 = 118 + 1 := by decide +kernel
theorem c261_119 : mj_Y.code kY 261 119 = some (.bipush 32) ∧ (Int8.ofInt 32).toInt32 = 32 ∧ 121 = 119 + 2 := by decide +kernel
theorem c261_121 : mj_Y.code kY 261 121 = some (.if_icmp .ne 24) ∧ mj_tg 121 24 = some 145 ∧ 124 = 121 + 3 := by decide +kernel
theorem c261_124 : mj_Y.code kY 261 124 = some (.aload_n 0) ∧ ((0 : Fin 4) : Nat) = 0 ∧ 125 = 124 + 1 := by decide +kernel
theorem c261_125 : mj_Y.code kY 261 125 = some (.aload_n 0) ∧ ((0 : Fin 4) : Nat) = 0 ∧ 126 = 125 + 1 := by decide +kernel
theorem c261_126 : mj_Y.code kY 261 126 = some (.getfield 49) ∧ mj_Y.fl kY 261 49 12 = some (14, (.array .int), false) ∧ 129 = 126 + 3 := by decide +kernel
theorem c261_129 : mj_Y.code kY 261 129 = some (.iload 5) ∧ 5 = 5 ∧ 131 = 129 + 2 := by decide +kernel
theorem c261_131 : mj_Y.code kY 261 131 = some .iaload ∧ 132 = 131 + 1 := by decide +kernel
theorem c261_132 : mj_Y.code kY 261 132 = some (.aload_n 0) ∧ ((0 : Fin 4) : Nat) = 0 ∧ 133 = 132 + 1 := by decide +kernel
theorem c261_133 : mj_Y.code kY 261 133 = some (.getfield 52) ∧ mj_Y.fl kY 261 52 12 = some (15, (.array .int), false) ∧ 136 = 133 + 3 := by decide +kernel
theorem c261_136 : mj_Y.code kY 261 136 = some (.iload 5) ∧ 5 = 5 ∧ 138 = 136 + 2 := by decide +kernel
theorem c261_138 : mj_Y.code kY 261 138 = some .iaload ∧ 139 = 138 + 1 := by decide +kernel
theorem c261_139 : mj_Y.code kY 261 139 = some (.invokevirtual 305) ∧ mj_Y.na kY 261 305 = some 2 ∧ mj_Y.cv kY 261 305 12 = some 263 ∧ mj_Y.nL kY 263 = 8 ∧ 142 = 139 + 3 := by decide +kernel
theorem c261_142 : mj_Y.code kY 261 142 = some (.goto 45) ∧ mj_tg 142 45 = some 187 := by decide +kernel
theorem c261_145 : mj_Y.code kY 261 145 = some (.aload_n 0) ∧ ((0 : Fin 4) : Nat) = 0 ∧ 146 = 145 + 1 := by decide +kernel
theorem c261_146 : mj_Y.code kY 261 146 = some (.aload_n 0) ∧ ((0 : Fin 4) : Nat) = 0 ∧ 147 = 146 + 1 := by decide +kernel
theorem c261_147 : mj_Y.code kY 261 147 = some (.getfield 49) ∧ mj_Y.fl kY 261 49 12 = some (14, (.array .int), false) ∧ 150 = 147 + 3 := by decide +kernel
theorem c261_150 : mj_Y.code kY 261 150 = some (.iload 5) ∧ 5 = 5 ∧ 152 = 150 + 2 := by decide +kernel
theorem c261_152 : mj_Y.code kY 261 152 = some .iaload ∧ 153 = 152 + 1 := by decide +kernel
theorem c261_153 : mj_Y.code kY 261 153 = some (.aload_n 0) ∧ ((0 : Fin 4) : Nat) = 0 ∧ 154 = 153 + 1 := by decide +kernel
theorem c261_154 : mj_Y.code kY 261 154 = some (.getfield 52) ∧ mj_Y.fl kY 261 52 12 = some (15, (.array .int), false) ∧ 157 = 154 + 3 := by decide +kernel
theorem c261_157 : mj_Y.code kY 261 157 = some (.iload 5) ∧ 5 = 5 ∧ 159 = 157 + 2 := by decide +kernel
theorem c261_159 : mj_Y.code kY 261 159 = some .iaload ∧ 160 = 159 + 1 := by decide +kernel
theorem c261_160 : mj_Y.code kY 261 160 = some (.aload_n 0) ∧ ((0 : Fin 4) : Nat) = 0 ∧ 161 = 160 + 1 := by decide +kernel
theorem c261_161 : mj_Y.code kY 261 161 = some (.getfield 55) ∧ mj_Y.fl kY 261 55 12 = some (16, (.array .int), false) ∧ 164 = 161 + 3 := by decide +kernel
theorem c261_164 : mj_Y.code kY 261 164 = some (.iload 5) ∧ 5 = 5 ∧ 166 = 164 + 2 := by decide +kernel
theorem c261_166 : mj_Y.code kY 261 166 = some .iaload ∧ 167 = 166 + 1 := by decide +kernel
theorem c261_167 : mj_Y.code kY 261 167 = some (.bipush 108) ∧ (Int8.ofInt 108).toInt32 = 108 ∧ 169 = 167 + 2 := by decide +kernel
theorem c261_169 : mj_Y.code kY 261 169 = some (.if_icmp .ne 7) ∧ mj_tg 169 7 = some 176 ∧ 172 = 169 + 3 := by decide +kernel
theorem c261_172 : mj_Y.code kY 261 172 = some (.iconst 1) ∧ Int32.ofInt 1 = 1 ∧ 173 = 172 + 1 := by decide +kernel
theorem c261_173 : mj_Y.code kY 261 173 = some (.goto 4) ∧ mj_tg 173 4 = some 177 := by decide +kernel
theorem c261_176 : mj_Y.code kY 261 176 = some (.iconst 0) ∧ Int32.ofInt 0 = 0 ∧ 177 = 176 + 1 := by decide +kernel
theorem c261_177 : mj_Y.code kY 261 177 = some (.aload_n 0) ∧ ((0 : Fin 4) : Nat) = 0 ∧ 178 = 177 + 1 := by decide +kernel
theorem c261_178 : mj_Y.code kY 261 178 = some (.getfield 58) ∧ mj_Y.fl kY 261 58 12 = some (17, (.array .int), false) ∧ 181 = 178 + 3 := by decide +kernel
theorem c261_181 : mj_Y.code kY 261 181 = some (.iload 5) ∧ 5 = 5 ∧ 183 = 181 + 2 := by decide +kernel
theorem c261_183 : mj_Y.code kY 261 183 = some .iaload ∧ 184 = 183 + 1 := by decide +kernel
theorem c261_184 : mj_Y.code kY 261 184 = some (.invokevirtual 308) ∧ mj_Y.na kY 261 308 = some 4 ∧ mj_Y.cv kY 261 308 12 = some 264 ∧ mj_Y.nL kY 264 = 10 ∧ 187 = 184 + 3 := by decide +kernel
theorem c261_187 : mj_Y.code kY 261 187 = some (.aload_n 0) ∧ ((0 : Fin 4) : Nat) = 0 ∧ 188 = 187 + 1 := by decide +kernel
theorem c261_188 : mj_Y.code kY 261 188 = some (.getfield 61) ∧ mj_Y.fl kY 261 61 12 = some (18, (.array .int), false) ∧ 191 = 188 + 3 := by decide +kernel
theorem c261_191 : mj_Y.code kY 261 191 = some (.iload 5) ∧ 5 = 5 ∧ 193 = 191 + 2 := by decide +kernel
theorem c261_193 : mj_Y.code kY 261 193 = some (.iload 4) ∧ 4 = 4 ∧ 195 = 193 + 2 := by decide +kernel
theorem c261_195 : mj_Y.code kY 261 195 = some .iastore ∧ 196 = 195 + 1 := by decide +kernel
theorem c261_196 : mj_Y.code kY 261 196 = some (.iconst 0) ∧ Int32.ofInt 0 = 0 ∧ 197 = 196 + 1 := by decide +kernel
theorem c261_197 : mj_Y.code kY 261 197 = some (.istore 6) ∧ 6 = 6 ∧ 6 < mj_Y.nL kY 261 ∧ 199 = 197 + 2 := by decide +kernel
theorem c261_199 : mj_Y.code kY 261 199 = some (.iload 6) ∧ 6 = 6 ∧ 201 = 199 + 2 := by decide +kernel
theorem c261_201 : mj_Y.code kY 261 201 = some (.bipush 121) ∧ (Int8.ofInt 121).toInt32 = 121 ∧ 203 = 201 + 2 := by decide +kernel
theorem c261_203 : mj_Y.code kY 261 203 = some (.if_icmp .ge 29) ∧ mj_tg 203 29 = some 232 ∧ 206 = 203 + 3 := by decide +kernel
theorem c261_206 : mj_Y.code kY 261 206 = some (.aload_n 0) ∧ ((0 : Fin 4) : Nat) = 0 ∧ 207 = 206 + 1 := by decide +kernel
theorem c261_207 : mj_Y.code kY 261 207 = some (.getfield 70) ∧ mj_Y.fl kY 261 70 12 = some (21, (.array .long), false) ∧ 210 = 207 + 3 := by decide +kernel
theorem c261_210 : mj_Y.code kY 261 210 = some (.bipush 121) ∧ (Int8.ofInt 121).toInt32 = 121 ∧ 212 = 210 + 2 := by decide +kernel
theorem c261_212 : mj_Y.code kY 261 212 = some (.iload 4) ∧ 4 = 4 ∧ 214 = 212 + 2 := by decide +kernel
theorem c261_214 : mj_Y.code kY 261 214 = some .imul ∧ 215 = 214 + 1 := by decide +kernel
theorem c261_215 : mj_Y.code kY 261 215 = some (.iload 6) ∧ 6 = 6 ∧ 217 = 215 + 2 := by decide +kernel
theorem c261_217 : mj_Y.code kY 261 217 = some .iadd ∧ 218 = 217 + 1 := by decide +kernel
theorem c261_218 : mj_Y.code kY 261 218 = some (.aload_n 0) ∧ ((0 : Fin 4) : Nat) = 0 ∧ 219 = 218 + 1 := by decide +kernel
theorem c261_219 : mj_Y.code kY 261 219 = some (.getfield 91) ∧ mj_Y.fl kY 261 91 12 = some (38, (.array .long), false) ∧ 222 = 219 + 3 := by decide +kernel
theorem c261_222 : mj_Y.code kY 261 222 = some (.iload 6) ∧ 6 = 6 ∧ 224 = 222 + 2 := by decide +kernel
theorem c261_224 : mj_Y.code kY 261 224 = some .laload ∧ 225 = 224 + 1 := by decide +kernel
theorem c261_225 : mj_Y.code kY 261 225 = some .lastore ∧ 226 = 225 + 1 := by decide +kernel
theorem c261_226 : mj_Y.code kY 261 226 = some (.iinc 6 1) ∧ 6 < mj_Y.nL kY 261 ∧ Int32.ofInt 1 = 1 ∧ 229 = 226 + 3 := by decide +kernel
theorem c261_229 : mj_Y.code kY 261 229 = some (.goto (-30)) ∧ mj_tg 229 (-30) = some 199 := by decide +kernel
theorem c261_232 : mj_Y.code kY 261 232 = some (.iinc 4 1) ∧ 4 < mj_Y.nL kY 261 ∧ Int32.ofInt 1 = 1 ∧ 235 = 232 + 3 := by decide +kernel
theorem c261_235 : mj_Y.code kY 261 235 = some (.iinc 5 1) ∧ 5 < mj_Y.nL kY 261 ∧ Int32.ofInt 1 = 1 ∧ 238 = 235 + 3 := by decide +kernel
theorem c261_238 : mj_Y.code kY 261 238 = some (.goto (-216)) ∧ mj_tg 238 (-216) = some 22 := by decide +kernel
theorem c261_241 : mj_Y.code kY 261 241 = some (.iload 4) ∧ 4 = 4 ∧ 243 = 241 + 2 := by decide +kernel
theorem c261_243 : mj_Y.code kY 261 243 = some .ireturn ∧ mj_Y.rt kY 261 = some .int := by decide +kernel
