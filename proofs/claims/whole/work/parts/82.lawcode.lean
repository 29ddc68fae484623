theorem c300_23 : mj_Y.code kY 300 23 = some (.iload 4) ∧ 4 = 4 ∧ 25 = 23 + 2 := by decide +kernel
theorem c300_25 : mj_Y.code kY 300 25 = some (.aload_n 0) ∧ ((0 : Fin 4) : Nat) = 0 ∧ 26 = 25 + 1 := by decide +kernel
theorem c300_26 : mj_Y.code kY 300 26 = some .arraylength ∧ 27 = 26 + 1 := by decide +kernel
theorem c300_27 : mj_Y.code kY 300 27 = some (.iconst 4) ∧ Int32.ofInt 4 = 4 ∧ 28 = 27 + 1 := by decide +kernel
theorem c300_28 : mj_Y.code kY 300 28 = some .isub ∧ 29 = 28 + 1 := by decide +kernel
theorem c300_29 : mj_Y.code kY 300 29 = some (.if_icmp .gt 1097) ∧ mj_tg 29 1097 = some 1126 ∧ 32 = 29 + 3 := by decide +kernel
theorem c300_32 : mj_Y.code kY 300 32 = some (.aload_n 0) ∧ ((0 : Fin 4) : Nat) = 0 ∧ 33 = 32 + 1 := by decide +kernel
theorem c300_33 : mj_Y.code kY 300 33 = some (.iload 4) ∧ 4 = 4 ∧ 35 = 33 + 2 := by decide +kernel
theorem c300_35 : mj_Y.code kY 300 35 = some .iaload ∧ 36 = 35 + 1 := by decide +kernel
theorem c300_36 : mj_Y.code kY 300 36 = some (.bipush 31) ∧ (Int8.ofInt 31).toInt32 = 31 ∧ 38 = 36 + 2 := by decide +kernel
theorem c300_38 : mj_Y.code kY 300 38 = some .iand ∧ 39 = 38 + 1 := by decide +kernel
theorem c300_39_0 : mj_Y.code kY 300 39 = some (.tableswitch 1081 0 17 #[85, 154, 167, 192, 248, 261, 317, 373, 386, 441, 497, 565, 632, 687, 754, 822, 902, 1002]) ∧ r_np (.tableswitch 1081 0 17 #[85, 154, 167, 192, 248, 261, 317, 373, 386, 441, 497, 565, 632, 687, 754, 822, 902, 1002]) = true ∧ ∀ (l : mj_L) (st : List Value), mj_p (mj_Y.nL kY 300) 39 (.tableswitch 1081 0 17 #[85, 154, 167, 192, 248, 261, 317, 373, 386, 441, 497, 565, 632, 687, 754, 822, 902, 1002]) l (.int 0 :: st) = some (124, l, st) := ⟨by decide +kernel, rfl, fun _ _ => rfl⟩
theorem c300_39_1 : mj_Y.code kY 300 39 = some (.tableswitch 1081 0 17 #[85, 154, 167, 192, 248, 261, 317, 373, 386, 441, 497, 565, 632, 687, 754, 822, 902, 1002]) ∧ r_np (.tableswitch 1081 0 17 #[85, 154, 167, 192, 248, 261, 317, 373, 386, 441, 497, 565, 632, 687, 754, 822, 902, 1002]) = true ∧ ∀ (l : mj_L) (st : List Value), mj_p (mj_Y.nL kY 300) 39 (.tableswitch 1081 0 17 #[85, 154, 167, 192, 248, 261, 317, 373, 386, 441, 497, 565, 632, 687, 754, 822, 902, 1002]) l (.int 1 :: st) = some (193, l, st) := ⟨by decide +kernel, rfl, fun _ _ => rfl⟩
theorem c300_39_10 : mj_Y.code kY 300 39 = some (.tableswitch 1081 0 17 #[85, 154, 167, 192, 248, 261, 317, 373, 386, 441, 497, 565, 632, 687, 754, 822, 902, 1002]) ∧ r_np (.tableswitch 1081 0 17 #[85, 154, 167, 192, 248, 261, 317, 373, 386, 441, 497, 565, 632, 687, 754, 822, 902, 1002]) = true ∧ ∀ (l : mj_L) (st : List Value), mj_p (mj_Y.nL kY 300) 39 (.tableswitch 1081 0 17 #[85, 154, 167, 192, 248, 261, 317, 373, 386, 441, 497, 565, 632, 687, 754, 822, 902, 1002]) l (.int 10 :: st) = some (536, l, st) := ⟨by decide +kernel, rfl, fun _ _ => rfl⟩
theorem c300_39_11 : mj_Y.code kY 300 39 = some (.tableswitch 1081 0 17 #[85, 154, 167, 192, 248, 261, 317, 373, 386, 441, 497, 565, 632, 687, 754, 822, 902, 1002]) ∧ r_np (.tableswitch 1081 0 17 #[85, 154, 167, 192, 248, 261, 317, 373, 386, 441, 497, 565, 632, 687, 754, 822, 902, 1002]) = true ∧ ∀ (l : mj_L) (st : List Value), mj_p (mj_Y.nL kY 300) 39 (.tableswitch 1081 0 17 #[85, 154, 167, 192, 248, 261, 317, 373, 386, 441, 497, 565, 632, 687, 754, 822, 902, 1002]) l (.int 11 :: st) = some (604, l, st) := ⟨by decide +kernel, rfl, fun _ _ => rfl⟩
theorem c300_39_12 : mj_Y.code kY 300 39 = some (.tableswitch 1081 0 17 #[85, 154, 167, 192, 248, 261, 317, 373, 386, 441, 497, 565, 632, 687, 754, 822, 902, 1002]) ∧ r_np (.tableswitch 1081 0 17 #[85, 154, 167, 192, 248, 261, 317, 373, 386, 441, 497, 565, 632, 687, 754, 822, 902, 1002]) = true ∧ ∀ (l : mj_L) (st : List Value), mj_p (mj_Y.nL kY 300) 39 (.tableswitch 1081 0 17 #[85, 154, 167, 192, 248, 261, 317, 373, 386, 441, 497, 565, 632, 687, 754, 822, 902, 1002]) l (.int 12 :: st) = some (671, l, st) := ⟨by decide +kernel, rfl, fun _ _ => rfl⟩
theorem c300_39_13 : mj_Y.code kY 300 39 = some (.tableswitch 1081 0 17 #[85, 154, 167, 192, 248, 261, 317, 373, 386, 441, 497, 565, 632, 687, 754, 822, 902, 1002]) ∧ r_np (.tableswitch 1081 0 17 #[85, 154, 167, 192, 248, 261, 317, 373, 386, 441, 497, 565, 632, 687, 754, 822, 902, 1002]) = true ∧ ∀ (l : mj_L) (st : List Value), mj_p (mj_Y.nL kY 300) 39 (.tableswitch 1081 0 17 #[85, 154, 167, 192, 248, 261, 317, 373, 386, 441, 497, 565, 632, 687, 754, 822, 902, 1002]) l (.int 13 :: st) = some (726, l, st) := ⟨by decide +kernel, rfl, fun _ _ => rfl⟩
theorem c300_39_14 : mj_Y.code kY 300 39 = some (.tableswitch 1081 0 17 #[85, 154, 167, 192, 248, 261, 317, 373, 386, 441, 497, 565, 632, 687, 754, 822, 902, 1002]) ∧ r_np (.tableswitch 1081 0 17 #[85, 154, 167, 192, 248, 261, 317, 373, 386, 441, 497, 565, 632, 687, 754, 822, 902, 1002]) = true ∧ ∀ (l : mj_L) (st : List Value), mj_p (mj_Y.nL kY 300) 39 (.tableswitch 1081 0 17 #[85, 154, 167, 192, 248, 261, 317, 373, 386, 441, 497, 565, 632, 687, 754, 822, 902, 1002]) l (.int 14 :: st) = some (793, l, st) := ⟨by decide +kernel, rfl, fun _ _ => rfl⟩
theorem c300_39_15 : mj_Y.code kY 300 39 = some (.tableswitch 1081 0 17 #[85, 154, 167, 192, 248, 261, 317, 373, 386, 441, 497, 565, 632, 687, 754, 822, 902, 1002]) ∧ r_np (.tableswitch 1081 0 17 #[85, 154, 167, 192, 248, 261, 317, 373, 386, 441, 497, 565, 632, 687, 754, 822, 902, 1002]) = true ∧ ∀ (l : mj_L) (st : List Value), mj_p (mj_Y.nL kY 300) 39 (.tableswitch 1081 0 17 #[85, 154, 167, 192, 248, 261, 317, 373, 386, 441, 497, 565, 632, 687, 754, 822, 902, 1002]) l (.int 15 :: st) = some (861, l, st) := ⟨by decide +kernel, rfl, fun _ _ => rfl⟩
theorem c300_39_16 : mj_Y.code kY 300 39 = some (.tableswitch 1081 0 17 #[85, 154, 167, 192, 248, 261, 317, 373, 386, 441, 497, 565, 632, 687, 754, 822, 902, 1002]) ∧ r_np (.tableswitch 1081 0 17 #[85, 154, 167, 192, 248, 261, 317, 373, 386, 441, 497, 565, 632, 687, 754, 822, 902, 1002]) = true ∧ ∀ (l : mj_L) (st : List Value), mj_p (mj_Y.nL kY 300) 39 (.tableswitch 1081 0 17 #[85, 154, 167, 192, 248, 261, 317, 373, 386, 441, 497, 565, 632, 687, 754, 822, 902, 1002]) l (.int 16 :: st) = some (941, l, st) := ⟨by decide +kernel, rfl, fun _ _ => rfl⟩
theorem c300_39_17 : mj_Y.code kY 300 39 = some (.tableswitch 1081 0 17 #[85, 154, 167, 192, 248, 261, 317, 373, 386, 441, 497, 565, 632, 687, 754, 822, 902, 1002]) ∧ r_np (.tableswitch 1081 0 17 #[85, 154, 167, 192, 248, 261, 317, 373, 386, 441, 497, 565, 632, 687, 754, 822, 902, 1002]) = true ∧ ∀ (l : mj_L) (st : List Value), mj_p (mj_Y.nL kY 300) 39 (.tableswitch 1081 0 17 #[85, 154, 167, 192, 248, 261, 317, 373, 386, 441, 497, 565, 632, 687, 754, 822, 902, 1002]) l (.int 17 :: st) = some (1041, l, st) := ⟨by decide +kernel, rfl, fun _ _ => rfl⟩
theorem c300_39_18 : mj_Y.code kY 300 39 = some (.tableswitch 1081 0 17 #[85, 154, 167, 192, 248, 261, 317, 373, 386, 441, 497, 565, 632, 687, 754, 822, 902, 1002]) ∧ r_np (.tableswitch 1081 0 17 #[85, 154, 167, 192, 248, 261, 317, 373, 386, 441, 497, 565, 632, 687, 754, 822, 902, 1002]) = true ∧ ∀ (l : mj_L) (st : List Value), mj_p (mj_Y.nL kY 300) 39 (.tableswitch 1081 0 17 #[85, 154, 167, 192, 248, 261, 317, 373, 386, 441, 497, 565, 632, 687, 754, 822, 902, 1002]) l (.int 18 :: st) = some (1120, l, st) := ⟨by decide +kernel, rfl, fun _ _ => rfl⟩
theorem c300_39_19 : mj_Y.code kY 300 39 = some (.tableswitch 1081 0 17 #[85, 154, 167, 192, 248, 261, 317, 373, 386, 441, 497, 565, 632, 687, 754, 822, 902, 1002]) ∧ r_np (.tableswitch 1081 0 17 #[85, 154, 167, 192, 248, 261, 317, 373, 386, 441, 497, 565, 632, 687, 754, 822, 902, 1002]) = true ∧ ∀ (l : mj_L) (st : List Value), mj_p (mj_Y.nL kY 300) 39 (.tableswitch 1081 0 17 #[85, 154, 167, 192, 248, 261, 317, 373, 386, 441, 497, 565, 632, 687, 754, 822, 902, 1002]) l (.int 19 :: st) = some (1120, l, st) := ⟨by decide +kernel, rfl, fun _ _ => rfl⟩
theorem c300_39_2 : mj_Y.code kY 300 39 = some (.tableswitch 1081 0 17 #[85, 154, 167, 192, 248, 261, 317, 373, 386, 441, 497, 565, 632, 687, 754, 822, 902, 1002]) ∧ r_np (.tableswitch 1081 0 17 #[85, 154, 167, 192, 248, 261, 317, 373, 386, 441, 497, 565, 632, 687, 754, 822, 902, 1002]) = true ∧ ∀ (l : mj_L) (st : List Value), mj_p (mj_Y.nL kY 300) 39 (.tableswitch 1081 0 17 #[85, 154, 167, 192, 248, 261, 317, 373, 386, 441, 497, 565, 632, 687, 754, 822, 902, 1002]) l (.int 2 :: st) = some (206, l, st) := ⟨by decide +kernel, rfl, fun _ _ => rfl⟩
theorem c300_39_20 : mj_Y.code kY 300 39 = some (.tableswitch 1081 0 17 #[85, 154, 167, 192, 248, 261, 317, 373, 386, 441, 497, 565, 632, 687, 754, 822, 902, 1002]) ∧ r_np (.tableswitch 1081 0 17 #[85, 154, 167, 192, 248, 261, 317, 373, 386, 441, 497, 565, 632, 687, 754, 822, 902, 1002]) = true ∧ ∀ (l : mj_L) (st : List Value), mj_p (mj_Y.nL kY 300) 39 (.tableswitch 1081 0 17 #[85, 154, 167, 192, 248, 261, 317, 373, 386, 441, 497, 565, 632, 687, 754, 822, 902, 1002]) l (.int 20 :: st) = some (1120, l, st) := ⟨by decide +kernel, rfl, fun _ _ => rfl⟩
theorem c300_39_21 : mj_Y.code kY 300 39 = some (.tableswitch 1081 0 17 #[85, 154, 167, 192, 248, 261, 317, 373, 386, 441, 497, 565, 632, 687, 754, 822, 902, 1002]) ∧ r_np (.tableswitch 1081 0 17 #[85, 154, 167, 192, 248, 261, 317, 373, 386, 441, 497, 565, 632, 687, 754, 822, 902, 1002]) = true ∧ ∀ (l : mj_L) (st : List Value), mj_p (mj_Y.nL kY 300) 39 (.tableswitch 1081 0 17 #[85, 154, 167, 192, 248, 261, 317, 373, 386, 441, 497, 565, 632, 687, 754, 822, 902, 1002]) l (.int 21 :: st) = some (1120, l, st) := ⟨by decide +kernel, rfl, fun _ _ => rfl⟩
theorem c300_39_22 : mj_Y.code kY 300 39 = some (.tableswitch 1081 0 17 #[85, 154, 167, 192, 248, 261, 317, 373, 386, 441, 497, 565, 632, 687, 754, 822, 902, 1002]) ∧ r_np (.tableswitch 1081 0 17 #[85, 154, 167, 192, 248, 261, 317, 373, 386, 441, 497, 565, 632, 687, 754, 822, 902, 1002]) = true ∧ ∀ (l : mj_L) (st : List Value), mj_p (mj_Y.nL kY 300) 39 (.tableswitch 1081 0 17 #[85, 154, 167, 192, 248, 261, 317, 373, 386, 441, 497, 565, 632, 687, 754, 822, 902, 1002]) l (.int 22 :: st) = some (1120, l, st) := ⟨by decide +kernel, rfl, fun _ _ => rfl⟩
theorem c300_39_23 : mj_Y.code kY 300 39 = some (.tableswitch 1081 0 17 #[85, 154, 167, 192, 248, 261, 317, 373, 386, 441, 497, 565, 632, 687, 754, 822, 902, 1002]) ∧ r_np (.tableswitch 1081 0 17 #[85, 154, 167, 192, 248, 261, 317, 373, 386, 441, 497, 565, 632, 687, 754, 822, 902, 1002]) = true ∧ ∀ (l : mj_L) (st : List Value), mj_p (mj_Y.nL kY 300) 39 (.tableswitch 1081 0 17 #[85, 154, 167, 192, 248, 261, 317, 373, 386, 441, 497, 565, 632, 687, 754, 822, 902, 1002]) l (.int 23 :: st) = some (1120, l, st) := ⟨by decide +kernel, rfl, fun _ _ => rfl⟩
theorem c300_39_24 : mj_Y.code kY 300 39 = some (.tableswitch 1081 0 17 #[85, 154, 167, 192, 248, 261, 317, 373, 386, 441, 497, 565, 632, 687, 754, 822, 902, 1002]) ∧ r_np (.tableswitch 1081 0 17 #[85, 154, 167, 192, 248, 261, 317, 373, 386, 441, 497, 565, 632, 687, 754, 822, 902, 1002]) = true ∧ ∀ (l : mj_L) (st : List Value), mj_p (mj_Y.nL kY 300) 39 (.tableswitch 1081 0 17 #[85, 154, 167, 192, 248, 261, 317, 373, 386, 441, 497, 565, 632, 687, 754, 822, 902, 1002]) l (.int 24 :: st) = some (1120, l, st) := ⟨by decide +kernel, rfl, fun _ _ => rfl⟩
theorem c300_39_25 : mj_Y.code kY 300 39 = some (.tableswitch 1081 0 17 #[85, 154, 167, 192, 248, 261, 317, 373, 386, 441, 497, 565, 632, 687, 754, 822, 902, 1002]) ∧ r_np (.tableswitch 1081 0 17 #[85, 154, 167, 192, 248, 261, 317, 373, 386, 441, 497, 565, 632, 687, 754, 822, 902, 1002]) = true ∧ ∀ (l : mj_L) (st : List Value), mj_p (mj_Y.nL kY 300) 39 (.tableswitch 1081 0 17 #[85, 154, 167, 192, 248, 261, 317, 373, 386, 441, 497, 565, 632, 687, 754, 822, 902, 1002]) l (.int 25 :: st) = some (1120, l, st) := ⟨by decide +kernel, rfl, fun _ _ => rfl⟩
theorem c300_39_26 : mj_Y.code kY 300 39 = some (.tableswitch 1081 0 17 #[85, 154, 167, 192, 248, 261, 317, 373, 386, 441, 497, 565, 632, 687, 754, 822, 902, 1002]) ∧ r_np (.tableswitch 1081 0 17 #[85, 154, 167, 192, 248, 261, 317, 373, 386, 441, 497, 565, 632, 687, 754, 822, 902, 1002]) = true ∧ ∀ (l : mj_L) (st : List Value), mj_p (mj_Y.nL kY 300) 39 (.tableswitch 1081 0 17 #[85, 154, 167, 192, 248, 261, 317, 373, 386, 441, 497, 565, 632, 687, 754, 822, 902, 1002]) l (.int 26 :: st) = some (1120, l, st) := ⟨by decide +kernel, rfl, fun _ _ => rfl⟩
theorem c300_39_27 : mj_Y.code kY 300 39 = some (.tableswitch 1081 0 17 #[85, 154, 167, 192, 248, 261, 317, 373, 386, 441, 497, 565, 632, 687, 754, 822, 902, 1002]) ∧ r_np (.tableswitch 1081 0 17 #[85, 154, 167, 192, 248, 261, 317, 373, 386, 441, 497, 565, 632, 687, 754, 822, 902, 1002]) = true ∧ ∀ (l : mj_L) (st : List Value), mj_p (mj_Y.nL kY 300) 39 (.tableswitch 1081 0 17 #[85, 154, 167, 192, 248, 261, 317, 373, 386, 441, 497, 565, 632, 687, 754, 822, 902, 1002]) l (.int 27 :: st) = some (1120, l, st) := ⟨by decide +kernel, rfl, fun _ _ => rfl⟩
theorem c300_39_28 : mj_Y.code kY 300 39 = some (.tableswitch 1081 0 17 #[85, 154, 167, 192, 248, 261, 317, 373, 386, 441, 497, 565, 632, 687, 754, 822, 902, 1002]) ∧ r_np (.tableswitch 1081 0 17 #[85, 154, 167, 192, 248, 261, 317, 373, 386, 441, 497, 565, 632, 687, 754, 822, 902, 1002]) = true ∧ ∀ (l : mj_L) (st : List Value), mj_p (mj_Y.nL kY 300) 39 (.tableswitch 1081 0 17 #[85, 154, 167, 192, 248, 261, 317, 373, 386, 441, 497, 565, 632, 687, 754, 822, 902, 1002]) l (.int 28 :: st) = some (1120, l, st) := ⟨by decide +kernel, rfl, fun _ _ => rfl⟩
theorem c300_39_29 : mj_Y.code kY 300 39 = some (.tableswitch 1081 0 17 #[85, 154, 167, 192, 248, 261, 317, 373, 386, 441, 497, 565, 632, 687, 754, 822, 902, 1002]) ∧ r_np (.tableswitch 1081 0 17 #[85, 154, 167, 192, 248, 261, 317, 373, 386, 441, 497, 565, 632, 687, 754, 822, 902, 1002]) = true ∧ ∀ (l : mj_L) (st : List Value), mj_p (mj_Y.nL kY 300) 39 (.tableswitch 1081 0 17 #[85, 154, 167, 192, 248, 261, 317, 373, 386, 441, 497, 565, 632, 687, 754, 822, 902, 1002]) l (.int 29 :: st) = some (1120, l, st) := ⟨by decide +kernel, rfl, fun _ _ => rfl⟩
theorem c300_39_3 : mj_Y.code kY 300 39 = some (.tableswitch 1081 0 17 #[85, 154, 167, 192, 248, 261, 317, 373, 386, 441, 497, 565, 632, 687, 754, 822, 902, 1002]) ∧ r_np (.tableswitch 1081 0 17 #[85, 154, 167, 192, 248, 261, 317, 373, 386, 441, 497, 565, 632, 687, 754, 822, 902, 1002]) = true ∧ ∀ (l : mj_L) (st : List Value), mj_p (mj_Y.nL kY 300) 39 (.tableswitch 1081 0 17 #[85, 154, 167, 192, 248, 261, 317, 373, 386, 441, 497, 565, 632, 687, 754, 822, 902, 1002]) l (.int 3 :: st) = some (231, l, st) := ⟨by decide +kernel, rfl, fun _ _ => rfl⟩
theorem c300_39_30 : mj_Y.code kY 300 39 = some (.tableswitch 1081 0 17 #[85, 154, 167, 192, 248, 261, 317, 373, 386, 441, 497, 565, 632, 687, 754, 822, 902, 1002]) ∧ r_np (.tableswitch 1081 0 17 #[85, 154, 167, 192, 248, 261, 317, 373, 386, 441, 497, 565, 632, 687, 754, 822, 902, 1002]) = true ∧ ∀ (l : mj_L) (st : List Value), mj_p (mj_Y.nL kY 300) 39 (.tableswitch 1081 0 17 #[85, 154, 167, 192, 248, 261, 317, 373, 386, 441, 497, 565, 632, 687, 754, 822, 902, 1002]) l (.int 30 :: st) = some (1120, l, st) := ⟨by decide +kernel, rfl, fun _ _ => rfl⟩
theorem c300_39_31 : mj_Y.code kY 300 39 = some (.tableswitch 1081 0 17 #[85, 154, 167, 192, 248, 261, 317, 373, 386, 441, 497, 565, 632, 687, 754, 822, 902, 1002]) ∧ r_np (.tableswitch 1081 0 17 #[85, 154, 167, 192, 248, 261, 317, 373, 386, 441, 497, 565, 632, 687, 754, 822, 902, 1002]) = true ∧ ∀ (l : mj_L) (st : List Value), mj_p (mj_Y.nL kY 300) 39 (.tableswitch 1081 0 17 #[85, 154, 167, 192, 248, 261, 317, 373, 386, 441, 497, 565, 632, 687, 754, 822, 902, 1002]) l (.int 31 :: st) = some (1120, l, st) := ⟨by decide +kernel, rfl, fun _ _ => rfl⟩
theorem c300_39_4 : mj_Y.code kY 300 39 = some (.tableswitch 1081 0 17 #[85, 154, 167, 192, 248, 261, 317, 373, 386, 441, 497, 565, 632, 687, 754, 822, 902, 1002]) ∧ r_np (.tableswitch 1081 0 17 #[85, 154, 167, 192, 248, 261, 317, 373, 386, 441, 497, 565, 632, 687, 754, 822, 902, 1002]) = true ∧ ∀ (l : mj_L) (st : List Value), mj_p (mj_Y.nL kY 300) 39 (.tableswitch 1081 0 17 #[85, 154, 167, 192, 248, 261, 317, 373, 386, 441, 497, 565, 632, 687, 754, 822, 902, 1002]) l (.int 4 :: st) = some (287, l, st) := ⟨by decide +kernel, rfl, fun _ _ => rfl⟩
theorem c300_39_5 : mj_Y.code kY 300 39 = some (.tableswitch 1081 0 17 #[85, 154, 167, 192, 248, 261, 317, 373, 386, 441, 497, 565, 632, 687, 754, 822, 902, 1002]) ∧ r_np (.tableswitch 1081 0 17 #[85, 154, 167, 192, 248, 261, 317, 373, 386, 441, 497, 565, 632, 687, 754, 822, 902, 1002]) = true ∧ ∀ (l : mj_L) (st : List Value), mj_p (mj_Y.nL kY 300) 39 (.tableswitch 1081 0 17 #[85, 154, 167, 192, 248, 261, 317, 373, 386, 441, 497, 565, 632, 687, 754, 822, 902, 1002]) l (.int 5 :: st) = some (300, l, st) := ⟨by decide +kernel, rfl, fun _ _ => rfl⟩
theorem c300_39_6 : mj_Y.code kY 300 39 = some (.tableswitch 1081 0 17 #[85, 154, 167, 192, 248, 261, 317, 373, 386, 441, 497, 565, 632, 687, 754, 822, 902, 1002]) ∧ r_np (.tableswitch 1081 0 17 #[85, 154, 167, 192, 248, 261, 317, 373, 386, 441, 497, 565, 632, 687, 754, 822, 902, 1002]) = true ∧ ∀ (l : mj_L) (st : List Value), mj_p (mj_Y.nL kY 300) 39 (.tableswitch 1081 0 17 #[85, 154, 167, 192, 248, 261, 317, 373, 386, 441, 497, 565, 632, 687, 754, 822, 902, 1002]) l (.int 6 :: st) = some (356, l, st) := ⟨by decide +kernel, rfl, fun _ _ => rfl⟩
theorem c300_39_7 : mj_Y.code kY 300 39 = some (.tableswitch 1081 0 17 #[85, 154, 167, 192, 248, 261, 317, 373, 386, 441, 497, 565, 632, 687, 754, 822, 902, 1002]) ∧ r_np (.tableswitch 1081 0 17 #[85, 154, 167, 192, 248, 261, 317, 373, 386, 441, 497, 565, 632, 687, 754, 822, 902, 1002]) = true ∧ ∀ (l : mj_L) (st : List Value), mj_p (mj_Y.nL kY 300) 39 (.tableswitch 1081 0 17 #[85, 154, 167, 192, 248, 261, 317, 373, 386, 441, 497, 565, 632, 687, 754, 822, 902, 1002]) l (.int 7 :: st) = some (412, l, st) := ⟨by decide +kernel, rfl, fun _ _ => rfl⟩
theorem c300_39_8 : mj_Y.code kY 300 39 = some (.tableswitch 1081 0 17 #[85, 154, 167, 192, 248, 261, 317, 373, 386, 441, 497, 565, 632, 687, 754, 822, 902, 1002]) ∧ r_np (.tableswitch 1081 0 17 #[85, 154, 167, 192, 248, 261, 317, 373, 386, 441, 497, 565, 632, 687, 754, 822, 902, 1002]) = true ∧ ∀ (l : mj_L) (st : List Value), mj_p (mj_Y.nL kY 300) 39 (.tableswitch 1081 0 17 #[85, 154, 167, 192, 248, 261, 317, 373, 386, 441, 497, 565, 632, 687, 754, 822, 902, 1002]) l (.int 8 :: st) = some (425, l, st) := ⟨by decide +kernel, rfl, fun _ _ => rfl⟩
theorem c300_39_9 : mj_Y.code kY 300 39 = some (.tableswitch 1081 0 17 #[85, 154, 167, 192, 248, 261, 317, 373, 386, 441, 497, 565, 632, 687, 754, 822, 902, 1002]) ∧ r_np (.tableswitch 1081 0 17 #[85, 154, 167, 192, 248, 261, 317, 373, 386, 441, 497, 565, 632, 687, 754, 822, 902, 1002]) = true ∧ ∀ (l : mj_L) (st : List Value), mj_p (mj_Y.nL kY 300) 39 (.tableswitch 1081 0 17 #[85, 154, 167, 192, 248, 261, 317, 373, 386, 441, 497, 565, 632, 687, 754, 822, 902, 1002]) l (.int 9 :: st) = some (480, l, st) := ⟨by decide +kernel, rfl, fun _ _ => rfl⟩
theorem c300_124 : mj_Y.code kY 300 124 = some (.aload_n 1) ∧ ((1 : Fin 4) : Nat) = 1 ∧ 125 = 124 + 1 := by decide +kernel
theorem c300_125 : mj_Y.code kY 300 125 = some (.aload_n 0) ∧ ((0 : Fin 4) : Nat) = 0 ∧ 126 = 125 + 1 := by decide +kernel
theorem c300_126 : mj_Y.code kY 300 126 = some (.iload 4) ∧ 4 = 4 ∧ 128 = 126 + 2 := by decide +kernel
theorem c300_128 : mj_Y.code kY 300 128 = some (.iconst 1) ∧ Int32.ofInt 1 = 1 ∧ 129 = 128 + 1 := by decide +kernel
theorem c300_129 : mj_Y.code kY 300 129 = some .iadd ∧ 130 = 129 + 1 := by decide +kernel
theorem c300_130 : mj_Y.code kY 300 130 = some .iaload ∧ 131 = 130 + 1 := by decide +kernel
theorem c300_131 : mj_Y.code kY 300 131 = some .i2l ∧ 132 = 131 + 1 := by decide +kernel
theorem c300_132 : mj_Y.code kY 300 132 = some (.bipush 32) ∧ (Int8.ofInt 32).toInt32 = 32 ∧ 134 = 132 + 2 := by decide +kernel
theorem c300_134 : mj_Y.code kY 300 134 = some .lshl ∧ 135 = 134 + 1 := by decide +kernel
theorem c300_135 : mj_Y.code kY 300 135 = some (.aload_n 0) ∧ ((0 : Fin 4) : Nat) = 0 ∧ 136 = 135 + 1 := by decide +kernel
theorem c300_136 : mj_Y.code kY 300 136 = some (.iload 4) ∧ 4 = 4 ∧ 138 = 136 + 2 := by decide +kernel
theorem c300_138 : mj_Y.code kY 300 138 = some (.iconst 2) ∧ Int32.ofInt 2 = 2 ∧ 139 = 138 + 1 := by decide +kernel
theorem c300_139 : mj_Y.code kY 300 139 = some .iadd ∧ 140 = 139 + 1 := by decide +kernel
theorem c300_140 : mj_Y.code kY 300 140 = some .iaload ∧ 141 = 140 + 1 := by decide +kernel
theorem c300_141 : mj_Y.code kY 300 141 = some .i2l ∧ 142 = 141 + 1 := by decide +kernel
theorem c300_142 : mj_Y.code kY 300 142 = some (.ldc2_w 65) ∧ mj_Y.ck kY 300 65 = some (.long 4294967295) ∧ 145 = 142 + 3 := by decide +kernel
theorem c300_145 : mj_Y.code kY 300 145 = some .land ∧ 146 = 145 + 1 := by decide +kernel
theorem c300_146 : mj_Y.code kY 300 146 = some .lor ∧ 147 = 146 + 1 := by decide +kernel
theorem c300_147 : mj_Y.code kY 300 147 = some (.aload_n 0) ∧ ((0 : Fin 4) : Nat) = 0 ∧ 148 = 147 + 1 := by decide +kernel
theorem c300_148 : mj_Y.code kY 300 148 = some (.iload 4) ∧ 4 = 4 ∧ 150 = 148 + 2 := by decide +kernel
theorem c300_150 : mj_Y.code kY 300 150 = some (.iconst 3) ∧ Int32.ofInt 3 = 3 ∧ 151 = 150 + 1 := by decide +kernel
theorem c300_151 : mj_Y.code kY 300 151 = some .iadd ∧ 152 = 151 + 1 := by decide +kernel
theorem c300_152 : mj_Y.code kY 300 152 = some .iaload ∧ 153 = 152 + 1 := by decide +kernel
theorem c300_153 : mj_Y.code kY 300 153 = some (.invokevirtual 67) ∧ mj_Y.na kY 300 67 = some 2 ∧ mj_Y.cv kY 300 67 5 = some 9 ∧ mj_Y.nL kY 9 = 6 ∧ 156 = 153 + 3 := by decide +kernel
theorem c300_156 : mj_Y.code kY 300 156 = some (.aload_n 2) ∧ ((2 : Fin 4) : Nat) = 2 ∧ 157 = 156 + 1 := by decide +kernel
theorem c300_157 : mj_Y.code kY 300 157 = some (.aload_n 0) ∧ ((0 : Fin 4) : Nat) = 0 ∧ 158 = 157 + 1 := by decide +kernel
theorem c300_158 : mj_Y.code kY 300 158 = some (.iload 4) ∧ 4 = 4 ∧ 160 = 158 + 2 := by decide +kernel
theorem c300_160 : mj_Y.code kY 300 160 = some (.iconst 1) ∧ Int32.ofInt 1 = 1 ∧ 161 = 160 + 1 := by decide +kernel
theorem c300_161 : mj_Y.code kY 300 161 = some .iadd ∧ 162 = 161 + 1 := by decide +kernel
theorem c300_162 : mj_Y.code kY 300 162 = some .iaload ∧ 163 = 162 + 1 := by decide +kernel
theorem c300_163 : mj_Y.code kY 300 163 = some .i2l ∧ 164 = 163 + 1 := by decide +kernel
theorem c300_164 : mj_Y.code kY 300 164 = some (.bipush 32) ∧ (Int8.ofInt 32).toInt32 = 32 ∧ 166 = 164 + 2 := by decide +kernel
theorem c300_166 : mj_Y.code kY 300 166 = some .lshl ∧ 167 = 166 + 1 := by decide +kernel
theorem c300_167 : mj_Y.code kY 300 167 = some (.aload_n 0) ∧ ((0 : Fin 4) : Nat) = 0 ∧ 168 = 167 + 1 := by decide +kernel
theorem c300_168 : mj_Y.code kY 300 168 = some (.iload 4) ∧ 4 = 4 ∧ 170 = 168 + 2 := by decide +kernel
theorem c300_170 : mj_Y.code kY 300 170 = some (.iconst 2) ∧ Int32.ofInt 2 = 2 ∧ 171 = 170 + 1 := by decide +kernel
theorem c300_171 : mj_Y.code kY 300 171 = some .iadd ∧ 172 = 171 + 1 := by decide +kernel
theorem c300_172 : mj_Y.code kY 300 172 = some .iaload ∧ 173 = 172 + 1 := by decide +kernel
theorem c300_173 : mj_Y.code kY 300 173 = some .i2l ∧ 174 = 173 + 1 := by decide +kernel
theorem c300_174 : mj_Y.code kY 300 174 = some (.ldc2_w 65) ∧ mj_Y.ck kY 300 65 = some (.long 4294967295) ∧ 177 = 174 + 3 := by decide +kernel
theorem c300_177 : mj_Y.code kY 300 177 = some .land ∧ 178 = 177 + 1 := by decide +kernel
theorem c300_178 : mj_Y.code kY 300 178 = some .lor ∧ 179 = 178 + 1 := by decide +kernel
theorem c300_179 : mj_Y.code kY 300 179 = some (.aload_n 0) ∧ ((0 : Fin 4) : Nat) = 0 ∧ 180 = 179 + 1 := by decide +kernel
theorem c300_180 : mj_Y.code kY 300 180 = some (.iload 4) ∧ 4 = 4 ∧ 182 = 180 + 2 := by decide +kernel
theorem c300_182 : mj_Y.code kY 300 182 = some (.iconst 3) ∧ Int32.ofInt 3 = 3 ∧ 183 = 182 + 1 := by decide +kernel
theorem c300_183 : mj_Y.code kY 300 183 = some .iadd ∧ 184 = 183 + 1 := by decide +kernel
theorem c300_184 : mj_Y.code kY 300 184 = some .iaload ∧ 185 = 184 + 1 := by decide +kernel
theorem c300_185 : mj_Y.code kY 300 185 = some (.invokevirtual 71) ∧ mj_Y.na kY 300 71 = some 2 ∧ mj_Y.cv kY 300 71 12 = some 204 ∧ mj_Y.nL kY 204 = 7 ∧ 188 = 185 + 3 := by decide +kernel
theorem c300_188 : mj_Y.code kY 300 188 = some (.if_icmp .eq 932) ∧ mj_tg 188 932 = some 1120 ∧ 191 = 188 + 3 := by decide +kernel
theorem c300_193 : mj_Y.code kY 300 193 = some (.aload_n 1) ∧ ((1 : Fin 4) : Nat) = 1 ∧ 194 = 193 + 1 := by decide +kernel
theorem c300_194 : mj_Y.code kY 300 194 = some (.invokevirtual 72) ∧ mj_Y.na kY 300 72 = some 0 ∧ mj_Y.cv kY 300 72 5 = some 36 ∧ mj_Y.nL kY 36 = 2 ∧ 197 = 194 + 3 := by decide +kernel
theorem c300_197 : mj_Y.code kY 300 197 = some (.aload_n 2) ∧ ((2 : Fin 4) : Nat) = 2 ∧ 198 = 197 + 1 := by decide +kernel
theorem c300_198 : mj_Y.code kY 300 198 = some (.invokevirtual 76) ∧ mj_Y.na kY 300 76 = some 0 ∧ mj_Y.cv kY 300 76 12 = some 207 ∧ mj_Y.nL kY 207 = 2 ∧ 201 = 198 + 3 := by decide +kernel
theorem c300_201 : mj_Y.code kY 300 201 = some (.if_icmp .eq 919) ∧ mj_tg 201 919 = some 1120 ∧ 204 = 201 + 3 := by decide +kernel
theorem c300_206 : mj_Y.code kY 300 206 = some (.aload_n 1) ∧ ((1 : Fin 4) : Nat) = 1 ∧ 207 = 206 + 1 := by decide +kernel
theorem c300_207 : mj_Y.code kY 300 207 = some (.aload_n 0) ∧ ((0 : Fin 4) : Nat) = 0 ∧ 208 = 207 + 1 := by decide +kernel
theorem c300_208 : mj_Y.code kY 300 208 = some (.iload 4) ∧ 4 = 4 ∧ 210 = 208 + 2 := by decide +kernel
theorem c300_210 : mj_Y.code kY 300 210 = some (.iconst 1) ∧ Int32.ofInt 1 = 1 ∧ 211 = 210 + 1 := by decide +kernel
theorem c300_211 : mj_Y.code kY 300 211 = some .iadd ∧ 212 = 211 + 1 := by decide +kernel
theorem c300_212 : mj_Y.code kY 300 212 = some .iaload ∧ 213 = 212 + 1 := by decide +kernel
theorem c300_213 : mj_Y.code kY 300 213 = some (.invokevirtual 77) ∧ mj_Y.na kY 300 77 = some 1 ∧ mj_Y.cv kY 300 77 5 = some 72 ∧ mj_Y.nL kY 72 = 2 ∧ 216 = 213 + 3 := by decide +kernel
theorem c300_216 : mj_Y.code kY 300 216 = some (.aload_n 2) ∧ ((2 : Fin 4) : Nat) = 2 ∧ 217 = 216 + 1 := by decide +kernel
theorem c300_217 : mj_Y.code kY 300 217 = some (.aload_n 0) ∧ ((0 : Fin 4) : Nat) = 0 ∧ 218 = 217 + 1 := by decide +kernel
theorem c300_218 : mj_Y.code kY 300 218 = some (.iload 4) ∧ 4 = 4 ∧ 220 = 218 + 2 := by decide +kernel
theorem c300_220 : mj_Y.code kY 300 220 = some (.iconst 1) ∧ Int32.ofInt 1 = 1 ∧ 221 = 220 + 1 := by decide +kernel
theorem c300_221 : mj_Y.code kY 300 221 = some .iadd ∧ 222 = 221 + 1 := by decide +kernel
theorem c300_222 : mj_Y.code kY 300 222 = some .iaload ∧ 223 = 222 + 1 := by decide +kernel
theorem c300_223 : mj_Y.code kY 300 223 = some (.invokevirtual 80) ∧ mj_Y.na kY 300 80 = some 1 ∧ mj_Y.cv kY 300 80 12 = some 208 ∧ mj_Y.nL kY 208 = 2 ∧ 226 = 223 + 3 := by decide +kernel
theorem c300_226 : mj_Y.code kY 300 226 = some (.if_icmp .eq 894) ∧ mj_tg 226 894 = some 1120 ∧ 229 = 226 + 3 := by decide +kernel
theorem c300_231 : mj_Y.code kY 300 231 = some (.aload_n 1) ∧ ((1 : Fin 4) : Nat) = 1 ∧ 232 = 231 + 1 := by decide +kernel
theorem c300_232 : mj_Y.code kY 300 232 = some (.aload_n 0) ∧ ((0 : Fin 4) : Nat) = 0 ∧ 233 = 232 + 1 := by decide +kernel
theorem c300_233 : mj_Y.code kY 300 233 = some (.iload 4) ∧ 4 = 4 ∧ 235 = 233 + 2 := by decide +kernel
theorem c300_235 : mj_Y.code kY 300 235 = some (.iconst 1) ∧ Int32.ofInt 1 = 1 ∧ 236 = 235 + 1 := by decide +kernel
theorem c300_236 : mj_Y.code kY 300 236 = some .iadd ∧ 237 = 236 + 1 := by decide +kernel
theorem c300_237 : mj_Y.code kY 300 237 = some .iaload ∧ 238 = 237 + 1 := by decide +kernel
theorem c300_238 : mj_Y.code kY 300 238 = some (.aload_n 3) ∧ ((3 : Fin 4) : Nat) = 3 ∧ 239 = 238 + 1 := by decide +kernel
theorem c300_239 : mj_Y.code kY 300 239 = some (.invokestatic 81) ∧ mj_Y.pr kY 300 81 = none ∧ mj_Y.cs kY 300 81 = some (77, 3) ∧ mj_Y.nL kY 77 = 4 ∧ 242 = 239 + 3 := by decide +kernel
theorem c300_242 : mj_Y.code kY 300 242 = some (.istore 5) ∧ 5 = 5 ∧ 5 < mj_Y.nL kY 300 ∧ 244 = 242 + 2 := by decide +kernel
theorem c300_244 : mj_Y.code kY 300 244 = some (.aload_n 2) ∧ ((2 : Fin 4) : Nat) = 2 ∧ 245 = 244 + 1 := by decide +kernel
theorem c300_245 : mj_Y.code kY 300 245 = some (.aload_n 0) ∧ ((0 : Fin 4) : Nat) = 0 ∧ 246 = 245 + 1 := by decide +kernel
theorem c300_246 : mj_Y.code kY 300 246 = some (.iload 4) ∧ 4 = 4 ∧ 248 = 246 + 2 := by decide +kernel
theorem c300_248 : mj_Y.code kY 300 248 = some (.iconst 1) ∧ Int32.ofInt 1 = 1 ∧ 249 = 248 + 1 := by decide +kernel
theorem c300_249 : mj_Y.code kY 300 249 = some .iadd ∧ 250 = 249 + 1 := by decide +kernel
theorem c300_250 : mj_Y.code kY 300 250 = some .iaload ∧ 251 = 250 + 1 := by decide +kernel
theorem c300_251 : mj_Y.code kY 300 251 = some (.invokevirtual 86) ∧ mj_Y.na kY 300 86 = some 1 ∧ mj_Y.cv kY 300 86 12 = some 209 ∧ mj_Y.nL kY 209 = 2 ∧ 254 = 251 + 3 := by decide +kernel
theorem c300_254 : mj_Y.code kY 300 254 = some (.istore 6) ∧ 6 = 6 ∧ 6 < mj_Y.nL kY 300 ∧ 256 = 254 + 2 := by decide +kernel
theorem c300_256 : mj_Y.code kY 300 256 = some (.aload_n 2) ∧ ((2 : Fin 4) : Nat) = 2 ∧ 257 = 256 + 1 := by decide +kernel
theorem c300_257 : mj_Y.code kY 300 257 = some (.invokevirtual 87) ∧ mj_Y.na kY 300 87 = some 0 ∧ mj_Y.cv kY 300 87 12 = some 203 ∧ mj_Y.nL kY 203 = 1 ∧ 260 = 257 + 3 := by decide +kernel
theorem c300_260 : mj_Y.code kY 300 260 = some (.iload 5) ∧ 5 = 5 ∧ 262 = 260 + 2 := by decide +kernel
theorem c300_262 : mj_Y.code kY 300 262 = some (.if_icmp .eq 5) ∧ mj_tg 262 5 = some 267 ∧ 265 = 262 + 3 := by decide +kernel
theorem c300_267 : mj_Y.code kY 300 267 = some (.iload 5) ∧ 5 = 5 ∧ 269 = 267 + 2 := by decide +kernel
theorem c300_269 : mj_Y.code kY 300 269 = some (.ifCond .ne 15) ∧ mj_tg 269 15 = some 284 ∧ 272 = 269 + 3 := by decide +kernel
theorem c300_272 : mj_Y.code kY 300 272 = some (.aload_n 3) ∧ ((3 : Fin 4) : Nat) = 3 ∧ 273 = 272 + 1 := by decide +kernel
theorem c300_273 : mj_Y.code kY 300 273 = some (.iconst 0) ∧ Int32.ofInt 0 = 0 ∧ 274 = 273 + 1 := by decide +kernel
theorem c300_274 : mj_Y.code kY 300 274 = some .laload ∧ 275 = 274 + 1 := by decide +kernel
theorem c300_275 : mj_Y.code kY 300 275 = some (.iload 6) ∧ 6 = 6 ∧ 277 = 275 + 2 := by decide +kernel
theorem c300_277 : mj_Y.code kY 300 277 = some .i2l ∧ 278 = 277 + 1 := by decide +kernel
theorem c300_278 : mj_Y.code kY 300 278 = some .lcmp ∧ 279 = 278 + 1 := by decide +kernel
theorem c300_279 : mj_Y.code kY 300 279 = some (.ifCond .eq 5) ∧ mj_tg 279 5 = some 284 ∧ 282 = 279 + 3 := by decide +kernel
theorem c300_284 : mj_Y.code kY 300 284 = some (.goto 836) ∧ mj_tg 284 836 = some 1120 := by decide +kernel
theorem c300_287 : mj_Y.code kY 300 287 = some (.aload_n 1) ∧ ((1 : Fin 4) : Nat) = 1 ∧ 288 = 287 + 1 := by decide +kernel
theorem c300_288 : mj_Y.code kY 300 288 = some (.invokevirtual 90) ∧ mj_Y.na kY 300 90 = some 0 ∧ mj_Y.cv kY 300 90 5 = some 75 ∧ mj_Y.nL kY 75 = 1 ∧ 291 = 288 + 3 := by decide +kernel
theorem c300_291 : mj_Y.code kY 300 291 = some (.aload_n 2) ∧ ((2 : Fin 4) : Nat) = 2 ∧ 292 = 291 + 1 := by decide +kernel
theorem c300_292 : mj_Y.code kY 300 292 = some (.invokevirtual 93) ∧ mj_Y.na kY 300 93 = some 0 ∧ mj_Y.cv kY 300 93 12 = some 244 ∧ mj_Y.nL kY 244 = 1 ∧ 295 = 292 + 3 := by decide +kernel
theorem c300_295 : mj_Y.code kY 300 295 = some (.if_icmp .eq 825) ∧ mj_tg 295 825 = some 1120 ∧ 298 = 295 + 3 := by decide +kernel
theorem c300_300 : mj_Y.code kY 300 300 = some (.aload_n 1) ∧ ((1 : Fin 4) : Nat) = 1 ∧ 301 = 300 + 1 := by decide +kernel
theorem c300_301 : mj_Y.code kY 300 301 = some (.aload_n 0) ∧ ((0 : Fin 4) : Nat) = 0 ∧ 302 = 301 + 1 := by decide +kernel
theorem c300_302 : mj_Y.code kY 300 302 = some (.iload 4) ∧ 4 = 4 ∧ 304 = 302 + 2 := by decide +kernel
theorem c300_304 : mj_Y.code kY 300 304 = some (.iconst 1) ∧ Int32.ofInt 1 = 1 ∧ 305 = 304 + 1 := by decide +kernel
theorem c300_305 : mj_Y.code kY 300 305 = some .iadd ∧ 306 = 305 + 1 := by decide +kernel
theorem c300_306 : mj_Y.code kY 300 306 = some .iaload ∧ 307 = 306 + 1 := by decide +kernel
theorem c300_307 : mj_Y.code kY 300 307 = some (.aload_n 3) ∧ ((3 : Fin 4) : Nat) = 3 ∧ 308 = 307 + 1 := by decide +kernel
theorem c300_308 : mj_Y.code kY 300 308 = some (.invokestatic 94) ∧ mj_Y.pr kY 300 94 = none ∧ mj_Y.cs kY 300 94 = some (119, 3) ∧ mj_Y.nL kY 119 = 4 ∧ 311 = 308 + 3 := by decide +kernel
theorem c300_311 : mj_Y.code kY 300 311 = some (.istore 5) ∧ 5 = 5 ∧ 5 < mj_Y.nL kY 300 ∧ 313 = 311 + 2 := by decide +kernel
theorem c300_313 : mj_Y.code kY 300 313 = some (.aload_n 2) ∧ ((2 : Fin 4) : Nat) = 2 ∧ 314 = 313 + 1 := by decide +kernel
theorem c300_314 : mj_Y.code kY 300 314 = some (.aload_n 0) ∧ ((0 : Fin 4) : Nat) = 0 ∧ 315 = 314 + 1 := by decide +kernel
theorem c300_315 : mj_Y.code kY 300 315 = some (.iload 4) ∧ 4 = 4 ∧ 317 = 315 + 2 := by decide +kernel
theorem c300_317 : mj_Y.code kY 300 317 = some (.iconst 1) ∧ Int32.ofInt 1 = 1 ∧ 318 = 317 + 1 := by decide +kernel
theorem c300_318 : mj_Y.code kY 300 318 = some .iadd ∧ 319 = 318 + 1 := by decide +kernel
theorem c300_319 : mj_Y.code kY 300 319 = some .iaload ∧ 320 = 319 + 1 := by decide +kernel
theorem c300_320 : mj_Y.code kY 300 320 = some (.invokevirtual 96) ∧ mj_Y.na kY 300 96 = some 1 ∧ mj_Y.cv kY 300 96 12 = some 245 ∧ mj_Y.nL kY 245 = 3 ∧ 323 = 320 + 3 := by decide +kernel
theorem c300_323 : mj_Y.code kY 300 323 = some (.istore 6) ∧ 6 = 6 ∧ 6 < mj_Y.nL kY 300 ∧ 325 = 323 + 2 := by decide +kernel
theorem c300_325 : mj_Y.code kY 300 325 = some (.aload_n 2) ∧ ((2 : Fin 4) : Nat) = 2 ∧ 326 = 325 + 1 := by decide +kernel
theorem c300_326 : mj_Y.code kY 300 326 = some (.invokevirtual 87) ∧ mj_Y.na kY 300 87 = some 0 ∧ mj_Y.cv kY 300 87 12 = some 203 ∧ mj_Y.nL kY 203 = 1 ∧ 329 = 326 + 3 := by decide +kernel
theorem c300_329 : mj_Y.code kY 300 329 = some (.iload 5) ∧ 5 = 5 ∧ 331 = 329 + 2 := by decide +kernel
theorem c300_331 : mj_Y.code kY 300 331 = some (.if_icmp .eq 5) ∧ mj_tg 331 5 = some 336 ∧ 334 = 331 + 3 := by decide +kernel
theorem c300_336 : mj_Y.code kY 300 336 = some (.iload 5) ∧ 5 = 5 ∧ 338 = 336 + 2 := by decide +kernel
theorem c300_338 : mj_Y.code kY 300 338 = some (.ifCond .ne 15) ∧ mj_tg 338 15 = some 353 ∧ 341 = 338 + 3 := by decide +kernel
theorem c300_341 : mj_Y.code kY 300 341 = some (.aload_n 3) ∧ ((3 : Fin 4) : Nat) = 3 ∧ 342 = 341 + 1 := by decide +kernel
theorem c300_342 : mj_Y.code kY 300 342 = some (.iconst 0) ∧ Int32.ofInt 0 = 0 ∧ 343 = 342 + 1 := by decide +kernel
theorem c300_343 : mj_Y.code kY 300 343 = some .laload ∧ 344 = 343 + 1 := by decide +kernel
theorem c300_344 : mj_Y.code kY 300 344 = some (.iload 6) ∧ 6 = 6 ∧ 346 = 344 + 2 := by decide +kernel
theorem c300_346 : mj_Y.code kY 300 346 = some .i2l ∧ 347 = 346 + 1 := by decide +kernel
theorem c300_347 : mj_Y.code kY 300 347 = some .lcmp ∧ 348 = 347 + 1 := by decide +kernel
theorem c300_348 : mj_Y.code kY 300 348 = some (.ifCond .eq 5) ∧ mj_tg 348 5 = some 353 ∧ 351 = 348 + 3 := by decide +kernel
theorem c300_353 : mj_Y.code kY 300 353 = some (.goto 767) ∧ mj_tg 353 767 = some 1120 := by decide +kernel
theorem c300_356 : mj_Y.code kY 300 356 = some (.aload_n 1) ∧ ((1 : Fin 4) : Nat) = 1 ∧ 357 = 356 + 1 := by decide +kernel
theorem c300_357 : mj_Y.code kY 300 357 = some (.aload_n 0) ∧ ((0 : Fin 4) : Nat) = 0 ∧ 358 = 357 + 1 := by decide +kernel
theorem c300_358 : mj_Y.code kY 300 358 = some (.iload 4) ∧ 4 = 4 ∧ 360 = 358 + 2 := by decide +kernel
theorem c300_360 : mj_Y.code kY 300 360 = some (.iconst 1) ∧ Int32.ofInt 1 = 1 ∧ 361 = 360 + 1 := by decide +kernel
theorem c300_361 : mj_Y.code kY 300 361 = some .iadd ∧ 362 = 361 + 1 := by decide +kernel
theorem c300_362 : mj_Y.code kY 300 362 = some .iaload ∧ 363 = 362 + 1 := by decide +kernel
theorem c300_363 : mj_Y.code kY 300 363 = some (.aload_n 3) ∧ ((3 : Fin 4) : Nat) = 3 ∧ 364 = 363 + 1 := by decide +kernel
theorem c300_364 : mj_Y.code kY 300 364 = some (.invokestatic 97) ∧ mj_Y.pr kY 300 97 = none ∧ mj_Y.cs kY 300 97 = some (133, 3) ∧ mj_Y.nL kY 133 = 4 ∧ 367 = 364 + 3 := by decide +kernel
theorem c300_367 : mj_Y.code kY 300 367 = some (.istore 5) ∧ 5 = 5 ∧ 5 < mj_Y.nL kY 300 ∧ 369 = 367 + 2 := by decide +kernel
theorem c300_369 : mj_Y.code kY 300 369 = some (.aload_n 2) ∧ ((2 : Fin 4) : Nat) = 2 ∧ 370 = 369 + 1 := by decide +kernel
theorem c300_370 : mj_Y.code kY 300 370 = some (.aload_n 0) ∧ ((0 : Fin 4) : Nat) = 0 ∧ 371 = 370 + 1 := by decide +kernel
theorem c300_371 : mj_Y.code kY 300 371 = some (.iload 4) ∧ 4 = 4 ∧ 373 = 371 + 2 := by decide +kernel
theorem c300_373 : mj_Y.code kY 300 373 = some (.iconst 1) ∧ Int32.ofInt 1 = 1 ∧ 374 = 373 + 1 := by decide +kernel
theorem c300_374 : mj_Y.code kY 300 374 = some .iadd ∧ 375 = 374 + 1 := by decide +kernel
theorem c300_375 : mj_Y.code kY 300 375 = some .iaload ∧ 376 = 375 + 1 := by decide +kernel
theorem c300_376 : mj_Y.code kY 300 376 = some (.invokevirtual 99) ∧ mj_Y.na kY 300 99 = some 1 ∧ mj_Y.cv kY 300 99 12 = some 259 ∧ mj_Y.nL kY 259 = 3 ∧ 379 = 376 + 3 := by decide +kernel
theorem c300_379 : mj_Y.code kY 300 379 = some (.istore 6) ∧ 6 = 6 ∧ 6 < mj_Y.nL kY 300 ∧ 381 = 379 + 2 := by decide +kernel
theorem c300_381 : mj_Y.code kY 300 381 = some (.aload_n 2) ∧ ((2 : Fin 4) : Nat) = 2 ∧ 382 = 381 + 1 := by decide +kernel
theorem c300_382 : mj_Y.code kY 300 382 = some (.invokevirtual 87) ∧ mj_Y.na kY 300 87 = some 0 ∧ mj_Y.cv kY 300 87 12 = some 203 ∧ mj_Y.nL kY 203 = 1 ∧ 385 = 382 + 3 := by decide +kernel
theorem c300_385 : mj_Y.code kY 300 385 = some (.iload 5) ∧ 5 = 5 ∧ 387 = 385 + 2 := by decide +kernel
theorem c300_387 : mj_Y.code kY 300 387 = some (.if_icmp .eq 5) ∧ mj_tg 387 5 = some 392 ∧ 390 = 387 + 3 := by decide +kernel
theorem c300_392 : mj_Y.code kY 300 392 = some (.iload 5) ∧ 5 = 5 ∧ 394 = 392 + 2 := by decide +kernel
theorem c300_394 : mj_Y.code kY 300 394 = some (.ifCond .ne 15) ∧ mj_tg 394 15 = some 409 ∧ 397 = 394 + 3 := by decide +kernel
theorem c300_397 : mj_Y.code kY 300 397 = some (.aload_n 3) ∧ ((3 : Fin 4) : Nat) = 3 ∧ 398 = 397 + 1 := by decide +kernel
theorem c300_398 : mj_Y.code kY 300 398 = some (.iconst 0) ∧ Int32.ofInt 0 = 0 ∧ 399 = 398 + 1 := by decide +kernel
theorem c300_399 : mj_Y.code kY 300 399 = some .laload ∧ 400 = 399 + 1 := by decide +kernel
theorem c300_400 : mj_Y.code kY 300 400 = some (.iload 6) ∧ 6 = 6 ∧ 402 = 400 + 2 := by decide +kernel
theorem c300_402 : mj_Y.code kY 300 402 = some .i2l ∧ 403 = 402 + 1 := by decide +kernel
theorem c300_403 : mj_Y.code kY 300 403 = some .lcmp ∧ 404 = 403 + 1 := by decide +kernel
theorem c300_404 : mj_Y.code kY 300 404 = some (.ifCond .eq 5) ∧ mj_tg 404 5 = some 409 ∧ 407 = 404 + 3 := by decide +kernel
theorem c300_409 : mj_Y.code kY 300 409 = some (.goto 711) ∧ mj_tg 409 711 = some 1120 := by decide +kernel
theorem c300_412 : mj_Y.code kY 300 412 = some (.aload_n 1) ∧ ((1 : Fin 4) : Nat) = 1 ∧ 413 = 412 + 1 := by decide +kernel
theorem c300_413 : mj_Y.code kY 300 413 = some (.invokevirtual 100) ∧ mj_Y.na kY 300 100 = some 0 ∧ mj_Y.cv kY 300 100 5 = some 76 ∧ mj_Y.nL kY 76 = 1 ∧ 416 = 413 + 3 := by decide +kernel
theorem c300_416 : mj_Y.code kY 300 416 = some (.aload_n 2) ∧ ((2 : Fin 4) : Nat) = 2 ∧ 417 = 416 + 1 := by decide +kernel
theorem c300_417 : mj_Y.code kY 300 417 = some (.invokevirtual 103) ∧ mj_Y.na kY 300 103 = some 0 ∧ mj_Y.cv kY 300 103 12 = some 288 ∧ mj_Y.nL kY 288 = 1 ∧ 420 = 417 + 3 := by decide +kernel
theorem c300_420 : mj_Y.code kY 300 420 = some (.if_icmp .eq 700) ∧ mj_tg 420 700 = some 1120 ∧ 423 = 420 + 3 := by decide +kernel
theorem c300_425 : mj_Y.code kY 300 425 = some (.aload_n 1) ∧ ((1 : Fin 4) : Nat) = 1 ∧ 426 = 425 + 1 := by decide +kernel
theorem c300_426 : mj_Y.code kY 300 426 = some (.aload_n 0) ∧ ((0 : Fin 4) : Nat) = 0 ∧ 427 = 426 + 1 := by decide +kernel
theorem c300_427 : mj_Y.code kY 300 427 = some (.iload 4) ∧ 4 = 4 ∧ 429 = 427 + 2 := by decide +kernel
theorem c300_429 : mj_Y.code kY 300 429 = some (.iconst 1) ∧ Int32.ofInt 1 = 1 ∧ 430 = 429 + 1 := by decide +kernel
theorem c300_430 : mj_Y.code kY 300 430 = some .iadd ∧ 431 = 430 + 1 := by decide +kernel
theorem c300_431 : mj_Y.code kY 300 431 = some .iaload ∧ 432 = 431 + 1 := by decide +kernel
theorem c300_432 : mj_Y.code kY 300 432 = some (.aload_n 3) ∧ ((3 : Fin 4) : Nat) = 3 ∧ 433 = 432 + 1 := by decide +kernel
theorem c300_433 : mj_Y.code kY 300 433 = some (.invokestatic 104) ∧ mj_Y.pr kY 300 104 = none ∧ mj_Y.cs kY 300 104 = some (177, 3) ∧ mj_Y.nL kY 177 = 4 ∧ 436 = 433 + 3 := by decide +kernel
theorem c300_436 : mj_Y.code kY 300 436 = some (.istore 5) ∧ 5 = 5 ∧ 5 < mj_Y.nL kY 300 ∧ 438 = 436 + 2 := by decide +kernel
theorem c300_438 : mj_Y.code kY 300 438 = some (.aload_n 2) ∧ ((2 : Fin 4) : Nat) = 2 ∧ 439 = 438 + 1 := by decide +kernel
theorem c300_439 : mj_Y.code kY 300 439 = some (.aload_n 0) ∧ ((0 : Fin 4) : Nat) = 0 ∧ 440 = 439 + 1 := by decide +kernel
theorem c300_440 : mj_Y.code kY 300 440 = some (.iload 4) ∧ 4 = 4 ∧ 442 = 440 + 2 := by decide +kernel
theorem c300_442 : mj_Y.code kY 300 442 = some (.iconst 1) ∧ Int32.ofInt 1 = 1 ∧ 443 = 442 + 1 := by decide +kernel
theorem c300_443 : mj_Y.code kY 300 443 = some .iadd ∧ 444 = 443 + 1 := by decide +kernel
theorem c300_444 : mj_Y.code kY 300 444 = some .iaload ∧ 445 = 444 + 1 := by decide +kernel
theorem c300_445 : mj_Y.code kY 300 445 = some (.invokevirtual 106) ∧ mj_Y.na kY 300 106 = some 1 ∧ mj_Y.cv kY 300 106 12 = some 258 ∧ mj_Y.nL kY 258 = 2 ∧ 448 = 445 + 3 := by decide +kernel
theorem c300_448 : mj_Y.code kY 300 448 = some (.lstore 6) ∧ 6 = 6 ∧ 6 + 1 < mj_Y.nL kY 300 ∧ 450 = 448 + 2 := by decide +kernel
theorem c300_450 : mj_Y.code kY 300 450 = some (.aload_n 2) ∧ ((2 : Fin 4) : Nat) = 2 ∧ 451 = 450 + 1 := by decide +kernel
theorem c300_451 : mj_Y.code kY 300 451 = some (.invokevirtual 87) ∧ mj_Y.na kY 300 87 = some 0 ∧ mj_Y.cv kY 300 87 12 = some 203 ∧ mj_Y.nL kY 203 = 1 ∧ 454 = 451 + 3 := by decide +kernel
theorem c300_454 : mj_Y.code kY 300 454 = some (.iload 5) ∧ 5 = 5 ∧ 456 = 454 + 2 := by decide +kernel
theorem c300_456 : mj_Y.code kY 300 456 = some (.if_icmp .eq 5) ∧ mj_tg 456 5 = some 461 ∧ 459 = 456 + 3 := by decide +kernel
theorem c300_461 : mj_Y.code kY 300 461 = some (.iload 5) ∧ 5 = 5 ∧ 463 = 461 + 2 := by decide +kernel
theorem c300_463 : mj_Y.code kY 300 463 = some (.ifCond .ne 14) ∧ mj_tg 463 14 = some 477 ∧ 466 = 463 + 3 := by decide +kernel
theorem c300_466 : mj_Y.code kY 300 466 = some (.aload_n 3) ∧ ((3 : Fin 4) : Nat) = 3 ∧ 467 = 466 + 1 := by decide +kernel
theorem c300_467 : mj_Y.code kY 300 467 = some (.iconst 0) ∧ Int32.ofInt 0 = 0 ∧ 468 = 467 + 1 := by decide +kernel
theorem c300_468 : mj_Y.code kY 300 468 = some .laload ∧ 469 = 468 + 1 := by decide +kernel
theorem c300_469 : mj_Y.code kY 300 469 = some (.lload 6) ∧ 6 = 6 ∧ 471 = 469 + 2 := by decide +kernel
theorem c300_471 : mj_Y.code kY 300 471 = some .lcmp ∧ 472 = 471 + 1 := by decide +kernel
theorem c300_472 : mj_Y.code kY 300 472 = some (.ifCond .eq 5) ∧ mj_tg 472 5 = some 477 ∧ 475 = 472 + 3 := by decide +kernel
theorem c300_477 : mj_Y.code kY 300 477 = some (.goto 643) ∧ mj_tg 477 643 = some 1120 := by decide +kernel
theorem c300_480 : mj_Y.code kY 300 480 = some (.aload_n 1) ∧ ((1 : Fin 4) : Nat) = 1 ∧ 481 = 480 + 1 := by decide +kernel
theorem c300_481 : mj_Y.code kY 300 481 = some (.aload_n 0) ∧ ((0 : Fin 4) : Nat) = 0 ∧ 482 = 481 + 1 := by decide +kernel
theorem c300_482 : mj_Y.code kY 300 482 = some (.iload 4) ∧ 4 = 4 ∧ 484 = 482 + 2 := by decide +kernel
theorem c300_484 : mj_Y.code kY 300 484 = some (.iconst 1) ∧ Int32.ofInt 1 = 1 ∧ 485 = 484 + 1 := by decide +kernel
theorem c300_485 : mj_Y.code kY 300 485 = some .iadd ∧ 486 = 485 + 1 := by decide +kernel
theorem c300_486 : mj_Y.code kY 300 486 = some .iaload ∧ 487 = 486 + 1 := by decide +kernel
theorem c300_487 : mj_Y.code kY 300 487 = some (.aload_n 3) ∧ ((3 : Fin 4) : Nat) = 3 ∧ 488 = 487 + 1 := by decide +kernel
theorem c300_488 : mj_Y.code kY 300 488 = some (.invokestatic 107) ∧ mj_Y.pr kY 300 107 = none ∧ mj_Y.cs kY 300 107 = some (179, 3) ∧ mj_Y.nL kY 179 = 4 ∧ 491 = 488 + 3 := by decide +kernel
theorem c300_491 : mj_Y.code kY 300 491 = some (.istore 5) ∧ 5 = 5 ∧ 5 < mj_Y.nL kY 300 ∧ 493 = 491 + 2 := by decide +kernel
theorem c300_493 : mj_Y.code kY 300 493 = some (.aload_n 2) ∧ ((2 : Fin 4) : Nat) = 2 ∧ 494 = 493 + 1 := by decide +kernel
theorem c300_494 : mj_Y.code kY 300 494 = some (.aload_n 0) ∧ ((0 : Fin 4) : Nat) = 0 ∧ 495 = 494 + 1 := by decide +kernel
theorem c300_495 : mj_Y.code kY 300 495 = some (.iload 4) ∧ 4 = 4 ∧ 497 = 495 + 2 := by decide +kernel
theorem c300_497 : mj_Y.code kY 300 497 = some (.iconst 1) ∧ Int32.ofInt 1 = 1 ∧ 498 = 497 + 1 := by decide +kernel
theorem c300_498 : mj_Y.code kY 300 498 = some .iadd ∧ 499 = 498 + 1 := by decide +kernel
theorem c300_499 : mj_Y.code kY 300 499 = some .iaload ∧ 500 = 499 + 1 := by decide +kernel
theorem c300_500 : mj_Y.code kY 300 500 = some (.invokevirtual 109) ∧ mj_Y.na kY 300 109 = some 1 ∧ mj_Y.cv kY 300 109 12 = some 289 ∧ mj_Y.nL kY 289 = 2 ∧ 503 = 500 + 3 := by decide +kernel
theorem c300_503 : mj_Y.code kY 300 503 = some (.istore 6) ∧ 6 = 6 ∧ 6 < mj_Y.nL kY 300 ∧ 505 = 503 + 2 := by decide +kernel
theorem c300_505 : mj_Y.code kY 300 505 = some (.aload_n 2) ∧ ((2 : Fin 4) : Nat) = 2 ∧ 506 = 505 + 1 := by decide +kernel
theorem c300_506 : mj_Y.code kY 300 506 = some (.invokevirtual 87) ∧ mj_Y.na kY 300 87 = some 0 ∧ mj_Y.cv kY 300 87 12 = some 203 ∧ mj_Y.nL kY 203 = 1 ∧ 509 = 506 + 3 := by decide +kernel
theorem c300_509 : mj_Y.code kY 300 509 = some (.iload 5) ∧ 5 = 5 ∧ 511 = 509 + 2 := by decide +kernel
theorem c300_511 : mj_Y.code kY 300 511 = some (.if_icmp .eq 5) ∧ mj_tg 511 5 = some 516 ∧ 514 = 511 + 3 := by decide +kernel
theorem c300_516 : mj_Y.code kY 300 516 = some (.iload 5) ∧ 5 = 5 ∧ 518 = 516 + 2 := by decide +kernel
theorem c300_518 : mj_Y.code kY 300 518 = some (.ifCond .ne 15) ∧ mj_tg 518 15 = some 533 ∧ 521 = 518 + 3 := by decide +kernel
theorem c300_521 : mj_Y.code kY 300 521 = some (.aload_n 3) ∧ ((3 : Fin 4) : Nat) = 3 ∧ 522 = 521 + 1 := by decide +kernel
theorem c300_522 : mj_Y.code kY 300 522 = some (.iconst 0) ∧ Int32.ofInt 0 = 0 ∧ 523 = 522 + 1 := by decide +kernel
theorem c300_523 : mj_Y.code kY 300 523 = some .laload ∧ 524 = 523 + 1 := by decide +kernel
theorem c300_524 : mj_Y.code kY 300 524 = some (.iload 6) ∧ 6 = 6 ∧ 526 = 524 + 2 := by decide +kernel
theorem c300_526 : mj_Y.code kY 300 526 = some .i2l ∧ 527 = 526 + 1 := by decide +kernel
theorem c300_527 : mj_Y.code kY 300 527 = some .lcmp ∧ 528 = 527 + 1 := by decide +kernel
theorem c300_528 : mj_Y.code kY 300 528 = some (.ifCond .eq 5) ∧ mj_tg 528 5 = some 533 ∧ 531 = 528 + 3 := by decide +kernel
theorem c300_533 : mj_Y.code kY 300 533 = some (.goto 587) ∧ mj_tg 533 587 = some 1120 := by decide +kernel
theorem c300_536 : mj_Y.code kY 300 536 = some (.aload_n 1) ∧ ((1 : Fin 4) : Nat) = 1 ∧ 537 = 536 + 1 := by decide +kernel
theorem c300_537 : mj_Y.code kY 300 537 = some (.aload_n 0) ∧ ((0 : Fin 4) : Nat) = 0 ∧ 538 = 537 + 1 := by decide +kernel
theorem c300_538 : mj_Y.code kY 300 538 = some (.iload 4) ∧ 4 = 4 ∧ 540 = 538 + 2 := by decide +kernel
theorem c300_540 : mj_Y.code kY 300 540 = some (.iconst 1) ∧ Int32.ofInt 1 = 1 ∧ 541 = 540 + 1 := by decide +kernel
theorem c300_541 : mj_Y.code kY 300 541 = some .iadd ∧ 542 = 541 + 1 := by decide +kernel
theorem c300_542 : mj_Y.code kY 300 542 = some .iaload ∧ 543 = 542 + 1 := by decide +kernel
theorem c300_543 : mj_Y.code kY 300 543 = some (.aload_n 0) ∧ ((0 : Fin 4) : Nat) = 0 ∧ 544 = 543 + 1 := by decide +kernel
theorem c300_544 : mj_Y.code kY 300 544 = some (.iload 4) ∧ 4 = 4 ∧ 546 = 544 + 2 := by decide +kernel
theorem c300_546 : mj_Y.code kY 300 546 = some (.iconst 2) ∧ Int32.ofInt 2 = 2 ∧ 547 = 546 + 1 := by decide +kernel
theorem c300_547 : mj_Y.code kY 300 547 = some .iadd ∧ 548 = 547 + 1 := by decide +kernel
theorem c300_548 : mj_Y.code kY 300 548 = some .iaload ∧ 549 = 548 + 1 := by decide +kernel
theorem c300_549 : mj_Y.code kY 300 549 = some (.aload_n 3) ∧ ((3 : Fin 4) : Nat) = 3 ∧ 550 = 549 + 1 := by decide +kernel
theorem c300_550 : mj_Y.code kY 300 550 = some (.invokestatic 110) ∧ mj_Y.pr kY 300 110 = none ∧ mj_Y.cs kY 300 110 = some (182, 4) ∧ mj_Y.nL kY 182 = 5 ∧ 553 = 550 + 3 := by decide +kernel
theorem c300_553 : mj_Y.code kY 300 553 = some (.istore 5) ∧ 5 = 5 ∧ 5 < mj_Y.nL kY 300 ∧ 555 = 553 + 2 := by decide +kernel
theorem c300_555 : mj_Y.code kY 300 555 = some (.aload_n 2) ∧ ((2 : Fin 4) : Nat) = 2 ∧ 556 = 555 + 1 := by decide +kernel
theorem c300_556 : mj_Y.code kY 300 556 = some (.aload_n 0) ∧ ((0 : Fin 4) : Nat) = 0 ∧ 557 = 556 + 1 := by decide +kernel
theorem c300_557 : mj_Y.code kY 300 557 = some (.iload 4) ∧ 4 = 4 ∧ 559 = 557 + 2 := by decide +kernel
theorem c300_559 : mj_Y.code kY 300 559 = some (.iconst 1) ∧ Int32.ofInt 1 = 1 ∧ 560 = 559 + 1 := by decide +kernel
theorem c300_560 : mj_Y.code kY 300 560 = some .iadd ∧ 561 = 560 + 1 := by decide +kernel
theorem c300_561 : mj_Y.code kY 300 561 = some .iaload ∧ 562 = 561 + 1 := by decide +kernel
theorem c300_562 : mj_Y.code kY 300 562 = some (.aload_n 0) ∧ ((0 : Fin 4) : Nat) = 0 ∧ 563 = 562 + 1 := by decide +kernel
theorem c300_563 : mj_Y.code kY 300 563 = some (.iload 4) ∧ 4 = 4 ∧ 565 = 563 + 2 := by decide +kernel
theorem c300_565 : mj_Y.code kY 300 565 = some (.iconst 2) ∧ Int32.ofInt 2 = 2 ∧ 566 = 565 + 1 := by decide +kernel
theorem c300_566 : mj_Y.code kY 300 566 = some .iadd ∧ 567 = 566 + 1 := by decide +kernel
theorem c300_567 : mj_Y.code kY 300 567 = some .iaload ∧ 568 = 567 + 1 := by decide +kernel
theorem c300_568 : mj_Y.code kY 300 568 = some (.invokevirtual 113) ∧ mj_Y.na kY 300 113 = some 2 ∧ mj_Y.cv kY 300 113 12 = some 291 ∧ mj_Y.nL kY 291 = 3 ∧ 571 = 568 + 3 := by decide +kernel
theorem c300_571 : mj_Y.code kY 300 571 = some (.istore 6) ∧ 6 = 6 ∧ 6 < mj_Y.nL kY 300 ∧ 573 = 571 + 2 := by decide +kernel
theorem c300_573 : mj_Y.code kY 300 573 = some (.aload_n 2) ∧ ((2 : Fin 4) : Nat) = 2 ∧ 574 = 573 + 1 := by decide +kernel
theorem c300_574 : mj_Y.code kY 300 574 = some (.invokevirtual 87) ∧ mj_Y.na kY 300 87 = some 0 ∧ mj_Y.cv kY 300 87 12 = some 203 ∧ mj_Y.nL kY 203 = 1 ∧ 577 = 574 + 3 := by decide +kernel
theorem c300_577 : mj_Y.code kY 300 577 = some (.iload 5) ∧ 5 = 5 ∧ 579 = 577 + 2 := by decide +kernel
theorem c300_579 : mj_Y.code kY 300 579 = some (.if_icmp .eq 5) ∧ mj_tg 579 5 = some 584 ∧ 582 = 579 + 3 := by decide +kernel
theorem c300_584 : mj_Y.code kY 300 584 = some (.iload 5) ∧ 5 = 5 ∧ 586 = 584 + 2 := by decide +kernel
theorem c300_586 : mj_Y.code kY 300 586 = some (.ifCond .ne 15) ∧ mj_tg 586 15 = some 601 ∧ 589 = 586 + 3 := by decide +kernel
theorem c300_589 : mj_Y.code kY 300 589 = some (.aload_n 3) ∧ ((3 : Fin 4) : Nat) = 3 ∧ 590 = 589 + 1 := by decide +kernel
theorem c300_590 : mj_Y.code kY 300 590 = some (.iconst 0) ∧ Int32.ofInt 0 = 0 ∧ 591 = 590 + 1 := by decide +kernel
theorem c300_591 : mj_Y.code kY 300 591 = some .laload ∧ 592 = 591 + 1 := by decide +kernel
theorem c300_592 : mj_Y.code kY 300 592 = some (.iload 6) ∧ 6 = 6 ∧ 594 = 592 + 2 := by decide +kernel
theorem c300_594 : mj_Y.code kY 300 594 = some .i2l ∧ 595 = 594 + 1 := by decide +kernel
theorem c300_595 : mj_Y.code kY 300 595 = some .lcmp ∧ 596 = 595 + 1 := by decide +kernel
theorem c300_596 : mj_Y.code kY 300 596 = some (.ifCond .eq 5) ∧ mj_tg 596 5 = some 601 ∧ 599 = 596 + 3 := by decide +kernel
theorem c300_601 : mj_Y.code kY 300 601 = some (.goto 519) ∧ mj_tg 601 519 = some 1120 := by decide +kernel
theorem c300_604 : mj_Y.code kY 300 604 = some (.aload_n 1) ∧ ((1 : Fin 4) : Nat) = 1 ∧ 605 = 604 + 1 := by decide +kernel
theorem c300_605 : mj_Y.code kY 300 605 = some (.aload_n 0) ∧ ((0 : Fin 4) : Nat) = 0 ∧ 606 = 605 + 1 := by decide +kernel
theorem c300_606 : mj_Y.code kY 300 606 = some (.iload 4) ∧ 4 = 4 ∧ 608 = 606 + 2 := by decide +kernel
theorem c300_608 : mj_Y.code kY 300 608 = some (.iconst 1) ∧ Int32.ofInt 1 = 1 ∧ 609 = 608 + 1 := by decide +kernel
theorem c300_609 : mj_Y.code kY 300 609 = some .iadd ∧ 610 = 609 + 1 := by decide +kernel
theorem c300_610 : mj_Y.code kY 300 610 = some .iaload ∧ 611 = 610 + 1 := by decide +kernel
theorem c300_611 : mj_Y.code kY 300 611 = some (.aload_n 0) ∧ ((0 : Fin 4) : Nat) = 0 ∧ 612 = 611 + 1 := by decide +kernel
theorem c300_612 : mj_Y.code kY 300 612 = some (.iload 4) ∧ 4 = 4 ∧ 614 = 612 + 2 := by decide +kernel
theorem c300_614 : mj_Y.code kY 300 614 = some (.iconst 2) ∧ Int32.ofInt 2 = 2 ∧ 615 = 614 + 1 := by decide +kernel
theorem c300_615 : mj_Y.code kY 300 615 = some .iadd ∧ 616 = 615 + 1 := by decide +kernel
theorem c300_616 : mj_Y.code kY 300 616 = some .iaload ∧ 617 = 616 + 1 := by decide +kernel
theorem c300_617 : mj_Y.code kY 300 617 = some (.aload_n 3) ∧ ((3 : Fin 4) : Nat) = 3 ∧ 618 = 617 + 1 := by decide +kernel
theorem c300_618 : mj_Y.code kY 300 618 = some (.invokestatic 114) ∧ mj_Y.pr kY 300 114 = none ∧ mj_Y.cs kY 300 114 = some (185, 4) ∧ mj_Y.nL kY 185 = 5 ∧ 621 = 618 + 3 := by decide +kernel
theorem c300_621 : mj_Y.code kY 300 621 = some (.istore 5) ∧ 5 = 5 ∧ 5 < mj_Y.nL kY 300 ∧ 623 = 621 + 2 := by decide +kernel
theorem c300_623 : mj_Y.code kY 300 623 = some (.aload_n 2) ∧ ((2 : Fin 4) : Nat) = 2 ∧ 624 = 623 + 1 := by decide +kernel
theorem c300_624 : mj_Y.code kY 300 624 = some (.aload_n 0) ∧ ((0 : Fin 4) : Nat) = 0 ∧ 625 = 624 + 1 := by decide +kernel
theorem c300_625 : mj_Y.code kY 300 625 = some (.iload 4) ∧ 4 = 4 ∧ 627 = 625 + 2 := by decide +kernel
theorem c300_627 : mj_Y.code kY 300 627 = some (.iconst 1) ∧ Int32.ofInt 1 = 1 ∧ 628 = 627 + 1 := by decide +kernel
theorem c300_628 : mj_Y.code kY 300 628 = some .iadd ∧ 629 = 628 + 1 := by decide +kernel
theorem c300_629 : mj_Y.code kY 300 629 = some .iaload ∧ 630 = 629 + 1 := by decide +kernel
theorem c300_630 : mj_Y.code kY 300 630 = some (.aload_n 0) ∧ ((0 : Fin 4) : Nat) = 0 ∧ 631 = 630 + 1 := by decide +kernel
theorem c300_631 : mj_Y.code kY 300 631 = some (.iload 4) ∧ 4 = 4 ∧ 633 = 631 + 2 := by decide +kernel
theorem c300_633 : mj_Y.code kY 300 633 = some (.iconst 2) ∧ Int32.ofInt 2 = 2 ∧ 634 = 633 + 1 := by decide +kernel
theorem c300_634 : mj_Y.code kY 300 634 = some .iadd ∧ 635 = 634 + 1 := by decide +kernel
theorem c300_635 : mj_Y.code kY 300 635 = some .iaload ∧ 636 = 635 + 1 := by decide +kernel
theorem c300_636 : mj_Y.code kY 300 636 = some (.invokevirtual 116) ∧ mj_Y.na kY 300 116 = some 2 ∧ mj_Y.cv kY 300 116 12 = some 293 ∧ mj_Y.nL kY 293 = 3 ∧ 639 = 636 + 3 := by decide +kernel
theorem c300_639 : mj_Y.code kY 300 639 = some (.lstore 6) ∧ 6 = 6 ∧ 6 + 1 < mj_Y.nL kY 300 ∧ 641 = 639 + 2 := by decide +kernel
theorem c300_641 : mj_Y.code kY 300 641 = some (.aload_n 2) ∧ ((2 : Fin 4) : Nat) = 2 ∧ 642 = 641 + 1 := by decide +kernel
theorem c300_642 : mj_Y.code kY 300 642 = some (.invokevirtual 87) ∧ mj_Y.na kY 300 87 = some 0 ∧ mj_Y.cv kY 300 87 12 = some 203 ∧ mj_Y.nL kY 203 = 1 ∧ 645 = 642 + 3 := by decide +kernel
theorem c300_645 : mj_Y.code kY 300 645 = some (.iload 5) ∧ 5 = 5 ∧ 647 = 645 + 2 := by decide +kernel
theorem c300_647 : mj_Y.code kY 300 647 = some (.if_icmp .eq 5) ∧ mj_tg 647 5 = some 652 ∧ 650 = 647 + 3 := by decide +kernel
theorem c300_652 : mj_Y.code kY 300 652 = some (.iload 5) ∧ 5 = 5 ∧ 654 = 652 + 2 := by decide +kernel
theorem c300_654 : mj_Y.code kY 300 654 = some (.ifCond .ne 14) ∧ mj_tg 654 14 = some 668 ∧ 657 = 654 + 3 := by decide +kernel
theorem c300_657 : mj_Y.code kY 300 657 = some (.aload_n 3) ∧ ((3 : Fin 4) : Nat) = 3 ∧ 658 = 657 + 1 := by decide +kernel
theorem c300_658 : mj_Y.code kY 300 658 = some (.iconst 0) ∧ Int32.ofInt 0 = 0 ∧ 659 = 658 + 1 := by decide +kernel
theorem c300_659 : mj_Y.code kY 300 659 = some .laload ∧ 660 = 659 + 1 := by decide +kernel
theorem c300_660 : mj_Y.code kY 300 660 = some (.lload 6) ∧ 6 = 6 ∧ 662 = 660 + 2 := by decide +kernel
theorem c300_662 : mj_Y.code kY 300 662 = some .lcmp ∧ 663 = 662 + 1 := by decide +kernel
theorem c300_663 : mj_Y.code kY 300 663 = some (.ifCond .eq 5) ∧ mj_tg 663 5 = some 668 ∧ 666 = 663 + 3 := by decide +kernel
theorem c300_668 : mj_Y.code kY 300 668 = some (.goto 452) ∧ mj_tg 668 452 = some 1120 := by decide +kernel
theorem c300_671 : mj_Y.code kY 300 671 = some (.aload_n 1) ∧ ((1 : Fin 4) : Nat) = 1 ∧ 672 = 671 + 1 := by decide +kernel
theorem c300_672 : mj_Y.code kY 300 672 = some (.aload_n 0) ∧ ((0 : Fin 4) : Nat) = 0 ∧ 673 = 672 + 1 := by decide +kernel
theorem c300_673 : mj_Y.code kY 300 673 = some (.iload 4) ∧ 4 = 4 ∧ 675 = 673 + 2 := by decide +kernel
theorem c300_675 : mj_Y.code kY 300 675 = some (.iconst 1) ∧ Int32.ofInt 1 = 1 ∧ 676 = 675 + 1 := by decide +kernel
theorem c300_676 : mj_Y.code kY 300 676 = some .iadd ∧ 677 = 676 + 1 := by decide +kernel
theorem c300_677 : mj_Y.code kY 300 677 = some .iaload ∧ 678 = 677 + 1 := by decide +kernel
theorem c300_678 : mj_Y.code kY 300 678 = some (.aload_n 3) ∧ ((3 : Fin 4) : Nat) = 3 ∧ 679 = 678 + 1 := by decide +kernel
theorem c300_679 : mj_Y.code kY 300 679 = some (.invokestatic 117) ∧ mj_Y.pr kY 300 117 = none ∧ mj_Y.cs kY 300 117 = some (187, 3) ∧ mj_Y.nL kY 187 = 4 ∧ 682 = 679 + 3 := by decide +kernel
theorem c300_682 : mj_Y.code kY 300 682 = some (.istore 5) ∧ 5 = 5 ∧ 5 < mj_Y.nL kY 300 ∧ 684 = 682 + 2 := by decide +kernel
theorem c300_684 : mj_Y.code kY 300 684 = some (.aload_n 2) ∧ ((2 : Fin 4) : Nat) = 2 ∧ 685 = 684 + 1 := by decide +kernel
theorem c300_685 : mj_Y.code kY 300 685 = some (.aload_n 0) ∧ ((0 : Fin 4) : Nat) = 0 ∧ 686 = 685 + 1 := by decide +kernel
theorem c300_686 : mj_Y.code kY 300 686 = some (.iload 4) ∧ 4 = 4 ∧ 688 = 686 + 2 := by decide +kernel
theorem c300_688 : mj_Y.code kY 300 688 = some (.iconst 1) ∧ Int32.ofInt 1 = 1 ∧ 689 = 688 + 1 := by decide +kernel
theorem c300_689 : mj_Y.code kY 300 689 = some .iadd ∧ 690 = 689 + 1 := by decide +kernel
theorem c300_690 : mj_Y.code kY 300 690 = some .iaload ∧ 691 = 690 + 1 := by decide +kernel
theorem c300_691 : mj_Y.code kY 300 691 = some (.invokevirtual 119) ∧ mj_Y.na kY 300 119 = some 1 ∧ mj_Y.cv kY 300 119 12 = some 294 ∧ mj_Y.nL kY 294 = 2 ∧ 694 = 691 + 3 := by decide +kernel
theorem c300_694 : mj_Y.code kY 300 694 = some (.lstore 6) ∧ 6 = 6 ∧ 6 + 1 < mj_Y.nL kY 300 ∧ 696 = 694 + 2 := by decide +kernel
theorem c300_696 : mj_Y.code kY 300 696 = some (.aload_n 2) ∧ ((2 : Fin 4) : Nat) = 2 ∧ 697 = 696 + 1 := by decide +kernel
theorem c300_697 : mj_Y.code kY 300 697 = some (.invokevirtual 87) ∧ mj_Y.na kY 300 87 = some 0 ∧ mj_Y.cv kY 300 87 12 = some 203 ∧ mj_Y.nL kY 203 = 1 ∧ 700 = 697 + 3 := by decide +kernel
theorem c300_700 : mj_Y.code kY 300 700 = some (.iload 5) ∧ 5 = 5 ∧ 702 = 700 + 2 := by decide +kernel
theorem c300_702 : mj_Y.code kY 300 702 = some (.if_icmp .eq 5) ∧ mj_tg 702 5 = some 707 ∧ 705 = 702 + 3 := by decide +kernel
theorem c300_707 : mj_Y.code kY 300 707 = some (.iload 5) ∧ 5 = 5 ∧ 709 = 707 + 2 := by decide +kernel
theorem c300_709 : mj_Y.code kY 300 709 = some (.ifCond .ne 14) ∧ mj_tg 709 14 = some 723 ∧ 712 = 709 + 3 := by decide +kernel
theorem c300_712 : mj_Y.code kY 300 712 = some (.aload_n 3) ∧ ((3 : Fin 4) : Nat) = 3 ∧ 713 = 712 + 1 := by decide +kernel
theorem c300_713 : mj_Y.code kY 300 713 = some (.iconst 0) ∧ Int32.ofInt 0 = 0 ∧ 714 = 713 + 1 := by decide +kernel
theorem c300_714 : mj_Y.code kY 300 714 = some .laload ∧ 715 = 714 + 1 := by decide +kernel
theorem c300_715 : mj_Y.code kY 300 715 = some (.lload 6) ∧ 6 = 6 ∧ 717 = 715 + 2 := by decide +kernel
theorem c300_717 : mj_Y.code kY 300 717 = some .lcmp ∧ 718 = 717 + 1 := by decide +kernel
theorem c300_718 : mj_Y.code kY 300 718 = some (.ifCond .eq 5) ∧ mj_tg 718 5 = some 723 ∧ 721 = 718 + 3 := by decide +kernel
theorem c300_723 : mj_Y.code kY 300 723 = some (.goto 397) ∧ mj_tg 723 397 = some 1120 := by decide +kernel
theorem c300_726 : mj_Y.code kY 300 726 = some (.aload_n 1) ∧ ((1 : Fin 4) : Nat) = 1 ∧ 727 = 726 + 1 := by decide +kernel
theorem c300_727 : mj_Y.code kY 300 727 = some (.aload_n 0) ∧ ((0 : Fin 4) : Nat) = 0 ∧ 728 = 727 + 1 := by decide +kernel
theorem c300_728 : mj_Y.code kY 300 728 = some (.iload 4) ∧ 4 = 4 ∧ 730 = 728 + 2 := by decide +kernel
theorem c300_730 : mj_Y.code kY 300 730 = some (.iconst 1) ∧ Int32.ofInt 1 = 1 ∧ 731 = 730 + 1 := by decide +kernel
theorem c300_731 : mj_Y.code kY 300 731 = some .iadd ∧ 732 = 731 + 1 := by decide +kernel
theorem c300_732 : mj_Y.code kY 300 732 = some .iaload ∧ 733 = 732 + 1 := by decide +kernel
theorem c300_733 : mj_Y.code kY 300 733 = some (.aload_n 0) ∧ ((0 : Fin 4) : Nat) = 0 ∧ 734 = 733 + 1 := by decide +kernel
theorem c300_734 : mj_Y.code kY 300 734 = some (.iload 4) ∧ 4 = 4 ∧ 736 = 734 + 2 := by decide +kernel
theorem c300_736 : mj_Y.code kY 300 736 = some (.iconst 2) ∧ Int32.ofInt 2 = 2 ∧ 737 = 736 + 1 := by decide +kernel
theorem c300_737 : mj_Y.code kY 300 737 = some .iadd ∧ 738 = 737 + 1 := by decide +kernel
theorem c300_738 : mj_Y.code kY 300 738 = some .iaload ∧ 739 = 738 + 1 := by decide +kernel
theorem c300_739 : mj_Y.code kY 300 739 = some (.aload_n 3) ∧ ((3 : Fin 4) : Nat) = 3 ∧ 740 = 739 + 1 := by decide +kernel
theorem c300_740 : mj_Y.code kY 300 740 = some (.invokestatic 120) ∧ mj_Y.pr kY 300 120 = none ∧ mj_Y.cs kY 300 120 = some (189, 4) ∧ mj_Y.nL kY 189 = 5 ∧ 743 = 740 + 3 := by decide +kernel
theorem c300_743 : mj_Y.code kY 300 743 = some (.istore 5) ∧ 5 = 5 ∧ 5 < mj_Y.nL kY 300 ∧ 745 = 743 + 2 := by decide +kernel
theorem c300_745 : mj_Y.code kY 300 745 = some (.aload_n 2) ∧ ((2 : Fin 4) : Nat) = 2 ∧ 746 = 745 + 1 := by decide +kernel
theorem c300_746 : mj_Y.code kY 300 746 = some (.aload_n 0) ∧ ((0 : Fin 4) : Nat) = 0 ∧ 747 = 746 + 1 := by decide +kernel
theorem c300_747 : mj_Y.code kY 300 747 = some (.iload 4) ∧ 4 = 4 ∧ 749 = 747 + 2 := by decide +kernel
theorem c300_749 : mj_Y.code kY 300 749 = some (.iconst 1) ∧ Int32.ofInt 1 = 1 ∧ 750 = 749 + 1 := by decide +kernel
theorem c300_750 : mj_Y.code kY 300 750 = some .iadd ∧ 751 = 750 + 1 := by decide +kernel
theorem c300_751 : mj_Y.code kY 300 751 = some .iaload ∧ 752 = 751 + 1 := by decide +kernel
theorem c300_752 : mj_Y.code kY 300 752 = some (.aload_n 0) ∧ ((0 : Fin 4) : Nat) = 0 ∧ 753 = 752 + 1 := by decide +kernel
theorem c300_753 : mj_Y.code kY 300 753 = some (.iload 4) ∧ 4 = 4 ∧ 755 = 753 + 2 := by decide +kernel
theorem c300_755 : mj_Y.code kY 300 755 = some (.iconst 2) ∧ Int32.ofInt 2 = 2 ∧ 756 = 755 + 1 := by decide +kernel
theorem c300_756 : mj_Y.code kY 300 756 = some .iadd ∧ 757 = 756 + 1 := by decide +kernel
theorem c300_757 : mj_Y.code kY 300 757 = some .iaload ∧ 758 = 757 + 1 := by decide +kernel
theorem c300_758 : mj_Y.code kY 300 758 = some (.invokevirtual 122) ∧ mj_Y.na kY 300 122 = some 2 ∧ mj_Y.cv kY 300 122 12 = some 295 ∧ mj_Y.nL kY 295 = 8 ∧ 761 = 758 + 3 := by decide +kernel
theorem c300_761 : mj_Y.code kY 300 761 = some (.lstore 6) ∧ 6 = 6 ∧ 6 + 1 < mj_Y.nL kY 300 ∧ 763 = 761 + 2 := by decide +kernel
theorem c300_763 : mj_Y.code kY 300 763 = some (.aload_n 2) ∧ ((2 : Fin 4) : Nat) = 2 ∧ 764 = 763 + 1 := by decide +kernel
theorem c300_764 : mj_Y.code kY 300 764 = some (.invokevirtual 87) ∧ mj_Y.na kY 300 87 = some 0 ∧ mj_Y.cv kY 300 87 12 = some 203 ∧ mj_Y.nL kY 203 = 1 ∧ 767 = 764 + 3 := by decide +kernel
theorem c300_767 : mj_Y.code kY 300 767 = some (.iload 5) ∧ 5 = 5 ∧ 769 = 767 + 2 := by decide +kernel
theorem c300_769 : mj_Y.code kY 300 769 = some (.if_icmp .eq 5) ∧ mj_tg 769 5 = some 774 ∧ 772 = 769 + 3 := by decide +kernel
theorem c300_774 : mj_Y.code kY 300 774 = some (.iload 5) ∧ 5 = 5 ∧ 776 = 774 + 2 := by decide +kernel
theorem c300_776 : mj_Y.code kY 300 776 = some (.ifCond .ne 14) ∧ mj_tg 776 14 = some 790 ∧ 779 = 776 + 3 := by decide +kernel
theorem c300_779 : mj_Y.code kY 300 779 = some (.aload_n 3) ∧ ((3 : Fin 4) : Nat) = 3 ∧ 780 = 779 + 1 := by decide +kernel
theorem c300_780 : mj_Y.code kY 300 780 = some (.iconst 0) ∧ Int32.ofInt 0 = 0 ∧ 781 = 780 + 1 := by decide +kernel
theorem c300_781 : mj_Y.code kY 300 781 = some .laload ∧ 782 = 781 + 1 := by decide +kernel
theorem c300_782 : mj_Y.code kY 300 782 = some (.lload 6) ∧ 6 = 6 ∧ 784 = 782 + 2 := by decide +kernel
theorem c300_784 : mj_Y.code kY 300 784 = some .lcmp ∧ 785 = 784 + 1 := by decide +kernel
theorem c300_785 : mj_Y.code kY 300 785 = some (.ifCond .eq 5) ∧ mj_tg 785 5 = some 790 ∧ 788 = 785 + 3 := by decide +kernel
theorem c300_790 : mj_Y.code kY 300 790 = some (.goto 330) ∧ mj_tg 790 330 = some 1120 := by decide +kernel
theorem c300_793 : mj_Y.code kY 300 793 = some (.aload_n 1) ∧ ((1 : Fin 4) : Nat) = 1 ∧ 794 = 793 + 1 := by decide +kernel
theorem c300_794 : mj_Y.code kY 300 794 = some (.aload_n 0) ∧ ((0 : Fin 4) : Nat) = 0 ∧ 795 = 794 + 1 := by decide +kernel
theorem c300_795 : mj_Y.code kY 300 795 = some (.iload 4) ∧ 4 = 4 ∧ 797 = 795 + 2 := by decide +kernel
theorem c300_797 : mj_Y.code kY 300 797 = some (.iconst 1) ∧ Int32.ofInt 1 = 1 ∧ 798 = 797 + 1 := by decide +kernel
theorem c300_798 : mj_Y.code kY 300 798 = some .iadd ∧ 799 = 798 + 1 := by decide +kernel
theorem c300_799 : mj_Y.code kY 300 799 = some .iaload ∧ 800 = 799 + 1 := by decide +kernel
theorem c300_800 : mj_Y.code kY 300 800 = some (.aload_n 0) ∧ ((0 : Fin 4) : Nat) = 0 ∧ 801 = 800 + 1 := by decide +kernel
theorem c300_801 : mj_Y.code kY 300 801 = some (.iload 4) ∧ 4 = 4 ∧ 803 = 801 + 2 := by decide +kernel
theorem c300_803 : mj_Y.code kY 300 803 = some (.iconst 2) ∧ Int32.ofInt 2 = 2 ∧ 804 = 803 + 1 := by decide +kernel
theorem c300_804 : mj_Y.code kY 300 804 = some .iadd ∧ 805 = 804 + 1 := by decide +kernel
theorem c300_805 : mj_Y.code kY 300 805 = some .iaload ∧ 806 = 805 + 1 := by decide +kernel
theorem c300_806 : mj_Y.code kY 300 806 = some (.aload_n 3) ∧ ((3 : Fin 4) : Nat) = 3 ∧ 807 = 806 + 1 := by decide +kernel
theorem c300_807 : mj_Y.code kY 300 807 = some (.invokestatic 123) ∧ mj_Y.pr kY 300 123 = none ∧ mj_Y.cs kY 300 123 = some (192, 4) ∧ mj_Y.nL kY 192 = 5 ∧ 810 = 807 + 3 := by decide +kernel
theorem c300_810 : mj_Y.code kY 300 810 = some (.istore 5) ∧ 5 = 5 ∧ 5 < mj_Y.nL kY 300 ∧ 812 = 810 + 2 := by decide +kernel
theorem c300_812 : mj_Y.code kY 300 812 = some (.aload_n 2) ∧ ((2 : Fin 4) : Nat) = 2 ∧ 813 = 812 + 1 := by decide +kernel
theorem c300_813 : mj_Y.code kY 300 813 = some (.aload_n 0) ∧ ((0 : Fin 4) : Nat) = 0 ∧ 814 = 813 + 1 := by decide +kernel
theorem c300_814 : mj_Y.code kY 300 814 = some (.iload 4) ∧ 4 = 4 ∧ 816 = 814 + 2 := by decide +kernel
theorem c300_816 : mj_Y.code kY 300 816 = some (.iconst 1) ∧ Int32.ofInt 1 = 1 ∧ 817 = 816 + 1 := by decide +kernel
theorem c300_817 : mj_Y.code kY 300 817 = some .iadd ∧ 818 = 817 + 1 := by decide +kernel
theorem c300_818 : mj_Y.code kY 300 818 = some .iaload ∧ 819 = 818 + 1 := by decide +kernel
theorem c300_819 : mj_Y.code kY 300 819 = some (.aload_n 0) ∧ ((0 : Fin 4) : Nat) = 0 ∧ 820 = 819 + 1 := by decide +kernel
theorem c300_820 : mj_Y.code kY 300 820 = some (.iload 4) ∧ 4 = 4 ∧ 822 = 820 + 2 := by decide +kernel
theorem c300_822 : mj_Y.code kY 300 822 = some (.iconst 2) ∧ Int32.ofInt 2 = 2 ∧ 823 = 822 + 1 := by decide +kernel
theorem c300_823 : mj_Y.code kY 300 823 = some .iadd ∧ 824 = 823 + 1 := by decide +kernel
theorem c300_824 : mj_Y.code kY 300 824 = some .iaload ∧ 825 = 824 + 1 := by decide +kernel
theorem c300_825 : mj_Y.code kY 300 825 = some (.invokevirtual 125) ∧ mj_Y.na kY 300 125 = some 2 ∧ mj_Y.cv kY 300 125 12 = some 296 ∧ mj_Y.nL kY 296 = 11 ∧ 828 = 825 + 3 := by decide +kernel
theorem c300_828 : mj_Y.code kY 300 828 = some (.istore 6) ∧ 6 = 6 ∧ 6 < mj_Y.nL kY 300 ∧ 830 = 828 + 2 := by decide +kernel
theorem c300_830 : mj_Y.code kY 300 830 = some (.aload_n 2) ∧ ((2 : Fin 4) : Nat) = 2 ∧ 831 = 830 + 1 := by decide +kernel
theorem c300_831 : mj_Y.code kY 300 831 = some (.invokevirtual 87) ∧ mj_Y.na kY 300 87 = some 0 ∧ mj_Y.cv kY 300 87 12 = some 203 ∧ mj_Y.nL kY 203 = 1 ∧ 834 = 831 + 3 := by decide +kernel
theorem c300_834 : mj_Y.code kY 300 834 = some (.iload 5) ∧ 5 = 5 ∧ 836 = 834 + 2 := by decide +kernel
theorem c300_836 : mj_Y.code kY 300 836 = some (.if_icmp .eq 5) ∧ mj_tg 836 5 = some 841 ∧ 839 = 836 + 3 := by decide +kernel
theorem c300_841 : mj_Y.code kY 300 841 = some (.iload 5) ∧ 5 = 5 ∧ 843 = 841 + 2 := by decide +kernel
theorem c300_843 : mj_Y.code kY 300 843 = some (.ifCond .ne 15) ∧ mj_tg 843 15 = some 858 ∧ 846 = 843 + 3 := by decide +kernel
theorem c300_846 : mj_Y.code kY 300 846 = some (.aload_n 3) ∧ ((3 : Fin 4) : Nat) = 3 ∧ 847 = 846 + 1 := by decide +kernel
theorem c300_847 : mj_Y.code kY 300 847 = some (.iconst 0) ∧ Int32.ofInt 0 = 0 ∧ 848 = 847 + 1 := by decide +kernel
theorem c300_848 : mj_Y.code kY 300 848 = some .laload ∧ 849 = 848 + 1 := by decide +kernel
theorem c300_849 : mj_Y.code kY 300 849 = some (.iload 6) ∧ 6 = 6 ∧ 851 = 849 + 2 := by decide +kernel
theorem c300_851 : mj_Y.code kY 300 851 = some .i2l ∧ 852 = 851 + 1 := by decide +kernel
theorem c300_852 : mj_Y.code kY 300 852 = some .lcmp ∧ 853 = 852 + 1 := by decide +kernel
theorem c300_853 : mj_Y.code kY 300 853 = some (.ifCond .eq 5) ∧ mj_tg 853 5 = some 858 ∧ 856 = 853 + 3 := by decide +kernel
theorem c300_858 : mj_Y.code kY 300 858 = some (.goto 262) ∧ mj_tg 858 262 = some 1120 := by decide +kernel
theorem c300_861 : mj_Y.code kY 300 861 = some (.aload_n 1) ∧ ((1 : Fin 4) : Nat) = 1 ∧ 862 = 861 + 1 := by decide +kernel
theorem c300_862 : mj_Y.code kY 300 862 = some (.aload_n 0) ∧ ((0 : Fin 4) : Nat) = 0 ∧ 863 = 862 + 1 := by decide +kernel
theorem c300_863 : mj_Y.code kY 300 863 = some (.iload 4) ∧ 4 = 4 ∧ 865 = 863 + 2 := by decide +kernel
theorem c300_865 : mj_Y.code kY 300 865 = some (.iconst 1) ∧ Int32.ofInt 1 = 1 ∧ 866 = 865 + 1 := by decide +kernel
theorem c300_866 : mj_Y.code kY 300 866 = some .iadd ∧ 867 = 866 + 1 := by decide +kernel
theorem c300_867 : mj_Y.code kY 300 867 = some .iaload ∧ 868 = 867 + 1 := by decide +kernel
theorem c300_868 : mj_Y.code kY 300 868 = some (.aload_n 0) ∧ ((0 : Fin 4) : Nat) = 0 ∧ 869 = 868 + 1 := by decide +kernel
theorem c300_869 : mj_Y.code kY 300 869 = some (.iload 4) ∧ 4 = 4 ∧ 871 = 869 + 2 := by decide +kernel
theorem c300_871 : mj_Y.code kY 300 871 = some (.iconst 2) ∧ Int32.ofInt 2 = 2 ∧ 872 = 871 + 1 := by decide +kernel
theorem c300_872 : mj_Y.code kY 300 872 = some .iadd ∧ 873 = 872 + 1 := by decide +kernel
theorem c300_873 : mj_Y.code kY 300 873 = some .iaload ∧ 874 = 873 + 1 := by decide +kernel
theorem c300_874 : mj_Y.code kY 300 874 = some (.aload_n 0) ∧ ((0 : Fin 4) : Nat) = 0 ∧ 875 = 874 + 1 := by decide +kernel
theorem c300_875 : mj_Y.code kY 300 875 = some (.iload 4) ∧ 4 = 4 ∧ 877 = 875 + 2 := by decide +kernel
theorem c300_877 : mj_Y.code kY 300 877 = some (.iconst 3) ∧ Int32.ofInt 3 = 3 ∧ 878 = 877 + 1 := by decide +kernel
theorem c300_878 : mj_Y.code kY 300 878 = some .iadd ∧ 879 = 878 + 1 := by decide +kernel
theorem c300_879 : mj_Y.code kY 300 879 = some .iaload ∧ 880 = 879 + 1 := by decide +kernel
theorem c300_880 : mj_Y.code kY 300 880 = some (.aload_n 3) ∧ ((3 : Fin 4) : Nat) = 3 ∧ 881 = 880 + 1 := by decide +kernel
theorem c300_881 : mj_Y.code kY 300 881 = some (.invokestatic 126) ∧ mj_Y.pr kY 300 126 = none ∧ mj_Y.cs kY 300 126 = some (195, 5) ∧ mj_Y.nL kY 195 = 6 ∧ 884 = 881 + 3 := by decide +kernel
theorem c300_884 : mj_Y.code kY 300 884 = some (.istore 5) ∧ 5 = 5 ∧ 5 < mj_Y.nL kY 300 ∧ 886 = 884 + 2 := by decide +kernel
theorem c300_886 : mj_Y.code kY 300 886 = some (.aload_n 2) ∧ ((2 : Fin 4) : Nat) = 2 ∧ 887 = 886 + 1 := by decide +kernel
theorem c300_887 : mj_Y.code kY 300 887 = some (.aload_n 0) ∧ ((0 : Fin 4) : Nat) = 0 ∧ 888 = 887 + 1 := by decide +kernel
theorem c300_888 : mj_Y.code kY 300 888 = some (.iload 4) ∧ 4 = 4 ∧ 890 = 888 + 2 := by decide +kernel
theorem c300_890 : mj_Y.code kY 300 890 = some (.iconst 1) ∧ Int32.ofInt 1 = 1 ∧ 891 = 890 + 1 := by decide +kernel
theorem c300_891 : mj_Y.code kY 300 891 = some .iadd ∧ 892 = 891 + 1 := by decide +kernel
theorem c300_892 : mj_Y.code kY 300 892 = some .iaload ∧ 893 = 892 + 1 := by decide +kernel
theorem c300_893 : mj_Y.code kY 300 893 = some (.aload_n 0) ∧ ((0 : Fin 4) : Nat) = 0 ∧ 894 = 893 + 1 := by decide +kernel
theorem c300_894 : mj_Y.code kY 300 894 = some (.iload 4) ∧ 4 = 4 ∧ 896 = 894 + 2 := by decide +kernel
theorem c300_896 : mj_Y.code kY 300 896 = some (.iconst 2) ∧ Int32.ofInt 2 = 2 ∧ 897 = 896 + 1 := by decide +kernel
theorem c300_897 : mj_Y.code kY 300 897 = some .iadd ∧ 898 = 897 + 1 := by decide +kernel
theorem c300_898 : mj_Y.code kY 300 898 = some .iaload ∧ 899 = 898 + 1 := by decide +kernel
theorem c300_899 : mj_Y.code kY 300 899 = some (.aload_n 0) ∧ ((0 : Fin 4) : Nat) = 0 ∧ 900 = 899 + 1 := by decide +kernel
theorem c300_900 : mj_Y.code kY 300 900 = some (.iload 4) ∧ 4 = 4 ∧ 902 = 900 + 2 := by decide +kernel
theorem c300_902 : mj_Y.code kY 300 902 = some (.iconst 3) ∧ Int32.ofInt 3 = 3 ∧ 903 = 902 + 1 := by decide +kernel
theorem c300_903 : mj_Y.code kY 300 903 = some .iadd ∧ 904 = 903 + 1 := by decide +kernel
theorem c300_904 : mj_Y.code kY 300 904 = some .iaload ∧ 905 = 904 + 1 := by decide +kernel
theorem c300_905 : mj_Y.code kY 300 905 = some (.invokevirtual 129) ∧ mj_Y.na kY 300 129 = some 3 ∧ mj_Y.cv kY 300 129 12 = some 297 ∧ mj_Y.nL kY 297 = 7 ∧ 908 = 905 + 3 := by decide +kernel
theorem c300_908 : mj_Y.code kY 300 908 = some (.istore 6) ∧ 6 = 6 ∧ 6 < mj_Y.nL kY 300 ∧ 910 = 908 + 2 := by decide +kernel
theorem c300_910 : mj_Y.code kY 300 910 = some (.aload_n 2) ∧ ((2 : Fin 4) : Nat) = 2 ∧ 911 = 910 + 1 := by decide +kernel
theorem c300_911 : mj_Y.code kY 300 911 = some (.invokevirtual 87) ∧ mj_Y.na kY 300 87 = some 0 ∧ mj_Y.cv kY 300 87 12 = some 203 ∧ mj_Y.nL kY 203 = 1 ∧ 914 = 911 + 3 := by decide +kernel
theorem c300_914 : mj_Y.code kY 300 914 = some (.iload 5) ∧ 5 = 5 ∧ 916 = 914 + 2 := by decide +kernel
theorem c300_916 : mj_Y.code kY 300 916 = some (.if_icmp .eq 5) ∧ mj_tg 916 5 = some 921 ∧ 919 = 916 + 3 := by decide +kernel
theorem c300_921 : mj_Y.code kY 300 921 = some (.iload 5) ∧ 5 = 5 ∧ 923 = 921 + 2 := by decide +kernel
theorem c300_923 : mj_Y.code kY 300 923 = some (.ifCond .ne 15) ∧ mj_tg 923 15 = some 938 ∧ 926 = 923 + 3 := by decide +kernel
theorem c300_926 : mj_Y.code kY 300 926 = some (.aload_n 3) ∧ ((3 : Fin 4) : Nat) = 3 ∧ 927 = 926 + 1 := by decide +kernel
theorem c300_927 : mj_Y.code kY 300 927 = some (.iconst 0) ∧ Int32.ofInt 0 = 0 ∧ 928 = 927 + 1 := by decide +kernel
theorem c300_928 : mj_Y.code kY 300 928 = some .laload ∧ 929 = 928 + 1 := by decide +kernel
theorem c300_929 : mj_Y.code kY 300 929 = some (.iload 6) ∧ 6 = 6 ∧ 931 = 929 + 2 := by decide +kernel
theorem c300_931 : mj_Y.code kY 300 931 = some .i2l ∧ 932 = 931 + 1 := by decide +kernel
theorem c300_932 : mj_Y.code kY 300 932 = some .lcmp ∧ 933 = 932 + 1 := by decide +kernel
theorem c300_933 : mj_Y.code kY 300 933 = some (.ifCond .eq 5) ∧ mj_tg 933 5 = some 938 ∧ 936 = 933 + 3 := by decide +kernel
theorem c300_938 : mj_Y.code kY 300 938 = some (.goto 182) ∧ mj_tg 938 182 = some 1120 := by decide +kernel
theorem c300_941 : mj_Y.code kY 300 941 = some (.aload_n 1) ∧ ((1 : Fin 4) : Nat) = 1 ∧ 942 = 941 + 1 := by decide +kernel
theorem c300_942 : mj_Y.code kY 300 942 = some (.aload_n 0) ∧ ((0 : Fin 4) : Nat) = 0 ∧ 943 = 942 + 1 := by decide +kernel
theorem c300_943 : mj_Y.code kY 300 943 = some (.iload 4) ∧ 4 = 4 ∧ 945 = 943 + 2 := by decide +kernel
theorem c300_945 : mj_Y.code kY 300 945 = some (.iconst 1) ∧ Int32.ofInt 1 = 1 ∧ 946 = 945 + 1 := by decide +kernel
theorem c300_946 : mj_Y.code kY 300 946 = some .iadd ∧ 947 = 946 + 1 := by decide +kernel
theorem c300_947 : mj_Y.code kY 300 947 = some .iaload ∧ 948 = 947 + 1 := by decide +kernel
theorem c300_948 : mj_Y.code kY 300 948 = some (.aload_n 0) ∧ ((0 : Fin 4) : Nat) = 0 ∧ 949 = 948 + 1 := by decide +kernel
theorem c300_949 : mj_Y.code kY 300 949 = some (.iload 4) ∧ 4 = 4 ∧ 951 = 949 + 2 := by decide +kernel
theorem c300_951 : mj_Y.code kY 300 951 = some (.iconst 2) ∧ Int32.ofInt 2 = 2 ∧ 952 = 951 + 1 := by decide +kernel
theorem c300_952 : mj_Y.code kY 300 952 = some .iadd ∧ 953 = 952 + 1 := by decide +kernel
theorem c300_953 : mj_Y.code kY 300 953 = some .iaload ∧ 954 = 953 + 1 := by decide +kernel
theorem c300_954 : mj_Y.code kY 300 954 = some .i2l ∧ 955 = 954 + 1 := by decide +kernel
theorem c300_955 : mj_Y.code kY 300 955 = some (.bipush 32) ∧ (Int8.ofInt 32).toInt32 = 32 ∧ 957 = 955 + 2 := by decide +kernel
theorem c300_957 : mj_Y.code kY 300 957 = some .lshl ∧ 958 = 957 + 1 := by decide +kernel
theorem c300_958 : mj_Y.code kY 300 958 = some (.aload_n 0) ∧ ((0 : Fin 4) : Nat) = 0 ∧ 959 = 958 + 1 := by decide +kernel
theorem c300_959 : mj_Y.code kY 300 959 = some (.iload 4) ∧ 4 = 4 ∧ 961 = 959 + 2 := by decide +kernel
theorem c300_961 : mj_Y.code kY 300 961 = some (.iconst 3) ∧ Int32.ofInt 3 = 3 ∧ 962 = 961 + 1 := by decide +kernel
theorem c300_962 : mj_Y.code kY 300 962 = some .iadd ∧ 963 = 962 + 1 := by decide +kernel
theorem c300_963 : mj_Y.code kY 300 963 = some .iaload ∧ 964 = 963 + 1 := by decide +kernel
theorem c300_964 : mj_Y.code kY 300 964 = some .i2l ∧ 965 = 964 + 1 := by decide +kernel
theorem c300_965 : mj_Y.code kY 300 965 = some (.ldc2_w 65) ∧ mj_Y.ck kY 300 65 = some (.long 4294967295) ∧ 968 = 965 + 3 := by decide +kernel
theorem c300_968 : mj_Y.code kY 300 968 = some .land ∧ 969 = 968 + 1 := by decide +kernel
theorem c300_969 : mj_Y.code kY 300 969 = some .lor ∧ 970 = 969 + 1 := by decide +kernel
theorem c300_970 : mj_Y.code kY 300 970 = some (.aload_n 3) ∧ ((3 : Fin 4) : Nat) = 3 ∧ 971 = 970 + 1 := by decide +kernel
theorem c300_971 : mj_Y.code kY 300 971 = some (.invokestatic 130) ∧ mj_Y.pr kY 300 130 = none ∧ mj_Y.cs kY 300 130 = some (197, 4) ∧ mj_Y.nL kY 197 = 6 ∧ 974 = 971 + 3 := by decide +kernel
theorem c300_974 : mj_Y.code kY 300 974 = some (.istore 5) ∧ 5 = 5 ∧ 5 < mj_Y.nL kY 300 ∧ 976 = 974 + 2 := by decide +kernel
theorem c300_976 : mj_Y.code kY 300 976 = some (.aload_n 2) ∧ ((2 : Fin 4) : Nat) = 2 ∧ 977 = 976 + 1 := by decide +kernel
theorem c300_977 : mj_Y.code kY 300 977 = some (.aload_n 0) ∧ ((0 : Fin 4) : Nat) = 0 ∧ 978 = 977 + 1 := by decide +kernel
theorem c300_978 : mj_Y.code kY 300 978 = some (.iload 4) ∧ 4 = 4 ∧ 980 = 978 + 2 := by decide +kernel
theorem c300_980 : mj_Y.code kY 300 980 = some (.iconst 1) ∧ Int32.ofInt 1 = 1 ∧ 981 = 980 + 1 := by decide +kernel
theorem c300_981 : mj_Y.code kY 300 981 = some .iadd ∧ 982 = 981 + 1 := by decide +kernel
theorem c300_982 : mj_Y.code kY 300 982 = some .iaload ∧ 983 = 982 + 1 := by decide +kernel
theorem c300_983 : mj_Y.code kY 300 983 = some (.aload_n 0) ∧ ((0 : Fin 4) : Nat) = 0 ∧ 984 = 983 + 1 := by decide +kernel
theorem c300_984 : mj_Y.code kY 300 984 = some (.iload 4) ∧ 4 = 4 ∧ 986 = 984 + 2 := by decide +kernel
theorem c300_986 : mj_Y.code kY 300 986 = some (.iconst 2) ∧ Int32.ofInt 2 = 2 ∧ 987 = 986 + 1 := by decide +kernel
theorem c300_987 : mj_Y.code kY 300 987 = some .iadd ∧ 988 = 987 + 1 := by decide +kernel
theorem c300_988 : mj_Y.code kY 300 988 = some .iaload ∧ 989 = 988 + 1 := by decide +kernel
theorem c300_989 : mj_Y.code kY 300 989 = some .i2l ∧ 990 = 989 + 1 := by decide +kernel
theorem c300_990 : mj_Y.code kY 300 990 = some (.bipush 32) ∧ (Int8.ofInt 32).toInt32 = 32 ∧ 992 = 990 + 2 := by decide +kernel
theorem c300_992 : mj_Y.code kY 300 992 = some .lshl ∧ 993 = 992 + 1 := by decide +kernel
theorem c300_993 : mj_Y.code kY 300 993 = some (.aload_n 0) ∧ ((0 : Fin 4) : Nat) = 0 ∧ 994 = 993 + 1 := by decide +kernel
theorem c300_994 : mj_Y.code kY 300 994 = some (.iload 4) ∧ 4 = 4 ∧ 996 = 994 + 2 := by decide +kernel
theorem c300_996 : mj_Y.code kY 300 996 = some (.iconst 3) ∧ Int32.ofInt 3 = 3 ∧ 997 = 996 + 1 := by decide +kernel
theorem c300_997 : mj_Y.code kY 300 997 = some .iadd ∧ 998 = 997 + 1 := by decide +kernel
theorem c300_998 : mj_Y.code kY 300 998 = some .iaload ∧ 999 = 998 + 1 := by decide +kernel
theorem c300_999 : mj_Y.code kY 300 999 = some .i2l ∧ 1000 = 999 + 1 := by decide +kernel
theorem c300_1000 : mj_Y.code kY 300 1000 = some (.ldc2_w 65) ∧ mj_Y.ck kY 300 65 = some (.long 4294967295) ∧ 1003 = 1000 + 3 := by decide +kernel
theorem c300_1003 : mj_Y.code kY 300 1003 = some .land ∧ 1004 = 1003 + 1 := by decide +kernel
theorem c300_1004 : mj_Y.code kY 300 1004 = some .lor ∧ 1005 = 1004 + 1 := by decide +kernel
theorem c300_1005 : mj_Y.code kY 300 1005 = some (.invokevirtual 133) ∧ mj_Y.na kY 300 133 = some 2 ∧ mj_Y.cv kY 300 133 12 = some 298 ∧ mj_Y.nL kY 298 = 7 ∧ 1008 = 1005 + 3 := by decide +kernel
theorem c300_1008 : mj_Y.code kY 300 1008 = some (.istore 6) ∧ 6 = 6 ∧ 6 < mj_Y.nL kY 300 ∧ 1010 = 1008 + 2 := by decide +kernel
theorem c300_1010 : mj_Y.code kY 300 1010 = some (.aload_n 2) ∧ ((2 : Fin 4) : Nat) = 2 ∧ 1011 = 1010 + 1 := by decide +kernel
theorem c300_1011 : mj_Y.code kY 300 1011 = some (.invokevirtual 87) ∧ mj_Y.na kY 300 87 = some 0 ∧ mj_Y.cv kY 300 87 12 = some 203 ∧ mj_Y.nL kY 203 = 1 ∧ 1014 = 1011 + 3 := by decide +kernel
theorem c300_1014 : mj_Y.code kY 300 1014 = some (.iload 5) ∧ 5 = 5 ∧ 1016 = 1014 + 2 := by decide +kernel
theorem c300_1016 : mj_Y.code kY 300 1016 = some (.if_icmp .eq 5) ∧ mj_tg 1016 5 = some 1021 ∧ 1019 = 1016 + 3 := by decide +kernel
theorem c300_1021 : mj_Y.code kY 300 1021 = some (.iload 5) ∧ 5 = 5 ∧ 1023 = 1021 + 2 := by decide +kernel
theorem c300_1023 : mj_Y.code kY 300 1023 = some (.ifCond .ne 15) ∧ mj_tg 1023 15 = some 1038 ∧ 1026 = 1023 + 3 := by decide +kernel
theorem c300_1026 : mj_Y.code kY 300 1026 = some (.aload_n 3) ∧ ((3 : Fin 4) : Nat) = 3 ∧ 1027 = 1026 + 1 := by decide +kernel
theorem c300_1027 : mj_Y.code kY 300 1027 = some (.iconst 0) ∧ Int32.ofInt 0 = 0 ∧ 1028 = 1027 + 1 := by decide +kernel
theorem c300_1028 : mj_Y.code kY 300 1028 = some .laload ∧ 1029 = 1028 + 1 := by decide +kernel
theorem c300_1029 : mj_Y.code kY 300 1029 = some (.iload 6) ∧ 6 = 6 ∧ 1031 = 1029 + 2 := by decide +kernel
theorem c300_1031 : mj_Y.code kY 300 1031 = some .i2l ∧ 1032 = 1031 + 1 := by decide +kernel
theorem c300_1032 : mj_Y.code kY 300 1032 = some .lcmp ∧ 1033 = 1032 + 1 := by decide +kernel
theorem c300_1033 : mj_Y.code kY 300 1033 = some (.ifCond .eq 5) ∧ mj_tg 1033 5 = some 1038 ∧ 1036 = 1033 + 3 := by decide +kernel
theorem c300_1038 : mj_Y.code kY 300 1038 = some (.goto 82) ∧ mj_tg 1038 82 = some 1120 := by decide +kernel
theorem c300_1041 : mj_Y.code kY 300 1041 = some (.aload_n 1) ∧ ((1 : Fin 4) : Nat) = 1 ∧ 1042 = 1041 + 1 := by decide +kernel
theorem c300_1042 : mj_Y.code kY 300 1042 = some (.aload_n 0) ∧ ((0 : Fin 4) : Nat) = 0 ∧ 1043 = 1042 + 1 := by decide +kernel
theorem c300_1043 : mj_Y.code kY 300 1043 = some (.iload 4) ∧ 4 = 4 ∧ 1045 = 1043 + 2 := by decide +kernel
theorem c300_1045 : mj_Y.code kY 300 1045 = some (.iconst 1) ∧ Int32.ofInt 1 = 1 ∧ 1046 = 1045 + 1 := by decide +kernel
theorem c300_1046 : mj_Y.code kY 300 1046 = some .iadd ∧ 1047 = 1046 + 1 := by decide +kernel
theorem c300_1047 : mj_Y.code kY 300 1047 = some .iaload ∧ 1048 = 1047 + 1 := by decide +kernel
theorem c300_1048 : mj_Y.code kY 300 1048 = some (.aload_n 0) ∧ ((0 : Fin 4) : Nat) = 0 ∧ 1049 = 1048 + 1 := by decide +kernel
theorem c300_1049 : mj_Y.code kY 300 1049 = some (.iload 4) ∧ 4 = 4 ∧ 1051 = 1049 + 2 := by decide +kernel
theorem c300_1051 : mj_Y.code kY 300 1051 = some (.iconst 2) ∧ Int32.ofInt 2 = 2 ∧ 1052 = 1051 + 1 := by decide +kernel
theorem c300_1052 : mj_Y.code kY 300 1052 = some .iadd ∧ 1053 = 1052 + 1 := by decide +kernel
theorem c300_1053 : mj_Y.code kY 300 1053 = some .iaload ∧ 1054 = 1053 + 1 := by decide +kernel
theorem c300_1054 : mj_Y.code kY 300 1054 = some (.aload_n 0) ∧ ((0 : Fin 4) : Nat) = 0 ∧ 1055 = 1054 + 1 := by decide +kernel
theorem c300_1055 : mj_Y.code kY 300 1055 = some (.iload 4) ∧ 4 = 4 ∧ 1057 = 1055 + 2 := by decide +kernel
theorem c300_1057 : mj_Y.code kY 300 1057 = some (.iconst 3) ∧ Int32.ofInt 3 = 3 ∧ 1058 = 1057 + 1 := by decide +kernel
theorem c300_1058 : mj_Y.code kY 300 1058 = some .iadd ∧ 1059 = 1058 + 1 := by decide +kernel
theorem c300_1059 : mj_Y.code kY 300 1059 = some .iaload ∧ 1060 = 1059 + 1 := by decide +kernel
theorem c300_1060 : mj_Y.code kY 300 1060 = some (.aload_n 3) ∧ ((3 : Fin 4) : Nat) = 3 ∧ 1061 = 1060 + 1 := by decide +kernel
theorem c300_1061 : mj_Y.code kY 300 1061 = some (.invokestatic 134) ∧ mj_Y.pr kY 300 134 = none ∧ mj_Y.cs kY 300 134 = some (199, 5) ∧ mj_Y.nL kY 199 = 6 ∧ 1064 = 1061 + 3 := by decide +kernel
theorem c300_1064 : mj_Y.code kY 300 1064 = some (.istore 5) ∧ 5 = 5 ∧ 5 < mj_Y.nL kY 300 ∧ 1066 = 1064 + 2 := by decide +kernel
theorem c300_1066 : mj_Y.code kY 300 1066 = some (.aload_n 2) ∧ ((2 : Fin 4) : Nat) = 2 ∧ 1067 = 1066 + 1 := by decide +kernel
theorem c300_1067 : mj_Y.code kY 300 1067 = some (.aload_n 0) ∧ ((0 : Fin 4) : Nat) = 0 ∧ 1068 = 1067 + 1 := by decide +kernel
theorem c300_1068 : mj_Y.code kY 300 1068 = some (.iload 4) ∧ 4 = 4 ∧ 1070 = 1068 + 2 := by decide +kernel
theorem c300_1070 : mj_Y.code kY 300 1070 = some (.iconst 1) ∧ Int32.ofInt 1 = 1 ∧ 1071 = 1070 + 1 := by decide +kernel
theorem c300_1071 : mj_Y.code kY 300 1071 = some .iadd ∧ 1072 = 1071 + 1 := by decide +kernel
theorem c300_1072 : mj_Y.code kY 300 1072 = some .iaload ∧ 1073 = 1072 + 1 := by decide +kernel
theorem c300_1073 : mj_Y.code kY 300 1073 = some (.aload_n 0) ∧ ((0 : Fin 4) : Nat) = 0 ∧ 1074 = 1073 + 1 := by decide +kernel
theorem c300_1074 : mj_Y.code kY 300 1074 = some (.iload 4) ∧ 4 = 4 ∧ 1076 = 1074 + 2 := by decide +kernel
theorem c300_1076 : mj_Y.code kY 300 1076 = some (.iconst 2) ∧ Int32.ofInt 2 = 2 ∧ 1077 = 1076 + 1 := by decide +kernel
theorem c300_1077 : mj_Y.code kY 300 1077 = some .iadd ∧ 1078 = 1077 + 1 := by decide +kernel
theorem c300_1078 : mj_Y.code kY 300 1078 = some .iaload ∧ 1079 = 1078 + 1 := by decide +kernel
theorem c300_1079 : mj_Y.code kY 300 1079 = some (.aload_n 0) ∧ ((0 : Fin 4) : Nat) = 0 ∧ 1080 = 1079 + 1 := by decide +kernel
theorem c300_1080 : mj_Y.code kY 300 1080 = some (.iload 4) ∧ 4 = 4 ∧ 1082 = 1080 + 2 := by decide +kernel
theorem c300_1082 : mj_Y.code kY 300 1082 = some (.iconst 3) ∧ Int32.ofInt 3 = 3 ∧ 1083 = 1082 + 1 := by decide +kernel
theorem c300_1083 : mj_Y.code kY 300 1083 = some .iadd ∧ 1084 = 1083 + 1 := by decide +kernel
theorem c300_1084 : mj_Y.code kY 300 1084 = some .iaload ∧ 1085 = 1084 + 1 := by decide +kernel
theorem c300_1085 : mj_Y.code kY 300 1085 = some (.invokevirtual 136) ∧ mj_Y.na kY 300 136 = some 3 ∧ mj_Y.cv kY 300 136 12 = some 299 ∧ mj_Y.nL kY 299 = 9 ∧ 1088 = 1085 + 3 := by decide +kernel
theorem c300_1088 : mj_Y.code kY 300 1088 = some (.lstore 6) ∧ 6 = 6 ∧ 6 + 1 < mj_Y.nL kY 300 ∧ 1090 = 1088 + 2 := by decide +kernel
theorem c300_1090 : mj_Y.code kY 300 1090 = some (.aload_n 2) ∧ ((2 : Fin 4) : Nat) = 2 ∧ 1091 = 1090 + 1 := by decide +kernel
theorem c300_1091 : mj_Y.code kY 300 1091 = some (.invokevirtual 87) ∧ mj_Y.na kY 300 87 = some 0 ∧ mj_Y.cv kY 300 87 12 = some 203 ∧ mj_Y.nL kY 203 = 1 ∧ 1094 = 1091 + 3 := by decide +kernel
theorem c300_1094 : mj_Y.code kY 300 1094 = some (.iload 5) ∧ 5 = 5 ∧ 1096 = 1094 + 2 := by decide +kernel
theorem c300_1096 : mj_Y.code kY 300 1096 = some (.if_icmp .eq 5) ∧ mj_tg 1096 5 = some 1101 ∧ 1099 = 1096 + 3 := by decide +kernel
theorem c300_1101 : mj_Y.code kY 300 1101 = some (.iload 5) ∧ 5 = 5 ∧ 1103 = 1101 + 2 := by decide +kernel
theorem c300_1103 : mj_Y.code kY 300 1103 = some (.ifCond .ne 14) ∧ mj_tg 1103 14 = some 1117 ∧ 1106 = 1103 + 3 := by decide +kernel
theorem c300_1106 : mj_Y.code kY 300 1106 = some (.aload_n 3) ∧ ((3 : Fin 4) : Nat) = 3 ∧ 1107 = 1106 + 1 := by decide +kernel
theorem c300_1107 : mj_Y.code kY 300 1107 = some (.iconst 0) ∧ Int32.ofInt 0 = 0 ∧ 1108 = 1107 + 1 := by decide +kernel
theorem c300_1108 : mj_Y.code kY 300 1108 = some .laload ∧ 1109 = 1108 + 1 := by decide +kernel
theorem c300_1109 : mj_Y.code kY 300 1109 = some (.lload 6) ∧ 6 = 6 ∧ 1111 = 1109 + 2 := by decide +kernel
theorem c300_1111 : mj_Y.code kY 300 1111 = some .lcmp ∧ 1112 = 1111 + 1 := by decide +kernel
theorem c300_1112 : mj_Y.code kY 300 1112 = some (.ifCond .eq 5) ∧ mj_tg 1112 5 = some 1117 ∧ 1115 = 1112 + 3 := by decide +kernel
theorem c300_1117 : mj_Y.code kY 300 1117 = some (.goto 3) ∧ mj_tg 1117 3 = some 1120 := by decide +kernel
theorem c300_1120 : mj_Y.code kY 300 1120 = some (.iinc 4 4) ∧ 4 < mj_Y.nL kY 300 ∧ Int32.ofInt 4 = 4 ∧ 1123 = 1120 + 3 := by decide +kernel
theorem c300_1123 : mj_Y.code kY 300 1123 = some (.goto (-1100)) ∧ mj_tg 1123 (-1100) = some 23 := by decide +kernel
theorem c300_1126 : mj_Y.code kY 300 1126 = some (.iconst 1) ∧ Int32.ofInt 1 = 1 ∧ 1127 = 1126 + 1 := by decide +kernel
theorem c300_1127 : mj_Y.code kY 300 1127 = some .ireturn ∧ mj_Y.rt kY 300 = some .boolean := by decide +kernel
