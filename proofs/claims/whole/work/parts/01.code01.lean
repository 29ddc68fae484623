/-- DiceOdds.place()I -/
def kd_75 : List (Nat × Instr) := [(0, .aload_n 0), (1, .getfield 25), (4, .getfield 73), (7, .ireturn)]
theorem dk_75 : mj_dk prog_1_method_6_code kd_75 = true := by decide +kernel
/-- DiceOdds.states()I -/
def kd_76 : List (Nat × Instr) := [(0, .aload_n 0), (1, .getfield 32), (4, .getfield 109), (7, .ireturn)]
theorem dk_76 : mj_dk prog_1_method_9_code kd_76 = true := by decide +kernel
/-- DiceOddsLaw.read(LDiceOdds;I[J)I -/
def kd_77 : List (Nat × Instr) := [(0, .aload_n 2), (1, .iconst 0), (2, .aload_n 0), (3, .iload_n 1), (4, .invokevirtual 7), (7, .i2l), (8, .lastore), (9, .goto 6), (12, .astore_n 3), (13, .iconst 1), (14, .ireturn), (15, .iconst 0), (16, .ireturn)]
theorem dk_77 : mj_dk method_3_code kd_77 = true := by decide +kernel
/-- DiceOdds.read(I)I -/
def kd_78 : List (Nat × Instr) := [(0, .aload_n 0), (1, .iload_n 1), (2, .invokevirtual 57), (5, .astore_n 2), (6, .aload_n 0), (7, .getfield 25), (10, .aload_n 0), (11, .getfield 12), (14, .invokevirtual 61), (17, .astore_n 3), (18, .aload_n 2), (19, .aload_n 3), (20, .invokevirtual 65), (23, .aload_n 0), (24, .getfield 12), (27, .iconst 0), (28, .invokevirtual 49), (31, .aload_n 0), (32, .getfield 25), (35, .getfield 69), (38, .ireturn)]
theorem dk_78 : mj_dk prog_1_method_5_code kd_78 = true := by decide +kernel
/-- DiceOdds.slotAt(I)LDiceOdds$Slot; -/
def kd_79 : List (Nat × Instr) := [(0, .iload_n 1), (1, .invokestatic 156), (4, .ifCond .ne 13), (7, .new 166), (10, .dup), (11, .ldc 171), (13, .invokespecial 170), (16, .athrow), (17, .aload_n 0), (18, .getfield 18), (21, .iload_n 1), (22, .aaload), (23, .areturn)]
theorem dk_79 : mj_dk prog_1_method_22_code kd_79 = true := by decide +kernel
/-- DiceOdds.isSlot(I)Z -/
def kd_80 : List (Nat × Instr) := [(0, .iload_n 0), (1, .ifCond .lt 12), (4, .iload_n 0), (5, .iconst 3), (6, .if_icmp .ge 7), (9, .iconst 1), (10, .goto 4), (13, .iconst 0), (14, .ireturn)]
theorem dk_80 : mj_dk prog_1_method_20_code kd_80 = true := by decide +kernel
/-- DiceOdds$Parser.wholeProgram(Ljava/lang/StringBuilder;)LDiceOdds$Statement; -/
def kd_81 : List (Nat × Instr) := [(0, .aload_n 0), (1, .aload_n 1), (2, .invokevirtual 35), (5, .aload_n 0), (6, .iconst 0), (7, .invokevirtual 39), (10, .astore_n 2), (11, .aload_n 0), (12, .aload_n 0), (13, .getfield 23), (16, .aload_n 0), (17, .getfield 19), (20, .if_icmp .ne 7), (23, .iconst 1), (24, .goto 4), (27, .iconst 0), (28, .aload_n 0), (29, .getfield 23), (32, .invokevirtual 43), (35, .aload_n 0), (36, .aload_n 2), (37, .invokestatic 47), (40, .ldc2_w 53), (43, .lcmp), (44, .ifCond .gt 7), (47, .iconst 1), (48, .goto 4), (51, .iconst 0), (52, .aload_n 0), (53, .getfield 19), (56, .invokevirtual 43), (59, .aload_n 2), (60, .areturn)]
theorem dk_81 : mj_dk prog_7_method_2_code kd_81 = true := by decide +kernel
/-- DiceOdds$Parser.begin(Ljava/lang/StringBuilder;)V -/
def kd_82 : List (Nat × Instr) := [(0, .aload_n 0), (1, .aload_n 1), (2, .invokevirtual 55), (5, .sipush 160), (8, .invokestatic 60), (11, .putfield 19), (14, .iconst 0), (15, .istore_n 2), (16, .iload_n 2), (17, .aload_n 0), (18, .getfield 19), (21, .if_icmp .ge 20), (24, .aload_n 0), (25, .getfield 9), (28, .iload_n 2), (29, .aload_n 1), (30, .iload_n 2), (31, .invokevirtual 66), (34, .castore), (35, .iinc 2 1), (38, .goto (-22)), (41, .aload_n 0), (42, .iconst 0), (43, .putfield 23), (46, .aload_n 0), (47, .iconst 0), (48, .putfield 26), (51, .aload_n 0), (52, .iconst 0), (53, .putfield 29), (56, .return_)]
theorem dk_82 : mj_dk prog_7_method_3_code kd_82 = true := by decide +kernel
/-- DiceOdds$Parser.program(I)LDiceOdds$Statement; -/
def kd_83 : List (Nat × Instr) := [(0, .aconst_null), (1, .astore_n 2), (2, .aconst_null), (3, .astore_n 3), (4, .iconst 0), (5, .istore 4), (7, .iload 4), (9, .bipush 24), (11, .if_icmp .gt 51), (14, .aload_n 0), (15, .invokevirtual 77), (18, .ifCond .eq 44), (21, .aload_n 0), (22, .invokevirtual 77), (25, .bipush 125), (27, .if_icmp .eq 35), (30, .aload_n 0), (31, .iload_n 1), (32, .invokevirtual 81), (35, .astore 5), (37, .aload_n 3), (38, .ifnonnull 9), (41, .aload 5), (43, .astore_n 2), (44, .goto 9), (47, .aload_n 3), (48, .aload 5), (50, .putfield 84), (53, .aload 5), (55, .astore_n 3), (56, .iinc 4 1), (59, .goto (-52)), (62, .aload_n 2), (63, .areturn)]
theorem dk_83 : mj_dk prog_7_method_7_code kd_83 = true := by decide +kernel
/-- DiceOdds$Parser.peek()C -/
def kd_84 : List (Nat × Instr) := [(0, .aload_n 0), (1, .getfield 23), (4, .aload_n 0), (5, .getfield 19), (8, .if_icmp .ge 15), (11, .aload_n 0), (12, .getfield 9), (15, .aload_n 0), (16, .getfield 23), (19, .caload), (20, .goto 4), (23, .iconst 0), (24, .ireturn)]
theorem dk_84 : mj_dk prog_7_method_5_code kd_84 = true := by decide +kernel
/-- DiceOdds$Parser.statement(I)LDiceOdds$Statement; -/
def kd_85_0 : List (Nat × Instr) := [(0, .aload_n 0), (1, .invokevirtual 77), (4, .istore_n 2), (5, .aload_n 0), (6, .iload_n 2), (7, .invokestatic 88), (10, .ifCond .ne 21), (13, .iload_n 2), (14, .bipush 33), (16, .if_icmp .eq 15), (19, .iload_n 2), (20, .bipush 63), (22, .if_icmp .eq 9), (25, .iload_n 2), (26, .bipush 42), (28, .if_icmp .ne 7), (31, .iconst 1), (32, .goto 4), (35, .iconst 0), (36, .aload_n 0), (37, .getfield 23), (40, .invokevirtual 43), (43, .aload_n 0), (44, .aload_n 0), (45, .getfield 26), (48, .bipush 24), (50, .if_icmp .ge 7), (53, .iconst 1), (54, .goto 4), (57, .iconst 0), (58, .aload_n 0), (59, .getfield 23), (62, .invokevirtual 43), (65, .aload_n 0), (66, .dup), (67, .getfield 26), (70, .iconst 1), (71, .iadd), (72, .putfield 26), (75, .aload_n 0), (76, .dup), (77, .getfield 23), (80, .iconst 1), (81, .iadd), (82, .putfield 23), (85, .iload_n 2), (86, .bipush 63), (88, .if_icmp .ne 9), (91, .aload_n 0), (92, .iload_n 1), (93, .invokevirtual 92), (96, .areturn), (97, .iload_n 2), (98, .bipush 42), (100, .if_icmp .ne 9), (103, .aload_n 0), (104, .iload_n 1), (105, .invokevirtual 95), (108, .areturn), (109, .iload_n 2)]
theorem dk_85_0 : mj_dk prog_7_method_8_code kd_85_0 = true := by decide +kernel
def kd_85_1 : List (Nat × Instr) := [(110, .bipush 33), (112, .if_icmp .eq 9), (115, .aload_n 0), (116, .bipush 61), (118, .invokevirtual 98), (121, .aload_n 0), (122, .iconst 0), (123, .iconst 0), (124, .invokevirtual 102), (127, .astore_n 3), (128, .aload_n 0), (129, .bipush 59), (131, .invokevirtual 98), (134, .new 48), (137, .dup), (138, .iload_n 2), (139, .aload_n 3), (140, .iconst 0), (141, .aconst_null), (142, .aconst_null), (143, .invokespecial 106), (146, .areturn)]
theorem dk_85_1 : mj_dk prog_7_method_8_code kd_85_1 = true := by decide +kernel
def kd_85 : List (Nat × Instr) := kd_85_0 ++ kd_85_1
theorem dk_85 : mj_dk prog_7_method_8_code kd_85 = true := mj_dk_app (dk_85_0) dk_85_1
/-- DiceOdds.isName(C)Z -/
def kd_86 : List (Nat × Instr) := [(0, .iload_n 0), (1, .bipush 65), (3, .if_icmp .lt 13), (6, .iload_n 0), (7, .bipush 71), (9, .if_icmp .ge 7), (12, .iconst 1), (13, .goto 4), (16, .iconst 0), (17, .ireturn)]
theorem dk_86 : mj_dk prog_1_method_33_code kd_86 = true := by decide +kernel
/-- DiceOdds$Parser.demand(ZI)V -/
def kd_87 : List (Nat × Instr) := [(0, .iload_n 1), (1, .ifCond .ne 18), (4, .aload_n 0), (5, .iload_n 2), (6, .putfield 32), (9, .new 70), (12, .dup), (13, .ldc 72), (15, .invokespecial 74), (18, .athrow), (19, .return_)]
theorem dk_87 : mj_dk prog_7_method_4_code kd_87 = true := by decide +kernel
/-- DiceOdds$Parser.choice(I)LDiceOdds$Statement; -/
def kd_88 : List (Nat × Instr) := [(0, .aload_n 0), (1, .iconst 0), (2, .iconst 0), (3, .invokevirtual 102), (6, .astore_n 2), (7, .aload_n 0), (8, .iload_n 1), (9, .invokevirtual 109), (12, .astore_n 3), (13, .aconst_null), (14, .astore 4), (16, .aload_n 0), (17, .invokevirtual 77), (20, .bipush 58), (22, .if_icmp .ne 20), (25, .aload_n 0), (26, .dup), (27, .getfield 23), (30, .iconst 1), (31, .iadd), (32, .putfield 23), (35, .aload_n 0), (36, .iload_n 1), (37, .invokevirtual 109), (40, .astore 4), (42, .new 48), (45, .dup), (46, .bipush 63), (48, .aload_n 2), (49, .iconst 0), (50, .aload_n 3), (51, .aload 4), (53, .invokespecial 106), (56, .areturn)]
theorem dk_88 : mj_dk prog_7_method_9_code kd_88 = true := by decide +kernel
/-- DiceOdds$Parser.expression(II)LDiceOdds$Expression; -/
def kd_89 : List (Nat × Instr) := [(0, .iload_n 1), (1, .iconst 3), (2, .if_icmp .lt 9), (5, .aload_n 0), (6, .iload_n 2), (7, .invokevirtual 120), (10, .areturn), (11, .aload_n 0), (12, .iload_n 1), (13, .iconst 1), (14, .iadd), (15, .iload_n 2), (16, .invokevirtual 102), (19, .astore_n 3), (20, .iload_n 1), (21, .ifCond .ne 7), (24, .iconst 1), (25, .goto 5), (28, .bipush 40), (30, .istore 4), (32, .iconst 0), (33, .istore 5), (35, .iload 5), (37, .iload 4), (39, .if_icmp .ge 55), (42, .aload_n 0), (43, .invokevirtual 77), (46, .invokestatic 124), (49, .iload_n 1), (50, .if_icmp .ne 44), (53, .aload_n 0), (54, .invokevirtual 77), (57, .istore 6), (59, .aload_n 0), (60, .dup), (61, .getfield 23), (64, .iconst 1), (65, .iadd), (66, .putfield 23), (69, .new 128), (72, .dup), (73, .iload 6), (75, .aload_n 3), (76, .aload_n 0), (77, .iload_n 1), (78, .iconst 1), (79, .iadd), (80, .iload_n 2), (81, .invokevirtual 102), (84, .invokespecial 130), (87, .astore_n 3), (88, .iinc 5 1), (91, .goto (-56)), (94, .aload_n 3), (95, .areturn)]
theorem dk_89 : mj_dk prog_7_method_12_code kd_89 = true := by decide +kernel
/-- DiceOdds$Parser.operand(I)LDiceOdds$Expression; -/
def kd_90_0 : List (Nat × Instr) := [(0, .aload_n 0), (1, .invokevirtual 77), (4, .istore_n 2), (5, .iload_n 2), (6, .bipush 45), (8, .if_icmp .eq 9), (11, .iload_n 2), (12, .bipush 40), (14, .if_icmp .ne 62), (17, .aload_n 0), (18, .iload_n 1), (19, .iconst 5), (20, .if_icmp .ge 7), (23, .iconst 1), (24, .goto 4), (27, .iconst 0), (28, .aload_n 0), (29, .getfield 23), (32, .invokevirtual 43), (35, .aload_n 0), (36, .dup), (37, .getfield 23), (40, .iconst 1), (41, .iadd), (42, .putfield 23), (45, .iload_n 2), (46, .bipush 45), (48, .if_icmp .ne 20), (51, .new 133), (54, .dup), (55, .aload_n 0), (56, .iload_n 1), (57, .iconst 1), (58, .iadd), (59, .invokevirtual 120), (62, .invokespecial 135), (65, .goto 10), (68, .aload_n 0), (69, .iload_n 1), (70, .iconst 1), (71, .iadd), (72, .invokevirtual 138), (75, .areturn), (76, .aload_n 0), (77, .iload_n 2), (78, .invokestatic 88), (81, .ifCond .ne 22), (84, .iload_n 2), (85, .invokestatic 141), (88, .ifCond .ne 15), (91, .iload_n 2), (92, .bipush 100), (94, .if_icmp .eq 9), (97, .iload_n 2), (98, .bipush 91), (100, .if_icmp .ne 7), (103, .iconst 1), (104, .goto 4), (107, .iconst 0), (108, .aload_n 0)]
theorem dk_90_0 : mj_dk prog_7_method_13_code kd_90_0 = true := by decide +kernel
def kd_90_1 : List (Nat × Instr) := [(109, .getfield 23), (112, .invokevirtual 43), (115, .aload_n 0), (116, .aload_n 0), (117, .getfield 29), (120, .bipush 40), (122, .if_icmp .ge 7), (125, .iconst 1), (126, .goto 4), (129, .iconst 0), (130, .aload_n 0), (131, .getfield 23), (134, .invokevirtual 43), (137, .aload_n 0), (138, .dup), (139, .getfield 29), (142, .iconst 1), (143, .iadd), (144, .putfield 29), (147, .iload_n 2), (148, .invokestatic 88), (151, .ifCond .eq 26), (154, .aload_n 0), (155, .dup), (156, .getfield 23), (159, .iconst 1), (160, .iadd), (161, .putfield 23), (164, .new 115), (167, .dup), (168, .iload_n 2), (169, .bipush 65), (171, .isub), (172, .iconst 0), (173, .invokespecial 117), (176, .areturn), (177, .iload_n 2), (178, .invokestatic 141), (181, .ifCond .eq 8), (184, .aload_n 0), (185, .invokevirtual 144), (188, .areturn), (189, .iload_n 2), (190, .bipush 100), (192, .if_icmp .ne 11), (195, .aload_n 0), (196, .iconst 1), (197, .invokevirtual 148), (200, .goto 7), (203, .aload_n 0), (204, .invokevirtual 151), (207, .areturn)]
theorem dk_90_1 : mj_dk prog_7_method_13_code kd_90_1 = true := by decide +kernel
def kd_90 : List (Nat × Instr) := kd_90_0 ++ kd_90_1
theorem dk_90 : mj_dk prog_7_method_13_code kd_90 = true := mj_dk_app (dk_90_0) dk_90_1
/-- DiceOdds$Minus.<init>(LDiceOdds$Expression;)V -/
def kd_91 : List (Nat × Instr) := [(0, .aload_n 0), (1, .aload_n 1), (2, .getfield 3), (5, .invokespecial 9), (8, .aload_n 0), (9, .aload_n 1), (10, .putfield 13), (13, .return_)]
theorem dk_91 : mj_dk prog_5_method_1_code kd_91 = true := by decide +kernel
/-- DiceOdds$Expression.<init>(J)V -/
def kd_92 : List (Nat × Instr) := [(0, .aload_n 0), (1, .invokespecial 3), (4, .aload_n 0), (5, .lload_n 1), (6, .putfield 9), (9, .return_)]
theorem dk_92 : mj_dk prog_4_method_1_code kd_92 = true := by decide +kernel
/-- DiceOdds$Parser.inBrackets(I)LDiceOdds$Expression; -/
def kd_93 : List (Nat × Instr) := [(0, .aload_n 0), (1, .iconst 0), (2, .iload_n 1), (3, .invokevirtual 102), (6, .astore_n 2), (7, .aload_n 0), (8, .bipush 41), (10, .invokevirtual 98), (13, .aload_n 2), (14, .areturn)]
theorem dk_93 : mj_dk prog_7_method_14_code kd_93 = true := by decide +kernel
/-- DiceOdds$Parser.pass(C)V -/
def kd_94 : List (Nat × Instr) := [(0, .aload_n 0), (1, .aload_n 0), (2, .invokevirtual 77), (5, .iload_n 1), (6, .if_icmp .ne 7), (9, .iconst 1), (10, .goto 4), (13, .iconst 0), (14, .aload_n 0), (15, .getfield 23), (18, .invokevirtual 43), (21, .aload_n 0), (22, .dup), (23, .getfield 23), (26, .iconst 1), (27, .iadd), (28, .putfield 23), (31, .return_)]
theorem dk_94 : mj_dk prog_7_method_6_code kd_94 = true := by decide +kernel
/-- DiceOdds.isDigit(C)Z -/
def kd_95 : List (Nat × Instr) := [(0, .iload_n 0), (1, .bipush 48), (3, .if_icmp .lt 13), (6, .iload_n 0), (7, .bipush 57), (9, .if_icmp .gt 7), (12, .iconst 1), (13, .goto 4), (16, .iconst 0), (17, .ireturn)]
theorem dk_95 : mj_dk prog_1_method_34_code kd_95 = true := by decide +kernel
/-- DiceOdds.isDigit(C)Z -/
def kd_96 : List (Nat × Instr) := [(0, .iload_n 0), (1, .bipush 48), (3, .if_icmp .lt 13), (6, .iload_n 0), (7, .bipush 57), (9, .if_icmp .gt 7), (12, .iconst 1), (13, .goto 4), (16, .iconst 0), (17, .ireturn)]
theorem dk_96 : mj_dk prog_1_method_34_code kd_96 = true := by decide +kernel
/-- DiceOdds$Plain.<init>(II)V -/
def kd_97 : List (Nat × Instr) := [(0, .aload_n 0), (1, .lconst 1), (2, .invokespecial 3), (5, .aload_n 0), (6, .iload_n 1), (7, .putfield 9), (10, .aload_n 0), (11, .iload_n 2), (12, .putfield 15), (15, .return_)]
theorem dk_97 : mj_dk prog_8_method_1_code kd_97 = true := by decide +kernel
/-- DiceOdds$Parser.dice(I)LDiceOdds$Expression; -/
def kd_98 : List (Nat × Instr) := [(0, .aload_n 0), (1, .bipush 100), (3, .invokevirtual 98), (6, .aload_n 0), (7, .iconst 2), (8, .bipush 20), (10, .invokevirtual 112), (13, .istore_n 2), (14, .aload_n 0), (15, .invokevirtual 77), (18, .istore_n 3), (19, .iload_n 3), (20, .bipush 101), (22, .if_icmp .ne 48), (25, .aload_n 0), (26, .iload_n 1), (27, .iconst 1), (28, .if_icmp .ne 7), (31, .iconst 1), (32, .goto 4), (35, .iconst 0), (36, .aload_n 0), (37, .getfield 23), (40, .invokevirtual 43), (43, .aload_n 0), (44, .dup), (45, .getfield 23), (48, .iconst 1), (49, .iadd), (50, .putfield 23), (53, .new 154), (56, .dup), (57, .iload_n 1), (58, .iload_n 2), (59, .iload_n 3), (60, .aload_n 0), (61, .iconst 1), (62, .iconst 3), (63, .invokevirtual 112), (66, .invokespecial 156), (69, .areturn), (70, .iload_n 3), (71, .bipush 104), (73, .if_icmp .eq 9), (76, .iload_n 3), (77, .bipush 108), (79, .if_icmp .ne 30), (82, .aload_n 0), (83, .dup), (84, .getfield 23), (87, .iconst 1), (88, .iadd), (89, .putfield 23), (92, .new 154), (95, .dup), (96, .iload_n 1), (97, .iload_n 2), (98, .iload_n 3), (99, .aload_n 0), (100, .iconst 1), (101, .iload_n 1), (102, .invokevirtual 112), (105, .invokespecial 156), (108, .areturn), (109, .new 154), (112, .dup), (113, .iload_n 1), (114, .iload_n 2), (115, .bipush 97), (117, .iload_n 1), (118, .invokespecial 156), (121, .areturn)]
theorem dk_98 : mj_dk prog_7_method_16_code kd_98 = true := by decide +kernel
/-- DiceOdds$Parser.number(II)I -/
def kd_99 : List (Nat × Instr) := [(0, .aload_n 0), (1, .getfield 23), (4, .istore_n 3), (5, .iconst 0), (6, .istore 4), (8, .iconst 0), (9, .istore 5), (11, .iload 5), (13, .sipush 160), (16, .if_icmp .ge 50), (19, .aload_n 0), (20, .invokevirtual 77), (23, .invokestatic 141), (26, .ifCond .eq 40), (29, .iload 4), (31, .bipush 10), (33, .imul), (34, .aload_n 0), (35, .invokevirtual 77), (38, .iadd), (39, .bipush 48), (41, .isub), (42, .sipush 1000), (45, .invokestatic 60), (48, .istore 4), (50, .aload_n 0), (51, .dup), (52, .getfield 23), (55, .iconst 1), (56, .iadd), (57, .putfield 23), (60, .iinc 5 1), (63, .goto (-52)), (66, .aload_n 0), (67, .getfield 23), (70, .iload_n 3), (71, .isub), (72, .istore 5), (74, .aload_n 0), (75, .iload 5), (77, .ifCond .le 13), (80, .iload 5), (82, .iconst 3), (83, .if_icmp .gt 7), (86, .iconst 1), (87, .goto 4), (90, .iconst 0), (91, .iload_n 3), (92, .invokevirtual 43), (95, .aload_n 0), (96, .iload 5), (98, .iconst 1), (99, .if_icmp .eq 14), (102, .aload_n 0), (103, .getfield 9), (106, .iload_n 3), (107, .caload), (108, .bipush 48), (110, .if_icmp .eq 7), (113, .iconst 1), (114, .goto 4), (117, .iconst 0), (118, .iload_n 3), (119, .invokevirtual 43), (122, .aload_n 0), (123, .iload 4), (125, .iload_n 1), (126, .if_icmp .lt 13), (129, .iload 4), (131, .iload_n 2), (132, .if_icmp .gt 7), (135, .iconst 1), (136, .goto 4), (139, .iconst 0), (140, .iload_n 3), (141, .invokevirtual 43), (144, .iload 4), (146, .ireturn)]
theorem dk_99 : mj_dk prog_7_method_18_code kd_99 = true := by decide +kernel
/-- DiceOdds$Dice.<init>(IICI)V -/
def kd_100 : List (Nat × Instr) := [(0, .aload_n 0), (1, .iload_n 2), (2, .i2l), (3, .iload_n 3), (4, .bipush 101), (6, .if_icmp .ne 10), (9, .iload 4), (11, .iconst 1), (12, .iadd), (13, .goto 4), (16, .iload_n 1), (17, .invokestatic 3), (20, .invokespecial 7), (23, .aload_n 0), (24, .aconst_null), (25, .putfield 13), (28, .aload_n 0), (29, .iload_n 1), (30, .putfield 19), (33, .aload_n 0), (34, .iload_n 2), (35, .putfield 23), (38, .aload_n 0), (39, .iload_n 3), (40, .putfield 26), (43, .aload_n 0), (44, .iload 4), (46, .putfield 30), (49, .return_)]
theorem dk_100 : mj_dk prog_3_method_1_code kd_100 = true := by decide +kernel
/-- DiceOdds.power(JI)J -/
def kd_101 : List (Nat × Instr) := [(0, .lconst 1), (1, .lstore_n 3), (2, .iconst 0), (3, .istore 5), (5, .iload 5), (7, .iload_n 2), (8, .if_icmp .ge 19), (11, .lload_n 3), (12, .lload_n 0), (13, .lmul), (14, .ldc2_w 188), (17, .invokestatic 190), (20, .lstore_n 3), (21, .iinc 5 1), (24, .goto (-19)), (27, .lload_n 3), (28, .lreturn)]
theorem dk_101 : mj_dk prog_1_method_29_code kd_101 = true := by decide +kernel
/-- DiceOdds.product(JJ)J -/
def kd_102 : List (Nat × Instr) := [(0, .lload_n 0), (1, .lload_n 2), (2, .lmul), (3, .ldc2_w 188), (6, .invokestatic 190), (9, .lreturn)]
theorem dk_102 : mj_dk prog_1_method_28_code kd_102 = true := by decide +kernel
/-- java/lang/Math.min(JJ)J -/
def kd_103 : List (Nat × Instr) := [(0, .lload_n 0), (1, .lload_n 2), (2, .lcmp), (3, .ifCond .gt 7), (6, .lload_n 0), (7, .goto 4), (10, .lload_n 2), (11, .lreturn)]
theorem dk_103 : mj_dk prog_23_method_70_code kd_103 = true := by decide +kernel
/-- DiceOdds$Parser.row()LDiceOdds$Expression; -/
def kd_104 : List (Nat × Instr) := [(0, .aload_n 0), (1, .bipush 91), (3, .invokevirtual 98), (6, .aload_n 0), (7, .getfield 15), (10, .iconst 0), (11, .aload_n 0), (12, .iconst 0), (13, .sipush 999), (16, .invokevirtual 112), (19, .iastore), (20, .iconst 1), (21, .istore_n 1), (22, .iload_n 1), (23, .bipush 8), (25, .if_icmp .ge 42), (28, .aload_n 0), (29, .invokevirtual 77), (32, .bipush 44), (34, .if_icmp .ne 33), (37, .aload_n 0), (38, .dup), (39, .getfield 23), (42, .iconst 1), (43, .iadd), (44, .putfield 23), (47, .aload_n 0), (48, .getfield 15), (51, .iload_n 1), (52, .aload_n 0), (53, .iconst 0), (54, .sipush 999), (57, .invokevirtual 112), (60, .iastore), (61, .iinc 1 1), (64, .goto (-42)), (67, .aload_n 0), (68, .bipush 93), (70, .invokevirtual 98), (73, .new 159), (76, .dup), (77, .aload_n 0), (78, .getfield 15), (81, .iload_n 1), (82, .invokestatic 161), (85, .invokespecial 167), (88, .areturn)]
theorem dk_104 : mj_dk prog_7_method_17_code kd_104 = true := by decide +kernel
/-- java/util/Arrays.copyOf([II)[I -/
def kd_105 : List (Nat × Instr) := [(0, .iload_n 1), (1, .aload_n 0), (2, .arraylength), (3, .if_icmp .ne 11), (6, .aload_n 0), (7, .invokevirtual 316), (10, .checkcast 317), (13, .areturn), (14, .iload_n 1), (15, .newarray .int), (17, .astore_n 2), (18, .aload_n 0), (19, .iconst 0), (20, .aload_n 2), (21, .iconst 0), (22, .aload_n 0), (23, .arraylength), (24, .iload_n 1), (25, .invokestatic 304), (28, .invokestatic 150), (31, .aload_n 2), (32, .areturn)]
theorem dk_105 : mj_dk prog_32_method_123_code kd_105 = true := by decide +kernel
/-- DiceOdds$Row.<init>([I)V -/
def kd_106 : List (Nat × Instr) := [(0, .aload_n 0), (1, .aload_n 1), (2, .arraylength), (3, .i2l), (4, .invokespecial 1), (7, .aload_n 0), (8, .aload_n 1), (9, .putfield 7), (12, .return_)]
theorem dk_106 : mj_dk prog_9_method_1_code kd_106 = true := by decide +kernel
/-- DiceOdds$Parser.numberOrDice()LDiceOdds$Expression; -/
def kd_107 : List (Nat × Instr) := [(0, .aload_n 0), (1, .getfield 23), (4, .istore_n 1), (5, .aload_n 0), (6, .iconst 0), (7, .sipush 999), (10, .invokevirtual 112), (13, .istore_n 2), (14, .aload_n 0), (15, .invokevirtual 77), (18, .bipush 100), (20, .if_icmp .eq 15), (23, .new 115), (26, .dup), (27, .sipush (-1000)), (30, .iload_n 2), (31, .invokespecial 117), (34, .areturn), (35, .aload_n 0), (36, .iload_n 2), (37, .iconst 1), (38, .if_icmp .lt 13), (41, .iload_n 2), (42, .bipush 6), (44, .if_icmp .gt 7), (47, .iconst 1), (48, .goto 4), (51, .iconst 0), (52, .iload_n 1), (53, .invokevirtual 43), (56, .aload_n 0), (57, .iload_n 2), (58, .invokevirtual 148), (61, .areturn)]
theorem dk_107 : mj_dk prog_7_method_15_code kd_107 = true := by decide +kernel
/-- DiceOdds.bindingOf(C)I -/
def kd_108 : List (Nat × Instr) := [(0, .iload_n 0), (1, .tableswitch 125 37 62 #[123, 125, 125, 125, 125, 123, 121, 125, 121, 125, 123, 125, 125, 125, 125, 125, 125, 125, 125, 125, 125, 125, 125, 119, 119, 119]), (120, .iconst 0), (121, .ireturn), (122, .iconst 1), (123, .ireturn), (124, .iconst 2), (125, .ireturn), (126, .sipush (-1000)), (129, .ireturn)]
theorem dk_108 : mj_dk prog_1_method_35_code kd_108 = true := by decide +kernel
/-- DiceOdds$Operation.<init>(CLDiceOdds$Expression;LDiceOdds$Expression;)V -/
def kd_109 : List (Nat × Instr) := [(0, .aload_n 0), (1, .aload_n 2), (2, .getfield 3), (5, .aload_n 3), (6, .getfield 3), (9, .invokestatic 9), (12, .invokespecial 13), (15, .aload_n 0), (16, .iload_n 1), (17, .putfield 17), (20, .aload_n 0), (21, .aload_n 2), (22, .putfield 23), (25, .aload_n 0), (26, .aload_n 3), (27, .putfield 27), (30, .return_)]
theorem dk_109 : mj_dk prog_6_method_1_code kd_109 = true := by decide +kernel
/-- DiceOdds$Parser.inBraces(I)LDiceOdds$Statement; -/
def kd_110 : List (Nat × Instr) := [(0, .aload_n 0), (1, .iload_n 1), (2, .iconst 4), (3, .if_icmp .ge 7), (6, .iconst 1), (7, .goto 4), (10, .iconst 0), (11, .aload_n 0), (12, .getfield 23), (15, .invokevirtual 43), (18, .aload_n 0), (19, .bipush 123), (21, .invokevirtual 98), (24, .aload_n 0), (25, .iload_n 1), (26, .iconst 1), (27, .iadd), (28, .invokevirtual 39), (31, .astore_n 2), (32, .aload_n 0), (33, .bipush 125), (35, .invokevirtual 98), (38, .aload_n 2), (39, .areturn)]
theorem dk_110 : mj_dk prog_7_method_11_code kd_110 = true := by decide +kernel
/-- DiceOdds$Statement.<init>(CLDiceOdds$Expression;ILDiceOdds$Statement;LDiceOdds$Statement;)V -/
def kd_111 : List (Nat × Instr) := [(0, .aload_n 0), (1, .invokespecial 3), (4, .aload_n 0), (5, .aconst_null), (6, .putfield 9), (9, .aload_n 0), (10, .iload_n 1), (11, .putfield 15), (14, .aload_n 0), (15, .aload_n 2), (16, .putfield 19), (19, .aload_n 0), (20, .iload_n 3), (21, .putfield 23), (24, .aload_n 0), (25, .aload 4), (27, .putfield 27), (30, .aload_n 0), (31, .aload 5), (33, .putfield 30), (36, .aload 4), (38, .invokestatic 33), (41, .lstore 6), (43, .aload 5), (45, .invokestatic 33), (48, .lstore 8), (50, .lload 6), (52, .lload 8), (54, .invokestatic 37), (57, .lstore 10), (59, .aload_n 0), (60, .lload 10), (62, .lload 6), (64, .invokestatic 41), (67, .putfield 44), (70, .aload_n 0), (71, .lload 10), (73, .lload 8), (75, .invokestatic 41), (78, .putfield 48), (81, .aload_n 0), (82, .iload_n 1), (83, .bipush 42), (85, .if_icmp .ne 12), (88, .lload 6), (90, .iload_n 3), (91, .invokestatic 51), (94, .goto 12), (97, .aload_n 2), (98, .getfield 55), (101, .lload 10), (103, .invokestatic 60), (106, .putfield 63), (109, .return_)]
theorem dk_111 : mj_dk prog_11_method_1_code kd_111 = true := by decide +kernel
/-- DiceOdds$Statement.fallsOfAll(LDiceOdds$Statement;)J -/
def kd_112 : List (Nat × Instr) := [(0, .lconst 1), (1, .lstore_n 1), (2, .aload_n 0), (3, .astore_n 3), (4, .aload_n 3), (5, .ifnull 20), (8, .lload_n 1), (9, .aload_n 3), (10, .getfield 63), (13, .invokestatic 60), (16, .lstore_n 1), (17, .aload_n 3), (18, .getfield 9), (21, .astore_n 3), (22, .goto (-18)), (25, .lload_n 1), (26, .lreturn)]
theorem dk_112 : mj_dk prog_11_method_2_code kd_112 = true := by decide +kernel
/-- DiceOdds.commonMultiple(JJ)J -/
def kd_113 : List (Nat × Instr) := [(0, .lload_n 0), (1, .lload_n 0), (2, .lload_n 2), (3, .invokestatic 196), (6, .invokestatic 199), (9, .lload_n 2), (10, .invokestatic 202), (13, .lreturn)]
theorem dk_113 : mj_dk prog_1_method_32_code kd_113 = true := by decide +kernel
/-- DiceOdds.commonDivisor(JJ)J -/
def kd_114 : List (Nat × Instr) := [(0, .lload_n 0), (1, .lstore 4), (3, .lload_n 2), (4, .lstore 6), (6, .iconst 0), (7, .istore 8), (9, .iload 8), (11, .sipush 128), (14, .if_icmp .ge 31), (17, .lload 6), (19, .lconst 0), (20, .lcmp), (21, .ifCond .eq 24), (24, .lload 4), (26, .lload 6), (28, .lrem), (29, .lstore 9), (31, .lload 6), (33, .lstore 4), (35, .lload 9), (37, .lstore 6), (39, .iinc 8 1), (42, .goto (-33)), (45, .lload 4), (47, .lreturn)]
theorem dk_114 : mj_dk prog_1_method_30_code kd_114 = true := by decide +kernel
/-- DiceOdds.quotient(JJ)J -/
def kd_115 : List (Nat × Instr) := [(0, .lload_n 2), (1, .lconst 1), (2, .lcmp), (3, .ifCond .le 9), (6, .lload_n 0), (7, .lload_n 2), (8, .ldiv), (9, .goto 4), (12, .lload_n 0), (13, .lreturn)]
theorem dk_115 : mj_dk prog_1_method_31_code kd_115 = true := by decide +kernel
/-- DiceOdds$Parser.repetition(I)LDiceOdds$Statement; -/
def kd_116 : List (Nat × Instr) := [(0, .aload_n 0), (1, .iconst 0), (2, .bipush 20), (4, .invokevirtual 112), (7, .istore_n 2), (8, .new 48), (11, .dup), (12, .bipush 42), (14, .new 115), (17, .dup), (18, .sipush (-1000)), (21, .iload_n 2), (22, .invokespecial 117), (25, .iload_n 2), (26, .aload_n 0), (27, .iload_n 1), (28, .invokevirtual 109), (31, .aconst_null), (32, .invokespecial 106), (35, .areturn)]
theorem dk_116 : mj_dk prog_7_method_10_code kd_116 = true := by decide +kernel
/-- DiceOdds$Slot.takeProgram(LDiceOdds$Statement;)V -/
def kd_117 : List (Nat × Instr) := [(0, .aload_n 0), (1, .iconst 1), (2, .putfield 19), (5, .aload_n 0), (6, .aload_n 1), (7, .putfield 23), (10, .aload_n 0), (11, .invokevirtual 35), (14, .return_)]
theorem dk_117 : mj_dk prog_10_method_2_code kd_117 = true := by decide +kernel
/-- DiceOdds$Slot.dropResult()V -/
def kd_118 : List (Nat × Instr) := [(0, .aload_n 0), (1, .iconst 0), (2, .putfield 27), (5, .aload_n 0), (6, .lconst 0), (7, .putfield 31), (10, .return_)]
theorem dk_118 : mj_dk prog_10_method_3_code kd_118 = true := by decide +kernel
/-- DiceOddsLaw.print(LDiceOdds;I[J)I -/
def kd_119 : List (Nat × Instr) := [(0, .aload_n 2), (1, .iconst 0), (2, .aload_n 0), (3, .iload_n 1), (4, .invokevirtual 15), (7, .i2l), (8, .lastore), (9, .goto 9), (12, .astore_n 3), (13, .iconst 1), (14, .ireturn), (15, .astore_n 3), (16, .iconst 2), (17, .ireturn), (18, .iconst 0), (19, .ireturn)]
theorem dk_119 : mj_dk method_4_code kd_119 = true := by decide +kernel
/-- DiceOdds.print(I)I -/
def kd_120 : List (Nat × Instr) := [(0, .aload_n 0), (1, .iload_n 1), (2, .invokevirtual 76), (5, .astore_n 2), (6, .aload_n 0), (7, .getfield 12), (10, .iconst 0), (11, .invokevirtual 49), (14, .aload_n 2), (15, .getfield 79), (18, .aload_n 0), (19, .getfield 12), (22, .invokestatic 83), (25, .aload_n 0), (26, .getfield 12), (29, .invokevirtual 37), (32, .ireturn)]
theorem dk_120 : mj_dk prog_1_method_7_code kd_120 = true := by decide +kernel
/-- DiceOdds.withProgram(I)LDiceOdds$Slot; -/
def kd_121 : List (Nat × Instr) := [(0, .aload_n 0), (1, .iload_n 1), (2, .invokevirtual 57), (5, .astore_n 2), (6, .aload_n 2), (7, .getfield 173), (10, .ifCond .ne 13), (13, .new 177), (16, .dup), (17, .ldc 179), (19, .invokespecial 181), (22, .athrow), (23, .aload_n 2), (24, .areturn)]
theorem dk_121 : mj_dk prog_1_method_23_code kd_121 = true := by decide +kernel
/-- DiceOdds$Statement.writeAll(LDiceOdds$Statement;Ljava/lang/StringBuilder;)V -/
def kd_122 : List (Nat × Instr) := [(0, .aload_n 0), (1, .astore_n 2), (2, .aload_n 2), (3, .ifnull 16), (6, .aload_n 2), (7, .aload_n 1), (8, .invokevirtual 64), (11, .aload_n 2), (12, .getfield 9), (15, .astore_n 2), (16, .goto (-14)), (19, .return_)]
theorem dk_122 : mj_dk prog_11_method_3_code kd_122 = true := by decide +kernel
/-- DiceOdds$Statement.write(Ljava/lang/StringBuilder;)V -/
def kd_123 : List (Nat × Instr) := [(0, .aload_n 1), (1, .aload_n 0), (2, .getfield 15), (5, .invokevirtual 68), (8, .pop), (9, .aload_n 0), (10, .getfield 15), (13, .invokestatic 74), (16, .ifCond .eq 10), (19, .aload_n 1), (20, .bipush 61), (22, .invokevirtual 68), (25, .pop), (26, .aload_n 0), (27, .getfield 19), (30, .aload_n 1), (31, .invokevirtual 78), (34, .aload_n 0), (35, .getfield 15), (38, .bipush 63), (40, .if_icmp .eq 20), (43, .aload_n 0), (44, .getfield 15), (47, .bipush 42), (49, .if_icmp .eq 11), (52, .aload_n 1), (53, .bipush 59), (55, .invokevirtual 68), (58, .pop), (59, .return_), (60, .aload_n 0), (61, .getfield 27), (64, .aload_n 1), (65, .invokestatic 79), (68, .aload_n 0), (69, .getfield 30), (72, .ifnull 18), (75, .aload_n 1), (76, .bipush 58), (78, .invokevirtual 68), (81, .pop), (82, .aload_n 0), (83, .getfield 30), (86, .aload_n 1), (87, .invokestatic 79), (90, .return_)]
theorem dk_123 : mj_dk prog_11_method_4_code kd_123 = true := by decide +kernel
/-- DiceOdds$Dice.write(Ljava/lang/StringBuilder;)V -/
def kd_124 : List (Nat × Instr) := [(0, .aload_n 0), (1, .getfield 19), (4, .iconst 1), (5, .if_icmp .le 12), (8, .aload_n 1), (9, .aload_n 0), (10, .getfield 19), (13, .invokevirtual 33), (16, .pop), (17, .aload_n 1), (18, .bipush 100), (20, .invokevirtual 39), (23, .pop), (24, .aload_n 1), (25, .aload_n 0), (26, .getfield 23), (29, .invokevirtual 33), (32, .pop), (33, .aload_n 0), (34, .getfield 26), (37, .bipush 97), (39, .if_icmp .eq 21), (42, .aload_n 1), (43, .aload_n 0), (44, .getfield 26), (47, .invokevirtual 39), (50, .pop), (51, .aload_n 1), (52, .aload_n 0), (53, .getfield 30), (56, .invokevirtual 33), (59, .pop), (60, .return_)]
theorem dk_124 : mj_dk prog_3_method_2_code kd_124 = true := by decide +kernel
/-- DiceOdds$Minus.write(Ljava/lang/StringBuilder;)V -/
def kd_125 : List (Nat × Instr) := [(0, .aload_n 1), (1, .bipush 45), (3, .invokevirtual 19), (6, .pop), (7, .aload_n 0), (8, .getfield 13), (11, .aload_n 1), (12, .aload_n 0), (13, .getfield 13), (16, .invokevirtual 25), (19, .iconst 3), (20, .if_icmp .ge 7), (23, .iconst 1), (24, .goto 4), (27, .iconst 0), (28, .invokevirtual 29), (31, .return_)]
theorem dk_125 : mj_dk prog_5_method_2_code kd_125 = true := by decide +kernel
/-- DiceOdds$Operation.binding()I -/
def kd_126 : List (Nat × Instr) := [(0, .aload_n 0), (1, .getfield 17), (4, .invokestatic 30), (7, .ireturn)]
theorem dk_126 : mj_dk prog_6_method_2_code kd_126 = true := by decide +kernel
/-- DiceOdds$Expression.binding()I -/
def kd_127 : List (Nat × Instr) := [(0, .iconst 3), (1, .ireturn)]
theorem dk_127 : mj_dk prog_4_method_2_code kd_127 = true := by decide +kernel
/-- DiceOdds$Expression.writeSide(Ljava/lang/StringBuilder;Z)V -/
def kd_128 : List (Nat × Instr) := [(0, .iload_n 2), (1, .ifCond .eq 10), (4, .aload_n 1), (5, .bipush 40), (7, .invokevirtual 15), (10, .pop), (11, .aload_n 0), (12, .aload_n 1), (13, .invokevirtual 21), (16, .iload_n 2), (17, .ifCond .eq 10), (20, .aload_n 1), (21, .bipush 41), (23, .invokevirtual 15), (26, .pop), (27, .return_)]
theorem dk_128 : mj_dk prog_4_method_5_code kd_128 = true := by decide +kernel
/-- DiceOdds$Operation.write(Ljava/lang/StringBuilder;)V -/
def kd_129 : List (Nat × Instr) := [(0, .aload_n 0), (1, .invokevirtual 34), (4, .istore_n 2), (5, .aload_n 0), (6, .getfield 23), (9, .invokevirtual 38), (12, .istore_n 3), (13, .aload_n 0), (14, .getfield 23), (17, .aload_n 1), (18, .iload_n 3), (19, .iload_n 2), (20, .if_icmp .lt 11), (23, .iload_n 3), (24, .ifCond .ne 11), (27, .iload_n 2), (28, .ifCond .ne 7), (31, .iconst 1), (32, .goto 4), (35, .iconst 0), (36, .invokevirtual 39), (39, .aload_n 1), (40, .aload_n 0), (41, .getfield 17), (44, .invokevirtual 43), (47, .pop), (48, .aload_n 0), (49, .getfield 27), (52, .aload_n 1), (53, .aload_n 0), (54, .getfield 27), (57, .invokevirtual 38), (60, .iload_n 2), (61, .if_icmp .gt 7), (64, .iconst 1), (65, .goto 4), (68, .iconst 0), (69, .invokevirtual 39), (72, .return_)]
theorem dk_129 : mj_dk prog_6_method_3_code kd_129 = true := by decide +kernel
/-- DiceOdds$Plain.write(Ljava/lang/StringBuilder;)V -/
def kd_130 : List (Nat × Instr) := [(0, .aload_n 0), (1, .getfield 9), (4, .sipush (-1000)), (7, .if_icmp .ne 15), (10, .aload_n 1), (11, .aload_n 0), (12, .getfield 15), (15, .invokevirtual 18), (18, .pop), (19, .goto 16), (22, .aload_n 1), (23, .bipush 65), (25, .aload_n 0), (26, .getfield 9), (29, .iadd), (30, .i2c), (31, .invokevirtual 24), (34, .pop), (35, .return_)]
theorem dk_130 : mj_dk prog_8_method_2_code kd_130 = true := by decide +kernel
/-- DiceOdds$Row.write(Ljava/lang/StringBuilder;)V -/
def kd_131 : List (Nat × Instr) := [(0, .iconst 0), (1, .istore_n 2), (2, .iload_n 2), (3, .aload_n 0), (4, .getfield 7), (7, .arraylength), (8, .if_icmp .ge 36), (11, .aload_n 1), (12, .iload_n 2), (13, .ifCond .ne 8), (16, .bipush 91), (18, .goto 5), (21, .bipush 44), (23, .invokevirtual 13), (26, .pop), (27, .aload_n 1), (28, .aload_n 0), (29, .getfield 7), (32, .iload_n 2), (33, .iaload), (34, .invokevirtual 19), (37, .pop), (38, .iinc 2 1), (41, .goto (-39)), (44, .aload_n 1), (45, .bipush 93), (47, .invokevirtual 13), (50, .pop), (51, .return_)]
theorem dk_131 : mj_dk prog_9_method_2_code kd_131 = true := by decide +kernel
/-- DiceOdds$Statement.writeInBraces(LDiceOdds$Statement;Ljava/lang/StringBuilder;)V -/
def kd_132 : List (Nat × Instr) := [(0, .aload_n 1), (1, .bipush 123), (3, .invokevirtual 68), (6, .pop), (7, .aload_n 0), (8, .aload_n 1), (9, .invokestatic 83), (12, .aload_n 1), (13, .bipush 125), (15, .invokevirtual 68), (18, .pop), (19, .return_)]
theorem dk_132 : mj_dk prog_11_method_5_code kd_132 = true := by decide +kernel
/-- DiceOddsLaw.run(LDiceOdds;I[J)I -/
def kd_133 : List (Nat × Instr) := [(0, .aload_n 2), (1, .iconst 0), (2, .aload_n 0), (3, .iload_n 1), (4, .invokevirtual 20), (7, .i2l), (8, .lastore), (9, .goto 9), (12, .astore_n 3), (13, .iconst 1), (14, .ireturn), (15, .astore_n 3), (16, .iconst 2), (17, .ireturn), (18, .iconst 0), (19, .ireturn)]
theorem dk_133 : mj_dk method_5_code kd_133 = true := by decide +kernel
/-- DiceOdds.run(I)I -/
def kd_134 : List (Nat × Instr) := [(0, .aload_n 0), (1, .iload_n 1), (2, .invokevirtual 76), (5, .astore_n 2), (6, .aload_n 2), (7, .invokevirtual 89), (10, .aload_n 0), (11, .getfield 32), (14, .invokevirtual 92), (17, .astore_n 3), (18, .aload_n 2), (19, .getfield 79), (22, .aload_n 3), (23, .aload_n 0), (24, .getfield 32), (27, .iconst 0), (28, .invokestatic 96), (31, .istore 4), (33, .iload 4), (35, .ifCond .eq 6), (38, .iload 4), (40, .ireturn), (41, .aload_n 3), (42, .getfield 100), (45, .ifCond .ne 6), (48, .bipush (-3)), (50, .ireturn), (51, .aload_n 2), (52, .aload_n 3), (53, .invokevirtual 105), (56, .iconst 0), (57, .ireturn)]
theorem dk_134 : mj_dk prog_1_method_8_code kd_134 = true := by decide +kernel
/-- DiceOdds$Bench.begin()LDiceOdds$States; -/
def kd_135 : List (Nat × Instr) := [(0, .aload_n 0), (1, .getfield 43), (4, .invokevirtual 60), (7, .aload_n 0), (8, .getfield 43), (11, .invokevirtual 63), (14, .aload_n 0), (15, .aload_n 0), (16, .getfield 43), (19, .getfield 66), (22, .putfield 57), (25, .aload_n 0), (26, .getfield 43), (29, .areturn)]
theorem dk_135 : mj_dk prog_2_method_2_code kd_135 = true := by decide +kernel
/-- DiceOdds$States.clear()V -/
def kd_136 : List (Nat × Instr) := [(0, .aload_n 0), (1, .iconst 0), (2, .putfield 19), (5, .return_)]
theorem dk_136 : mj_dk prog_12_method_2_code kd_136 = true := by decide +kernel
/-- DiceOdds$States.addZeros()V -/
def kd_137 : List (Nat × Instr) := [(0, .iconst 0), (1, .istore_n 1), (2, .iload_n 1), (3, .bipush 6), (5, .if_icmp .ge 16), (8, .aload_n 0), (9, .getfield 9), (12, .iload_n 1), (13, .iconst 0), (14, .iastore), (15, .iinc 1 1), (18, .goto (-16)), (21, .aload_n 0), (22, .getfield 15), (25, .iconst 0), (26, .lconst 1), (27, .lastore), (28, .aload_n 0), (29, .iconst 1), (30, .putfield 19), (33, .return_)]
theorem dk_137 : mj_dk prog_12_method_3_code kd_137 = true := by decide +kernel
/-- DiceOdds$Statement.doAll(LDiceOdds$Statement;LDiceOdds$States;LDiceOdds$Bench;I)I -/
def kd_138 : List (Nat × Instr) := [(0, .iconst 0), (1, .istore 4), (3, .aload_n 0), (4, .astore 5), (6, .aload 5), (8, .ifnull 55), (11, .iload 4), (13, .ifCond .ne 50), (16, .aload_n 1), (17, .getfield 86), (20, .ifCond .le 43), (23, .aload 5), (25, .aload_n 1), (26, .aload_n 2), (27, .iload_n 3), (28, .invokevirtual 91), (31, .istore 4), (33, .iload 4), (35, .ifCond .ne 18), (38, .aload_n 2), (39, .aload_n 2), (40, .getfield 95), (43, .aload_n 1), (44, .getfield 86), (47, .invokestatic 100), (50, .putfield 95), (53, .aload 5), (55, .getfield 9), (58, .astore 5), (60, .goto (-54)), (63, .iload 4), (65, .ireturn)]
theorem dk_138 : mj_dk prog_11_method_6_code kd_138 = true := by decide +kernel
/-- DiceOdds$Statement.doOnce(LDiceOdds$States;LDiceOdds$Bench;I)I -/
def kd_139 : List (Nat × Instr) := [(0, .aload_n 0), (1, .getfield 15), (4, .lookupswitch 59 #[(33, 36), (42, 51), (63, 43)]), (40, .aload_n 0), (41, .aload_n 1), (42, .aload_n 2), (43, .invokevirtual 106), (46, .ireturn), (47, .aload_n 0), (48, .aload_n 1), (49, .aload_n 2), (50, .iload_n 3), (51, .invokevirtual 110), (54, .ireturn), (55, .aload_n 0), (56, .aload_n 1), (57, .aload_n 2), (58, .iload_n 3), (59, .invokevirtual 113), (62, .ireturn), (63, .aload_n 0), (64, .aload_n 1), (65, .aload_n 2), (66, .invokevirtual 116), (69, .ireturn)]
theorem dk_139 : mj_dk prog_11_method_7_code kd_139 = true := by decide +kernel
/-- DiceOdds$Statement.keep(LDiceOdds$States;LDiceOdds$Bench;)I -/
def kd_140 : List (Nat × Instr) := [(0, .aload_n 2), (1, .getfield 119), (4, .astore_n 3), (5, .aload_n 3), (6, .invokevirtual 123), (9, .iconst 0), (10, .istore 4), (12, .iload 4), (14, .aload_n 1), (15, .getfield 86), (18, .if_icmp .ge 36), (21, .aload_n 2), (22, .aload_n 0), (23, .getfield 19), (26, .aload_n 1), (27, .iload 4), (29, .invokevirtual 126), (32, .ifCond .ne 5), (35, .iconst (-1)), (36, .ireturn), (37, .aload_n 3), (38, .aload_n 1), (39, .iload 4), (41, .aload_n 2), (42, .invokevirtual 138), (45, .invokevirtual 142), (48, .iinc 4 1), (51, .goto (-39)), (54, .aload_n 1), (55, .aload_n 3), (56, .invokevirtual 134), (59, .iconst 0), (60, .ireturn)]
theorem dk_140 : mj_dk prog_11_method_9_code kd_140 = true := by decide +kernel
