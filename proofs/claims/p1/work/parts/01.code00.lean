/-- DiceOdds.<init>()V -/
def kd_0 : List (Nat × Instr) := [(0, .aload_n 0), (1, .invokespecial 3), (4, .aload_n 0), (5, .new 9), (8, .dup), (9, .invokespecial 11), (12, .putfield 12), (15, .aload_n 0), (16, .iconst 3), (17, .anewarray 16), (20, .putfield 18), (23, .aload_n 0), (24, .new 22), (27, .dup), (28, .invokespecial 24), (31, .putfield 25), (34, .aload_n 0), (35, .new 29), (38, .dup), (39, .invokespecial 31), (42, .putfield 32), (45, .iconst 0), (46, .istore_n 1), (47, .iload_n 1), (48, .iconst 3), (49, .if_icmp .ge 22), (52, .aload_n 0), (53, .getfield 18), (56, .iload_n 1), (57, .new 16), (60, .dup), (61, .invokespecial 36), (64, .aastore), (65, .iinc 1 1), (68, .goto (-21)), (71, .return_)]
theorem dk_0 : mj_dk prog_1_method_1_code kd_0 = true := by decide +kernel
/-- java/lang/StringBuilder.<init>()V -/
def kd_1 : List (Nat × Instr) := [(0, .aload_n 0), (1, .bipush 16), (3, .invokespecial 1), (6, .return_)]
theorem dk_1 : mj_dk prog_26_method_1_code kd_1 = true := by decide +kernel
/-- java/lang/AbstractStringBuilder.<init>(I)V -/
def kd_2 : List (Nat × Instr) := [(0, .aload_n 0), (1, .invokespecial 3), (4, .getstatic 18), (7, .ifCond .eq 18), (10, .aload_n 0), (11, .iload_n 1), (12, .newarray .byte), (14, .putfield 15), (17, .aload_n 0), (18, .iconst 0), (19, .putfield 22), (22, .goto 16), (25, .aload_n 0), (26, .iload_n 1), (27, .invokestatic 26), (30, .putfield 15), (33, .aload_n 0), (34, .iconst 1), (35, .putfield 22), (38, .return_)]
theorem dk_2 : mj_dk prog_15_method_2_code kd_2 = true := by decide +kernel
/-- java/lang/StringUTF16.newBytesFor(I)[B -/
def kd_3 : List (Nat × Instr) := [(0, .iload_n 0), (1, .invokestatic 11), (4, .newarray .byte), (6, .areturn)]
theorem dk_3 : mj_dk prog_29_method_2_code kd_3 = true := by decide +kernel
/-- java/lang/StringUTF16.newBytesLength(I)I -/
def kd_4 : List (Nat × Instr) := [(0, .iload_n 0), (1, .ifCond .ge 11), (4, .new 17), (7, .dup), (8, .invokespecial 19), (11, .athrow), (12, .iload_n 0), (13, .ldc 20), (15, .if_icmp .lt 40), (18, .new 21), (21, .dup), (22, .new 23), (25, .dup), (26, .invokespecial 25), (29, .ldc 26), (31, .invokevirtual 28), (34, .iload_n 0), (35, .invokevirtual 32), (38, .ldc 35), (40, .invokevirtual 28), (43, .ldc 20), (45, .invokevirtual 32), (48, .invokevirtual 37), (51, .invokespecial 41), (54, .athrow), (55, .iload_n 0), (56, .iconst 1), (57, .ishl), (58, .ireturn)]
theorem dk_4 : mj_dk prog_29_method_3_code kd_4 = true := by decide +kernel
/-- DiceOdds$Parser.<init>()V -/
def kd_5 : List (Nat × Instr) := [(0, .aload_n 0), (1, .invokespecial 3), (4, .aload_n 0), (5, .sipush 160), (8, .newarray .char), (10, .putfield 9), (13, .aload_n 0), (14, .bipush 8), (16, .newarray .int), (18, .putfield 15), (21, .aload_n 0), (22, .iconst 0), (23, .putfield 19), (26, .aload_n 0), (27, .iconst 0), (28, .putfield 23), (31, .aload_n 0), (32, .iconst 0), (33, .putfield 26), (36, .aload_n 0), (37, .iconst 0), (38, .putfield 29), (41, .aload_n 0), (42, .sipush (-1000)), (45, .putfield 32), (48, .return_)]
theorem dk_5 : mj_dk prog_7_method_1_code kd_5 = true := by decide +kernel
/-- DiceOdds$Bench.<init>()V -/
def kd_6 : List (Nat × Instr) := [(0, .aload_n 0), (1, .invokespecial 3), (4, .aload_n 0), (5, .sipush 4598), (8, .newarray .int), (10, .putfield 11), (13, .aload_n 0), (14, .sipush 4598), (17, .newarray .long), (19, .putfield 15), (22, .aload_n 0), (23, .bipush 41), (25, .newarray .int), (27, .putfield 19), (30, .aload_n 0), (31, .iconst 0), (32, .putfield 22), (35, .aload_n 0), (36, .sipush 1999), (39, .newarray .long), (41, .putfield 26), (44, .aload_n 0), (45, .sipush 1999), (48, .newarray .int), (50, .putfield 29), (53, .aload_n 0), (54, .iconst 0), (55, .putfield 32), (58, .aload_n 0), (59, .bipush 7), (61, .bipush 121), (63, .multianewarray 35 2), (67, .putfield 37), (70, .aload_n 0), (71, .new 40), (74, .dup), (75, .invokespecial 42), (78, .putfield 43), (81, .aload_n 0), (82, .new 40), (85, .dup), (86, .invokespecial 42), (89, .putfield 47), (92, .aload_n 0), (93, .iconst 4), (94, .anewarray 40), (97, .putfield 50), (100, .aload_n 0), (101, .iconst 4), (102, .anewarray 40), (105, .putfield 54), (108, .aload_n 0), (109, .iconst 0), (110, .putfield 57), (113, .iconst 0), (114, .istore_n 1), (115, .iload_n 1), (116, .iconst 4), (117, .if_icmp .ge 35), (120, .aload_n 0), (121, .getfield 50), (124, .iload_n 1), (125, .new 40), (128, .dup), (129, .invokespecial 42), (132, .aastore), (133, .aload_n 0), (134, .getfield 54), (137, .iload_n 1), (138, .new 40), (141, .dup), (142, .invokespecial 42), (145, .aastore), (146, .iinc 1 1), (149, .goto (-34)), (152, .return_)]
theorem dk_6 : mj_dk prog_2_method_1_code kd_6 = true := by decide +kernel
/-- DiceOdds$States.<init>()V -/
def kd_7 : List (Nat × Instr) := [(0, .aload_n 0), (1, .invokespecial 3), (4, .aload_n 0), (5, .sipush 390), (8, .newarray .int), (10, .putfield 9), (13, .aload_n 0), (14, .bipush 64), (16, .newarray .long), (18, .putfield 15), (21, .aload_n 0), (22, .iconst 0), (23, .putfield 19), (26, .return_)]
theorem dk_7 : mj_dk prog_12_method_1_code kd_7 = true := by decide +kernel
/-- DiceOdds$Slot.<init>()V -/
def kd_8 : List (Nat × Instr) := [(0, .aload_n 0), (1, .invokespecial 3), (4, .aload_n 0), (5, .bipush 64), (7, .newarray .int), (9, .putfield 9), (12, .aload_n 0), (13, .bipush 64), (15, .newarray .long), (17, .putfield 15), (20, .aload_n 0), (21, .iconst 0), (22, .putfield 19), (25, .aload_n 0), (26, .aconst_null), (27, .putfield 23), (30, .aload_n 0), (31, .iconst 0), (32, .putfield 27), (35, .aload_n 0), (36, .lconst 0), (37, .putfield 31), (40, .return_)]
theorem dk_8 : mj_dk prog_10_method_1_code kd_8 = true := by decide +kernel
/-- DiceOdds.type(JI)I -/
def kd_9 : List (Nat × Instr) := [(0, .iload_n 3), (1, .iconst 1), (2, .if_icmp .lt 24), (5, .iload_n 3), (6, .bipush 8), (8, .if_icmp .gt 18), (11, .aload_n 0), (12, .getfield 12), (15, .invokevirtual 37), (18, .iload_n 3), (19, .iadd), (20, .sipush 160), (23, .if_icmp .le 7), (26, .sipush (-1000)), (29, .ireturn), (30, .iconst 0), (31, .istore 4), (33, .iload 4), (35, .iload_n 3), (36, .if_icmp .ge 35), (39, .lload_n 1), (40, .iload 4), (42, .invokestatic 41), (45, .istore 5), (47, .iload 5), (49, .bipush 33), (51, .if_icmp .lt 10), (54, .iload 5), (56, .bipush 126), (58, .if_icmp .le 7), (61, .sipush (-1000)), (64, .ireturn), (65, .iinc 4 1), (68, .goto (-35)), (71, .iload_n 3), (72, .iconst 1), (73, .isub), (74, .istore 4), (76, .iload 4), (78, .ifCond .lt 24), (81, .aload_n 0), (82, .getfield 12), (85, .lload_n 1), (86, .iload 4), (88, .invokestatic 41), (91, .i2c), (92, .invokevirtual 45), (95, .pop), (96, .iinc 4 (-1)), (99, .goto (-23)), (102, .aload_n 0), (103, .getfield 12), (106, .invokevirtual 37), (109, .ireturn)]
theorem dk_9 : mj_dk prog_1_method_2_code kd_9 = true := by decide +kernel
/-- java/lang/StringBuilder.length()I -/
def kd_10 : List (Nat × Instr) := [(0, .aload_n 0), (1, .invokespecial 343), (4, .ireturn)]
theorem dk_10 : mj_dk prog_26_method_93_code kd_10 = true := by decide +kernel
/-- java/lang/AbstractStringBuilder.length()I -/
def kd_11 : List (Nat × Instr) := [(0, .aload_n 0), (1, .getfield 79), (4, .ireturn)]
theorem dk_11 : mj_dk prog_15_method_6_code kd_11 = true := by decide +kernel
/-- DiceOdds.byteOf(JI)I -/
def kd_12 : List (Nat × Instr) := [(0, .lload_n 0), (1, .bipush 8), (3, .iload_n 2), (4, .imul), (5, .lshr), (6, .l2i), (7, .sipush 255), (10, .iand), (11, .ireturn)]
theorem dk_12 : mj_dk prog_1_method_26_code kd_12 = true := by decide +kernel
/-- java/lang/StringBuilder.append(C)Ljava/lang/StringBuilder; -/
def kd_13 : List (Nat × Instr) := [(0, .aload_n 0), (1, .iload_n 1), (2, .invokespecial 50), (5, .pop), (6, .aload_n 0), (7, .areturn)]
theorem dk_13 : mj_dk prog_26_method_14_code kd_13 = true := by decide +kernel
/-- java/lang/AbstractStringBuilder.append(C)Ljava/lang/AbstractStringBuilder; -/
def kd_14 : List (Nat × Instr) := [(0, .aload_n 0), (1, .aload_n 0), (2, .getfield 79), (5, .iconst 1), (6, .iadd), (7, .invokevirtual 100), (10, .aload_n 0), (11, .invokevirtual 83), (14, .ifCond .eq 31), (17, .iload_n 1), (18, .invokestatic 191), (21, .ifCond .eq 24), (24, .aload_n 0), (25, .getfield 15), (28, .aload_n 0), (29, .dup), (30, .getfield 79), (33, .dup_x1), (34, .iconst 1), (35, .iadd), (36, .putfield 79), (39, .iload_n 1), (40, .i2b), (41, .bastore), (42, .goto 33), (45, .aload_n 0), (46, .invokevirtual 83), (49, .ifCond .eq 7), (52, .aload_n 0), (53, .invokevirtual 195), (56, .aload_n 0), (57, .getfield 15), (60, .aload_n 0), (61, .dup), (62, .getfield 79), (65, .dup_x1), (66, .iconst 1), (67, .iadd), (68, .putfield 79), (71, .iload_n 1), (72, .invokestatic 197), (75, .aload_n 0), (76, .areturn)]
theorem dk_14 : mj_dk prog_15_method_31_code kd_14 = true := by decide +kernel
/-- java/lang/AbstractStringBuilder.ensureCapacityInternal(I)V -/
def kd_15 : List (Nat × Instr) := [(0, .aload_n 0), (1, .getfield 15), (4, .arraylength), (5, .aload_n 0), (6, .getfield 22), (9, .ishr), (10, .istore_n 2), (11, .iload_n 1), (12, .iload_n 2), (13, .isub), (14, .ifCond .le 24), (17, .aload_n 0), (18, .aload_n 0), (19, .getfield 15), (22, .aload_n 0), (23, .iload_n 1), (24, .invokevirtual 104), (27, .aload_n 0), (28, .getfield 22), (31, .ishl), (32, .invokestatic 108), (35, .putfield 15), (38, .return_)]
theorem dk_15 : mj_dk prog_15_method_9_code kd_15 = true := by decide +kernel
/-- java/lang/AbstractStringBuilder.newCapacity(I)I -/
def kd_16 : List (Nat × Instr) := [(0, .aload_n 0), (1, .getfield 15), (4, .arraylength), (5, .istore_n 2), (6, .iload_n 1), (7, .aload_n 0), (8, .getfield 22), (11, .ishl), (12, .istore_n 3), (13, .iload_n 3), (14, .iload_n 2), (15, .isub), (16, .istore 4), (18, .iload_n 2), (19, .iload 4), (21, .iload_n 2), (22, .iconst 2), (23, .aload_n 0), (24, .getfield 22), (27, .ishl), (28, .iadd), (29, .invokestatic 114), (32, .istore 5), (34, .iload 5), (36, .ldc 39), (38, .if_icmp .ne 13), (41, .new 120), (44, .dup), (45, .ldc 122), (47, .invokespecial 124), (50, .athrow), (51, .iload 5), (53, .aload_n 0), (54, .getfield 22), (57, .ishr), (58, .ireturn)]
theorem dk_16 : mj_dk prog_15_method_10_code kd_16 = true := by decide +kernel
/-- jdk/internal/util/ArraysSupport.newLength(III)I -/
def kd_17 : List (Nat × Instr) := [(0, .iload_n 0), (1, .iload_n 1), (2, .iload_n 2), (3, .invokestatic 194), (6, .iadd), (7, .istore_n 3), (8, .iconst 0), (9, .iload_n 3), (10, .if_icmp .ge 11), (13, .iload_n 3), (14, .ldc 200), (16, .if_icmp .gt 5), (19, .iload_n 3), (20, .ireturn), (21, .iload_n 0), (22, .iload_n 1), (23, .invokestatic 201), (26, .ireturn)]
theorem dk_17 : mj_dk prog_33_method_27_code kd_17 = true := by decide +kernel
/-- java/lang/Math.max(II)I -/
def kd_18 : List (Nat × Instr) := [(0, .iload_n 0), (1, .iload_n 1), (2, .if_icmp .lt 7), (5, .iload_n 0), (6, .goto 4), (9, .iload_n 1), (10, .ireturn)]
theorem dk_18 : mj_dk prog_23_method_65_code kd_18 = true := by decide +kernel
/-- jdk/internal/util/ArraysSupport.hugeLength(II)I -/
def kd_19 : List (Nat × Instr) := [(0, .iload_n 0), (1, .iload_n 1), (2, .iadd), (3, .istore_n 2), (4, .iload_n 2), (5, .ifCond .ge 44), (8, .new 204), (11, .dup), (12, .new 89), (15, .dup), (16, .invokespecial 91), (19, .ldc 206), (21, .invokevirtual 94), (24, .iload_n 0), (25, .invokevirtual 98), (28, .ldc 208), (30, .invokevirtual 94), (33, .iload_n 1), (34, .invokevirtual 98), (37, .ldc 210), (39, .invokevirtual 94), (42, .invokevirtual 101), (45, .invokespecial 212), (48, .athrow), (49, .iload_n 2), (50, .ldc 200), (52, .if_icmp .gt 6), (55, .ldc 200), (57, .ireturn), (58, .iload_n 2), (59, .ireturn)]
theorem dk_19 : mj_dk prog_33_method_28_code kd_19 = true := by decide +kernel
/-- java/util/Arrays.copyOf([BI)[B -/
def kd_20 : List (Nat × Instr) := [(0, .iload_n 1), (1, .aload_n 0), (2, .arraylength), (3, .if_icmp .ne 11), (6, .aload_n 0), (7, .invokevirtual 310), (10, .checkcast 311), (13, .areturn), (14, .iload_n 1), (15, .newarray .byte), (17, .astore_n 2), (18, .aload_n 0), (19, .iconst 0), (20, .aload_n 2), (21, .iconst 0), (22, .aload_n 0), (23, .arraylength), (24, .iload_n 1), (25, .invokestatic 304), (28, .invokestatic 150), (31, .aload_n 2), (32, .areturn)]
theorem dk_20 : mj_dk prog_32_method_121_code kd_20 = true := by decide +kernel
/-- java/lang/Math.min(II)I -/
def kd_21 : List (Nat × Instr) := [(0, .iload_n 0), (1, .iload_n 1), (2, .if_icmp .gt 7), (5, .iload_n 0), (6, .goto 4), (9, .iload_n 1), (10, .ireturn)]
theorem dk_21 : mj_dk prog_23_method_69_code kd_21 = true := by decide +kernel
/-- java/lang/AbstractStringBuilder.isLatin1()Z -/
def kd_22 : List (Nat × Instr) := [(0, .getstatic 18), (3, .ifCond .eq 14), (6, .aload_n 0), (7, .getfield 22), (10, .ifCond .ne 7), (13, .iconst 1), (14, .goto 4), (17, .iconst 0), (18, .ireturn)]
theorem dk_22 : mj_dk prog_15_method_68_code kd_22 = true := by decide +kernel
/-- java/lang/StringLatin1.canEncode(C)Z -/
def kd_23 : List (Nat × Instr) := [(0, .iload_n 0), (1, .sipush 255), (4, .if_icmp .gt 7), (7, .iconst 1), (8, .goto 4), (11, .iconst 0), (12, .ireturn)]
theorem dk_23 : mj_dk prog_28_method_3_code kd_23 = true := by decide +kernel
/-- java/lang/AbstractStringBuilder.inflate()V -/
def kd_24 : List (Nat × Instr) := [(0, .aload_n 0), (1, .invokevirtual 83), (4, .ifCond .ne 4), (7, .return_), (8, .aload_n 0), (9, .getfield 15), (12, .arraylength), (13, .invokestatic 26), (16, .astore_n 1), (17, .aload_n 0), (18, .getfield 15), (21, .iconst 0), (22, .aload_n 1), (23, .iconst 0), (24, .aload_n 0), (25, .getfield 79), (28, .invokestatic 125), (31, .aload_n 0), (32, .aload_n 1), (33, .putfield 15), (36, .aload_n 0), (37, .iconst 1), (38, .putfield 22), (41, .return_)]
theorem dk_24 : mj_dk prog_15_method_11_code kd_24 = true := by decide +kernel
/-- java/lang/StringLatin1.inflate([BI[BII)V -/
def kd_25 : List (Nat × Instr) := [(0, .aload_n 0), (1, .iload_n 1), (2, .aload_n 2), (3, .iload_n 3), (4, .iload 4), (6, .invokestatic 240), (9, .return_)]
theorem dk_25 : mj_dk prog_28_method_50_code kd_25 = true := by decide +kernel
/-- java/lang/StringUTF16.inflate([BI[BII)V -/
def kd_26 : List (Nat × Instr) := [(0, .iload_n 3), (1, .iload 4), (3, .aload_n 2), (4, .invokestatic 173), (7, .iconst 0), (8, .istore 5), (10, .iload 5), (12, .iload 4), (14, .if_icmp .ge 27), (17, .aload_n 2), (18, .iload_n 3), (19, .iinc 3 1), (22, .aload_n 0), (23, .iload_n 1), (24, .iinc 1 1), (27, .baload), (28, .sipush 255), (31, .iand), (32, .invokestatic 111), (35, .iinc 5 1), (38, .goto (-28)), (41, .return_)]
theorem dk_26 : mj_dk prog_29_method_86_code kd_26 = true := by decide +kernel
/-- java/lang/StringUTF16.checkBoundsOffCount(II[B)V -/
def kd_27 : List (Nat × Instr) := [(0, .iload_n 0), (1, .iload_n 1), (2, .aload_n 2), (3, .invokestatic 48), (6, .invokestatic 419), (9, .pop), (10, .return_)]
theorem dk_27 : mj_dk prog_29_method_94_code kd_27 = true := by decide +kernel
/-- java/lang/StringUTF16.length([B)I -/
def kd_28 : List (Nat × Instr) := [(0, .aload_n 0), (1, .arraylength), (2, .iconst 1), (3, .ishr), (4, .ireturn)]
theorem dk_28 : mj_dk prog_29_method_6_code kd_28 = true := by decide +kernel
/-- java/lang/String.checkBoundsOffCount(III)I -/
def kd_29 : List (Nat × Instr) := [(0, .iload_n 0), (1, .iload_n 1), (2, .iload_n 2), (3, .getstatic 1053), (6, .invokestatic 1065), (9, .ireturn)]
theorem dk_29 : mj_dk prog_25_method_157_code kd_29 = true := by decide +kernel
/-- jdk/internal/util/Preconditions.checkFromIndexSize(IIILjava/util/function/BiFunction;)I -/
def kd_30 : List (Nat × Instr) := [(0, .iload_n 2), (1, .iload_n 0), (2, .ior), (3, .iload_n 1), (4, .ior), (5, .ifCond .lt 10), (8, .iload_n 1), (9, .iload_n 2), (10, .iload_n 0), (11, .isub), (12, .if_icmp .le 11), (15, .aload_n 3), (16, .iload_n 0), (17, .iload_n 1), (18, .iload_n 2), (19, .invokestatic 103), (22, .athrow), (23, .iload_n 0), (24, .ireturn)]
theorem dk_30 : mj_dk prog_34_method_13_code kd_30 = true := by decide +kernel
/-- java/lang/StringUTF16.putChar([BII)V -/
def kd_31 : List (Nat × Instr) := [(0, .getstatic 44), (3, .ifCond .ne 25), (6, .iload_n 1), (7, .ifCond .lt 11), (10, .iload_n 1), (11, .aload_n 0), (12, .invokestatic 48), (15, .if_icmp .lt 13), (18, .new 52), (21, .dup), (22, .ldc 54), (24, .invokespecial 56), (27, .athrow), (28, .iload_n 1), (29, .iconst 1), (30, .ishl), (31, .istore_n 1), (32, .aload_n 0), (33, .iload_n 1), (34, .iinc 1 1), (37, .iload_n 2), (38, .getstatic 59), (41, .ishr), (42, .i2b), (43, .bastore), (44, .aload_n 0), (45, .iload_n 1), (46, .iload_n 2), (47, .getstatic 63), (50, .ishr), (51, .i2b), (52, .bastore), (53, .return_)]
theorem dk_31 : mj_dk prog_29_method_4_code kd_31 = true := by decide +kernel
/-- java/lang/StringUTF16.putCharSB([BII)V -/
def kd_32 : List (Nat × Instr) := [(0, .iload_n 1), (1, .aload_n 0), (2, .invokestatic 67), (5, .aload_n 0), (6, .iload_n 1), (7, .iload_n 2), (8, .invokestatic 111), (11, .return_)]
theorem dk_32 : mj_dk prog_29_method_71_code kd_32 = true := by decide +kernel
/-- java/lang/StringUTF16.checkIndex(I[B)V -/
def kd_33 : List (Nat × Instr) := [(0, .iload_n 0), (1, .aload_n 1), (2, .invokestatic 48), (5, .invokestatic 414), (8, .return_)]
theorem dk_33 : mj_dk prog_29_method_91_code kd_33 = true := by decide +kernel
/-- java/lang/String.checkIndex(II)V -/
def kd_34 : List (Nat × Instr) := [(0, .iload_n 0), (1, .iload_n 1), (2, .getstatic 1053), (5, .invokestatic 1059), (8, .pop), (9, .return_)]
theorem dk_34 : mj_dk prog_25_method_155_code kd_34 = true := by decide +kernel
/-- jdk/internal/util/Preconditions.checkIndex(IILjava/util/function/BiFunction;)I -/
def kd_35 : List (Nat × Instr) := [(0, .iload_n 0), (1, .ifCond .lt 8), (4, .iload_n 0), (5, .iload_n 1), (6, .if_icmp .lt 10), (9, .aload_n 2), (10, .iload_n 0), (11, .iload_n 1), (12, .invokestatic 95), (15, .athrow), (16, .iload_n 0), (17, .ireturn)]
theorem dk_35 : mj_dk prog_34_method_11_code kd_35 = true := by decide +kernel
/-- DiceOdds.wipe()I -/
def kd_36 : List (Nat × Instr) := [(0, .aload_n 0), (1, .getfield 12), (4, .invokevirtual 37), (7, .istore_n 1), (8, .aload_n 0), (9, .getfield 12), (12, .iconst 0), (13, .invokevirtual 49), (16, .iload_n 1), (17, .ireturn)]
theorem dk_36 : mj_dk prog_1_method_3_code kd_36 = true := by decide +kernel
/-- java/lang/StringBuilder.setLength(I)V -/
def kd_37 : List (Nat × Instr) := [(0, .aload_n 0), (1, .iload_n 1), (2, .invokespecial 333), (5, .return_)]
theorem dk_37 : mj_dk prog_26_method_89_code kd_37 = true := by decide +kernel
/-- java/lang/AbstractStringBuilder.setLength(I)V -/
def kd_38 : List (Nat × Instr) := [(0, .iload_n 1), (1, .ifCond .ge 12), (4, .new 129), (7, .dup), (8, .iload_n 1), (9, .invokespecial 131), (12, .athrow), (13, .aload_n 0), (14, .iload_n 1), (15, .invokevirtual 100), (18, .aload_n 0), (19, .getfield 79), (22, .iload_n 1), (23, .if_icmp .ge 40), (26, .aload_n 0), (27, .invokevirtual 83), (30, .ifCond .eq 18), (33, .aload_n 0), (34, .getfield 15), (37, .aload_n 0), (38, .getfield 79), (41, .iload_n 1), (42, .invokestatic 133), (45, .goto 31), (48, .aload_n 0), (49, .getfield 15), (52, .aload_n 0), (53, .getfield 79), (56, .iload_n 1), (57, .invokestatic 137), (60, .goto 16), (63, .aload_n 0), (64, .getfield 79), (67, .iload_n 1), (68, .if_icmp .le 8), (71, .aload_n 0), (72, .iconst 1), (73, .putfield 73), (76, .aload_n 0), (77, .iload_n 1), (78, .putfield 79), (81, .return_)]
theorem dk_38 : mj_dk prog_15_method_13_code kd_38 = true := by decide +kernel
/-- java/lang/StringBuilder.append(Ljava/lang/String;)Ljava/lang/StringBuilder; -/
def kd_39 : List (Nat × Instr) := [(0, .aload_n 0), (1, .aload_n 1), (2, .invokespecial 29), (5, .pop), (6, .aload_n 0), (7, .areturn)]
theorem dk_39 : mj_dk prog_26_method_7_code kd_39 = true := by decide +kernel
/-- java/lang/AbstractStringBuilder.append(Ljava/lang/String;)Ljava/lang/AbstractStringBuilder; -/
def kd_40 : List (Nat × Instr) := [(0, .aload_n 1), (1, .ifnonnull 8), (4, .aload_n 0), (5, .invokevirtual 204), (8, .areturn), (9, .aload_n 1), (10, .invokevirtual 32), (13, .istore_n 2), (14, .aload_n 0), (15, .aload_n 0), (16, .getfield 79), (19, .iload_n 2), (20, .iadd), (21, .invokevirtual 100), (24, .aload_n 0), (25, .aload_n 0), (26, .getfield 79), (29, .aload_n 1), (30, .invokevirtual 208), (33, .aload_n 0), (34, .dup), (35, .getfield 79), (38, .iload_n 2), (39, .iadd), (40, .putfield 79), (43, .aload_n 0), (44, .areturn)]
theorem dk_40 : mj_dk prog_15_method_22_code kd_40 = true := by decide +kernel
/-- java/lang/AbstractStringBuilder.appendNull()Ljava/lang/AbstractStringBuilder; -/
def kd_41 : List (Nat × Instr) := [(0, .aload_n 0), (1, .aload_n 0), (2, .getfield 79), (5, .iconst 4), (6, .iadd), (7, .invokevirtual 100), (10, .aload_n 0), (11, .getfield 79), (14, .istore_n 1), (15, .aload_n 0), (16, .getfield 15), (19, .astore_n 2), (20, .aload_n 0), (21, .invokevirtual 83), (24, .ifCond .eq 38), (27, .aload_n 2), (28, .iload_n 1), (29, .iinc 1 1), (32, .bipush 110), (34, .bastore), (35, .aload_n 2), (36, .iload_n 1), (37, .iinc 1 1), (40, .bipush 117), (42, .bastore), (43, .aload_n 2), (44, .iload_n 1), (45, .iinc 1 1), (48, .bipush 108), (50, .bastore), (51, .aload_n 2), (52, .iload_n 1), (53, .iinc 1 1), (56, .bipush 108), (58, .bastore), (59, .goto 17), (62, .aload_n 2), (63, .iload_n 1), (64, .bipush 110), (66, .bipush 117), (68, .bipush 108), (70, .bipush 108), (72, .invokestatic 226), (75, .istore_n 1), (76, .aload_n 0), (77, .iload_n 1), (78, .putfield 79), (81, .aload_n 0), (82, .areturn)]
theorem dk_41 : mj_dk prog_15_method_26_code kd_41 = true := by decide +kernel
/-- java/lang/StringUTF16.putCharsAt([BICCCC)I -/
def kd_42 : List (Nat × Instr) := [(0, .iload_n 1), (1, .iconst 4), (2, .iadd), (3, .istore 6), (5, .iload_n 1), (6, .iload 6), (8, .aload_n 0), (9, .invokestatic 96), (12, .aload_n 0), (13, .iload_n 1), (14, .iinc 1 1), (17, .iload_n 2), (18, .invokestatic 111), (21, .aload_n 0), (22, .iload_n 1), (23, .iinc 1 1), (26, .iload_n 3), (27, .invokestatic 111), (30, .aload_n 0), (31, .iload_n 1), (32, .iinc 1 1), (35, .iload 4), (37, .invokestatic 111), (40, .aload_n 0), (41, .iload_n 1), (42, .iinc 1 1), (45, .iload 5), (47, .invokestatic 111), (50, .getstatic 44), (53, .ifCond .ne 17), (56, .iload_n 1), (57, .iload 6), (59, .if_icmp .eq 11), (62, .new 52), (65, .dup), (66, .invokespecial 66), (69, .athrow), (70, .iload 6), (72, .ireturn)]
theorem dk_42 : mj_dk prog_29_method_81_code kd_42 = true := by decide +kernel
/-- java/lang/StringUTF16.checkBoundsBeginEnd(II[B)V -/
def kd_43 : List (Nat × Instr) := [(0, .iload_n 0), (1, .iload_n 1), (2, .aload_n 2), (3, .invokestatic 48), (6, .invokestatic 241), (9, .return_)]
theorem dk_43 : mj_dk prog_29_method_93_code kd_43 = true := by decide +kernel
/-- java/lang/String.checkBoundsBeginEnd(III)V -/
def kd_44 : List (Nat × Instr) := [(0, .iload_n 0), (1, .iload_n 1), (2, .iload_n 2), (3, .getstatic 1053), (6, .invokestatic 1062), (9, .pop), (10, .return_)]
theorem dk_44 : mj_dk prog_25_method_158_code kd_44 = true := by decide +kernel
/-- jdk/internal/util/Preconditions.checkFromToIndex(IIILjava/util/function/BiFunction;)I -/
def kd_45 : List (Nat × Instr) := [(0, .iload_n 0), (1, .ifCond .lt 13), (4, .iload_n 0), (5, .iload_n 1), (6, .if_icmp .gt 8), (9, .iload_n 1), (10, .iload_n 2), (11, .if_icmp .le 11), (14, .aload_n 3), (15, .iload_n 0), (16, .iload_n 1), (17, .iload_n 2), (18, .invokestatic 99), (21, .athrow), (22, .iload_n 0), (23, .ireturn)]
theorem dk_45 : mj_dk prog_34_method_12_code kd_45 = true := by decide +kernel
/-- java/lang/String.length()I -/
def kd_46 : List (Nat × Instr) := [(0, .aload_n 0), (1, .getfield 9), (4, .arraylength), (5, .aload_n 0), (6, .invokevirtual 335), (9, .ishr), (10, .ireturn)]
theorem dk_46 : mj_dk prog_25_method_54_code kd_46 = true := by decide +kernel
/-- java/lang/String.coder()B -/
def kd_47 : List (Nat × Instr) := [(0, .getstatic 38), (3, .ifCond .eq 10), (6, .aload_n 0), (7, .getfield 15), (10, .goto 4), (13, .iconst 1), (14, .ireturn)]
theorem dk_47 : mj_dk prog_25_method_152_code kd_47 = true := by decide +kernel
/-- java/lang/AbstractStringBuilder.putStringAt(ILjava/lang/String;)V -/
def kd_48 : List (Nat × Instr) := [(0, .aload_n 0), (1, .aload_n 2), (2, .invokevirtual 397), (5, .aload_n 2), (6, .aload_n 0), (7, .getfield 15), (10, .iload_n 1), (11, .aload_n 0), (12, .getfield 22), (15, .invokevirtual 399), (18, .return_)]
theorem dk_48 : mj_dk prog_15_method_73_code kd_48 = true := by decide +kernel
/-- java/lang/AbstractStringBuilder.inflateIfNeededFor(Ljava/lang/String;)V -/
def kd_49 : List (Nat × Instr) := [(0, .getstatic 18), (3, .ifCond .eq 18), (6, .aload_n 0), (7, .getfield 22), (10, .aload_n 1), (11, .invokevirtual 40), (14, .if_icmp .eq 7), (17, .aload_n 0), (18, .invokevirtual 195), (21, .return_)]
theorem dk_49 : mj_dk prog_15_method_71_code kd_49 = true := by decide +kernel
/-- java/lang/String.getBytes([BIB)V -/
def kd_50 : List (Nat × Instr) := [(0, .aload_n 0), (1, .invokevirtual 335), (4, .iload_n 3), (5, .if_icmp .ne 23), (8, .aload_n 0), (9, .getfield 9), (12, .iconst 0), (13, .aload_n 1), (14, .iload_n 2), (15, .iload_n 3), (16, .ishl), (17, .aload_n 0), (18, .getfield 9), (21, .arraylength), (22, .invokestatic 212), (25, .goto 18), (28, .aload_n 0), (29, .getfield 9), (32, .iconst 0), (33, .aload_n 1), (34, .iload_n 2), (35, .aload_n 0), (36, .getfield 9), (39, .arraylength), (40, .invokestatic 106), (43, .return_)]
theorem dk_50 : mj_dk prog_25_method_147_code kd_50 = true := by decide +kernel
/-- java/lang/StringBuilder.append(I)Ljava/lang/StringBuilder; -/
def kd_51 : List (Nat × Instr) := [(0, .aload_n 0), (1, .iload_n 1), (2, .invokespecial 53), (5, .pop), (6, .aload_n 0), (7, .areturn)]
theorem dk_51 : mj_dk prog_26_method_15_code kd_51 = true := by decide +kernel
/-- java/lang/AbstractStringBuilder.append(I)Ljava/lang/AbstractStringBuilder; -/
def kd_52 : List (Nat × Instr) := [(0, .aload_n 0), (1, .getfield 79), (4, .istore_n 2), (5, .iload_n 2), (6, .iload_n 1), (7, .invokestatic 245), (10, .iadd), (11, .istore_n 3), (12, .aload_n 0), (13, .iload_n 3), (14, .invokevirtual 100), (17, .aload_n 0), (18, .invokevirtual 83), (21, .ifCond .eq 16), (24, .iload_n 1), (25, .iload_n 3), (26, .aload_n 0), (27, .getfield 15), (30, .invokestatic 248), (33, .pop), (34, .goto 14), (37, .iload_n 1), (38, .iload_n 2), (39, .iload_n 3), (40, .aload_n 0), (41, .getfield 15), (44, .invokestatic 251), (47, .pop), (48, .aload_n 0), (49, .iload_n 3), (50, .putfield 79), (53, .aload_n 0), (54, .areturn)]
theorem dk_52 : mj_dk prog_15_method_32_code kd_52 = true := by decide +kernel
/-- java/lang/Integer.stringSize(I)I -/
def kd_53 : List (Nat × Instr) := [(0, .iconst 1), (1, .istore_n 1), (2, .iload_n 0), (3, .ifCond .lt 8), (6, .iconst 0), (7, .istore_n 1), (8, .iload_n 0), (9, .ineg), (10, .istore_n 0), (11, .bipush (-10)), (13, .istore_n 2), (14, .iconst 1), (15, .istore_n 3), (16, .iload_n 3), (17, .bipush 10), (19, .if_icmp .ge 23), (22, .iload_n 0), (23, .iload_n 2), (24, .if_icmp .le 7), (27, .iload_n 3), (28, .iload_n 1), (29, .iadd), (30, .ireturn), (31, .bipush 10), (33, .iload_n 2), (34, .imul), (35, .istore_n 2), (36, .iinc 3 1), (39, .goto (-23)), (42, .bipush 10), (44, .iload_n 1), (45, .iadd), (46, .ireturn)]
theorem dk_53 : mj_dk prog_22_method_13_code kd_53 = true := by decide +kernel
/-- java/lang/Integer.getChars(II[B)I -/
def kd_54 : List (Nat × Instr) := [(0, .iload_n 1), (1, .istore 5), (3, .iload_n 0), (4, .ifCond .ge 7), (7, .iconst 1), (8, .goto 4), (11, .iconst 0), (12, .istore 6), (14, .iload 6), (16, .ifCond .ne 6), (19, .iload_n 0), (20, .ineg), (21, .istore_n 0), (22, .iload_n 0), (23, .bipush (-100)), (25, .if_icmp .gt 47), (28, .iload_n 0), (29, .bipush 100), (31, .idiv), (32, .istore_n 3), (33, .iload_n 3), (34, .bipush 100), (36, .imul), (37, .iload_n 0), (38, .isub), (39, .istore 4), (41, .iload_n 3), (42, .istore_n 0), (43, .aload_n 2), (44, .iinc 5 (-1)), (47, .iload 5), (49, .getstatic 83), (52, .iload 4), (54, .baload), (55, .bastore), (56, .aload_n 2), (57, .iinc 5 (-1)), (60, .iload 5), (62, .getstatic 87), (65, .iload 4), (67, .baload), (68, .bastore), (69, .goto (-47)), (72, .aload_n 2), (73, .iinc 5 (-1)), (76, .iload 5), (78, .getstatic 83), (81, .iload_n 0), (82, .ineg), (83, .baload), (84, .bastore), (85, .iload_n 0), (86, .bipush (-9)), (88, .if_icmp .ge 16), (91, .aload_n 2), (92, .iinc 5 (-1)), (95, .iload 5), (97, .getstatic 87), (100, .iload_n 0), (101, .ineg), (102, .baload), (103, .bastore), (104, .iload 6), (106, .ifCond .eq 12), (109, .aload_n 2), (110, .iinc 5 (-1)), (113, .iload 5), (115, .bipush 45), (117, .bastore), (118, .iload 5), (120, .ireturn)]
theorem dk_54 : mj_dk prog_22_method_12_code kd_54 = true := by decide +kernel
/-- java/lang/StringUTF16.getChars(III[B)I -/
def kd_55 : List (Nat × Instr) := [(0, .iload_n 1), (1, .iload_n 2), (2, .aload_n 3), (3, .invokestatic 96), (6, .iload_n 0), (7, .iload_n 2), (8, .aload_n 3), (9, .invokestatic 393), (12, .istore 4), (14, .getstatic 44), (17, .ifCond .ne 17), (20, .iload_n 1), (21, .iload 4), (23, .if_icmp .eq 11), (26, .new 52), (29, .dup), (30, .invokespecial 66), (33, .athrow), (34, .iload 4), (36, .ireturn)]
theorem dk_55 : mj_dk prog_29_method_77_code kd_55 = true := by decide +kernel
/-- java/lang/StringUTF16.getChars(II[B)I -/
def kd_56 : List (Nat × Instr) := [(0, .iload_n 1), (1, .istore 5), (3, .iload_n 0), (4, .ifCond .ge 7), (7, .iconst 1), (8, .goto 4), (11, .iconst 0), (12, .istore 6), (14, .iload 6), (16, .ifCond .ne 6), (19, .iload_n 0), (20, .ineg), (21, .istore_n 0), (22, .iload_n 0), (23, .bipush (-100)), (25, .if_icmp .gt 51), (28, .iload_n 0), (29, .bipush 100), (31, .idiv), (32, .istore_n 3), (33, .iload_n 3), (34, .bipush 100), (36, .imul), (37, .iload_n 0), (38, .isub), (39, .istore 4), (41, .iload_n 3), (42, .istore_n 0), (43, .aload_n 2), (44, .iinc 5 (-1)), (47, .iload 5), (49, .getstatic 403), (52, .iload 4), (54, .baload), (55, .invokestatic 111), (58, .aload_n 2), (59, .iinc 5 (-1)), (62, .iload 5), (64, .getstatic 407), (67, .iload 4), (69, .baload), (70, .invokestatic 111), (73, .goto (-51)), (76, .aload_n 2), (77, .iinc 5 (-1)), (80, .iload 5), (82, .getstatic 403), (85, .iload_n 0), (86, .ineg), (87, .baload), (88, .invokestatic 111), (91, .iload_n 0), (92, .bipush (-9)), (94, .if_icmp .ge 18), (97, .aload_n 2), (98, .iinc 5 (-1)), (101, .iload 5), (103, .getstatic 407), (106, .iload_n 0), (107, .ineg), (108, .baload), (109, .invokestatic 111), (112, .iload 6), (114, .ifCond .eq 14), (117, .aload_n 2), (118, .iinc 5 (-1)), (121, .iload 5), (123, .bipush 45), (125, .invokestatic 111), (128, .iload 5), (130, .ireturn)]
theorem dk_56 : mj_dk prog_29_method_89_code kd_56 = true := by decide +kernel
/-- java/lang/StringBuilder.toString()Ljava/lang/String; -/
def kd_57 : List (Nat × Instr) := [(0, .new 18), (3, .dup), (4, .aload_n 0), (5, .invokespecial 137), (8, .areturn)]
theorem dk_57 : mj_dk prog_26_method_42_code kd_57 = true := by decide +kernel
/-- java/lang/String.<init>(Ljava/lang/StringBuilder;)V -/
def kd_58 : List (Nat × Instr) := [(0, .aload_n 0), (1, .aload_n 1), (2, .aconst_null), (3, .invokespecial 489), (6, .return_)]
theorem dk_58 : mj_dk prog_25_method_53_code kd_58 = true := by decide +kernel
/-- java/lang/String.<init>(Ljava/lang/AbstractStringBuilder;Ljava/lang/Void;)V -/
def kd_59 : List (Nat × Instr) := [(0, .aload_n 0), (1, .invokespecial 1), (4, .aload_n 1), (5, .invokevirtual 552), (8, .astore_n 3), (9, .aload_n 1), (10, .invokevirtual 549), (13, .istore 4), (15, .aload_n 1), (16, .invokevirtual 1047), (19, .ifCond .eq 22), (22, .aload_n 0), (23, .iconst 0), (24, .putfield 15), (27, .aload_n 0), (28, .aload_n 3), (29, .iconst 0), (30, .iload 4), (32, .invokestatic 54), (35, .putfield 9), (38, .goto 59), (41, .getstatic 38), (44, .ifCond .eq 35), (47, .aload_n 1), (48, .getfield 1048), (51, .ifCond .eq 28), (54, .aload_n 0), (55, .aload_n 3), (56, .iconst 0), (57, .iload 4), (59, .invokestatic 1051), (62, .putfield 9), (65, .aload_n 0), (66, .aload_n 0), (67, .getfield 9), (70, .iload 4), (72, .invokestatic 47), (75, .putfield 15), (78, .return_), (79, .aload_n 0), (80, .iconst 1), (81, .putfield 15), (84, .aload_n 0), (85, .aload_n 3), (86, .iconst 0), (87, .iload 4), (89, .iconst 1), (90, .ishl), (91, .invokestatic 54), (94, .putfield 9), (97, .return_)]
theorem dk_59 : mj_dk prog_25_method_150_code kd_59 = true := by decide +kernel
/-- java/lang/AbstractStringBuilder.getValue()[B -/
def kd_60 : List (Nat × Instr) := [(0, .aload_n 0), (1, .getfield 15), (4, .areturn)]
theorem dk_60 : mj_dk prog_15_method_64_code kd_60 = true := by decide +kernel
/-- java/util/Arrays.copyOfRange([BII)[B -/
def kd_61 : List (Nat × Instr) := [(0, .iload_n 1), (1, .ifCond .ne 9), (4, .iload_n 2), (5, .aload_n 0), (6, .arraylength), (7, .if_icmp .eq 10), (10, .aload_n 0), (11, .iload_n 1), (12, .iload_n 2), (13, .invokestatic 339), (16, .areturn), (17, .aload_n 0), (18, .invokevirtual 310), (21, .checkcast 311), (24, .areturn)]
theorem dk_61 : mj_dk prog_32_method_132_code kd_61 = true := by decide +kernel
/-- java/util/Arrays.copyOfRangeByte([BII)[B -/
def kd_62 : List (Nat × Instr) := [(0, .iload_n 1), (1, .iload_n 2), (2, .invokestatic 343), (5, .iload_n 2), (6, .iload_n 1), (7, .isub), (8, .istore_n 3), (9, .iload_n 3), (10, .newarray .byte), (12, .astore 4), (14, .aload_n 0), (15, .iload_n 1), (16, .aload 4), (18, .iconst 0), (19, .aload_n 0), (20, .arraylength), (21, .iload_n 1), (22, .isub), (23, .iload_n 3), (24, .invokestatic 304), (27, .invokestatic 150), (30, .aload 4), (32, .areturn)]
theorem dk_62 : mj_dk prog_32_method_133_code kd_62 = true := by decide +kernel
/-- java/util/Arrays.checkLength(II)V -/
def kd_63 : List (Nat × Instr) := [(0, .iload_n 1), (1, .iload_n 0), (2, .if_icmp .ge 35), (5, .new 43), (8, .dup), (9, .new 45), (12, .dup), (13, .invokespecial 47), (16, .iload_n 0), (17, .invokevirtual 54), (20, .ldc_w 337), (23, .invokevirtual 50), (26, .iload_n 1), (27, .invokevirtual 54), (30, .invokevirtual 61), (33, .invokespecial 65), (36, .athrow), (37, .return_)]
theorem dk_63 : mj_dk prog_32_method_131_code kd_63 = true := by decide +kernel
/-- java/lang/StringUTF16.compress([BII)[B -/
def kd_64 : List (Nat × Instr) := [(0, .iload_n 2), (1, .newarray .byte), (3, .astore_n 3), (4, .aload_n 0), (5, .iload_n 1), (6, .aload_n 3), (7, .iconst 0), (8, .iload_n 2), (9, .invokestatic 123), (12, .istore 4), (14, .iload 4), (16, .iload_n 2), (17, .if_icmp .eq 47), (20, .aload_n 0), (21, .iload_n 1), (22, .iconst 1), (23, .ishl), (24, .iload_n 1), (25, .iload_n 2), (26, .iadd), (27, .invokestatic 11), (30, .invokestatic 126), (33, .astore 5), (35, .aload 5), (37, .iload 4), (39, .invokestatic 71), (42, .sipush 255), (45, .if_icmp .gt 16), (48, .aload 5), (50, .iconst 0), (51, .aload_n 3), (52, .iconst 0), (53, .iload_n 2), (54, .invokestatic 123), (57, .iload_n 2), (58, .if_icmp .eq 6), (61, .aload 5), (63, .areturn), (64, .aload_n 3), (65, .areturn)]
theorem dk_64 : mj_dk prog_29_method_17_code kd_64 = true := by decide +kernel
/-- java/lang/StringUTF16.compress([BI[BII)I -/
def kd_65 : List (Nat × Instr) := [(0, .iload_n 1), (1, .iload 4), (3, .aload_n 0), (4, .invokestatic 173), (7, .iconst 0), (8, .istore 5), (10, .iload 5), (12, .iload 4), (14, .if_icmp .ge 39), (17, .aload_n 0), (18, .iload_n 1), (19, .invokestatic 71), (22, .istore 6), (24, .iload 6), (26, .sipush 255), (29, .if_icmp .le 6), (32, .iload 5), (34, .ireturn), (35, .aload_n 2), (36, .iload_n 3), (37, .iload 6), (39, .i2b), (40, .bastore), (41, .iinc 1 1), (44, .iinc 3 1), (47, .iinc 5 1), (50, .goto (-40)), (53, .iload 4), (55, .ireturn)]
theorem dk_65 : mj_dk prog_29_method_22_code kd_65 = true := by decide +kernel
/-- java/lang/StringUTF16.getChar([BI)C -/
def kd_66 : List (Nat × Instr) := [(0, .getstatic 44), (3, .ifCond .ne 25), (6, .iload_n 1), (7, .ifCond .lt 11), (10, .iload_n 1), (11, .aload_n 0), (12, .invokestatic 48), (15, .if_icmp .lt 13), (18, .new 52), (21, .dup), (22, .ldc 54), (24, .invokespecial 56), (27, .athrow), (28, .iload_n 1), (29, .iconst 1), (30, .ishl), (31, .istore_n 1), (32, .aload_n 0), (33, .iload_n 1), (34, .iinc 1 1), (37, .baload), (38, .sipush 255), (41, .iand), (42, .getstatic 59), (45, .ishl), (46, .aload_n 0), (47, .iload_n 1), (48, .baload), (49, .sipush 255), (52, .iand), (53, .getstatic 63), (56, .ishl), (57, .ior), (58, .i2c), (59, .ireturn)]
theorem dk_66 : mj_dk prog_29_method_5_code kd_66 = true := by decide +kernel
/-- java/lang/StringUTF16.coderFromArrayLen([BI)B -/
def kd_67 : List (Nat × Instr) := [(0, .iload_n 1), (1, .aload_n 0), (2, .arraylength), (3, .isub), (4, .bipush 31), (6, .iushr), (7, .i2b), (8, .ireturn)]
theorem dk_67 : mj_dk prog_29_method_15_code kd_67 = true := by decide +kernel
/-- java/lang/StringLatin1.fillNull([BII)V -/
def kd_68 : List (Nat × Instr) := [(0, .aload_n 0), (1, .iload_n 1), (2, .iload_n 2), (3, .iconst 0), (4, .invokestatic 236), (7, .return_)]
theorem dk_68 : mj_dk prog_28_method_48_code kd_68 = true := by decide +kernel
/-- java/util/Arrays.fill([BIIB)V -/
def kd_69 : List (Nat × Instr) := [(0, .aload_n 0), (1, .arraylength), (2, .iload_n 1), (3, .iload_n 2), (4, .invokestatic 13), (7, .iload_n 1), (8, .istore 4), (10, .iload 4), (12, .iload_n 2), (13, .if_icmp .ge 14), (16, .aload_n 0), (17, .iload 4), (19, .iload_n 3), (20, .bastore), (21, .iinc 4 1), (24, .goto (-14)), (27, .return_)]
theorem dk_69 : mj_dk prog_32_method_110_code kd_69 = true := by decide +kernel
/-- java/util/Arrays.rangeCheck(III)V -/
def kd_70 : List (Nat × Instr) := [(0, .iload_n 1), (1, .iload_n 2), (2, .if_icmp .le 44), (5, .new 43), (8, .dup), (9, .new 45), (12, .dup), (13, .invokespecial 47), (16, .ldc 48), (18, .invokevirtual 50), (21, .iload_n 1), (22, .invokevirtual 54), (25, .ldc 57), (27, .invokevirtual 50), (30, .iload_n 2), (31, .invokevirtual 54), (34, .ldc 59), (36, .invokevirtual 50), (39, .invokevirtual 61), (42, .invokespecial 65), (45, .athrow), (46, .iload_n 1), (47, .ifCond .ge 12), (50, .new 68), (53, .dup), (54, .iload_n 1), (55, .invokespecial 70), (58, .athrow), (59, .iload_n 2), (60, .iload_n 0), (61, .if_icmp .le 12), (64, .new 68), (67, .dup), (68, .iload_n 2), (69, .invokespecial 70), (72, .athrow), (73, .return_)]
theorem dk_70 : mj_dk prog_32_method_30_code kd_70 = true := by decide +kernel
/-- java/lang/StringUTF16.fillNull([BII)V -/
def kd_71 : List (Nat × Instr) := [(0, .aload_n 0), (1, .iload_n 1), (2, .iconst 1), (3, .ishl), (4, .iload_n 2), (5, .iconst 1), (6, .ishl), (7, .iconst 0), (8, .invokestatic 380), (11, .return_)]
theorem dk_71 : mj_dk prog_29_method_70_code kd_71 = true := by decide +kernel
/-- DiceOdds.character(I)I -/
def kd_72 : List (Nat × Instr) := [(0, .iload_n 1), (1, .ifCond .lt 25), (4, .iload_n 1), (5, .aload_n 0), (6, .getfield 12), (9, .invokevirtual 37), (12, .if_icmp .ge 14), (15, .aload_n 0), (16, .getfield 12), (19, .iload_n 1), (20, .invokevirtual 53), (23, .goto 6), (26, .sipush (-1000)), (29, .ireturn)]
theorem dk_72 : mj_dk prog_1_method_4_code kd_72 = true := by decide +kernel
/-- java/lang/StringBuilder.charAt(I)C -/
def kd_73 : List (Nat × Instr) := [(0, .aload_n 0), (1, .iload_n 1), (2, .invokespecial 329), (5, .ireturn)]
theorem dk_73 : mj_dk prog_26_method_88_code kd_73 = true := by decide +kernel
/-- java/lang/AbstractStringBuilder.charAt(I)C -/
def kd_74 : List (Nat × Instr) := [(0, .aload_n 0), (1, .getfield 22), (4, .istore_n 2), (5, .aload_n 0), (6, .getfield 15), (9, .astore_n 3), (10, .aload_n 0), (11, .getfield 79), (14, .aload_n 3), (15, .arraylength), (16, .iload_n 2), (17, .ishr), (18, .invokestatic 138), (21, .istore 4), (23, .iload_n 1), (24, .iload 4), (26, .invokestatic 144), (29, .iload_n 2), (30, .ifCond .ne 12), (33, .aload_n 3), (34, .iload_n 1), (35, .baload), (36, .sipush 255), (39, .iand), (40, .i2c), (41, .ireturn), (42, .aload_n 3), (43, .iload_n 1), (44, .invokestatic 148), (47, .ireturn)]
theorem dk_74 : mj_dk prog_15_method_14_code kd_74 = true := by decide +kernel
