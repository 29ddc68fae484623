theorem lw_in1 {w : Cond} (h : w ∈ tables_1_1) : w ∈ lw_tbl := List.mem_append_right _ (List.mem_append_left _ h)
theorem lw_in2 {w : Cond} (h : w ∈ tables_1_2) : w ∈ lw_tbl := List.mem_append_right _ (List.mem_append_right _ (List.mem_append_left _ h))
theorem lw_in3 {w : Cond} (h : w ∈ tables_1_3) : w ∈ lw_tbl := List.mem_append_right _ (List.mem_append_right _ (List.mem_append_right _ (List.mem_append_left _ h)))
theorem lw_in4 {w : Cond} (h : w ∈ tables_1_4) : w ∈ lw_tbl := List.mem_append_right _ (List.mem_append_right _ (List.mem_append_right _ (List.mem_append_right _ (List.mem_append_left _ h))))
theorem lw_in5 {w : Cond} (h : w ∈ tables_1_5) : w ∈ lw_tbl := List.mem_append_right _ (List.mem_append_right _ (List.mem_append_right _ (List.mem_append_right _ (List.mem_append_right _ (List.mem_append_left _ h)))))
theorem lw_in6 {w : Cond} (h : w ∈ tables_1_6) : w ∈ lw_tbl := List.mem_append_right _ (List.mem_append_right _ (List.mem_append_right _ (List.mem_append_right _ (List.mem_append_right _ (List.mem_append_right _ (List.mem_append_left _ h))))))
theorem lw_in7 {w : Cond} (h : w ∈ tables_1_7) : w ∈ lw_tbl := List.mem_append_right _ (List.mem_append_right _ (List.mem_append_right _ (List.mem_append_right _ (List.mem_append_right _ (List.mem_append_right _ (List.mem_append_right _ (List.mem_append_left _ h)))))))
theorem lw_in8 {w : Cond} (h : w ∈ tables_1_8) : w ∈ lw_tbl := List.mem_append_right _ (List.mem_append_right _ (List.mem_append_right _ (List.mem_append_right _ (List.mem_append_right _ (List.mem_append_right _ (List.mem_append_right _ (List.mem_append_right _ (h))))))))
def km_0 : List (mj_I × List (Nat × Instr)) := [((⟨"DiceOdds", "<init>", "()V"⟩, prog_1_method_1_code, 2, none, []), kd_0),
  ((⟨"java/lang/StringBuilder", "<init>", "()V"⟩, prog_26_method_1_code, 1, none, []), kd_1),
  ((⟨"java/lang/AbstractStringBuilder", "<init>", "(I)V"⟩, prog_15_method_2_code, 2, none, []), kd_2),
  ((⟨"java/lang/StringUTF16", "newBytesFor", "(I)[B"⟩, prog_29_method_2_code, 1, (some (.array .byte)), []), kd_3),
  ((⟨"java/lang/StringUTF16", "newBytesLength", "(I)I"⟩, prog_29_method_3_code, 1, (some .int), []), kd_4),
  ((⟨"DiceOdds$Parser", "<init>", "()V"⟩, prog_7_method_1_code, 1, none, []), kd_5),
  ((⟨"DiceOdds$Bench", "<init>", "()V"⟩, prog_2_method_1_code, 2, none, []), kd_6),
  ((⟨"DiceOdds$States", "<init>", "()V"⟩, prog_12_method_1_code, 1, none, []), kd_7),
  ((⟨"DiceOdds$Slot", "<init>", "()V"⟩, prog_10_method_1_code, 1, none, []), kd_8),
  ((⟨"DiceOdds", "type", "(JI)I"⟩, prog_1_method_2_code, 6, (some .int), []), kd_9),
  ((⟨"java/lang/StringBuilder", "length", "()I"⟩, prog_26_method_93_code, 1, (some .int), []), kd_10),
  ((⟨"java/lang/AbstractStringBuilder", "length", "()I"⟩, prog_15_method_6_code, 1, (some .int), []), kd_11),
  ((⟨"DiceOdds", "byteOf", "(JI)I"⟩, prog_1_method_26_code, 3, (some .int), []), kd_12),
  ((⟨"java/lang/StringBuilder", "append", "(C)Ljava/lang/StringBuilder;"⟩, prog_26_method_14_code, 2, (some (.object "java/lang/StringBuilder")), []), kd_13),
  ((⟨"java/lang/AbstractStringBuilder", "append", "(C)Ljava/lang/AbstractStringBuilder;"⟩, prog_15_method_31_code, 2, (some (.object "java/lang/AbstractStringBuilder")), []), kd_14),
  ((⟨"java/lang/AbstractStringBuilder", "ensureCapacityInternal", "(I)V"⟩, prog_15_method_9_code, 3, none, []), kd_15),
  ((⟨"java/lang/AbstractStringBuilder", "newCapacity", "(I)I"⟩, prog_15_method_10_code, 6, (some .int), []), kd_16),
  ((⟨"jdk/internal/util/ArraysSupport", "newLength", "(III)I"⟩, prog_33_method_27_code, 4, (some .int), []), kd_17),
  ((⟨"java/lang/Math", "max", "(II)I"⟩, prog_23_method_65_code, 2, (some .int), []), kd_18),
  ((⟨"jdk/internal/util/ArraysSupport", "hugeLength", "(II)I"⟩, prog_33_method_28_code, 3, (some .int), []), kd_19),
  ((⟨"java/util/Arrays", "copyOf", "([BI)[B"⟩, prog_32_method_121_code, 3, (some (.array .byte)), []), kd_20),
  ((⟨"java/lang/Math", "min", "(II)I"⟩, prog_23_method_69_code, 2, (some .int), []), kd_21),
  ((⟨"java/lang/AbstractStringBuilder", "isLatin1", "()Z"⟩, prog_15_method_68_code, 1, (some .boolean), []), kd_22),
  ((⟨"java/lang/StringLatin1", "canEncode", "(C)Z"⟩, prog_28_method_3_code, 1, (some .boolean), []), kd_23),
  ((⟨"java/lang/AbstractStringBuilder", "inflate", "()V"⟩, prog_15_method_11_code, 2, none, []), kd_24),
  ((⟨"java/lang/StringLatin1", "inflate", "([BI[BII)V"⟩, prog_28_method_50_code, 5, none, []), kd_25),
  ((⟨"java/lang/StringUTF16", "inflate", "([BI[BII)V"⟩, prog_29_method_86_code, 6, none, []), kd_26),
  ((⟨"java/lang/StringUTF16", "checkBoundsOffCount", "(II[B)V"⟩, prog_29_method_94_code, 3, none, []), kd_27),
  ((⟨"java/lang/StringUTF16", "length", "([B)I"⟩, prog_29_method_6_code, 1, (some .int), []), kd_28),
  ((⟨"java/lang/String", "checkBoundsOffCount", "(III)I"⟩, prog_25_method_157_code, 3, (some .int), []), kd_29),
  ((⟨"jdk/internal/util/Preconditions", "checkFromIndexSize", "(IIILjava/util/function/BiFunction;)I"⟩, prog_34_method_13_code, 4, (some .int), []), kd_30),
  ((⟨"java/lang/StringUTF16", "putChar", "([BII)V"⟩, prog_29_method_4_code, 3, none, []), kd_31),
  ((⟨"java/lang/StringUTF16", "putCharSB", "([BII)V"⟩, prog_29_method_71_code, 3, none, []), kd_32),
  ((⟨"java/lang/StringUTF16", "checkIndex", "(I[B)V"⟩, prog_29_method_91_code, 2, none, []), kd_33),
  ((⟨"java/lang/String", "checkIndex", "(II)V"⟩, prog_25_method_155_code, 2, none, []), kd_34),
  ((⟨"jdk/internal/util/Preconditions", "checkIndex", "(IILjava/util/function/BiFunction;)I"⟩, prog_34_method_11_code, 3, (some .int), []), kd_35),
  ((⟨"DiceOdds", "wipe", "()I"⟩, prog_1_method_3_code, 2, (some .int), []), kd_36),
  ((⟨"java/lang/StringBuilder", "setLength", "(I)V"⟩, prog_26_method_89_code, 2, none, []), kd_37),
  ((⟨"java/lang/AbstractStringBuilder", "setLength", "(I)V"⟩, prog_15_method_13_code, 2, none, []), kd_38),
  ((⟨"java/lang/StringBuilder", "append", "(Ljava/lang/String;)Ljava/lang/StringBuilder;"⟩, prog_26_method_7_code, 2, (some (.object "java/lang/StringBuilder")), []), kd_39),
  ((⟨"java/lang/AbstractStringBuilder", "append", "(Ljava/lang/String;)Ljava/lang/AbstractStringBuilder;"⟩, prog_15_method_22_code, 3, (some (.object "java/lang/AbstractStringBuilder")), []), kd_40),
  ((⟨"java/lang/AbstractStringBuilder", "appendNull", "()Ljava/lang/AbstractStringBuilder;"⟩, prog_15_method_26_code, 3, (some (.object "java/lang/AbstractStringBuilder")), []), kd_41),
  ((⟨"java/lang/StringUTF16", "putCharsAt", "([BICCCC)I"⟩, prog_29_method_81_code, 7, (some .int), []), kd_42),
  ((⟨"java/lang/StringUTF16", "checkBoundsBeginEnd", "(II[B)V"⟩, prog_29_method_93_code, 3, none, []), kd_43),
  ((⟨"java/lang/String", "checkBoundsBeginEnd", "(III)V"⟩, prog_25_method_158_code, 3, none, []), kd_44),
  ((⟨"jdk/internal/util/Preconditions", "checkFromToIndex", "(IIILjava/util/function/BiFunction;)I"⟩, prog_34_method_12_code, 4, (some .int), []), kd_45),
  ((⟨"java/lang/String", "length", "()I"⟩, prog_25_method_54_code, 1, (some .int), []), kd_46),
  ((⟨"java/lang/String", "coder", "()B"⟩, prog_25_method_152_code, 1, (some .byte), []), kd_47),
  ((⟨"java/lang/AbstractStringBuilder", "putStringAt", "(ILjava/lang/String;)V"⟩, prog_15_method_73_code, 3, none, []), kd_48),
  ((⟨"java/lang/AbstractStringBuilder", "inflateIfNeededFor", "(Ljava/lang/String;)V"⟩, prog_15_method_71_code, 2, none, []), kd_49)]
def km_1 : List (mj_I × List (Nat × Instr)) := [((⟨"java/lang/String", "getBytes", "([BIB)V"⟩, prog_25_method_147_code, 4, none, []), kd_50),
  ((⟨"java/lang/StringBuilder", "append", "(I)Ljava/lang/StringBuilder;"⟩, prog_26_method_15_code, 2, (some (.object "java/lang/StringBuilder")), []), kd_51),
  ((⟨"java/lang/AbstractStringBuilder", "append", "(I)Ljava/lang/AbstractStringBuilder;"⟩, prog_15_method_32_code, 4, (some (.object "java/lang/AbstractStringBuilder")), []), kd_52),
  ((⟨"java/lang/Integer", "stringSize", "(I)I"⟩, prog_22_method_13_code, 4, (some .int), []), kd_53),
  ((⟨"java/lang/Integer", "getChars", "(II[B)I"⟩, prog_22_method_12_code, 7, (some .int), []), kd_54),
  ((⟨"java/lang/StringUTF16", "getChars", "(III[B)I"⟩, prog_29_method_77_code, 5, (some .int), []), kd_55),
  ((⟨"java/lang/StringUTF16", "getChars", "(II[B)I"⟩, prog_29_method_89_code, 7, (some .int), []), kd_56),
  ((⟨"java/lang/StringBuilder", "toString", "()Ljava/lang/String;"⟩, prog_26_method_42_code, 1, (some (.object "java/lang/String")), []), kd_57),
  ((⟨"java/lang/String", "<init>", "(Ljava/lang/StringBuilder;)V"⟩, prog_25_method_53_code, 2, none, []), kd_58),
  ((⟨"java/lang/String", "<init>", "(Ljava/lang/AbstractStringBuilder;Ljava/lang/Void;)V"⟩, prog_25_method_150_code, 5, none, []), kd_59),
  ((⟨"java/lang/AbstractStringBuilder", "getValue", "()[B"⟩, prog_15_method_64_code, 1, (some (.array .byte)), []), kd_60),
  ((⟨"java/util/Arrays", "copyOfRange", "([BII)[B"⟩, prog_32_method_132_code, 3, (some (.array .byte)), []), kd_61),
  ((⟨"java/util/Arrays", "copyOfRangeByte", "([BII)[B"⟩, prog_32_method_133_code, 5, (some (.array .byte)), []), kd_62),
  ((⟨"java/util/Arrays", "checkLength", "(II)V"⟩, prog_32_method_131_code, 2, none, []), kd_63),
  ((⟨"java/lang/StringUTF16", "compress", "([BII)[B"⟩, prog_29_method_17_code, 6, (some (.array .byte)), []), kd_64),
  ((⟨"java/lang/StringUTF16", "compress", "([BI[BII)I"⟩, prog_29_method_22_code, 7, (some .int), []), kd_65),
  ((⟨"java/lang/StringUTF16", "getChar", "([BI)C"⟩, prog_29_method_5_code, 2, (some .char), []), kd_66),
  ((⟨"java/lang/StringUTF16", "coderFromArrayLen", "([BI)B"⟩, prog_29_method_15_code, 2, (some .byte), []), kd_67),
  ((⟨"java/lang/StringLatin1", "fillNull", "([BII)V"⟩, prog_28_method_48_code, 3, none, []), kd_68),
  ((⟨"java/util/Arrays", "fill", "([BIIB)V"⟩, prog_32_method_110_code, 5, none, []), kd_69),
  ((⟨"java/util/Arrays", "rangeCheck", "(III)V"⟩, prog_32_method_30_code, 3, none, []), kd_70),
  ((⟨"java/lang/StringUTF16", "fillNull", "([BII)V"⟩, prog_29_method_70_code, 3, none, []), kd_71),
  ((⟨"DiceOdds", "character", "(I)I"⟩, prog_1_method_4_code, 2, (some .int), []), kd_72),
  ((⟨"java/lang/StringBuilder", "charAt", "(I)C"⟩, prog_26_method_88_code, 2, (some .char), []), kd_73),
  ((⟨"java/lang/AbstractStringBuilder", "charAt", "(I)C"⟩, prog_15_method_14_code, 5, (some .char), []), kd_74),
  ((⟨"DiceOdds", "place", "()I"⟩, prog_1_method_6_code, 1, (some .int), []), kd_75),
  ((⟨"DiceOdds", "states", "()I"⟩, prog_1_method_9_code, 1, (some .int), []), kd_76),
  ((⟨"DiceOddsLaw", "read", "(LDiceOdds;I[J)I"⟩, method_3_code, 4, (some .int), [(0, 9, 12, 13)]), kd_77),
  ((⟨"DiceOdds", "read", "(I)I"⟩, prog_1_method_5_code, 4, (some .int), []), kd_78),
  ((⟨"DiceOdds", "slotAt", "(I)LDiceOdds$Slot;"⟩, prog_1_method_22_code, 2, (some (.object "DiceOdds$Slot")), []), kd_79),
  ((⟨"DiceOdds", "isSlot", "(I)Z"⟩, prog_1_method_20_code, 1, (some .boolean), []), kd_80),
  ((⟨"DiceOdds$Parser", "wholeProgram", "(Ljava/lang/StringBuilder;)LDiceOdds$Statement;"⟩, prog_7_method_2_code, 3, (some (.object "DiceOdds$Statement")), []), kd_81),
  ((⟨"DiceOdds$Parser", "begin", "(Ljava/lang/StringBuilder;)V"⟩, prog_7_method_3_code, 3, none, []), kd_82),
  ((⟨"DiceOdds$Parser", "program", "(I)LDiceOdds$Statement;"⟩, prog_7_method_7_code, 6, (some (.object "DiceOdds$Statement")), []), kd_83),
  ((⟨"DiceOdds$Parser", "peek", "()C"⟩, prog_7_method_5_code, 1, (some .char), []), kd_84),
  ((⟨"DiceOdds$Parser", "statement", "(I)LDiceOdds$Statement;"⟩, prog_7_method_8_code, 4, (some (.object "DiceOdds$Statement")), []), kd_85),
  ((⟨"DiceOdds", "isName", "(C)Z"⟩, prog_1_method_33_code, 1, (some .boolean), []), kd_86),
  ((⟨"DiceOdds$Parser", "demand", "(ZI)V"⟩, prog_7_method_4_code, 3, none, []), kd_87),
  ((⟨"DiceOdds$Parser", "choice", "(I)LDiceOdds$Statement;"⟩, prog_7_method_9_code, 5, (some (.object "DiceOdds$Statement")), []), kd_88),
  ((⟨"DiceOdds$Parser", "expression", "(II)LDiceOdds$Expression;"⟩, prog_7_method_12_code, 7, (some (.object "DiceOdds$Expression")), []), kd_89),
  ((⟨"DiceOdds$Parser", "operand", "(I)LDiceOdds$Expression;"⟩, prog_7_method_13_code, 3, (some (.object "DiceOdds$Expression")), []), kd_90),
  ((⟨"DiceOdds$Minus", "<init>", "(LDiceOdds$Expression;)V"⟩, prog_5_method_1_code, 2, none, []), kd_91),
  ((⟨"DiceOdds$Expression", "<init>", "(J)V"⟩, prog_4_method_1_code, 3, none, []), kd_92),
  ((⟨"DiceOdds$Parser", "inBrackets", "(I)LDiceOdds$Expression;"⟩, prog_7_method_14_code, 3, (some (.object "DiceOdds$Expression")), []), kd_93),
  ((⟨"DiceOdds$Parser", "pass", "(C)V"⟩, prog_7_method_6_code, 2, none, []), kd_94),
  ((⟨"DiceOdds", "isDigit", "(C)Z"⟩, prog_1_method_34_code, 1, (some .boolean), []), kd_95),
  ((⟨"DiceOdds", "isDigit", "(C)Z"⟩, prog_1_method_34_code, 1, (some .boolean), []), kd_96),
  ((⟨"DiceOdds$Plain", "<init>", "(II)V"⟩, prog_8_method_1_code, 3, none, []), kd_97),
  ((⟨"DiceOdds$Parser", "dice", "(I)LDiceOdds$Expression;"⟩, prog_7_method_16_code, 4, (some (.object "DiceOdds$Expression")), []), kd_98),
  ((⟨"DiceOdds$Parser", "number", "(II)I"⟩, prog_7_method_18_code, 6, (some .int), []), kd_99)]
def km_2 : List (mj_I × List (Nat × Instr)) := [((⟨"DiceOdds$Dice", "<init>", "(IICI)V"⟩, prog_3_method_1_code, 5, none, []), kd_100),
  ((⟨"DiceOdds", "power", "(JI)J"⟩, prog_1_method_29_code, 6, (some .long), []), kd_101),
  ((⟨"DiceOdds", "product", "(JJ)J"⟩, prog_1_method_28_code, 4, (some .long), []), kd_102),
  ((⟨"java/lang/Math", "min", "(JJ)J"⟩, prog_23_method_70_code, 4, (some .long), []), kd_103),
  ((⟨"DiceOdds$Parser", "row", "()LDiceOdds$Expression;"⟩, prog_7_method_17_code, 2, (some (.object "DiceOdds$Expression")), []), kd_104),
  ((⟨"java/util/Arrays", "copyOf", "([II)[I"⟩, prog_32_method_123_code, 3, (some (.array .int)), []), kd_105),
  ((⟨"DiceOdds$Row", "<init>", "([I)V"⟩, prog_9_method_1_code, 2, none, []), kd_106),
  ((⟨"DiceOdds$Parser", "numberOrDice", "()LDiceOdds$Expression;"⟩, prog_7_method_15_code, 3, (some (.object "DiceOdds$Expression")), []), kd_107),
  ((⟨"DiceOdds", "bindingOf", "(C)I"⟩, prog_1_method_35_code, 1, (some .int), []), kd_108),
  ((⟨"DiceOdds$Operation", "<init>", "(CLDiceOdds$Expression;LDiceOdds$Expression;)V"⟩, prog_6_method_1_code, 4, none, []), kd_109),
  ((⟨"DiceOdds$Parser", "inBraces", "(I)LDiceOdds$Statement;"⟩, prog_7_method_11_code, 3, (some (.object "DiceOdds$Statement")), []), kd_110),
  ((⟨"DiceOdds$Statement", "<init>", "(CLDiceOdds$Expression;ILDiceOdds$Statement;LDiceOdds$Statement;)V"⟩, prog_11_method_1_code, 12, none, []), kd_111),
  ((⟨"DiceOdds$Statement", "fallsOfAll", "(LDiceOdds$Statement;)J"⟩, prog_11_method_2_code, 4, (some .long), []), kd_112),
  ((⟨"DiceOdds", "commonMultiple", "(JJ)J"⟩, prog_1_method_32_code, 4, (some .long), []), kd_113),
  ((⟨"DiceOdds", "commonDivisor", "(JJ)J"⟩, prog_1_method_30_code, 11, (some .long), []), kd_114),
  ((⟨"DiceOdds", "quotient", "(JJ)J"⟩, prog_1_method_31_code, 4, (some .long), []), kd_115),
  ((⟨"DiceOdds$Parser", "repetition", "(I)LDiceOdds$Statement;"⟩, prog_7_method_10_code, 3, (some (.object "DiceOdds$Statement")), []), kd_116),
  ((⟨"DiceOdds$Slot", "takeProgram", "(LDiceOdds$Statement;)V"⟩, prog_10_method_2_code, 2, none, []), kd_117),
  ((⟨"DiceOdds$Slot", "dropResult", "()V"⟩, prog_10_method_3_code, 1, none, []), kd_118),
  ((⟨"DiceOddsLaw", "print", "(LDiceOdds;I[J)I"⟩, method_4_code, 4, (some .int), [(0, 9, 12, 13), (0, 9, 15, 18)]), kd_119),
  ((⟨"DiceOdds", "print", "(I)I"⟩, prog_1_method_7_code, 3, (some .int), []), kd_120),
  ((⟨"DiceOdds", "withProgram", "(I)LDiceOdds$Slot;"⟩, prog_1_method_23_code, 3, (some (.object "DiceOdds$Slot")), []), kd_121),
  ((⟨"DiceOdds$Statement", "writeAll", "(LDiceOdds$Statement;Ljava/lang/StringBuilder;)V"⟩, prog_11_method_3_code, 3, none, []), kd_122),
  ((⟨"DiceOdds$Statement", "write", "(Ljava/lang/StringBuilder;)V"⟩, prog_11_method_4_code, 2, none, []), kd_123),
  ((⟨"DiceOdds$Dice", "write", "(Ljava/lang/StringBuilder;)V"⟩, prog_3_method_2_code, 2, none, []), kd_124),
  ((⟨"DiceOdds$Minus", "write", "(Ljava/lang/StringBuilder;)V"⟩, prog_5_method_2_code, 2, none, []), kd_125),
  ((⟨"DiceOdds$Operation", "binding", "()I"⟩, prog_6_method_2_code, 1, (some .int), []), kd_126),
  ((⟨"DiceOdds$Expression", "binding", "()I"⟩, prog_4_method_2_code, 1, (some .int), []), kd_127),
  ((⟨"DiceOdds$Expression", "writeSide", "(Ljava/lang/StringBuilder;Z)V"⟩, prog_4_method_5_code, 3, none, []), kd_128),
  ((⟨"DiceOdds$Operation", "write", "(Ljava/lang/StringBuilder;)V"⟩, prog_6_method_3_code, 4, none, []), kd_129),
  ((⟨"DiceOdds$Plain", "write", "(Ljava/lang/StringBuilder;)V"⟩, prog_8_method_2_code, 2, none, []), kd_130),
  ((⟨"DiceOdds$Row", "write", "(Ljava/lang/StringBuilder;)V"⟩, prog_9_method_2_code, 3, none, []), kd_131),
  ((⟨"DiceOdds$Statement", "writeInBraces", "(LDiceOdds$Statement;Ljava/lang/StringBuilder;)V"⟩, prog_11_method_5_code, 2, none, []), kd_132),
  ((⟨"DiceOddsLaw", "run", "(LDiceOdds;I[J)I"⟩, method_5_code, 4, (some .int), [(0, 9, 12, 13), (0, 9, 15, 18)]), kd_133),
  ((⟨"DiceOdds", "run", "(I)I"⟩, prog_1_method_8_code, 5, (some .int), []), kd_134),
  ((⟨"DiceOdds$Bench", "begin", "()LDiceOdds$States;"⟩, prog_2_method_2_code, 1, (some (.object "DiceOdds$States")), []), kd_135),
  ((⟨"DiceOdds$States", "clear", "()V"⟩, prog_12_method_2_code, 1, none, []), kd_136),
  ((⟨"DiceOdds$States", "addZeros", "()V"⟩, prog_12_method_3_code, 2, none, []), kd_137),
  ((⟨"DiceOdds$Statement", "doAll", "(LDiceOdds$Statement;LDiceOdds$States;LDiceOdds$Bench;I)I"⟩, prog_11_method_6_code, 6, (some .int), []), kd_138),
  ((⟨"DiceOdds$Statement", "doOnce", "(LDiceOdds$States;LDiceOdds$Bench;I)I"⟩, prog_11_method_7_code, 4, (some .int), []), kd_139),
  ((⟨"DiceOdds$Statement", "keep", "(LDiceOdds$States;LDiceOdds$Bench;)I"⟩, prog_11_method_9_code, 5, (some .int), []), kd_140),
  ((⟨"DiceOdds$Bench", "workOut", "(LDiceOdds$Expression;LDiceOdds$States;I)Z"⟩, prog_2_method_3_code, 4, (some .boolean), []), kd_141),
  ((⟨"DiceOdds$Dice", "lay", "(LDiceOdds$Bench;LDiceOdds$States;I)Z"⟩, prog_3_method_3_code, 5, (some .boolean), []), kd_142),
  ((⟨"DiceOdds$Dice", "countRollsMore", "()[J"⟩, prog_3_method_4_code, 6, (some (.array .long)), []), kd_143),
  ((⟨"DiceOdds$Dice", "countSums", "([[J)[J"⟩, prog_3_method_5_code, 7, (some (.array .long)), []), kd_144),
  ((⟨"java/util/Arrays", "fill", "([JJ)V"⟩, prog_32_method_101_code, 5, none, []), kd_145),
  ((⟨"DiceOdds$Dice", "showFace", "([[JIIIJ)V"⟩, prog_3_method_6_code, 12, none, []), kd_146),
  ((⟨"DiceOdds$Dice", "choicesOf", "(II)J"⟩, prog_3_method_7_code, 5, (some .long), []), kd_147),
  ((⟨"java/util/Arrays", "copyOf", "([JI)[J"⟩, prog_32_method_124_code, 3, (some (.array .long)), []), kd_148),
  ((⟨"DiceOdds$Bench", "open", "()V"⟩, prog_2_method_4_code, 1, none, []), kd_149)]
def km_3 : List (mj_I × List (Nat × Instr)) := [((⟨"DiceOdds$Bench", "put", "(IJ)V"⟩, prog_2_method_5_code, 5, none, []), kd_150),
  ((⟨"DiceOdds$Minus", "lay", "(LDiceOdds$Bench;LDiceOdds$States;I)Z"⟩, prog_5_method_3_code, 5, (some .boolean), []), kd_151),
  ((⟨"DiceOdds$Operation", "lay", "(LDiceOdds$Bench;LDiceOdds$States;I)Z"⟩, prog_6_method_4_code, 4, (some .boolean), []), kd_152),
  ((⟨"DiceOdds$Plain", "lay", "(LDiceOdds$Bench;LDiceOdds$States;I)Z"⟩, prog_8_method_3_code, 4, (some .boolean), []), kd_153),
  ((⟨"DiceOdds$States", "valueOf", "(II)I"⟩, prog_12_method_4_code, 3, (some .int), []), kd_154),
  ((⟨"DiceOdds$Row", "lay", "(LDiceOdds$Bench;LDiceOdds$States;I)Z"⟩, prog_9_method_3_code, 5, (some .boolean), []), kd_155),
  ((⟨"DiceOdds$Bench", "combine", "(C)Z"⟩, prog_2_method_7_code, 5, (some .boolean), []), kd_156),
  ((⟨"DiceOdds$Bench", "collect", "(CIII)Z"⟩, prog_2_method_8_code, 8, (some .boolean), []), kd_157),
  ((⟨"DiceOdds$Operation", "resultOf", "(CII)I"⟩, prog_6_method_5_code, 3, (some .int), []), kd_158),
  ((⟨"java/lang/Math", "floorDiv", "(II)I"⟩, prog_23_method_47_code, 3, (some .int), []), kd_159),
  ((⟨"java/lang/Math", "floorMod", "(II)I"⟩, prog_23_method_50_code, 3, (some .int), []), kd_160),
  ((⟨"DiceOdds$Bench", "negate", "()V"⟩, prog_2_method_6_code, 2, none, []), kd_161),
  ((⟨"DiceOdds$Bench", "waysOfYes", "()J"⟩, prog_2_method_9_code, 4, (some .long), []), kd_162),
  ((⟨"DiceOdds$States", "append", "(LDiceOdds$States;IJ)V"⟩, prog_12_method_6_code, 5, none, []), kd_163),
  ((⟨"DiceOdds$States", "copyBehind", "(LDiceOdds$States;I)V"⟩, prog_12_method_9_code, 3, none, []), kd_164),
  ((⟨"DiceOdds$States", "swapWith", "(LDiceOdds$States;)V"⟩, prog_12_method_5_code, 5, none, []), kd_165),
  ((⟨"DiceOdds$Statement", "choose", "(LDiceOdds$States;LDiceOdds$Bench;I)I"⟩, prog_11_method_10_code, 9, (some .int), []), kd_166),
  ((⟨"DiceOdds$States", "join", "(LDiceOdds$States;J)Z"⟩, prog_12_method_8_code, 6, (some .boolean), []), kd_167),
  ((⟨"DiceOdds$States", "settle", "(J)Z"⟩, prog_12_method_10_code, 4, (some .boolean), []), kd_168),
  ((⟨"DiceOdds$States", "isLikeLast", "(I)Z"⟩, prog_12_method_11_code, 3, (some .boolean), []), kd_169),
  ((⟨"DiceOdds$Statement", "repeat", "(LDiceOdds$States;LDiceOdds$Bench;I)I"⟩, prog_11_method_11_code, 6, (some .int), []), kd_170),
  ((⟨"DiceOdds$Statement", "assign", "(LDiceOdds$States;LDiceOdds$Bench;)I"⟩, prog_11_method_8_code, 6, (some .int), []), kd_171),
  ((⟨"DiceOdds$Bench", "giveTo", "(LDiceOdds$States;LDiceOdds$States;II)Z"⟩, prog_2_method_10_code, 6, (some .boolean), []), kd_172),
  ((⟨"DiceOdds$States", "addWith", "(LDiceOdds$States;IIIJ)Z"⟩, prog_12_method_7_code, 7, (some .boolean), []), kd_173),
  ((⟨"DiceOdds$Slot", "takeResult", "(LDiceOdds$States;)V"⟩, prog_10_method_4_code, 3, none, []), kd_174),
  ((⟨"DiceOdds$Slot", "addWays", "(IJ)V"⟩, prog_10_method_5_code, 5, none, []), kd_175),
  ((⟨"DiceOdds$Slot", "divideByWhatIsCommon", "()V"⟩, prog_10_method_6_code, 4, none, []), kd_176),
  ((⟨"DiceOddsLaw", "factor", "(LDiceOdds;I[J)I"⟩, method_6_code, 4, (some .int), [(0, 8, 11, 13), (0, 8, 14, 18)]), kd_177),
  ((⟨"DiceOdds", "factor", "(I)J"⟩, prog_1_method_10_code, 2, (some .long), []), kd_178),
  ((⟨"DiceOddsLaw", "outcomes", "(LDiceOdds;I[J)I"⟩, method_7_code, 4, (some .int), [(0, 9, 12, 13), (0, 9, 15, 18)]), kd_179),
  ((⟨"DiceOdds", "outcomes", "(I)I"⟩, prog_1_method_11_code, 2, (some .int), []), kd_180),
  ((⟨"DiceOdds", "withResult", "(I)LDiceOdds$Slot;"⟩, prog_1_method_24_code, 3, (some (.object "DiceOdds$Slot")), []), kd_181),
  ((⟨"DiceOddsLaw", "outcome", "(LDiceOdds;II[J)I"⟩, method_8_code, 5, (some .int), [(0, 10, 13, 13), (0, 10, 17, 18), (0, 10, 21, 34)]), kd_182),
  ((⟨"DiceOdds", "outcome", "(II)I"⟩, prog_1_method_12_code, 4, (some .int), []), kd_183),
  ((⟨"DiceOdds", "withOutcome", "(II)LDiceOdds$Slot;"⟩, prog_1_method_25_code, 4, (some (.object "DiceOdds$Slot")), []), kd_184),
  ((⟨"DiceOddsLaw", "ways", "(LDiceOdds;II[J)I"⟩, method_9_code, 5, (some .int), [(0, 9, 12, 13), (0, 9, 16, 18), (0, 9, 20, 34)]), kd_185),
  ((⟨"DiceOdds", "ways", "(II)J"⟩, prog_1_method_13_code, 4, (some .long), []), kd_186),
  ((⟨"DiceOddsLaw", "total", "(LDiceOdds;I[J)I"⟩, method_10_code, 4, (some .int), [(0, 8, 11, 13), (0, 8, 14, 18)]), kd_187),
  ((⟨"DiceOdds", "total", "(I)J"⟩, prog_1_method_14_code, 2, (some .long), []), kd_188),
  ((⟨"DiceOddsLaw", "moment", "(LDiceOdds;II[J)I"⟩, method_11_code, 5, (some .int), [(0, 9, 12, 13), (0, 9, 16, 18)]), kd_189),
  ((⟨"DiceOdds", "moment", "(II)J"⟩, prog_1_method_15_code, 9, (some .long), []), kd_190),
  ((⟨"DiceOdds", "allow", "(Z)V"⟩, prog_1_method_21_code, 1, none, []), kd_191),
  ((⟨"DiceOddsLaw", "millionths", "(LDiceOdds;II[J)I"⟩, method_12_code, 5, (some .int), [(0, 10, 13, 13), (0, 10, 17, 18), (0, 10, 21, 34)]), kd_192),
  ((⟨"DiceOdds", "millionths", "(II)I"⟩, prog_1_method_16_code, 4, (some .int), []), kd_193),
  ((⟨"DiceOdds", "halfToEven", "(JJ)I"⟩, prog_1_method_27_code, 8, (some .int), []), kd_194),
  ((⟨"DiceOddsLaw", "percentile", "(LDiceOdds;III[J)I"⟩, method_13_code, 6, (some .int), [(0, 12, 15, 13), (0, 12, 19, 18)]), kd_195),
  ((⟨"DiceOdds", "percentile", "(III)I"⟩, prog_1_method_17_code, 8, (some .int), []), kd_196),
  ((⟨"DiceOddsLaw", "sample", "(LDiceOdds;IJ[J)I"⟩, method_14_code, 6, (some .int), [(0, 11, 14, 13), (0, 11, 18, 18), (0, 11, 22, 34)]), kd_197),
  ((⟨"DiceOdds", "sample", "(IJ)I"⟩, prog_1_method_18_code, 8, (some .int), []), kd_198),
  ((⟨"DiceOddsLaw", "compare", "(LDiceOdds;III[J)I"⟩, method_15_code, 6, (some .int), [(0, 11, 14, 13), (0, 11, 18, 18)]), kd_199)]
def km_4 : List (mj_I × List (Nat × Instr)) := [((⟨"DiceOdds", "compare", "(III)J"⟩, prog_1_method_19_code, 10, (some .long), []), kd_200),
  ((⟨"java/lang/Integer", "signum", "(I)I"⟩, prog_22_method_56_code, 1, (some .int), []), kd_201),
  ((⟨"DiceOddsModel", "<init>", "()V"⟩, prog_14_method_1_code, 1, none, []), kd_202),
  ((⟨"DiceOddsModel", "thrown", "()I"⟩, prog_14_method_2_code, 1, (some .int), []), kd_203),
  ((⟨"DiceOddsModel", "type", "(JI)I"⟩, prog_14_method_5_code, 7, (some .int), []), kd_204),
  ((⟨"DiceOddsModel", "within", "(III)Z"⟩, prog_14_method_4_code, 3, (some .boolean), []), kd_205),
  ((⟨"DiceOddsModel", "say", "(I)V"⟩, prog_14_method_6_code, 2, none, []), kd_206),
  ((⟨"DiceOddsModel", "wipe", "()I"⟩, prog_14_method_7_code, 2, (some .int), []), kd_207),
  ((⟨"DiceOddsModel", "character", "(I)I"⟩, prog_14_method_8_code, 2, (some .int), []), kd_208),
  ((⟨"DiceOddsModel", "read", "(I)I"⟩, prog_14_method_49_code, 2, (some .int), []), kd_209),
  ((⟨"DiceOddsModel", "isSlot", "(I)Z"⟩, prog_14_method_48_code, 1, (some .boolean), []), kd_210),
  ((⟨"DiceOddsModel", "parse", "()Z"⟩, prog_14_method_33_code, 3, (some .boolean), []), kd_211),
  ((⟨"DiceOddsModel", "here", "()I"⟩, prog_14_method_9_code, 1, (some .int), []), kd_212),
  ((⟨"DiceOddsModel", "fail", "(I)Z"⟩, prog_14_method_10_code, 2, (some .boolean), []), kd_213),
  ((⟨"DiceOddsModel", "statement", "()Z"⟩, prog_14_method_31_code, 5, (some .boolean), []), kd_214),
  ((⟨"DiceOddsModel", "isName", "()Z"⟩, prog_14_method_13_code, 1, (some .boolean), []), kd_215),
  ((⟨"DiceOddsModel", "number", "(II)Z"⟩, prog_14_method_14_code, 5, (some .boolean), []), kd_216),
  ((⟨"DiceOddsModel", "isDigit", "()Z"⟩, prog_14_method_12_code, 1, (some .boolean), []), kd_217),
  ((⟨"DiceOddsModel", "enter", "(IZ)Z"⟩, prog_14_method_30_code, 3, (some .boolean), []), kd_218),
  ((⟨"DiceOddsModel", "want", "(I)Z"⟩, prog_14_method_11_code, 2, (some .boolean), []), kd_219),
  ((⟨"DiceOddsModel", "expression", "(I)Z"⟩, prog_14_method_29_code, 3, (some .boolean), []), kd_220),
  ((⟨"DiceOddsModel", "readAtom", "()Z"⟩, prog_14_method_27_code, 1, (some .boolean), []), kd_221),
  ((⟨"DiceOddsModel", "push", "(I)V"⟩, prog_14_method_26_code, 2, none, []), kd_222),
  ((⟨"DiceOddsModel", "readItem", "()Z"⟩, prog_14_method_23_code, 2, (some .boolean), []), kd_223),
  ((⟨"DiceOddsModel", "node", "(IIIII)V"⟩, prog_14_method_15_code, 7, none, []), kd_224),
  ((⟨"DiceOddsModel", "readFaces", "()Z"⟩, prog_14_method_22_code, 3, (some .boolean), []), kd_225),
  ((⟨"DiceOddsModel", "readDice", "(I)Z"⟩, prog_14_method_21_code, 5, (some .boolean), []), kd_226),
  ((⟨"DiceOddsModel", "turnBack", "()V"⟩, prog_14_method_25_code, 1, none, []), kd_227),
  ((⟨"DiceOddsModel", "makeNegative", "()V"⟩, prog_14_method_16_code, 2, none, []), kd_228),
  ((⟨"DiceOddsModel", "readSign", "()Z"⟩, prog_14_method_28_code, 2, (some .boolean), []), kd_229),
  ((⟨"DiceOddsModel", "signOf", "(I)I"⟩, prog_14_method_19_code, 1, (some .int), []), kd_230),
  ((⟨"DiceOddsModel", "tight", "(I)I"⟩, prog_14_method_18_code, 1, (some .int), []), kd_231),
  ((⟨"DiceOddsModel", "close", "(I)V"⟩, prog_14_method_24_code, 2, none, []), kd_232),
  ((⟨"DiceOddsModel", "makeOperation", "(I)V"⟩, prog_14_method_17_code, 4, none, []), kd_233),
  ((⟨"DiceOddsModel", "leave", "()Z"⟩, prog_14_method_32_code, 2, (some .boolean), []), kd_234),
  ((⟨"DiceOddsModel", "findFactors", "()V"⟩, prog_14_method_40_code, 6, none, []), kd_235),
  ((⟨"DiceOddsModel", "blockFactor", "(III)J"⟩, prog_14_method_39_code, 7, (some .long), []), kd_236),
  ((⟨"DiceOddsModel", "product", "(JJ)J"⟩, prog_14_method_34_code, 4, (some .long), []), kd_237),
  ((⟨"DiceOddsModel", "power", "(JI)J"⟩, prog_14_method_35_code, 6, (some .long), []), kd_238),
  ((⟨"DiceOddsModel", "nodeFactor", "(I)J"⟩, prog_14_method_38_code, 2, (some .long), []), kd_239),
  ((⟨"DiceOddsModel", "multiple", "(JJ)J"⟩, prog_14_method_37_code, 4, (some .long), []), kd_240),
  ((⟨"DiceOddsModel", "divisor", "(JJ)J"⟩, prog_14_method_36_code, 10, (some .long), []), kd_241),
  ((⟨"DiceOddsModel", "refuse", "(I)I"⟩, prog_14_method_3_code, 2, (some .int), []), kd_242),
  ((⟨"DiceOddsModel", "keepDraft", "(I)V"⟩, prog_14_method_47_code, 5, none, []), kd_243),
  ((⟨"DiceOddsModel", "place", "()I"⟩, prog_14_method_50_code, 1, (some .int), []), kd_244),
  ((⟨"DiceOddsModel", "print", "(I)I"⟩, prog_14_method_62_code, 3, (some .int), []), kd_245),
  ((⟨"DiceOddsModel", "wrongProgram", "(I)I"⟩, prog_14_method_61_code, 2, (some .int), []), kd_246),
  ((⟨"DiceOddsModel", "sayEnds", "(II)V"⟩, prog_14_method_59_code, 6, none, []), kd_247),
  ((⟨"DiceOddsModel", "sayStatement", "(II)V"⟩, prog_14_method_60_code, 4, none, []), kd_248),
  ((⟨"DiceOddsModel", "sayNumber", "(I)V"⟩, prog_14_method_51_code, 2, none, []), kd_249)]
def km_5 : List (mj_I × List (Nat × Instr)) := [((⟨"DiceOddsModel", "sayExpression", "(II)V"⟩, prog_14_method_58_code, 4, none, []), kd_250),
  ((⟨"DiceOddsModel", "task", "(I)V"⟩, prog_14_method_52_code, 2, none, []), kd_251),
  ((⟨"DiceOddsModel", "sayNode", "(II)V"⟩, prog_14_method_57_code, 6, none, []), kd_252),
  ((⟨"DiceOddsModel", "tightOf", "(II)I"⟩, prog_14_method_54_code, 4, (some .int), []), kd_253),
  ((⟨"DiceOddsModel", "taskInside", "(IZ)V"⟩, prog_14_method_53_code, 3, none, []), kd_254),
  ((⟨"DiceOddsModel", "sayDice", "(I)V"⟩, prog_14_method_55_code, 2, none, []), kd_255),
  ((⟨"DiceOddsModel", "sayFaces", "(II)V"⟩, prog_14_method_56_code, 4, none, []), kd_256),
  ((⟨"DiceOddsModel", "charOf", "(I)I"⟩, prog_14_method_20_code, 1, (some .int), []), kd_257),
  ((⟨"DiceOddsModel", "factor", "(I)J"⟩, prog_14_method_63_code, 2, (some .long), []), kd_258),
  ((⟨"DiceOddsModel", "run", "(I)I"⟩, prog_14_method_87_code, 3, (some .int), []), kd_259),
  ((⟨"DiceOddsModel", "runAll", "(I)I"⟩, prog_14_method_85_code, 4, (some .int), []), kd_260),
  ((⟨"DiceOddsModel", "fallAll", "(III)I"⟩, prog_14_method_46_code, 7, (some .int), []), kd_261),
  ((⟨"DiceOddsModel", "rollAgain", "(II)V"⟩, prog_14_method_45_code, 5, none, []), kd_262),
  ((⟨"DiceOddsModel", "addDice", "(II)V"⟩, prog_14_method_42_code, 8, none, []), kd_263),
  ((⟨"DiceOddsModel", "keepDice", "(IIZI)V"⟩, prog_14_method_44_code, 10, none, []), kd_264),
  ((⟨"DiceOddsModel", "orders", "(I)J"⟩, prog_14_method_43_code, 6, (some .long), []), kd_265),
  ((⟨"DiceOddsModel", "blockEnd", "(I)I"⟩, prog_14_method_81_code, 3, (some .int), []), kd_266),
  ((⟨"DiceOddsModel", "goOn", "(II)I"⟩, prog_14_method_83_code, 6, (some .int), []), kd_267),
  ((⟨"DiceOddsModel", "copySet", "(II)V"⟩, prog_14_method_74_code, 3, none, []), kd_268),
  ((⟨"DiceOddsModel", "pour", "(IIJ)V"⟩, prog_14_method_73_code, 6, none, []), kd_269),
  ((⟨"DiceOddsModel", "join", "(IIIIIJ)V"⟩, prog_14_method_72_code, 10, none, []), kd_270),
  ((⟨"DiceOddsModel", "isSame", "(IIIIII)Z"⟩, prog_14_method_71_code, 10, (some .boolean), []), kd_271),
  ((⟨"DiceOddsModel", "unite", "(III)Z"⟩, prog_14_method_79_code, 11, (some .boolean), []), kd_272),
  ((⟨"DiceOddsModel", "beginSpare", "()V"⟩, prog_14_method_76_code, 1, none, []), kd_273),
  ((⟨"DiceOddsModel", "settle", "(I)Z"⟩, prog_14_method_75_code, 2, (some .boolean), []), kd_274),
  ((⟨"DiceOddsModel", "perform", "(II)I"⟩, prog_14_method_84_code, 5, (some .int), []), kd_275),
  ((⟨"DiceOddsModel", "currentSet", "(I)I"⟩, prog_14_method_82_code, 3, (some .int), []), kd_276),
  ((⟨"DiceOddsModel", "openFrame", "(III)V"⟩, prog_14_method_80_code, 4, none, []), kd_277),
  ((⟨"DiceOddsModel", "part", "(III)Z"⟩, prog_14_method_78_code, 6, (some .boolean), []), kd_278),
  ((⟨"DiceOddsModel", "work", "(IIII)Z"⟩, prog_14_method_70_code, 7, (some .boolean), []), kd_279),
  ((⟨"DiceOddsModel", "lay", "(IIII)Z"⟩, prog_14_method_69_code, 9, (some .boolean), []), kd_280),
  ((⟨"DiceOddsModel", "beginList", "()V"⟩, prog_14_method_64_code, 1, none, []), kd_281),
  ((⟨"DiceOddsModel", "add", "(IJ)V"⟩, prog_14_method_65_code, 4, none, []), kd_282),
  ((⟨"DiceOddsModel", "combine", "(I)Z"⟩, prog_14_method_68_code, 7, (some .boolean), []), kd_283),
  ((⟨"DiceOddsModel", "result", "(III)I"⟩, prog_14_method_67_code, 3, (some .int), []), kd_284),
  ((⟨"DiceOddsModel", "divided", "(II)I"⟩, prog_14_method_66_code, 3, (some .int), []), kd_285),
  ((⟨"DiceOddsModel", "simple", "(III)Z"⟩, prog_14_method_77_code, 8, (some .boolean), []), kd_286),
  ((⟨"DiceOddsModel", "takeResult", "(I)V"⟩, prog_14_method_86_code, 6, none, []), kd_287),
  ((⟨"DiceOddsModel", "states", "()I"⟩, prog_14_method_88_code, 1, (some .int), []), kd_288),
  ((⟨"DiceOddsModel", "outcomes", "(I)I"⟩, prog_14_method_91_code, 2, (some .int), []), kd_289),
  ((⟨"DiceOddsModel", "wrongResult", "(I)I"⟩, prog_14_method_89_code, 2, (some .int), []), kd_290),
  ((⟨"DiceOddsModel", "outcome", "(II)I"⟩, prog_14_method_92_code, 3, (some .int), []), kd_291),
  ((⟨"DiceOddsModel", "wrongOutcome", "(II)I"⟩, prog_14_method_90_code, 4, (some .int), []), kd_292),
  ((⟨"DiceOddsModel", "ways", "(II)J"⟩, prog_14_method_93_code, 3, (some .long), []), kd_293),
  ((⟨"DiceOddsModel", "total", "(I)J"⟩, prog_14_method_94_code, 2, (some .long), []), kd_294),
  ((⟨"DiceOddsModel", "moment", "(II)J"⟩, prog_14_method_95_code, 8, (some .long), []), kd_295),
  ((⟨"DiceOddsModel", "millionths", "(II)I"⟩, prog_14_method_96_code, 11, (some .int), []), kd_296),
  ((⟨"DiceOddsModel", "percentile", "(III)I"⟩, prog_14_method_97_code, 7, (some .int), []), kd_297),
  ((⟨"DiceOddsModel", "sample", "(IJ)I"⟩, prog_14_method_98_code, 7, (some .int), []), kd_298),
  ((⟨"DiceOddsModel", "compare", "(III)J"⟩, prog_14_method_99_code, 9, (some .long), []), kd_299)]
def km_law : mj_I × List (Nat × Instr) := ((x, code, maxLocals, ret, []), kd_law)
def km : List (mj_I × List (Nat × Instr)) := km_0 ++ (km_1 ++ (km_2 ++ (km_3 ++ (km_4 ++ (km_5 ++ [km_law])))))
/-- a row of methods is as it must be -/
def km_ok (q : mj_I × List (Nat × Instr)) : Prop := mj_dk q.1.2.1 q.2 = true ∧ mj_cw q.1.1 q.1.2.1 q.1.2.2.1 q.1.2.2.2.1 q.1.2.2.2.2 ∈ kt ∧ plainFor q.1.1 = true ∧ mj_noMH q.1.1.cls ∧ Cond.initialized q.1.1.cls ∈ kt
def km_c (q : mj_I × List (Nat × Instr)) : Cond := mj_cw q.1.1 q.1.2.1 q.1.2.2.1 q.1.2.2.2.1 q.1.2.2.2.2
theorem km_of {l : List (mj_I × List (Nat × Instr))} (h1 : ∀ q ∈ l, mj_dk q.1.2.1 q.2 = true) (h2 : ∀ q ∈ l, km_c q ∈ lw_tbl) (h3 : ∀ q ∈ l, mj_kpb (km_c q) = true) (h4 : ∀ q ∈ l, plainFor q.1.1 = true ∧ mj_noMH q.1.1.cls) (h5 : ∀ q ∈ l, Cond.initialized q.1.1.cls ∈ lw_tbl) : ∀ q ∈ l, km_ok q := by
  intro q hq
  refine ⟨h1 q hq, kt_of (h2 q hq) (h3 q hq), (h4 q hq).1, (h4 q hq).2, kt_of (h5 q hq) rfl⟩
theorem km_d0 : ∀ q ∈ km_0, mj_dk q.1.2.1 q.2 = true := List.forall_mem_cons.mpr ⟨dk_0, List.forall_mem_cons.mpr ⟨dk_1, List.forall_mem_cons.mpr ⟨dk_2, List.forall_mem_cons.mpr ⟨dk_3, List.forall_mem_cons.mpr ⟨dk_4, List.forall_mem_cons.mpr ⟨dk_5, List.forall_mem_cons.mpr ⟨dk_6, List.forall_mem_cons.mpr ⟨dk_7, List.forall_mem_cons.mpr ⟨dk_8, List.forall_mem_cons.mpr ⟨dk_9, List.forall_mem_cons.mpr ⟨dk_10, List.forall_mem_cons.mpr ⟨dk_11, List.forall_mem_cons.mpr ⟨dk_12, List.forall_mem_cons.mpr ⟨dk_13, List.forall_mem_cons.mpr ⟨dk_14, List.forall_mem_cons.mpr ⟨dk_15, List.forall_mem_cons.mpr ⟨dk_16, List.forall_mem_cons.mpr ⟨dk_17, List.forall_mem_cons.mpr ⟨dk_18, List.forall_mem_cons.mpr ⟨dk_19, List.forall_mem_cons.mpr ⟨dk_20, List.forall_mem_cons.mpr ⟨dk_21, List.forall_mem_cons.mpr ⟨dk_22, List.forall_mem_cons.mpr ⟨dk_23, List.forall_mem_cons.mpr ⟨dk_24, List.forall_mem_cons.mpr ⟨dk_25, List.forall_mem_cons.mpr ⟨dk_26, List.forall_mem_cons.mpr ⟨dk_27, List.forall_mem_cons.mpr ⟨dk_28, List.forall_mem_cons.mpr ⟨dk_29, List.forall_mem_cons.mpr ⟨dk_30, List.forall_mem_cons.mpr ⟨dk_31, List.forall_mem_cons.mpr ⟨dk_32, List.forall_mem_cons.mpr ⟨dk_33, List.forall_mem_cons.mpr ⟨dk_34, List.forall_mem_cons.mpr ⟨dk_35, List.forall_mem_cons.mpr ⟨dk_36, List.forall_mem_cons.mpr ⟨dk_37, List.forall_mem_cons.mpr ⟨dk_38, List.forall_mem_cons.mpr ⟨dk_39, List.forall_mem_cons.mpr ⟨dk_40, List.forall_mem_cons.mpr ⟨dk_41, List.forall_mem_cons.mpr ⟨dk_42, List.forall_mem_cons.mpr ⟨dk_43, List.forall_mem_cons.mpr ⟨dk_44, List.forall_mem_cons.mpr ⟨dk_45, List.forall_mem_cons.mpr ⟨dk_46, List.forall_mem_cons.mpr ⟨dk_47, List.forall_mem_cons.mpr ⟨dk_48, List.forall_mem_cons.mpr ⟨dk_49, fun _ h => absurd h List.not_mem_nil⟩⟩⟩⟩⟩⟩⟩⟩⟩⟩⟩⟩⟩⟩⟩⟩⟩⟩⟩⟩⟩⟩⟩⟩⟩⟩⟩⟩⟩⟩⟩⟩⟩⟩⟩⟩⟩⟩⟩⟩⟩⟩⟩⟩⟩⟩⟩⟩⟩⟩
theorem kmw_0 : mj_cw ⟨"DiceOdds", "<init>", "()V"⟩ prog_1_method_1_code 2 none [] ∈ lw_tbl := lw_in1 (List.mem_of_getElem? (i := 37) rfl)
theorem kmw_1 : mj_cw ⟨"java/lang/StringBuilder", "<init>", "()V"⟩ prog_26_method_1_code 1 none [] ∈ lw_tbl := lw_in1 (List.mem_of_getElem? (i := 45) rfl)
theorem kmw_2 : mj_cw ⟨"java/lang/AbstractStringBuilder", "<init>", "(I)V"⟩ prog_15_method_2_code 2 none [] ∈ lw_tbl := lw_in1 (List.mem_of_getElem? (i := 48) rfl)
theorem kmw_3 : mj_cw ⟨"java/lang/StringUTF16", "newBytesFor", "(I)[B"⟩ prog_29_method_2_code 1 (some (.array .byte)) [] ∈ lw_tbl := lw_in1 (List.mem_of_getElem? (i := 54) rfl)
theorem kmw_4 : mj_cw ⟨"java/lang/StringUTF16", "newBytesLength", "(I)I"⟩ prog_29_method_3_code 1 (some .int) [] ∈ lw_tbl := lw_in1 (List.mem_of_getElem? (i := 57) rfl)
theorem kmw_5 : mj_cw ⟨"DiceOdds$Parser", "<init>", "()V"⟩ prog_7_method_1_code 1 none [] ∈ lw_tbl := lw_in1 (List.mem_of_getElem? (i := 80) rfl)
theorem kmw_6 : mj_cw ⟨"DiceOdds$Bench", "<init>", "()V"⟩ prog_2_method_1_code 2 none [] ∈ lw_tbl := lw_in1 (List.mem_of_getElem? (i := 112) rfl)
theorem kmw_7 : mj_cw ⟨"DiceOdds$States", "<init>", "()V"⟩ prog_12_method_1_code 1 none [] ∈ lw_tbl := lw_in1 (List.mem_of_getElem? (i := 120) rfl)
theorem kmw_8 : mj_cw ⟨"DiceOdds$Slot", "<init>", "()V"⟩ prog_10_method_1_code 1 none [] ∈ lw_tbl := lw_in1 (List.mem_of_getElem? (i := 188) rfl)
theorem kmw_9 : mj_cw ⟨"DiceOdds", "type", "(JI)I"⟩ prog_1_method_2_code 6 (some .int) [] ∈ lw_tbl := lw_in1 (List.mem_of_getElem? (i := 231) rfl)
theorem kmw_10 : mj_cw ⟨"java/lang/StringBuilder", "length", "()I"⟩ prog_26_method_93_code 1 (some .int) [] ∈ lw_tbl := lw_in1 (List.mem_of_getElem? (i := 235) rfl)
theorem kmw_11 : mj_cw ⟨"java/lang/AbstractStringBuilder", "length", "()I"⟩ prog_15_method_6_code 1 (some .int) [] ∈ lw_tbl := lw_in1 (List.mem_of_getElem? (i := 238) rfl)
theorem kmw_12 : mj_cw ⟨"DiceOdds", "byteOf", "(JI)I"⟩ prog_1_method_26_code 3 (some .int) [] ∈ lw_tbl := lw_in2 (List.mem_of_getElem? (i := 1) rfl)
theorem kmw_13 : mj_cw ⟨"java/lang/StringBuilder", "append", "(C)Ljava/lang/StringBuilder;"⟩ prog_26_method_14_code 2 (some (.object "java/lang/StringBuilder")) [] ∈ lw_tbl := lw_in2 (List.mem_of_getElem? (i := 5) rfl)
theorem kmw_14 : mj_cw ⟨"java/lang/AbstractStringBuilder", "append", "(C)Ljava/lang/AbstractStringBuilder;"⟩ prog_15_method_31_code 2 (some (.object "java/lang/AbstractStringBuilder")) [] ∈ lw_tbl := lw_in2 (List.mem_of_getElem? (i := 8) rfl)
theorem kmw_15 : mj_cw ⟨"java/lang/AbstractStringBuilder", "ensureCapacityInternal", "(I)V"⟩ prog_15_method_9_code 3 none [] ∈ lw_tbl := lw_in2 (List.mem_of_getElem? (i := 12) rfl)
theorem kmw_16 : mj_cw ⟨"java/lang/AbstractStringBuilder", "newCapacity", "(I)I"⟩ prog_15_method_10_code 6 (some .int) [] ∈ lw_tbl := lw_in2 (List.mem_of_getElem? (i := 16) rfl)
theorem kmw_17 : mj_cw ⟨"jdk/internal/util/ArraysSupport", "newLength", "(III)I"⟩ prog_33_method_27_code 4 (some .int) [] ∈ lw_tbl := lw_in2 (List.mem_of_getElem? (i := 19) rfl)
theorem kmw_18 : mj_cw ⟨"java/lang/Math", "max", "(II)I"⟩ prog_23_method_65_code 2 (some .int) [] ∈ lw_tbl := lw_in2 (List.mem_of_getElem? (i := 22) rfl)
theorem kmw_19 : mj_cw ⟨"jdk/internal/util/ArraysSupport", "hugeLength", "(II)I"⟩ prog_33_method_28_code 3 (some .int) [] ∈ lw_tbl := lw_in2 (List.mem_of_getElem? (i := 26) rfl)
theorem kmw_20 : mj_cw ⟨"java/util/Arrays", "copyOf", "([BI)[B"⟩ prog_32_method_121_code 3 (some (.array .byte)) [] ∈ lw_tbl := lw_in2 (List.mem_of_getElem? (i := 30) rfl)
theorem kmw_21 : mj_cw ⟨"java/lang/Math", "min", "(II)I"⟩ prog_23_method_69_code 2 (some .int) [] ∈ lw_tbl := lw_in2 (List.mem_of_getElem? (i := 40) rfl)
theorem kmw_22 : mj_cw ⟨"java/lang/AbstractStringBuilder", "isLatin1", "()Z"⟩ prog_15_method_68_code 1 (some .boolean) [] ∈ lw_tbl := lw_in2 (List.mem_of_getElem? (i := 48) rfl)
theorem kmw_23 : mj_cw ⟨"java/lang/StringLatin1", "canEncode", "(C)Z"⟩ prog_28_method_3_code 1 (some .boolean) [] ∈ lw_tbl := lw_in2 (List.mem_of_getElem? (i := 51) rfl)
theorem kmw_24 : mj_cw ⟨"java/lang/AbstractStringBuilder", "inflate", "()V"⟩ prog_15_method_11_code 2 none [] ∈ lw_tbl := lw_in2 (List.mem_of_getElem? (i := 55) rfl)
theorem kmw_25 : mj_cw ⟨"java/lang/StringLatin1", "inflate", "([BI[BII)V"⟩ prog_28_method_50_code 5 none [] ∈ lw_tbl := lw_in2 (List.mem_of_getElem? (i := 58) rfl)
theorem kmw_26 : mj_cw ⟨"java/lang/StringUTF16", "inflate", "([BI[BII)V"⟩ prog_29_method_86_code 6 none [] ∈ lw_tbl := lw_in2 (List.mem_of_getElem? (i := 61) rfl)
theorem kmw_27 : mj_cw ⟨"java/lang/StringUTF16", "checkBoundsOffCount", "(II[B)V"⟩ prog_29_method_94_code 3 none [] ∈ lw_tbl := lw_in2 (List.mem_of_getElem? (i := 64) rfl)
theorem kmw_28 : mj_cw ⟨"java/lang/StringUTF16", "length", "([B)I"⟩ prog_29_method_6_code 1 (some .int) [] ∈ lw_tbl := lw_in2 (List.mem_of_getElem? (i := 67) rfl)
theorem kmw_29 : mj_cw ⟨"java/lang/String", "checkBoundsOffCount", "(III)I"⟩ prog_25_method_157_code 3 (some .int) [] ∈ lw_tbl := lw_in2 (List.mem_of_getElem? (i := 70) rfl)
theorem kmw_30 : mj_cw ⟨"jdk/internal/util/Preconditions", "checkFromIndexSize", "(IIILjava/util/function/BiFunction;)I"⟩ prog_34_method_13_code 4 (some .int) [] ∈ lw_tbl := lw_in2 (List.mem_of_getElem? (i := 75) rfl)
theorem kmw_31 : mj_cw ⟨"java/lang/StringUTF16", "putChar", "([BII)V"⟩ prog_29_method_4_code 3 none [] ∈ lw_tbl := lw_in2 (List.mem_of_getElem? (i := 78) rfl)
theorem kmw_32 : mj_cw ⟨"java/lang/StringUTF16", "putCharSB", "([BII)V"⟩ prog_29_method_71_code 3 none [] ∈ lw_tbl := lw_in2 (List.mem_of_getElem? (i := 87) rfl)
theorem kmw_33 : mj_cw ⟨"java/lang/StringUTF16", "checkIndex", "(I[B)V"⟩ prog_29_method_91_code 2 none [] ∈ lw_tbl := lw_in2 (List.mem_of_getElem? (i := 90) rfl)
theorem kmw_34 : mj_cw ⟨"java/lang/String", "checkIndex", "(II)V"⟩ prog_25_method_155_code 2 none [] ∈ lw_tbl := lw_in2 (List.mem_of_getElem? (i := 93) rfl)
theorem kmw_35 : mj_cw ⟨"jdk/internal/util/Preconditions", "checkIndex", "(IILjava/util/function/BiFunction;)I"⟩ prog_34_method_11_code 3 (some .int) [] ∈ lw_tbl := lw_in2 (List.mem_of_getElem? (i := 96) rfl)
theorem kmw_36 : mj_cw ⟨"DiceOdds", "wipe", "()I"⟩ prog_1_method_3_code 2 (some .int) [] ∈ lw_tbl := lw_in2 (List.mem_of_getElem? (i := 100) rfl)
theorem kmw_37 : mj_cw ⟨"java/lang/StringBuilder", "setLength", "(I)V"⟩ prog_26_method_89_code 2 none [] ∈ lw_tbl := lw_in2 (List.mem_of_getElem? (i := 104) rfl)
theorem kmw_38 : mj_cw ⟨"java/lang/AbstractStringBuilder", "setLength", "(I)V"⟩ prog_15_method_13_code 2 none [] ∈ lw_tbl := lw_in2 (List.mem_of_getElem? (i := 107) rfl)
theorem kmw_39 : mj_cw ⟨"java/lang/StringBuilder", "append", "(Ljava/lang/String;)Ljava/lang/StringBuilder;"⟩ prog_26_method_7_code 2 (some (.object "java/lang/StringBuilder")) [] ∈ lw_tbl := lw_in2 (List.mem_of_getElem? (i := 119) rfl)
theorem kmw_40 : mj_cw ⟨"java/lang/AbstractStringBuilder", "append", "(Ljava/lang/String;)Ljava/lang/AbstractStringBuilder;"⟩ prog_15_method_22_code 3 (some (.object "java/lang/AbstractStringBuilder")) [] ∈ lw_tbl := lw_in2 (List.mem_of_getElem? (i := 122) rfl)
theorem kmw_41 : mj_cw ⟨"java/lang/AbstractStringBuilder", "appendNull", "()Ljava/lang/AbstractStringBuilder;"⟩ prog_15_method_26_code 3 (some (.object "java/lang/AbstractStringBuilder")) [] ∈ lw_tbl := lw_in2 (List.mem_of_getElem? (i := 126) rfl)
theorem kmw_42 : mj_cw ⟨"java/lang/StringUTF16", "putCharsAt", "([BICCCC)I"⟩ prog_29_method_81_code 7 (some .int) [] ∈ lw_tbl := lw_in2 (List.mem_of_getElem? (i := 129) rfl)
theorem kmw_43 : mj_cw ⟨"java/lang/StringUTF16", "checkBoundsBeginEnd", "(II[B)V"⟩ prog_29_method_93_code 3 none [] ∈ lw_tbl := lw_in2 (List.mem_of_getElem? (i := 132) rfl)
theorem kmw_44 : mj_cw ⟨"java/lang/String", "checkBoundsBeginEnd", "(III)V"⟩ prog_25_method_158_code 3 none [] ∈ lw_tbl := lw_in2 (List.mem_of_getElem? (i := 135) rfl)
theorem kmw_45 : mj_cw ⟨"jdk/internal/util/Preconditions", "checkFromToIndex", "(IIILjava/util/function/BiFunction;)I"⟩ prog_34_method_12_code 4 (some .int) [] ∈ lw_tbl := lw_in2 (List.mem_of_getElem? (i := 138) rfl)
theorem kmw_46 : mj_cw ⟨"java/lang/String", "length", "()I"⟩ prog_25_method_54_code 1 (some .int) [] ∈ lw_tbl := lw_in2 (List.mem_of_getElem? (i := 142) rfl)
theorem kmw_47 : mj_cw ⟨"java/lang/String", "coder", "()B"⟩ prog_25_method_152_code 1 (some .byte) [] ∈ lw_tbl := lw_in2 (List.mem_of_getElem? (i := 146) rfl)
theorem kmw_48 : mj_cw ⟨"java/lang/AbstractStringBuilder", "putStringAt", "(ILjava/lang/String;)V"⟩ prog_15_method_73_code 3 none [] ∈ lw_tbl := lw_in2 (List.mem_of_getElem? (i := 151) rfl)
theorem kmw_49 : mj_cw ⟨"java/lang/AbstractStringBuilder", "inflateIfNeededFor", "(Ljava/lang/String;)V"⟩ prog_15_method_71_code 2 none [] ∈ lw_tbl := lw_in2 (List.mem_of_getElem? (i := 155) rfl)
theorem km_v0 : ∀ q ∈ km_0, km_c q ∈ lw_tbl := List.forall_mem_cons.mpr ⟨kmw_0, List.forall_mem_cons.mpr ⟨kmw_1, List.forall_mem_cons.mpr ⟨kmw_2, List.forall_mem_cons.mpr ⟨kmw_3, List.forall_mem_cons.mpr ⟨kmw_4, List.forall_mem_cons.mpr ⟨kmw_5, List.forall_mem_cons.mpr ⟨kmw_6, List.forall_mem_cons.mpr ⟨kmw_7, List.forall_mem_cons.mpr ⟨kmw_8, List.forall_mem_cons.mpr ⟨kmw_9, List.forall_mem_cons.mpr ⟨kmw_10, List.forall_mem_cons.mpr ⟨kmw_11, List.forall_mem_cons.mpr ⟨kmw_12, List.forall_mem_cons.mpr ⟨kmw_13, List.forall_mem_cons.mpr ⟨kmw_14, List.forall_mem_cons.mpr ⟨kmw_15, List.forall_mem_cons.mpr ⟨kmw_16, List.forall_mem_cons.mpr ⟨kmw_17, List.forall_mem_cons.mpr ⟨kmw_18, List.forall_mem_cons.mpr ⟨kmw_19, List.forall_mem_cons.mpr ⟨kmw_20, List.forall_mem_cons.mpr ⟨kmw_21, List.forall_mem_cons.mpr ⟨kmw_22, List.forall_mem_cons.mpr ⟨kmw_23, List.forall_mem_cons.mpr ⟨kmw_24, List.forall_mem_cons.mpr ⟨kmw_25, List.forall_mem_cons.mpr ⟨kmw_26, List.forall_mem_cons.mpr ⟨kmw_27, List.forall_mem_cons.mpr ⟨kmw_28, List.forall_mem_cons.mpr ⟨kmw_29, List.forall_mem_cons.mpr ⟨kmw_30, List.forall_mem_cons.mpr ⟨kmw_31, List.forall_mem_cons.mpr ⟨kmw_32, List.forall_mem_cons.mpr ⟨kmw_33, List.forall_mem_cons.mpr ⟨kmw_34, List.forall_mem_cons.mpr ⟨kmw_35, List.forall_mem_cons.mpr ⟨kmw_36, List.forall_mem_cons.mpr ⟨kmw_37, List.forall_mem_cons.mpr ⟨kmw_38, List.forall_mem_cons.mpr ⟨kmw_39, List.forall_mem_cons.mpr ⟨kmw_40, List.forall_mem_cons.mpr ⟨kmw_41, List.forall_mem_cons.mpr ⟨kmw_42, List.forall_mem_cons.mpr ⟨kmw_43, List.forall_mem_cons.mpr ⟨kmw_44, List.forall_mem_cons.mpr ⟨kmw_45, List.forall_mem_cons.mpr ⟨kmw_46, List.forall_mem_cons.mpr ⟨kmw_47, List.forall_mem_cons.mpr ⟨kmw_48, List.forall_mem_cons.mpr ⟨kmw_49, fun _ h => absurd h List.not_mem_nil⟩⟩⟩⟩⟩⟩⟩⟩⟩⟩⟩⟩⟩⟩⟩⟩⟩⟩⟩⟩⟩⟩⟩⟩⟩⟩⟩⟩⟩⟩⟩⟩⟩⟩⟩⟩⟩⟩⟩⟩⟩⟩⟩⟩⟩⟩⟩⟩⟩⟩
theorem km_o0 : ∀ q ∈ km_0, km_ok q := km_of km_d0 km_v0 (by decide +kernel) (by decide +kernel) (by decide +kernel)
theorem km_d1 : ∀ q ∈ km_1, mj_dk q.1.2.1 q.2 = true := List.forall_mem_cons.mpr ⟨dk_50, List.forall_mem_cons.mpr ⟨dk_51, List.forall_mem_cons.mpr ⟨dk_52, List.forall_mem_cons.mpr ⟨dk_53, List.forall_mem_cons.mpr ⟨dk_54, List.forall_mem_cons.mpr ⟨dk_55, List.forall_mem_cons.mpr ⟨dk_56, List.forall_mem_cons.mpr ⟨dk_57, List.forall_mem_cons.mpr ⟨dk_58, List.forall_mem_cons.mpr ⟨dk_59, List.forall_mem_cons.mpr ⟨dk_60, List.forall_mem_cons.mpr ⟨dk_61, List.forall_mem_cons.mpr ⟨dk_62, List.forall_mem_cons.mpr ⟨dk_63, List.forall_mem_cons.mpr ⟨dk_64, List.forall_mem_cons.mpr ⟨dk_65, List.forall_mem_cons.mpr ⟨dk_66, List.forall_mem_cons.mpr ⟨dk_67, List.forall_mem_cons.mpr ⟨dk_68, List.forall_mem_cons.mpr ⟨dk_69, List.forall_mem_cons.mpr ⟨dk_70, List.forall_mem_cons.mpr ⟨dk_71, List.forall_mem_cons.mpr ⟨dk_72, List.forall_mem_cons.mpr ⟨dk_73, List.forall_mem_cons.mpr ⟨dk_74, List.forall_mem_cons.mpr ⟨dk_75, List.forall_mem_cons.mpr ⟨dk_76, List.forall_mem_cons.mpr ⟨dk_77, List.forall_mem_cons.mpr ⟨dk_78, List.forall_mem_cons.mpr ⟨dk_79, List.forall_mem_cons.mpr ⟨dk_80, List.forall_mem_cons.mpr ⟨dk_81, List.forall_mem_cons.mpr ⟨dk_82, List.forall_mem_cons.mpr ⟨dk_83, List.forall_mem_cons.mpr ⟨dk_84, List.forall_mem_cons.mpr ⟨dk_85, List.forall_mem_cons.mpr ⟨dk_86, List.forall_mem_cons.mpr ⟨dk_87, List.forall_mem_cons.mpr ⟨dk_88, List.forall_mem_cons.mpr ⟨dk_89, List.forall_mem_cons.mpr ⟨dk_90, List.forall_mem_cons.mpr ⟨dk_91, List.forall_mem_cons.mpr ⟨dk_92, List.forall_mem_cons.mpr ⟨dk_93, List.forall_mem_cons.mpr ⟨dk_94, List.forall_mem_cons.mpr ⟨dk_95, List.forall_mem_cons.mpr ⟨dk_96, List.forall_mem_cons.mpr ⟨dk_97, List.forall_mem_cons.mpr ⟨dk_98, List.forall_mem_cons.mpr ⟨dk_99, fun _ h => absurd h List.not_mem_nil⟩⟩⟩⟩⟩⟩⟩⟩⟩⟩⟩⟩⟩⟩⟩⟩⟩⟩⟩⟩⟩⟩⟩⟩⟩⟩⟩⟩⟩⟩⟩⟩⟩⟩⟩⟩⟩⟩⟩⟩⟩⟩⟩⟩⟩⟩⟩⟩⟩⟩
theorem kmw_50 : mj_cw ⟨"java/lang/String", "getBytes", "([BIB)V"⟩ prog_25_method_147_code 4 none [] ∈ lw_tbl := lw_in2 (List.mem_of_getElem? (i := 160) rfl)
theorem kmw_51 : mj_cw ⟨"java/lang/StringBuilder", "append", "(I)Ljava/lang/StringBuilder;"⟩ prog_26_method_15_code 2 (some (.object "java/lang/StringBuilder")) [] ∈ lw_tbl := lw_in2 (List.mem_of_getElem? (i := 166) rfl)
theorem kmw_52 : mj_cw ⟨"java/lang/AbstractStringBuilder", "append", "(I)Ljava/lang/AbstractStringBuilder;"⟩ prog_15_method_32_code 4 (some (.object "java/lang/AbstractStringBuilder")) [] ∈ lw_tbl := lw_in2 (List.mem_of_getElem? (i := 169) rfl)
theorem kmw_53 : mj_cw ⟨"java/lang/Integer", "stringSize", "(I)I"⟩ prog_22_method_13_code 4 (some .int) [] ∈ lw_tbl := lw_in2 (List.mem_of_getElem? (i := 172) rfl)
theorem kmw_54 : mj_cw ⟨"java/lang/Integer", "getChars", "(II[B)I"⟩ prog_22_method_12_code 7 (some .int) [] ∈ lw_tbl := lw_in2 (List.mem_of_getElem? (i := 175) rfl)
theorem kmw_55 : mj_cw ⟨"java/lang/StringUTF16", "getChars", "(III[B)I"⟩ prog_29_method_77_code 5 (some .int) [] ∈ lw_tbl := lw_in2 (List.mem_of_getElem? (i := 182) rfl)
theorem kmw_56 : mj_cw ⟨"java/lang/StringUTF16", "getChars", "(II[B)I"⟩ prog_29_method_89_code 7 (some .int) [] ∈ lw_tbl := lw_in2 (List.mem_of_getElem? (i := 185) rfl)
theorem kmw_57 : mj_cw ⟨"java/lang/StringBuilder", "toString", "()Ljava/lang/String;"⟩ prog_26_method_42_code 1 (some (.object "java/lang/String")) [] ∈ lw_tbl := lw_in2 (List.mem_of_getElem? (i := 191) rfl)
theorem kmw_58 : mj_cw ⟨"java/lang/String", "<init>", "(Ljava/lang/StringBuilder;)V"⟩ prog_25_method_53_code 2 none [] ∈ lw_tbl := lw_in2 (List.mem_of_getElem? (i := 196) rfl)
theorem kmw_59 : mj_cw ⟨"java/lang/String", "<init>", "(Ljava/lang/AbstractStringBuilder;Ljava/lang/Void;)V"⟩ prog_25_method_150_code 5 none [] ∈ lw_tbl := lw_in2 (List.mem_of_getElem? (i := 199) rfl)
theorem kmw_60 : mj_cw ⟨"java/lang/AbstractStringBuilder", "getValue", "()[B"⟩ prog_15_method_64_code 1 (some (.array .byte)) [] ∈ lw_tbl := lw_in2 (List.mem_of_getElem? (i := 205) rfl)
theorem kmw_61 : mj_cw ⟨"java/util/Arrays", "copyOfRange", "([BII)[B"⟩ prog_32_method_132_code 3 (some (.array .byte)) [] ∈ lw_tbl := lw_in2 (List.mem_of_getElem? (i := 210) rfl)
theorem kmw_62 : mj_cw ⟨"java/util/Arrays", "copyOfRangeByte", "([BII)[B"⟩ prog_32_method_133_code 5 (some (.array .byte)) [] ∈ lw_tbl := lw_in2 (List.mem_of_getElem? (i := 213) rfl)
theorem kmw_63 : mj_cw ⟨"java/util/Arrays", "checkLength", "(II)V"⟩ prog_32_method_131_code 2 none [] ∈ lw_tbl := lw_in2 (List.mem_of_getElem? (i := 216) rfl)
theorem kmw_64 : mj_cw ⟨"java/lang/StringUTF16", "compress", "([BII)[B"⟩ prog_29_method_17_code 6 (some (.array .byte)) [] ∈ lw_tbl := lw_in3 (List.mem_of_getElem? (i := 53) rfl)
theorem kmw_65 : mj_cw ⟨"java/lang/StringUTF16", "compress", "([BI[BII)I"⟩ prog_29_method_22_code 7 (some .int) [] ∈ lw_tbl := lw_in3 (List.mem_of_getElem? (i := 56) rfl)
theorem kmw_66 : mj_cw ⟨"java/lang/StringUTF16", "getChar", "([BI)C"⟩ prog_29_method_5_code 2 (some .char) [] ∈ lw_tbl := lw_in3 (List.mem_of_getElem? (i := 59) rfl)
theorem kmw_67 : mj_cw ⟨"java/lang/StringUTF16", "coderFromArrayLen", "([BI)B"⟩ prog_29_method_15_code 2 (some .byte) [] ∈ lw_tbl := lw_in3 (List.mem_of_getElem? (i := 63) rfl)
theorem kmw_68 : mj_cw ⟨"java/lang/StringLatin1", "fillNull", "([BII)V"⟩ prog_28_method_48_code 3 none [] ∈ lw_tbl := lw_in3 (List.mem_of_getElem? (i := 88) rfl)
theorem kmw_69 : mj_cw ⟨"java/util/Arrays", "fill", "([BIIB)V"⟩ prog_32_method_110_code 5 none [] ∈ lw_tbl := lw_in3 (List.mem_of_getElem? (i := 91) rfl)
theorem kmw_70 : mj_cw ⟨"java/util/Arrays", "rangeCheck", "(III)V"⟩ prog_32_method_30_code 3 none [] ∈ lw_tbl := lw_in3 (List.mem_of_getElem? (i := 94) rfl)
theorem kmw_71 : mj_cw ⟨"java/lang/StringUTF16", "fillNull", "([BII)V"⟩ prog_29_method_70_code 3 none [] ∈ lw_tbl := lw_in3 (List.mem_of_getElem? (i := 119) rfl)
theorem kmw_72 : mj_cw ⟨"DiceOdds", "character", "(I)I"⟩ prog_1_method_4_code 2 (some .int) [] ∈ lw_tbl := lw_in3 (List.mem_of_getElem? (i := 124) rfl)
theorem kmw_73 : mj_cw ⟨"java/lang/StringBuilder", "charAt", "(I)C"⟩ prog_26_method_88_code 2 (some .char) [] ∈ lw_tbl := lw_in3 (List.mem_of_getElem? (i := 128) rfl)
theorem kmw_74 : mj_cw ⟨"java/lang/AbstractStringBuilder", "charAt", "(I)C"⟩ prog_15_method_14_code 5 (some .char) [] ∈ lw_tbl := lw_in3 (List.mem_of_getElem? (i := 131) rfl)
theorem kmw_75 : mj_cw ⟨"DiceOdds", "place", "()I"⟩ prog_1_method_6_code 1 (some .int) [] ∈ lw_tbl := lw_in3 (List.mem_of_getElem? (i := 138) rfl)
theorem kmw_76 : mj_cw ⟨"DiceOdds", "states", "()I"⟩ prog_1_method_9_code 1 (some .int) [] ∈ lw_tbl := lw_in3 (List.mem_of_getElem? (i := 142) rfl)
theorem kmw_77 : mj_cw ⟨"DiceOddsLaw", "read", "(LDiceOdds;I[J)I"⟩ method_3_code 4 (some .int) [(0, 9, 12, 13)] ∈ lw_tbl := lw_in3 (List.mem_of_getElem? (i := 145) rfl)
theorem kmw_78 : mj_cw ⟨"DiceOdds", "read", "(I)I"⟩ prog_1_method_5_code 4 (some .int) [] ∈ lw_tbl := lw_in3 (List.mem_of_getElem? (i := 150) rfl)
theorem kmw_79 : mj_cw ⟨"DiceOdds", "slotAt", "(I)LDiceOdds$Slot;"⟩ prog_1_method_22_code 2 (some (.object "DiceOdds$Slot")) [] ∈ lw_tbl := lw_in3 (List.mem_of_getElem? (i := 154) rfl)
theorem kmw_80 : mj_cw ⟨"DiceOdds", "isSlot", "(I)Z"⟩ prog_1_method_20_code 1 (some .boolean) [] ∈ lw_tbl := lw_in3 (List.mem_of_getElem? (i := 157) rfl)
theorem kmw_81 : mj_cw ⟨"DiceOdds$Parser", "wholeProgram", "(Ljava/lang/StringBuilder;)LDiceOdds$Statement;"⟩ prog_7_method_2_code 3 (some (.object "DiceOdds$Statement")) [] ∈ lw_tbl := lw_in3 (List.mem_of_getElem? (i := 164) rfl)
theorem kmw_82 : mj_cw ⟨"DiceOdds$Parser", "begin", "(Ljava/lang/StringBuilder;)V"⟩ prog_7_method_3_code 3 none [] ∈ lw_tbl := lw_in3 (List.mem_of_getElem? (i := 168) rfl)
theorem kmw_83 : mj_cw ⟨"DiceOdds$Parser", "program", "(I)LDiceOdds$Statement;"⟩ prog_7_method_7_code 6 (some (.object "DiceOdds$Statement")) [] ∈ lw_tbl := lw_in3 (List.mem_of_getElem? (i := 175) rfl)
theorem kmw_84 : mj_cw ⟨"DiceOdds$Parser", "peek", "()C"⟩ prog_7_method_5_code 1 (some .char) [] ∈ lw_tbl := lw_in3 (List.mem_of_getElem? (i := 179) rfl)
theorem kmw_85 : mj_cw ⟨"DiceOdds$Parser", "statement", "(I)LDiceOdds$Statement;"⟩ prog_7_method_8_code 4 (some (.object "DiceOdds$Statement")) [] ∈ lw_tbl := lw_in3 (List.mem_of_getElem? (i := 183) rfl)
theorem kmw_86 : mj_cw ⟨"DiceOdds", "isName", "(C)Z"⟩ prog_1_method_33_code 1 (some .boolean) [] ∈ lw_tbl := lw_in3 (List.mem_of_getElem? (i := 186) rfl)
theorem kmw_87 : mj_cw ⟨"DiceOdds$Parser", "demand", "(ZI)V"⟩ prog_7_method_4_code 3 none [] ∈ lw_tbl := lw_in3 (List.mem_of_getElem? (i := 190) rfl)
theorem kmw_88 : mj_cw ⟨"DiceOdds$Parser", "choice", "(I)LDiceOdds$Statement;"⟩ prog_7_method_9_code 5 (some (.object "DiceOdds$Statement")) [] ∈ lw_tbl := lw_in3 (List.mem_of_getElem? (i := 197) rfl)
theorem kmw_89 : mj_cw ⟨"DiceOdds$Parser", "expression", "(II)LDiceOdds$Expression;"⟩ prog_7_method_12_code 7 (some (.object "DiceOdds$Expression")) [] ∈ lw_tbl := lw_in3 (List.mem_of_getElem? (i := 201) rfl)
theorem kmw_90 : mj_cw ⟨"DiceOdds$Parser", "operand", "(I)LDiceOdds$Expression;"⟩ prog_7_method_13_code 3 (some (.object "DiceOdds$Expression")) [] ∈ lw_tbl := lw_in3 (List.mem_of_getElem? (i := 205) rfl)
theorem kmw_91 : mj_cw ⟨"DiceOdds$Minus", "<init>", "(LDiceOdds$Expression;)V"⟩ prog_5_method_1_code 2 none [] ∈ lw_tbl := lw_in3 (List.mem_of_getElem? (i := 210) rfl)
theorem kmw_92 : mj_cw ⟨"DiceOdds$Expression", "<init>", "(J)V"⟩ prog_4_method_1_code 3 none [] ∈ lw_tbl := lw_in3 (List.mem_of_getElem? (i := 213) rfl)
theorem kmw_93 : mj_cw ⟨"DiceOdds$Parser", "inBrackets", "(I)LDiceOdds$Expression;"⟩ prog_7_method_14_code 3 (some (.object "DiceOdds$Expression")) [] ∈ lw_tbl := lw_in3 (List.mem_of_getElem? (i := 228) rfl)
theorem kmw_94 : mj_cw ⟨"DiceOdds$Parser", "pass", "(C)V"⟩ prog_7_method_6_code 2 none [] ∈ lw_tbl := lw_in3 (List.mem_of_getElem? (i := 232) rfl)
theorem kmw_95 : mj_cw ⟨"DiceOdds", "isDigit", "(C)Z"⟩ prog_1_method_34_code 1 (some .boolean) [] ∈ lw_tbl := lw_in3 (List.mem_of_getElem? (i := 235) rfl)
theorem kmw_96 : mj_cw ⟨"DiceOdds", "isDigit", "(C)Z"⟩ prog_1_method_34_code 1 (some .boolean) [] ∈ lw_tbl := lw_in3 (List.mem_of_getElem? (i := 235) rfl)
theorem kmw_97 : mj_cw ⟨"DiceOdds$Plain", "<init>", "(II)V"⟩ prog_8_method_1_code 3 none [] ∈ lw_tbl := lw_in4 (List.mem_of_getElem? (i := 0) rfl)
theorem kmw_98 : mj_cw ⟨"DiceOdds$Parser", "dice", "(I)LDiceOdds$Expression;"⟩ prog_7_method_16_code 4 (some (.object "DiceOdds$Expression")) [] ∈ lw_tbl := lw_in4 (List.mem_of_getElem? (i := 21) rfl)
theorem kmw_99 : mj_cw ⟨"DiceOdds$Parser", "number", "(II)I"⟩ prog_7_method_18_code 6 (some .int) [] ∈ lw_tbl := lw_in4 (List.mem_of_getElem? (i := 17) rfl)
theorem km_v1 : ∀ q ∈ km_1, km_c q ∈ lw_tbl := List.forall_mem_cons.mpr ⟨kmw_50, List.forall_mem_cons.mpr ⟨kmw_51, List.forall_mem_cons.mpr ⟨kmw_52, List.forall_mem_cons.mpr ⟨kmw_53, List.forall_mem_cons.mpr ⟨kmw_54, List.forall_mem_cons.mpr ⟨kmw_55, List.forall_mem_cons.mpr ⟨kmw_56, List.forall_mem_cons.mpr ⟨kmw_57, List.forall_mem_cons.mpr ⟨kmw_58, List.forall_mem_cons.mpr ⟨kmw_59, List.forall_mem_cons.mpr ⟨kmw_60, List.forall_mem_cons.mpr ⟨kmw_61, List.forall_mem_cons.mpr ⟨kmw_62, List.forall_mem_cons.mpr ⟨kmw_63, List.forall_mem_cons.mpr ⟨kmw_64, List.forall_mem_cons.mpr ⟨kmw_65, List.forall_mem_cons.mpr ⟨kmw_66, List.forall_mem_cons.mpr ⟨kmw_67, List.forall_mem_cons.mpr ⟨kmw_68, List.forall_mem_cons.mpr ⟨kmw_69, List.forall_mem_cons.mpr ⟨kmw_70, List.forall_mem_cons.mpr ⟨kmw_71, List.forall_mem_cons.mpr ⟨kmw_72, List.forall_mem_cons.mpr ⟨kmw_73, List.forall_mem_cons.mpr ⟨kmw_74, List.forall_mem_cons.mpr ⟨kmw_75, List.forall_mem_cons.mpr ⟨kmw_76, List.forall_mem_cons.mpr ⟨kmw_77, List.forall_mem_cons.mpr ⟨kmw_78, List.forall_mem_cons.mpr ⟨kmw_79, List.forall_mem_cons.mpr ⟨kmw_80, List.forall_mem_cons.mpr ⟨kmw_81, List.forall_mem_cons.mpr ⟨kmw_82, List.forall_mem_cons.mpr ⟨kmw_83, List.forall_mem_cons.mpr ⟨kmw_84, List.forall_mem_cons.mpr ⟨kmw_85, List.forall_mem_cons.mpr ⟨kmw_86, List.forall_mem_cons.mpr ⟨kmw_87, List.forall_mem_cons.mpr ⟨kmw_88, List.forall_mem_cons.mpr ⟨kmw_89, List.forall_mem_cons.mpr ⟨kmw_90, List.forall_mem_cons.mpr ⟨kmw_91, List.forall_mem_cons.mpr ⟨kmw_92, List.forall_mem_cons.mpr ⟨kmw_93, List.forall_mem_cons.mpr ⟨kmw_94, List.forall_mem_cons.mpr ⟨kmw_95, List.forall_mem_cons.mpr ⟨kmw_96, List.forall_mem_cons.mpr ⟨kmw_97, List.forall_mem_cons.mpr ⟨kmw_98, List.forall_mem_cons.mpr ⟨kmw_99, fun _ h => absurd h List.not_mem_nil⟩⟩⟩⟩⟩⟩⟩⟩⟩⟩⟩⟩⟩⟩⟩⟩⟩⟩⟩⟩⟩⟩⟩⟩⟩⟩⟩⟩⟩⟩⟩⟩⟩⟩⟩⟩⟩⟩⟩⟩⟩⟩⟩⟩⟩⟩⟩⟩⟩⟩
theorem km_o1 : ∀ q ∈ km_1, km_ok q := km_of km_d1 km_v1 (by decide +kernel) (by decide +kernel) (by decide +kernel)
theorem km_d2 : ∀ q ∈ km_2, mj_dk q.1.2.1 q.2 = true := List.forall_mem_cons.mpr ⟨dk_100, List.forall_mem_cons.mpr ⟨dk_101, List.forall_mem_cons.mpr ⟨dk_102, List.forall_mem_cons.mpr ⟨dk_103, List.forall_mem_cons.mpr ⟨dk_104, List.forall_mem_cons.mpr ⟨dk_105, List.forall_mem_cons.mpr ⟨dk_106, List.forall_mem_cons.mpr ⟨dk_107, List.forall_mem_cons.mpr ⟨dk_108, List.forall_mem_cons.mpr ⟨dk_109, List.forall_mem_cons.mpr ⟨dk_110, List.forall_mem_cons.mpr ⟨dk_111, List.forall_mem_cons.mpr ⟨dk_112, List.forall_mem_cons.mpr ⟨dk_113, List.forall_mem_cons.mpr ⟨dk_114, List.forall_mem_cons.mpr ⟨dk_115, List.forall_mem_cons.mpr ⟨dk_116, List.forall_mem_cons.mpr ⟨dk_117, List.forall_mem_cons.mpr ⟨dk_118, List.forall_mem_cons.mpr ⟨dk_119, List.forall_mem_cons.mpr ⟨dk_120, List.forall_mem_cons.mpr ⟨dk_121, List.forall_mem_cons.mpr ⟨dk_122, List.forall_mem_cons.mpr ⟨dk_123, List.forall_mem_cons.mpr ⟨dk_124, List.forall_mem_cons.mpr ⟨dk_125, List.forall_mem_cons.mpr ⟨dk_126, List.forall_mem_cons.mpr ⟨dk_127, List.forall_mem_cons.mpr ⟨dk_128, List.forall_mem_cons.mpr ⟨dk_129, List.forall_mem_cons.mpr ⟨dk_130, List.forall_mem_cons.mpr ⟨dk_131, List.forall_mem_cons.mpr ⟨dk_132, List.forall_mem_cons.mpr ⟨dk_133, List.forall_mem_cons.mpr ⟨dk_134, List.forall_mem_cons.mpr ⟨dk_135, List.forall_mem_cons.mpr ⟨dk_136, List.forall_mem_cons.mpr ⟨dk_137, List.forall_mem_cons.mpr ⟨dk_138, List.forall_mem_cons.mpr ⟨dk_139, List.forall_mem_cons.mpr ⟨dk_140, List.forall_mem_cons.mpr ⟨dk_141, List.forall_mem_cons.mpr ⟨dk_142, List.forall_mem_cons.mpr ⟨dk_143, List.forall_mem_cons.mpr ⟨dk_144, List.forall_mem_cons.mpr ⟨dk_145, List.forall_mem_cons.mpr ⟨dk_146, List.forall_mem_cons.mpr ⟨dk_147, List.forall_mem_cons.mpr ⟨dk_148, List.forall_mem_cons.mpr ⟨dk_149, fun _ h => absurd h List.not_mem_nil⟩⟩⟩⟩⟩⟩⟩⟩⟩⟩⟩⟩⟩⟩⟩⟩⟩⟩⟩⟩⟩⟩⟩⟩⟩⟩⟩⟩⟩⟩⟩⟩⟩⟩⟩⟩⟩⟩⟩⟩⟩⟩⟩⟩⟩⟩⟩⟩⟩⟩
theorem kmw_100 : mj_cw ⟨"DiceOdds$Dice", "<init>", "(IICI)V"⟩ prog_3_method_1_code 5 none [] ∈ lw_tbl := lw_in4 (List.mem_of_getElem? (i := 26) rfl)
theorem kmw_101 : mj_cw ⟨"DiceOdds", "power", "(JI)J"⟩ prog_1_method_29_code 6 (some .long) [] ∈ lw_tbl := lw_in4 (List.mem_of_getElem? (i := 29) rfl)
theorem kmw_102 : mj_cw ⟨"DiceOdds", "product", "(JJ)J"⟩ prog_1_method_28_code 4 (some .long) [] ∈ lw_tbl := lw_in4 (List.mem_of_getElem? (i := 85) rfl)
theorem kmw_103 : mj_cw ⟨"java/lang/Math", "min", "(JJ)J"⟩ prog_23_method_70_code 4 (some .long) [] ∈ lw_tbl := lw_in4 (List.mem_of_getElem? (i := 33) rfl)
theorem kmw_104 : mj_cw ⟨"DiceOdds$Parser", "row", "()LDiceOdds$Expression;"⟩ prog_7_method_17_code 2 (some (.object "DiceOdds$Expression")) [] ∈ lw_tbl := lw_in4 (List.mem_of_getElem? (i := 55) rfl)
theorem kmw_105 : mj_cw ⟨"java/util/Arrays", "copyOf", "([II)[I"⟩ prog_32_method_123_code 3 (some (.array .int)) [] ∈ lw_tbl := lw_in4 (List.mem_of_getElem? (i := 60) rfl)
theorem kmw_106 : mj_cw ⟨"DiceOdds$Row", "<init>", "([I)V"⟩ prog_9_method_1_code 2 none [] ∈ lw_tbl := lw_in4 (List.mem_of_getElem? (i := 68) rfl)
theorem kmw_107 : mj_cw ⟨"DiceOdds$Parser", "numberOrDice", "()LDiceOdds$Expression;"⟩ prog_7_method_15_code 3 (some (.object "DiceOdds$Expression")) [] ∈ lw_tbl := lw_in4 (List.mem_of_getElem? (i := 13) rfl)
theorem kmw_108 : mj_cw ⟨"DiceOdds", "bindingOf", "(C)I"⟩ prog_1_method_35_code 1 (some .int) [] ∈ lw_tbl := lw_in4 (List.mem_of_getElem? (i := 77) rfl)
theorem kmw_109 : mj_cw ⟨"DiceOdds$Operation", "<init>", "(CLDiceOdds$Expression;LDiceOdds$Expression;)V"⟩ prog_6_method_1_code 4 none [] ∈ lw_tbl := lw_in4 (List.mem_of_getElem? (i := 82) rfl)
theorem kmw_110 : mj_cw ⟨"DiceOdds$Parser", "inBraces", "(I)LDiceOdds$Statement;"⟩ prog_7_method_11_code 3 (some (.object "DiceOdds$Statement")) [] ∈ lw_tbl := lw_in4 (List.mem_of_getElem? (i := 101) rfl)
theorem kmw_111 : mj_cw ⟨"DiceOdds$Statement", "<init>", "(CLDiceOdds$Expression;ILDiceOdds$Statement;LDiceOdds$Statement;)V"⟩ prog_11_method_1_code 12 none [] ∈ lw_tbl := lw_in4 (List.mem_of_getElem? (i := 106) rfl)
theorem kmw_112 : mj_cw ⟨"DiceOdds$Statement", "fallsOfAll", "(LDiceOdds$Statement;)J"⟩ prog_11_method_2_code 4 (some .long) [] ∈ lw_tbl := lw_in4 (List.mem_of_getElem? (i := 110) rfl)
theorem kmw_113 : mj_cw ⟨"DiceOdds", "commonMultiple", "(JJ)J"⟩ prog_1_method_32_code 4 (some .long) [] ∈ lw_tbl := lw_in4 (List.mem_of_getElem? (i := 114) rfl)
theorem kmw_114 : mj_cw ⟨"DiceOdds", "commonDivisor", "(JJ)J"⟩ prog_1_method_30_code 11 (some .long) [] ∈ lw_tbl := lw_in4 (List.mem_of_getElem? (i := 117) rfl)
theorem kmw_115 : mj_cw ⟨"DiceOdds", "quotient", "(JJ)J"⟩ prog_1_method_31_code 4 (some .long) [] ∈ lw_tbl := lw_in4 (List.mem_of_getElem? (i := 120) rfl)
theorem kmw_116 : mj_cw ⟨"DiceOdds$Parser", "repetition", "(I)LDiceOdds$Statement;"⟩ prog_7_method_10_code 3 (some (.object "DiceOdds$Statement")) [] ∈ lw_tbl := lw_in4 (List.mem_of_getElem? (i := 156) rfl)
theorem kmw_117 : mj_cw ⟨"DiceOdds$Slot", "takeProgram", "(LDiceOdds$Statement;)V"⟩ prog_10_method_2_code 2 none [] ∈ lw_tbl := lw_in4 (List.mem_of_getElem? (i := 162) rfl)
theorem kmw_118 : mj_cw ⟨"DiceOdds$Slot", "dropResult", "()V"⟩ prog_10_method_3_code 1 none [] ∈ lw_tbl := lw_in4 (List.mem_of_getElem? (i := 166) rfl)
theorem kmw_119 : mj_cw ⟨"DiceOddsLaw", "print", "(LDiceOdds;I[J)I"⟩ method_4_code 4 (some .int) [(0, 9, 12, 13), (0, 9, 15, 18)] ∈ lw_tbl := lw_in4 (List.mem_of_getElem? (i := 169) rfl)
theorem kmw_120 : mj_cw ⟨"DiceOdds", "print", "(I)I"⟩ prog_1_method_7_code 3 (some .int) [] ∈ lw_tbl := lw_in4 (List.mem_of_getElem? (i := 174) rfl)
theorem kmw_121 : mj_cw ⟨"DiceOdds", "withProgram", "(I)LDiceOdds$Slot;"⟩ prog_1_method_23_code 3 (some (.object "DiceOdds$Slot")) [] ∈ lw_tbl := lw_in4 (List.mem_of_getElem? (i := 178) rfl)
theorem kmw_122 : mj_cw ⟨"DiceOdds$Statement", "writeAll", "(LDiceOdds$Statement;Ljava/lang/StringBuilder;)V"⟩ prog_11_method_3_code 3 none [] ∈ lw_tbl := lw_in4 (List.mem_of_getElem? (i := 197) rfl)
theorem kmw_123 : mj_cw ⟨"DiceOdds$Statement", "write", "(Ljava/lang/StringBuilder;)V"⟩ prog_11_method_4_code 2 none [] ∈ lw_tbl := lw_in4 (List.mem_of_getElem? (i := 201) rfl)
theorem kmw_124 : mj_cw ⟨"DiceOdds$Dice", "write", "(Ljava/lang/StringBuilder;)V"⟩ prog_3_method_2_code 2 none [] ∈ lw_tbl := lw_in4 (List.mem_of_getElem? (i := 209) rfl)
theorem kmw_125 : mj_cw ⟨"DiceOdds$Minus", "write", "(Ljava/lang/StringBuilder;)V"⟩ prog_5_method_2_code 2 none [] ∈ lw_tbl := lw_in4 (List.mem_of_getElem? (i := 214) rfl)
theorem kmw_126 : mj_cw ⟨"DiceOdds$Operation", "binding", "()I"⟩ prog_6_method_2_code 1 (some .int) [] ∈ lw_tbl := lw_in4 (List.mem_of_getElem? (i := 223) rfl)
theorem kmw_127 : mj_cw ⟨"DiceOdds$Expression", "binding", "()I"⟩ prog_4_method_2_code 1 (some .int) [] ∈ lw_tbl := lw_in4 (List.mem_of_getElem? (i := 227) rfl)
theorem kmw_128 : mj_cw ⟨"DiceOdds$Expression", "writeSide", "(Ljava/lang/StringBuilder;Z)V"⟩ prog_4_method_5_code 3 none [] ∈ lw_tbl := lw_in4 (List.mem_of_getElem? (i := 236) rfl)
theorem kmw_129 : mj_cw ⟨"DiceOdds$Operation", "write", "(Ljava/lang/StringBuilder;)V"⟩ prog_6_method_3_code 4 none [] ∈ lw_tbl := lw_in5 (List.mem_of_getElem? (i := 0) rfl)
theorem kmw_130 : mj_cw ⟨"DiceOdds$Plain", "write", "(Ljava/lang/StringBuilder;)V"⟩ prog_8_method_2_code 2 none [] ∈ lw_tbl := lw_in5 (List.mem_of_getElem? (i := 6) rfl)
theorem kmw_131 : mj_cw ⟨"DiceOdds$Row", "write", "(Ljava/lang/StringBuilder;)V"⟩ prog_9_method_2_code 3 none [] ∈ lw_tbl := lw_in5 (List.mem_of_getElem? (i := 10) rfl)
theorem kmw_132 : mj_cw ⟨"DiceOdds$Statement", "writeInBraces", "(LDiceOdds$Statement;Ljava/lang/StringBuilder;)V"⟩ prog_11_method_5_code 2 none [] ∈ lw_tbl := lw_in5 (List.mem_of_getElem? (i := 18) rfl)
theorem kmw_133 : mj_cw ⟨"DiceOddsLaw", "run", "(LDiceOdds;I[J)I"⟩ method_5_code 4 (some .int) [(0, 9, 12, 13), (0, 9, 15, 18)] ∈ lw_tbl := lw_in5 (List.mem_of_getElem? (i := 22) rfl)
theorem kmw_134 : mj_cw ⟨"DiceOdds", "run", "(I)I"⟩ prog_1_method_8_code 5 (some .int) [] ∈ lw_tbl := lw_in5 (List.mem_of_getElem? (i := 26) rfl)
theorem kmw_135 : mj_cw ⟨"DiceOdds$Bench", "begin", "()LDiceOdds$States;"⟩ prog_2_method_2_code 1 (some (.object "DiceOdds$States")) [] ∈ lw_tbl := lw_in5 (List.mem_of_getElem? (i := 31) rfl)
theorem kmw_136 : mj_cw ⟨"DiceOdds$States", "clear", "()V"⟩ prog_12_method_2_code 1 none [] ∈ lw_tbl := lw_in5 (List.mem_of_getElem? (i := 35) rfl)
theorem kmw_137 : mj_cw ⟨"DiceOdds$States", "addZeros", "()V"⟩ prog_12_method_3_code 2 none [] ∈ lw_tbl := lw_in5 (List.mem_of_getElem? (i := 39) rfl)
theorem kmw_138 : mj_cw ⟨"DiceOdds$Statement", "doAll", "(LDiceOdds$Statement;LDiceOdds$States;LDiceOdds$Bench;I)I"⟩ prog_11_method_6_code 6 (some .int) [] ∈ lw_tbl := lw_in5 (List.mem_of_getElem? (i := 42) rfl)
theorem kmw_139 : mj_cw ⟨"DiceOdds$Statement", "doOnce", "(LDiceOdds$States;LDiceOdds$Bench;I)I"⟩ prog_11_method_7_code 4 (some .int) [] ∈ lw_tbl := lw_in5 (List.mem_of_getElem? (i := 46) rfl)
theorem kmw_140 : mj_cw ⟨"DiceOdds$Statement", "keep", "(LDiceOdds$States;LDiceOdds$Bench;)I"⟩ prog_11_method_9_code 5 (some .int) [] ∈ lw_tbl := lw_in5 (List.mem_of_getElem? (i := 50) rfl)
theorem kmw_141 : mj_cw ⟨"DiceOdds$Bench", "workOut", "(LDiceOdds$Expression;LDiceOdds$States;I)Z"⟩ prog_2_method_3_code 4 (some .boolean) [] ∈ lw_tbl := lw_in5 (List.mem_of_getElem? (i := 55) rfl)
theorem kmw_142 : mj_cw ⟨"DiceOdds$Dice", "lay", "(LDiceOdds$Bench;LDiceOdds$States;I)Z"⟩ prog_3_method_3_code 5 (some .boolean) [] ∈ lw_tbl := lw_in5 (List.mem_of_getElem? (i := 61) rfl)
theorem kmw_143 : mj_cw ⟨"DiceOdds$Dice", "countRollsMore", "()[J"⟩ prog_3_method_4_code 6 (some (.array .long)) [] ∈ lw_tbl := lw_in5 (List.mem_of_getElem? (i := 65) rfl)
theorem kmw_144 : mj_cw ⟨"DiceOdds$Dice", "countSums", "([[J)[J"⟩ prog_3_method_5_code 7 (some (.array .long)) [] ∈ lw_tbl := lw_in5 (List.mem_of_getElem? (i := 69) rfl)
theorem kmw_145 : mj_cw ⟨"java/util/Arrays", "fill", "([JJ)V"⟩ prog_32_method_101_code 5 none [] ∈ lw_tbl := lw_in5 (List.mem_of_getElem? (i := 72) rfl)
theorem kmw_146 : mj_cw ⟨"DiceOdds$Dice", "showFace", "([[JIIIJ)V"⟩ prog_3_method_6_code 12 none [] ∈ lw_tbl := lw_in5 (List.mem_of_getElem? (i := 79) rfl)
theorem kmw_147 : mj_cw ⟨"DiceOdds$Dice", "choicesOf", "(II)J"⟩ prog_3_method_7_code 5 (some .long) [] ∈ lw_tbl := lw_in5 (List.mem_of_getElem? (i := 75) rfl)
theorem kmw_148 : mj_cw ⟨"java/util/Arrays", "copyOf", "([JI)[J"⟩ prog_32_method_124_code 3 (some (.array .long)) [] ∈ lw_tbl := lw_in5 (List.mem_of_getElem? (i := 83) rfl)
theorem kmw_149 : mj_cw ⟨"DiceOdds$Bench", "open", "()V"⟩ prog_2_method_4_code 1 none [] ∈ lw_tbl := lw_in5 (List.mem_of_getElem? (i := 92) rfl)
theorem km_v2 : ∀ q ∈ km_2, km_c q ∈ lw_tbl := List.forall_mem_cons.mpr ⟨kmw_100, List.forall_mem_cons.mpr ⟨kmw_101, List.forall_mem_cons.mpr ⟨kmw_102, List.forall_mem_cons.mpr ⟨kmw_103, List.forall_mem_cons.mpr ⟨kmw_104, List.forall_mem_cons.mpr ⟨kmw_105, List.forall_mem_cons.mpr ⟨kmw_106, List.forall_mem_cons.mpr ⟨kmw_107, List.forall_mem_cons.mpr ⟨kmw_108, List.forall_mem_cons.mpr ⟨kmw_109, List.forall_mem_cons.mpr ⟨kmw_110, List.forall_mem_cons.mpr ⟨kmw_111, List.forall_mem_cons.mpr ⟨kmw_112, List.forall_mem_cons.mpr ⟨kmw_113, List.forall_mem_cons.mpr ⟨kmw_114, List.forall_mem_cons.mpr ⟨kmw_115, List.forall_mem_cons.mpr ⟨kmw_116, List.forall_mem_cons.mpr ⟨kmw_117, List.forall_mem_cons.mpr ⟨kmw_118, List.forall_mem_cons.mpr ⟨kmw_119, List.forall_mem_cons.mpr ⟨kmw_120, List.forall_mem_cons.mpr ⟨kmw_121, List.forall_mem_cons.mpr ⟨kmw_122, List.forall_mem_cons.mpr ⟨kmw_123, List.forall_mem_cons.mpr ⟨kmw_124, List.forall_mem_cons.mpr ⟨kmw_125, List.forall_mem_cons.mpr ⟨kmw_126, List.forall_mem_cons.mpr ⟨kmw_127, List.forall_mem_cons.mpr ⟨kmw_128, List.forall_mem_cons.mpr ⟨kmw_129, List.forall_mem_cons.mpr ⟨kmw_130, List.forall_mem_cons.mpr ⟨kmw_131, List.forall_mem_cons.mpr ⟨kmw_132, List.forall_mem_cons.mpr ⟨kmw_133, List.forall_mem_cons.mpr ⟨kmw_134, List.forall_mem_cons.mpr ⟨kmw_135, List.forall_mem_cons.mpr ⟨kmw_136, List.forall_mem_cons.mpr ⟨kmw_137, List.forall_mem_cons.mpr ⟨kmw_138, List.forall_mem_cons.mpr ⟨kmw_139, List.forall_mem_cons.mpr ⟨kmw_140, List.forall_mem_cons.mpr ⟨kmw_141, List.forall_mem_cons.mpr ⟨kmw_142, List.forall_mem_cons.mpr ⟨kmw_143, List.forall_mem_cons.mpr ⟨kmw_144, List.forall_mem_cons.mpr ⟨kmw_145, List.forall_mem_cons.mpr ⟨kmw_146, List.forall_mem_cons.mpr ⟨kmw_147, List.forall_mem_cons.mpr ⟨kmw_148, List.forall_mem_cons.mpr ⟨kmw_149, fun _ h => absurd h List.not_mem_nil⟩⟩⟩⟩⟩⟩⟩⟩⟩⟩⟩⟩⟩⟩⟩⟩⟩⟩⟩⟩⟩⟩⟩⟩⟩⟩⟩⟩⟩⟩⟩⟩⟩⟩⟩⟩⟩⟩⟩⟩⟩⟩⟩⟩⟩⟩⟩⟩⟩⟩
theorem km_o2 : ∀ q ∈ km_2, km_ok q := km_of km_d2 km_v2 (by decide +kernel) (by decide +kernel) (by decide +kernel)
theorem km_d3 : ∀ q ∈ km_3, mj_dk q.1.2.1 q.2 = true := List.forall_mem_cons.mpr ⟨dk_150, List.forall_mem_cons.mpr ⟨dk_151, List.forall_mem_cons.mpr ⟨dk_152, List.forall_mem_cons.mpr ⟨dk_153, List.forall_mem_cons.mpr ⟨dk_154, List.forall_mem_cons.mpr ⟨dk_155, List.forall_mem_cons.mpr ⟨dk_156, List.forall_mem_cons.mpr ⟨dk_157, List.forall_mem_cons.mpr ⟨dk_158, List.forall_mem_cons.mpr ⟨dk_159, List.forall_mem_cons.mpr ⟨dk_160, List.forall_mem_cons.mpr ⟨dk_161, List.forall_mem_cons.mpr ⟨dk_162, List.forall_mem_cons.mpr ⟨dk_163, List.forall_mem_cons.mpr ⟨dk_164, List.forall_mem_cons.mpr ⟨dk_165, List.forall_mem_cons.mpr ⟨dk_166, List.forall_mem_cons.mpr ⟨dk_167, List.forall_mem_cons.mpr ⟨dk_168, List.forall_mem_cons.mpr ⟨dk_169, List.forall_mem_cons.mpr ⟨dk_170, List.forall_mem_cons.mpr ⟨dk_171, List.forall_mem_cons.mpr ⟨dk_172, List.forall_mem_cons.mpr ⟨dk_173, List.forall_mem_cons.mpr ⟨dk_174, List.forall_mem_cons.mpr ⟨dk_175, List.forall_mem_cons.mpr ⟨dk_176, List.forall_mem_cons.mpr ⟨dk_177, List.forall_mem_cons.mpr ⟨dk_178, List.forall_mem_cons.mpr ⟨dk_179, List.forall_mem_cons.mpr ⟨dk_180, List.forall_mem_cons.mpr ⟨dk_181, List.forall_mem_cons.mpr ⟨dk_182, List.forall_mem_cons.mpr ⟨dk_183, List.forall_mem_cons.mpr ⟨dk_184, List.forall_mem_cons.mpr ⟨dk_185, List.forall_mem_cons.mpr ⟨dk_186, List.forall_mem_cons.mpr ⟨dk_187, List.forall_mem_cons.mpr ⟨dk_188, List.forall_mem_cons.mpr ⟨dk_189, List.forall_mem_cons.mpr ⟨dk_190, List.forall_mem_cons.mpr ⟨dk_191, List.forall_mem_cons.mpr ⟨dk_192, List.forall_mem_cons.mpr ⟨dk_193, List.forall_mem_cons.mpr ⟨dk_194, List.forall_mem_cons.mpr ⟨dk_195, List.forall_mem_cons.mpr ⟨dk_196, List.forall_mem_cons.mpr ⟨dk_197, List.forall_mem_cons.mpr ⟨dk_198, List.forall_mem_cons.mpr ⟨dk_199, fun _ h => absurd h List.not_mem_nil⟩⟩⟩⟩⟩⟩⟩⟩⟩⟩⟩⟩⟩⟩⟩⟩⟩⟩⟩⟩⟩⟩⟩⟩⟩⟩⟩⟩⟩⟩⟩⟩⟩⟩⟩⟩⟩⟩⟩⟩⟩⟩⟩⟩⟩⟩⟩⟩⟩⟩
theorem kmw_150 : mj_cw ⟨"DiceOdds$Bench", "put", "(IJ)V"⟩ prog_2_method_5_code 5 none [] ∈ lw_tbl := lw_in5 (List.mem_of_getElem? (i := 96) rfl)
theorem kmw_151 : mj_cw ⟨"DiceOdds$Minus", "lay", "(LDiceOdds$Bench;LDiceOdds$States;I)Z"⟩ prog_5_method_3_code 5 (some .boolean) [] ∈ lw_tbl := lw_in5 (List.mem_of_getElem? (i := 99) rfl)
theorem kmw_152 : mj_cw ⟨"DiceOdds$Operation", "lay", "(LDiceOdds$Bench;LDiceOdds$States;I)Z"⟩ prog_6_method_4_code 4 (some .boolean) [] ∈ lw_tbl := lw_in5 (List.mem_of_getElem? (i := 102) rfl)
theorem kmw_153 : mj_cw ⟨"DiceOdds$Plain", "lay", "(LDiceOdds$Bench;LDiceOdds$States;I)Z"⟩ prog_8_method_3_code 4 (some .boolean) [] ∈ lw_tbl := lw_in5 (List.mem_of_getElem? (i := 105) rfl)
theorem kmw_154 : mj_cw ⟨"DiceOdds$States", "valueOf", "(II)I"⟩ prog_12_method_4_code 3 (some .int) [] ∈ lw_tbl := lw_in5 (List.mem_of_getElem? (i := 110) rfl)
theorem kmw_155 : mj_cw ⟨"DiceOdds$Row", "lay", "(LDiceOdds$Bench;LDiceOdds$States;I)Z"⟩ prog_9_method_3_code 5 (some .boolean) [] ∈ lw_tbl := lw_in5 (List.mem_of_getElem? (i := 113) rfl)
theorem kmw_156 : mj_cw ⟨"DiceOdds$Bench", "combine", "(C)Z"⟩ prog_2_method_7_code 5 (some .boolean) [] ∈ lw_tbl := lw_in5 (List.mem_of_getElem? (i := 119) rfl)
theorem kmw_157 : mj_cw ⟨"DiceOdds$Bench", "collect", "(CIII)Z"⟩ prog_2_method_8_code 8 (some .boolean) [] ∈ lw_tbl := lw_in5 (List.mem_of_getElem? (i := 123) rfl)
theorem kmw_158 : mj_cw ⟨"DiceOdds$Operation", "resultOf", "(CII)I"⟩ prog_6_method_5_code 3 (some .int) [] ∈ lw_tbl := lw_in5 (List.mem_of_getElem? (i := 126) rfl)
theorem kmw_159 : mj_cw ⟨"java/lang/Math", "floorDiv", "(II)I"⟩ prog_23_method_47_code 3 (some .int) [] ∈ lw_tbl := lw_in5 (List.mem_of_getElem? (i := 129) rfl)
theorem kmw_160 : mj_cw ⟨"java/lang/Math", "floorMod", "(II)I"⟩ prog_23_method_50_code 3 (some .int) [] ∈ lw_tbl := lw_in5 (List.mem_of_getElem? (i := 132) rfl)
theorem kmw_161 : mj_cw ⟨"DiceOdds$Bench", "negate", "()V"⟩ prog_2_method_6_code 2 none [] ∈ lw_tbl := lw_in5 (List.mem_of_getElem? (i := 137) rfl)
theorem kmw_162 : mj_cw ⟨"DiceOdds$Bench", "waysOfYes", "()J"⟩ prog_2_method_9_code 4 (some .long) [] ∈ lw_tbl := lw_in5 (List.mem_of_getElem? (i := 144) rfl)
theorem kmw_163 : mj_cw ⟨"DiceOdds$States", "append", "(LDiceOdds$States;IJ)V"⟩ prog_12_method_6_code 5 none [] ∈ lw_tbl := lw_in5 (List.mem_of_getElem? (i := 148) rfl)
theorem kmw_164 : mj_cw ⟨"DiceOdds$States", "copyBehind", "(LDiceOdds$States;I)V"⟩ prog_12_method_9_code 3 none [] ∈ lw_tbl := lw_in5 (List.mem_of_getElem? (i := 152) rfl)
theorem kmw_165 : mj_cw ⟨"DiceOdds$States", "swapWith", "(LDiceOdds$States;)V"⟩ prog_12_method_5_code 5 none [] ∈ lw_tbl := lw_in5 (List.mem_of_getElem? (i := 157) rfl)
theorem kmw_166 : mj_cw ⟨"DiceOdds$Statement", "choose", "(LDiceOdds$States;LDiceOdds$Bench;I)I"⟩ prog_11_method_10_code 9 (some .int) [] ∈ lw_tbl := lw_in5 (List.mem_of_getElem? (i := 161) rfl)
theorem kmw_167 : mj_cw ⟨"DiceOdds$States", "join", "(LDiceOdds$States;J)Z"⟩ prog_12_method_8_code 6 (some .boolean) [] ∈ lw_tbl := lw_in5 (List.mem_of_getElem? (i := 166) rfl)
theorem kmw_168 : mj_cw ⟨"DiceOdds$States", "settle", "(J)Z"⟩ prog_12_method_10_code 4 (some .boolean) [] ∈ lw_tbl := lw_in5 (List.mem_of_getElem? (i := 170) rfl)
theorem kmw_169 : mj_cw ⟨"DiceOdds$States", "isLikeLast", "(I)Z"⟩ prog_12_method_11_code 3 (some .boolean) [] ∈ lw_tbl := lw_in5 (List.mem_of_getElem? (i := 174) rfl)
theorem kmw_170 : mj_cw ⟨"DiceOdds$Statement", "repeat", "(LDiceOdds$States;LDiceOdds$Bench;I)I"⟩ prog_11_method_11_code 6 (some .int) [] ∈ lw_tbl := lw_in5 (List.mem_of_getElem? (i := 179) rfl)
theorem kmw_171 : mj_cw ⟨"DiceOdds$Statement", "assign", "(LDiceOdds$States;LDiceOdds$Bench;)I"⟩ prog_11_method_8_code 6 (some .int) [] ∈ lw_tbl := lw_in5 (List.mem_of_getElem? (i := 183) rfl)
theorem kmw_172 : mj_cw ⟨"DiceOdds$Bench", "giveTo", "(LDiceOdds$States;LDiceOdds$States;II)Z"⟩ prog_2_method_10_code 6 (some .boolean) [] ∈ lw_tbl := lw_in5 (List.mem_of_getElem? (i := 187) rfl)
theorem kmw_173 : mj_cw ⟨"DiceOdds$States", "addWith", "(LDiceOdds$States;IIIJ)Z"⟩ prog_12_method_7_code 7 (some .boolean) [] ∈ lw_tbl := lw_in5 (List.mem_of_getElem? (i := 191) rfl)
theorem kmw_174 : mj_cw ⟨"DiceOdds$Slot", "takeResult", "(LDiceOdds$States;)V"⟩ prog_10_method_4_code 3 none [] ∈ lw_tbl := lw_in5 (List.mem_of_getElem? (i := 196) rfl)
theorem kmw_175 : mj_cw ⟨"DiceOdds$Slot", "addWays", "(IJ)V"⟩ prog_10_method_5_code 5 none [] ∈ lw_tbl := lw_in5 (List.mem_of_getElem? (i := 201) rfl)
theorem kmw_176 : mj_cw ⟨"DiceOdds$Slot", "divideByWhatIsCommon", "()V"⟩ prog_10_method_6_code 4 none [] ∈ lw_tbl := lw_in5 (List.mem_of_getElem? (i := 206) rfl)
theorem kmw_177 : mj_cw ⟨"DiceOddsLaw", "factor", "(LDiceOdds;I[J)I"⟩ method_6_code 4 (some .int) [(0, 8, 11, 13), (0, 8, 14, 18)] ∈ lw_tbl := lw_in5 (List.mem_of_getElem? (i := 211) rfl)
theorem kmw_178 : mj_cw ⟨"DiceOdds", "factor", "(I)J"⟩ prog_1_method_10_code 2 (some .long) [] ∈ lw_tbl := lw_in5 (List.mem_of_getElem? (i := 215) rfl)
theorem kmw_179 : mj_cw ⟨"DiceOddsLaw", "outcomes", "(LDiceOdds;I[J)I"⟩ method_7_code 4 (some .int) [(0, 9, 12, 13), (0, 9, 15, 18)] ∈ lw_tbl := lw_in5 (List.mem_of_getElem? (i := 219) rfl)
theorem kmw_180 : mj_cw ⟨"DiceOdds", "outcomes", "(I)I"⟩ prog_1_method_11_code 2 (some .int) [] ∈ lw_tbl := lw_in5 (List.mem_of_getElem? (i := 223) rfl)
theorem kmw_181 : mj_cw ⟨"DiceOdds", "withResult", "(I)LDiceOdds$Slot;"⟩ prog_1_method_24_code 3 (some (.object "DiceOdds$Slot")) [] ∈ lw_tbl := lw_in5 (List.mem_of_getElem? (i := 227) rfl)
theorem kmw_182 : mj_cw ⟨"DiceOddsLaw", "outcome", "(LDiceOdds;II[J)I"⟩ method_8_code 5 (some .int) [(0, 10, 13, 13), (0, 10, 17, 18), (0, 10, 21, 34)] ∈ lw_tbl := lw_in5 (List.mem_of_getElem? (i := 231) rfl)
theorem kmw_183 : mj_cw ⟨"DiceOdds", "outcome", "(II)I"⟩ prog_1_method_12_code 4 (some .int) [] ∈ lw_tbl := lw_in5 (List.mem_of_getElem? (i := 236) rfl)
theorem kmw_184 : mj_cw ⟨"DiceOdds", "withOutcome", "(II)LDiceOdds$Slot;"⟩ prog_1_method_25_code 4 (some (.object "DiceOdds$Slot")) [] ∈ lw_tbl := lw_in6 (List.mem_of_getElem? (i := 0) rfl)
theorem kmw_185 : mj_cw ⟨"DiceOddsLaw", "ways", "(LDiceOdds;II[J)I"⟩ method_9_code 5 (some .int) [(0, 9, 12, 13), (0, 9, 16, 18), (0, 9, 20, 34)] ∈ lw_tbl := lw_in6 (List.mem_of_getElem? (i := 16) rfl)
theorem kmw_186 : mj_cw ⟨"DiceOdds", "ways", "(II)J"⟩ prog_1_method_13_code 4 (some .long) [] ∈ lw_tbl := lw_in6 (List.mem_of_getElem? (i := 20) rfl)
theorem kmw_187 : mj_cw ⟨"DiceOddsLaw", "total", "(LDiceOdds;I[J)I"⟩ method_10_code 4 (some .int) [(0, 8, 11, 13), (0, 8, 14, 18)] ∈ lw_tbl := lw_in6 (List.mem_of_getElem? (i := 23) rfl)
theorem kmw_188 : mj_cw ⟨"DiceOdds", "total", "(I)J"⟩ prog_1_method_14_code 2 (some .long) [] ∈ lw_tbl := lw_in6 (List.mem_of_getElem? (i := 27) rfl)
theorem kmw_189 : mj_cw ⟨"DiceOddsLaw", "moment", "(LDiceOdds;II[J)I"⟩ method_11_code 5 (some .int) [(0, 9, 12, 13), (0, 9, 16, 18)] ∈ lw_tbl := lw_in6 (List.mem_of_getElem? (i := 30) rfl)
theorem kmw_190 : mj_cw ⟨"DiceOdds", "moment", "(II)J"⟩ prog_1_method_15_code 9 (some .long) [] ∈ lw_tbl := lw_in6 (List.mem_of_getElem? (i := 34) rfl)
theorem kmw_191 : mj_cw ⟨"DiceOdds", "allow", "(Z)V"⟩ prog_1_method_21_code 1 none [] ∈ lw_tbl := lw_in6 (List.mem_of_getElem? (i := 37) rfl)
theorem kmw_192 : mj_cw ⟨"DiceOddsLaw", "millionths", "(LDiceOdds;II[J)I"⟩ method_12_code 5 (some .int) [(0, 10, 13, 13), (0, 10, 17, 18), (0, 10, 21, 34)] ∈ lw_tbl := lw_in6 (List.mem_of_getElem? (i := 41) rfl)
theorem kmw_193 : mj_cw ⟨"DiceOdds", "millionths", "(II)I"⟩ prog_1_method_16_code 4 (some .int) [] ∈ lw_tbl := lw_in6 (List.mem_of_getElem? (i := 45) rfl)
theorem kmw_194 : mj_cw ⟨"DiceOdds", "halfToEven", "(JJ)I"⟩ prog_1_method_27_code 8 (some .int) [] ∈ lw_tbl := lw_in6 (List.mem_of_getElem? (i := 49) rfl)
theorem kmw_195 : mj_cw ⟨"DiceOddsLaw", "percentile", "(LDiceOdds;III[J)I"⟩ method_13_code 6 (some .int) [(0, 12, 15, 13), (0, 12, 19, 18)] ∈ lw_tbl := lw_in6 (List.mem_of_getElem? (i := 54) rfl)
theorem kmw_196 : mj_cw ⟨"DiceOdds", "percentile", "(III)I"⟩ prog_1_method_17_code 8 (some .int) [] ∈ lw_tbl := lw_in6 (List.mem_of_getElem? (i := 58) rfl)
theorem kmw_197 : mj_cw ⟨"DiceOddsLaw", "sample", "(LDiceOdds;IJ[J)I"⟩ method_14_code 6 (some .int) [(0, 11, 14, 13), (0, 11, 18, 18), (0, 11, 22, 34)] ∈ lw_tbl := lw_in6 (List.mem_of_getElem? (i := 61) rfl)
theorem kmw_198 : mj_cw ⟨"DiceOdds", "sample", "(IJ)I"⟩ prog_1_method_18_code 8 (some .int) [] ∈ lw_tbl := lw_in6 (List.mem_of_getElem? (i := 65) rfl)
theorem kmw_199 : mj_cw ⟨"DiceOddsLaw", "compare", "(LDiceOdds;III[J)I"⟩ method_15_code 6 (some .int) [(0, 11, 14, 13), (0, 11, 18, 18)] ∈ lw_tbl := lw_in6 (List.mem_of_getElem? (i := 69) rfl)
theorem km_v3 : ∀ q ∈ km_3, km_c q ∈ lw_tbl := List.forall_mem_cons.mpr ⟨kmw_150, List.forall_mem_cons.mpr ⟨kmw_151, List.forall_mem_cons.mpr ⟨kmw_152, List.forall_mem_cons.mpr ⟨kmw_153, List.forall_mem_cons.mpr ⟨kmw_154, List.forall_mem_cons.mpr ⟨kmw_155, List.forall_mem_cons.mpr ⟨kmw_156, List.forall_mem_cons.mpr ⟨kmw_157, List.forall_mem_cons.mpr ⟨kmw_158, List.forall_mem_cons.mpr ⟨kmw_159, List.forall_mem_cons.mpr ⟨kmw_160, List.forall_mem_cons.mpr ⟨kmw_161, List.forall_mem_cons.mpr ⟨kmw_162, List.forall_mem_cons.mpr ⟨kmw_163, List.forall_mem_cons.mpr ⟨kmw_164, List.forall_mem_cons.mpr ⟨kmw_165, List.forall_mem_cons.mpr ⟨kmw_166, List.forall_mem_cons.mpr ⟨kmw_167, List.forall_mem_cons.mpr ⟨kmw_168, List.forall_mem_cons.mpr ⟨kmw_169, List.forall_mem_cons.mpr ⟨kmw_170, List.forall_mem_cons.mpr ⟨kmw_171, List.forall_mem_cons.mpr ⟨kmw_172, List.forall_mem_cons.mpr ⟨kmw_173, List.forall_mem_cons.mpr ⟨kmw_174, List.forall_mem_cons.mpr ⟨kmw_175, List.forall_mem_cons.mpr ⟨kmw_176, List.forall_mem_cons.mpr ⟨kmw_177, List.forall_mem_cons.mpr ⟨kmw_178, List.forall_mem_cons.mpr ⟨kmw_179, List.forall_mem_cons.mpr ⟨kmw_180, List.forall_mem_cons.mpr ⟨kmw_181, List.forall_mem_cons.mpr ⟨kmw_182, List.forall_mem_cons.mpr ⟨kmw_183, List.forall_mem_cons.mpr ⟨kmw_184, List.forall_mem_cons.mpr ⟨kmw_185, List.forall_mem_cons.mpr ⟨kmw_186, List.forall_mem_cons.mpr ⟨kmw_187, List.forall_mem_cons.mpr ⟨kmw_188, List.forall_mem_cons.mpr ⟨kmw_189, List.forall_mem_cons.mpr ⟨kmw_190, List.forall_mem_cons.mpr ⟨kmw_191, List.forall_mem_cons.mpr ⟨kmw_192, List.forall_mem_cons.mpr ⟨kmw_193, List.forall_mem_cons.mpr ⟨kmw_194, List.forall_mem_cons.mpr ⟨kmw_195, List.forall_mem_cons.mpr ⟨kmw_196, List.forall_mem_cons.mpr ⟨kmw_197, List.forall_mem_cons.mpr ⟨kmw_198, List.forall_mem_cons.mpr ⟨kmw_199, fun _ h => absurd h List.not_mem_nil⟩⟩⟩⟩⟩⟩⟩⟩⟩⟩⟩⟩⟩⟩⟩⟩⟩⟩⟩⟩⟩⟩⟩⟩⟩⟩⟩⟩⟩⟩⟩⟩⟩⟩⟩⟩⟩⟩⟩⟩⟩⟩⟩⟩⟩⟩⟩⟩⟩⟩
theorem km_o3 : ∀ q ∈ km_3, km_ok q := km_of km_d3 km_v3 (by decide +kernel) (by decide +kernel) (by decide +kernel)
theorem km_d4 : ∀ q ∈ km_4, mj_dk q.1.2.1 q.2 = true := List.forall_mem_cons.mpr ⟨dk_200, List.forall_mem_cons.mpr ⟨dk_201, List.forall_mem_cons.mpr ⟨dk_202, List.forall_mem_cons.mpr ⟨dk_203, List.forall_mem_cons.mpr ⟨dk_204, List.forall_mem_cons.mpr ⟨dk_205, List.forall_mem_cons.mpr ⟨dk_206, List.forall_mem_cons.mpr ⟨dk_207, List.forall_mem_cons.mpr ⟨dk_208, List.forall_mem_cons.mpr ⟨dk_209, List.forall_mem_cons.mpr ⟨dk_210, List.forall_mem_cons.mpr ⟨dk_211, List.forall_mem_cons.mpr ⟨dk_212, List.forall_mem_cons.mpr ⟨dk_213, List.forall_mem_cons.mpr ⟨dk_214, List.forall_mem_cons.mpr ⟨dk_215, List.forall_mem_cons.mpr ⟨dk_216, List.forall_mem_cons.mpr ⟨dk_217, List.forall_mem_cons.mpr ⟨dk_218, List.forall_mem_cons.mpr ⟨dk_219, List.forall_mem_cons.mpr ⟨dk_220, List.forall_mem_cons.mpr ⟨dk_221, List.forall_mem_cons.mpr ⟨dk_222, List.forall_mem_cons.mpr ⟨dk_223, List.forall_mem_cons.mpr ⟨dk_224, List.forall_mem_cons.mpr ⟨dk_225, List.forall_mem_cons.mpr ⟨dk_226, List.forall_mem_cons.mpr ⟨dk_227, List.forall_mem_cons.mpr ⟨dk_228, List.forall_mem_cons.mpr ⟨dk_229, List.forall_mem_cons.mpr ⟨dk_230, List.forall_mem_cons.mpr ⟨dk_231, List.forall_mem_cons.mpr ⟨dk_232, List.forall_mem_cons.mpr ⟨dk_233, List.forall_mem_cons.mpr ⟨dk_234, List.forall_mem_cons.mpr ⟨dk_235, List.forall_mem_cons.mpr ⟨dk_236, List.forall_mem_cons.mpr ⟨dk_237, List.forall_mem_cons.mpr ⟨dk_238, List.forall_mem_cons.mpr ⟨dk_239, List.forall_mem_cons.mpr ⟨dk_240, List.forall_mem_cons.mpr ⟨dk_241, List.forall_mem_cons.mpr ⟨dk_242, List.forall_mem_cons.mpr ⟨dk_243, List.forall_mem_cons.mpr ⟨dk_244, List.forall_mem_cons.mpr ⟨dk_245, List.forall_mem_cons.mpr ⟨dk_246, List.forall_mem_cons.mpr ⟨dk_247, List.forall_mem_cons.mpr ⟨dk_248, List.forall_mem_cons.mpr ⟨dk_249, fun _ h => absurd h List.not_mem_nil⟩⟩⟩⟩⟩⟩⟩⟩⟩⟩⟩⟩⟩⟩⟩⟩⟩⟩⟩⟩⟩⟩⟩⟩⟩⟩⟩⟩⟩⟩⟩⟩⟩⟩⟩⟩⟩⟩⟩⟩⟩⟩⟩⟩⟩⟩⟩⟩⟩⟩
theorem kmw_200 : mj_cw ⟨"DiceOdds", "compare", "(III)J"⟩ prog_1_method_19_code 10 (some .long) [] ∈ lw_tbl := lw_in6 (List.mem_of_getElem? (i := 73) rfl)
theorem kmw_201 : mj_cw ⟨"java/lang/Integer", "signum", "(I)I"⟩ prog_22_method_56_code 1 (some .int) [] ∈ lw_tbl := lw_in6 (List.mem_of_getElem? (i := 76) rfl)
theorem kmw_202 : mj_cw ⟨"DiceOddsModel", "<init>", "()V"⟩ prog_14_method_1_code 1 none [] ∈ lw_tbl := lw_in6 (List.mem_of_getElem? (i := 81) rfl)
theorem kmw_203 : mj_cw ⟨"DiceOddsModel", "thrown", "()I"⟩ prog_14_method_2_code 1 (some .int) [] ∈ lw_tbl := lw_in7 (List.mem_of_getElem? (i := 34) rfl)
theorem kmw_204 : mj_cw ⟨"DiceOddsModel", "type", "(JI)I"⟩ prog_14_method_5_code 7 (some .int) [] ∈ lw_tbl := lw_in7 (List.mem_of_getElem? (i := 38) rfl)
theorem kmw_205 : mj_cw ⟨"DiceOddsModel", "within", "(III)Z"⟩ prog_14_method_4_code 3 (some .boolean) [] ∈ lw_tbl := lw_in7 (List.mem_of_getElem? (i := 41) rfl)
theorem kmw_206 : mj_cw ⟨"DiceOddsModel", "say", "(I)V"⟩ prog_14_method_6_code 2 none [] ∈ lw_tbl := lw_in7 (List.mem_of_getElem? (i := 48) rfl)
theorem kmw_207 : mj_cw ⟨"DiceOddsModel", "wipe", "()I"⟩ prog_14_method_7_code 2 (some .int) [] ∈ lw_tbl := lw_in7 (List.mem_of_getElem? (i := 52) rfl)
theorem kmw_208 : mj_cw ⟨"DiceOddsModel", "character", "(I)I"⟩ prog_14_method_8_code 2 (some .int) [] ∈ lw_tbl := lw_in7 (List.mem_of_getElem? (i := 56) rfl)
theorem kmw_209 : mj_cw ⟨"DiceOddsModel", "read", "(I)I"⟩ prog_14_method_49_code 2 (some .int) [] ∈ lw_tbl := lw_in7 (List.mem_of_getElem? (i := 60) rfl)
theorem kmw_210 : mj_cw ⟨"DiceOddsModel", "isSlot", "(I)Z"⟩ prog_14_method_48_code 1 (some .boolean) [] ∈ lw_tbl := lw_in7 (List.mem_of_getElem? (i := 63) rfl)
theorem kmw_211 : mj_cw ⟨"DiceOddsModel", "parse", "()Z"⟩ prog_14_method_33_code 3 (some .boolean) [] ∈ lw_tbl := lw_in7 (List.mem_of_getElem? (i := 67) rfl)
theorem kmw_212 : mj_cw ⟨"DiceOddsModel", "here", "()I"⟩ prog_14_method_9_code 1 (some .int) [] ∈ lw_tbl := lw_in7 (List.mem_of_getElem? (i := 71) rfl)
theorem kmw_213 : mj_cw ⟨"DiceOddsModel", "fail", "(I)Z"⟩ prog_14_method_10_code 2 (some .boolean) [] ∈ lw_tbl := lw_in7 (List.mem_of_getElem? (i := 75) rfl)
theorem kmw_214 : mj_cw ⟨"DiceOddsModel", "statement", "()Z"⟩ prog_14_method_31_code 5 (some .boolean) [] ∈ lw_tbl := lw_in7 (List.mem_of_getElem? (i := 79) rfl)
theorem kmw_215 : mj_cw ⟨"DiceOddsModel", "isName", "()Z"⟩ prog_14_method_13_code 1 (some .boolean) [] ∈ lw_tbl := lw_in7 (List.mem_of_getElem? (i := 83) rfl)
theorem kmw_216 : mj_cw ⟨"DiceOddsModel", "number", "(II)Z"⟩ prog_14_method_14_code 5 (some .boolean) [] ∈ lw_tbl := lw_in7 (List.mem_of_getElem? (i := 87) rfl)
theorem kmw_217 : mj_cw ⟨"DiceOddsModel", "isDigit", "()Z"⟩ prog_14_method_12_code 1 (some .boolean) [] ∈ lw_tbl := lw_in7 (List.mem_of_getElem? (i := 91) rfl)
theorem kmw_218 : mj_cw ⟨"DiceOddsModel", "enter", "(IZ)Z"⟩ prog_14_method_30_code 3 (some .boolean) [] ∈ lw_tbl := lw_in7 (List.mem_of_getElem? (i := 95) rfl)
theorem kmw_219 : mj_cw ⟨"DiceOddsModel", "want", "(I)Z"⟩ prog_14_method_11_code 2 (some .boolean) [] ∈ lw_tbl := lw_in7 (List.mem_of_getElem? (i := 99) rfl)
theorem kmw_220 : mj_cw ⟨"DiceOddsModel", "expression", "(I)Z"⟩ prog_14_method_29_code 3 (some .boolean) [] ∈ lw_tbl := lw_in7 (List.mem_of_getElem? (i := 103) rfl)
theorem kmw_221 : mj_cw ⟨"DiceOddsModel", "readAtom", "()Z"⟩ prog_14_method_27_code 1 (some .boolean) [] ∈ lw_tbl := lw_in7 (List.mem_of_getElem? (i := 107) rfl)
theorem kmw_222 : mj_cw ⟨"DiceOddsModel", "push", "(I)V"⟩ prog_14_method_26_code 2 none [] ∈ lw_tbl := lw_in7 (List.mem_of_getElem? (i := 111) rfl)
theorem kmw_223 : mj_cw ⟨"DiceOddsModel", "readItem", "()Z"⟩ prog_14_method_23_code 2 (some .boolean) [] ∈ lw_tbl := lw_in7 (List.mem_of_getElem? (i := 115) rfl)
theorem kmw_224 : mj_cw ⟨"DiceOddsModel", "node", "(IIIII)V"⟩ prog_14_method_15_code 7 none [] ∈ lw_tbl := lw_in7 (List.mem_of_getElem? (i := 119) rfl)
theorem kmw_225 : mj_cw ⟨"DiceOddsModel", "readFaces", "()Z"⟩ prog_14_method_22_code 3 (some .boolean) [] ∈ lw_tbl := lw_in7 (List.mem_of_getElem? (i := 123) rfl)
theorem kmw_226 : mj_cw ⟨"DiceOddsModel", "readDice", "(I)Z"⟩ prog_14_method_21_code 5 (some .boolean) [] ∈ lw_tbl := lw_in7 (List.mem_of_getElem? (i := 127) rfl)
theorem kmw_227 : mj_cw ⟨"DiceOddsModel", "turnBack", "()V"⟩ prog_14_method_25_code 1 none [] ∈ lw_tbl := lw_in7 (List.mem_of_getElem? (i := 131) rfl)
theorem kmw_228 : mj_cw ⟨"DiceOddsModel", "makeNegative", "()V"⟩ prog_14_method_16_code 2 none [] ∈ lw_tbl := lw_in7 (List.mem_of_getElem? (i := 135) rfl)
theorem kmw_229 : mj_cw ⟨"DiceOddsModel", "readSign", "()Z"⟩ prog_14_method_28_code 2 (some .boolean) [] ∈ lw_tbl := lw_in7 (List.mem_of_getElem? (i := 139) rfl)
theorem kmw_230 : mj_cw ⟨"DiceOddsModel", "signOf", "(I)I"⟩ prog_14_method_19_code 1 (some .int) [] ∈ lw_tbl := lw_in7 (List.mem_of_getElem? (i := 142) rfl)
theorem kmw_231 : mj_cw ⟨"DiceOddsModel", "tight", "(I)I"⟩ prog_14_method_18_code 1 (some .int) [] ∈ lw_tbl := lw_in7 (List.mem_of_getElem? (i := 145) rfl)
theorem kmw_232 : mj_cw ⟨"DiceOddsModel", "close", "(I)V"⟩ prog_14_method_24_code 2 none [] ∈ lw_tbl := lw_in7 (List.mem_of_getElem? (i := 149) rfl)
theorem kmw_233 : mj_cw ⟨"DiceOddsModel", "makeOperation", "(I)V"⟩ prog_14_method_17_code 4 none [] ∈ lw_tbl := lw_in7 (List.mem_of_getElem? (i := 153) rfl)
theorem kmw_234 : mj_cw ⟨"DiceOddsModel", "leave", "()Z"⟩ prog_14_method_32_code 2 (some .boolean) [] ∈ lw_tbl := lw_in7 (List.mem_of_getElem? (i := 157) rfl)
theorem kmw_235 : mj_cw ⟨"DiceOddsModel", "findFactors", "()V"⟩ prog_14_method_40_code 6 none [] ∈ lw_tbl := lw_in7 (List.mem_of_getElem? (i := 161) rfl)
theorem kmw_236 : mj_cw ⟨"DiceOddsModel", "blockFactor", "(III)J"⟩ prog_14_method_39_code 7 (some .long) [] ∈ lw_tbl := lw_in7 (List.mem_of_getElem? (i := 165) rfl)
theorem kmw_237 : mj_cw ⟨"DiceOddsModel", "product", "(JJ)J"⟩ prog_14_method_34_code 4 (some .long) [] ∈ lw_tbl := lw_in7 (List.mem_of_getElem? (i := 168) rfl)
theorem kmw_238 : mj_cw ⟨"DiceOddsModel", "power", "(JI)J"⟩ prog_14_method_35_code 6 (some .long) [] ∈ lw_tbl := lw_in7 (List.mem_of_getElem? (i := 173) rfl)
theorem kmw_239 : mj_cw ⟨"DiceOddsModel", "nodeFactor", "(I)J"⟩ prog_14_method_38_code 2 (some .long) [] ∈ lw_tbl := lw_in7 (List.mem_of_getElem? (i := 177) rfl)
theorem kmw_240 : mj_cw ⟨"DiceOddsModel", "multiple", "(JJ)J"⟩ prog_14_method_37_code 4 (some .long) [] ∈ lw_tbl := lw_in7 (List.mem_of_getElem? (i := 180) rfl)
theorem kmw_241 : mj_cw ⟨"DiceOddsModel", "divisor", "(JJ)J"⟩ prog_14_method_36_code 10 (some .long) [] ∈ lw_tbl := lw_in7 (List.mem_of_getElem? (i := 183) rfl)
theorem kmw_242 : mj_cw ⟨"DiceOddsModel", "refuse", "(I)I"⟩ prog_14_method_3_code 2 (some .int) [] ∈ lw_tbl := lw_in7 (List.mem_of_getElem? (i := 187) rfl)
theorem kmw_243 : mj_cw ⟨"DiceOddsModel", "keepDraft", "(I)V"⟩ prog_14_method_47_code 5 none [] ∈ lw_tbl := lw_in7 (List.mem_of_getElem? (i := 191) rfl)
theorem kmw_244 : mj_cw ⟨"DiceOddsModel", "place", "()I"⟩ prog_14_method_50_code 1 (some .int) [] ∈ lw_tbl := lw_in7 (List.mem_of_getElem? (i := 195) rfl)
theorem kmw_245 : mj_cw ⟨"DiceOddsModel", "print", "(I)I"⟩ prog_14_method_62_code 3 (some .int) [] ∈ lw_tbl := lw_in7 (List.mem_of_getElem? (i := 199) rfl)
theorem kmw_246 : mj_cw ⟨"DiceOddsModel", "wrongProgram", "(I)I"⟩ prog_14_method_61_code 2 (some .int) [] ∈ lw_tbl := lw_in7 (List.mem_of_getElem? (i := 203) rfl)
theorem kmw_247 : mj_cw ⟨"DiceOddsModel", "sayEnds", "(II)V"⟩ prog_14_method_59_code 6 none [] ∈ lw_tbl := lw_in7 (List.mem_of_getElem? (i := 207) rfl)
theorem kmw_248 : mj_cw ⟨"DiceOddsModel", "sayStatement", "(II)V"⟩ prog_14_method_60_code 4 none [] ∈ lw_tbl := lw_in7 (List.mem_of_getElem? (i := 211) rfl)
theorem kmw_249 : mj_cw ⟨"DiceOddsModel", "sayNumber", "(I)V"⟩ prog_14_method_51_code 2 none [] ∈ lw_tbl := lw_in7 (List.mem_of_getElem? (i := 215) rfl)
theorem km_v4 : ∀ q ∈ km_4, km_c q ∈ lw_tbl := List.forall_mem_cons.mpr ⟨kmw_200, List.forall_mem_cons.mpr ⟨kmw_201, List.forall_mem_cons.mpr ⟨kmw_202, List.forall_mem_cons.mpr ⟨kmw_203, List.forall_mem_cons.mpr ⟨kmw_204, List.forall_mem_cons.mpr ⟨kmw_205, List.forall_mem_cons.mpr ⟨kmw_206, List.forall_mem_cons.mpr ⟨kmw_207, List.forall_mem_cons.mpr ⟨kmw_208, List.forall_mem_cons.mpr ⟨kmw_209, List.forall_mem_cons.mpr ⟨kmw_210, List.forall_mem_cons.mpr ⟨kmw_211, List.forall_mem_cons.mpr ⟨kmw_212, List.forall_mem_cons.mpr ⟨kmw_213, List.forall_mem_cons.mpr ⟨kmw_214, List.forall_mem_cons.mpr ⟨kmw_215, List.forall_mem_cons.mpr ⟨kmw_216, List.forall_mem_cons.mpr ⟨kmw_217, List.forall_mem_cons.mpr ⟨kmw_218, List.forall_mem_cons.mpr ⟨kmw_219, List.forall_mem_cons.mpr ⟨kmw_220, List.forall_mem_cons.mpr ⟨kmw_221, List.forall_mem_cons.mpr ⟨kmw_222, List.forall_mem_cons.mpr ⟨kmw_223, List.forall_mem_cons.mpr ⟨kmw_224, List.forall_mem_cons.mpr ⟨kmw_225, List.forall_mem_cons.mpr ⟨kmw_226, List.forall_mem_cons.mpr ⟨kmw_227, List.forall_mem_cons.mpr ⟨kmw_228, List.forall_mem_cons.mpr ⟨kmw_229, List.forall_mem_cons.mpr ⟨kmw_230, List.forall_mem_cons.mpr ⟨kmw_231, List.forall_mem_cons.mpr ⟨kmw_232, List.forall_mem_cons.mpr ⟨kmw_233, List.forall_mem_cons.mpr ⟨kmw_234, List.forall_mem_cons.mpr ⟨kmw_235, List.forall_mem_cons.mpr ⟨kmw_236, List.forall_mem_cons.mpr ⟨kmw_237, List.forall_mem_cons.mpr ⟨kmw_238, List.forall_mem_cons.mpr ⟨kmw_239, List.forall_mem_cons.mpr ⟨kmw_240, List.forall_mem_cons.mpr ⟨kmw_241, List.forall_mem_cons.mpr ⟨kmw_242, List.forall_mem_cons.mpr ⟨kmw_243, List.forall_mem_cons.mpr ⟨kmw_244, List.forall_mem_cons.mpr ⟨kmw_245, List.forall_mem_cons.mpr ⟨kmw_246, List.forall_mem_cons.mpr ⟨kmw_247, List.forall_mem_cons.mpr ⟨kmw_248, List.forall_mem_cons.mpr ⟨kmw_249, fun _ h => absurd h List.not_mem_nil⟩⟩⟩⟩⟩⟩⟩⟩⟩⟩⟩⟩⟩⟩⟩⟩⟩⟩⟩⟩⟩⟩⟩⟩⟩⟩⟩⟩⟩⟩⟩⟩⟩⟩⟩⟩⟩⟩⟩⟩⟩⟩⟩⟩⟩⟩⟩⟩⟩⟩
theorem km_o4 : ∀ q ∈ km_4, km_ok q := km_of km_d4 km_v4 (by decide +kernel) (by decide +kernel) (by decide +kernel)
theorem km_d5 : ∀ q ∈ km_5, mj_dk q.1.2.1 q.2 = true := List.forall_mem_cons.mpr ⟨dk_250, List.forall_mem_cons.mpr ⟨dk_251, List.forall_mem_cons.mpr ⟨dk_252, List.forall_mem_cons.mpr ⟨dk_253, List.forall_mem_cons.mpr ⟨dk_254, List.forall_mem_cons.mpr ⟨dk_255, List.forall_mem_cons.mpr ⟨dk_256, List.forall_mem_cons.mpr ⟨dk_257, List.forall_mem_cons.mpr ⟨dk_258, List.forall_mem_cons.mpr ⟨dk_259, List.forall_mem_cons.mpr ⟨dk_260, List.forall_mem_cons.mpr ⟨dk_261, List.forall_mem_cons.mpr ⟨dk_262, List.forall_mem_cons.mpr ⟨dk_263, List.forall_mem_cons.mpr ⟨dk_264, List.forall_mem_cons.mpr ⟨dk_265, List.forall_mem_cons.mpr ⟨dk_266, List.forall_mem_cons.mpr ⟨dk_267, List.forall_mem_cons.mpr ⟨dk_268, List.forall_mem_cons.mpr ⟨dk_269, List.forall_mem_cons.mpr ⟨dk_270, List.forall_mem_cons.mpr ⟨dk_271, List.forall_mem_cons.mpr ⟨dk_272, List.forall_mem_cons.mpr ⟨dk_273, List.forall_mem_cons.mpr ⟨dk_274, List.forall_mem_cons.mpr ⟨dk_275, List.forall_mem_cons.mpr ⟨dk_276, List.forall_mem_cons.mpr ⟨dk_277, List.forall_mem_cons.mpr ⟨dk_278, List.forall_mem_cons.mpr ⟨dk_279, List.forall_mem_cons.mpr ⟨dk_280, List.forall_mem_cons.mpr ⟨dk_281, List.forall_mem_cons.mpr ⟨dk_282, List.forall_mem_cons.mpr ⟨dk_283, List.forall_mem_cons.mpr ⟨dk_284, List.forall_mem_cons.mpr ⟨dk_285, List.forall_mem_cons.mpr ⟨dk_286, List.forall_mem_cons.mpr ⟨dk_287, List.forall_mem_cons.mpr ⟨dk_288, List.forall_mem_cons.mpr ⟨dk_289, List.forall_mem_cons.mpr ⟨dk_290, List.forall_mem_cons.mpr ⟨dk_291, List.forall_mem_cons.mpr ⟨dk_292, List.forall_mem_cons.mpr ⟨dk_293, List.forall_mem_cons.mpr ⟨dk_294, List.forall_mem_cons.mpr ⟨dk_295, List.forall_mem_cons.mpr ⟨dk_296, List.forall_mem_cons.mpr ⟨dk_297, List.forall_mem_cons.mpr ⟨dk_298, List.forall_mem_cons.mpr ⟨dk_299, fun _ h => absurd h List.not_mem_nil⟩⟩⟩⟩⟩⟩⟩⟩⟩⟩⟩⟩⟩⟩⟩⟩⟩⟩⟩⟩⟩⟩⟩⟩⟩⟩⟩⟩⟩⟩⟩⟩⟩⟩⟩⟩⟩⟩⟩⟩⟩⟩⟩⟩⟩⟩⟩⟩⟩⟩
theorem kmw_250 : mj_cw ⟨"DiceOddsModel", "sayExpression", "(II)V"⟩ prog_14_method_58_code 4 none [] ∈ lw_tbl := lw_in7 (List.mem_of_getElem? (i := 219) rfl)
theorem kmw_251 : mj_cw ⟨"DiceOddsModel", "task", "(I)V"⟩ prog_14_method_52_code 2 none [] ∈ lw_tbl := lw_in7 (List.mem_of_getElem? (i := 223) rfl)
theorem kmw_252 : mj_cw ⟨"DiceOddsModel", "sayNode", "(II)V"⟩ prog_14_method_57_code 6 none [] ∈ lw_tbl := lw_in7 (List.mem_of_getElem? (i := 227) rfl)
theorem kmw_253 : mj_cw ⟨"DiceOddsModel", "tightOf", "(II)I"⟩ prog_14_method_54_code 4 (some .int) [] ∈ lw_tbl := lw_in7 (List.mem_of_getElem? (i := 231) rfl)
theorem kmw_254 : mj_cw ⟨"DiceOddsModel", "taskInside", "(IZ)V"⟩ prog_14_method_53_code 3 none [] ∈ lw_tbl := lw_in7 (List.mem_of_getElem? (i := 235) rfl)
theorem kmw_255 : mj_cw ⟨"DiceOddsModel", "sayDice", "(I)V"⟩ prog_14_method_55_code 2 none [] ∈ lw_tbl := lw_in7 (List.mem_of_getElem? (i := 239) rfl)
theorem kmw_256 : mj_cw ⟨"DiceOddsModel", "sayFaces", "(II)V"⟩ prog_14_method_56_code 4 none [] ∈ lw_tbl := lw_in8 (List.mem_of_getElem? (i := 3) rfl)
theorem kmw_257 : mj_cw ⟨"DiceOddsModel", "charOf", "(I)I"⟩ prog_14_method_20_code 1 (some .int) [] ∈ lw_tbl := lw_in8 (List.mem_of_getElem? (i := 6) rfl)
theorem kmw_258 : mj_cw ⟨"DiceOddsModel", "factor", "(I)J"⟩ prog_14_method_63_code 2 (some .long) [] ∈ lw_tbl := lw_in8 (List.mem_of_getElem? (i := 10) rfl)
theorem kmw_259 : mj_cw ⟨"DiceOddsModel", "run", "(I)I"⟩ prog_14_method_87_code 3 (some .int) [] ∈ lw_tbl := lw_in8 (List.mem_of_getElem? (i := 14) rfl)
theorem kmw_260 : mj_cw ⟨"DiceOddsModel", "runAll", "(I)I"⟩ prog_14_method_85_code 4 (some .int) [] ∈ lw_tbl := lw_in8 (List.mem_of_getElem? (i := 18) rfl)
theorem kmw_261 : mj_cw ⟨"DiceOddsModel", "fallAll", "(III)I"⟩ prog_14_method_46_code 7 (some .int) [] ∈ lw_tbl := lw_in8 (List.mem_of_getElem? (i := 22) rfl)
theorem kmw_262 : mj_cw ⟨"DiceOddsModel", "rollAgain", "(II)V"⟩ prog_14_method_45_code 5 none [] ∈ lw_tbl := lw_in8 (List.mem_of_getElem? (i := 26) rfl)
theorem kmw_263 : mj_cw ⟨"DiceOddsModel", "addDice", "(II)V"⟩ prog_14_method_42_code 8 none [] ∈ lw_tbl := lw_in8 (List.mem_of_getElem? (i := 30) rfl)
theorem kmw_264 : mj_cw ⟨"DiceOddsModel", "keepDice", "(IIZI)V"⟩ prog_14_method_44_code 10 none [] ∈ lw_tbl := lw_in8 (List.mem_of_getElem? (i := 34) rfl)
theorem kmw_265 : mj_cw ⟨"DiceOddsModel", "orders", "(I)J"⟩ prog_14_method_43_code 6 (some .long) [] ∈ lw_tbl := lw_in8 (List.mem_of_getElem? (i := 38) rfl)
theorem kmw_266 : mj_cw ⟨"DiceOddsModel", "blockEnd", "(I)I"⟩ prog_14_method_81_code 3 (some .int) [] ∈ lw_tbl := lw_in8 (List.mem_of_getElem? (i := 42) rfl)
theorem kmw_267 : mj_cw ⟨"DiceOddsModel", "goOn", "(II)I"⟩ prog_14_method_83_code 6 (some .int) [] ∈ lw_tbl := lw_in8 (List.mem_of_getElem? (i := 46) rfl)
theorem kmw_268 : mj_cw ⟨"DiceOddsModel", "copySet", "(II)V"⟩ prog_14_method_74_code 3 none [] ∈ lw_tbl := lw_in8 (List.mem_of_getElem? (i := 50) rfl)
theorem kmw_269 : mj_cw ⟨"DiceOddsModel", "pour", "(IIJ)V"⟩ prog_14_method_73_code 6 none [] ∈ lw_tbl := lw_in8 (List.mem_of_getElem? (i := 54) rfl)
theorem kmw_270 : mj_cw ⟨"DiceOddsModel", "join", "(IIIIIJ)V"⟩ prog_14_method_72_code 10 none [] ∈ lw_tbl := lw_in8 (List.mem_of_getElem? (i := 58) rfl)
theorem kmw_271 : mj_cw ⟨"DiceOddsModel", "isSame", "(IIIIII)Z"⟩ prog_14_method_71_code 10 (some .boolean) [] ∈ lw_tbl := lw_in8 (List.mem_of_getElem? (i := 62) rfl)
theorem kmw_272 : mj_cw ⟨"DiceOddsModel", "unite", "(III)Z"⟩ prog_14_method_79_code 11 (some .boolean) [] ∈ lw_tbl := lw_in8 (List.mem_of_getElem? (i := 66) rfl)
theorem kmw_273 : mj_cw ⟨"DiceOddsModel", "beginSpare", "()V"⟩ prog_14_method_76_code 1 none [] ∈ lw_tbl := lw_in8 (List.mem_of_getElem? (i := 70) rfl)
theorem kmw_274 : mj_cw ⟨"DiceOddsModel", "settle", "(I)Z"⟩ prog_14_method_75_code 2 (some .boolean) [] ∈ lw_tbl := lw_in8 (List.mem_of_getElem? (i := 74) rfl)
theorem kmw_275 : mj_cw ⟨"DiceOddsModel", "perform", "(II)I"⟩ prog_14_method_84_code 5 (some .int) [] ∈ lw_tbl := lw_in8 (List.mem_of_getElem? (i := 78) rfl)
theorem kmw_276 : mj_cw ⟨"DiceOddsModel", "currentSet", "(I)I"⟩ prog_14_method_82_code 3 (some .int) [] ∈ lw_tbl := lw_in8 (List.mem_of_getElem? (i := 82) rfl)
theorem kmw_277 : mj_cw ⟨"DiceOddsModel", "openFrame", "(III)V"⟩ prog_14_method_80_code 4 none [] ∈ lw_tbl := lw_in8 (List.mem_of_getElem? (i := 86) rfl)
theorem kmw_278 : mj_cw ⟨"DiceOddsModel", "part", "(III)Z"⟩ prog_14_method_78_code 6 (some .boolean) [] ∈ lw_tbl := lw_in8 (List.mem_of_getElem? (i := 90) rfl)
theorem kmw_279 : mj_cw ⟨"DiceOddsModel", "work", "(IIII)Z"⟩ prog_14_method_70_code 7 (some .boolean) [] ∈ lw_tbl := lw_in8 (List.mem_of_getElem? (i := 94) rfl)
theorem kmw_280 : mj_cw ⟨"DiceOddsModel", "lay", "(IIII)Z"⟩ prog_14_method_69_code 9 (some .boolean) [] ∈ lw_tbl := lw_in8 (List.mem_of_getElem? (i := 98) rfl)
theorem kmw_281 : mj_cw ⟨"DiceOddsModel", "beginList", "()V"⟩ prog_14_method_64_code 1 none [] ∈ lw_tbl := lw_in8 (List.mem_of_getElem? (i := 102) rfl)
theorem kmw_282 : mj_cw ⟨"DiceOddsModel", "add", "(IJ)V"⟩ prog_14_method_65_code 4 none [] ∈ lw_tbl := lw_in8 (List.mem_of_getElem? (i := 106) rfl)
theorem kmw_283 : mj_cw ⟨"DiceOddsModel", "combine", "(I)Z"⟩ prog_14_method_68_code 7 (some .boolean) [] ∈ lw_tbl := lw_in8 (List.mem_of_getElem? (i := 110) rfl)
theorem kmw_284 : mj_cw ⟨"DiceOddsModel", "result", "(III)I"⟩ prog_14_method_67_code 3 (some .int) [] ∈ lw_tbl := lw_in8 (List.mem_of_getElem? (i := 113) rfl)
theorem kmw_285 : mj_cw ⟨"DiceOddsModel", "divided", "(II)I"⟩ prog_14_method_66_code 3 (some .int) [] ∈ lw_tbl := lw_in8 (List.mem_of_getElem? (i := 116) rfl)
theorem kmw_286 : mj_cw ⟨"DiceOddsModel", "simple", "(III)Z"⟩ prog_14_method_77_code 8 (some .boolean) [] ∈ lw_tbl := lw_in8 (List.mem_of_getElem? (i := 120) rfl)
theorem kmw_287 : mj_cw ⟨"DiceOddsModel", "takeResult", "(I)V"⟩ prog_14_method_86_code 6 none [] ∈ lw_tbl := lw_in8 (List.mem_of_getElem? (i := 124) rfl)
theorem kmw_288 : mj_cw ⟨"DiceOddsModel", "states", "()I"⟩ prog_14_method_88_code 1 (some .int) [] ∈ lw_tbl := lw_in8 (List.mem_of_getElem? (i := 128) rfl)
theorem kmw_289 : mj_cw ⟨"DiceOddsModel", "outcomes", "(I)I"⟩ prog_14_method_91_code 2 (some .int) [] ∈ lw_tbl := lw_in8 (List.mem_of_getElem? (i := 132) rfl)
theorem kmw_290 : mj_cw ⟨"DiceOddsModel", "wrongResult", "(I)I"⟩ prog_14_method_89_code 2 (some .int) [] ∈ lw_tbl := lw_in8 (List.mem_of_getElem? (i := 136) rfl)
theorem kmw_291 : mj_cw ⟨"DiceOddsModel", "outcome", "(II)I"⟩ prog_14_method_92_code 3 (some .int) [] ∈ lw_tbl := lw_in8 (List.mem_of_getElem? (i := 140) rfl)
theorem kmw_292 : mj_cw ⟨"DiceOddsModel", "wrongOutcome", "(II)I"⟩ prog_14_method_90_code 4 (some .int) [] ∈ lw_tbl := lw_in8 (List.mem_of_getElem? (i := 144) rfl)
theorem kmw_293 : mj_cw ⟨"DiceOddsModel", "ways", "(II)J"⟩ prog_14_method_93_code 3 (some .long) [] ∈ lw_tbl := lw_in8 (List.mem_of_getElem? (i := 148) rfl)
theorem kmw_294 : mj_cw ⟨"DiceOddsModel", "total", "(I)J"⟩ prog_14_method_94_code 2 (some .long) [] ∈ lw_tbl := lw_in8 (List.mem_of_getElem? (i := 152) rfl)
theorem kmw_295 : mj_cw ⟨"DiceOddsModel", "moment", "(II)J"⟩ prog_14_method_95_code 8 (some .long) [] ∈ lw_tbl := lw_in8 (List.mem_of_getElem? (i := 156) rfl)
theorem kmw_296 : mj_cw ⟨"DiceOddsModel", "millionths", "(II)I"⟩ prog_14_method_96_code 11 (some .int) [] ∈ lw_tbl := lw_in8 (List.mem_of_getElem? (i := 160) rfl)
theorem kmw_297 : mj_cw ⟨"DiceOddsModel", "percentile", "(III)I"⟩ prog_14_method_97_code 7 (some .int) [] ∈ lw_tbl := lw_in8 (List.mem_of_getElem? (i := 166) rfl)
theorem kmw_298 : mj_cw ⟨"DiceOddsModel", "sample", "(IJ)I"⟩ prog_14_method_98_code 7 (some .int) [] ∈ lw_tbl := lw_in8 (List.mem_of_getElem? (i := 170) rfl)
theorem kmw_299 : mj_cw ⟨"DiceOddsModel", "compare", "(III)J"⟩ prog_14_method_99_code 9 (some .long) [] ∈ lw_tbl := lw_in8 (List.mem_of_getElem? (i := 174) rfl)
theorem km_v5 : ∀ q ∈ km_5, km_c q ∈ lw_tbl := List.forall_mem_cons.mpr ⟨kmw_250, List.forall_mem_cons.mpr ⟨kmw_251, List.forall_mem_cons.mpr ⟨kmw_252, List.forall_mem_cons.mpr ⟨kmw_253, List.forall_mem_cons.mpr ⟨kmw_254, List.forall_mem_cons.mpr ⟨kmw_255, List.forall_mem_cons.mpr ⟨kmw_256, List.forall_mem_cons.mpr ⟨kmw_257, List.forall_mem_cons.mpr ⟨kmw_258, List.forall_mem_cons.mpr ⟨kmw_259, List.forall_mem_cons.mpr ⟨kmw_260, List.forall_mem_cons.mpr ⟨kmw_261, List.forall_mem_cons.mpr ⟨kmw_262, List.forall_mem_cons.mpr ⟨kmw_263, List.forall_mem_cons.mpr ⟨kmw_264, List.forall_mem_cons.mpr ⟨kmw_265, List.forall_mem_cons.mpr ⟨kmw_266, List.forall_mem_cons.mpr ⟨kmw_267, List.forall_mem_cons.mpr ⟨kmw_268, List.forall_mem_cons.mpr ⟨kmw_269, List.forall_mem_cons.mpr ⟨kmw_270, List.forall_mem_cons.mpr ⟨kmw_271, List.forall_mem_cons.mpr ⟨kmw_272, List.forall_mem_cons.mpr ⟨kmw_273, List.forall_mem_cons.mpr ⟨kmw_274, List.forall_mem_cons.mpr ⟨kmw_275, List.forall_mem_cons.mpr ⟨kmw_276, List.forall_mem_cons.mpr ⟨kmw_277, List.forall_mem_cons.mpr ⟨kmw_278, List.forall_mem_cons.mpr ⟨kmw_279, List.forall_mem_cons.mpr ⟨kmw_280, List.forall_mem_cons.mpr ⟨kmw_281, List.forall_mem_cons.mpr ⟨kmw_282, List.forall_mem_cons.mpr ⟨kmw_283, List.forall_mem_cons.mpr ⟨kmw_284, List.forall_mem_cons.mpr ⟨kmw_285, List.forall_mem_cons.mpr ⟨kmw_286, List.forall_mem_cons.mpr ⟨kmw_287, List.forall_mem_cons.mpr ⟨kmw_288, List.forall_mem_cons.mpr ⟨kmw_289, List.forall_mem_cons.mpr ⟨kmw_290, List.forall_mem_cons.mpr ⟨kmw_291, List.forall_mem_cons.mpr ⟨kmw_292, List.forall_mem_cons.mpr ⟨kmw_293, List.forall_mem_cons.mpr ⟨kmw_294, List.forall_mem_cons.mpr ⟨kmw_295, List.forall_mem_cons.mpr ⟨kmw_296, List.forall_mem_cons.mpr ⟨kmw_297, List.forall_mem_cons.mpr ⟨kmw_298, List.forall_mem_cons.mpr ⟨kmw_299, fun _ h => absurd h List.not_mem_nil⟩⟩⟩⟩⟩⟩⟩⟩⟩⟩⟩⟩⟩⟩⟩⟩⟩⟩⟩⟩⟩⟩⟩⟩⟩⟩⟩⟩⟩⟩⟩⟩⟩⟩⟩⟩⟩⟩⟩⟩⟩⟩⟩⟩⟩⟩⟩⟩⟩⟩
theorem km_o5 : ∀ q ∈ km_5, km_ok q := km_of km_d5 km_v5 (by decide +kernel) (by decide +kernel) (by decide +kernel)
theorem km_olaw : km_ok km_law := ⟨dk_law, List.mem_cons_self, plainFor_of_name (by decide +kernel), by decide +kernel, kt_of (by decide +kernel) rfl⟩
theorem km_all : ∀ q ∈ km, km_ok q := List.forall_mem_append.mpr ⟨km_o0, List.forall_mem_append.mpr ⟨km_o1, List.forall_mem_append.mpr ⟨km_o2, List.forall_mem_append.mpr ⟨km_o3, List.forall_mem_append.mpr ⟨km_o4, List.forall_mem_append.mpr ⟨km_o5, List.forall_mem_cons.mpr ⟨km_olaw, fun _ h => absurd h List.not_mem_nil⟩⟩⟩⟩⟩⟩⟩
