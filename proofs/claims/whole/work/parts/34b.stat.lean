def kst : List (String × String × String) := [("java/lang/String", "COMPACT_STRINGS", "Z"), ("jdk/internal/util/Preconditions", "SIOOBE_FORMATTER", "Ljava/util/function/BiFunction;"), ("java/lang/Integer", "DigitOnes", "[B"), ("java/lang/Integer", "DigitTens", "[B"), ("java/lang/Throwable", "UNASSIGNED_STACK", "[Ljava/lang/StackTraceElement;"), ("java/lang/Throwable", "SUPPRESSED_SENTINEL", "Ljava/util/List;")]
def ksc : List (Nat × Nat × Nat) := [(18, 2, 0), (83, 14, 2), (87, 14, 3), (38, 12, 0), (1053, 12, 1), (403, 3, 2), (407, 3, 3)]
def ksc_z (n : Nat) : String × String × String := (kst[n]?).getD ("", "", "")
def ksc_w (e : Nat × Nat × Nat) : Cond := .fieldLink (kn.getD e.2.1 "") e.1 (ksc_z e.2.2).1 (ksc_z e.2.2).2.1 (ksc_z e.2.2).2.2
theorem ksc_W : ∀ w ∈ ksc.map ksc_w, w ∈ kt := kt_all [153, 519, 521, 490, 414, 529, 530] (by decide +kernel) (by decide +kernel)
theorem ksc_B : ∀ e ∈ ksc, e.1 < 65536 ∧ e.2.2 < 4 := by decide +kernel
theorem kst_l0 : Cond.laysStatic "java/lang/String" "COMPACT_STRINGS" "Z" ∈ lw_tbl := List.mem_of_getElem? (i := 154) (by decide +kernel)
theorem kst_i0 : Cond.initialized "java/lang/String" ∈ lw_tbl := List.mem_of_getElem? (i := 107) (by decide +kernel)
theorem kst_l1 : Cond.laysStatic "jdk/internal/util/Preconditions" "SIOOBE_FORMATTER" "Ljava/util/function/BiFunction;" ∈ lw_tbl := List.mem_of_getElem? (i := 415) (by decide +kernel)
theorem kst_i1 : Cond.initialized "jdk/internal/util/Preconditions" ∈ lw_tbl := List.mem_of_getElem? (i := 119) (by decide +kernel)
theorem kst_l2 : Cond.laysStatic "java/lang/Integer" "DigitOnes" "[B" ∈ lw_tbl := List.mem_of_getElem? (i := 520) (by decide +kernel)
theorem kst_i2 : Cond.initialized "java/lang/Integer" ∈ lw_tbl := List.mem_of_getElem? (i := 125) (by decide +kernel)
theorem kst_l3 : Cond.laysStatic "java/lang/Integer" "DigitTens" "[B" ∈ lw_tbl := List.mem_of_getElem? (i := 522) (by decide +kernel)
theorem kst_i3 : Cond.initialized "java/lang/Integer" ∈ lw_tbl := List.mem_of_getElem? (i := 125) (by decide +kernel)
theorem kst_l4 : Cond.laysStatic "java/lang/Throwable" "UNASSIGNED_STACK" "[Ljava/lang/StackTraceElement;" ∈ lw_tbl := List.mem_of_getElem? (i := 587) (by decide +kernel)
theorem kst_i4 : Cond.initialized "java/lang/Throwable" ∈ lw_tbl := List.mem_of_getElem? (i := 120) (by decide +kernel)
theorem kst_l5 : Cond.laysStatic "java/lang/Throwable" "SUPPRESSED_SENTINEL" "Ljava/util/List;" ∈ lw_tbl := List.mem_of_getElem? (i := 589) (by decide +kernel)
theorem kst_i5 : Cond.initialized "java/lang/Throwable" ∈ lw_tbl := List.mem_of_getElem? (i := 120) (by decide +kernel)
/-- where a call's throw is caught: method, pc, class, handler, its row -/
def khd : List (Nat × Nat × Nat × (Nat × Nat)) := [(77, 4, 13, (12, 0)), (119, 4, 13, (12, 0)), (119, 4, 14, (15, 1)), (133, 4, 13, (12, 0)), (133, 4, 14, (15, 1)), (177, 4, 13, (11, 0)), (177, 4, 14, (14, 1)), (179, 4, 13, (12, 0)), (179, 4, 14, (15, 1)), (182, 5, 13, (13, 0)), (182, 5, 14, (17, 1)), (182, 5, 15, (21, 2)), (185, 5, 13, (12, 0)), (185, 5, 14, (16, 1)), (185, 5, 15, (20, 2)), (187, 4, 13, (11, 0)), (187, 4, 14, (14, 1)), (189, 5, 13, (12, 0)), (189, 5, 14, (16, 1)), (192, 5, 13, (13, 0)), (192, 5, 14, (17, 1)), (192, 5, 15, (21, 2)), (195, 7, 13, (15, 0)), (195, 7, 14, (19, 1)), (197, 6, 13, (14, 0)), (197, 6, 14, (18, 1)), (197, 6, 15, (22, 2)), (199, 7, 13, (14, 0)), (199, 7, 14, (18, 1))]
def khc : List (Nat × Nat) := [(13, 13), (18, 14), (34, 15)]
def k_nm (ci : Nat) : String := ((kc_cl[ci]?).map (fun q => q.1)).getD ""
theorem khc_W : ∀ w ∈ khc.map (fun e => Cond.classLink "DiceOddsLaw" e.1 (k_nm e.2)), w ∈ kt := kt_all [729, 993, 1295] (by decide +kernel) (by decide +kernel)
def khd_hh (k : Nat) : List (Nat × Nat × Nat × Nat) := ((km[k]?).map (fun q => q.1.2.2.2.2)).getD []
def khd_b (e : Nat × Nat × Nat × (Nat × Nat)) : Bool := match (khd_hh e.1)[e.2.2.2.2]? with
  | some x => decide ((ky_I e.1).cls = "DiceOddsLaw") && decide (x.1 ≤ e.2.1 ∧ e.2.1 < x.2.1 ∧ x.2.2.2 ≠ 0 ∧ x.2.2.1 = e.2.2.2.1 ∧ (x.2.2.2, e.2.2.1) ∈ khc ∧ e.2.2.1 ∈ [13, 14, 15]) && ((khd_hh e.1).take e.2.2.2.2).all (fun y => decide (y.1 ≤ e.2.1 ∧ e.2.1 < y.2.1 ∧ y.2.2.2 ≠ 0) && khc.any (fun z => z.1 == y.2.2.2 && (decide (z.2 ∈ [13, 14, 15]) && !(z.2 == e.2.2.1))))
  | none => false
theorem khd_B : ∀ e ∈ khd, khd_b e = true := by decide +kernel
