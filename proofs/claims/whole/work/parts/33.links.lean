theorem kt_app {α : Type} {f : α → List Cond} {a b : List α} (ha : ∀ w ∈ a.flatMap f, w ∈ kt) (hb : ∀ w ∈ b.flatMap f, w ∈ kt) : ∀ w ∈ (a ++ b).flatMap f, w ∈ kt := by
  intro w hw
  rw [List.flatMap_append] at hw
  rcases List.mem_append.mp hw with h | h
  · exact ha w h
  · exact hb w h
theorem kb_app {α : Type} {p : α → Prop} {a b : List α} (ha : ∀ e ∈ a, p e) (hb : ∀ e ∈ b, p e) : ∀ e ∈ a ++ b, p e := List.forall_mem_append.mpr ⟨ha, hb⟩
def mj_lk2 {α : Type} : List (Nat × Nat × α) → Nat → Nat → Option α
  | [], _, _ => none
  | q :: r, a, b => bif (q.1 == a) && (q.2.1 == b) then some q.2.2 else mj_lk2 r a b
def mj_lk3 {α : Type} : List (Nat × Nat × Nat × α) → Nat → Nat → Nat → Option α
  | [], _, _, _ => none
  | q :: r, a, b, c => bif (q.1 == a) && ((q.2.1 == b) && (q.2.2.1 == c)) then some q.2.2.2 else mj_lk3 r a b c
theorem mj_lk2_in {α : Type} {l : List (Nat × Nat × α)} {a b : Nat} {v : α} (h : mj_lk2 l a b = some v) : (a, b, v) ∈ l := by
  induction l with
  | nil => cases h
  | cons q r ih =>
    unfold mj_lk2 at h
    cases hc : (q.1 == a) && (q.2.1 == b) with
    | true =>
      rw [hc] at h
      simp only [Bool.and_eq_true, beq_iff_eq] at hc
      have h2 := Option.some.inj h
      obtain ⟨x, y, z⟩ := q
      obtain ⟨rfl, rfl⟩ := hc
      subst h2
      exact List.mem_cons_self
    | false =>
      rw [hc] at h
      exact List.mem_cons_of_mem _ (ih h)
theorem mj_lk3_in {α : Type} {l : List (Nat × Nat × Nat × α)} {a b c : Nat} {v : α} (h : mj_lk3 l a b c = some v) : (a, b, c, v) ∈ l := by
  induction l with
  | nil => cases h
  | cons q r ih =>
    unfold mj_lk3 at h
    cases hc : (q.1 == a) && ((q.2.1 == b) && (q.2.2.1 == c)) with
    | true =>
      rw [hc] at h
      simp only [Bool.and_eq_true, beq_iff_eq] at hc
      have h2 := Option.some.inj h
      obtain ⟨x, y, z, w⟩ := q
      obtain ⟨rfl, rfl, rfl⟩ := hc
      subst h2
      exact List.mem_cons_self
    | false =>
      rw [hc] at h
      exact List.mem_cons_of_mem _ (ih h)
def kn : List String := ["DiceOdds", "java/lang/StringBuilder", "java/lang/AbstractStringBuilder", "java/lang/StringUTF16", "DiceOdds$Parser", "DiceOdds$Bench", "DiceOdds$States", "DiceOdds$Slot", "jdk/internal/util/ArraysSupport", "java/lang/Math", "java/util/Arrays", "java/lang/StringLatin1", "java/lang/String", "jdk/internal/util/Preconditions", "java/lang/Integer", "DiceOddsLaw", "DiceOdds$Minus", "DiceOdds$Expression", "DiceOdds$Plain", "DiceOdds$Dice", "DiceOdds$Row", "DiceOdds$Operation", "DiceOdds$Statement", "DiceOddsModel"]
def ko : List Nat := [0, 1, 2, 3, 3, 4, 5, 6, 7, 0, 1, 2, 0, 1, 2, 2, 2, 8, 9, 8, 10, 9, 2, 11, 2, 11, 3, 3, 3, 12, 13, 3, 3, 3, 12, 13, 0, 1, 2, 1, 2, 2, 3, 3, 12, 13, 12, 12, 2, 2, 12, 1, 2, 14, 14, 3, 3, 1, 12, 12, 2, 10, 10, 10, 3, 3, 3, 3, 11, 10, 10, 3, 0, 1, 2, 0, 0, 15, 0, 0, 0, 4, 4, 4, 4, 4, 0, 4, 4, 4, 4, 16, 17, 4, 4, 0, 0, 18, 4, 4, 19, 0, 0, 9, 4, 10, 20, 4, 0, 21, 4, 22, 22, 0, 0, 0, 4, 7, 7, 15, 0, 0, 22, 22, 19, 16, 21, 17, 17, 21, 18, 20, 22, 15, 0, 5, 6, 6, 22, 22, 22, 5, 19, 19, 19, 10, 19, 19, 10, 5, 5, 16, 21, 18, 6, 20, 5, 5, 21, 9, 9, 5, 5, 6, 6, 6, 22, 6, 6, 6, 22, 22, 5, 6, 7, 7, 7, 15, 0, 15, 0, 0, 15, 0, 0, 15, 0, 15, 0, 15, 0, 0, 15, 0, 0, 15, 0, 15, 0, 15, 0, 14, 23, 23, 23, 23, 23, 23, 23, 23, 23, 23, 23, 23, 23, 23, 23, 23, 23, 23, 23, 23, 23, 23, 23, 23, 23, 23, 23, 23, 23, 23, 23, 23, 23, 23, 23, 23, 23, 23, 23, 23, 23, 23, 23, 23, 23, 23, 23, 23, 23, 23, 23, 23, 23, 23, 23, 23, 23, 23, 23, 23, 23, 23, 23, 23, 23, 23, 23, 23, 23, 23, 23, 23, 23, 23, 23, 23, 23, 23, 23, 23, 23, 23, 23, 23, 23, 23, 23, 23, 23, 23, 23, 23, 23, 23, 23, 23, 23, 23, 15]
def kf_0 : List (Nat × Nat × Nat × (Nat × FieldType × Bool × Bool × Option String)) := [(12, 0, 5, (0, (.object "java/lang/StringBuilder"), true, true, none)),
  (18, 0, 5, (1, (.array (.object "DiceOdds$Slot")), true, true, none)),
  (25, 0, 5, (2, (.object "DiceOdds$Parser"), true, true, none)),
  (32, 0, 5, (3, (.object "DiceOdds$Bench"), true, true, none)),
  (69, 0, 1, (4, .int, false, false, (some "DiceOdds"))),
  (73, 0, 1, (6, .int, false, false, (some "DiceOdds"))),
  (79, 0, 4, (3, (.object "DiceOdds$Statement"), false, false, (some "DiceOdds"))),
  (100, 0, 2, (2, .int, false, false, (some "DiceOdds"))),
  (109, 0, 3, (12, .int, false, false, (some "DiceOdds"))),
  (119, 0, 4, (4, .int, false, false, (some "DiceOdds"))),
  (126, 0, 4, (0, (.array .int), true, false, (some "DiceOdds"))),
  (130, 0, 4, (1, (.array .long), true, false, (some "DiceOdds"))),
  (134, 0, 4, (5, .long, false, false, (some "DiceOdds"))),
  (173, 0, 4, (2, .boolean, false, false, (some "DiceOdds"))),
  (11, 5, 3, (0, (.array .int), true, true, none)),
  (15, 5, 3, (1, (.array .long), true, true, none)),
  (19, 5, 3, (2, (.array .int), true, true, none)),
  (22, 5, 3, (3, .int, false, false, none)),
  (26, 5, 3, (4, (.array .long), true, true, none)),
  (29, 5, 3, (5, (.array .int), true, true, none)),
  (32, 5, 3, (6, .int, false, false, none)),
  (43, 5, 3, (8, (.object "DiceOdds$States"), true, true, none)),
  (50, 5, 3, (10, (.array (.object "DiceOdds$States")), true, true, none)),
  (54, 5, 3, (11, (.array (.object "DiceOdds$States")), true, true, none)),
  (66, 5, 2, (2, .int, false, false, (some "DiceOdds"))),
  (13, 19, 8, (4, (.array .long), false, false, none)),
  (19, 19, 8, (0, .int, true, true, none)),
  (23, 19, 8, (1, .int, true, true, none)),
  (26, 19, 8, (2, .char, true, true, none)),
  (30, 19, 8, (3, .int, true, true, none)),
  (46, 19, 3, (7, (.array (.array .long)), true, false, (some "DiceOdds"))),
  (3, 16, 6, (1, .long, true, false, none)),
  (3, 16, 7, (2, .long, true, false, none)),
  (3, 16, 8, (5, .long, true, false, none)),
  (3, 16, 9, (1, .long, true, false, none)),
  (3, 16, 10, (3, .long, true, false, none)),
  (13, 16, 6, (0, (.object "DiceOdds$Expression"), true, true, none)),
  (3, 21, 6, (1, .long, true, false, none)),
  (3, 21, 7, (2, .long, true, false, none)),
  (3, 21, 8, (5, .long, true, false, none)),
  (3, 21, 9, (1, .long, true, false, none)),
  (3, 21, 10, (3, .long, true, false, none)),
  (17, 21, 10, (0, .char, true, true, none)),
  (23, 21, 10, (1, (.object "DiceOdds$Expression"), true, true, none)),
  (27, 21, 10, (2, (.object "DiceOdds$Expression"), true, true, none)),
  (9, 4, 1, (0, (.array .char), true, true, none)),
  (15, 4, 1, (1, (.array .int), true, true, none)),
  (19, 4, 1, (2, .int, false, false, none)),
  (23, 4, 1, (3, .int, false, false, none)),
  (26, 4, 1, (4, .int, false, false, none)),
  (29, 4, 1, (5, .int, false, false, none)),
  (9, 18, 7, (0, .int, true, true, none)),
  (15, 18, 7, (1, .int, true, true, none)),
  (7, 20, 9, (0, (.array .int), true, true, none)),
  (9, 7, 4, (0, (.array .int), true, true, none)),
  (15, 7, 4, (1, (.array .long), true, true, none)),
  (27, 7, 4, (4, .int, false, false, none)),
  (31, 7, 4, (5, .long, false, false, none)),
  (38, 7, 2, (2, .int, false, false, (some "DiceOdds"))),
  (47, 7, 2, (1, (.array .long), false, false, (some "DiceOdds")))]
def kf_1 : List (Nat × Nat × Nat × (Nat × FieldType × Bool × Bool × Option String)) := [(9, 22, 11, (8, (.object "DiceOdds$Statement"), false, false, none)),
  (15, 22, 11, (0, .char, true, true, none)),
  (19, 22, 11, (1, (.object "DiceOdds$Expression"), true, true, none)),
  (23, 22, 11, (2, .int, true, true, none)),
  (27, 22, 11, (3, (.object "DiceOdds$Statement"), true, true, none)),
  (30, 22, 11, (4, (.object "DiceOdds$Statement"), true, true, none)),
  (44, 22, 11, (6, .long, true, true, none)),
  (48, 22, 11, (7, .long, true, true, none)),
  (55, 22, 6, (1, .long, true, false, none)),
  (55, 22, 7, (2, .long, true, false, none)),
  (55, 22, 8, (5, .long, true, false, none)),
  (55, 22, 9, (1, .long, true, false, none)),
  (55, 22, 10, (3, .long, true, false, none)),
  (63, 22, 11, (5, .long, true, true, none)),
  (86, 22, 2, (2, .int, false, false, (some "DiceOdds"))),
  (95, 22, 3, (12, .int, false, false, (some "DiceOdds"))),
  (119, 22, 3, (9, (.object "DiceOdds$States"), true, false, (some "DiceOdds"))),
  (145, 22, 3, (10, (.array (.object "DiceOdds$States")), true, false, (some "DiceOdds"))),
  (149, 22, 3, (11, (.array (.object "DiceOdds$States")), true, false, (some "DiceOdds"))),
  (9, 6, 2, (0, (.array .int), false, false, none)),
  (15, 6, 2, (1, (.array .long), false, false, none)),
  (19, 6, 2, (2, .int, false, false, none)),
  (7, 23, 12, (1, (.array .int), true, true, none)),
  (13, 23, 12, (3, .int, false, false, none)),
  (17, 23, 12, (4, (.array .boolean), true, true, none)),
  (21, 23, 12, (5, (.array .int), true, true, none)),
  (24, 23, 12, (6, (.array .int), true, true, none)),
  (27, 23, 12, (7, (.array .int), true, true, none)),
  (30, 23, 12, (8, (.array .int), true, true, none)),
  (33, 23, 12, (9, (.array .int), true, true, none)),
  (36, 23, 12, (10, (.array .int), true, true, none)),
  (39, 23, 12, (11, (.array .int), true, true, none)),
  (42, 23, 12, (12, (.array .long), true, true, none)),
  (46, 23, 12, (13, (.array .int), true, true, none)),
  (49, 23, 12, (14, (.array .int), true, true, none)),
  (52, 23, 12, (15, (.array .int), true, true, none)),
  (55, 23, 12, (16, (.array .int), true, true, none)),
  (58, 23, 12, (17, (.array .int), true, true, none)),
  (61, 23, 12, (18, (.array .int), true, true, none)),
  (64, 23, 12, (19, (.array .int), true, true, none)),
  (67, 23, 12, (20, (.array .int), true, true, none)),
  (70, 23, 12, (21, (.array .long), true, true, none)),
  (73, 23, 12, (27, (.array .int), true, true, none)),
  (76, 23, 12, (28, (.array .boolean), true, true, none)),
  (79, 23, 12, (32, (.array .int), true, true, none)),
  (82, 23, 12, (34, (.array .int), true, true, none)),
  (85, 23, 12, (35, (.array .boolean), true, true, none)),
  (88, 23, 12, (37, (.array .int), true, true, none)),
  (91, 23, 12, (38, (.array .long), true, true, none)),
  (94, 23, 12, (39, (.array .int), true, true, none)),
  (97, 23, 12, (41, (.array .int), true, true, none)),
  (100, 23, 12, (42, (.array .long), true, true, none)),
  (103, 23, 12, (43, (.array .int), true, true, none)),
  (106, 23, 12, (46, (.array .long), true, true, none)),
  (109, 23, 12, (47, (.array .int), true, true, none)),
  (112, 23, 12, (48, (.array .long), true, true, none)),
  (115, 23, 12, (49, (.array .int), true, true, none)),
  (118, 23, 12, (53, (.array .int), true, true, none)),
  (121, 23, 12, (54, (.array .int), true, true, none)),
  (124, 23, 12, (55, (.array .int), true, true, none))]
def kf_2 : List (Nat × Nat × Nat × (Nat × FieldType × Bool × Bool × Option String)) := [(127, 23, 12, (57, (.array .boolean), true, true, none)),
  (130, 23, 12, (58, (.array .int), true, true, none)),
  (133, 23, 12, (59, (.array .int), true, true, none)),
  (136, 23, 12, (60, (.array .long), true, true, none)),
  (139, 23, 12, (61, (.array .long), true, true, none)),
  (142, 23, 12, (0, .int, false, false, none)),
  (149, 23, 12, (2, .int, false, false, none)),
  (162, 23, 12, (22, .int, false, false, none)),
  (177, 23, 12, (26, .int, false, false, none)),
  (180, 23, 12, (23, .int, false, false, none)),
  (183, 23, 12, (33, .int, false, false, none)),
  (197, 23, 12, (25, .int, false, false, none)),
  (203, 23, 12, (24, .int, false, false, none)),
  (212, 23, 12, (29, .int, false, false, none)),
  (222, 23, 12, (30, .int, false, false, none)),
  (228, 23, 12, (31, .boolean, false, false, none)),
  (253, 23, 12, (36, .int, false, false, none)),
  (324, 23, 12, (40, .int, false, false, none)),
  (353, 23, 12, (56, .int, false, false, none)),
  (368, 23, 12, (44, .int, false, false, none)),
  (371, 23, 12, (45, .int, false, false, none)),
  (395, 23, 12, (51, .int, false, false, none)),
  (402, 23, 12, (50, .boolean, false, false, none)),
  (413, 23, 12, (52, .int, false, false, none)),
  (15, 2, 0, (0, (.array .byte), false, false, none)),
  (22, 2, 0, (1, .byte, false, false, none)),
  (79, 2, 0, (3, .int, false, false, none)),
  (1048, 12, 0, (2, .boolean, false, false, none)),
  (37, 5, 3, (7, (.array (.array .long)), true, true, none)),
  (47, 5, 3, (9, (.object "DiceOdds$States"), true, true, none)),
  (57, 5, 3, (12, .int, false, false, none)),
  (9, 17, 6, (1, .long, true, true, none)),
  (9, 17, 7, (2, .long, true, true, none)),
  (9, 17, 8, (5, .long, true, true, none)),
  (9, 17, 9, (1, .long, true, true, none)),
  (9, 17, 10, (3, .long, true, true, none)),
  (32, 4, 1, (6, .int, false, false, none)),
  (84, 4, 11, (8, (.object "DiceOdds$Statement"), false, false, (some "DiceOdds"))),
  (19, 7, 4, (2, .boolean, false, false, none)),
  (23, 7, 4, (3, (.object "DiceOdds$Statement"), false, false, none)),
  (73, 2, 0, (2, .boolean, false, false, none))]
def kf : List (Nat × Nat × Nat × (Nat × FieldType × Bool × Bool × Option String)) := kf_0 ++ (kf_1 ++ (kf_2))
def kf_x (e : Nat × Nat × Nat × (Nat × FieldType × Bool × Bool × Option String)) : String × String × String × Bool := ((kc_cl[e.2.2.1]?).map (fun q => q.2.1 e.2.2.2.1)).getD ("", "", "", false)
def kf_w (e : Nat × Nat × Nat × (Nat × FieldType × Bool × Bool × Option String)) : List Cond := match e.2.2.2.2.2.2.2 with
  | none => [.fieldLink (kn.getD e.2.1 "") e.1 (kf_x e).1 (kf_x e).2.1 (kf_x e).2.2.1]
  | some h => [.fieldLinkNest (kn.getD e.2.1 "") e.1 (kf_x e).1 (kf_x e).2.1 (kf_x e).2.2.1 h]
def kf_b (e : Nat × Nat × Nat × (Nat × FieldType × Bool × Bool × Option String)) : Bool := match kc_cl[e.2.2.1]? with
  | some q => decide (e.2.2.2.1 < q.2.2) && decide (parseFieldDescriptor (kf_x e).2.2.1 = some e.2.2.2.2.1) && ((kf_x e).2.2.2 == e.2.2.2.2.2.1) && (!e.2.2.2.2.2.2.1 || (e.2.2.2.2.2.2.2.isNone && (decide ((kf_x e).1 = kn.getD e.2.1 "") && (kf_x e).2.2.2)))
  | none => false
theorem kf_B0 : ∀ e ∈ kf_0, kf_b e = true := by decide +kernel
theorem kf_B1 : ∀ e ∈ kf_1, kf_b e = true := by decide +kernel
theorem kf_B2 : ∀ e ∈ kf_2, kf_b e = true := by decide +kernel
theorem kf_B : ∀ e ∈ kf, kf_b e = true := kb_app kf_B0 (kb_app kf_B1 kf_B2)
theorem kf_W0 : ∀ w ∈ kf_0.flatMap kf_w, w ∈ kt := kt_all [318, 319, 320, 321, 190, 193, 300, 232, 260, 302, 294, 296, 304, 298, 242, 243, 244, 245, 246, 247, 248, 251, 254, 256, 229, 862, 858, 859, 860, 861, 250, 799, 799, 799, 799, 799, 798, 800, 800, 800, 800, 800, 910, 911, 912, 185, 186, 187, 188, 189, 191, 825, 826, 893, 293, 295, 301, 303, 230, 227] (by decide +kernel) (by decide +kernel)
theorem kf_W1 : ∀ w ∈ kf_1.flatMap kf_w, w ∈ kt := kt_all [955, 947, 948, 949, 950, 951, 953, 954, 802, 802, 802, 802, 802, 952, 231, 259, 253, 255, 257, 225, 226, 228, 1387, 1389, 1390, 1391, 1392, 1393, 1394, 1395, 1396, 1397, 1398, 1399, 1400, 1401, 1402, 1403, 1404, 1405, 1406, 1407, 1413, 1414, 1418, 1420, 1421, 1423, 1424, 1425, 1427, 1428, 1429, 1432, 1433, 1434, 1435, 1439, 1440, 1441] (by decide +kernel) (by decide +kernel)
theorem kf_W2 : ∀ w ∈ kf_2.flatMap kf_w, w ∈ kt := kt_all [1443, 1444, 1445, 1446, 1447, 1386, 1388, 1408, 1412, 1409, 1419, 1411, 1410, 1415, 1416, 1417, 1422, 1426, 1442, 1430, 1431, 1437, 1436, 1438, 162, 163, 166, 165, 249, 252, 258, 801, 801, 801, 801, 801, 192, 956, 297, 299, 164] (by decide +kernel) (by decide +kernel)
theorem kf_W : ∀ w ∈ kf.flatMap kf_w, w ∈ kt := kt_app kf_W0 (kt_app kf_W1 kf_W2)
def kdf : List (List Value) := [[.null, .int 0, .int 0, .int 0], [.null, .null, .int 0, .int 0, .int 0, .int 0, .int 0], [.null, .null, .int 0], [.null, .null, .null, .int 0, .null, .null, .int 0, .null, .null, .null, .null, .null, .int 0], [.null, .null, .int 0, .null, .int 0, .long 0], [.null, .null, .null, .null], [.null, .long 0], [.int 0, .int 0, .long 0], [.int 0, .int 0, .int 0, .int 0, .null, .long 0], [.null, .long 0], [.int 0, .null, .null, .long 0], [.int 0, .null, .int 0, .null, .null, .long 0, .long 0, .long 0, .null], [.int 0, .null, .int 0, .int 0, .null, .null, .null, .null, .null, .null, .null, .null, .null, .null, .null, .null, .null, .null, .null, .null, .null, .null, .int 0, .int 0, .int 0, .int 0, .int 0, .null, .null, .int 0, .int 0, .int 0, .null, .int 0, .null, .null, .int 0, .null, .null, .null, .int 0, .null, .null, .null, .int 0, .int 0, .null, .null, .null, .null, .int 0, .int 0, .int 0, .null, .null, .null, .int 0, .null, .null, .null, .null, .null], [], [], []]
def kw : List (Nat × Nat × (Nat × Nat)) := [(9, 0, (0, 4)), (16, 0, (4, 6)), (22, 0, (1, 7)), (29, 0, (3, 13)), (40, 5, (2, 3)), (48, 4, (11, 9)), (115, 4, (7, 3)), (128, 4, (10, 4)), (133, 4, (6, 2)), (154, 4, (8, 6)), (159, 4, (9, 2)), (8, 15, (5, 4)), (62, 15, (12, 62)), (45, 10, (0, 4))]
def kw_C (e : Nat × Nat × (Nat × Nat)) : String := ((kc_cl[e.2.2.1]?).map (fun q => q.1)).getD ""
def kw_w (e : Nat × Nat × (Nat × Nat)) : List Cond := [.classLink (kn.getD e.2.1 "") e.1 (kw_C e), .instantiable (kw_C e) e.2.2.2, .initialized (kw_C e)]
def kw_b (e : Nat × Nat × (Nat × Nat)) : Bool := match kc_cl[e.2.2.1]? with
  | some q => decide ((kdf.getD e.2.2.1 []).length = q.2.2) && (List.range q.2.2).all (fun j => match parseFieldDescriptor (q.2.1 j).2.2.1 with
    | some ty => decide ((kdf.getD e.2.2.1 [])[j]? = some (defaultValue ty))
    | none => false)
  | none => false
theorem kw_B : ∀ e ∈ kw, kw_b e = true := by decide +kernel
theorem kw_W : ∀ w ∈ kw.flatMap kw_w, w ∈ kt := kt_all [144, 145, 106, 177, 288, 112, 179, 180, 109, 211, 212, 110, 219, 220, 111, 925, 926, 134, 819, 820, 130, 901, 902, 133, 789, 790, 129, 845, 846, 131, 879, 880, 132, 136, 137, 104, 1380, 1381, 113, 603, 145, 106] (by decide +kernel) (by decide +kernel)
def kx : List (Nat × Nat × Nat) := [(149, 0, 15), (166, 0, 13), (177, 0, 14), (70, 4, 13)]
def ka : List (Nat × Nat × String) := [(16, 0, "DiceOdds$Slot"), (40, 5, "DiceOdds$States")]
def ka_w (e : Nat × Nat × String) : List Cond := [.classLink (kn.getD e.2.1 "") e.1 e.2.2, .arrayOver (.object e.2.2)]
theorem ka_W : ∀ w ∈ ka.flatMap ka_w, w ∈ kt := kt_all [177, 178, 219, 241] (by decide +kernel) (by decide +kernel)
def kty : List FieldType := [.int, .long, .byte, .char, .boolean, .object "DiceOdds$Slot", .object "DiceOdds$States", .array .long]
theorem ka_T : ∀ e ∈ ka, FieldType.object e.2.2 ∈ kty := by decide +kernel
def kk : List (Nat × Nat × Value) := [(148, 0, .int (1000000)), (39, 2, .int (2147483647)), (20, 3, .int (1073741823)), (200, 8, .int (2147483639)), (142, 0, .long (1000000)), (186, 0, .long (2)), (188, 0, .long (2147483649)), (53, 4, .long (2147483648)), (65, 15, .long (4294967295)), (152, 23, .long (255)), (154, 23, .long (33)), (156, 23, .long (126)), (276, 23, .long (2147483648)), (278, 23, .long (2147483649)), (468, 23, .long (1000000)), (470, 23, .long (2))]
def kk_w (e : Nat × Nat × Value) : Cond := match e.2.2 with
  | .int v => .constant (kn.getD e.2.1 "") e.1 v
  | .long v => .constantLong (kn.getD e.2.1 "") e.1 v
  | _ => .initialized ""
theorem kk_W : ∀ w ∈ kk.map kk_w, w ∈ kt := kt_all [1354, 370, 161, 366, 1349, 1353, 853, 981, 1958, 1585, 1586, 1587, 1712, 1713, 1944, 1945] (by decide +kernel) (by decide +kernel)
def ks_0 : List (Nat × Nat × (Nat × Nat × Option String)) := [(41, 0, (12, 2, none)),
  (83, 0, (122, 2, (some "DiceOdds"))),
  (96, 0, (138, 4, (some "DiceOdds"))),
  (112, 0, (112, 1, (some "DiceOdds"))),
  (138, 0, (191, 1, none)),
  (144, 0, (194, 2, none)),
  (156, 0, (80, 1, none)),
  (160, 0, (201, 1, none)),
  (190, 0, (103, 2, none)),
  (196, 0, (114, 2, none)),
  (199, 0, (115, 2, none)),
  (202, 0, (102, 2, none)),
  (83, 5, (158, 3, (some "DiceOdds"))),
  (3, 19, (101, 2, (some "DiceOdds"))),
  (64, 19, (145, 2, none)),
  (70, 19, (147, 2, none)),
  (78, 19, (148, 2, none)),
  (82, 19, (21, 2, none)),
  (9, 21, (102, 2, (some "DiceOdds"))),
  (30, 21, (108, 1, (some "DiceOdds"))),
  (59, 21, (159, 2, none)),
  (65, 21, (160, 2, none)),
  (47, 4, (112, 1, (some "DiceOdds"))),
  (60, 4, (21, 2, none)),
  (88, 4, (86, 1, (some "DiceOdds"))),
  (124, 4, (108, 1, (some "DiceOdds"))),
  (141, 4, (95, 1, (some "DiceOdds"))),
  (161, 4, (105, 2, none)),
  (61, 7, (114, 2, (some "DiceOdds"))),
  (65, 7, (115, 2, (some "DiceOdds"))),
  (33, 22, (112, 1, none)),
  (37, 22, (113, 2, (some "DiceOdds"))),
  (41, 22, (115, 2, (some "DiceOdds"))),
  (51, 22, (101, 2, (some "DiceOdds"))),
  (60, 22, (102, 2, (some "DiceOdds"))),
  (74, 22, (86, 1, (some "DiceOdds"))),
  (79, 22, (132, 2, none)),
  (83, 22, (122, 2, none)),
  (100, 22, (18, 2, none)),
  (152, 22, (138, 4, none))]
def ks_1 : List (Nat × Nat × (Nat × Nat × Option String)) := [(81, 15, (77, 3, none)),
  (94, 15, (119, 3, none)),
  (97, 15, (133, 3, none)),
  (104, 15, (177, 3, none)),
  (107, 15, (179, 3, none)),
  (110, 15, (182, 4, none)),
  (114, 15, (185, 4, none)),
  (117, 15, (187, 3, none)),
  (120, 15, (189, 4, none)),
  (123, 15, (192, 4, none)),
  (126, 15, (195, 5, none)),
  (130, 15, (197, 4, none)),
  (134, 15, (199, 5, none)),
  (145, 23, (205, 3, none)),
  (215, 23, (231, 1, none)),
  (241, 23, (230, 1, none)),
  (280, 23, (237, 2, none)),
  (284, 23, (241, 2, none)),
  (287, 23, (238, 2, none)),
  (295, 23, (240, 2, none)),
  (312, 23, (210, 1, none)),
  (347, 23, (257, 1, none)),
  (374, 23, (285, 2, none)),
  (377, 23, (284, 3, none)),
  (26, 2, (3, 1, none)),
  (108, 2, (20, 2, none)),
  (114, 2, (17, 3, none)),
  (125, 2, (25, 5, none)),
  (133, 2, (68, 3, none)),
  (137, 2, (71, 3, none)),
  (138, 2, (21, 2, none)),
  (144, 2, (34, 2, none)),
  (148, 2, (66, 2, none)),
  (191, 2, (23, 1, none)),
  (197, 2, (32, 3, none)),
  (226, 2, (42, 6, none)),
  (245, 2, (53, 1, none)),
  (248, 2, (54, 3, none)),
  (251, 2, (55, 4, none)),
  (47, 12, (67, 2, none))]
def ks_2 : List (Nat × Nat × (Nat × Nat × Option String)) := [(54, 12, (61, 3, none)),
  (106, 12, (25, 5, none)),
  (1051, 12, (64, 3, none)),
  (1059, 12, (35, 3, none)),
  (1062, 12, (45, 4, none)),
  (1065, 12, (30, 4, none)),
  (236, 11, (69, 4, none)),
  (240, 11, (26, 5, none)),
  (11, 3, (4, 1, none)),
  (48, 3, (28, 1, none)),
  (67, 3, (33, 2, none)),
  (71, 3, (66, 2, none)),
  (96, 3, (43, 3, none)),
  (111, 3, (31, 3, none)),
  (123, 3, (65, 5, none)),
  (126, 3, (61, 3, none)),
  (173, 3, (27, 3, none)),
  (241, 3, (44, 3, none)),
  (380, 3, (69, 4, none)),
  (393, 3, (56, 3, none)),
  (414, 3, (34, 2, none)),
  (419, 3, (29, 3, none)),
  (13, 10, (70, 3, none)),
  (304, 10, (21, 2, none)),
  (339, 10, (62, 3, none)),
  (343, 10, (63, 2, none)),
  (194, 8, (18, 2, none)),
  (201, 8, (19, 2, none))]
def ks : List (Nat × Nat × (Nat × Nat × Option String)) := ks_0 ++ (ks_1 ++ (ks_2))
def ky_I (k : Nat) : MethodName := ((km[k]?).map (fun q => q.1.1)).getD ⟨"", "", ""⟩
def k_ml (own idx : Nat) (y : MethodName) : Option String → Cond
  | none => .methodLink (kn.getD own "") idx y
  | some h => .methodLinkNest (kn.getD own "") idx y h
def ks_w (e : Nat × Nat × (Nat × Nat × Option String)) : List Cond := [k_ml e.2.1 e.1 (ky_I e.2.2.1) e.2.2.2.2, .static (ky_I e.2.2.1)]
theorem ks_W0 : ∀ w ∈ ks_0.flatMap ks_w, w ∈ kt := kt_all [342, 343, 1018, 1019, 1103, 1104, 1279, 932, 1338, 1339, 1350, 1351, 738, 739, 1377, 1378, 854, 855, 938, 939, 941, 942, 944, 907, 1187, 1188, 850, 851, 1133, 1134, 1136, 1137, 1144, 1145, 1143, 382, 906, 907, 1047, 899, 1190, 1191, 1193, 1194, 980, 932, 753, 382, 767, 768, 898, 899, 816, 817, 881, 882, 1270, 939, 1271, 942, 931, 932, 935, 936, 945, 942, 946, 851, 934, 907, 1026, 768, 1079, 1080, 1082, 1019, 1255, 364, 1225, 1104] (by decide +kernel) (by decide +kernel)
theorem ks_W1 : ∀ w ∈ ks_1.flatMap ks_w, w ∈ kt := kt_all [726, 727, 990, 991, 1083, 1084, 1272, 1273, 1280, 1281, 1292, 1293, 1317, 1318, 1324, 1325, 1331, 1332, 1342, 1343, 1355, 1356, 1362, 1363, 1370, 1371, 1582, 1583, 1686, 1687, 1683, 1684, 1709, 1710, 1724, 1725, 1714, 1715, 1721, 1722, 1604, 1605, 1787, 1788, 1897, 1898, 1894, 1895, 155, 156, 371, 372, 360, 361, 399, 400, 669, 670, 700, 701, 715, 382, 716, 435, 717, 641, 392, 393, 428, 429, 470, 471, 513, 514, 516, 517, 523, 524, 644, 645] (by decide +kernel) (by decide +kernel)
theorem ks_W2 : ∀ w ∈ ks_2.flatMap ks_w, w ∈ kt := kt_all [551, 552, 505, 400, 634, 635, 437, 438, 479, 480, 416, 417, 672, 673, 402, 403, 158, 159, 408, 409, 431, 432, 640, 641, 473, 474, 419, 420, 637, 638, 643, 552, 405, 406, 476, 477, 703, 673, 526, 527, 434, 435, 411, 412, 675, 676, 381, 382, 554, 555, 557, 558, 363, 364, 367, 368] (by decide +kernel) (by decide +kernel)
theorem ks_W : ∀ w ∈ ks.flatMap ks_w, w ∈ kt := kt_app ks_W0 (kt_app ks_W1 ks_W2)
theorem ks_B0 : ∀ e ∈ ks_0, e.2.2.1 < km.length ∧ mj_np (ky_I e.2.2.1).desc = some e.2.2.2.1 := by decide +kernel
theorem ks_B1 : ∀ e ∈ ks_1, e.2.2.1 < km.length ∧ mj_np (ky_I e.2.2.1).desc = some e.2.2.2.1 := by decide +kernel
theorem ks_B2 : ∀ e ∈ ks_2, e.2.2.1 < km.length ∧ mj_np (ky_I e.2.2.1).desc = some e.2.2.2.1 := by decide +kernel
theorem ks_B : ∀ e ∈ ks, e.2.2.1 < km.length ∧ mj_np (ky_I e.2.2.1).desc = some e.2.2.2.1 := kb_app ks_B0 (kb_app ks_B1 ks_B2)
def kp_0 : List (Nat × Nat × (Nat × Nat × Option String × Bool)) := [(11, 0, (1, 0, none, true)),
  (24, 0, (5, 0, (some "DiceOdds"), true)),
  (31, 0, (6, 0, none, true)),
  (36, 0, (8, 0, (some "DiceOdds"), true)),
  (42, 5, (7, 0, (some "DiceOdds"), true)),
  (7, 19, (92, 1, none, true)),
  (9, 16, (92, 1, none, true)),
  (13, 21, (92, 1, none, true)),
  (106, 4, (111, 5, none, true)),
  (117, 4, (97, 2, none, true)),
  (130, 4, (109, 3, none, true)),
  (135, 4, (91, 1, none, true)),
  (156, 4, (100, 4, none, true)),
  (167, 4, (106, 1, none, true)),
  (3, 18, (92, 1, none, true)),
  (1, 20, (92, 1, none, true)),
  (61, 15, (0, 0, none, true)),
  (64, 15, (202, 0, none, true)),
  (489, 12, (59, 2, none, true)),
  (1, 1, (2, 1, none, true)),
  (29, 1, (40, 1, none, false)),
  (50, 1, (14, 1, none, false)),
  (53, 1, (52, 1, none, false)),
  (137, 1, (58, 1, none, true)),
  (329, 1, (74, 1, none, false)),
  (333, 1, (38, 1, none, false)),
  (343, 1, (11, 0, none, false)),
  (47, 10, (1, 0, none, true))]
def kp : List (Nat × Nat × (Nat × Nat × Option String × Bool)) := kp_0
def kp_w (e : Nat × Nat × (Nat × Nat × Option String × Bool)) : List Cond := k_ml e.2.1 e.1 (ky_I e.2.2.1) e.2.2.2.2.1 :: .instanceMethod (ky_I e.2.2.1) :: (match e.2.2.2.2.2 with
  | true => []
  | false => [.sameMethod (ky_I e.2.2.1).cls (ky_I e.2.2.1).cls (ky_I e.2.2.1).name (ky_I e.2.2.1).desc, .superclass (kn.getD e.2.1 "") (ky_I e.2.2.1).cls])
def kp_b (e : Nat × Nat × (Nat × Nat × Option String × Bool)) : Bool := match km[e.2.2.1]? with
  | some q => decide (mj_np q.1.1.desc = some e.2.2.2.1) && (match e.2.2.2.2.2 with
    | true => decide (q.1.1.name = "<init>") && (decide (q.1.2.2.2.1 = none) && decide (q.1.2.2.2.2 = []))
    | false => decide (q.1.1.name ≠ "<init>") && e.2.2.2.2.1.isNone)
  | none => false
theorem kp_W0 : ∀ w ∈ kp_0.flatMap kp_w, w ∈ kt := kt_all [146, 147, 181, 182, 213, 214, 289, 290, 221, 222, 857, 795, 794, 795, 909, 795, 927, 928, 821, 822, 903, 904, 791, 792, 847, 848, 889, 890, 824, 795, 892, 795, 138, 139, 1382, 1383, 540, 541, 149, 150, 463, 464, 1965, 175, 349, 350, 1960, 175, 510, 511, 1969, 175, 537, 538, 712, 713, 1972, 175, 448, 449, 1964, 175, 339, 340, 1959, 175, 604, 147] (by decide +kernel) (by decide +kernel)
theorem kp_W : ∀ w ∈ kp.flatMap kp_w, w ∈ kt := kp_W0
theorem kp_B0 : ∀ e ∈ kp_0, kp_b e = true := by decide +kernel
theorem kp_B : ∀ e ∈ kp, kp_b e = true := kp_B0
def kv_0 : List (Nat × Nat × Nat × (Nat × Nat × Option String × Nat × Option (MethodName × String × Option Nat))) := [(37, 0, 0, (10, 0, none, 0, none)),
  (45, 0, 0, (13, 1, none, 0, none)),
  (49, 0, 0, (37, 1, none, 0, none)),
  (53, 0, 0, (73, 1, none, 0, none)),
  (57, 0, 5, (79, 1, none, 0, none)),
  (61, 0, 1, (81, 1, none, 0, none)),
  (65, 0, 4, (117, 1, none, 0, none)),
  (76, 0, 5, (121, 1, none, 0, none)),
  (89, 0, 4, (118, 0, none, 0, none)),
  (92, 0, 3, (135, 0, none, 0, none)),
  (105, 0, 4, (174, 1, none, 0, none)),
  (116, 0, 5, (181, 1, none, 0, none)),
  (122, 0, 5, (184, 2, none, 0, none)),
  (60, 5, 2, (136, 0, none, 0, none)),
  (63, 5, 2, (137, 0, none, 0, none)),
  (69, 5, 6, (151, 3, none, 2, (some (⟨"DiceOdds$Expression", "lay", "(LDiceOdds$Bench;LDiceOdds$States;I)Z"⟩, "DiceOdds$Expression", none)))),
  (69, 5, 7, (153, 3, none, 2, (some (⟨"DiceOdds$Expression", "lay", "(LDiceOdds$Bench;LDiceOdds$States;I)Z"⟩, "DiceOdds$Expression", none)))),
  (69, 5, 8, (142, 3, none, 2, (some (⟨"DiceOdds$Expression", "lay", "(LDiceOdds$Bench;LDiceOdds$States;I)Z"⟩, "DiceOdds$Expression", none)))),
  (69, 5, 9, (155, 3, none, 2, (some (⟨"DiceOdds$Expression", "lay", "(LDiceOdds$Bench;LDiceOdds$States;I)Z"⟩, "DiceOdds$Expression", none)))),
  (69, 5, 10, (152, 3, none, 2, (some (⟨"DiceOdds$Expression", "lay", "(LDiceOdds$Bench;LDiceOdds$States;I)Z"⟩, "DiceOdds$Expression", none)))),
  (75, 5, 3, (157, 4, none, 0, none)),
  (79, 5, 3, (150, 2, none, 0, none)),
  (89, 5, 2, (173, 5, none, 0, none)),
  (33, 19, 0, (51, 1, none, 0, none)),
  (39, 19, 0, (13, 1, none, 0, none))]
def kv_1 : List (Nat × Nat × Nat × (Nat × Nat × Option String × Nat × Option (MethodName × String × Option Nat))) := [(42, 19, 8, (143, 0, none, 0, none)),
  (52, 19, 8, (144, 1, none, 0, none)),
  (56, 19, 3, (149, 0, none, 0, none)),
  (60, 19, 3, (150, 2, none, 0, none)),
  (74, 19, 8, (146, 5, none, 0, none)),
  (15, 17, 0, (13, 1, none, 0, none)),
  (21, 17, 6, (125, 1, none, 2, (some (⟨"DiceOdds$Expression", "write", "(Ljava/lang/StringBuilder;)V"⟩, "DiceOdds$Expression", none)))),
  (21, 17, 7, (130, 1, none, 2, (some (⟨"DiceOdds$Expression", "write", "(Ljava/lang/StringBuilder;)V"⟩, "DiceOdds$Expression", none)))),
  (21, 17, 8, (124, 1, none, 2, (some (⟨"DiceOdds$Expression", "write", "(Ljava/lang/StringBuilder;)V"⟩, "DiceOdds$Expression", none)))),
  (21, 17, 9, (131, 1, none, 2, (some (⟨"DiceOdds$Expression", "write", "(Ljava/lang/StringBuilder;)V"⟩, "DiceOdds$Expression", none)))),
  (21, 17, 10, (129, 1, none, 2, (some (⟨"DiceOdds$Expression", "write", "(Ljava/lang/StringBuilder;)V"⟩, "DiceOdds$Expression", none)))),
  (19, 16, 0, (13, 1, none, 0, none)),
  (25, 16, 6, (127, 0, none, 0, none)),
  (25, 16, 7, (127, 0, none, 0, none)),
  (25, 16, 8, (127, 0, none, 0, none)),
  (25, 16, 9, (127, 0, none, 0, none)),
  (25, 16, 10, (126, 0, none, 2, (some (⟨"DiceOdds$Expression", "binding", "()I"⟩, "DiceOdds$Expression", (some 127))))),
  (29, 16, 6, (128, 2, none, 0, none)),
  (29, 16, 7, (128, 2, none, 0, none)),
  (29, 16, 8, (128, 2, none, 0, none)),
  (29, 16, 9, (128, 2, none, 0, none)),
  (29, 16, 10, (128, 2, none, 0, none)),
  (33, 16, 6, (151, 3, none, 2, (some (⟨"DiceOdds$Expression", "lay", "(LDiceOdds$Bench;LDiceOdds$States;I)Z"⟩, "DiceOdds$Expression", none)))),
  (33, 16, 7, (153, 3, none, 2, (some (⟨"DiceOdds$Expression", "lay", "(LDiceOdds$Bench;LDiceOdds$States;I)Z"⟩, "DiceOdds$Expression", none)))),
  (33, 16, 8, (142, 3, none, 2, (some (⟨"DiceOdds$Expression", "lay", "(LDiceOdds$Bench;LDiceOdds$States;I)Z"⟩, "DiceOdds$Expression", none))))]
def kv_2 : List (Nat × Nat × Nat × (Nat × Nat × Option String × Nat × Option (MethodName × String × Option Nat))) := [(33, 16, 9, (155, 3, none, 2, (some (⟨"DiceOdds$Expression", "lay", "(LDiceOdds$Bench;LDiceOdds$States;I)Z"⟩, "DiceOdds$Expression", none)))),
  (33, 16, 10, (152, 3, none, 2, (some (⟨"DiceOdds$Expression", "lay", "(LDiceOdds$Bench;LDiceOdds$States;I)Z"⟩, "DiceOdds$Expression", none)))),
  (37, 16, 3, (161, 0, none, 0, none)),
  (34, 21, 10, (126, 0, none, 0, none)),
  (38, 21, 6, (127, 0, none, 0, none)),
  (38, 21, 7, (127, 0, none, 0, none)),
  (38, 21, 8, (127, 0, none, 0, none)),
  (38, 21, 9, (127, 0, none, 0, none)),
  (38, 21, 10, (126, 0, none, 2, (some (⟨"DiceOdds$Expression", "binding", "()I"⟩, "DiceOdds$Expression", (some 127))))),
  (39, 21, 6, (128, 2, none, 0, none)),
  (39, 21, 7, (128, 2, none, 0, none)),
  (39, 21, 8, (128, 2, none, 0, none)),
  (39, 21, 9, (128, 2, none, 0, none)),
  (39, 21, 10, (128, 2, none, 0, none)),
  (43, 21, 0, (13, 1, none, 0, none)),
  (49, 21, 6, (151, 3, none, 2, (some (⟨"DiceOdds$Expression", "lay", "(LDiceOdds$Bench;LDiceOdds$States;I)Z"⟩, "DiceOdds$Expression", none)))),
  (49, 21, 7, (153, 3, none, 2, (some (⟨"DiceOdds$Expression", "lay", "(LDiceOdds$Bench;LDiceOdds$States;I)Z"⟩, "DiceOdds$Expression", none)))),
  (49, 21, 8, (142, 3, none, 2, (some (⟨"DiceOdds$Expression", "lay", "(LDiceOdds$Bench;LDiceOdds$States;I)Z"⟩, "DiceOdds$Expression", none)))),
  (49, 21, 9, (155, 3, none, 2, (some (⟨"DiceOdds$Expression", "lay", "(LDiceOdds$Bench;LDiceOdds$States;I)Z"⟩, "DiceOdds$Expression", none)))),
  (49, 21, 10, (152, 3, none, 2, (some (⟨"DiceOdds$Expression", "lay", "(LDiceOdds$Bench;LDiceOdds$States;I)Z"⟩, "DiceOdds$Expression", none)))),
  (53, 21, 3, (156, 1, none, 0, none)),
  (35, 4, 1, (82, 1, none, 0, none)),
  (39, 4, 1, (83, 1, none, 0, none)),
  (43, 4, 1, (87, 2, none, 0, none)),
  (55, 4, 0, (10, 0, none, 0, none))]
def kv_3 : List (Nat × Nat × Nat × (Nat × Nat × Option String × Nat × Option (MethodName × String × Option Nat))) := [(66, 4, 0, (73, 1, none, 0, none)),
  (77, 4, 1, (84, 0, none, 0, none)),
  (81, 4, 1, (85, 1, none, 0, none)),
  (92, 4, 1, (88, 1, none, 0, none)),
  (95, 4, 1, (116, 1, none, 0, none)),
  (98, 4, 1, (94, 1, none, 0, none)),
  (102, 4, 1, (89, 2, none, 0, none)),
  (109, 4, 1, (110, 1, none, 0, none)),
  (112, 4, 1, (99, 2, none, 0, none)),
  (120, 4, 1, (90, 1, none, 0, none)),
  (138, 4, 1, (93, 1, none, 0, none)),
  (144, 4, 1, (107, 0, none, 0, none)),
  (148, 4, 1, (98, 1, none, 0, none)),
  (151, 4, 1, (104, 0, none, 0, none)),
  (18, 18, 0, (51, 1, none, 0, none)),
  (24, 18, 0, (13, 1, none, 0, none)),
  (27, 18, 3, (149, 0, none, 0, none)),
  (33, 18, 2, (154, 2, none, 0, none)),
  (39, 18, 3, (150, 2, none, 0, none)),
  (13, 20, 0, (13, 1, none, 0, none)),
  (19, 20, 0, (51, 1, none, 0, none)),
  (22, 20, 3, (149, 0, none, 0, none)),
  (28, 20, 3, (150, 2, none, 0, none)),
  (35, 7, 4, (118, 0, none, 0, none)),
  (43, 7, 2, (154, 2, none, 0, none))]
def kv_4 : List (Nat × Nat × Nat × (Nat × Nat × Option String × Nat × Option (MethodName × String × Option Nat))) := [(48, 7, 4, (175, 2, none, 0, none)),
  (52, 7, 4, (176, 0, none, 0, none)),
  (64, 22, 11, (123, 1, none, 0, none)),
  (68, 22, 0, (13, 1, none, 0, none)),
  (78, 22, 6, (125, 1, none, 2, (some (⟨"DiceOdds$Expression", "write", "(Ljava/lang/StringBuilder;)V"⟩, "DiceOdds$Expression", none)))),
  (78, 22, 7, (130, 1, none, 2, (some (⟨"DiceOdds$Expression", "write", "(Ljava/lang/StringBuilder;)V"⟩, "DiceOdds$Expression", none)))),
  (78, 22, 8, (124, 1, none, 2, (some (⟨"DiceOdds$Expression", "write", "(Ljava/lang/StringBuilder;)V"⟩, "DiceOdds$Expression", none)))),
  (78, 22, 9, (131, 1, none, 2, (some (⟨"DiceOdds$Expression", "write", "(Ljava/lang/StringBuilder;)V"⟩, "DiceOdds$Expression", none)))),
  (78, 22, 10, (129, 1, none, 2, (some (⟨"DiceOdds$Expression", "write", "(Ljava/lang/StringBuilder;)V"⟩, "DiceOdds$Expression", none)))),
  (91, 22, 11, (139, 3, none, 0, none)),
  (106, 22, 11, (140, 2, none, 0, none)),
  (110, 22, 11, (166, 3, none, 0, none)),
  (113, 22, 11, (170, 3, none, 0, none)),
  (116, 22, 11, (171, 2, none, 0, none)),
  (123, 22, 2, (136, 0, none, 0, none)),
  (126, 22, 3, (141, 3, none, 0, none)),
  (130, 22, 3, (172, 4, none, 0, none)),
  (134, 22, 2, (165, 1, none, 0, none)),
  (138, 22, 3, (162, 0, none, 0, none)),
  (142, 22, 2, (163, 3, none, 0, none)),
  (156, 22, 2, (167, 2, none, 0, none)),
  (23, 6, 2, (164, 2, none, 0, none)),
  (27, 6, 2, (168, 1, none, 0, none)),
  (37, 6, 2, (169, 1, none, 0, none)),
  (41, 6, 2, (154, 2, none, 0, none))]
def kv_5 : List (Nat × Nat × Nat × (Nat × Nat × Option String × Nat × Option (MethodName × String × Option Nat))) := [(7, 15, 5, (78, 1, none, 0, none)),
  (15, 15, 5, (120, 1, none, 0, none)),
  (20, 15, 5, (134, 1, none, 0, none)),
  (23, 15, 5, (178, 1, none, 0, none)),
  (27, 15, 5, (180, 1, none, 0, none)),
  (30, 15, 5, (183, 2, none, 0, none)),
  (36, 15, 5, (186, 2, none, 0, none)),
  (40, 15, 5, (188, 1, none, 0, none)),
  (43, 15, 5, (190, 2, none, 0, none)),
  (46, 15, 5, (193, 2, none, 0, none)),
  (49, 15, 5, (196, 3, none, 0, none)),
  (53, 15, 5, (198, 2, none, 0, none)),
  (57, 15, 5, (200, 3, none, 0, none)),
  (67, 15, 5, (9, 2, none, 0, none)),
  (71, 15, 12, (204, 2, none, 0, none)),
  (72, 15, 5, (36, 0, none, 0, none)),
  (76, 15, 12, (207, 0, none, 0, none)),
  (77, 15, 5, (72, 1, none, 0, none)),
  (80, 15, 12, (208, 1, none, 0, none)),
  (86, 15, 12, (209, 1, none, 0, none)),
  (87, 15, 12, (203, 0, none, 0, none)),
  (90, 15, 5, (75, 0, none, 0, none)),
  (93, 15, 12, (244, 0, none, 0, none)),
  (96, 15, 12, (245, 1, none, 0, none)),
  (99, 15, 12, (259, 1, none, 0, none))]
def kv_6 : List (Nat × Nat × Nat × (Nat × Nat × Option String × Nat × Option (MethodName × String × Option Nat))) := [(100, 15, 5, (76, 0, none, 0, none)),
  (103, 15, 12, (288, 0, none, 0, none)),
  (106, 15, 12, (258, 1, none, 0, none)),
  (109, 15, 12, (289, 1, none, 0, none)),
  (113, 15, 12, (291, 2, none, 0, none)),
  (116, 15, 12, (293, 2, none, 0, none)),
  (119, 15, 12, (294, 1, none, 0, none)),
  (122, 15, 12, (295, 2, none, 0, none)),
  (125, 15, 12, (296, 2, none, 0, none)),
  (129, 15, 12, (297, 3, none, 0, none)),
  (133, 15, 12, (298, 2, none, 0, none)),
  (136, 15, 12, (299, 3, none, 0, none)),
  (158, 23, 12, (206, 1, none, 0, none)),
  (165, 23, 12, (212, 0, none, 0, none)),
  (169, 23, 12, (213, 1, none, 0, none)),
  (173, 23, 12, (217, 0, none, 0, none)),
  (186, 23, 12, (224, 5, none, 0, none)),
  (190, 23, 12, (219, 1, none, 0, none)),
  (193, 23, 12, (216, 2, none, 0, none)),
  (200, 23, 12, (215, 0, none, 0, none)),
  (206, 23, 12, (225, 0, none, 0, none)),
  (209, 23, 12, (226, 1, none, 0, none)),
  (219, 23, 12, (233, 1, none, 0, none)),
  (225, 23, 12, (228, 0, none, 0, none)),
  (232, 23, 12, (222, 1, none, 0, none))]
def kv_7 : List (Nat × Nat × Nat × (Nat × Nat × Option String × Nat × Option (MethodName × String × Option Nat))) := [(235, 23, 12, (223, 0, none, 0, none)),
  (238, 23, 12, (227, 0, none, 0, none)),
  (244, 23, 12, (232, 1, none, 0, none)),
  (247, 23, 12, (221, 0, none, 0, none)),
  (250, 23, 12, (229, 0, none, 0, none)),
  (256, 23, 12, (218, 2, none, 0, none)),
  (260, 23, 12, (220, 1, none, 0, none)),
  (263, 23, 12, (214, 0, none, 0, none)),
  (266, 23, 12, (234, 0, none, 0, none)),
  (269, 23, 12, (235, 0, none, 0, none)),
  (272, 23, 12, (236, 3, none, 0, none)),
  (291, 23, 12, (239, 1, none, 0, none)),
  (298, 23, 12, (265, 1, none, 0, none)),
  (301, 23, 12, (262, 2, none, 0, none)),
  (305, 23, 12, (263, 2, none, 0, none)),
  (308, 23, 12, (264, 4, none, 0, none)),
  (315, 23, 12, (211, 0, none, 0, none)),
  (318, 23, 12, (242, 1, none, 0, none)),
  (321, 23, 12, (243, 1, none, 0, none)),
  (327, 23, 12, (251, 1, none, 0, none)),
  (330, 23, 12, (249, 1, none, 0, none)),
  (333, 23, 12, (253, 2, none, 0, none)),
  (337, 23, 12, (254, 2, none, 0, none)),
  (341, 23, 12, (255, 1, none, 0, none)),
  (344, 23, 12, (256, 2, none, 0, none))]
def kv_8 : List (Nat × Nat × Nat × (Nat × Nat × Option String × Nat × Option (MethodName × String × Option Nat))) := [(350, 23, 12, (252, 2, none, 0, none)),
  (356, 23, 12, (250, 2, none, 0, none)),
  (359, 23, 12, (246, 1, none, 0, none)),
  (362, 23, 12, (247, 2, none, 0, none)),
  (365, 23, 12, (248, 2, none, 0, none)),
  (381, 23, 12, (281, 0, none, 0, none)),
  (384, 23, 12, (282, 2, none, 0, none)),
  (388, 23, 12, (283, 1, none, 0, none)),
  (391, 23, 12, (280, 4, none, 0, none)),
  (398, 23, 12, (271, 6, none, 0, none)),
  (405, 23, 12, (270, 6, none, 0, none)),
  (409, 23, 12, (269, 3, none, 0, none)),
  (416, 23, 12, (268, 2, none, 0, none)),
  (419, 23, 12, (273, 0, none, 0, none)),
  (422, 23, 12, (279, 4, none, 0, none)),
  (425, 23, 12, (274, 1, none, 0, none)),
  (428, 23, 12, (272, 3, none, 0, none)),
  (431, 23, 12, (276, 1, none, 0, none)),
  (434, 23, 12, (277, 3, none, 0, none)),
  (438, 23, 12, (278, 3, none, 0, none)),
  (441, 23, 12, (286, 3, none, 0, none)),
  (444, 23, 12, (261, 3, none, 0, none)),
  (447, 23, 12, (266, 1, none, 0, none)),
  (450, 23, 12, (267, 2, none, 0, none)),
  (453, 23, 12, (275, 2, none, 0, none))]
def kv_9 : List (Nat × Nat × Nat × (Nat × Nat × Option String × Nat × Option (MethodName × String × Option Nat))) := [(456, 23, 12, (260, 1, none, 0, none)),
  (459, 23, 12, (287, 1, none, 0, none)),
  (462, 23, 12, (290, 1, none, 0, none)),
  (465, 23, 12, (292, 2, none, 0, none)),
  (83, 2, 0, (22, 0, none, 0, none)),
  (100, 2, 0, (15, 1, none, 1, none)),
  (104, 2, 0, (16, 1, none, 1, none)),
  (195, 2, 0, (24, 0, none, 1, none)),
  (204, 2, 0, (41, 0, none, 1, none)),
  (208, 2, 0, (48, 2, none, 1, none)),
  (397, 2, 0, (49, 1, none, 1, none)),
  (549, 12, 0, (10, 0, none, 2, (some (⟨"java/lang/AbstractStringBuilder", "length", "()I"⟩, "java/lang/AbstractStringBuilder", (some 11))))),
  (552, 12, 0, (60, 0, none, 0, none)),
  (1047, 12, 0, (22, 0, none, 0, none)),
  (50, 10, 0, (39, 1, none, 0, none)),
  (54, 10, 0, (51, 1, none, 0, none)),
  (61, 10, 0, (57, 0, none, 0, none))]
def kv : List (Nat × Nat × Nat × (Nat × Nat × Option String × Nat × Option (MethodName × String × Option Nat))) := kv_0 ++ (kv_1 ++ (kv_2 ++ (kv_3 ++ (kv_4 ++ (kv_5 ++ (kv_6 ++ (kv_7 ++ (kv_8 ++ (kv_9)))))))))
def kna : List (Nat × Nat × Nat) := [(7, 15, 1), (13, 20, 1), (15, 15, 1), (15, 17, 1), (18, 18, 1), (19, 16, 1), (19, 20, 1), (20, 15, 1), (21, 17, 1), (22, 20, 0), (23, 6, 2), (23, 15, 1), (24, 18, 1), (25, 16, 0), (27, 6, 1), (27, 15, 1), (27, 18, 0), (28, 20, 2), (29, 16, 2), (30, 15, 2), (33, 16, 3), (33, 18, 2), (33, 19, 1), (34, 21, 0), (35, 4, 1), (35, 7, 0), (36, 15, 2), (37, 0, 0), (37, 6, 1), (37, 16, 0), (38, 21, 0), (39, 4, 1), (39, 18, 2), (39, 19, 1), (39, 21, 2), (40, 15, 1), (41, 6, 2), (42, 19, 0), (43, 4, 2), (43, 7, 2), (43, 15, 2), (43, 21, 1), (45, 0, 1), (46, 15, 2), (48, 7, 2), (49, 0, 1), (49, 15, 3), (49, 21, 3), (50, 10, 1), (52, 7, 0), (52, 19, 1), (53, 0, 1), (53, 15, 2), (53, 21, 1), (54, 10, 1), (55, 4, 0), (56, 19, 0), (57, 0, 1), (57, 15, 3), (60, 5, 0), (60, 19, 2), (61, 0, 1), (61, 10, 0), (63, 5, 0), (64, 22, 1), (65, 0, 1), (66, 4, 1), (67, 15, 2), (68, 22, 1), (69, 5, 3), (71, 15, 2), (72, 15, 0), (74, 19, 5), (75, 5, 4), (76, 0, 1), (76, 15, 0), (77, 4, 0), (77, 15, 1), (78, 22, 1), (79, 5, 2), (80, 15, 1), (81, 4, 1), (83, 2, 0), (86, 15, 1), (87, 15, 0), (89, 0, 0), (89, 5, 5), (90, 15, 0), (91, 22, 3), (92, 0, 0), (92, 4, 1), (93, 15, 0), (95, 4, 1), (96, 15, 1), (98, 4, 1), (99, 15, 1), (100, 2, 1), (100, 15, 0), (102, 4, 2), (103, 15, 0), (104, 2, 1), (105, 0, 1), (106, 15, 1), (106, 22, 2), (109, 4, 1), (109, 15, 1), (110, 22, 3), (112, 4, 2), (113, 15, 2), (113, 22, 3), (116, 0, 1), (116, 15, 2), (116, 22, 2), (119, 15, 1), (120, 4, 1), (122, 0, 2), (122, 15, 2), (123, 22, 0), (125, 15, 2), (126, 22, 3), (129, 15, 3), (130, 22, 4), (133, 15, 2), (134, 22, 1), (136, 15, 3), (138, 4, 1), (138, 22, 0), (142, 22, 3), (144, 4, 0), (148, 4, 1), (151, 4, 0), (156, 22, 2), (158, 23, 1), (165, 23, 0), (169, 23, 1), (173, 23, 0), (186, 23, 5), (190, 23, 1), (193, 23, 2), (195, 2, 0), (200, 23, 0), (204, 2, 0), (206, 23, 0), (208, 2, 2), (209, 23, 1), (219, 23, 1), (225, 23, 0), (232, 23, 1), (235, 23, 0), (238, 23, 0), (244, 23, 1), (247, 23, 0), (250, 23, 0), (256, 23, 2), (260, 23, 1), (263, 23, 0), (266, 23, 0), (269, 23, 0), (272, 23, 3), (291, 23, 1), (298, 23, 1), (301, 23, 2), (305, 23, 2), (308, 23, 4), (315, 23, 0), (318, 23, 1), (321, 23, 1), (327, 23, 1), (330, 23, 1), (333, 23, 2), (337, 23, 2), (341, 23, 1), (344, 23, 2), (350, 23, 2), (356, 23, 2), (359, 23, 1), (362, 23, 2), (365, 23, 2), (381, 23, 0), (384, 23, 2), (388, 23, 1), (391, 23, 4), (397, 2, 1), (398, 23, 6), (405, 23, 6), (409, 23, 3), (416, 23, 2), (419, 23, 0), (422, 23, 4), (425, 23, 1), (428, 23, 3), (431, 23, 1), (434, 23, 3), (438, 23, 3), (441, 23, 3), (444, 23, 3), (447, 23, 1), (450, 23, 2), (453, 23, 2), (456, 23, 1), (459, 23, 1), (462, 23, 1), (465, 23, 2), (549, 12, 0), (552, 12, 0), (1047, 12, 0)]
def kv_C (e : Nat × Nat × Nat × (Nat × Nat × Option String × Nat × Option (MethodName × String × Option Nat))) : String := ((kc_cl[e.2.2.1]?).map (fun q => q.1)).getD ""
def kv_w (e : Nat × Nat × Nat × (Nat × Nat × Option String × Nat × Option (MethodName × String × Option Nat))) : List Cond := .instanceMethod (ky_I e.2.2.2.1) :: (match e.2.2.2.2.2.2.2 with
  | none => k_ml e.2.1 e.1 (ky_I e.2.2.2.1) e.2.2.2.2.2.1 :: (match e.2.2.2.2.2.2.1 with
    | 0 => [.selects (kv_C e) (ky_I e.2.2.2.1) (ky_I e.2.2.2.1)]
    | _ => [.sameMethod (ky_I e.2.2.2.1).cls (ky_I e.2.2.2.1).cls (ky_I e.2.2.2.1).name (ky_I e.2.2.2.1).desc, .privateMethod (ky_I e.2.2.2.1)])
  | some z => [.methodLink (kn.getD e.2.1 "") e.1 z.1, .sameMethod z.1.cls z.2.1 z.1.name z.1.desc, .selects (kv_C e) z.1 (ky_I e.2.2.2.1), match z.2.2 with
    | none => .declares ⟨z.2.1, z.1.name, z.1.desc⟩
    | some _ => .instanceMethod ⟨z.2.1, z.1.name, z.1.desc⟩])
def kv_b (e : Nat × Nat × Nat × (Nat × Nat × Option String × Nat × Option (MethodName × String × Option Nat))) : Bool := decide (e.2.2.1 < kc_cl.length) && (decide (e.2.2.2.1 < km.length) && (decide (mj_lk2 kna e.1 e.2.1 = some e.2.2.2.2.1) && (match e.2.2.2.2.2.2.2 with
  | none => decide (mj_np (ky_I e.2.2.2.1).desc = some e.2.2.2.2.1) && (decide (e.2.2.2.2.2.2.1 = 0) || e.2.2.2.2.2.1.isNone)
  | some z => decide (mj_np z.1.desc = some e.2.2.2.2.1) && (decide (mj_noMH z.2.1) && (match z.2.2 with
    | none => true
    | some j => match km[j]? with
      | some q => decide (q.1.1 = ⟨z.2.1, z.1.name, z.1.desc⟩) && decide (q.1.2.2.2.2 = [])
      | none => false)))))
theorem kv_W0 : ∀ w ∈ kv_0.flatMap kv_w, w ∈ kt := kt_all [336, 335, 337, 346, 345, 347, 445, 444, 446, 709, 708, 710, 736, 734, 1, 745, 744, 746, 983, 982, 984, 1000, 998, 18, 987, 1090, 988, 1092, 1091, 1093, 1257, 1256, 1258, 1289, 1287, 34, 1302, 1300, 35, 1096, 1095, 1097, 1100, 1099, 1101, 1161, 1119, 1121, 1160, 1120, 1167, 1119, 1121, 1202, 1120, 1123, 1119, 1121, 1122, 1120, 1175, 1119, 1121, 1203, 1120, 1164, 1119, 1121, 1201, 1120, 1185, 1183, 25, 1157, 1196, 1158, 1252, 1251, 1253, 507, 1033, 508, 346, 1034, 347] (by decide +kernel) (by decide +kernel)
theorem kv_W1 : ∀ w ∈ kv_1.flatMap kv_w, w ∈ kt := kt_all [1127, 1125, 22, 1131, 1129, 23, 1153, 1152, 1154, 1157, 1156, 1158, 1141, 1139, 24, 346, 1060, 347, 1036, 1061, 1029, 1035, 1028, 1068, 1061, 1029, 1077, 1028, 1031, 1061, 1029, 1030, 1028, 1072, 1061, 1029, 1078, 1028, 1062, 1061, 1029, 1076, 1028, 346, 1038, 347, 1040, 1039, 1043, 1040, 1039, 1048, 1040, 1039, 1042, 1040, 1039, 1049, 1045, 1039, 1041, 1044, 1040, 1052, 1051, 1055, 1052, 1051, 1057, 1052, 1051, 1054, 1052, 1051, 1058, 1052, 1051, 1056, 1161, 1163, 1121, 1160, 1120, 1167, 1163, 1121, 1202, 1120, 1123, 1163, 1121, 1122, 1120] (by decide +kernel) (by decide +kernel)
theorem kv_W2 : ∀ w ∈ kv_2.flatMap kv_w, w ∈ kt := kt_all [1175, 1163, 1121, 1203, 1120, 1164, 1163, 1121, 1201, 1120, 1198, 1197, 1199, 1045, 1064, 1973, 1040, 1065, 1043, 1040, 1065, 1048, 1040, 1065, 1042, 1040, 1065, 1049, 1045, 1065, 1041, 1044, 1040, 1052, 1066, 1055, 1052, 1066, 1057, 1052, 1066, 1054, 1052, 1066, 1058, 1052, 1066, 1056, 346, 1067, 347, 1161, 1166, 1121, 1160, 1120, 1167, 1166, 1121, 1202, 1120, 1123, 1166, 1121, 1122, 1120, 1175, 1166, 1121, 1203, 1120, 1164, 1166, 1121, 1201, 1120, 1180, 1179, 1181, 750, 748, 2, 757, 755, 3, 772, 770, 6, 336, 752, 337] (by decide +kernel) (by decide +kernel)
theorem kv_W3 : ∀ w ∈ kv_3.flatMap kv_w, w ∈ kt := kt_all [709, 754, 710, 761, 759, 4, 765, 763, 5, 779, 777, 7, 978, 976, 17, 814, 812, 11, 783, 781, 8, 923, 921, 16, 839, 837, 13, 787, 785, 9, 810, 808, 10, 835, 833, 12, 843, 841, 14, 877, 875, 15, 507, 1070, 508, 346, 1071, 347, 1153, 1169, 1154, 1171, 1170, 1172, 1157, 1174, 1158, 346, 1074, 347, 507, 1075, 508, 1153, 1177, 1154, 1157, 1178, 1158, 987, 986, 988, 1171, 1260, 1172] (by decide +kernel) (by decide +kernel)
theorem kv_W4 : ∀ w ∈ kv_4.flatMap kv_w, w ∈ kt := kt_all [1263, 1261, 32, 1268, 1266, 33, 1023, 1021, 19, 346, 1025, 347, 1036, 1027, 1029, 1035, 1028, 1068, 1027, 1029, 1077, 1028, 1031, 1027, 1029, 1030, 1028, 1072, 1027, 1029, 1078, 1028, 1062, 1027, 1029, 1076, 1028, 1108, 1106, 20, 1112, 1110, 21, 1223, 1221, 27, 1241, 1239, 30, 1245, 1243, 31, 1096, 1114, 1097, 1116, 1115, 1117, 1248, 1247, 1249, 1218, 1217, 1219, 1205, 1204, 1206, 1209, 1208, 1210, 1227, 1226, 1228, 1214, 1212, 26, 1232, 1230, 28, 1236, 1234, 29, 1171, 1238, 1172] (by decide +kernel) (by decide +kernel)
theorem kv_W5 : ∀ w ∈ kv_5.flatMap kv_w, w ∈ kt := kt_all [731, 730, 732, 995, 994, 996, 1087, 1086, 1088, 1276, 1275, 1277, 1284, 1283, 1285, 1297, 1296, 1298, 1321, 1320, 1322, 1328, 1327, 1329, 1335, 1334, 1336, 1346, 1345, 1347, 1359, 1358, 1360, 1366, 1365, 1367, 1374, 1373, 1375, 332, 331, 333, 1579, 1578, 1580, 441, 440, 442, 1593, 1592, 1594, 705, 704, 706, 1597, 1596, 1598, 1601, 1600, 1602, 1575, 1574, 1576, 719, 718, 720, 1736, 1735, 1737, 1740, 1739, 1741, 1795, 1794, 1796] (by decide +kernel) (by decide +kernel)
theorem kv_W6 : ∀ w ∈ kv_6.flatMap kv_w, w ∈ kt := kt_all [723, 722, 724, 1909, 1908, 1910, 1791, 1790, 1792, 1913, 1912, 1914, 1921, 1920, 1922, 1929, 1928, 1930, 1933, 1932, 1934, 1937, 1936, 1938, 1941, 1940, 1942, 1947, 1946, 1948, 1951, 1950, 1952, 1955, 1954, 1956, 1590, 1588, 36, 1613, 1611, 38, 1617, 1615, 39, 1633, 1631, 43, 1661, 1659, 50, 1641, 1639, 45, 1629, 1627, 42, 1625, 1623, 41, 1665, 1663, 51, 1669, 1667, 52, 1695, 1693, 57, 1677, 1675, 54, 1653, 1651, 48] (by decide +kernel) (by decide +kernel)
theorem kv_W7 : ∀ w ∈ kv_7.flatMap kv_w, w ∈ kt := kt_all [1657, 1655, 49, 1673, 1671, 53, 1691, 1689, 56, 1649, 1647, 47, 1681, 1679, 55, 1637, 1635, 44, 1645, 1643, 46, 1621, 1619, 40, 1699, 1697, 58, 1703, 1701, 59, 1707, 1705, 60, 1719, 1717, 61, 1820, 1818, 80, 1808, 1806, 77, 1812, 1810, 78, 1816, 1814, 79, 1609, 1607, 37, 1729, 1727, 62, 1733, 1731, 63, 1765, 1763, 69, 1757, 1755, 67, 1773, 1771, 71, 1777, 1775, 72, 1781, 1779, 73, 1785, 1783, 74] (by decide +kernel) (by decide +kernel)
theorem kv_W8 : ∀ w ∈ kv_8.flatMap kv_w, w ∈ kt := kt_all [1769, 1767, 70, 1761, 1759, 68, 1745, 1743, 64, 1749, 1747, 65, 1753, 1751, 66, 1884, 1882, 96, 1888, 1886, 97, 1892, 1890, 98, 1880, 1878, 95, 1844, 1842, 86, 1840, 1838, 85, 1836, 1834, 84, 1832, 1830, 83, 1852, 1850, 88, 1876, 1874, 94, 1856, 1854, 89, 1848, 1846, 87, 1864, 1862, 91, 1868, 1866, 92, 1872, 1870, 93, 1902, 1900, 99, 1804, 1802, 76, 1824, 1822, 81, 1828, 1826, 82, 1860, 1858, 90] (by decide +kernel) (by decide +kernel)
theorem kv_W9 : ∀ w ∈ kv_9.flatMap kv_w, w ∈ kt := kt_all [1800, 1798, 75, 1906, 1904, 100, 1918, 1916, 101, 1926, 1924, 102, 388, 387, 390, 354, 352, 1961, 353, 358, 356, 1962, 357, 397, 395, 1963, 396, 468, 466, 1966, 467, 493, 491, 1967, 492, 497, 495, 1968, 496, 336, 549, 1959, 1970, 340, 545, 544, 547, 388, 550, 390, 460, 607, 461, 507, 605, 508, 532, 608, 533] (by decide +kernel) (by decide +kernel)
theorem kv_W : ∀ w ∈ kv.flatMap kv_w, w ∈ kt := kt_app kv_W0 (kt_app kv_W1 (kt_app kv_W2 (kt_app kv_W3 (kt_app kv_W4 (kt_app kv_W5 (kt_app kv_W6 (kt_app kv_W7 (kt_app kv_W8 kv_W9))))))))
theorem kv_B0 : ∀ e ∈ kv_0, kv_b e = true := by decide +kernel
theorem kv_B1 : ∀ e ∈ kv_1, kv_b e = true := by decide +kernel
theorem kv_B2 : ∀ e ∈ kv_2, kv_b e = true := by decide +kernel
theorem kv_B3 : ∀ e ∈ kv_3, kv_b e = true := by decide +kernel
theorem kv_B4 : ∀ e ∈ kv_4, kv_b e = true := by decide +kernel
theorem kv_B5 : ∀ e ∈ kv_5, kv_b e = true := by decide +kernel
theorem kv_B6 : ∀ e ∈ kv_6, kv_b e = true := by decide +kernel
theorem kv_B7 : ∀ e ∈ kv_7, kv_b e = true := by decide +kernel
theorem kv_B8 : ∀ e ∈ kv_8, kv_b e = true := by decide +kernel
theorem kv_B9 : ∀ e ∈ kv_9, kv_b e = true := by decide +kernel
theorem kv_B : ∀ e ∈ kv, kv_b e = true := kb_app kv_B0 (kb_app kv_B1 (kb_app kv_B2 (kb_app kv_B3 (kb_app kv_B4 (kb_app kv_B5 (kb_app kv_B6 (kb_app kv_B7 (kb_app kv_B8 kv_B9))))))))
def kpr : List (Nat × Nat × Nat) := [(55, 7, 0), (31, 6, 0), (212, 12, 0), (150, 10, 0), (3, 0, 1), (3, 5, 1), (3, 17, 1), (3, 4, 1), (3, 7, 1), (3, 22, 1), (3, 6, 1), (1, 23, 1), (3, 2, 1), (1, 12, 1), (311, 10, 5), (317, 10, 3), (320, 10, 4), (35, 5, 6), (310, 10, 9), (316, 10, 7), (319, 10, 8)]
def k_oc : MethodName := ⟨"java/lang/Object", "clone", "()Ljava/lang/Object;"⟩
def k_cw (own idx : Nat) (ad : String) : List Cond := [.methodLink (kn.getD own "") idx ⟨ad, "clone", "()Ljava/lang/Object;"⟩, .sameMethod ad "java/lang/Object" "clone" "()Ljava/lang/Object;", .selects ad ⟨ad, "clone", "()Ljava/lang/Object;"⟩ k_oc, .castable ad "java/lang/Cloneable"]
def kpr_w (e : Nat × Nat × Nat) : List Cond := match e.2.2 with
  | 0 => [.methodLink (kn.getD e.2.1 "") e.1 arraycopyName]
  | 1 => [.methodLink (kn.getD e.2.1 "") e.1 Lib.objectInit]
  | 3 => [.classLink (kn.getD e.2.1 "") e.1 "[I"]
  | 4 => [.classLink (kn.getD e.2.1 "") e.1 "[J"]
  | 5 => [.classLink (kn.getD e.2.1 "") e.1 "[B"]
  | 6 => [.classLink (kn.getD e.2.1 "") e.1 "[[J"]
  | 7 => k_cw e.2.1 e.1 "[I"
  | 8 => k_cw e.2.1 e.1 "[J"
  | 9 => k_cw e.2.1 e.1 "[B"
  | _ => []
theorem kpr_W : ∀ w ∈ kpr.flatMap kpr_w, w ∈ kt := kt_all [1265, 1216, 504, 384, 141, 216, 797, 184, 292, 930, 224, 1385, 152, 543, 380, 888, 1151, 217, 374, 375, 378, 379, 884, 885, 886, 887, 1147, 1148, 1149, 1150] (by decide +kernel) (by decide +kernel)
def k_gl : List Cond := [.native arraycopyName, .static arraycopyName, .initialized "java/lang/System", .native k_oc, .instanceMethod k_oc, .instanceMethod Lib.objectInit, .code Lib.objectInit ⟨#[0xb1]⟩ 1 none, .arrayOver (.array .long), .arrayClass .long]
theorem k_glW : ∀ w ∈ k_gl, w ∈ kt := kt_all [386, 385, 117, 376, 377, 142, 143, 218, 240] (by decide +kernel) (by decide +kernel)
/-- a throw: method, pc, class's entry, class's number, constructor's entry, constant, text -/
def kxs : List (Nat × Nat × Nat × Nat × Nat × Nat × String) := [(79, 7, 166, 13, 170, 171, "there is no such slot"), (87, 9, 70, 13, 74, 72, "the text is no program"), (121, 13, 177, 14, 181, 179, "the slot has no program"), (181, 13, 177, 14, 181, 182, "the slot has no result"), (184, 18, 149, 15, 153, 184, "there is no such outcome"), (191, 4, 166, 13, 170, 168, "an argument is not allowed"), (198, 23, 149, 15, 153, 151, "there is no such way")]
