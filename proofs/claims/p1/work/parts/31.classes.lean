def kc_T0 : u_T := fun k => match k with
  | 0 => ("java/lang/AbstractStringBuilder", "value", "[B", false)
  | 1 => ("java/lang/AbstractStringBuilder", "coder", "B", false)
  | 2 => ("java/lang/AbstractStringBuilder", "maybeLatin1", "Z", false)
  | _ => ("java/lang/AbstractStringBuilder", "count", "I", false)
def kc_y0 : Nat → FieldType := fun k => match k with
  | 0 => (.array .byte)
  | 1 => .byte
  | 2 => .boolean
  | _ => .int
def kc_T1 : u_T := fun k => match k with
  | 0 => ("DiceOdds$Parser", "text", "[C", true)
  | 1 => ("DiceOdds$Parser", "faces", "[I", true)
  | 2 => ("DiceOdds$Parser", "length", "I", false)
  | 3 => ("DiceOdds$Parser", "at", "I", false)
  | 4 => ("DiceOdds$Parser", "statements", "I", false)
  | 5 => ("DiceOdds$Parser", "leaves", "I", false)
  | _ => ("DiceOdds$Parser", "wrongPlace", "I", false)
def kc_y1 : Nat → FieldType := fun k => match k with
  | 0 => (.array .char)
  | 1 => (.array .int)
  | 2 => .int
  | 3 => .int
  | 4 => .int
  | 5 => .int
  | _ => .int
def kc_T2 : u_T := fun k => match k with
  | 0 => ("DiceOdds$States", "value", "[I", false)
  | 1 => ("DiceOdds$States", "ways", "[J", false)
  | _ => ("DiceOdds$States", "size", "I", false)
def kc_y2 : Nat → FieldType := fun k => match k with
  | 0 => (.array .int)
  | 1 => (.array .long)
  | _ => .int
def kc_T3 : u_T := fun k => match k with
  | 0 => ("DiceOdds$Bench", "value", "[I", true)
  | 1 => ("DiceOdds$Bench", "ways", "[J", true)
  | 2 => ("DiceOdds$Bench", "start", "[I", true)
  | 3 => ("DiceOdds$Bench", "spreads", "I", false)
  | 4 => ("DiceOdds$Bench", "given", "[J", true)
  | 5 => ("DiceOdds$Bench", "found", "[I", true)
  | 6 => ("DiceOdds$Bench", "finds", "I", false)
  | 7 => ("DiceOdds$Bench", "tally", "[[J", true)
  | 8 => ("DiceOdds$Bench", "begun", "LDiceOdds$States;", true)
  | 9 => ("DiceOdds$Bench", "after", "LDiceOdds$States;", true)
  | 10 => ("DiceOdds$Bench", "yes", "[LDiceOdds$States;", true)
  | 11 => ("DiceOdds$Bench", "no", "[LDiceOdds$States;", true)
  | _ => ("DiceOdds$Bench", "mostStates", "I", false)
def kc_y3 : Nat → FieldType := fun k => match k with
  | 0 => (.array .int)
  | 1 => (.array .long)
  | 2 => (.array .int)
  | 3 => .int
  | 4 => (.array .long)
  | 5 => (.array .int)
  | 6 => .int
  | 7 => (.array (.array .long))
  | 8 => (.object "DiceOdds$States")
  | 9 => (.object "DiceOdds$States")
  | 10 => (.array (.object "DiceOdds$States"))
  | 11 => (.array (.object "DiceOdds$States"))
  | _ => .int
def kc_T4 : u_T := fun k => match k with
  | 0 => ("DiceOdds$Slot", "outcome", "[I", true)
  | 1 => ("DiceOdds$Slot", "ways", "[J", true)
  | 2 => ("DiceOdds$Slot", "hasProgram", "Z", false)
  | 3 => ("DiceOdds$Slot", "first", "LDiceOdds$Statement;", false)
  | 4 => ("DiceOdds$Slot", "outcomes", "I", false)
  | _ => ("DiceOdds$Slot", "total", "J", false)
def kc_y4 : Nat → FieldType := fun k => match k with
  | 0 => (.array .int)
  | 1 => (.array .long)
  | 2 => .boolean
  | 3 => (.object "DiceOdds$Statement")
  | 4 => .int
  | _ => .long
def kc_T5 : u_T := fun k => match k with
  | 0 => ("DiceOdds", "text", "Ljava/lang/StringBuilder;", true)
  | 1 => ("DiceOdds", "slots", "[LDiceOdds$Slot;", true)
  | 2 => ("DiceOdds", "parser", "LDiceOdds$Parser;", true)
  | _ => ("DiceOdds", "bench", "LDiceOdds$Bench;", true)
def kc_y5 : Nat → FieldType := fun k => match k with
  | 0 => (.object "java/lang/StringBuilder")
  | 1 => (.array (.object "DiceOdds$Slot"))
  | 2 => (.object "DiceOdds$Parser")
  | _ => (.object "DiceOdds$Bench")
def kc_T6 : u_T := fun k => match k with
  | 0 => ("DiceOdds$Minus", "operand", "LDiceOdds$Expression;", true)
  | _ => ("DiceOdds$Expression", "falls", "J", true)
def kc_y6 : Nat → FieldType := fun k => match k with
  | 0 => (.object "DiceOdds$Expression")
  | _ => .long
def kc_T7 : u_T := fun k => match k with
  | 0 => ("DiceOdds$Plain", "name", "I", true)
  | 1 => ("DiceOdds$Plain", "number", "I", true)
  | _ => ("DiceOdds$Expression", "falls", "J", true)
def kc_y7 : Nat → FieldType := fun k => match k with
  | 0 => .int
  | 1 => .int
  | _ => .long
def kc_T8 : u_T := fun k => match k with
  | 0 => ("DiceOdds$Dice", "count", "I", true)
  | 1 => ("DiceOdds$Dice", "sides", "I", true)
  | 2 => ("DiceOdds$Dice", "pick", "C", true)
  | 3 => ("DiceOdds$Dice", "picked", "I", true)
  | 4 => ("DiceOdds$Dice", "waysOfSums", "[J", false)
  | _ => ("DiceOdds$Expression", "falls", "J", true)
def kc_y8 : Nat → FieldType := fun k => match k with
  | 0 => .int
  | 1 => .int
  | 2 => .char
  | 3 => .int
  | 4 => (.array .long)
  | _ => .long
def kc_T9 : u_T := fun k => match k with
  | 0 => ("DiceOdds$Row", "faces", "[I", true)
  | _ => ("DiceOdds$Expression", "falls", "J", true)
def kc_y9 : Nat → FieldType := fun k => match k with
  | 0 => (.array .int)
  | _ => .long
def kc_T10 : u_T := fun k => match k with
  | 0 => ("DiceOdds$Operation", "sign", "C", true)
  | 1 => ("DiceOdds$Operation", "first", "LDiceOdds$Expression;", true)
  | 2 => ("DiceOdds$Operation", "second", "LDiceOdds$Expression;", true)
  | _ => ("DiceOdds$Expression", "falls", "J", true)
def kc_y10 : Nat → FieldType := fun k => match k with
  | 0 => .char
  | 1 => (.object "DiceOdds$Expression")
  | 2 => (.object "DiceOdds$Expression")
  | _ => .long
def kc_T11 : u_T := fun k => match k with
  | 0 => ("DiceOdds$Statement", "sign", "C", true)
  | 1 => ("DiceOdds$Statement", "expression", "LDiceOdds$Expression;", true)
  | 2 => ("DiceOdds$Statement", "times", "I", true)
  | 3 => ("DiceOdds$Statement", "first", "LDiceOdds$Statement;", true)
  | 4 => ("DiceOdds$Statement", "second", "LDiceOdds$Statement;", true)
  | 5 => ("DiceOdds$Statement", "falls", "J", true)
  | 6 => ("DiceOdds$Statement", "firstScale", "J", true)
  | 7 => ("DiceOdds$Statement", "secondScale", "J", true)
  | _ => ("DiceOdds$Statement", "next", "LDiceOdds$Statement;", false)
def kc_y11 : Nat → FieldType := fun k => match k with
  | 0 => .char
  | 1 => (.object "DiceOdds$Expression")
  | 2 => .int
  | 3 => (.object "DiceOdds$Statement")
  | 4 => (.object "DiceOdds$Statement")
  | 5 => .long
  | 6 => .long
  | 7 => .long
  | _ => (.object "DiceOdds$Statement")
def kc_T12 : u_T := fun k => match k with
  | 0 => ("DiceOddsModel", "thrown", "I", false)
  | 1 => ("DiceOddsModel", "text", "[I", true)
  | 2 => ("DiceOddsModel", "length", "I", false)
  | 3 => ("DiceOddsModel", "wrong", "I", false)
  | 4 => ("DiceOddsModel", "is", "[Z", true)
  | 5 => ("DiceOddsModel", "statements", "[I", true)
  | 6 => ("DiceOddsModel", "kind", "[I", true)
  | 7 => ("DiceOddsModel", "about", "[I", true)
  | 8 => ("DiceOddsModel", "from", "[I", true)
  | 9 => ("DiceOddsModel", "to", "[I", true)
  | 10 => ("DiceOddsModel", "middle", "[I", true)
  | 11 => ("DiceOddsModel", "end", "[I", true)
  | 12 => ("DiceOddsModel", "factors", "[J", true)
  | 13 => ("DiceOddsModel", "nodeKind", "[I", true)
  | 14 => ("DiceOddsModel", "nodeA", "[I", true)
  | 15 => ("DiceOddsModel", "nodeB", "[I", true)
  | 16 => ("DiceOddsModel", "nodeC", "[I", true)
  | 17 => ("DiceOddsModel", "nodeD", "[I", true)
  | 18 => ("DiceOddsModel", "left", "[I", true)
  | 19 => ("DiceOddsModel", "right", "[I", true)
  | 20 => ("DiceOddsModel", "faces", "[I", true)
  | 21 => ("DiceOddsModel", "dice", "[J", true)
  | 22 => ("DiceOddsModel", "at", "I", false)
  | 23 => ("DiceOddsModel", "nodes", "I", false)
  | 24 => ("DiceOddsModel", "items", "I", false)
  | 25 => ("DiceOddsModel", "faceCount", "I", false)
  | 26 => ("DiceOddsModel", "value", "I", false)
  | 27 => ("DiceOddsModel", "signs", "[I", true)
  | 28 => ("DiceOddsModel", "compared", "[Z", true)
  | 29 => ("DiceOddsModel", "open", "I", false)
  | 30 => ("DiceOddsModel", "deep", "I", false)
  | 31 => ("DiceOddsModel", "seen", "Z", false)
  | 32 => ("DiceOddsModel", "done", "[I", true)
  | 33 => ("DiceOddsModel", "dones", "I", false)
  | 34 => ("DiceOddsModel", "blocks", "[I", true)
  | 35 => ("DiceOddsModel", "second", "[Z", true)
  | 36 => ("DiceOddsModel", "depth", "I", false)
  | 37 => ("DiceOddsModel", "fallen", "[I", true)
  | 38 => ("DiceOddsModel", "now", "[J", true)
  | 39 => ("DiceOddsModel", "tasks", "[I", true)
  | 40 => ("DiceOddsModel", "waits", "I", false)
  | 41 => ("DiceOddsModel", "values", "[I", true)
  | 42 => ("DiceOddsModel", "times", "[J", true)
  | 43 => ("DiceOddsModel", "begins", "[I", true)
  | 44 => ("DiceOddsModel", "lists", "I", false)
  | 45 => ("DiceOddsModel", "size", "I", false)
  | 46 => ("DiceOddsModel", "sums", "[J", true)
  | 47 => ("DiceOddsModel", "stateValue", "[I", true)
  | 48 => ("DiceOddsModel", "stateWays", "[J", true)
  | 49 => ("DiceOddsModel", "stateCount", "[I", true)
  | 50 => ("DiceOddsModel", "tooMany", "Z", false)
  | 51 => ("DiceOddsModel", "verdict", "I", false)
  | 52 => ("DiceOddsModel", "most", "I", false)
  | 53 => ("DiceOddsModel", "frames", "[I", true)
  | 54 => ("DiceOddsModel", "frameSet", "[I", true)
  | 55 => ("DiceOddsModel", "frameLeft", "[I", true)
  | 56 => ("DiceOddsModel", "framed", "I", false)
  | 57 => ("DiceOddsModel", "has", "[Z", true)
  | 58 => ("DiceOddsModel", "count", "[I", true)
  | 59 => ("DiceOddsModel", "outcome", "[I", true)
  | 60 => ("DiceOddsModel", "way", "[J", true)
  | _ => ("DiceOddsModel", "total", "[J", true)
def kc_y12 : Nat → FieldType := fun k => match k with
  | 0 => .int
  | 1 => (.array .int)
  | 2 => .int
  | 3 => .int
  | 4 => (.array .boolean)
  | 5 => (.array .int)
  | 6 => (.array .int)
  | 7 => (.array .int)
  | 8 => (.array .int)
  | 9 => (.array .int)
  | 10 => (.array .int)
  | 11 => (.array .int)
  | 12 => (.array .long)
  | 13 => (.array .int)
  | 14 => (.array .int)
  | 15 => (.array .int)
  | 16 => (.array .int)
  | 17 => (.array .int)
  | 18 => (.array .int)
  | 19 => (.array .int)
  | 20 => (.array .int)
  | 21 => (.array .long)
  | 22 => .int
  | 23 => .int
  | 24 => .int
  | 25 => .int
  | 26 => .int
  | 27 => (.array .int)
  | 28 => (.array .boolean)
  | 29 => .int
  | 30 => .int
  | 31 => .boolean
  | 32 => (.array .int)
  | 33 => .int
  | 34 => (.array .int)
  | 35 => (.array .boolean)
  | 36 => .int
  | 37 => (.array .int)
  | 38 => (.array .long)
  | 39 => (.array .int)
  | 40 => .int
  | 41 => (.array .int)
  | 42 => (.array .long)
  | 43 => (.array .int)
  | 44 => .int
  | 45 => .int
  | 46 => (.array .long)
  | 47 => (.array .int)
  | 48 => (.array .long)
  | 49 => (.array .int)
  | 50 => .boolean
  | 51 => .int
  | 52 => .int
  | 53 => (.array .int)
  | 54 => (.array .int)
  | 55 => (.array .int)
  | 56 => .int
  | 57 => (.array .boolean)
  | 58 => (.array .int)
  | 59 => (.array .int)
  | 60 => (.array .long)
  | _ => (.array .long)
def kc_T13 : u_T := fun _ => ("", "", "", false)
def kc_y13 : Nat → FieldType := fun _ => .int
def kc_T14 : u_T := fun _ => ("", "", "", false)
def kc_y14 : Nat → FieldType := fun _ => .int
def kc_T15 : u_T := fun _ => ("", "", "", false)
def kc_y15 : Nat → FieldType := fun _ => .int
abbrev kc_cl : List vw_C := [("java/lang/StringBuilder", kc_T0, 4), ("DiceOdds$Parser", kc_T1, 7), ("DiceOdds$States", kc_T2, 3), ("DiceOdds$Bench", kc_T3, 13), ("DiceOdds$Slot", kc_T4, 6), ("DiceOdds", kc_T5, 4), ("DiceOdds$Minus", kc_T6, 2), ("DiceOdds$Plain", kc_T7, 3), ("DiceOdds$Dice", kc_T8, 6), ("DiceOdds$Row", kc_T9, 2), ("DiceOdds$Operation", kc_T10, 4), ("DiceOdds$Statement", kc_T11, 9), ("DiceOddsModel", kc_T12, 62), ("java/lang/IllegalArgumentException", kc_T13, 0), ("java/lang/IllegalStateException", kc_T14, 0), ("java/lang/IndexOutOfBoundsException", kc_T15, 0)]
/-- the words: the law's own code, and what later states keep -/
def kt : List Cond := .code x code maxLocals ret :: lw_tbl.filter mj_kpb
theorem kt_of {w : Cond} (h : w ∈ lw_tbl) (h2 : mj_kpb w = true) : w ∈ kt := List.mem_cons_of_mem _ (List.mem_filter.mpr ⟨h, h2⟩)
theorem kt_kp : ∀ w ∈ kt, mj_kp w := by
  intro w hw
  rcases List.mem_cons.mp hw with rfl | hw
  · exact mj_kp_of rfl
  · exact mj_kp_of (List.mem_filter.mp hw).2
theorem kt_all {ws : List Cond} (ps : List Nat) (hp : ws = ps.filterMap (fun i => lw_tbl[i]?)) (hb : ws.all mj_kpb = true) : ∀ w ∈ ws, w ∈ kt := by
  intro w hw
  have h1 := List.all_eq_true.mp hb w hw
  rw [hp] at hw
  obtain ⟨i, -, hi⟩ := List.mem_filterMap.mp hw
  exact kt_of (List.mem_of_getElem? hi) h1
theorem kc_w0 : ∀ w ∈ u_ws "java/lang/StringBuilder" kc_T0 4, w ∈ kt := fun w h => kt_of ((by decide +kernel : ∀ w ∈ u_ws "java/lang/StringBuilder" kc_T0 4, w ∈ lw_tbl) w h) ((by decide +kernel : ∀ w ∈ u_ws "java/lang/StringBuilder" kc_T0 4, mj_kpb w = true) w h)
theorem kc_t0 : ∀ k, k < 4 → parseFieldDescriptor (kc_T0 k).2.2.1 = some (kc_y0 k) := by decide +kernel
theorem kc_n0 : ∀ a, a < 4 → ∀ b, b < 4 → a ≠ b → (kc_T0 a).2.1 ≠ (kc_T0 b).2.1 := by decide +kernel
theorem kc_w1 : ∀ w ∈ u_ws "DiceOdds$Parser" kc_T1 7, w ∈ kt := fun w h => kt_of ((by decide +kernel : ∀ w ∈ u_ws "DiceOdds$Parser" kc_T1 7, w ∈ lw_tbl) w h) ((by decide +kernel : ∀ w ∈ u_ws "DiceOdds$Parser" kc_T1 7, mj_kpb w = true) w h)
theorem kc_t1 : ∀ k, k < 7 → parseFieldDescriptor (kc_T1 k).2.2.1 = some (kc_y1 k) := by decide +kernel
theorem kc_n1 : ∀ a, a < 7 → ∀ b, b < 7 → a ≠ b → (kc_T1 a).2.1 ≠ (kc_T1 b).2.1 := by decide +kernel
theorem kc_w2 : ∀ w ∈ u_ws "DiceOdds$States" kc_T2 3, w ∈ kt := fun w h => kt_of ((by decide +kernel : ∀ w ∈ u_ws "DiceOdds$States" kc_T2 3, w ∈ lw_tbl) w h) ((by decide +kernel : ∀ w ∈ u_ws "DiceOdds$States" kc_T2 3, mj_kpb w = true) w h)
theorem kc_t2 : ∀ k, k < 3 → parseFieldDescriptor (kc_T2 k).2.2.1 = some (kc_y2 k) := by decide +kernel
theorem kc_n2 : ∀ a, a < 3 → ∀ b, b < 3 → a ≠ b → (kc_T2 a).2.1 ≠ (kc_T2 b).2.1 := by decide +kernel
theorem kc_w3 : ∀ w ∈ u_ws "DiceOdds$Bench" kc_T3 13, w ∈ kt := fun w h => kt_of ((by decide +kernel : ∀ w ∈ u_ws "DiceOdds$Bench" kc_T3 13, w ∈ lw_tbl) w h) ((by decide +kernel : ∀ w ∈ u_ws "DiceOdds$Bench" kc_T3 13, mj_kpb w = true) w h)
theorem kc_t3 : ∀ k, k < 13 → parseFieldDescriptor (kc_T3 k).2.2.1 = some (kc_y3 k) := by decide +kernel
theorem kc_n3 : ∀ a, a < 13 → ∀ b, b < 13 → a ≠ b → (kc_T3 a).2.1 ≠ (kc_T3 b).2.1 := by decide +kernel
theorem kc_w4 : ∀ w ∈ u_ws "DiceOdds$Slot" kc_T4 6, w ∈ kt := fun w h => kt_of ((by decide +kernel : ∀ w ∈ u_ws "DiceOdds$Slot" kc_T4 6, w ∈ lw_tbl) w h) ((by decide +kernel : ∀ w ∈ u_ws "DiceOdds$Slot" kc_T4 6, mj_kpb w = true) w h)
theorem kc_t4 : ∀ k, k < 6 → parseFieldDescriptor (kc_T4 k).2.2.1 = some (kc_y4 k) := by decide +kernel
theorem kc_n4 : ∀ a, a < 6 → ∀ b, b < 6 → a ≠ b → (kc_T4 a).2.1 ≠ (kc_T4 b).2.1 := by decide +kernel
theorem kc_w5 : ∀ w ∈ u_ws "DiceOdds" kc_T5 4, w ∈ kt := fun w h => kt_of ((by decide +kernel : ∀ w ∈ u_ws "DiceOdds" kc_T5 4, w ∈ lw_tbl) w h) ((by decide +kernel : ∀ w ∈ u_ws "DiceOdds" kc_T5 4, mj_kpb w = true) w h)
theorem kc_t5 : ∀ k, k < 4 → parseFieldDescriptor (kc_T5 k).2.2.1 = some (kc_y5 k) := by decide +kernel
theorem kc_n5 : ∀ a, a < 4 → ∀ b, b < 4 → a ≠ b → (kc_T5 a).2.1 ≠ (kc_T5 b).2.1 := by decide +kernel
theorem kc_w6 : ∀ w ∈ u_ws "DiceOdds$Minus" kc_T6 2, w ∈ kt := fun w h => kt_of ((by decide +kernel : ∀ w ∈ u_ws "DiceOdds$Minus" kc_T6 2, w ∈ lw_tbl) w h) ((by decide +kernel : ∀ w ∈ u_ws "DiceOdds$Minus" kc_T6 2, mj_kpb w = true) w h)
theorem kc_t6 : ∀ k, k < 2 → parseFieldDescriptor (kc_T6 k).2.2.1 = some (kc_y6 k) := by decide +kernel
theorem kc_n6 : ∀ a, a < 2 → ∀ b, b < 2 → a ≠ b → (kc_T6 a).2.1 ≠ (kc_T6 b).2.1 := by decide +kernel
theorem kc_w7 : ∀ w ∈ u_ws "DiceOdds$Plain" kc_T7 3, w ∈ kt := fun w h => kt_of ((by decide +kernel : ∀ w ∈ u_ws "DiceOdds$Plain" kc_T7 3, w ∈ lw_tbl) w h) ((by decide +kernel : ∀ w ∈ u_ws "DiceOdds$Plain" kc_T7 3, mj_kpb w = true) w h)
theorem kc_t7 : ∀ k, k < 3 → parseFieldDescriptor (kc_T7 k).2.2.1 = some (kc_y7 k) := by decide +kernel
theorem kc_n7 : ∀ a, a < 3 → ∀ b, b < 3 → a ≠ b → (kc_T7 a).2.1 ≠ (kc_T7 b).2.1 := by decide +kernel
theorem kc_w8 : ∀ w ∈ u_ws "DiceOdds$Dice" kc_T8 6, w ∈ kt := fun w h => kt_of ((by decide +kernel : ∀ w ∈ u_ws "DiceOdds$Dice" kc_T8 6, w ∈ lw_tbl) w h) ((by decide +kernel : ∀ w ∈ u_ws "DiceOdds$Dice" kc_T8 6, mj_kpb w = true) w h)
theorem kc_t8 : ∀ k, k < 6 → parseFieldDescriptor (kc_T8 k).2.2.1 = some (kc_y8 k) := by decide +kernel
theorem kc_n8 : ∀ a, a < 6 → ∀ b, b < 6 → a ≠ b → (kc_T8 a).2.1 ≠ (kc_T8 b).2.1 := by decide +kernel
theorem kc_w9 : ∀ w ∈ u_ws "DiceOdds$Row" kc_T9 2, w ∈ kt := fun w h => kt_of ((by decide +kernel : ∀ w ∈ u_ws "DiceOdds$Row" kc_T9 2, w ∈ lw_tbl) w h) ((by decide +kernel : ∀ w ∈ u_ws "DiceOdds$Row" kc_T9 2, mj_kpb w = true) w h)
theorem kc_t9 : ∀ k, k < 2 → parseFieldDescriptor (kc_T9 k).2.2.1 = some (kc_y9 k) := by decide +kernel
theorem kc_n9 : ∀ a, a < 2 → ∀ b, b < 2 → a ≠ b → (kc_T9 a).2.1 ≠ (kc_T9 b).2.1 := by decide +kernel
theorem kc_w10 : ∀ w ∈ u_ws "DiceOdds$Operation" kc_T10 4, w ∈ kt := fun w h => kt_of ((by decide +kernel : ∀ w ∈ u_ws "DiceOdds$Operation" kc_T10 4, w ∈ lw_tbl) w h) ((by decide +kernel : ∀ w ∈ u_ws "DiceOdds$Operation" kc_T10 4, mj_kpb w = true) w h)
theorem kc_t10 : ∀ k, k < 4 → parseFieldDescriptor (kc_T10 k).2.2.1 = some (kc_y10 k) := by decide +kernel
theorem kc_n10 : ∀ a, a < 4 → ∀ b, b < 4 → a ≠ b → (kc_T10 a).2.1 ≠ (kc_T10 b).2.1 := by decide +kernel
theorem kc_w11 : ∀ w ∈ u_ws "DiceOdds$Statement" kc_T11 9, w ∈ kt := fun w h => kt_of ((by decide +kernel : ∀ w ∈ u_ws "DiceOdds$Statement" kc_T11 9, w ∈ lw_tbl) w h) ((by decide +kernel : ∀ w ∈ u_ws "DiceOdds$Statement" kc_T11 9, mj_kpb w = true) w h)
theorem kc_t11 : ∀ k, k < 9 → parseFieldDescriptor (kc_T11 k).2.2.1 = some (kc_y11 k) := by decide +kernel
theorem kc_n11 : ∀ a, a < 9 → ∀ b, b < 9 → a ≠ b → (kc_T11 a).2.1 ≠ (kc_T11 b).2.1 := by decide +kernel
theorem kc_w12 : ∀ w ∈ u_ws "DiceOddsModel" kc_T12 62, w ∈ kt := fun w h => kt_of ((by decide +kernel : ∀ w ∈ u_ws "DiceOddsModel" kc_T12 62, w ∈ lw_tbl) w h) ((by decide +kernel : ∀ w ∈ u_ws "DiceOddsModel" kc_T12 62, mj_kpb w = true) w h)
theorem kc_t12 : ∀ k, k < 62 → parseFieldDescriptor (kc_T12 k).2.2.1 = some (kc_y12 k) := by decide +kernel
theorem kc_n12 : ∀ a, a < 62 → ∀ b, b < 62 → a ≠ b → (kc_T12 a).2.1 ≠ (kc_T12 b).2.1 := by decide +kernel
theorem kc_w13 : ∀ w ∈ u_ws "java/lang/IllegalArgumentException" kc_T13 0, w ∈ kt := fun w h => kt_of ((by decide +kernel : ∀ w ∈ u_ws "java/lang/IllegalArgumentException" kc_T13 0, w ∈ lw_tbl) w h) ((by decide +kernel : ∀ w ∈ u_ws "java/lang/IllegalArgumentException" kc_T13 0, mj_kpb w = true) w h)
theorem kc_t13 : ∀ k, k < 0 → parseFieldDescriptor (kc_T13 k).2.2.1 = some (kc_y13 k) := by decide +kernel
theorem kc_n13 : ∀ a, a < 0 → ∀ b, b < 0 → a ≠ b → (kc_T13 a).2.1 ≠ (kc_T13 b).2.1 := by decide +kernel
theorem kc_w14 : ∀ w ∈ u_ws "java/lang/IllegalStateException" kc_T14 0, w ∈ kt := fun w h => kt_of ((by decide +kernel : ∀ w ∈ u_ws "java/lang/IllegalStateException" kc_T14 0, w ∈ lw_tbl) w h) ((by decide +kernel : ∀ w ∈ u_ws "java/lang/IllegalStateException" kc_T14 0, mj_kpb w = true) w h)
theorem kc_t14 : ∀ k, k < 0 → parseFieldDescriptor (kc_T14 k).2.2.1 = some (kc_y14 k) := by decide +kernel
theorem kc_n14 : ∀ a, a < 0 → ∀ b, b < 0 → a ≠ b → (kc_T14 a).2.1 ≠ (kc_T14 b).2.1 := by decide +kernel
theorem kc_w15 : ∀ w ∈ u_ws "java/lang/IndexOutOfBoundsException" kc_T15 0, w ∈ kt := fun w h => kt_of ((by decide +kernel : ∀ w ∈ u_ws "java/lang/IndexOutOfBoundsException" kc_T15 0, w ∈ lw_tbl) w h) ((by decide +kernel : ∀ w ∈ u_ws "java/lang/IndexOutOfBoundsException" kc_T15 0, mj_kpb w = true) w h)
theorem kc_t15 : ∀ k, k < 0 → parseFieldDescriptor (kc_T15 k).2.2.1 = some (kc_y15 k) := by decide +kernel
theorem kc_n15 : ∀ a, a < 0 → ∀ b, b < 0 → a ≠ b → (kc_T15 a).2.1 ≠ (kc_T15 b).2.1 := by decide +kernel
theorem kc_ok : ∀ (ci : Nat) (q : vw_C), kc_cl[ci]? = some q → mj_OkC kt q := by
  intro ci q hq
  match ci, hq with
  | 0, hq => cases hq; exact ⟨kc_w0, ⟨kc_y0, kc_t0⟩, kc_n0⟩
  | 1, hq => cases hq; exact ⟨kc_w1, ⟨kc_y1, kc_t1⟩, kc_n1⟩
  | 2, hq => cases hq; exact ⟨kc_w2, ⟨kc_y2, kc_t2⟩, kc_n2⟩
  | 3, hq => cases hq; exact ⟨kc_w3, ⟨kc_y3, kc_t3⟩, kc_n3⟩
  | 4, hq => cases hq; exact ⟨kc_w4, ⟨kc_y4, kc_t4⟩, kc_n4⟩
  | 5, hq => cases hq; exact ⟨kc_w5, ⟨kc_y5, kc_t5⟩, kc_n5⟩
  | 6, hq => cases hq; exact ⟨kc_w6, ⟨kc_y6, kc_t6⟩, kc_n6⟩
  | 7, hq => cases hq; exact ⟨kc_w7, ⟨kc_y7, kc_t7⟩, kc_n7⟩
  | 8, hq => cases hq; exact ⟨kc_w8, ⟨kc_y8, kc_t8⟩, kc_n8⟩
  | 9, hq => cases hq; exact ⟨kc_w9, ⟨kc_y9, kc_t9⟩, kc_n9⟩
  | 10, hq => cases hq; exact ⟨kc_w10, ⟨kc_y10, kc_t10⟩, kc_n10⟩
  | 11, hq => cases hq; exact ⟨kc_w11, ⟨kc_y11, kc_t11⟩, kc_n11⟩
  | 12, hq => cases hq; exact ⟨kc_w12, ⟨kc_y12, kc_t12⟩, kc_n12⟩
  | 13, hq => cases hq; exact ⟨kc_w13, ⟨kc_y13, kc_t13⟩, kc_n13⟩
  | 14, hq => cases hq; exact ⟨kc_w14, ⟨kc_y14, kc_t14⟩, kc_n14⟩
  | 15, hq => cases hq; exact ⟨kc_w15, ⟨kc_y15, kc_t15⟩, kc_n15⟩
  | n + 16, hq => simp [kc_cl] at hq
