/-! THE FRESH OBJECTS: the heap when the law first comes to its loop, of a run from base 1 -/
def sc0 (k idx : Nat) : Option Nat := if ky_sc k idx = some 0 then some 0 else none
abbrev kZ : mj_Y := ky sc0 ky_hd
def ct0 : Nat → Value := fun _ => .int 1
def xt0 (L : List Value) : mj_X := fun a => if a = 0 then some (.int, L) else none
def xtn : mj_X := fun _ => none
def h00 : mj_H := (fun _ => none, 1, 0)
def kF1 : List Value := [.ref 2, .ref 4, .ref 5, .ref 8]
def kF2 : List Value := [.ref 3, .int 0, .int 0, .int 0]
def kF3 : List Value := List.replicate 16 (.int 0)
def kF4 : List Value := [.ref 54, .ref 57, .ref 60]
def kF5 : List Value := [.ref 6, .ref 7, .int 0, .int 0, .int 0, .int 0, .int (-1000)]
def kF6 : List Value := List.replicate 160 (.int 0)
def kF7 : List Value := [.int 0, .int 0, .int 0, .int 0, .int 0, .int 0, .int 0, .int 0]
def kF8 : List Value := [.ref 9, .ref 10, .ref 11, .int 0, .ref 12, .ref 13, .int 0, .ref 14, .ref 22, .ref 25, .ref 28, .ref 29, .int 0]
def kF11 : List Value := List.replicate 41 (.int 0)
def kF14 : List Value := [.ref 15, .ref 16, .ref 17, .ref 18, .ref 19, .ref 20, .ref 21]
def kF15 : List Value := List.replicate 121 (.long 0)
def kF16 : List Value := List.replicate 121 (.long 0)
def kF17 : List Value := List.replicate 121 (.long 0)
def kF18 : List Value := List.replicate 121 (.long 0)
def kF19 : List Value := List.replicate 121 (.long 0)
def kF20 : List Value := List.replicate 121 (.long 0)
def kF21 : List Value := List.replicate 121 (.long 0)
def kF22 : List Value := [.ref 23, .ref 24, .int 0]
def kF23 : List Value := List.replicate 390 (.int 0)
def kF24 : List Value := List.replicate 64 (.long 0)
def kF25 : List Value := [.ref 26, .ref 27, .int 0]
def kF26 : List Value := List.replicate 390 (.int 0)
def kF27 : List Value := List.replicate 64 (.long 0)
def kF28 : List Value := [.ref 30, .ref 36, .ref 42, .ref 48]
def kF29 : List Value := [.ref 33, .ref 39, .ref 45, .ref 51]
def kF30 : List Value := [.ref 31, .ref 32, .int 0]
def kF31 : List Value := List.replicate 390 (.int 0)
def kF32 : List Value := List.replicate 64 (.long 0)
def kF33 : List Value := [.ref 34, .ref 35, .int 0]
def kF34 : List Value := List.replicate 390 (.int 0)
def kF35 : List Value := List.replicate 64 (.long 0)
def kF36 : List Value := [.ref 37, .ref 38, .int 0]
def kF37 : List Value := List.replicate 390 (.int 0)
def kF38 : List Value := List.replicate 64 (.long 0)
def kF39 : List Value := [.ref 40, .ref 41, .int 0]
def kF40 : List Value := List.replicate 390 (.int 0)
def kF41 : List Value := List.replicate 64 (.long 0)
def kF42 : List Value := [.ref 43, .ref 44, .int 0]
def kF43 : List Value := List.replicate 390 (.int 0)
def kF44 : List Value := List.replicate 64 (.long 0)
def kF45 : List Value := [.ref 46, .ref 47, .int 0]
def kF46 : List Value := List.replicate 390 (.int 0)
def kF47 : List Value := List.replicate 64 (.long 0)
def kF48 : List Value := [.ref 49, .ref 50, .int 0]
def kF49 : List Value := List.replicate 390 (.int 0)
def kF50 : List Value := List.replicate 64 (.long 0)
def kF51 : List Value := [.ref 52, .ref 53, .int 0]
def kF52 : List Value := List.replicate 390 (.int 0)
def kF53 : List Value := List.replicate 64 (.long 0)
def kF54 : List Value := [.ref 55, .ref 56, .int 0, .null, .int 0, .long 0]
def kF55 : List Value := List.replicate 64 (.int 0)
def kF56 : List Value := List.replicate 64 (.long 0)
def kF57 : List Value := [.ref 58, .ref 59, .int 0, .null, .int 0, .long 0]
def kF58 : List Value := List.replicate 64 (.int 0)
def kF59 : List Value := List.replicate 64 (.long 0)
def kF60 : List Value := [.ref 61, .ref 62, .int 0, .null, .int 0, .long 0]
def kF61 : List Value := List.replicate 64 (.int 0)
def kF62 : List Value := List.replicate 64 (.long 0)
def kF63 : List Value := [.int 0, .ref 64, .int 0, .int (-1000), .ref 65, .ref 66, .ref 67, .ref 68, .ref 69, .ref 70, .ref 71, .ref 72, .ref 73, .ref 74, .ref 75, .ref 76, .ref 77, .ref 78, .ref 79, .ref 80, .ref 81, .ref 82, .int 0, .int 0, .int 0, .int 0, .int 0, .ref 83, .ref 84, .int 0, .int 0, .int 0, .ref 85, .int 0, .ref 86, .ref 87, .int 0, .ref 88, .ref 89, .ref 90, .int 0, .ref 91, .ref 92, .ref 93, .int 0, .int 0, .ref 94, .ref 95, .ref 96, .ref 97, .int 0, .int 0, .int 0, .ref 98, .ref 99, .ref 100, .int 0, .ref 101, .ref 102, .ref 103, .ref 104, .ref 105]
def kF64 : List Value := List.replicate 160 (.int 0)
def kF65 : List Value := [.int 0, .int 0, .int 0, .int 0]
def kF66 : List Value := [.int 0, .int 0, .int 0, .int 0]
def kF67 : List Value := List.replicate 96 (.int 0)
def kF68 : List Value := List.replicate 96 (.int 0)
def kF69 : List Value := List.replicate 96 (.int 0)
def kF70 : List Value := List.replicate 96 (.int 0)
def kF71 : List Value := List.replicate 96 (.int 0)
def kF72 : List Value := List.replicate 96 (.int 0)
def kF73 : List Value := List.replicate 96 (.long 0)
def kF74 : List Value := List.replicate 640 (.int 0)
def kF75 : List Value := List.replicate 640 (.int 0)
def kF76 : List Value := List.replicate 640 (.int 0)
def kF77 : List Value := List.replicate 640 (.int 0)
def kF78 : List Value := List.replicate 640 (.int 0)
def kF79 : List Value := List.replicate 640 (.int 0)
def kF80 : List Value := List.replicate 640 (.int 0)
def kF81 : List Value := List.replicate 640 (.int 0)
def kF83 : List Value := List.replicate 200 (.int 0)
def kF84 : List Value := List.replicate 200 (.int 0)
def kF85 : List Value := List.replicate 60 (.int 0)
def kF86 : List Value := [.int 0, .int 0, .int 0, .int 0, .int 0]
def kF87 : List Value := [.int 0, .int 0, .int 0, .int 0, .int 0]
def kF88 : List Value := [.int 0, .int 0, .int 0, .int 0, .int 0, .int 0]
def kF89 : List Value := List.replicate 121 (.long 0)
def kF90 : List Value := List.replicate 400 (.int 0)
def kF93 : List Value := List.replicate 64 (.int 0)
def kF96 : List Value := List.replicate 640 (.long 0)
def kF97 : List Value := List.replicate 10 (.int 0)
def kF98 : List Value := [.int 0, .int 0, .int 0, .int 0, .int 0, .int 0, .int 0, .int 0]
def kF99 : List Value := [.int 0, .int 0, .int 0, .int 0, .int 0, .int 0, .int 0, .int 0]
def kF100 : List Value := [.int 0, .int 0, .int 0, .int 0, .int 0, .int 0, .int 0, .int 0]
def kF101 : List Value := [.int 0, .int 0, .int 0]
def kF102 : List Value := [.int 0, .int 0, .int 0]
def kF103 : List Value := List.replicate 192 (.int 0)
def kF104 : List Value := List.replicate 192 (.long 0)
def kF105 : List Value := [.long 0, .long 0, .long 0]
def kF106 : List Value := [.long 0]
def kT : List (Nat × mj_E) := [(1, (.inr (5, kF1))), (2, (.inr (0, kF2))), (3, (.inl (.byte, kF3))), (4, (.inl ((.object "DiceOdds$Slot"), kF4))), (5, (.inr (1, kF5))), (6, (.inl (.char, kF6))), (7, (.inl (.int, kF7))), (8, (.inr (3, kF8))), (11, (.inl (.int, kF11))), (14, (.inl ((.array .long), kF14))), (15, (.inl (.long, kF15))), (16, (.inl (.long, kF16))), (17, (.inl (.long, kF17))), (18, (.inl (.long, kF18))), (19, (.inl (.long, kF19))), (20, (.inl (.long, kF20))), (21, (.inl (.long, kF21))), (22, (.inr (2, kF22))), (23, (.inl (.int, kF23))), (24, (.inl (.long, kF24))), (25, (.inr (2, kF25))), (26, (.inl (.int, kF26))), (27, (.inl (.long, kF27))), (28, (.inl ((.object "DiceOdds$States"), kF28))), (29, (.inl ((.object "DiceOdds$States"), kF29))), (30, (.inr (2, kF30))), (31, (.inl (.int, kF31))), (32, (.inl (.long, kF32))), (33, (.inr (2, kF33))), (34, (.inl (.int, kF34))), (35, (.inl (.long, kF35))), (36, (.inr (2, kF36))), (37, (.inl (.int, kF37))), (38, (.inl (.long, kF38))), (39, (.inr (2, kF39))), (40, (.inl (.int, kF40))), (41, (.inl (.long, kF41))), (42, (.inr (2, kF42))), (43, (.inl (.int, kF43))), (44, (.inl (.long, kF44))), (45, (.inr (2, kF45))), (46, (.inl (.int, kF46))), (47, (.inl (.long, kF47))), (48, (.inr (2, kF48))), (49, (.inl (.int, kF49))), (50, (.inl (.long, kF50))), (51, (.inr (2, kF51))), (52, (.inl (.int, kF52))), (53, (.inl (.long, kF53))), (54, (.inr (4, kF54))), (55, (.inl (.int, kF55))), (56, (.inl (.long, kF56))), (57, (.inr (4, kF57))), (58, (.inl (.int, kF58))), (59, (.inl (.long, kF59))), (60, (.inr (4, kF60))), (61, (.inl (.int, kF61))), (62, (.inl (.long, kF62))), (63, (.inr (12, kF63))), (64, (.inl (.int, kF64))), (65, (.inl (.boolean, kF65))), (66, (.inl (.int, kF66))), (67, (.inl (.int, kF67))), (68, (.inl (.int, kF68))), (69, (.inl (.int, kF69))), (70, (.inl (.int, kF70))), (71, (.inl (.int, kF71))), (72, (.inl (.int, kF72))), (73, (.inl (.long, kF73))), (74, (.inl (.int, kF74))), (75, (.inl (.int, kF75))), (76, (.inl (.int, kF76))), (77, (.inl (.int, kF77))), (78, (.inl (.int, kF78))), (79, (.inl (.int, kF79))), (80, (.inl (.int, kF80))), (81, (.inl (.int, kF81))), (83, (.inl (.int, kF83))), (84, (.inl (.boolean, kF84))), (85, (.inl (.int, kF85))), (86, (.inl (.int, kF86))), (87, (.inl (.boolean, kF87))), (88, (.inl (.int, kF88))), (89, (.inl (.long, kF89))), (90, (.inl (.int, kF90))), (93, (.inl (.int, kF93))), (96, (.inl (.long, kF96))), (97, (.inl (.int, kF97))), (98, (.inl (.int, kF98))), (99, (.inl (.int, kF99))), (100, (.inl (.int, kF100))), (101, (.inl (.boolean, kF101))), (102, (.inl (.int, kF102))), (103, (.inl (.int, kF103))), (104, (.inl (.long, kF104))), (105, (.inl (.long, kF105))), (106, (.inl (.long, kF106)))]
def hT : mj_H := (fun a => kT.lookup a, 107, 47714)
def kLoc : mj_L := [(4, .int 0), (3, .ref 106), (2, .ref 63), (1, .ref 1), (0, .ref 0)]
def kCr : Option (mj_L × List Value × mj_H) := mj_to kZ xtn ct0 23 186 20 300 0 [(0, .ref 0)] [] h00
def kE_eq (x : Option mj_E) (y : mj_E) : Bool := match x, y with
  | some (.inl (t, xs)), .inl (t', ys) => decide (t = t') && (xs == ys)
  | some (.inr (c, xs)), .inr (c', ys) => (c == c') && (xs == ys)
  | _, _ => false
theorem kE_ok {x : Option mj_E} {y : mj_E} (h : kE_eq x y = true) : x = some y := by
  unfold kE_eq at h
  split at h
  · simp only [Bool.and_eq_true, decide_eq_true_eq, beq_iff_eq] at h
    rw [h.1, h.2]
  · simp only [Bool.and_eq_true, beq_iff_eq] at h
    rw [h.1, h.2]
  · cases h
theorem kCr_ok : (match kCr with | some q => decide (q.1 = kLoc) && (decide (q.2.1 = []) && (decide (q.2.2.2 = (107, 47714)) && kT.all (fun e => kE_eq (q.2.2.1 e.1) e.2))) | none => false) = true := by decide +kernel
