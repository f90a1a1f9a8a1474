/-! ===== a small machine: its states are lists of locals, a stack, and cells numbered from 64 on; what a piece of code does is a function on them ===== -/
/-- the launch, the size of the heap at the law's begin, that heap, where the constants lie, the classes' numbers and slots, the array classes -/
abbrev JG : Type := Launch × Nat × Heap × (Nat → Nat) × va_G × (Nat → ClassId)
def jg_l (G : JG) : Launch := G.1
def jg_sz (G : JG) : Nat := G.2.1
def jg_H (G : JG) : Heap := G.2.2.1
def jg_sa (G : JG) : Nat → Nat := G.2.2.2.1
def jg_D (G : JG) : va_G := G.2.2.2.2.1
def jg_A (G : JG) : Nat → ClassId := G.2.2.2.2.2
/-- shapes (class or array kind, size), ints, longs, references -/
abbrev JH : Type := List (Nat × Nat) × (Nat → Nat → Int32) × (Nat → Nat → Int64) × (Nat → Nat → Option Nat)
abbrev JL : Type := List (Option Value)
abbrev JS : Type := JL × List Value × JH
abbrev JF : Type := List Value → JH → Option (Option Value × JH)
abbrev JN : Type := JS → Option JS
abbrev JP : Type := JS → Option (Nat × JS)
abbrev JO : Type := Nat × Nat × Int
def ju {α : Type} (f : Nat → Nat → α) (a k : Nat) (v : α) : Nat → Nat → α := fun b j => if b = a ∧ j = k then v else f b j
def jh_n (σ : JH) : Nat := σ.1.length
def jh_w (σ : JH) : Nat := (σ.1.map (fun q => q.2)).sum
def jh_setI (σ : JH) (a k : Nat) (x : Int32) : JH := (σ.1, ju σ.2.1 a k x, σ.2.2)
def jh_setJ (σ : JH) (a k : Nat) (x : Int64) : JH := (σ.1, σ.2.1, ju σ.2.2.1 a k x, σ.2.2.2)
def jh_setR (σ : JH) (a k : Nat) (x : Option Nat) : JH := (σ.1, σ.2.1, σ.2.2.1, ju σ.2.2.2 a k x)
/-- a new cell: its place is the number of shapes; all is 0 or null in it -/
def jh_new (σ : JH) (t n : Nat) : JH := (σ.1 ++ [(t, n)], (fun b j => if b = σ.1.length then 0 else σ.2.1 b j), (fun b j => if b = σ.1.length then 0 else σ.2.2.1 b j), (fun b j => if b = σ.1.length then none else σ.2.2.2 b j))
def jr (G : JG) (r : Nat) : Nat := if r < 64 then jg_sa G r else jg_sz G + (r - 64)
def jv (G : JG) : Value → Value
  | .ref r => .ref (jr G r)
  | v => v
/-- 0: an int's kind, 1: long, 2: a reference -/
def jt_k (t : FieldType) : Nat := match t with
  | .long => 1
  | .object _ => 2
  | .array _ => 2
  | _ => 0
def jf (σ : JH) (a k : Nat) (t : FieldType) : Value := match jt_k t with
  | 0 => .int (σ.2.1 a k)
  | 1 => .long (σ.2.2.1 a k)
  | _ => va_rf (σ.2.2.2 a k)
def jt_at (t : Nat) : FieldType := match t with
  | 101 => .long
  | 102 => .byte
  | 103 => .boolean
  | 104 => .object "CellarTurns$Muddle"
  | _ => .int
/-- a local is set: one of a slot before it that holds a long is lost; a long takes the next slot, too -/
def jl_clr (L : JL) (i : Nat) : JL := match i with
  | 0 => L
  | j + 1 => match L[j]? with
    | some (some w) => if w.category = 2 then L.set j none else L
    | _ => L
def jl_set (L : JL) (i : Nat) (v : Value) : JL := (jl_clr L i).set i (some v)
def jl_set2 (L : JL) (i : Nat) (v : Value) : JL := ((jl_clr L i).set i (some v)).set (i + 1) none
/-! ===== the classes and their fields; which field a place of a class's pool means; its constants ===== -/
def jt_tab : List (String × List (String × String × Bool × FieldType)) := [
  ("CellarTurns$House", [("names", "[J", true, .array .long), ("kinds", "[I", true, .array .int), ("prices", "[I", true, .array .int), ("minds", "[I", true, .array .int), ("been", "[I", true, .array .int), ("bars", "[I", true, .array .int), ("limits", "[I", true, .array .int), ("law", "LCellarTurns$Law;", true, .object "CellarTurns$Law"), ("bodies", "I", false, .int), ("newBits", "I", false, .int), ("catBits", "I", false, .int), ("ringBits", "I", false, .int), ("often", "I", false, .int), ("oftenTold", "Z", false, .boolean), ("costsTold", "Z", false, .boolean)]),
  ("CellarTurns$Law", [("steps", "[I", true, .array .int), ("waiting", "[I", true, .array .int), ("length", "I", false, .int)]),
  ("CellarTurns$LawReader", [("tape", "LCellarTurns$Tape;", true, .object "CellarTurns$Tape")]),
  ("CellarTurns$Muddle", [("minds", "[I", true, .array .int), ("met", "[I", true, .array .int), ("sat", "[I", true, .array .int), ("house", "LCellarTurns$House;", false, .object "CellarTurns$House"), ("there", "I", false, .int), ("open", "I", false, .int), ("astray", "I", false, .int), ("turns", "I", false, .int), ("pairs", "I", false, .int), ("cost", "I", false, .int), ("seen", "J", false, .long), ("seenCount", "I", false, .int)]),
  ("CellarTurns$Plan", [("names", "[I", true, .array .int), ("bodies", "[I", true, .array .int), ("lines", "I", false, .int)]),
  ("CellarTurns$Reader", [("tape", "LCellarTurns$Tape;", true, .object "CellarTurns$Tape"), ("laws", "LCellarTurns$LawReader;", true, .object "CellarTurns$LawReader")]),
  ("CellarTurns$RingList", [("turns", "[I", true, .array .int), ("homeBehind", "[I", true, .array .int), ("length", "I", false, .int), ("rings", "I", false, .int), ("longest", "I", false, .int), ("turnsWanted", "I", false, .int)]),
  ("CellarTurns$Search", [("muddle", "LCellarTurns$Muddle;", true, .object "CellarTurns$Muddle"), ("row", "[I", true, .array .int), ("kept", "[I", true, .array .int), ("depth", "I", false, .int), ("length", "I", false, .int), ("wrong", "I", false, .int), ("cost", "I", false, .int)]),
  ("CellarTurns$Tally", [("muddle", "LCellarTurns$Muddle;", true, .object "CellarTurns$Muddle"), ("codes", "[I", true, .array .int), ("rowsByMind", "[I", true, .array .int), ("codeCount", "I", false, .int), ("mostFound", "I", false, .int), ("rowCount", "I", false, .int), ("pairsInAll", "J", false, .long), ("pairsInSome", "J", false, .long), ("minding", "Z", false, .boolean)]),
  ("CellarTurns$Tape", [("signs", "[B", true, .array .byte), ("length", "I", false, .int), ("next", "I", false, .int), ("place", "I", false, .int), ("word", "LCellarTurns$Word;", false, .object "CellarTurns$Word"), ("letters", "J", false, .long), ("number", "I", false, .int), ("sign", "C", false, .char), ("fault", "I", false, .int)]),
  ("CellarTurns", [("tape", "LCellarTurns$Tape;", true, .object "CellarTurns$Tape"), ("reader", "LCellarTurns$Reader;", true, .object "CellarTurns$Reader"), ("ringList", "LCellarTurns$RingList;", true, .object "CellarTurns$RingList"), ("search", "LCellarTurns$Search;", true, .object "CellarTurns$Search"), ("tally", "LCellarTurns$Tally;", true, .object "CellarTurns$Tally"), ("now", "LCellarTurns$Muddle;", true, .object "CellarTurns$Muddle"), ("trial", "LCellarTurns$Muddle;", true, .object "CellarTurns$Muddle"), ("past", "[LCellarTurns$Muddle;", true, .array (.object "CellarTurns$Muddle")), ("marked", "[LCellarTurns$Muddle;", true, .array (.object "CellarTurns$Muddle")), ("house", "LCellarTurns$House;", false, .object "CellarTurns$House"), ("spareHouse", "LCellarTurns$House;", false, .object "CellarTurns$House"), ("plan", "LCellarTurns$Plan;", false, .object "CellarTurns$Plan"), ("sparePlan", "LCellarTurns$Plan;", false, .object "CellarTurns$Plan"), ("pastEnd", "I", false, .int), ("pastCount", "I", false, .int), ("laid", "I", false, .int)]),
  ("CellarTurnsModel", [("thrown", "I", false, .int), ("tape", "[I", true, .array .int), ("taped", "I", false, .int), ("size", "I", false, .int), ("sort", "[I", true, .array .int), ("place", "[I", true, .array .int), ("value", "[J", true, .array .long), ("at", "I", false, .int), ("fault", "I", false, .int), ("words", "[J", true, .array .long), ("rooms", "[I", true, .array .int), ("op", "[I", true, .array .int), ("arg", "[I", true, .array .int), ("codes", "I", false, .int), ("names", "[J", true, .array .long), ("readNames", "[J", true, .array .long), ("namesMany", "I", false, .int), ("readMany", "I", false, .int), ("once", "I", false, .int), ("ringed", "I", false, .int), ("lines", "[I", true, .array .int), ("facts", "[I", true, .array .int), ("pile", "[I", true, .array .int), ("state", "[I", true, .array .int), ("undos", "I", false, .int), ("isMarked", "[Z", true, .array .boolean), ("enoughOne", "[I", true, .array .int), ("enoughOther", "[I", true, .array .int), ("enoughMany", "I", false, .int), ("ringsMany", "I", false, .int), ("ringsLongest", "I", false, .int), ("ringsOdd", "I", false, .int), ("ring", "[I", true, .array .int), ("minds", "[I", true, .array .int), ("mostWrong", "I", false, .int), ("row", "[I", true, .array .int), ("bestRow", "[I", true, .array .int), ("bestTurns", "I", false, .int), ("bestWorth", "I", false, .int), ("muddled", "[J", true, .array .long), ("muddledMany", "I", false, .int), ("rowsMany", "I", false, .int), ("pairIn", "[I", true, .array .int), ("mindIn", "[I", true, .array .int), ("g", "J", false, .long)])]
def jt_own : List String := ["CellarTurns$House", "CellarTurns$Law", "CellarTurns$LawReader", "CellarTurns$Muddle", "CellarTurns$Plan", "CellarTurns$Reader", "CellarTurns$RingList", "CellarTurns$Search", "CellarTurns$Tally", "CellarTurns$Tape", "CellarTurns", "CellarTurnsModel", "CellarTurnsLaw", "CellarTurns$Word", "java/lang/Math", "java/lang/Integer", "java/lang/Long", "java/lang/Enum", "java/lang/String", "java/lang/StringLatin1", "java/lang/StringUTF16"]
def jt_fls : List ((Nat × Nat) × Nat × Nat × Bool) := [
  ((9, 9), 9, 0, false),
  ((10, 89), 9, 1, true),
  ((9, 28), 9, 1, false),
  ((9, 31), 9, 2, false),
  ((9, 40), 9, 3, false),
  ((9, 21), 9, 4, false),
  ((2, 45), 9, 4, true),
  ((5, 62), 9, 4, true),
  ((5, 115), 9, 5, true),
  ((9, 51), 9, 5, false),
  ((9, 24), 9, 6, false),
  ((5, 142), 9, 6, true),
  ((2, 83), 9, 6, true),
  ((2, 66), 9, 7, true),
  ((9, 43), 9, 7, false),
  ((5, 149), 9, 7, true),
  ((9, 34), 9, 8, false),
  ((2, 9), 2, 0, false),
  ((5, 9), 5, 0, false),
  ((5, 20), 5, 1, false),
  ((1, 9), 1, 0, false),
  ((1, 15), 1, 1, false),
  ((1, 18), 1, 2, false),
  ((0, 9), 0, 0, false),
  ((0, 15), 0, 1, false),
  ((10, 117), 0, 1, true),
  ((0, 19), 0, 2, false),
  ((10, 124), 0, 2, true),
  ((3, 132), 0, 2, true),
  ((0, 22), 0, 3, false),
  ((3, 68), 0, 3, true),
  ((5, 160), 0, 3, true),
  ((0, 25), 0, 4, false),
  ((3, 48), 0, 4, true),
  ((5, 80), 0, 4, true),
  ((0, 28), 0, 5, false),
  ((5, 87), 0, 5, true),
  ((3, 143), 0, 5, true),
  ((10, 311), 0, 5, true),
  ((0, 31), 0, 6, false),
  ((3, 109), 0, 6, true),
  ((0, 37), 0, 7, false),
  ((2, 30), 0, 7, true),
  ((7, 113), 0, 7, true),
  ((3, 116), 0, 7, true),
  ((0, 48), 0, 8, false),
  ((6, 37), 0, 8, true),
  ((3, 69), 0, 8, true),
  ((10, 139), 0, 8, true),
  ((8, 110), 0, 8, true),
  ((0, 52), 0, 9, false),
  ((10, 121), 0, 9, true),
  ((5, 131), 0, 9, true),
  ((3, 106), 0, 9, true),
  ((0, 55), 0, 10, false),
  ((8, 56), 0, 10, true),
  ((3, 140), 0, 10, true),
  ((0, 58), 0, 11, false),
  ((5, 157), 0, 11, true),
  ((0, 61), 0, 12, false),
  ((5, 167), 0, 12, true),
  ((10, 308), 0, 12, true),
  ((0, 64), 0, 13, false),
  ((5, 163), 0, 13, true),
  ((2, 15), 0, 14, true),
  ((0, 68), 0, 14, false),
  ((4, 9), 4, 0, false),
  ((4, 15), 4, 1, false),
  ((4, 18), 4, 2, false),
  ((5, 173), 4, 2, true),
  ((10, 318), 4, 2, true),
  ((6, 9), 6, 0, false),
  ((10, 215), 6, 0, true),
  ((6, 15), 6, 1, false),
  ((10, 218), 6, 1, true),
  ((6, 18), 6, 2, false),
  ((10, 214), 6, 2, true),
  ((6, 22), 6, 3, false),
  ((10, 195), 6, 3, true),
  ((6, 25), 6, 4, false),
  ((10, 198), 6, 4, true),
  ((6, 28), 6, 5, false),
  ((10, 201), 6, 5, true),
  ((3, 9), 3, 0, false),
  ((6, 42), 3, 0, true),
  ((10, 130), 3, 0, true),
  ((8, 113), 3, 0, true),
  ((3, 15), 3, 1, false),
  ((10, 221), 3, 1, true),
  ((3, 18), 3, 2, false),
  ((10, 133), 3, 2, true),
  ((3, 21), 3, 3, false),
  ((6, 31), 3, 3, true),
  ((8, 52), 3, 3, true),
  ((7, 109), 3, 3, true),
  ((3, 35), 3, 4, false),
  ((8, 49), 3, 4, true),
  ((10, 127), 3, 4, true),
  ((3, 39), 3, 5, false),
  ((3, 42), 3, 6, false),
  ((7, 48), 3, 6, true),
  ((10, 136), 3, 6, true),
  ((8, 123), 3, 6, true),
  ((3, 45), 3, 7, false),
  ((7, 119), 3, 7, true),
  ((10, 303), 3, 7, true),
  ((3, 55), 3, 8, false),
  ((7, 122), 3, 8, true),
  ((10, 305), 3, 8, true),
  ((3, 58), 3, 9, false),
  ((10, 189), 3, 9, true),
  ((3, 61), 3, 10, false),
  ((3, 65), 3, 11, false),
  ((10, 257), 3, 11, true),
  ((7, 23), 7, 0, false),
  ((7, 9), 7, 1, false),
  ((7, 15), 7, 2, false),
  ((7, 35), 7, 3, false),
  ((7, 27), 7, 4, false),
  ((10, 240), 7, 4, true),
  ((7, 82), 7, 5, false),
  ((10, 244), 7, 5, true),
  ((7, 103), 7, 6, false),
  ((10, 250), 7, 6, true),
  ((8, 23), 8, 0, false),
  ((8, 11), 8, 1, false),
  ((8, 15), 8, 2, false),
  ((8, 98), 8, 3, false),
  ((8, 31), 8, 4, false),
  ((8, 137), 8, 5, false),
  ((10, 267), 8, 5, true),
  ((8, 142), 8, 6, false),
  ((10, 282), 8, 6, true),
  ((8, 146), 8, 7, false),
  ((10, 286), 8, 7, true),
  ((8, 133), 8, 8, false),
  ((10, 10), 10, 0, false),
  ((10, 21), 10, 1, false),
  ((10, 48), 10, 2, false),
  ((10, 57), 10, 3, false),
  ((10, 64), 10, 4, false),
  ((10, 71), 10, 5, false),
  ((10, 75), 10, 6, false),
  ((10, 78), 10, 7, false),
  ((10, 82), 10, 8, false),
  ((10, 28), 10, 9, false),
  ((10, 32), 10, 10, false),
  ((10, 38), 10, 11, false),
  ((10, 42), 10, 12, false),
  ((10, 172), 10, 13, false),
  ((10, 103), 10, 14, false),
  ((10, 106), 10, 15, false),
  ((11, 1), 11, 0, false),
  ((11, 14), 11, 1, false),
  ((11, 11), 11, 2, false),
  ((11, 148), 11, 3, false),
  ((11, 24), 11, 4, false),
  ((11, 27), 11, 5, false),
  ((11, 30), 11, 6, false),
  ((11, 167), 11, 7, false),
  ((11, 170), 11, 8, false),
  ((11, 76), 11, 9, false),
  ((11, 79), 11, 10, false),
  ((11, 82), 11, 11, false),
  ((11, 85), 11, 12, false),
  ((11, 206), 11, 13, false),
  ((11, 88), 11, 14, false),
  ((11, 91), 11, 15, false),
  ((11, 192), 11, 16, false),
  ((11, 189), 11, 17, false),
  ((11, 209), 11, 18, false),
  ((11, 212), 11, 19, false),
  ((11, 94), 11, 20, false),
  ((11, 97), 11, 21, false),
  ((11, 100), 11, 22, false),
  ((11, 103), 11, 23, false),
  ((11, 288), 11, 24, false),
  ((11, 106), 11, 25, false),
  ((11, 110), 11, 26, false),
  ((11, 113), 11, 27, false),
  ((11, 353), 11, 28, false),
  ((11, 356), 11, 29, false),
  ((11, 359), 11, 30, false),
  ((11, 362), 11, 31, false),
  ((11, 116), 11, 32, false),
  ((11, 119), 11, 33, false),
  ((11, 374), 11, 34, false),
  ((11, 122), 11, 35, false),
  ((11, 125), 11, 36, false),
  ((11, 383), 11, 37, false),
  ((11, 386), 11, 38, false),
  ((11, 128), 11, 39, false),
  ((11, 406), 11, 40, false),
  ((11, 419), 11, 41, false),
  ((11, 131), 11, 42, false),
  ((11, 134), 11, 43, false),
  ((11, 428), 11, 44, false)]
def jt_flx : List Nat := [162, 163, 164, 165, 166, 167, 168, 169, 170, 171, 172, 173, 174, 175, 176, 177, 178, 211, 215, 216, 234, 235, 236, 269, 270, 271, 272, 273, 274, 275, 276, 277, 278, 279, 280, 281, 282, 283, 284, 285, 286, 287, 288, 289, 290, 291, 292, 293, 294, 295, 296, 297, 298, 299, 300, 301, 302, 303, 304, 305, 306, 307, 308, 309, 310, 311, 349, 350, 351, 352, 353, 367, 368, 369, 370, 371, 372, 373, 374, 375, 376, 377, 378, 430, 431, 432, 433, 434, 435, 436, 437, 438, 439, 440, 441, 442, 443, 444, 445, 446, 447, 448, 449, 450, 451, 452, 453, 454, 455, 456, 457, 458, 459, 460, 486, 487, 488, 489, 490, 491, 492, 493, 494, 495, 519, 520, 521, 522, 523, 524, 525, 526, 527, 528, 529, 530, 553, 554, 555, 556, 557, 558, 559, 560, 561, 562, 563, 564, 565, 566, 567, 568, 1467, 1468, 1469, 1470, 1471, 1472, 1473, 1474, 1475, 1476, 1477, 1478, 1479, 1480, 1481, 1482, 1483, 1484, 1485, 1486, 1487, 1488, 1489, 1490, 1491, 1492, 1493, 1494, 1495, 1496, 1497, 1498, 1499, 1500, 1501, 1502, 1503, 1504, 1505, 1506, 1507, 1508, 1509, 1510, 1511]
def jt_lcs : List ((Nat × Nat) × Value) := [
  ((15, 265), .int (1431655765)),
  ((15, 266), .int (858993459)),
  ((15, 267), .int (252645135)),
  ((9, 74), .long (27)),
  ((20, 227), .int (65536)),
  ((16, 314), .long (6148914691236517205)),
  ((16, 316), .long (3689348814741910323)),
  ((16, 318), .long (1085102592571150095)),
  ((15, 264), .int (65536)),
  ((7, 102), .int (2147483647)),
  ((8, 119), .int (1000000)),
  ((8, 140), .long (-1)),
  ((3, 135), .long (63)),
  ((10, 324), .long (1103515245)),
  ((10, 326), .long (12345)),
  ((10, 328), .long (2147483648)),
  ((10, 330), .long (65536)),
  ((11, 34), .long (1119812451)),
  ((11, 36), .long (19374)),
  ((11, 38), .long (30910767)),
  ((11, 40), .long (924600)),
  ((11, 42), .long (108350)),
  ((11, 44), .long (2793)),
  ((11, 46), .long (28443912)),
  ((11, 48), .long (6409048)),
  ((11, 50), .long (1042489)),
  ((11, 52), .long (34523964)),
  ((11, 54), .long (11525730)),
  ((11, 56), .long (30596128)),
  ((11, 58), .long (12777)),
  ((11, 60), .long (26332)),
  ((11, 62), .long (4164)),
  ((11, 64), .long (19741)),
  ((11, 66), .long (1891)),
  ((11, 68), .long (573)),
  ((11, 70), .long (44038517)),
  ((11, 72), .long (38572112)),
  ((11, 74), .long (18002)),
  ((11, 151), .long (37)),
  ((11, 160), .long (10)),
  ((11, 162), .long (48)),
  ((11, 404), .long (8)),
  ((11, 415), .int (1000000)),
  ((11, 432), .long (1103515245)),
  ((11, 434), .long (12345)),
  ((11, 436), .long (2147483648)),
  ((11, 438), .long (65536)),
  ((12, 19), .long (4294967295))]
def jt_lcx : List Nat := [423, 424, 425, 635, 695, 1062, 1063, 1064, 1121, 1215, 1250, 1277, 1291, 1312, 1313, 1314, 1315, 1426, 1427, 1428, 1429, 1430, 1431, 1432, 1433, 1434, 1435, 1436, 1437, 1438, 1439, 1440, 1441, 1442, 1443, 1444, 1445, 1446, 1615, 1622, 1623, 1941, 1946, 1987, 1988, 1989, 1990, 2007]
def jt_nws : List ((Nat × Nat) × Nat) := [((12, 8), 10), ((10, 7), 9), ((10, 16), 5), ((5, 15), 2), ((10, 25), 0), ((0, 34), 1), ((10, 35), 4), ((10, 45), 6), ((10, 52), 7), ((7, 18), 3), ((10, 61), 8), ((8, 18), 3), ((10, 68), 3), ((12, 16), 11)]
def jt_nwx : List Nat := [146, 154, 199, 205, 222, 228, 343, 361, 392, 398, 511, 517, 550, 1421]
def jt_ixs : List (Nat × Nat) := [(223, 123), (229, 124), (206, 122), (399, 129), (344, 126), (200, 121), (362, 127), (393, 128), (512, 132), (155, 118), (147, 117), (1419, 133)]
def jt_lay : List (List Nat) := [[312, 314, 316, 318, 320, 322, 324, 326, 328, 330, 332, 334, 336, 338, 340], [237, 239, 241], [212], [461, 463, 465, 467, 469, 471, 473, 475, 477, 479, 481, 483], [354, 356, 358], [217, 219], [379, 381, 383, 385, 387, 389], [496, 498, 500, 502, 504, 506, 508], [531, 533, 535, 537, 539, 541, 543, 545, 547], [179, 181, 183, 185, 187, 189, 191, 193, 195], [569, 571, 573, 575, 577, 579, 581, 583, 585, 587, 589, 591, 593, 595, 597, 599], [1512, 1514, 1516, 1518, 1520, 1522, 1524, 1526, 1528, 1530, 1532, 1534, 1536, 1538, 1540, 1542, 1544, 1546, 1548, 1550, 1552, 1554, 1556, 1558, 1560, 1562, 1564, 1566, 1568, 1570, 1572, 1574, 1576, 1578, 1580, 1582, 1584, 1586, 1588, 1590, 1592, 1594, 1596, 1598, 1600]]
def jt_C (ci : Nat) : String := (jt_tab.getD ci ("", [])).1
def jt_N (ci : Nat) : Nat := (jt_tab.getD ci ("", [])).2.length
def jt_f (ci k : Nat) : String × String × Bool × FieldType := (jt_tab.getD ci ("", [])).2.getD k ("", "", false, .int)
def jt_T (ci : Nat) : u_T := fun k => (jt_C ci, (jt_f ci k).1, (jt_f ci k).2.1, (jt_f ci k).2.2.1)
def jt_ty (ci k : Nat) : FieldType := (jt_f ci k).2.2.2
def jt_cls : List vw_C := (List.range 12).map (fun ci => (jt_C ci, jt_T ci, jt_N ci))
def jt_fl (own ix : Nat) : Option (Nat × Nat × Bool) := jt_fls.lookup (own, ix)
def jt_lc (own ix : Nat) : Option Value := jt_lcs.lookup (own, ix)
def jt_nw (own ix : Nat) : Option Nat := jt_nws.lookup (own, ix)
/-- the words of the tables that stay true while classes warm -/
def jt_gw (w : Cond) : Bool := goodWord w || (match w with
  | .fieldLinkNest _ _ _ _ _ _ => true
  | .methodLinkNest _ _ _ _ => true
  | .declares _ => true
  | .castable _ _ => true
  | _ => false)
theorem jt_cls_at {ci : Nat} (h : ci < 12) : jt_cls[ci]? = some (jt_C ci, jt_T ci, jt_N ci) := by
  unfold jt_cls
  rw [List.getElem?_map, List.getElem?_range h]
  rfl
theorem jt_lay_ok : ∀ ci, ci < 12 → ∀ k, k < jt_N ci → lw_tbl[(jt_lay.getD ci []).getD k 0]? = some (u_lay (jt_C ci) (jt_T ci) k) := by decide +kernel
theorem jt_lay_in {ci : Nat} (h : ci < 12) : ∀ w ∈ u_ws (jt_C ci) (jt_T ci) (jt_N ci), w ∈ lw_tbl := by
  intro w hw
  obtain ⟨k, hk, rfl⟩ := List.mem_map.mp hw
  exact List.mem_of_getElem? (jt_lay_ok ci h k (List.mem_range.mp hk))
theorem jt_ty_ok : ∀ ci, ci < 12 → ∀ k, k < jt_N ci → parseFieldDescriptor (jt_T ci k).2.2.1 = some (jt_ty ci k) := by decide +kernel
theorem jt_nm_ok : ∀ ci, ci < 12 → ∀ a, a < jt_N ci → ∀ b, b < jt_N ci → a ≠ b → (jt_T ci a).2.1 ≠ (jt_T ci b).2.1 := by decide +kernel
theorem jt_ix_ok : ∀ ci, ci < 12 → lw_tbl[(jt_ixs.getD ci (0, 0)).1]? = some (.instantiable (jt_C ci) (jt_N ci)) ∧ lw_tbl[(jt_ixs.getD ci (0, 0)).2]? = some (.initialized (jt_C ci)) := by decide +kernel
def jt_flw (e : (Nat × Nat) × Nat × Nat × Bool) : Cond := if e.2.2.2 = true then .fieldLinkNest (jt_own.getD e.1.1 "") e.1.2 (jt_C e.2.1) (jt_f e.2.1 e.2.2.1).1 (jt_f e.2.1 e.2.2.1).2.1 "CellarTurns" else .fieldLink (jt_own.getD e.1.1 "") e.1.2 (jt_C e.2.1) (jt_f e.2.1 e.2.2.1).1 (jt_f e.2.1 e.2.2.1).2.1
theorem jt_fl_ok : ∀ q ∈ jt_fls.zip jt_flx, lw_tbl[q.2]? = some (jt_flw q.1) ∧ q.1.2.1 < 12 ∧ q.1.2.2.1 < jt_N q.1.2.1 := by decide +kernel
def jt_lcw (e : (Nat × Nat) × Value) : Cond := match e.2 with
  | .int v => .constant (jt_own.getD e.1.1 "") e.1.2 v
  | .long v => .constantLong (jt_own.getD e.1.1 "") e.1.2 v
  | _ => .initialized ""
theorem jt_lc_ok : ∀ q ∈ jt_lcs.zip jt_lcx, lw_tbl[q.2]? = some (jt_lcw q.1) := by decide +kernel
theorem jt_nw_ok : ∀ q ∈ jt_nws.zip jt_nwx, lw_tbl[q.2]? = some (.classLink (jt_own.getD q.1.1.1 "") q.1.1.2 (jt_C q.1.2)) ∧ q.1.2 < 12 := by decide +kernel
theorem jt_look {α β : Type} [BEq α] [LawfulBEq α] {l : List (α × β)} {a : α} {b : β} (h : l.lookup a = some b) : (a, b) ∈ l := by
  induction l with
  | nil => cases h
  | cons q r ih =>
    obtain ⟨x, y⟩ := q
    rw [List.lookup_cons] at h
    by_cases hx : (a == x) = true
    · rw [hx] at h
      cases h
      rw [eq_of_beq hx]
      exact List.mem_cons_self
    · rw [Bool.not_eq_true] at hx
      rw [hx] at h
      exact List.mem_cons_of_mem _ (ih h)
theorem jt_zip {α : Type} {l : List α} {x : List Nat} (hl : l.length = x.length) {a : α} (h : a ∈ l) : ∃ n, (a, n) ∈ l.zip x := by
  obtain ⟨i, hi⟩ := List.getElem?_of_mem h
  have h1 : i < l.length := (List.getElem?_eq_some_iff.mp hi).1
  have h2 : i < x.length := by omega
  refine ⟨x[i], List.mem_of_getElem? (i := i) ?_⟩
  rw [List.getElem?_zip_eq_some]
  exact ⟨hi, List.getElem?_eq_getElem h2⟩
theorem jt_fl_at {own ix ci k : Nat} {b : Bool} (h : jt_fl own ix = some (ci, k, b)) : jt_flw ((own, ix), ci, k, b) ∈ lw_tbl ∧ ci < 12 ∧ k < jt_N ci := by
  obtain ⟨n, hn⟩ := jt_zip (x := jt_flx) (by decide +kernel) (jt_look h)
  have h1 := jt_fl_ok _ hn
  exact ⟨List.mem_of_getElem? h1.1, h1.2.1, h1.2.2⟩
theorem jt_lc_at {own ix : Nat} {v : Value} (h : jt_lc own ix = some v) : jt_lcw ((own, ix), v) ∈ lw_tbl := by
  obtain ⟨n, hn⟩ := jt_zip (x := jt_lcx) (by decide +kernel) (jt_look h)
  exact List.mem_of_getElem? (jt_lc_ok _ hn)
theorem jt_nw_at {own ix ci : Nat} (h : jt_nw own ix = some ci) : Cond.classLink (jt_own.getD own "") ix (jt_C ci) ∈ lw_tbl ∧ ci < 12 := by
  obtain ⟨n, hn⟩ := jt_zip (x := jt_nwx) (by decide +kernel) (jt_look h)
  have h1 := jt_nw_ok _ hn
  exact ⟨List.mem_of_getElem? h1.1, h1.2⟩
