/-! The tables of the small machine, held against the machine's own (written by program). -/
def cnm : List String := ["CardDrawer$Chooser", "CardDrawer$Circle", "CardDrawer$Dating", "CardDrawer$Drawer", "CardDrawer$History", "CardDrawer$Keeper", "CardDrawer$Law", "CardDrawer$Reader", "CardDrawer$Rows", "CardDrawer$Tape", "CardDrawer$Told", "CardDrawer", "CardDrawerModel", "java/lang/Integer", "java/lang/String", "java/lang/StringLatin1", "jdk/internal/util/Preconditions"]
def TC0 : u_T := fun k => match k with
  | 0 => ("CardDrawer$Chooser", "drawer", "LCardDrawer$Drawer;", true)
  | 1 => ("CardDrawer$Chooser", "told", "LCardDrawer$Told;", true)
  | 2 => ("CardDrawer$Chooser", "cardsFor", "[I", true)
  | 3 => ("CardDrawer$Chooser", "found", "I", false)
  | _ => ("CardDrawer$Chooser", "chosen", "I", false)
def yC0 : Nat → FieldType := fun k => match k with
  | 0 => .object "CardDrawer$Drawer"
  | 1 => .object "CardDrawer$Told"
  | 2 => .array .int
  | 3 => .int
  | _ => .int
def TC1 : u_T := fun k => match k with
  | 0 => ("CardDrawer$Circle", "drawer", "LCardDrawer$Drawer;", true)
  | 1 => ("CardDrawer$Circle", "told", "LCardDrawer$Told;", true)
  | 2 => ("CardDrawer$Circle", "near", "[I", true)
  | 3 => ("CardDrawer$Circle", "far", "[I", true)
  | 4 => ("CardDrawer$Circle", "steps", "I", false)
  | 5 => ("CardDrawer$Circle", "who", "I", false)
  | _ => ("CardDrawer$Circle", "first", "I", false)
def yC1 : Nat → FieldType := fun k => match k with
  | 0 => .object "CardDrawer$Drawer"
  | 1 => .object "CardDrawer$Told"
  | 2 => .array .int
  | 3 => .array .int
  | 4 => .int
  | 5 => .int
  | _ => .int
def TC2 : u_T := fun k => match k with
  | 0 => ("CardDrawer$Dating", "drawer", "LCardDrawer$Drawer;", true)
  | 1 => ("CardDrawer$Dating", "told", "LCardDrawer$Told;", true)
  | 2 => ("CardDrawer$Dating", "least", "[I", true)
  | _ => ("CardDrawer$Dating", "greatest", "[I", true)
def yC2 : Nat → FieldType := fun k => match k with
  | 0 => .object "CardDrawer$Drawer"
  | 1 => .object "CardDrawer$Told"
  | 2 => .array .int
  | _ => .array .int
def TC3 : u_T := fun k => match k with
  | 0 => ("CardDrawer$Drawer", "borne", "[I", true)
  | 1 => ("CardDrawer$Drawer", "cards", "I", false)
  | 2 => ("CardDrawer$Drawer", "kept", "I", false)
  | 3 => ("CardDrawer$Drawer", "now", "I", false)
  | 4 => ("CardDrawer$Drawer", "used", "I", false)
  | 5 => ("CardDrawer$Drawer", "missed", "I", false)
  | 6 => ("CardDrawer$Drawer", "lacked", "I", false)
  | _ => ("CardDrawer$Drawer", "draws", "I", false)
def yC3 : Nat → FieldType := fun k => match k with
  | 0 => .array .int
  | 1 => .int
  | 2 => .int
  | 3 => .int
  | 4 => .int
  | 5 => .int
  | 6 => .int
  | _ => .int
def TC4 : u_T := fun k => match k with
  | 0 => ("CardDrawer$History", "drawers", "[LCardDrawer$Drawer;", true)
  | 1 => ("CardDrawer$History", "lines", "[I", true)
  | _ => ("CardDrawer$History", "count", "I", false)
def yC4 : Nat → FieldType := fun k => match k with
  | 0 => .array (.object "CardDrawer$Drawer")
  | 1 => .array .int
  | _ => .int
def TC5 : u_T := fun k => match k with
  | 0 => ("CardDrawer$Keeper", "drawer", "LCardDrawer$Drawer;", true)
  | 1 => ("CardDrawer$Keeper", "told", "LCardDrawer$Told;", true)
  | 2 => ("CardDrawer$Keeper", "ledger", "LCardDrawer$Rows;", true)
  | 3 => ("CardDrawer$Keeper", "inThought", "Z", true)
  | _ => ("CardDrawer$Keeper", "greatestHolds", "I", false)
def yC5 : Nat → FieldType := fun k => match k with
  | 0 => .object "CardDrawer$Drawer"
  | 1 => .object "CardDrawer$Told"
  | 2 => .object "CardDrawer$Rows"
  | 3 => .boolean
  | _ => .int
def TC6 : u_T := fun k => match k with
  | 0 => ("CardDrawer$Law", "code", "[I", true)
  | 1 => ("CardDrawer$Law", "words", "[I", true)
  | 2 => ("CardDrawer$Law", "starts", "[I", true)
  | 3 => ("CardDrawer$Law", "whens", "[I", true)
  | 4 => ("CardDrawer$Law", "ends", "[I", true)
  | 5 => ("CardDrawer$Law", "known", "[I", true)
  | 6 => ("CardDrawer$Law", "stack", "[I", true)
  | 7 => ("CardDrawer$Law", "size", "I", false)
  | _ => ("CardDrawer$Law", "lines", "I", false)
def yC6 : Nat → FieldType := fun k => match k with
  | 0 => .array .int
  | 1 => .array .int
  | 2 => .array .int
  | 3 => .array .int
  | 4 => .array .int
  | 5 => .array .int
  | 6 => .array .int
  | 7 => .int
  | _ => .int
def TC7 : u_T := fun k => match k with
  | 0 => ("CardDrawer$Reader", "tape", "LCardDrawer$Tape;", true)
  | 1 => ("CardDrawer$Reader", "law", "LCardDrawer$Law;", true)
  | 2 => ("CardDrawer$Reader", "rows", "LCardDrawer$Rows;", true)
  | 3 => ("CardDrawer$Reader", "lines", "I", false)
  | 4 => ("CardDrawer$Reader", "fault", "I", false)
  | 5 => ("CardDrawer$Reader", "faultPlace", "I", false)
  | 6 => ("CardDrawer$Reader", "at", "I", false)
  | 7 => ("CardDrawer$Reader", "token", "I", false)
  | _ => ("CardDrawer$Reader", "number", "I", false)
def yC7 : Nat → FieldType := fun k => match k with
  | 0 => .object "CardDrawer$Tape"
  | 1 => .object "CardDrawer$Law"
  | 2 => .object "CardDrawer$Rows"
  | 3 => .int
  | 4 => .int
  | 5 => .int
  | 6 => .int
  | 7 => .int
  | _ => .int
def TC8 : u_T := fun k => match k with
  | 0 => ("CardDrawer$Rows", "limit", "I", true)
  | 1 => ("CardDrawer$Rows", "cells", "[I", true)
  | _ => ("CardDrawer$Rows", "count", "I", false)
def yC8 : Nat → FieldType := fun k => match k with
  | 0 => .int
  | 1 => .array .int
  | _ => .int
def TC9 : u_T := fun k => match k with
  | 0 => ("CardDrawer$Tape", "bytes", "[I", true)
  | 1 => ("CardDrawer$Tape", "tokens", "[I", true)
  | 2 => ("CardDrawer$Tape", "places", "[I", true)
  | 3 => ("CardDrawer$Tape", "count", "I", false)
  | _ => ("CardDrawer$Tape", "length", "I", false)
def yC9 : Nat → FieldType := fun k => match k with
  | 0 => .array .int
  | 1 => .array .int
  | 2 => .array .int
  | 3 => .int
  | _ => .int
def TC10 : u_T := fun k => match k with
  | 0 => ("CardDrawer$Told", "law", "LCardDrawer$Law;", true)
  | 1 => ("CardDrawer$Told", "by", "[I", true)
  | 2 => ("CardDrawer$Told", "from", "[I", true)
  | 3 => ("CardDrawer$Told", "till", "[I", true)
  | 4 => ("CardDrawer$Told", "plan", "LCardDrawer$Rows;", true)
  | 5 => ("CardDrawer$Told", "ahead", "LCardDrawer$Rows;", true)
  | 6 => ("CardDrawer$Told", "asked", "LCardDrawer$Rows;", true)
  | 7 => ("CardDrawer$Told", "noted", "LCardDrawer$Rows;", true)
  | 8 => ("CardDrawer$Told", "metLines", "I", false)
  | _ => ("CardDrawer$Told", "calledLines", "I", false)
def yC10 : Nat → FieldType := fun k => match k with
  | 0 => .object "CardDrawer$Law"
  | 1 => .array .int
  | 2 => .array .int
  | 3 => .array .int
  | 4 => .object "CardDrawer$Rows"
  | 5 => .object "CardDrawer$Rows"
  | 6 => .object "CardDrawer$Rows"
  | 7 => .object "CardDrawer$Rows"
  | 8 => .int
  | _ => .int
def TC11 : u_T := fun k => match k with
  | 0 => ("CardDrawer", "drawer", "LCardDrawer$Drawer;", true)
  | 1 => ("CardDrawer", "told", "LCardDrawer$Told;", true)
  | 2 => ("CardDrawer", "ledger", "LCardDrawer$Rows;", true)
  | 3 => ("CardDrawer", "keeper", "LCardDrawer$Keeper;", true)
  | 4 => ("CardDrawer", "thought", "LCardDrawer$Drawer;", true)
  | 5 => ("CardDrawer", "thinker", "LCardDrawer$Keeper;", true)
  | 6 => ("CardDrawer", "history", "LCardDrawer$History;", true)
  | 7 => ("CardDrawer", "tape", "LCardDrawer$Tape;", true)
  | 8 => ("CardDrawer", "reader", "LCardDrawer$Reader;", true)
  | 9 => ("CardDrawer", "dating", "LCardDrawer$Dating;", true)
  | 10 => ("CardDrawer", "circle", "LCardDrawer$Circle;", true)
  | 11 => ("CardDrawer", "chooser", "LCardDrawer$Chooser;", true)
  | 12 => ("CardDrawer", "imagedDrawer", "LCardDrawer$Drawer;", true)
  | 13 => ("CardDrawer", "imagedTold", "LCardDrawer$Told;", true)
  | 14 => ("CardDrawer", "imagedLedger", "LCardDrawer$Rows;", true)
  | _ => ("CardDrawer", "imaged", "Z", false)
def yC11 : Nat → FieldType := fun k => match k with
  | 0 => .object "CardDrawer$Drawer"
  | 1 => .object "CardDrawer$Told"
  | 2 => .object "CardDrawer$Rows"
  | 3 => .object "CardDrawer$Keeper"
  | 4 => .object "CardDrawer$Drawer"
  | 5 => .object "CardDrawer$Keeper"
  | 6 => .object "CardDrawer$History"
  | 7 => .object "CardDrawer$Tape"
  | 8 => .object "CardDrawer$Reader"
  | 9 => .object "CardDrawer$Dating"
  | 10 => .object "CardDrawer$Circle"
  | 11 => .object "CardDrawer$Chooser"
  | 12 => .object "CardDrawer$Drawer"
  | 13 => .object "CardDrawer$Told"
  | 14 => .object "CardDrawer$Rows"
  | _ => .boolean
def TC12 : u_T := fun k => match k with
  | 0 => ("CardDrawerModel", "told", "I", false)
  | 1 => ("CardDrawerModel", "now", "[I", true)
  | 2 => ("CardDrawerModel", "rows", "[I", true)
  | 3 => ("CardDrawerModel", "undoable", "I", false)
  | 4 => ("CardDrawerModel", "waiting", "[I", true)
  | 5 => ("CardDrawerModel", "isThought", "Z", false)
  | 6 => ("CardDrawerModel", "cards", "I", false)
  | 7 => ("CardDrawerModel", "person", "[I", true)
  | 8 => ("CardDrawerModel", "firm", "[I", true)
  | 9 => ("CardDrawerModel", "trade", "[I", true)
  | 10 => ("CardDrawerModel", "book", "[I", true)
  | 11 => ("CardDrawerModel", "tape", "[I", true)
  | 12 => ("CardDrawerModel", "taped", "I", false)
  | 13 => ("CardDrawerModel", "spot", "I", false)
  | 14 => ("CardDrawerModel", "from", "I", false)
  | 15 => ("CardDrawerModel", "token", "I", false)
  | 16 => ("CardDrawerModel", "value", "I", false)
  | 17 => ("CardDrawerModel", "words", "[I", true)
  | 18 => ("CardDrawerModel", "lineMany", "[I", true)
  | 19 => ("CardDrawerModel", "lineWord", "[I", true)
  | 20 => ("CardDrawerModel", "lineFrom", "[I", true)
  | 21 => ("CardDrawerModel", "lineWhen", "[I", true)
  | 22 => ("CardDrawerModel", "lineTo", "[I", true)
  | 23 => ("CardDrawerModel", "op", "[I", true)
  | 24 => ("CardDrawerModel", "arg", "[I", true)
  | 25 => ("CardDrawerModel", "which", "I", false)
  | 26 => ("CardDrawerModel", "codes", "I", false)
  | 27 => ("CardDrawerModel", "open", "I", false)
  | 28 => ("CardDrawerModel", "pending", "[I", true)
  | 29 => ("CardDrawerModel", "pendings", "I", false)
  | 30 => ("CardDrawerModel", "readFault", "I", false)
  | 31 => ("CardDrawerModel", "readPlace", "I", false)
  | 32 => ("CardDrawerModel", "faultKind", "I", false)
  | 33 => ("CardDrawerModel", "faultPlace", "I", false)
  | 34 => ("CardDrawerModel", "metMany", "I", false)
  | 35 => ("CardDrawerModel", "byUp", "[I", true)
  | 36 => ("CardDrawerModel", "calledMany", "I", false)
  | 37 => ("CardDrawerModel", "calledFrom", "[I", true)
  | 38 => ("CardDrawerModel", "calledTo", "[I", true)
  | 39 => ("CardDrawerModel", "deedMany", "I", false)
  | 40 => ("CardDrawerModel", "deeds", "[I", true)
  | 41 => ("CardDrawerModel", "asked", "[I", true)
  | 42 => ("CardDrawerModel", "stack", "[I", true)
  | 43 => ("CardDrawerModel", "aheadMany", "I", false)
  | 44 => ("CardDrawerModel", "aheadA", "[I", true)
  | 45 => ("CardDrawerModel", "aheadB", "[I", true)
  | 46 => ("CardDrawerModel", "least", "[I", true)
  | 47 => ("CardDrawerModel", "most", "[I", true)
  | 48 => ("CardDrawerModel", "reached", "[I", true)
  | 49 => ("CardDrawerModel", "askedMany", "I", false)
  | 50 => ("CardDrawerModel", "askedWhat", "[I", true)
  | 51 => ("CardDrawerModel", "askedFor", "[I", true)
  | 52 => ("CardDrawerModel", "noteMany", "I", false)
  | 53 => ("CardDrawerModel", "noteWhat", "[I", true)
  | 54 => ("CardDrawerModel", "noteFor", "[I", true)
  | 55 => ("CardDrawerModel", "noteIs", "[I", true)
  | 56 => ("CardDrawerModel", "isTaking", "Z", false)
  | 57 => ("CardDrawerModel", "hasImage", "Z", false)
  | 58 => ("CardDrawerModel", "keptAt", "I", false)
  | _ => ("CardDrawerModel", "images", "[I", true)
def yC12 : Nat → FieldType := fun k => match k with
  | 0 => .int
  | 1 => .array .int
  | 2 => .array .int
  | 3 => .int
  | 4 => .array .int
  | 5 => .boolean
  | 6 => .int
  | 7 => .array .int
  | 8 => .array .int
  | 9 => .array .int
  | 10 => .array .int
  | 11 => .array .int
  | 12 => .int
  | 13 => .int
  | 14 => .int
  | 15 => .int
  | 16 => .int
  | 17 => .array .int
  | 18 => .array .int
  | 19 => .array .int
  | 20 => .array .int
  | 21 => .array .int
  | 22 => .array .int
  | 23 => .array .int
  | 24 => .array .int
  | 25 => .int
  | 26 => .int
  | 27 => .int
  | 28 => .array .int
  | 29 => .int
  | 30 => .int
  | 31 => .int
  | 32 => .int
  | 33 => .int
  | 34 => .int
  | 35 => .array .int
  | 36 => .int
  | 37 => .array .int
  | 38 => .array .int
  | 39 => .int
  | 40 => .array .int
  | 41 => .array .int
  | 42 => .array .int
  | 43 => .int
  | 44 => .array .int
  | 45 => .array .int
  | 46 => .array .int
  | 47 => .array .int
  | 48 => .array .int
  | 49 => .int
  | 50 => .array .int
  | 51 => .array .int
  | 52 => .int
  | 53 => .array .int
  | 54 => .array .int
  | 55 => .array .int
  | 56 => .boolean
  | 57 => .boolean
  | 58 => .int
  | _ => .array .int
def cls : List vw_C := [(cnm.getD 0 "", TC0, 5), (cnm.getD 1 "", TC1, 7), (cnm.getD 2 "", TC2, 4), (cnm.getD 3 "", TC3, 8), (cnm.getD 4 "", TC4, 3), (cnm.getD 5 "", TC5, 5), (cnm.getD 6 "", TC6, 9), (cnm.getD 7 "", TC7, 9), (cnm.getD 8 "", TC8, 3), (cnm.getD 9 "", TC9, 5), (cnm.getD 10 "", TC10, 10), (cnm.getD 11 "", TC11, 16), (cnm.getD 12 "", TC12, 60)]
def yCs : List (Nat → FieldType) := [yC0, yC1, yC2, yC3, yC4, yC5, yC6, yC7, yC8, yC9, yC10, yC11, yC12]
/-- of each method: its class, name, descriptor, bytes, places, what it returns, how it is called; then the places of its words: code, instance or static, selects, initialized -/
abbrev pR : Type := Nat × String × String × ByteArray × Nat × Option FieldType × Nat × Nat × Nat × Nat × Nat
def IR0 : List pR := [(0, "<init>", "(LCardDrawer$Drawer;LCardDrawer$Told;)V", prog_2_method_1_code, 3, none, 2, 2116, 2115, 0, 1012), (0, "choose", "(I)V", prog_2_method_2_code, 5, none, 0, 5072, 5070, 5071, 1012), (0, "tryCard", "(II)V", prog_2_method_3_code, 7, none, 0, 5078, 5077, 36, 1012), (0, "takeIfBetter", "(II)V", prog_2_method_4_code, 3, none, 0, 5092, 5091, 38, 1012), (0, "isLess", "(II)Z", prog_2_method_5_code, 3, some .boolean, 1, 5087, 5086, 0, 1012), (0, "questionsFor", "(I)I", prog_2_method_6_code, 4, some .int, 0, 5082, 5081, 37, 1012), (0, "bestOrder", "()I", prog_2_method_7_code, 3, some .int, 0, 5100, 5098, 5099, 1012), (0, "lookedAt", "(I)I", prog_2_method_8_code, 6, some .int, 0, 5104, 5102, 5103, 1012), (0, "fewestApart", "()I", prog_2_method_9_code, 4, some .int, 0, 5114, 5112, 5113, 1012), (0, "tellsApart", "(I)Z", prog_2_method_10_code, 4, some .boolean, 0, 5118, 5117, 39, 1012), (0, "isAlike", "(III)Z", prog_2_method_11_code, 5, some .boolean, 0, 5122, 5121, 40, 1012), (0, "secondOnes", "()I", prog_2_method_12_code, 3, some .int, 0, 5131, 5129, 5130, 1012), (0, "hasSooner", "(I)Z", prog_2_method_13_code, 5, some .boolean, 0, 5135, 5134, 41, 1012), (0, "nearest", "(I)I", prog_2_method_14_code, 4, some .int, 0, 5143, 5141, 5142, 1012), (0, "inCommon", "(II)I", prog_2_method_15_code, 5, some .int, 0, 5147, 5145, 5146, 1012), (0, "pile", "(I)I", prog_2_method_16_code, 2, some .int, 0, 5199, 5198, 43, 1012), (0, "leftToLose", "(I)I", prog_2_method_17_code, 4, some .int, 0, 5203, 5202, 44, 1012), (0, "cardsToThrow", "(I)I", prog_2_method_18_code, 2, some .int, 0, 5195, 5193, 5194, 1012), (0, "firmToThrow", "()I", prog_2_method_19_code, 2, some .int, 0, 5191, 5189, 5190, 1012), (1, "<init>", "(LCardDrawer$Drawer;LCardDrawer$Told;)V", prog_3_method_1_code, 3, none, 2, 2085, 2084, 0, 1011), (1, "learn", "()I", prog_3_method_2_code, 4, some .int, 0, 4239, 4238, 31, 1011), (1, "besideSome", "(I)I", prog_3_method_3_code, 4, some .int, 0, 5010, 5009, 33, 1011), (1, "measure", "(I)V", prog_3_method_4_code, 6, none, 0, 5005, 5004, 32, 1011), (1, "seek", "(I)Z", prog_3_method_5_code, 4, some .boolean, 0, 4235, 4233, 4234, 1011), (1, "firstOnTheWay", "()I", prog_3_method_6_code, 2, some .int, 0, 5019, 5018, 34, 1011), (1, "ledBy", "(I)I", prog_3_method_7_code, 6, some .int, 0, 5027, 5025, 5026, 1011), (1, "rootOf", "(I)I", prog_3_method_8_code, 6, some .int, 0, 5035, 5033, 5034, 1011), (1, "tellers", "()I", prog_3_method_9_code, 5, some .int, 0, 5043, 5041, 5042, 1011), (1, "isHeardByAll", "(II)Z", prog_3_method_10_code, 3, some .boolean, 0, 5048, 5047, 35, 1011), (1, "hearers", "(II)I", prog_3_method_11_code, 5, some .int, 0, 5057, 5055, 5056, 1011), (1, "writers", "()I", prog_3_method_12_code, 4, some .int, 0, 5163, 5161, 5162, 1011), (1, "peopleFor", "(II)I", prog_3_method_13_code, 3, some .int, 0, 5168, 5167, 42, 1011), (1, "askNext", "(I)I", prog_3_method_14_code, 8, some .int, 0, 5173, 5171, 5172, 1011), (2, "<init>", "(LCardDrawer$Drawer;LCardDrawer$Told;)V", prog_4_method_1_code, 3, none, 2, 2064, 2063, 0, 1010), (2, "narrow", "()Z", prog_4_method_2_code, 3, some .boolean, 0, 4216, 4214, 4215, 1010), (2, "order", "(II)V", prog_4_method_3_code, 3, none, 0, 4224, 4223, 30, 1010), (3, "<init>", "()V", prog_5_method_1_code, 1, none, 2, 1034, 1033, 0, 1002), (3, "copyFrom", "(LCardDrawer$Drawer;)V", prog_5_method_2_code, 2, none, 0, 3008, 3006, 3007, 1002), (3, "has", "(I)Z", prog_5_method_3_code, 2, some .boolean, 0, 2216, 2214, 2215, 1002), (3, "isKept", "(I)Z", prog_5_method_4_code, 2, some .boolean, 0, 2229, 2227, 2228, 1002), (3, "read", "(II)I", prog_5_method_5_code, 3, some .int, 0, 2236, 2234, 2235, 1002), (3, "write", "(III)V", prog_5_method_6_code, 4, none, 0, 2207, 2205, 2206, 1002), (3, "put", "(IIII)I", prog_5_method_7_code, 6, some .int, 0, 2203, 2201, 2202, 1002), (3, "drop", "(I)V", prog_5_method_8_code, 2, none, 0, 3087, 3085, 3086, 1002), (3, "wear", "(II)V", prog_5_method_9_code, 3, none, 0, 3069, 3067, 3068, 1002), (3, "keptWith", "(II)I", prog_5_method_10_code, 5, some .int, 0, 2225, 2223, 2224, 1002), (3, "peopleOn", "(I)I", prog_5_method_11_code, 4, some .int, 0, 5015, 5013, 5014, 1002), (3, "draw", "(I)I", prog_5_method_12_code, 2, some .int, 0, 3055, 3053, 3054, 1002), (4, "<init>", "()V", prog_6_method_1_code, 2, none, 2, 1216, 1215, 0, 1007), (4, "forget", "()V", prog_6_method_2_code, 1, none, 0, 2192, 2190, 2191, 1007), (4, "remember", "(LCardDrawer$Drawer;I)V", prog_6_method_3_code, 3, none, 0, 3000, 2238, 2239, 1007), (4, "dropOldest", "()V", prog_6_method_4_code, 3, none, 0, 3004, 3003, 0, 1007), (4, "goBack", "(LCardDrawer$Drawer;LCardDrawer$Rows;)Z", prog_6_method_5_code, 3, some .boolean, 0, 5212, 5210, 5211, 1007), (5, "<init>", "(LCardDrawer$Drawer;LCardDrawer$Told;LCardDrawer$Rows;Z)V", prog_7_method_1_code, 5, none, 2, 1194, 1193, 0, 1006), (5, "enter", "(III)V", prog_7_method_2_code, 4, none, 0, 3061, 3060, 3, 1006), (5, "likeliest", "(I)I", prog_7_method_3_code, 5, some .int, 0, 3020, 3018, 3019, 1006), (5, "sumOfHolds", "()I", prog_7_method_4_code, 3, some .int, 0, 5182, 5180, 5181, 1006), (5, "reaches", "(I)Z", prog_7_method_5_code, 2, some .boolean, 0, 3049, 3048, 2, 1006), (5, "ringPerson", "(I)I", prog_7_method_6_code, 4, some .int, 0, 3015, 3013, 3014, 1006), (5, "throwCards", "(I)I", prog_7_method_7_code, 4, some .int, 0, 3078, 3076, 3077, 1006)]
def IR1 : List pR := [(5, "throwLeast", "()Z", prog_7_method_8_code, 5, some .boolean, 0, 3082, 3081, 4, 1006), (5, "bendCard", "(I)V", prog_7_method_9_code, 3, none, 0, 3100, 3098, 3099, 1006), (5, "findCard", "(I)V", prog_7_method_10_code, 2, none, 0, 3096, 3094, 3095, 1006), (5, "passYear", "()V", prog_7_method_11_code, 2, none, 0, 3108, 3106, 3107, 1006), (5, "carryOut", "(II)V", prog_7_method_12_code, 3, none, 0, 3117, 3116, 5, 1006), (5, "wantTrade", "()V", prog_7_method_13_code, 3, none, 0, 3126, 3125, 6, 1006), (5, "wearCard", "(I)V", prog_7_method_14_code, 3, none, 0, 3130, 3129, 7, 1006), (6, "<init>", "()V", prog_8_method_1_code, 1, none, 2, 1090, 1089, 0, 1004), (6, "copyFrom", "(LCardDrawer$Law;)V", prog_8_method_2_code, 2, none, 0, 4138, 4136, 4137, 1004), (6, "clear", "()V", prog_8_method_3_code, 1, none, 0, 3159, 3157, 3158, 1004), (6, "add", "(I)V", prog_8_method_4_code, 2, none, 0, 4090, 4088, 4089, 1004), (6, "addLine", "(III)V", prog_8_method_5_code, 4, none, 0, 4113, 4111, 4112, 1004), (6, "tell", "(LCardDrawer$Drawer;II)I", prog_8_method_6_code, 8, some .int, 0, 3025, 3023, 3024, 1004), (6, "unlessTold", "(II)I", prog_8_method_7_code, 2, some .int, 1, 3045, 3044, 0, 1004), (6, "held", "(II)I", prog_8_method_8_code, 3, some .int, 1, 3039, 3038, 0, 1004), (6, "run", "(II)I", prog_8_method_9_code, 6, some .int, 0, 3033, 3032, 1, 1004), (6, "joined", "(III)I", prog_8_method_10_code, 3, some .int, 1, 3036, 3035, 0, 1004), (7, "<init>", "(LCardDrawer$Tape;)V", prog_9_method_1_code, 2, none, 2, 2021, 2020, 0, 1009), (7, "read", "(II)Z", prog_9_method_2_code, 5, some .boolean, 0, 3155, 3153, 3154, 1009), (7, "advance", "()V", prog_9_method_3_code, 1, none, 0, 4078, 4077, 17, 1009), (7, "fails", "(I)Z", prog_9_method_4_code, 2, some .boolean, 0, 4074, 4073, 16, 1009), (7, "passes", "(I)Z", prog_9_method_5_code, 2, some .boolean, 0, 4109, 4108, 23, 1009), (7, "opens", "(II)Z", prog_9_method_6_code, 3, some .boolean, 0, 4070, 4069, 15, 1009), (7, "passesNumber", "(II)Z", prog_9_method_7_code, 3, some .boolean, 0, 4121, 4120, 25, 1009), (7, "metLine", "()Z", prog_9_method_8_code, 2, some .boolean, 0, 4117, 4116, 24, 1009), (7, "calledLine", "()Z", prog_9_method_9_code, 3, some .boolean, 0, 4126, 4125, 26, 1009), (7, "planLine", "(I)Z", prog_9_method_10_code, 6, some .boolean, 0, 4130, 4129, 27, 1009), (7, "lawLine", "()Z", prog_9_method_11_code, 4, some .boolean, 0, 4066, 4065, 14, 1009), (7, "either", "(I)Z", prog_9_method_12_code, 5, some .boolean, 0, 4101, 4100, 21, 1009), (7, "condition", "(I)Z", prog_9_method_13_code, 4, some .boolean, 0, 4105, 4104, 22, 1009), (7, "sum", "()Z", prog_9_method_14_code, 5, some .boolean, 0, 4082, 4081, 18, 1009), (7, "isJoint", "(I)Z", prog_9_method_15_code, 1, some .boolean, 1, 4093, 4092, 0, 1009), (7, "addIfSign", "(I)V", prog_9_method_16_code, 2, none, 0, 4097, 4096, 20, 1009), (7, "unit", "(Z)Z", prog_9_method_17_code, 4, some .boolean, 0, 4086, 4085, 19, 1009), (8, "<init>", "(I)V", prog_10_method_1_code, 2, none, 2, 1126, 1125, 0, 1005), (8, "add", "(IIII)I", prog_10_method_2_code, 6, some .int, 0, 3065, 3063, 3064, 1005), (8, "clear", "()I", prog_10_method_3_code, 1, some .int, 0, 3163, 3161, 3162, 1005), (8, "at", "(II)I", prog_10_method_4_code, 3, some .int, 0, 3112, 3110, 3111, 1005), (8, "copyFrom", "(LCardDrawer$Rows;)V", prog_10_method_5_code, 2, none, 0, 4153, 4151, 4152, 1005), (9, "<init>", "()V", prog_11_method_1_code, 1, none, 2, 1236, 1235, 0, 1008), (9, "hasRoom", "(I)Z", prog_11_method_2_code, 2, some .boolean, 0, 3138, 3136, 3137, 1008), (9, "append", "(I)V", prog_11_method_3_code, 3, none, 0, 3142, 3140, 3141, 1008), (9, "scan", "()V", prog_11_method_4_code, 5, none, 0, 3168, 3166, 3167, 1008), (9, "put", "(II)V", prog_11_method_5_code, 3, none, 0, 3228, 3227, 11, 1008), (9, "isLetter", "(I)Z", prog_11_method_6_code, 1, some .boolean, 1, 3171, 3170, 0, 1008), (9, "isDigit", "(I)Z", prog_11_method_7_code, 1, some .boolean, 1, 3231, 3230, 0, 1008), (9, "pastLetters", "(I)I", prog_11_method_8_code, 3, some .int, 0, 3175, 3174, 8, 1008), (9, "pastDigits", "(I)I", prog_11_method_9_code, 3, some .int, 0, 3235, 3234, 12, 1008), (9, "wordAt", "(II)I", prog_11_method_10_code, 4, some .int, 0, 3179, 3178, 9, 1008), (9, "isWord", "(III)Z", prog_11_method_11_code, 6, some .boolean, 0, 3183, 3182, 10, 1008), (9, "numberAt", "(II)I", prog_11_method_12_code, 5, some .int, 0, 3239, 3238, 13, 1008), (10, "<init>", "()V", prog_12_method_1_code, 2, none, 2, 1084, 1083, 0, 1003), (10, "copyFrom", "(LCardDrawer$Told;)V", prog_12_method_2_code, 2, none, 0, 5220, 5218, 5219, 1003), (10, "introducer", "(I)I", prog_12_method_3_code, 2, some .int, 0, 4174, 4172, 4173, 1003), (10, "firstYear", "(I)I", prog_12_method_4_code, 2, some .int, 0, 4182, 4180, 4181, 1003), (10, "lastYear", "(I)I", prog_12_method_5_code, 2, some .int, 0, 4186, 4184, 4185, 1003), (10, "take", "(ILCardDrawer$Reader;)V", prog_12_method_6_code, 3, none, 0, 4134, 4132, 4133, 1003), (10, "takeMet", "(LCardDrawer$Rows;)V", prog_12_method_7_code, 4, none, 0, 4143, 4142, 28, 1003), (10, "takeCalled", "(LCardDrawer$Rows;)V", prog_12_method_8_code, 4, none, 0, 4149, 4148, 29, 1003), (11, "<init>", "()V", prog_1_method_1_code, 1, none, 2, 1026, 1025, 0, 1001)]
def IR2 : List pR := [(11, "state", "(I)I", prog_1_method_2_code, 3, some .int, 0, 2188, 2186, 2187, 1001), (11, "card", "(IIII)I", prog_1_method_3_code, 5, some .int, 0, 2196, 2194, 2195, 1001), (11, "set", "(III)Z", prog_1_method_4_code, 4, some .boolean, 0, 2212, 2210, 2211, 1001), (11, "ring", "(I)I", prog_1_method_5_code, 2, some .int, 0, 2221, 2219, 2220, 1001), (11, "toss", "(I)I", prog_1_method_6_code, 2, some .int, 0, 3074, 3072, 3073, 1001), (11, "does", "(IZ)Z", prog_1_method_7_code, 3, some .boolean, 0, 3091, 3089, 3090, 1001), (11, "years", "(I)I", prog_1_method_8_code, 4, some .int, 0, 3104, 3102, 3103, 1001), (11, "feed", "(IIIII)I", prog_1_method_9_code, 6, some .int, 0, 3134, 3132, 3133, 1001), (11, "end", "(I)Z", prog_1_method_10_code, 2, some .boolean, 0, 3147, 3145, 3146, 1001), (11, "text", "(I)I", prog_1_method_11_code, 3, some .int, 0, 3151, 3149, 3150, 1001), (11, "fault", "(I)I", prog_1_method_12_code, 2, some .int, 0, 4160, 4158, 4159, 1001), (11, "of", "(II)I", prog_1_method_13_code, 3, some .int, 0, 4164, 4162, 4163, 1001), (11, "met", "(I)I", prog_1_method_14_code, 2, some .int, 0, 4170, 4168, 4169, 1001), (11, "called", "(II)I", prog_1_method_15_code, 3, some .int, 0, 4178, 4176, 4177, 1001), (11, "book", "(II)I", prog_1_method_16_code, 3, some .int, 0, 4190, 4188, 4189, 1001), (11, "goes", "(II)I", prog_1_method_17_code, 4, some .int, 0, 4195, 4193, 4194, 1001), (11, "ahead", "(II)I", prog_1_method_18_code, 3, some .int, 0, 4206, 4204, 4205, 1001), (11, "dated", "(II)I", prog_1_method_19_code, 3, some .int, 0, 4212, 4210, 4211, 1001), (11, "hands", "(II)I", prog_1_method_20_code, 3, some .int, 0, 4231, 4229, 4230, 1001), (11, "led", "(I)I", prog_1_method_21_code, 2, some .int, 0, 5023, 5021, 5022, 1001), (11, "root", "(I)I", prog_1_method_22_code, 2, some .int, 0, 5031, 5029, 5030, 1001), (11, "tells", "(I)I", prog_1_method_23_code, 3, some .int, 0, 5039, 5037, 5038, 1001), (11, "hears", "(II)I", prog_1_method_24_code, 3, some .int, 0, 5052, 5050, 5051, 1001), (11, "asks", "(II)I", prog_1_method_25_code, 3, some .int, 0, 5061, 5059, 5060, 1001), (11, "keeps", "(II)I", prog_1_method_26_code, 3, some .int, 0, 5068, 5066, 5067, 1001), (11, "sorted", "(I)I", prog_1_method_27_code, 3, some .int, 0, 5096, 5094, 5095, 1001), (11, "apart", "()I", prog_1_method_28_code, 1, some .int, 0, 5110, 5108, 5109, 1001), (11, "seconds", "()I", prog_1_method_29_code, 1, some .int, 0, 5127, 5125, 5126, 1001), (11, "beside", "(II)I", prog_1_method_30_code, 4, some .int, 0, 5139, 5137, 5138, 1001), (11, "note", "(IIZ)I", prog_1_method_31_code, 4, some .int, 0, 5152, 5150, 5151, 1001), (11, "whose", "(I)I", prog_1_method_32_code, 3, some .int, 0, 5159, 5157, 5158, 1001), (11, "uses", "(I)I", prog_1_method_33_code, 2, some .int, 0, 5178, 5176, 5177, 1001), (11, "game", "(I)I", prog_1_method_34_code, 3, some .int, 0, 5187, 5185, 5186, 1001), (11, "undo", "()Z", prog_1_method_35_code, 1, some .boolean, 0, 5208, 5206, 5207, 1001), (11, "image", "(Z)Z", prog_1_method_36_code, 2, some .boolean, 0, 5216, 5214, 5215, 1001), (11, "look", "(I)I", prog_1_method_37_code, 2, some .int, 0, 5226, 5224, 5225, 1001), (11, "within", "(II)Z", prog_1_method_38_code, 2, some .boolean, 1, 2199, 2198, 0, 1001), (11, "holdsBit", "(II)Z", prog_1_method_39_code, 2, some .boolean, 1, 2232, 2231, 0, 1001), (11, "kinds", "(I)I", prog_1_method_40_code, 1, some .int, 1, 5064, 5063, 0, 1001), (11, "noteKinds", "(I)I", prog_1_method_41_code, 1, some .int, 1, 5155, 5154, 0, 1001), (12, "<init>", "()V", prog_14_method_1_code, 1, none, 2, 5231, 5230, 0, 1013), (12, "isIn", "(III)Z", prog_14_method_3_code, 4, some .boolean, 0, 6193, 6192, 46, 1013), (12, "held", "(III)I", prog_14_method_4_code, 4, some .int, 0, 7153, 7152, 90, 1013), (12, "greater", "(II)I", prog_14_method_5_code, 3, some .int, 0, 7133, 7132, 85, 1013), (12, "lesser", "(II)I", prog_14_method_6_code, 3, some .int, 0, 7175, 7174, 95, 1013), (12, "onesOf", "(I)I", prog_14_method_7_code, 4, some .int, 0, 8027, 8026, 110, 1013), (12, "has", "(II)Z", prog_14_method_8_code, 3, some .boolean, 0, 8059, 8058, 115, 1013), (12, "keepsAhead", "()V", prog_14_method_9_code, 2, none, 0, 7157, 7156, 91, 1013), (12, "undo", "()Z", prog_14_method_10_code, 2, some .boolean, 0, 6177, 6175, 6176, 1013), (12, "thinks", "()V", prog_14_method_11_code, 2, none, 0, 8019, 8018, 108, 1013), (12, "endsThought", "()V", prog_14_method_12_code, 2, none, 0, 8031, 8030, 111, 1013), (12, "state", "(I)I", prog_14_method_13_code, 3, some .int, 0, 6181, 6179, 6180, 1013), (12, "draw", "(I)I", prog_14_method_14_code, 2, some .int, 0, 7169, 7168, 94, 1013), (12, "isCard", "(I)Z", prog_14_method_15_code, 2, some .boolean, 0, 6201, 6200, 47, 1013), (12, "isPerson", "(I)Z", prog_14_method_16_code, 2, some .boolean, 0, 6189, 6188, 45, 1013), (12, "isKept", "(I)Z", prog_14_method_17_code, 2, some .boolean, 0, 7121, 7120, 82, 1013), (12, "keptSet", "()I", prog_14_method_18_code, 3, some .int, 0, 8023, 8022, 109, 1013), (12, "introducer", "(I)I", prog_14_method_19_code, 2, some .int, 0, 8003, 8002, 107, 1013), (12, "card", "(IIII)I", prog_14_method_20_code, 5, some .int, 0, 6185, 6183, 6184, 1013), (12, "set", "(III)Z", prog_14_method_21_code, 4, some .boolean, 0, 6197, 6195, 6196, 1013)]
def IR3 : List pR := [(12, "types", "(I)V", prog_14_method_22_code, 3, none, 0, 6209, 6208, 48, 1013), (12, "feed", "(IIIII)I", prog_14_method_23_code, 6, some .int, 0, 6205, 6203, 6204, 1013), (12, "end", "(I)Z", prog_14_method_24_code, 2, some .boolean, 0, 6213, 6211, 6212, 1013), (12, "raw", "(I)I", prog_14_method_25_code, 2, some .int, 0, 6229, 6228, 51, 1013), (12, "isLetter", "(I)Z", prog_14_method_26_code, 2, some .boolean, 0, 6233, 6232, 52, 1013), (12, "isDigit", "(I)Z", prog_14_method_27_code, 2, some .boolean, 0, 7001, 7000, 54, 1013), (12, "isMarkSign", "(I)Z", prog_14_method_28_code, 2, some .boolean, 0, 7005, 7004, 55, 1013), (12, "wordAt", "(II)I", prog_14_method_29_code, 6, some .int, 0, 6237, 6236, 53, 1013), (12, "reads", "()V", prog_14_method_30_code, 2, none, 0, 6225, 6224, 50, 1013), (12, "errs", "(I)I", prog_14_method_31_code, 2, some .int, 0, 7017, 7016, 58, 1013), (12, "isWord", "(I)Z", prog_14_method_32_code, 2, some .boolean, 0, 7013, 7012, 57, 1013), (12, "isSign", "(I)Z", prog_14_method_33_code, 2, some .boolean, 0, 7037, 7036, 63, 1013), (12, "emits", "(II)V", prog_14_method_34_code, 3, none, 0, 7081, 7080, 74, 1013), (12, "canAsk", "(I)Z", prog_14_method_35_code, 2, some .boolean, 0, 7077, 7076, 73, 1013), (12, "readUnit", "()I", prog_14_method_36_code, 2, some .int, 0, 7073, 7072, 72, 1013), (12, "readProduct", "()I", prog_14_method_37_code, 2, some .int, 0, 7069, 7068, 71, 1013), (12, "readSum", "()I", prog_14_method_38_code, 2, some .int, 0, 7065, 7064, 70, 1013), (12, "readCompared", "()I", prog_14_method_39_code, 2, some .int, 0, 7093, 7092, 77, 1013), (12, "waits", "(I)V", prog_14_method_40_code, 2, none, 0, 7089, 7088, 76, 1013), (12, "settles", "(I)V", prog_14_method_41_code, 2, none, 0, 7097, 7096, 78, 1013), (12, "readAny", "()I", prog_14_method_42_code, 4, some .int, 0, 7085, 7084, 75, 1013), (12, "isLineWord", "()Z", prog_14_method_43_code, 1, some .boolean, 0, 7061, 7060, 69, 1013), (12, "readLaw", "()I", prog_14_method_44_code, 3, some .int, 0, 7057, 7056, 68, 1013), (12, "takesLaw", "(I)V", prog_14_method_45_code, 3, none, 0, 7101, 7100, 79, 1013), (12, "readNumber", "(II)I", prog_14_method_46_code, 4, some .int, 0, 7029, 7028, 61, 1013), (12, "readMark", "(I)I", prog_14_method_47_code, 2, some .int, 0, 7033, 7032, 62, 1013), (12, "readTold", "(III)I", prog_14_method_48_code, 4, some .int, 0, 7025, 7024, 60, 1013), (12, "readMetLine", "()I", prog_14_method_49_code, 3, some .int, 0, 7021, 7020, 59, 1013), (12, "readMet", "()I", prog_14_method_50_code, 2, some .int, 0, 7009, 7008, 56, 1013), (12, "readCalledLine", "()I", prog_14_method_51_code, 4, some .int, 0, 7045, 7044, 65, 1013), (12, "readCalled", "()I", prog_14_method_52_code, 2, some .int, 0, 7041, 7040, 64, 1013), (12, "readDeed", "(I)I", prog_14_method_53_code, 3, some .int, 0, 7053, 7052, 67, 1013), (12, "readPlan", "()I", prog_14_method_54_code, 2, some .int, 0, 7049, 7048, 66, 1013), (12, "readsText", "(I)I", prog_14_method_55_code, 2, some .int, 0, 6221, 6220, 49, 1013), (12, "takesOther", "(II)V", prog_14_method_56_code, 4, none, 0, 7105, 7104, 80, 1013), (12, "text", "(I)I", prog_14_method_57_code, 3, some .int, 0, 6217, 6215, 6216, 1013), (12, "fault", "(I)I", prog_14_method_58_code, 2, some .int, 0, 7109, 7107, 7108, 1013), (12, "twoOf", "(III)I", prog_14_method_59_code, 4, some .int, 0, 7149, 7148, 89, 1013), (12, "runs", "(III)I", prog_14_method_60_code, 6, some .int, 0, 7145, 7144, 88, 1013), (12, "lineOf", "(I)I", prog_14_method_61_code, 3, some .int, 0, 7141, 7140, 87, 1013), (12, "lawTells", "(IIII)I", prog_14_method_62_code, 6, some .int, 0, 7137, 7136, 86, 1013), (12, "ageOf", "(I)I", prog_14_method_63_code, 2, some .int, 0, 7129, 7128, 84, 1013), (12, "holdsOf", "(I)I", prog_14_method_64_code, 2, some .int, 0, 7125, 7124, 83, 1013), (12, "dustOf", "(I)I", prog_14_method_65_code, 2, some .int, 0, 7231, 7230, 106, 1013), (12, "worthOf", "(I)I", prog_14_method_66_code, 2, some .int, 0, 7195, 7194, 99, 1013), (12, "notes", "(III)V", prog_14_method_67_code, 5, none, 0, 7179, 7178, 96, 1013), (12, "bestCard", "(II)I", prog_14_method_68_code, 5, some .int, 0, 7117, 7116, 81, 1013), (12, "doesHold", "(II)Z", prog_14_method_69_code, 3, some .boolean, 0, 7165, 7164, 93, 1013), (12, "rings", "(I)I", prog_14_method_70_code, 5, some .int, 0, 7161, 7160, 92, 1013), (12, "leastWorth", "()I", prog_14_method_71_code, 3, some .int, 0, 7191, 7190, 98, 1013), (12, "throwsSome", "(I)I", prog_14_method_72_code, 5, some .int, 0, 7187, 7186, 97, 1013), (12, "bends", "(I)V", prog_14_method_73_code, 2, none, 0, 7207, 7206, 101, 1013), (12, "finds", "(I)V", prog_14_method_74_code, 2, none, 0, 7203, 7202, 100, 1013), (12, "ring", "(I)I", prog_14_method_75_code, 2, some .int, 0, 7113, 7111, 7112, 1013), (12, "toss", "(I)I", prog_14_method_76_code, 2, some .int, 0, 7183, 7181, 7182, 1013), (12, "does", "(IZ)Z", prog_14_method_77_code, 3, some .boolean, 0, 7199, 7197, 7198, 1013), (12, "doesDeed", "(I)V", prog_14_method_78_code, 3, none, 0, 7219, 7218, 103, 1013), (12, "isServed", "()Z", prog_14_method_79_code, 6, some .boolean, 0, 7223, 7222, 104, 1013), (12, "wears", "(I)V", prog_14_method_80_code, 3, none, 0, 7227, 7226, 105, 1013), (12, "goesBy", "()I", prog_14_method_81_code, 3, some .int, 0, 7215, 7214, 102, 1013)]
def IR4 : List pR := [(12, "years", "(I)I", prog_14_method_82_code, 4, some .int, 0, 7211, 7209, 7210, 1013), (12, "of", "(II)I", prog_14_method_83_code, 3, some .int, 0, 7235, 7233, 7234, 1013), (12, "met", "(I)I", prog_14_method_84_code, 2, some .int, 0, 7239, 7237, 7238, 1013), (12, "called", "(II)I", prog_14_method_85_code, 3, some .int, 0, 8007, 8005, 8006, 1013), (12, "book", "(II)I", prog_14_method_86_code, 3, some .int, 0, 8011, 8009, 8010, 1013), (12, "goes", "(II)I", prog_14_method_87_code, 4, some .int, 0, 8015, 8013, 8014, 1013), (12, "ahead", "(II)I", prog_14_method_88_code, 3, some .int, 0, 8035, 8033, 8034, 1013), (12, "canBeDated", "()Z", prog_14_method_89_code, 3, some .boolean, 0, 8043, 8042, 112, 1013), (12, "dated", "(II)I", prog_14_method_90_code, 3, some .int, 0, 8039, 8037, 8038, 1013), (12, "besideOf", "(I)I", prog_14_method_91_code, 4, some .int, 0, 8063, 8062, 116, 1013), (12, "besideAll", "(I)I", prog_14_method_92_code, 4, some .int, 0, 8055, 8054, 114, 1013), (12, "lowest", "(I)I", prog_14_method_93_code, 3, some .int, 0, 8067, 8066, 117, 1013), (12, "ownersOf", "(I)I", prog_14_method_94_code, 4, some .int, 0, 8051, 8050, 113, 1013), (12, "hands", "(II)I", prog_14_method_95_code, 8, some .int, 0, 8047, 8045, 8046, 1013), (12, "ledBy", "(I)I", prog_14_method_96_code, 5, some .int, 0, 8075, 8074, 118, 1013), (12, "led", "(I)I", prog_14_method_97_code, 2, some .int, 0, 8071, 8069, 8070, 1013), (12, "root", "(I)I", prog_14_method_98_code, 4, some .int, 0, 8079, 8077, 8078, 1013), (12, "known", "()I", prog_14_method_99_code, 3, some .int, 0, 8087, 8086, 119, 1013), (12, "tells", "(I)I", prog_14_method_100_code, 5, some .int, 0, 8083, 8081, 8082, 1013), (12, "hears", "(II)I", prog_14_method_101_code, 5, some .int, 0, 8091, 8089, 8090, 1013), (12, "asks", "(II)I", prog_14_method_102_code, 3, some .int, 0, 8095, 8093, 8094, 1013), (12, "factOf", "(II)I", prog_14_method_103_code, 3, some .int, 0, 8111, 8110, 122, 1013), (12, "answersIn", "(II)I", prog_14_method_104_code, 5, some .int, 0, 8107, 8106, 121, 1013), (12, "foundBy", "(I)I", prog_14_method_105_code, 4, some .int, 0, 8103, 8102, 120, 1013), (12, "keeps", "(II)I", prog_14_method_106_code, 8, some .int, 0, 8099, 8097, 8098, 1013), (12, "lookedAt", "(I)I", prog_14_method_107_code, 4, some .int, 0, 8119, 8118, 123, 1013), (12, "sorted", "(I)I", prog_14_method_108_code, 4, some .int, 0, 8115, 8113, 8114, 1013), (12, "areAlike", "(III)Z", prog_14_method_109_code, 5, some .boolean, 0, 8131, 8130, 125, 1013), (12, "tellsApart", "(I)Z", prog_14_method_110_code, 4, some .boolean, 0, 8127, 8126, 124, 1013), (12, "apart", "()I", prog_14_method_111_code, 3, some .int, 0, 8123, 8121, 8122, 1013), (12, "isAhead", "(II)Z", prog_14_method_112_code, 3, some .boolean, 0, 8139, 8138, 126, 1013), (12, "seconds", "()I", prog_14_method_113_code, 4, some .int, 0, 8135, 8133, 8134, 1013), (12, "inCommon", "(II)I", prog_14_method_114_code, 5, some .int, 0, 8147, 8146, 127, 1013), (12, "beside", "(II)I", prog_14_method_115_code, 5, some .int, 0, 8143, 8141, 8142, 1013), (12, "note", "(IIZ)I", prog_14_method_116_code, 4, some .int, 0, 8151, 8149, 8150, 1013), (12, "hasSuch", "(III)Z", prog_14_method_117_code, 5, some .boolean, 0, 8163, 8162, 129, 1013), (12, "isNoted", "(II)Z", prog_14_method_118_code, 5, some .boolean, 0, 8167, 8166, 130, 1013), (12, "writers", "()I", prog_14_method_119_code, 5, some .int, 0, 8159, 8158, 128, 1013), (12, "whose", "(I)I", prog_14_method_120_code, 9, some .int, 0, 8155, 8153, 8154, 1013), (12, "uses", "(I)I", prog_14_method_121_code, 5, some .int, 0, 8172, 8170, 8171, 1013), (12, "heapOf", "(I)I", prog_14_method_122_code, 4, some .int, 0, 8180, 8179, 131, 1013), (12, "game", "(I)I", prog_14_method_123_code, 4, some .int, 0, 8176, 8174, 8175, 1013), (12, "keepsOne", "(I)I", prog_14_method_124_code, 2, some .int, 0, 8188, 8187, 132, 1013), (12, "keepsLaw", "()V", prog_14_method_125_code, 2, none, 0, 8200, 8199, 135, 1013), (12, "keepsTexts", "()V", prog_14_method_126_code, 2, none, 0, 8196, 8195, 134, 1013), (12, "keepsTold", "()V", prog_14_method_127_code, 2, none, 0, 8192, 8191, 133, 1013), (12, "image", "(Z)Z", prog_14_method_128_code, 3, some .boolean, 0, 8184, 8182, 8183, 1013), (12, "look", "(I)I", prog_14_method_129_code, 2, some .int, 0, 8204, 8202, 8203, 1013), (13, "bitCount", "(I)I", prog_16_method_49_code, 1, some .int, 1, 4199, 4198, 0, 1021), (14, "charAt", "(I)C", prog_18_method_56_code, 2, some .char, 0, 3188, 3186, 3187, 1016), (14, "isLatin1", "()Z", prog_18_method_154_code, 1, some .boolean, 0, 3192, 3190, 3191, 1016), (14, "checkIndex", "(II)V", prog_18_method_155_code, 2, none, 1, 3200, 3199, 0, 1016), (15, "charAt", "([BI)C", prog_19_method_2_code, 2, some .char, 1, 3197, 3196, 0, 1017), (16, "checkIndex", "(IILjava/util/function/BiFunction;)I", prog_22_method_11_code, 3, some .int, 1, 3205, 3204, 0, 1018), (14, "indexOf", "(I)I", prog_18_method_79_code, 2, some .int, 0, 4004, 4002, 4003, 1016), (14, "indexOf", "(II)I", prog_18_method_80_code, 3, some .int, 0, 4008, 4006, 4007, 1016), (14, "length", "()I", prog_18_method_54_code, 1, some .int, 0, 4012, 4010, 4011, 1016), (14, "coder", "()B", prog_18_method_152_code, 1, some .byte, 0, 4016, 4014, 4015, 1016), (15, "indexOf", "([BIII)I", prog_19_method_22_code, 4, some .int, 1, 4019, 4018, 0, 1017), (15, "canEncode", "(I)Z", prog_19_method_4_code, 1, some .boolean, 1, 4022, 4021, 0, 1017)]
def IR5 : List pR := [(15, "indexOfChar", "([BIII)I", prog_19_method_23_code, 6, some .int, 1, 4027, 4026, 0, 1017)]
def IRL : List pR := IR0 ++ IR1 ++ IR2 ++ IR3 ++ IR4 ++ IR5
def IRo (k : Nat) : pR := IRL.getD k (99, "", "", ⟨#[]⟩, 0, none, 9, 0, 0, 0, 0)
def IN (k : Nat) : pN := (⟨cnm.getD (IRo k).1 "", (IRo k).2.1, (IRo k).2.2.1⟩, (IRo k).2.2.2.1, (IRo k).2.2.2.2.1, (IRo k).2.2.2.2.2.1, (IRo k).2.2.2.2.2.2.1)
def tbq : Nat → List Cond
  | 0 => k2_sels lw_privs
  | 1 => tables_1_1
  | 2 => tables_1_2
  | 3 => tables_1_3
  | 4 => tables_1_4
  | 5 => tables_1_5
  | 6 => tables_1_6
  | 7 => tables_1_7
  | 8 => tables_1_8
  | _ => []
def tbw (w : Nat) : Option Cond := (tbq (w / 1000))[w % 1000]?
theorem tbq_in (c : Nat) {x : Cond} (h : x ∈ tbq c) : x ∈ lw_tbl := by
  unfold lw_tbl tables_1
  simp only [List.mem_append]
  match c, h with
  | 0, h => exact Or.inl h
  | 1, h => exact Or.inr (Or.inl h)
  | 2, h => exact Or.inr (Or.inr (Or.inl h))
  | 3, h => exact Or.inr (Or.inr (Or.inr (Or.inl h)))
  | 4, h => exact Or.inr (Or.inr (Or.inr (Or.inr (Or.inl h))))
  | 5, h => exact Or.inr (Or.inr (Or.inr (Or.inr (Or.inr (Or.inl h)))))
  | 6, h => exact Or.inr (Or.inr (Or.inr (Or.inr (Or.inr (Or.inr (Or.inl h))))))
  | 7, h => exact Or.inr (Or.inr (Or.inr (Or.inr (Or.inr (Or.inr (Or.inr (Or.inl h)))))))
  | 8, h => exact Or.inr (Or.inr (Or.inr (Or.inr (Or.inr (Or.inr (Or.inr (Or.inr h)))))))
  | c + 9, h => exact absurd h List.not_mem_nil
/-- the words that every method is given -/
def GW : List Cond := lw_tbl.filter goodWord
theorem GW_good : ∀ w ∈ GW, goodWord w = true := fun w h => (List.mem_filter.mp h).2
theorem GW_of {w : Nat} {x : Cond} (h : tbw w = some x) (hg : goodWord x = true) : x ∈ GW := List.mem_filter.mpr ⟨tbq_in (w / 1000) (List.mem_of_getElem? h), hg⟩
def layP : List (List Nat) := [[2125, 2127, 2129, 2131, 2133], [2097, 2099, 2101, 2103, 2105, 2107, 2109], [2072, 2074, 2076, 2078], [1062, 1064, 1066, 1068, 1070, 1072, 1074, 1076], [1225, 1227, 1229], [1201, 1203, 1205, 1207, 1209], [1103, 1105, 1107, 1109, 1111, 1113, 1115, 1117, 1119], [2041, 2043, 2045, 2047, 2049, 2051, 2053, 2055, 2057], [1138, 1140, 1142], [2006, 2008, 2010, 2012, 2014], [1167, 1169, 1171, 1173, 1175, 1177, 1179, 1181, 1183, 1185], [2152, 2154, 2156, 2158, 2160, 2162, 2164, 2166, 2168, 2170, 2172, 2174, 2176, 2178, 2180, 2182], [6053, 6055, 6057, 6059, 6061, 6063, 6065, 6067, 6069, 6071, 6073, 6075, 6077, 6079, 6081, 6083, 6085, 6087, 6089, 6091, 6093, 6095, 6097, 6099, 6101, 6103, 6105, 6107, 6109, 6111, 6113, 6115, 6117, 6119, 6121, 6123, 6125, 6127, 6129, 6131, 6133, 6135, 6137, 6139, 6141, 6143, 6145, 6147, 6149, 6151, 6153, 6155, 6157, 6159, 6161, 6163, 6165, 6167, 6169, 6171]]
def layOk (b : Nat) : Bool := match cls[b]?, layP[b]? with
  | some (C, T, N), some ps => decide ((u_ws C T N).map some = ps.map tbw)
  | _, _ => false
theorem lay_all : (List.range 13).all layOk = true := by decide +kernel
theorem lay_in {b : Nat} {C : String} {T : u_T} {N : Nat} (hb : cls[b]? = some (C, T, N)) : ∀ w ∈ u_ws C T N, w ∈ GW := by
  intro w hw
  have hlt : b < 13 := (List.getElem?_eq_some_iff.mp hb).1
  have h1 := List.all_eq_true.mp lay_all b (List.mem_range.mpr hlt)
  unfold layOk at h1
  rw [hb] at h1
  split at h1
  · rename_i C' T' N' ps e1 e2
    cases e1
    have h2 := of_decide_eq_true h1
    have h3 : some w ∈ (u_ws C T N).map some := List.mem_map.mpr ⟨w, hw, rfl⟩
    rw [h2] at h3
    obtain ⟨p, -, hp⟩ := List.mem_map.mp h3
    refine GW_of hp ?_
    obtain ⟨k, -, rfl⟩ := List.mem_map.mp hw
    unfold u_lay
    split <;> rfl
  · cases h1
def tyOk (b : Nat) : Bool := match cls[b]?, yCs[b]? with
  | some (_, T, N), some y => (List.range N).all (fun k => decide (parseFieldDescriptor (T k).2.2.1 = some (y k)) && (List.range N).all (fun j => decide (k = j) || decide ((T k).2.1 ≠ (T j).2.1)))
  | _, _ => false
theorem ty_all : (List.range 13).all tyOk = true := by decide +kernel
theorem ty_of {b : Nat} {C : String} {T : u_T} {N : Nat} (hb : cls[b]? = some (C, T, N)) : ∃ y, yCs[b]? = some y ∧ (∀ k, k < N → parseFieldDescriptor (T k).2.2.1 = some (y k)) ∧ ∀ x, x < N → ∀ z, z < N → x ≠ z → (T x).2.1 ≠ (T z).2.1 := by
  have hlt : b < 13 := (List.getElem?_eq_some_iff.mp hb).1
  have h1 := List.all_eq_true.mp ty_all b (List.mem_range.mpr hlt)
  unfold tyOk at h1
  rw [hb] at h1
  split at h1
  · rename_i C' T' N' y e1 e2
    cases e1
    have h2 := List.all_eq_true.mp h1
    refine ⟨y, e2, fun k hk => ?_, fun x hx z hz hne => ?_⟩
    · have := h2 k (List.mem_range.mpr hk)
      simp only [Bool.and_eq_true, decide_eq_true_eq] at this
      exact this.1
    · have := h2 x (List.mem_range.mpr hx)
      simp only [Bool.and_eq_true, decide_eq_true_eq] at this
      have := List.all_eq_true.mp this.2 z (List.mem_range.mpr hz)
      simp only [Bool.or_eq_true, decide_eq_true_eq] at this
      exact this.resolve_left hne
  · cases h1
/-- field links: whose, which, class, field, place of the word -/
def FLK : List (Nat × Nat × Nat × Nat × Nat) := [(0, 9, 0, 2, 2120), (0, 15, 0, 0, 2118), (0, 19, 0, 1, 2119), (0, 23, 10, 6, 1158), (0, 29, 8, 2, 1131), (0, 41, 3, 1, 1039), (0, 54, 0, 3, 2121), (0, 57, 0, 4, 2123), (0, 88, 3, 2, 1043), (1, 9, 1, 2, 2089), (1, 15, 1, 3, 2090), (1, 18, 1, 0, 2087), (1, 22, 1, 1, 2088), (1, 59, 1, 5, 2093), (1, 63, 1, 4, 2091), (1, 69, 1, 6, 2095), (1, 72, 3, 2, 1044), (1, 83, 10, 7, 1161), (1, 87, 8, 2, 1137), (2, 9, 2, 2, 2068), (2, 15, 2, 3, 2070), (2, 18, 2, 0, 2066), (2, 22, 2, 1, 2067), (2, 26, 3, 1, 1037), (2, 45, 10, 5, 1155), (2, 49, 8, 2, 1132), (3, 9, 3, 0, 1036), (3, 21, 3, 1, 1038), (3, 25, 3, 2, 1042), (3, 28, 3, 3, 1048), (3, 31, 3, 4, 1051), (3, 34, 3, 5, 1054), (3, 37, 3, 6, 1057), (3, 40, 3, 7, 1061), (4, 11, 4, 0, 1221), (4, 15, 4, 1, 1222), (4, 20, 4, 2, 1223), (4, 31, 8, 2, 1134), (5, 9, 5, 0, 1196), (5, 15, 5, 1, 1197), (5, 19, 5, 2, 1198), (5, 23, 5, 3, 1199), (5, 27, 3, 3, 1047), (5, 39, 5, 4, 1200), (5, 42, 3, 1, 1040), (5, 49, 10, 0, 1146), (5, 101, 3, 2, 1045), (5, 104, 10, 4, 1152), (5, 107, 8, 2, 1136), (5, 137, 3, 6, 1058), (5, 140, 3, 4, 1053), (5, 143, 3, 5, 1055), (6, 9, 6, 0, 1092), (6, 15, 6, 1, 1093), (6, 18, 6, 2, 1094), (6, 21, 6, 3, 1095), (6, 24, 6, 4, 1096), (6, 27, 6, 5, 1097), (6, 30, 6, 6, 1098), (6, 33, 6, 7, 1099), (6, 43, 6, 8, 1101), (6, 52, 3, 3, 1050), (7, 12, 7, 1, 2028), (7, 23, 7, 2, 2030), (7, 27, 7, 5, 2036), (7, 31, 7, 0, 2027), (7, 35, 7, 4, 2034), (7, 38, 7, 3, 2032), (7, 56, 7, 6, 2038), (7, 59, 9, 1, 2000), (7, 63, 7, 7, 2039), (7, 80, 9, 2, 2002), (7, 89, 7, 8, 2040), (7, 105, 6, 7, 1100), (8, 9, 8, 0, 1128), (8, 15, 8, 1, 1129), (8, 19, 8, 2, 1130), (9, 9, 9, 0, 1238), (9, 15, 9, 1, 1239), (9, 18, 9, 2, 2001), (9, 21, 9, 4, 2004), (9, 29, 9, 3, 2003), (10, 12, 10, 0, 1145), (10, 18, 10, 1, 1148), (10, 22, 10, 2, 1149), (10, 25, 10, 3, 1150), (10, 33, 10, 4, 1151), (10, 37, 10, 5, 1154), (10, 40, 10, 6, 1157), (10, 43, 10, 7, 1160), (10, 59, 10, 8, 1163), (10, 63, 10, 9, 1165), (10, 70, 7, 1, 2029), (10, 73, 7, 2, 2031), (10, 82, 8, 2, 1135), (11, 10, 11, 0, 2136), (11, 19, 11, 1, 2137), (11, 28, 11, 2, 2138), (11, 37, 11, 3, 2139), (11, 41, 11, 4, 2140), (11, 44, 11, 5, 2141), (11, 50, 11, 6, 2142), (11, 57, 11, 7, 2143), (11, 66, 11, 8, 2144), (11, 75, 11, 9, 2145), (11, 82, 11, 10, 2146), (11, 89, 11, 11, 2147), (11, 93, 11, 12, 2148), (11, 96, 11, 13, 2149), (11, 99, 11, 14, 2150), (11, 102, 11, 15, 2151), (11, 106, 3, 7, 1060), (11, 117, 3, 1, 1041), (11, 124, 3, 3, 1049), (11, 139, 8, 2, 1133), (11, 162, 3, 4, 1052), (11, 174, 9, 4, 2005), (11, 184, 7, 3, 2033), (11, 187, 7, 4, 2035), (11, 190, 7, 5, 2037), (11, 195, 10, 0, 1147), (11, 221, 3, 5, 1056), (11, 224, 3, 6, 1059), (11, 227, 3, 2, 1046), (11, 235, 10, 5, 1156), (11, 249, 2, 2, 2069), (11, 253, 2, 3, 2071), (11, 259, 1, 4, 2092), (11, 262, 1, 5, 2094), (11, 265, 1, 6, 2096), (11, 283, 10, 6, 1159), (11, 292, 0, 3, 2122), (11, 295, 0, 4, 2124), (11, 316, 10, 7, 1162), (11, 350, 6, 8, 1102), (11, 351, 10, 8, 1164), (11, 354, 10, 9, 1166), (11, 357, 10, 4, 1153), (11, 360, 4, 2, 1224), (12, 7, 12, 1, 5234), (12, 13, 12, 2, 5235), (12, 16, 12, 4, 5237), (12, 19, 12, 7, 6000), (12, 22, 12, 8, 6001), (12, 25, 12, 9, 6002), (12, 28, 12, 10, 6003), (12, 31, 12, 11, 6004), (12, 34, 12, 17, 6010), (12, 37, 12, 18, 6011), (12, 40, 12, 19, 6012), (12, 43, 12, 20, 6013), (12, 46, 12, 21, 6014), (12, 49, 12, 22, 6015), (12, 52, 12, 23, 6016), (12, 55, 12, 24, 6017), (12, 58, 12, 28, 6021), (12, 61, 12, 33, 6026), (12, 65, 12, 35, 6028), (12, 68, 12, 37, 6030), (12, 71, 12, 38, 6031), (12, 74, 12, 40, 6033), (12, 77, 12, 41, 6034), (12, 80, 12, 42, 6035), (12, 83, 12, 44, 6037), (12, 86, 12, 45, 6038), (12, 89, 12, 46, 6039), (12, 92, 12, 47, 6040), (12, 95, 12, 48, 6041), (12, 98, 12, 50, 6043), (12, 101, 12, 51, 6044), (12, 104, 12, 53, 6046), (12, 107, 12, 54, 6047), (12, 110, 12, 55, 6048), (12, 113, 12, 59, 6052), (12, 119, 12, 3, 5236), (12, 116, 12, 0, 5233), (12, 122, 12, 5, 5238), (12, 128, 12, 6, 5239), (12, 145, 12, 12, 6005), (12, 152, 12, 13, 6006), (12, 159, 12, 14, 6007), (12, 162, 12, 15, 6008), (12, 165, 12, 16, 6009), (12, 181, 12, 30, 6023), (12, 184, 12, 31, 6024), (12, 187, 12, 26, 6019), (12, 216, 12, 29, 6022), (12, 219, 12, 27, 6020), (12, 241, 12, 25, 6018), (12, 275, 12, 34, 6027), (12, 278, 12, 36, 6029), (12, 281, 12, 39, 6032), (12, 284, 12, 32, 6025), (12, 389, 12, 43, 6036), (12, 416, 12, 49, 6042), (12, 443, 12, 52, 6045), (12, 459, 12, 58, 6051), (12, 462, 12, 56, 6049), (12, 468, 12, 57, 6050)]
def flkOk (q : Nat × Nat × Nat × Nat × Nat) : Bool := match cls[q.2.2.1]? with
  | some (_, T, N) => decide (q.2.2.2.1 < N) && decide (tbw q.2.2.2.2 = some (.fieldLink (cnm.getD q.1 "") q.2.1 (T q.2.2.2.1).1 (T q.2.2.2.1).2.1 (T q.2.2.2.1).2.2.1))
  | none => false
theorem flk_all : FLK.all flkOk = true := by decide +kernel
/-- method links: whose, which, callee, nest mate or not, place of the word -/
def MLK : List (Nat × Nat × Nat × Nat × Nat) := [(0, 46, 39, 0, 5074), (0, 50, 2, 0, 5075), (0, 60, 288, 0, 5088), (0, 66, 3, 0, 5089), (0, 69, 5, 0, 5079), (0, 72, 4, 0, 5085), (0, 76, 97, 0, 5083), (0, 79, 40, 0, 5084), (0, 82, 7, 0, 5101), (0, 85, 45, 0, 5105), (0, 91, 9, 0, 5115), (0, 94, 10, 0, 5119), (0, 98, 157, 1, 5123), (0, 101, 12, 0, 5132), (0, 104, 14, 0, 5144), (0, 107, 15, 0, 5196), (0, 110, 16, 0, 5200), (0, 113, 17, 0, 5192), (1, 26, 113, 0, 5000), (1, 32, 156, 1, 5001), (1, 36, 157, 1, 5006), (1, 39, 21, 0, 5007), (1, 42, 20, 0, 4236), (1, 46, 22, 0, 5002), (1, 50, 45, 0, 5011), (1, 56, 46, 0, 5012), (1, 66, 24, 0, 5016), (1, 75, 288, 0, 5044), (1, 80, 28, 0, 5045), (1, 92, 97, 0, 5164), (1, 95, 31, 0, 5165), (1, 98, 25, 0, 5169), (2, 32, 40, 0, 4217), (2, 36, 114, 0, 4218), (2, 42, 115, 0, 4219), (2, 54, 97, 0, 4220), (2, 57, 35, 0, 4221), (2, 61, 38, 0, 4225), (3, 43, 157, 1, 2230), (3, 47, 156, 1, 2208), (3, 50, 41, 0, 2204), (3, 54, 40, 0, 2233), (3, 63, 39, 0, 2226), (4, 19, 36, 1, 1220), (4, 24, 51, 0, 3001), (4, 27, 37, 0, 3005), (5, 33, 95, 0, 3062), (5, 45, 157, 1, 3021), (5, 55, 72, 0, 3022), (5, 61, 39, 0, 3083), (5, 65, 40, 0, 3050), (5, 69, 41, 0, 3051), (5, 73, 47, 0, 3052), (5, 77, 45, 0, 3016), (5, 80, 55, 0, 3017), (5, 83, 57, 0, 3046), (5, 86, 54, 0, 3058), (5, 89, 44, 0, 3066), (5, 93, 60, 0, 3079), (5, 97, 43, 0, 3084), (5, 110, 97, 0, 3109), (5, 113, 64, 0, 3114), (5, 116, 65, 0, 3123), (5, 119, 66, 0, 3127), (5, 122, 59, 0, 3118), (5, 125, 58, 0, 3119), (5, 128, 38, 0, 3120), (5, 131, 61, 0, 3121), (5, 134, 62, 0, 3122), (6, 46, 40, 0, 3026), (6, 60, 75, 0, 3030), (6, 63, 74, 0, 3037), (6, 66, 73, 0, 3043), (6, 72, 76, 0, 3034), (7, 11, 67, 1, 2024), (7, 20, 94, 0, 2026), (7, 41, 69, 0, 3156), (7, 44, 96, 0, 3160), (7, 47, 156, 1, 3164), (7, 51, 102, 0, 3165), (7, 66, 87, 0, 4063), (7, 70, 84, 0, 4114), (7, 73, 85, 0, 4123), (7, 76, 86, 0, 4127), (7, 83, 80, 0, 4071), (7, 86, 79, 0, 4075), (7, 92, 82, 0, 4067), (7, 95, 83, 0, 4118), (7, 98, 81, 0, 4106), (7, 101, 95, 0, 4122), (7, 108, 90, 0, 4079), (7, 111, 88, 0, 4098), (7, 114, 71, 0, 4110), (7, 118, 89, 0, 4102), (7, 121, 70, 0, 4087), (7, 123, 93, 0, 4083), (7, 127, 91, 0, 4091), (7, 130, 92, 0, 4094), (8, 22, 156, 1, 3113), (9, 25, 100, 0, 3143), (9, 32, 104, 0, 3169), (9, 35, 106, 0, 3172), (9, 39, 108, 0, 3176), (9, 43, 103, 0, 3225), (9, 47, 105, 0, 3229), (9, 50, 107, 0, 3232), (9, 53, 110, 0, 3236), (9, 58, 294, 0, 4001), (9, 63, 109, 0, 3180), (9, 69, 289, 0, 3185), (10, 11, 67, 1, 1088), (10, 30, 94, 0, 1124), (10, 46, 68, 0, 4135), (10, 56, 98, 0, 4150), (10, 66, 156, 1, 4145), (10, 76, 117, 0, 4140), (10, 79, 118, 0, 4146), (10, 85, 97, 0, 4144), (11, 9, 36, 1, 1032), (11, 18, 111, 0, 1082), (11, 25, 94, 0, 1189), (11, 34, 53, 0, 1192), (11, 49, 48, 0, 1214), (11, 56, 99, 1, 1234), (11, 63, 77, 0, 2019), (11, 72, 33, 0, 2062), (11, 81, 19, 0, 2083), (11, 88, 0, 0, 2114), (11, 110, 49, 0, 2189), (11, 113, 156, 0, 2197), (11, 120, 42, 0, 2200), (11, 127, 38, 0, 2213), (11, 131, 41, 0, 2217), (11, 135, 45, 0, 2222), (11, 142, 50, 0, 2237), (11, 146, 58, 0, 3012), (11, 150, 59, 0, 3075), (11, 153, 39, 0, 3092), (11, 156, 62, 0, 3093), (11, 159, 61, 0, 3097), (11, 165, 63, 0, 3105), (11, 168, 100, 0, 3135), (11, 171, 101, 0, 3139), (11, 177, 78, 0, 3152), (11, 180, 116, 0, 4131), (11, 193, 40, 0, 4165), (11, 199, 72, 0, 4166), (11, 205, 113, 0, 4171), (11, 208, 114, 0, 4179), (11, 211, 115, 0, 4183), (11, 214, 97, 0, 4191), (11, 217, 37, 0, 4196), (11, 230, 288, 0, 4197), (11, 238, 96, 0, 4207), (11, 242, 95, 0, 4208), (11, 245, 34, 0, 4213), (11, 256, 23, 0, 4232), (11, 268, 25, 0, 5024), (11, 271, 26, 0, 5032), (11, 274, 27, 0, 5040), (11, 277, 157, 0, 5053), (11, 280, 29, 0, 5054), (11, 286, 158, 0, 5062), (11, 289, 1, 0, 5069), (11, 298, 6, 0, 5097), (11, 301, 7, 0, 5106), (11, 304, 8, 0, 5111), (11, 307, 11, 0, 5128), (11, 310, 13, 0, 5140), (11, 313, 14, 0, 5148), (11, 319, 159, 0, 5153), (11, 322, 30, 0, 5160), (11, 325, 32, 0, 5170), (11, 328, 56, 0, 5179), (11, 331, 55, 0, 5183), (11, 334, 18, 0, 5188), (11, 337, 17, 0, 5204), (11, 340, 52, 0, 5209), (11, 344, 112, 0, 5217), (11, 347, 98, 0, 5222), (12, 131, 175, 0, 7118), (12, 135, 174, 0, 6186), (12, 138, 161, 0, 6190), (12, 142, 173, 0, 6198), (12, 148, 180, 0, 6206), (12, 155, 183, 0, 6226), (12, 168, 184, 0, 6230), (12, 171, 187, 0, 6234), (12, 175, 185, 0, 6238), (12, 178, 186, 0, 7002), (12, 190, 193, 0, 7074), (12, 193, 189, 0, 7014), (12, 196, 192, 0, 7078), (12, 200, 188, 0, 6222), (12, 203, 194, 0, 7070), (12, 207, 191, 0, 7034), (12, 210, 195, 0, 7066), (12, 213, 196, 0, 7062), (12, 222, 190, 0, 7010), (12, 225, 198, 0, 7086), (12, 228, 197, 0, 7090), (12, 231, 199, 0, 7094), (12, 234, 201, 0, 7058), (12, 238, 200, 0, 7082), (12, 244, 204, 0, 7026), (12, 247, 206, 0, 7022), (12, 251, 205, 0, 7030), (12, 254, 207, 0, 7018), (12, 257, 209, 0, 7042), (12, 260, 211, 0, 7050), (12, 263, 208, 0, 7006), (12, 266, 210, 0, 7038), (12, 269, 212, 0, 7046), (12, 272, 202, 0, 7054), (12, 287, 213, 0, 6218), (12, 290, 203, 0, 7098), (12, 293, 214, 0, 7102), (12, 296, 217, 0, 7146), (12, 299, 218, 0, 7142), (12, 302, 221, 0, 7126), (12, 305, 219, 0, 7138), (12, 308, 162, 0, 7150), (12, 311, 163, 0, 7130), (12, 314, 220, 0, 7134), (12, 318, 222, 0, 7122), (12, 321, 172, 0, 7166), (12, 324, 226, 0, 7114), (12, 327, 227, 0, 7162), (12, 331, 164, 0, 7172), (12, 334, 225, 0, 7176), (12, 338, 224, 0, 7192), (12, 341, 229, 0, 7188), (12, 344, 167, 0, 7154), (12, 347, 228, 0, 7158), (12, 350, 230, 0, 7184), (12, 353, 232, 0, 7200), (12, 356, 231, 0, 7204), (12, 359, 223, 0, 7228), (12, 362, 236, 0, 7216), (12, 365, 237, 0, 7220), (12, 368, 238, 0, 7224), (12, 371, 239, 0, 7212), (12, 374, 177, 0, 8000), (12, 377, 169, 0, 8016), (12, 380, 176, 0, 8020), (12, 383, 165, 0, 8024), (12, 386, 170, 0, 8028), (12, 392, 247, 0, 8040), (12, 395, 166, 0, 8056), (12, 398, 249, 0, 8060), (12, 401, 252, 0, 8048), (12, 404, 250, 0, 8052), (12, 407, 251, 0, 8064), (12, 410, 254, 0, 8072), (12, 413, 257, 0, 8084), (12, 419, 261, 0, 8108), (12, 422, 262, 0, 8104), (12, 425, 263, 0, 8100), (12, 428, 265, 0, 8116), (12, 431, 267, 0, 8128), (12, 434, 268, 0, 8124), (12, 437, 270, 0, 8136), (12, 440, 272, 0, 8144), (12, 446, 275, 0, 8160), (12, 449, 276, 0, 8164), (12, 452, 277, 0, 8156), (12, 456, 280, 0, 8177), (12, 465, 282, 0, 8185), (12, 471, 285, 0, 8189), (12, 474, 284, 0, 8193), (12, 477, 283, 0, 8197), (14, 492, 290, 0, 3189), (14, 495, 292, 0, 3195), (14, 1059, 293, 0, 3203), (15, 9, 291, 0, 3198), (14, 633, 295, 0, 4005), (14, 505, 296, 0, 4009), (14, 637, 298, 0, 4017), (14, 335, 297, 0, 4013), (15, 88, 299, 0, 4020), (15, 95, 300, 0, 4025)]
def mlkOk (q : Nat × Nat × Nat × Nat × Nat) : Bool := if q.2.2.2.1 = 0 then decide (tbw q.2.2.2.2 = some (.methodLink (cnm.getD q.1 "") q.2.1 (IN q.2.2.1).1)) else decide ((cnm.getD q.1 "", q.2.1, (IN q.2.2.1).1, "CardDrawer") ∈ pNL)
theorem mlk_all : MLK.all mlkOk = true := by decide +kernel
/-- other words: constants, links of the members that are rows of the kit, texts and statics -/
def OLK : List (Nat × Nat × Cond × Nat) := [(3, 67, .constant "CardDrawer$Drawer" 67 1664525, 3056), (3, 68, .constant "CardDrawer$Drawer" 68 1013904223, 3057), (13, 265, .constant "java/lang/Integer" 265 1431655765, 4200), (13, 266, .constant "java/lang/Integer" 266 858993459, 4201), (13, 267, .constant "java/lang/Integer" 267 252645135, 4202), (12, 126, .constant "CardDrawerModel" 126 1664525, 7170), (12, 127, .constant "CardDrawerModel" 127 1013904223, 7171), (12, 455, .constant "CardDrawerModel" 455 1000000, 8168), (11, 1, .methodLink "CardDrawer" 1 Lib.objectInit, 1027), (3, 3, .methodLink "CardDrawer$Drawer" 3 Lib.objectInit, 1035), (10, 3, .methodLink "CardDrawer$Told" 3 Lib.objectInit, 1085), (6, 3, .methodLink "CardDrawer$Law" 3 Lib.objectInit, 1091), (8, 3, .methodLink "CardDrawer$Rows" 3 Lib.objectInit, 1127), (5, 3, .methodLink "CardDrawer$Keeper" 3 Lib.objectInit, 1195), (4, 1, .methodLink "CardDrawer$History" 1 Lib.objectInit, 1217), (9, 3, .methodLink "CardDrawer$Tape" 3 Lib.objectInit, 1237), (7, 3, .methodLink "CardDrawer$Reader" 3 Lib.objectInit, 2022), (2, 3, .methodLink "CardDrawer$Dating" 3 Lib.objectInit, 2065), (1, 3, .methodLink "CardDrawer$Circle" 3 Lib.objectInit, 2086), (0, 3, .methodLink "CardDrawer$Chooser" 3 Lib.objectInit, 2117), (3, 15, .methodLink "CardDrawer$Drawer" 15 arraycopyName, 3009), (6, 55, .methodLink "CardDrawer$Law" 55 Lib.Math.max.name, 3027), (6, 69, .methodLink "CardDrawer$Law" 69 Lib.Math.min.name, 3040), (3, 58, .methodLink "CardDrawer$Drawer" 58 Lib.Math.min.name, 3070), (15, 92, .methodLink "java/lang/StringLatin1" 92 Lib.Math.max.name, 4023), (15, 38, .methodLink "java/lang/StringLatin1" 38 Lib.Math.min.name, 4024), (6, 37, .methodLink "CardDrawer$Law" 37 arraycopyName, 4139), (8, 26, .methodLink "CardDrawer$Rows" 26 Lib.Math.min.name, 4154), (8, 32, .methodLink "CardDrawer$Rows" 32 arraycopyName, 4155), (2, 65, .methodLink "CardDrawer$Dating" 65 Lib.Math.max.name, 4226), (2, 70, .methodLink "CardDrawer$Dating" 70 Lib.Math.min.name, 4227), (0, 35, .methodLink "CardDrawer$Chooser" 35 Lib.Math.min.name, 5073), (1, 101, .methodLink "CardDrawer$Circle" 101 Lib.Math.max.name, 5174), (10, 50, .methodLink "CardDrawer$Told" 50 arraycopyName, 5221), (12, 1, .methodLink "CardDrawerModel" 1 Lib.objectInit, 5232), (14, 38, .fieldLink "java/lang/String" 38 "java/lang/String" "COMPACT_STRINGS" "Z", 3193), (14, 1053, .fieldLink "java/lang/String" 1053 "jdk/internal/util/Preconditions" "SIOOBE_FORMATTER" "Ljava/util/function/BiFunction;", 3201), (14, 15, .fieldLink "java/lang/String" 15 "java/lang/String" "coder" "B", 8205), (14, 9, .fieldLink "java/lang/String" 9 "java/lang/String" "value" "[B", 8206), (99, 0, .instanceMethod Lib.objectInit, 1028), (99, 0, .code Lib.objectInit ⟨#[0xb1]⟩ 1 none, 1029), (99, 0, .native arraycopyName, 3011), (99, 0, .static arraycopyName, 3010), (99, 0, .initialized "java/lang/System", 1014), (99, 0, .static Lib.Math.max.name, 3028), (99, 0, .static Lib.Math.min.name, 3041), (99, 0, .initialized "java/lang/Math", 1015), (99, 0, .code Lib.Math.max.name Lib.Math.max.code 2 (some .int), 3029), (99, 0, .code Lib.Math.min.name Lib.Math.min.code 2 (some .int), 3042)]
theorem olk_all : OLK.all (fun q => decide (tbw q.2.2.2 = some q.2.2.1) && goodWord q.2.2.1) = true := by decide +kernel
theorem olk_in {q : Nat × Nat × Cond × Nat} (h : q ∈ OLK) : q.2.2.1 ∈ GW := by
  have := List.all_eq_true.mp olk_all q h
  simp only [Bool.and_eq_true, decide_eq_true_eq] at this
  exact GW_of this.1 this.2
