/-! The tables of the small machine, held against the machine's own (written by program). -/
def cnm : List String := ["CardDrawer$Chooser", "CardDrawer$Circle", "CardDrawer$Dating", "CardDrawer$Drawer", "CardDrawer$History", "CardDrawer$Keeper", "CardDrawer$Law", "CardDrawer$Reader", "CardDrawer$Rows", "CardDrawer$Tape", "CardDrawer$Told", "CardDrawer", "CardDrawerModel", "java/lang/Integer", "java/lang/String", "java/lang/StringLatin1", "jdk/internal/util/Preconditions"]
def TC0 : u_T := fun k => match k with
  | 0 => ("CardDrawer$Chooser", "drawer", "LCardDrawer$Drawer;", true)
  | 1 => ("CardDrawer$Chooser", "told", "LCardDrawer$Told;", true)
  | 2 => ("CardDrawer$Chooser", "cardsFor", "[I", true)
  | 3 => ("CardDrawer$Chooser", "found", "I", false)
  | _ => ("CardDrawer$Chooser", "chosen", "I", false)
def yC0 : Nat → FieldType := fun k => match k with
  | 0 => .object "CardDrawer$Drawer"
  | 1 => .object "CardDrawer$Told"
  | 2 => .array .int
  | 3 => .int
  | _ => .int
def TC1 : u_T := fun k => match k with
  | 0 => ("CardDrawer$Circle", "drawer", "LCardDrawer$Drawer;", true)
  | 1 => ("CardDrawer$Circle", "told", "LCardDrawer$Told;", true)
  | 2 => ("CardDrawer$Circle", "near", "[I", true)
  | 3 => ("CardDrawer$Circle", "far", "[I", true)
  | 4 => ("CardDrawer$Circle", "steps", "I", false)
  | 5 => ("CardDrawer$Circle", "who", "I", false)
  | _ => ("CardDrawer$Circle", "first", "I", false)
def yC1 : Nat → FieldType := fun k => match k with
  | 0 => .object "CardDrawer$Drawer"
  | 1 => .object "CardDrawer$Told"
  | 2 => .array .int
  | 3 => .array .int
  | 4 => .int
  | 5 => .int
  | _ => .int
def TC2 : u_T := fun k => match k with
  | 0 => ("CardDrawer$Dating", "drawer", "LCardDrawer$Drawer;", true)
  | 1 => ("CardDrawer$Dating", "told", "LCardDrawer$Told;", true)
  | 2 => ("CardDrawer$Dating", "least", "[I", true)
  | _ => ("CardDrawer$Dating", "greatest", "[I", true)
def yC2 : Nat → FieldType := fun k => match k with
  | 0 => .object "CardDrawer$Drawer"
  | 1 => .object "CardDrawer$Told"
  | 2 => .array .int
  | _ => .array .int
def TC3 : u_T := fun k => match k with
  | 0 => ("CardDrawer$Drawer", "borne", "[I", true)
  | 1 => ("CardDrawer$Drawer", "cards", "I", false)
  | 2 => ("CardDrawer$Drawer", "kept", "I", false)
  | 3 => ("CardDrawer$Drawer", "now", "I", false)
  | 4 => ("CardDrawer$Drawer", "used", "I", false)
  | 5 => ("CardDrawer$Drawer", "missed", "I", false)
  | 6 => ("CardDrawer$Drawer", "lacked", "I", false)
  | _ => ("CardDrawer$Drawer", "draws", "I", false)
def yC3 : Nat → FieldType := fun k => match k with
  | 0 => .array .int
  | 1 => .int
  | 2 => .int
  | 3 => .int
  | 4 => .int
  | 5 => .int
  | 6 => .int
  | _ => .int
def TC4 : u_T := fun k => match k with
  | 0 => ("CardDrawer$History", "drawers", "[LCardDrawer$Drawer;", true)
  | 1 => ("CardDrawer$History", "lines", "[I", true)
  | _ => ("CardDrawer$History", "count", "I", false)
def yC4 : Nat → FieldType := fun k => match k with
  | 0 => .array (.object "CardDrawer$Drawer")
  | 1 => .array .int
  | _ => .int
def TC5 : u_T := fun k => match k with
  | 0 => ("CardDrawer$Keeper", "drawer", "LCardDrawer$Drawer;", true)
  | 1 => ("CardDrawer$Keeper", "told", "LCardDrawer$Told;", true)
  | 2 => ("CardDrawer$Keeper", "ledger", "LCardDrawer$Rows;", true)
  | 3 => ("CardDrawer$Keeper", "inThought", "Z", true)
  | _ => ("CardDrawer$Keeper", "greatestHolds", "I", false)
def yC5 : Nat → FieldType := fun k => match k with
  | 0 => .object "CardDrawer$Drawer"
  | 1 => .object "CardDrawer$Told"
  | 2 => .object "CardDrawer$Rows"
  | 3 => .boolean
  | _ => .int
def TC6 : u_T := fun k => match k with
  | 0 => ("CardDrawer$Law", "code", "[I", true)
  | 1 => ("CardDrawer$Law", "words", "[I", true)
  | 2 => ("CardDrawer$Law", "starts", "[I", true)
  | 3 => ("CardDrawer$Law", "whens", "[I", true)
  | 4 => ("CardDrawer$Law", "ends", "[I", true)
  | 5 => ("CardDrawer$Law", "known", "[I", true)
  | 6 => ("CardDrawer$Law", "stack", "[I", true)
  | 7 => ("CardDrawer$Law", "size", "I", false)
  | _ => ("CardDrawer$Law", "lines", "I", false)
def yC6 : Nat → FieldType := fun k => match k with
  | 0 => .array .int
  | 1 => .array .int
  | 2 => .array .int
  | 3 => .array .int
  | 4 => .array .int
  | 5 => .array .int
  | 6 => .array .int
  | 7 => .int
  | _ => .int
def TC7 : u_T := fun k => match k with
  | 0 => ("CardDrawer$Reader", "tape", "LCardDrawer$Tape;", true)
  | 1 => ("CardDrawer$Reader", "law", "LCardDrawer$Law;", true)
  | 2 => ("CardDrawer$Reader", "rows", "LCardDrawer$Rows;", true)
  | 3 => ("CardDrawer$Reader", "lines", "I", false)
  | 4 => ("CardDrawer$Reader", "fault", "I", false)
  | 5 => ("CardDrawer$Reader", "faultPlace", "I", false)
  | 6 => ("CardDrawer$Reader", "at", "I", false)
  | 7 => ("CardDrawer$Reader", "token", "I", false)
  | _ => ("CardDrawer$Reader", "number", "I", false)
def yC7 : Nat → FieldType := fun k => match k with
  | 0 => .object "CardDrawer$Tape"
  | 1 => .object "CardDrawer$Law"
  | 2 => .object "CardDrawer$Rows"
  | 3 => .int
  | 4 => .int
  | 5 => .int
  | 6 => .int
  | 7 => .int
  | _ => .int
def TC8 : u_T := fun k => match k with
  | 0 => ("CardDrawer$Rows", "limit", "I", true)
  | 1 => ("CardDrawer$Rows", "cells", "[I", true)
  | _ => ("CardDrawer$Rows", "count", "I", false)
def yC8 : Nat → FieldType := fun k => match k with
  | 0 => .int
  | 1 => .array .int
  | _ => .int
def TC9 : u_T := fun k => match k with
  | 0 => ("CardDrawer$Tape", "bytes", "[I", true)
  | 1 => ("CardDrawer$Tape", "tokens", "[I", true)
  | 2 => ("CardDrawer$Tape", "places", "[I", true)
  | 3 => ("CardDrawer$Tape", "count", "I", false)
  | _ => ("CardDrawer$Tape", "length", "I", false)
def yC9 : Nat → FieldType := fun k => match k with
  | 0 => .array .int
  | 1 => .array .int
  | 2 => .array .int
  | 3 => .int
  | _ => .int
def TC10 : u_T := fun k => match k with
  | 0 => ("CardDrawer$Told", "law", "LCardDrawer$Law;", true)
  | 1 => ("CardDrawer$Told", "by", "[I", true)
  | 2 => ("CardDrawer$Told", "from", "[I", true)
  | 3 => ("CardDrawer$Told", "till", "[I", true)
  | 4 => ("CardDrawer$Told", "plan", "LCardDrawer$Rows;", true)
  | 5 => ("CardDrawer$Told", "ahead", "LCardDrawer$Rows;", true)
  | 6 => ("CardDrawer$Told", "asked", "LCardDrawer$Rows;", true)
  | 7 => ("CardDrawer$Told", "noted", "LCardDrawer$Rows;", true)
  | 8 => ("CardDrawer$Told", "metLines", "I", false)
  | _ => ("CardDrawer$Told", "calledLines", "I", false)
def yC10 : Nat → FieldType := fun k => match k with
  | 0 => .object "CardDrawer$Law"
  | 1 => .array .int
  | 2 => .array .int
  | 3 => .array .int
  | 4 => .object "CardDrawer$Rows"
  | 5 => .object "CardDrawer$Rows"
  | 6 => .object "CardDrawer$Rows"
  | 7 => .object "CardDrawer$Rows"
  | 8 => .int
  | _ => .int
def TC11 : u_T := fun k => match k with
  | 0 => ("CardDrawer", "drawer", "LCardDrawer$Drawer;", true)
  | 1 => ("CardDrawer", "told", "LCardDrawer$Told;", true)
  | 2 => ("CardDrawer", "ledger", "LCardDrawer$Rows;", true)
  | 3 => ("CardDrawer", "keeper", "LCardDrawer$Keeper;", true)
  | 4 => ("CardDrawer", "thought", "LCardDrawer$Drawer;", true)
  | 5 => ("CardDrawer", "thinker", "LCardDrawer$Keeper;", true)
  | 6 => ("CardDrawer", "history", "LCardDrawer$History;", true)
  | 7 => ("CardDrawer", "tape", "LCardDrawer$Tape;", true)
  | 8 => ("CardDrawer", "reader", "LCardDrawer$Reader;", true)
  | 9 => ("CardDrawer", "dating", "LCardDrawer$Dating;", true)
  | 10 => ("CardDrawer", "circle", "LCardDrawer$Circle;", true)
  | 11 => ("CardDrawer", "chooser", "LCardDrawer$Chooser;", true)
  | 12 => ("CardDrawer", "imagedDrawer", "LCardDrawer$Drawer;", true)
  | 13 => ("CardDrawer", "imagedTold", "LCardDrawer$Told;", true)
  | 14 => ("CardDrawer", "imagedLedger", "LCardDrawer$Rows;", true)
  | _ => ("CardDrawer", "imaged", "Z", false)
def yC11 : Nat → FieldType := fun k => match k with
  | 0 => .object "CardDrawer$Drawer"
  | 1 => .object "CardDrawer$Told"
  | 2 => .object "CardDrawer$Rows"
  | 3 => .object "CardDrawer$Keeper"
  | 4 => .object "CardDrawer$Drawer"
  | 5 => .object "CardDrawer$Keeper"
  | 6 => .object "CardDrawer$History"
  | 7 => .object "CardDrawer$Tape"
  | 8 => .object "CardDrawer$Reader"
  | 9 => .object "CardDrawer$Dating"
  | 10 => .object "CardDrawer$Circle"
  | 11 => .object "CardDrawer$Chooser"
  | 12 => .object "CardDrawer$Drawer"
  | 13 => .object "CardDrawer$Told"
  | 14 => .object "CardDrawer$Rows"
  | _ => .boolean
def TC12 : u_T := fun k => match k with
  | 0 => ("CardDrawerModel", "told", "I", false)
  | 1 => ("CardDrawerModel", "now", "[I", true)
  | 2 => ("CardDrawerModel", "rows", "[I", true)
  | 3 => ("CardDrawerModel", "undoable", "I", false)
  | 4 => ("CardDrawerModel", "waiting", "[I", true)
  | 5 => ("CardDrawerModel", "isThought", "Z", false)
  | 6 => ("CardDrawerModel", "cards", "I", false)
  | 7 => ("CardDrawerModel", "person", "[I", true)
  | 8 => ("CardDrawerModel", "firm", "[I", true)
  | 9 => ("CardDrawerModel", "trade", "[I", true)
  | 10 => ("CardDrawerModel", "book", "[I", true)
  | 11 => ("CardDrawerModel", "tape", "[I", true)
  | 12 => ("CardDrawerModel", "taped", "I", false)
  | 13 => ("CardDrawerModel", "spot", "I", false)
  | 14 => ("CardDrawerModel", "from", "I", false)
  | 15 => ("CardDrawerModel", "token", "I", false)
  | 16 => ("CardDrawerModel", "value", "I", false)
  | 17 => ("CardDrawerModel", "words", "[I", true)
  | 18 => ("CardDrawerModel", "lineMany", "[I", true)
  | 19 => ("CardDrawerModel", "lineWord", "[I", true)
  | 20 => ("CardDrawerModel", "lineFrom", "[I", true)
  | 21 => ("CardDrawerModel", "lineWhen", "[I", true)
  | 22 => ("CardDrawerModel", "lineTo", "[I", true)
  | 23 => ("CardDrawerModel", "op", "[I", true)
  | 24 => ("CardDrawerModel", "arg", "[I", true)
  | 25 => ("CardDrawerModel", "which", "I", false)
  | 26 => ("CardDrawerModel", "codes", "I", false)
  | 27 => ("CardDrawerModel", "open", "I", false)
  | 28 => ("CardDrawerModel", "pending", "[I", true)
  | 29 => ("CardDrawerModel", "pendings", "I", false)
  | 30 => ("CardDrawerModel", "readFault", "I", false)
  | 31 => ("CardDrawerModel", "readPlace", "I", false)
  | 32 => ("CardDrawerModel", "faultKind", "I", false)
  | 33 => ("CardDrawerModel", "faultPlace", "I", false)
  | 34 => ("CardDrawerModel", "metMany", "I", false)
  | 35 => ("CardDrawerModel", "byUp", "[I", true)
  | 36 => ("CardDrawerModel", "calledMany", "I", false)
  | 37 => ("CardDrawerModel", "calledFrom", "[I", true)
  | 38 => ("CardDrawerModel", "calledTo", "[I", true)
  | 39 => ("CardDrawerModel", "deedMany", "I", false)
  | 40 => ("CardDrawerModel", "deeds", "[I", true)
  | 41 => ("CardDrawerModel", "asked", "[I", true)
  | 42 => ("CardDrawerModel", "stack", "[I", true)
  | 43 => ("CardDrawerModel", "aheadMany", "I", false)
  | 44 => ("CardDrawerModel", "aheadA", "[I", true)
  | 45 => ("CardDrawerModel", "aheadB", "[I", true)
  | 46 => ("CardDrawerModel", "least", "[I", true)
  | 47 => ("CardDrawerModel", "most", "[I", true)
  | 48 => ("CardDrawerModel", "reached", "[I", true)
  | 49 => ("CardDrawerModel", "askedMany", "I", false)
  | 50 => ("CardDrawerModel", "askedWhat", "[I", true)
  | 51 => ("CardDrawerModel", "askedFor", "[I", true)
  | 52 => ("CardDrawerModel", "noteMany", "I", false)
  | 53 => ("CardDrawerModel", "noteWhat", "[I", true)
  | 54 => ("CardDrawerModel", "noteFor", "[I", true)
  | 55 => ("CardDrawerModel", "noteIs", "[I", true)
  | 56 => ("CardDrawerModel", "isTaking", "Z", false)
  | 57 => ("CardDrawerModel", "hasImage", "Z", false)
  | 58 => ("CardDrawerModel", "keptAt", "I", false)
  | _ => ("CardDrawerModel", "images", "[I", true)
def yC12 : Nat → FieldType := fun k => match k with
  | 0 => .int
  | 1 => .array .int
  | 2 => .array .int
  | 3 => .int
  | 4 => .array .int
  | 5 => .boolean
  | 6 => .int
  | 7 => .array .int
  | 8 => .array .int
  | 9 => .array .int
  | 10 => .array .int
  | 11 => .array .int
  | 12 => .int
  | 13 => .int
  | 14 => .int
  | 15 => .int
  | 16 => .int
  | 17 => .array .int
  | 18 => .array .int
  | 19 => .array .int
  | 20 => .array .int
  | 21 => .array .int
  | 22 => .array .int
  | 23 => .array .int
  | 24 => .array .int
  | 25 => .int
  | 26 => .int
  | 27 => .int
  | 28 => .array .int
  | 29 => .int
  | 30 => .int
  | 31 => .int
  | 32 => .int
  | 33 => .int
  | 34 => .int
  | 35 => .array .int
  | 36 => .int
  | 37 => .array .int
  | 38 => .array .int
  | 39 => .int
  | 40 => .array .int
  | 41 => .array .int
  | 42 => .array .int
  | 43 => .int
  | 44 => .array .int
  | 45 => .array .int
  | 46 => .array .int
  | 47 => .array .int
  | 48 => .array .int
  | 49 => .int
  | 50 => .array .int
  | 51 => .array .int
  | 52 => .int
  | 53 => .array .int
  | 54 => .array .int
  | 55 => .array .int
  | 56 => .boolean
  | 57 => .boolean
  | 58 => .int
  | _ => .array .int
def cls : List vw_C := [(cnm.getD 0 "", TC0, 5), (cnm.getD 1 "", TC1, 7), (cnm.getD 2 "", TC2, 4), (cnm.getD 3 "", TC3, 8), (cnm.getD 4 "", TC4, 3), (cnm.getD 5 "", TC5, 5), (cnm.getD 6 "", TC6, 9), (cnm.getD 7 "", TC7, 9), (cnm.getD 8 "", TC8, 3), (cnm.getD 9 "", TC9, 5), (cnm.getD 10 "", TC10, 10), (cnm.getD 11 "", TC11, 16), (cnm.getD 12 "", TC12, 60)]
def yCs : List (Nat → FieldType) := [yC0, yC1, yC2, yC3, yC4, yC5, yC6, yC7, yC8, yC9, yC10, yC11, yC12]
/-- of each method: its class, name, descriptor, bytes, places, what it returns, how it is called; then the places of its words: code, instance or static, selects, initialized -/
abbrev pR : Type := Nat × String × String × ByteArray × Nat × Option FieldType × Nat × Nat × Nat × Nat × Nat
def IR0 : List pR := [(0, "<init>", "(LCardDrawer$Drawer;LCardDrawer$Told;)V", prog_2_method_1_code, 3, none, 2, 2122, 2121, 0, 1012), (0, "choose", "(I)V", prog_2_method_2_code, 5, none, 0, 5061, 5059, 5060, 1012), (0, "tryCard", "(II)V", prog_2_method_3_code, 7, none, 0, 5067, 5066, 36, 1012), (0, "takeIfBetter", "(II)V", prog_2_method_4_code, 3, none, 0, 5081, 5080, 38, 1012), (0, "isLess", "(II)Z", prog_2_method_5_code, 3, some .boolean, 1, 5076, 5075, 0, 1012), (0, "questionsFor", "(I)I", prog_2_method_6_code, 4, some .int, 0, 5071, 5070, 37, 1012), (0, "bestOrder", "()I", prog_2_method_7_code, 3, some .int, 0, 5089, 5087, 5088, 1012), (0, "lookedAt", "(I)I", prog_2_method_8_code, 6, some .int, 0, 5093, 5091, 5092, 1012), (0, "fewestApart", "()I", prog_2_method_9_code, 4, some .int, 0, 5103, 5101, 5102, 1012), (0, "tellsApart", "(I)Z", prog_2_method_10_code, 4, some .boolean, 0, 5107, 5106, 39, 1012), (0, "isAlike", "(III)Z", prog_2_method_11_code, 5, some .boolean, 0, 5111, 5110, 40, 1012), (0, "secondOnes", "()I", prog_2_method_12_code, 3, some .int, 0, 5120, 5118, 5119, 1012), (0, "hasSooner", "(I)Z", prog_2_method_13_code, 5, some .boolean, 0, 5124, 5123, 41, 1012), (0, "nearest", "(I)I", prog_2_method_14_code, 4, some .int, 0, 5132, 5130, 5131, 1012), (0, "inCommon", "(II)I", prog_2_method_15_code, 5, some .int, 0, 5136, 5134, 5135, 1012), (0, "pile", "(I)I", prog_2_method_16_code, 2, some .int, 0, 5188, 5187, 43, 1012), (0, "leftToLose", "(I)I", prog_2_method_17_code, 4, some .int, 0, 5192, 5191, 44, 1012), (0, "cardsToThrow", "(I)I", prog_2_method_18_code, 2, some .int, 0, 5184, 5182, 5183, 1012), (0, "firmToThrow", "()I", prog_2_method_19_code, 2, some .int, 0, 5180, 5178, 5179, 1012), (1, "<init>", "(LCardDrawer$Drawer;LCardDrawer$Told;)V", prog_3_method_1_code, 3, none, 2, 2091, 2090, 0, 1011), (1, "learn", "()I", prog_3_method_2_code, 4, some .int, 0, 4229, 4228, 31, 1011), (1, "besideSome", "(I)I", prog_3_method_3_code, 4, some .int, 0, 4239, 4238, 33, 1011), (1, "measure", "(I)V", prog_3_method_4_code, 6, none, 0, 4234, 4233, 32, 1011), (1, "seek", "(I)Z", prog_3_method_5_code, 4, some .boolean, 0, 4225, 4223, 4224, 1011), (1, "firstOnTheWay", "()I", prog_3_method_6_code, 2, some .int, 0, 5008, 5007, 34, 1011), (1, "ledBy", "(I)I", prog_3_method_7_code, 6, some .int, 0, 5016, 5014, 5015, 1011), (1, "rootOf", "(I)I", prog_3_method_8_code, 6, some .int, 0, 5024, 5022, 5023, 1011), (1, "tellers", "()I", prog_3_method_9_code, 5, some .int, 0, 5032, 5030, 5031, 1011), (1, "isHeardByAll", "(II)Z", prog_3_method_10_code, 3, some .boolean, 0, 5037, 5036, 35, 1011), (1, "hearers", "(II)I", prog_3_method_11_code, 5, some .int, 0, 5046, 5044, 5045, 1011), (1, "writers", "()I", prog_3_method_12_code, 4, some .int, 0, 5152, 5150, 5151, 1011), (1, "peopleFor", "(II)I", prog_3_method_13_code, 3, some .int, 0, 5157, 5156, 42, 1011), (1, "askNext", "(I)I", prog_3_method_14_code, 8, some .int, 0, 5162, 5160, 5161, 1011), (2, "<init>", "(LCardDrawer$Drawer;LCardDrawer$Told;)V", prog_4_method_1_code, 3, none, 2, 2070, 2069, 0, 1010), (2, "narrow", "()Z", prog_4_method_2_code, 3, some .boolean, 0, 4208, 4206, 4207, 1010), (2, "order", "(II)V", prog_4_method_3_code, 3, none, 0, 4214, 4213, 30, 1010), (3, "<init>", "()V", prog_5_method_1_code, 1, none, 2, 1034, 1033, 0, 1002), (3, "copyFrom", "(LCardDrawer$Drawer;)V", prog_5_method_2_code, 2, none, 0, 3013, 3011, 3012, 1002), (3, "has", "(I)Z", prog_5_method_3_code, 2, some .boolean, 0, 2221, 2219, 2220, 1002), (3, "isKept", "(I)Z", prog_5_method_4_code, 2, some .boolean, 0, 2234, 2232, 2233, 1002), (3, "read", "(II)I", prog_5_method_5_code, 3, some .int, 0, 3001, 2239, 3000, 1002), (3, "write", "(III)V", prog_5_method_6_code, 4, none, 0, 2213, 2211, 2212, 1002), (3, "put", "(IIII)I", prog_5_method_7_code, 6, some .int, 0, 2209, 2207, 2208, 1002), (3, "drop", "(I)V", prog_5_method_8_code, 2, none, 0, 3092, 3090, 3091, 1002), (3, "wear", "(II)V", prog_5_method_9_code, 3, none, 0, 3074, 3072, 3073, 1002), (3, "keptWith", "(II)I", prog_5_method_10_code, 5, some .int, 0, 2230, 2228, 2229, 1002), (3, "peopleOn", "(I)I", prog_5_method_11_code, 4, some .int, 0, 5004, 5002, 5003, 1002), (3, "draw", "(I)I", prog_5_method_12_code, 2, some .int, 0, 3060, 3058, 3059, 1002), (4, "<init>", "()V", prog_6_method_1_code, 2, none, 2, 1222, 1221, 0, 1007), (4, "forget", "()V", prog_6_method_2_code, 1, none, 0, 2198, 2196, 2197, 1007), (4, "remember", "(LCardDrawer$Drawer;I)V", prog_6_method_3_code, 3, none, 0, 3005, 3003, 3004, 1007), (4, "dropOldest", "()V", prog_6_method_4_code, 3, none, 0, 3009, 3008, 0, 1007), (4, "goBack", "(LCardDrawer$Drawer;LCardDrawer$Rows;)Z", prog_6_method_5_code, 3, some .boolean, 0, 5201, 5199, 5200, 1007), (5, "<init>", "(LCardDrawer$Drawer;LCardDrawer$Told;LCardDrawer$Rows;Z)V", prog_7_method_1_code, 5, none, 2, 1200, 1199, 0, 1006), (5, "enter", "(III)V", prog_7_method_2_code, 4, none, 0, 3066, 3065, 3, 1006), (5, "likeliest", "(I)I", prog_7_method_3_code, 5, some .int, 0, 3025, 3023, 3024, 1006), (5, "sumOfHolds", "()I", prog_7_method_4_code, 3, some .int, 0, 5171, 5169, 5170, 1006), (5, "reaches", "(I)Z", prog_7_method_5_code, 2, some .boolean, 0, 3054, 3053, 2, 1006), (5, "ringPerson", "(I)I", prog_7_method_6_code, 4, some .int, 0, 3020, 3018, 3019, 1006), (5, "throwCards", "(I)I", prog_7_method_7_code, 4, some .int, 0, 3083, 3081, 3082, 1006)]
def IR1 : List pR := [(5, "throwLeast", "()Z", prog_7_method_8_code, 5, some .boolean, 0, 3087, 3086, 4, 1006), (5, "bendCard", "(I)V", prog_7_method_9_code, 3, none, 0, 3105, 3103, 3104, 1006), (5, "findCard", "(I)V", prog_7_method_10_code, 2, none, 0, 3101, 3099, 3100, 1006), (5, "passYear", "()V", prog_7_method_11_code, 2, none, 0, 3113, 3111, 3112, 1006), (5, "carryOut", "(II)V", prog_7_method_12_code, 3, none, 0, 3122, 3121, 5, 1006), (5, "wantTrade", "()V", prog_7_method_13_code, 3, none, 0, 3131, 3130, 6, 1006), (5, "wearCard", "(I)V", prog_7_method_14_code, 3, none, 0, 3135, 3134, 7, 1006), (6, "<init>", "()V", prog_8_method_1_code, 1, none, 2, 1090, 1089, 0, 1004), (6, "copyFrom", "(LCardDrawer$Law;)V", prog_8_method_2_code, 2, none, 0, 4142, 4140, 4141, 1004), (6, "clear", "()V", prog_8_method_3_code, 1, none, 0, 3163, 3161, 3162, 1004), (6, "add", "(I)V", prog_8_method_4_code, 2, none, 0, 4094, 4092, 4093, 1004), (6, "addLine", "(III)V", prog_8_method_5_code, 4, none, 0, 4117, 4115, 4116, 1004), (6, "tell", "(LCardDrawer$Drawer;II)I", prog_8_method_6_code, 8, some .int, 0, 3030, 3028, 3029, 1004), (6, "unlessTold", "(II)I", prog_8_method_7_code, 2, some .int, 1, 3050, 3049, 0, 1004), (6, "held", "(II)I", prog_8_method_8_code, 3, some .int, 1, 3044, 3043, 0, 1004), (6, "run", "(II)I", prog_8_method_9_code, 6, some .int, 0, 3038, 3037, 1, 1004), (6, "joined", "(III)I", prog_8_method_10_code, 3, some .int, 1, 3041, 3040, 0, 1004), (7, "<init>", "(LCardDrawer$Tape;)V", prog_9_method_1_code, 2, none, 2, 2027, 2026, 0, 1009), (7, "read", "(II)Z", prog_9_method_2_code, 5, some .boolean, 0, 3159, 3157, 3158, 1009), (7, "advance", "()V", prog_9_method_3_code, 1, none, 0, 4082, 4081, 17, 1009), (7, "fails", "(I)Z", prog_9_method_4_code, 2, some .boolean, 0, 4078, 4077, 16, 1009), (7, "passes", "(I)Z", prog_9_method_5_code, 2, some .boolean, 0, 4113, 4112, 23, 1009), (7, "opens", "(II)Z", prog_9_method_6_code, 3, some .boolean, 0, 4074, 4073, 15, 1009), (7, "passesNumber", "(II)Z", prog_9_method_7_code, 3, some .boolean, 0, 4125, 4124, 25, 1009), (7, "metLine", "()Z", prog_9_method_8_code, 2, some .boolean, 0, 4121, 4120, 24, 1009), (7, "calledLine", "()Z", prog_9_method_9_code, 3, some .boolean, 0, 4130, 4129, 26, 1009), (7, "planLine", "(I)Z", prog_9_method_10_code, 6, some .boolean, 0, 4134, 4133, 27, 1009), (7, "lawLine", "()Z", prog_9_method_11_code, 4, some .boolean, 0, 4070, 4069, 14, 1009), (7, "either", "(I)Z", prog_9_method_12_code, 5, some .boolean, 0, 4105, 4104, 21, 1009), (7, "condition", "(I)Z", prog_9_method_13_code, 4, some .boolean, 0, 4109, 4108, 22, 1009), (7, "sum", "()Z", prog_9_method_14_code, 5, some .boolean, 0, 4086, 4085, 18, 1009), (7, "isJoint", "(I)Z", prog_9_method_15_code, 1, some .boolean, 1, 4097, 4096, 0, 1009), (7, "addIfSign", "(I)V", prog_9_method_16_code, 2, none, 0, 4101, 4100, 20, 1009), (7, "unit", "(Z)Z", prog_9_method_17_code, 4, some .boolean, 0, 4090, 4089, 19, 1009), (8, "<init>", "(I)V", prog_10_method_1_code, 2, none, 2, 1126, 1125, 0, 1005), (8, "add", "(IIII)I", prog_10_method_2_code, 6, some .int, 0, 3070, 3068, 3069, 1005), (8, "clear", "()I", prog_10_method_3_code, 1, some .int, 0, 3167, 3165, 3166, 1005), (8, "at", "(II)I", prog_10_method_4_code, 3, some .int, 0, 3117, 3115, 3116, 1005), (8, "copyFrom", "(LCardDrawer$Rows;)V", prog_10_method_5_code, 2, none, 0, 4157, 4155, 4156, 1005), (9, "<init>", "()V", prog_11_method_1_code, 1, none, 2, 2002, 2001, 0, 1008), (9, "hasRoom", "(I)Z", prog_11_method_2_code, 2, some .boolean, 0, 3143, 3141, 3142, 1008), (9, "append", "(I)V", prog_11_method_3_code, 3, none, 0, 3147, 3145, 3146, 1008), (9, "scan", "()V", prog_11_method_4_code, 5, none, 0, 3172, 3170, 3171, 1008), (9, "put", "(II)V", prog_11_method_5_code, 3, none, 0, 3232, 3231, 11, 1008), (9, "isLetter", "(I)Z", prog_11_method_6_code, 1, some .boolean, 1, 3175, 3174, 0, 1008), (9, "isDigit", "(I)Z", prog_11_method_7_code, 1, some .boolean, 1, 3235, 3234, 0, 1008), (9, "pastLetters", "(I)I", prog_11_method_8_code, 3, some .int, 0, 3179, 3178, 8, 1008), (9, "pastDigits", "(I)I", prog_11_method_9_code, 3, some .int, 0, 3239, 3238, 12, 1008), (9, "wordAt", "(II)I", prog_11_method_10_code, 4, some .int, 0, 3183, 3182, 9, 1008), (9, "isWord", "(III)Z", prog_11_method_11_code, 6, some .boolean, 0, 3187, 3186, 10, 1008), (9, "numberAt", "(II)I", prog_11_method_12_code, 5, some .int, 0, 4003, 4002, 13, 1008), (10, "<init>", "()V", prog_12_method_1_code, 2, none, 2, 1084, 1083, 0, 1003), (10, "copyFrom", "(LCardDrawer$Told;)V", prog_12_method_2_code, 2, none, 0, 5209, 5207, 5208, 1003), (10, "take", "(ILCardDrawer$Reader;)V", prog_12_method_3_code, 3, none, 0, 4138, 4136, 4137, 1003), (10, "takeMet", "(LCardDrawer$Rows;)V", prog_12_method_4_code, 4, none, 0, 4147, 4146, 28, 1003), (10, "takeCalled", "(LCardDrawer$Rows;)V", prog_12_method_5_code, 4, none, 0, 4153, 4152, 29, 1003), (11, "<init>", "()V", prog_1_method_1_code, 1, none, 2, 1026, 1025, 0, 1001), (11, "state", "(I)I", prog_1_method_2_code, 3, some .int, 0, 2194, 2192, 2193, 1001), (11, "card", "(IIII)I", prog_1_method_3_code, 5, some .int, 0, 2202, 2200, 2201, 1001), (11, "set", "(III)Z", prog_1_method_4_code, 4, some .boolean, 0, 2217, 2215, 2216, 1001)]
def IR2 : List pR := [(11, "ring", "(I)I", prog_1_method_5_code, 2, some .int, 0, 2226, 2224, 2225, 1001), (11, "toss", "(I)I", prog_1_method_6_code, 2, some .int, 0, 3079, 3077, 3078, 1001), (11, "does", "(IZ)Z", prog_1_method_7_code, 3, some .boolean, 0, 3096, 3094, 3095, 1001), (11, "years", "(I)I", prog_1_method_8_code, 4, some .int, 0, 3109, 3107, 3108, 1001), (11, "feed", "(IIIII)I", prog_1_method_9_code, 6, some .int, 0, 3139, 3137, 3138, 1001), (11, "end", "(I)Z", prog_1_method_10_code, 2, some .boolean, 0, 3151, 3149, 3150, 1001), (11, "text", "(I)I", prog_1_method_11_code, 3, some .int, 0, 3155, 3153, 3154, 1001), (11, "fault", "(I)I", prog_1_method_12_code, 2, some .int, 0, 4164, 4162, 4163, 1001), (11, "of", "(II)I", prog_1_method_13_code, 3, some .int, 0, 4168, 4166, 4167, 1001), (11, "met", "(I)I", prog_1_method_14_code, 2, some .int, 0, 4174, 4172, 4173, 1001), (11, "called", "(II)I", prog_1_method_15_code, 3, some .int, 0, 4178, 4176, 4177, 1001), (11, "book", "(II)I", prog_1_method_16_code, 3, some .int, 0, 4182, 4180, 4181, 1001), (11, "goes", "(II)I", prog_1_method_17_code, 4, some .int, 0, 4187, 4185, 4186, 1001), (11, "ahead", "(II)I", prog_1_method_18_code, 3, some .int, 0, 4198, 4196, 4197, 1001), (11, "dated", "(II)I", prog_1_method_19_code, 3, some .int, 0, 4204, 4202, 4203, 1001), (11, "hands", "(II)I", prog_1_method_20_code, 3, some .int, 0, 4221, 4219, 4220, 1001), (11, "led", "(I)I", prog_1_method_21_code, 2, some .int, 0, 5012, 5010, 5011, 1001), (11, "root", "(I)I", prog_1_method_22_code, 2, some .int, 0, 5020, 5018, 5019, 1001), (11, "tells", "(I)I", prog_1_method_23_code, 3, some .int, 0, 5028, 5026, 5027, 1001), (11, "hears", "(II)I", prog_1_method_24_code, 3, some .int, 0, 5041, 5039, 5040, 1001), (11, "asks", "(II)I", prog_1_method_25_code, 3, some .int, 0, 5050, 5048, 5049, 1001), (11, "keeps", "(II)I", prog_1_method_26_code, 3, some .int, 0, 5057, 5055, 5056, 1001), (11, "sorted", "(I)I", prog_1_method_27_code, 3, some .int, 0, 5085, 5083, 5084, 1001), (11, "apart", "()I", prog_1_method_28_code, 1, some .int, 0, 5099, 5097, 5098, 1001), (11, "seconds", "()I", prog_1_method_29_code, 1, some .int, 0, 5116, 5114, 5115, 1001), (11, "beside", "(II)I", prog_1_method_30_code, 4, some .int, 0, 5128, 5126, 5127, 1001), (11, "note", "(IIZ)I", prog_1_method_31_code, 4, some .int, 0, 5141, 5139, 5140, 1001), (11, "whose", "(I)I", prog_1_method_32_code, 3, some .int, 0, 5148, 5146, 5147, 1001), (11, "uses", "(I)I", prog_1_method_33_code, 2, some .int, 0, 5167, 5165, 5166, 1001), (11, "game", "(I)I", prog_1_method_34_code, 3, some .int, 0, 5176, 5174, 5175, 1001), (11, "undo", "()Z", prog_1_method_35_code, 1, some .boolean, 0, 5197, 5195, 5196, 1001), (11, "image", "(Z)Z", prog_1_method_36_code, 2, some .boolean, 0, 5205, 5203, 5204, 1001), (11, "look", "(I)I", prog_1_method_37_code, 2, some .int, 0, 5215, 5213, 5214, 1001), (11, "within", "(II)Z", prog_1_method_38_code, 2, some .boolean, 1, 2205, 2204, 0, 1001), (11, "holdsBit", "(II)Z", prog_1_method_39_code, 2, some .boolean, 1, 2237, 2236, 0, 1001), (11, "kinds", "(I)I", prog_1_method_40_code, 1, some .int, 1, 5053, 5052, 0, 1001), (11, "noteKinds", "(I)I", prog_1_method_41_code, 1, some .int, 1, 5144, 5143, 0, 1001), (12, "<init>", "()V", prog_14_method_1_code, 1, none, 2, 5220, 5219, 0, 1013), (12, "isIn", "(III)Z", prog_14_method_3_code, 4, some .boolean, 0, 6182, 6181, 46, 1013), (12, "held", "(III)I", prog_14_method_4_code, 4, some .int, 0, 7142, 7141, 90, 1013), (12, "greater", "(II)I", prog_14_method_5_code, 3, some .int, 0, 7122, 7121, 85, 1013), (12, "lesser", "(II)I", prog_14_method_6_code, 3, some .int, 0, 7164, 7163, 95, 1013), (12, "onesOf", "(I)I", prog_14_method_7_code, 4, some .int, 0, 8016, 8015, 110, 1013), (12, "has", "(II)Z", prog_14_method_8_code, 3, some .boolean, 0, 8048, 8047, 115, 1013), (12, "keepsAhead", "()V", prog_14_method_9_code, 2, none, 0, 7146, 7145, 91, 1013), (12, "undo", "()Z", prog_14_method_10_code, 2, some .boolean, 0, 6166, 6164, 6165, 1013), (12, "thinks", "()V", prog_14_method_11_code, 2, none, 0, 8008, 8007, 108, 1013), (12, "endsThought", "()V", prog_14_method_12_code, 2, none, 0, 8020, 8019, 111, 1013), (12, "state", "(I)I", prog_14_method_13_code, 3, some .int, 0, 6170, 6168, 6169, 1013), (12, "draw", "(I)I", prog_14_method_14_code, 2, some .int, 0, 7158, 7157, 94, 1013), (12, "isCard", "(I)Z", prog_14_method_15_code, 2, some .boolean, 0, 6190, 6189, 47, 1013), (12, "isPerson", "(I)Z", prog_14_method_16_code, 2, some .boolean, 0, 6178, 6177, 45, 1013), (12, "isKept", "(I)Z", prog_14_method_17_code, 2, some .boolean, 0, 7110, 7109, 82, 1013), (12, "keptSet", "()I", prog_14_method_18_code, 3, some .int, 0, 8012, 8011, 109, 1013), (12, "introducer", "(I)I", prog_14_method_19_code, 2, some .int, 0, 7232, 7231, 107, 1013), (12, "card", "(IIII)I", prog_14_method_20_code, 5, some .int, 0, 6174, 6172, 6173, 1013), (12, "set", "(III)Z", prog_14_method_21_code, 4, some .boolean, 0, 6186, 6184, 6185, 1013), (12, "types", "(I)V", prog_14_method_22_code, 3, none, 0, 6198, 6197, 48, 1013), (12, "feed", "(IIIII)I", prog_14_method_23_code, 6, some .int, 0, 6194, 6192, 6193, 1013), (12, "end", "(I)Z", prog_14_method_24_code, 2, some .boolean, 0, 6202, 6200, 6201, 1013)]
def IR3 : List pR := [(12, "raw", "(I)I", prog_14_method_25_code, 2, some .int, 0, 6218, 6217, 51, 1013), (12, "isLetter", "(I)Z", prog_14_method_26_code, 2, some .boolean, 0, 6222, 6221, 52, 1013), (12, "isDigit", "(I)Z", prog_14_method_27_code, 2, some .boolean, 0, 6230, 6229, 54, 1013), (12, "isMarkSign", "(I)Z", prog_14_method_28_code, 2, some .boolean, 0, 6234, 6233, 55, 1013), (12, "wordAt", "(II)I", prog_14_method_29_code, 6, some .int, 0, 6226, 6225, 53, 1013), (12, "reads", "()V", prog_14_method_30_code, 2, none, 0, 6214, 6213, 50, 1013), (12, "errs", "(I)I", prog_14_method_31_code, 2, some .int, 0, 7006, 7005, 58, 1013), (12, "isWord", "(I)Z", prog_14_method_32_code, 2, some .boolean, 0, 7002, 7001, 57, 1013), (12, "isSign", "(I)Z", prog_14_method_33_code, 2, some .boolean, 0, 7026, 7025, 63, 1013), (12, "emits", "(II)V", prog_14_method_34_code, 3, none, 0, 7070, 7069, 74, 1013), (12, "canAsk", "(I)Z", prog_14_method_35_code, 2, some .boolean, 0, 7066, 7065, 73, 1013), (12, "readUnit", "()I", prog_14_method_36_code, 2, some .int, 0, 7062, 7061, 72, 1013), (12, "readProduct", "()I", prog_14_method_37_code, 2, some .int, 0, 7058, 7057, 71, 1013), (12, "readSum", "()I", prog_14_method_38_code, 2, some .int, 0, 7054, 7053, 70, 1013), (12, "readCompared", "()I", prog_14_method_39_code, 2, some .int, 0, 7082, 7081, 77, 1013), (12, "waits", "(I)V", prog_14_method_40_code, 2, none, 0, 7078, 7077, 76, 1013), (12, "settles", "(I)V", prog_14_method_41_code, 2, none, 0, 7086, 7085, 78, 1013), (12, "readAny", "()I", prog_14_method_42_code, 4, some .int, 0, 7074, 7073, 75, 1013), (12, "isLineWord", "()Z", prog_14_method_43_code, 1, some .boolean, 0, 7050, 7049, 69, 1013), (12, "readLaw", "()I", prog_14_method_44_code, 3, some .int, 0, 7046, 7045, 68, 1013), (12, "takesLaw", "(I)V", prog_14_method_45_code, 3, none, 0, 7090, 7089, 79, 1013), (12, "readNumber", "(II)I", prog_14_method_46_code, 4, some .int, 0, 7018, 7017, 61, 1013), (12, "readMark", "(I)I", prog_14_method_47_code, 2, some .int, 0, 7022, 7021, 62, 1013), (12, "readTold", "(III)I", prog_14_method_48_code, 4, some .int, 0, 7014, 7013, 60, 1013), (12, "readMetLine", "()I", prog_14_method_49_code, 3, some .int, 0, 7010, 7009, 59, 1013), (12, "readMet", "()I", prog_14_method_50_code, 2, some .int, 0, 6238, 6237, 56, 1013), (12, "readCalledLine", "()I", prog_14_method_51_code, 4, some .int, 0, 7034, 7033, 65, 1013), (12, "readCalled", "()I", prog_14_method_52_code, 2, some .int, 0, 7030, 7029, 64, 1013), (12, "readDeed", "(I)I", prog_14_method_53_code, 3, some .int, 0, 7042, 7041, 67, 1013), (12, "readPlan", "()I", prog_14_method_54_code, 2, some .int, 0, 7038, 7037, 66, 1013), (12, "readsText", "(I)I", prog_14_method_55_code, 2, some .int, 0, 6210, 6209, 49, 1013), (12, "takesOther", "(II)V", prog_14_method_56_code, 4, none, 0, 7094, 7093, 80, 1013), (12, "text", "(I)I", prog_14_method_57_code, 3, some .int, 0, 6206, 6204, 6205, 1013), (12, "fault", "(I)I", prog_14_method_58_code, 2, some .int, 0, 7098, 7096, 7097, 1013), (12, "twoOf", "(III)I", prog_14_method_59_code, 4, some .int, 0, 7138, 7137, 89, 1013), (12, "runs", "(III)I", prog_14_method_60_code, 6, some .int, 0, 7134, 7133, 88, 1013), (12, "lineOf", "(I)I", prog_14_method_61_code, 3, some .int, 0, 7130, 7129, 87, 1013), (12, "lawTells", "(IIII)I", prog_14_method_62_code, 6, some .int, 0, 7126, 7125, 86, 1013), (12, "ageOf", "(I)I", prog_14_method_63_code, 2, some .int, 0, 7118, 7117, 84, 1013), (12, "holdsOf", "(I)I", prog_14_method_64_code, 2, some .int, 0, 7114, 7113, 83, 1013), (12, "dustOf", "(I)I", prog_14_method_65_code, 2, some .int, 0, 7220, 7219, 106, 1013), (12, "worthOf", "(I)I", prog_14_method_66_code, 2, some .int, 0, 7184, 7183, 99, 1013), (12, "notes", "(III)V", prog_14_method_67_code, 5, none, 0, 7168, 7167, 96, 1013), (12, "bestCard", "(II)I", prog_14_method_68_code, 5, some .int, 0, 7106, 7105, 81, 1013), (12, "doesHold", "(II)Z", prog_14_method_69_code, 3, some .boolean, 0, 7154, 7153, 93, 1013), (12, "rings", "(I)I", prog_14_method_70_code, 5, some .int, 0, 7150, 7149, 92, 1013), (12, "leastWorth", "()I", prog_14_method_71_code, 3, some .int, 0, 7180, 7179, 98, 1013), (12, "throwsSome", "(I)I", prog_14_method_72_code, 5, some .int, 0, 7176, 7175, 97, 1013), (12, "bends", "(I)V", prog_14_method_73_code, 2, none, 0, 7196, 7195, 101, 1013), (12, "finds", "(I)V", prog_14_method_74_code, 2, none, 0, 7192, 7191, 100, 1013), (12, "ring", "(I)I", prog_14_method_75_code, 2, some .int, 0, 7102, 7100, 7101, 1013), (12, "toss", "(I)I", prog_14_method_76_code, 2, some .int, 0, 7172, 7170, 7171, 1013), (12, "does", "(IZ)Z", prog_14_method_77_code, 3, some .boolean, 0, 7188, 7186, 7187, 1013), (12, "doesDeed", "(I)V", prog_14_method_78_code, 3, none, 0, 7208, 7207, 103, 1013), (12, "isServed", "()Z", prog_14_method_79_code, 6, some .boolean, 0, 7212, 7211, 104, 1013), (12, "wears", "(I)V", prog_14_method_80_code, 3, none, 0, 7216, 7215, 105, 1013), (12, "goesBy", "()I", prog_14_method_81_code, 3, some .int, 0, 7204, 7203, 102, 1013), (12, "years", "(I)I", prog_14_method_82_code, 4, some .int, 0, 7200, 7198, 7199, 1013), (12, "of", "(II)I", prog_14_method_83_code, 3, some .int, 0, 7224, 7222, 7223, 1013), (12, "met", "(I)I", prog_14_method_84_code, 2, some .int, 0, 7228, 7226, 7227, 1013)]
def IR4 : List pR := [(12, "called", "(II)I", prog_14_method_85_code, 3, some .int, 0, 7236, 7234, 7235, 1013), (12, "book", "(II)I", prog_14_method_86_code, 3, some .int, 0, 8000, 7238, 7239, 1013), (12, "goes", "(II)I", prog_14_method_87_code, 4, some .int, 0, 8004, 8002, 8003, 1013), (12, "ahead", "(II)I", prog_14_method_88_code, 3, some .int, 0, 8024, 8022, 8023, 1013), (12, "canBeDated", "()Z", prog_14_method_89_code, 3, some .boolean, 0, 8032, 8031, 112, 1013), (12, "dated", "(II)I", prog_14_method_90_code, 3, some .int, 0, 8028, 8026, 8027, 1013), (12, "besideOf", "(I)I", prog_14_method_91_code, 4, some .int, 0, 8052, 8051, 116, 1013), (12, "besideAll", "(I)I", prog_14_method_92_code, 4, some .int, 0, 8044, 8043, 114, 1013), (12, "lowest", "(I)I", prog_14_method_93_code, 3, some .int, 0, 8056, 8055, 117, 1013), (12, "ownersOf", "(I)I", prog_14_method_94_code, 4, some .int, 0, 8040, 8039, 113, 1013), (12, "hands", "(II)I", prog_14_method_95_code, 8, some .int, 0, 8036, 8034, 8035, 1013), (12, "ledBy", "(I)I", prog_14_method_96_code, 5, some .int, 0, 8064, 8063, 118, 1013), (12, "led", "(I)I", prog_14_method_97_code, 2, some .int, 0, 8060, 8058, 8059, 1013), (12, "root", "(I)I", prog_14_method_98_code, 4, some .int, 0, 8068, 8066, 8067, 1013), (12, "known", "()I", prog_14_method_99_code, 3, some .int, 0, 8076, 8075, 119, 1013), (12, "tells", "(I)I", prog_14_method_100_code, 5, some .int, 0, 8072, 8070, 8071, 1013), (12, "hears", "(II)I", prog_14_method_101_code, 5, some .int, 0, 8080, 8078, 8079, 1013), (12, "asks", "(II)I", prog_14_method_102_code, 3, some .int, 0, 8084, 8082, 8083, 1013), (12, "factOf", "(II)I", prog_14_method_103_code, 3, some .int, 0, 8100, 8099, 122, 1013), (12, "answersIn", "(II)I", prog_14_method_104_code, 5, some .int, 0, 8096, 8095, 121, 1013), (12, "foundBy", "(I)I", prog_14_method_105_code, 4, some .int, 0, 8092, 8091, 120, 1013), (12, "keeps", "(II)I", prog_14_method_106_code, 8, some .int, 0, 8088, 8086, 8087, 1013), (12, "lookedAt", "(I)I", prog_14_method_107_code, 4, some .int, 0, 8108, 8107, 123, 1013), (12, "sorted", "(I)I", prog_14_method_108_code, 4, some .int, 0, 8104, 8102, 8103, 1013), (12, "areAlike", "(III)Z", prog_14_method_109_code, 5, some .boolean, 0, 8120, 8119, 125, 1013), (12, "tellsApart", "(I)Z", prog_14_method_110_code, 4, some .boolean, 0, 8116, 8115, 124, 1013), (12, "apart", "()I", prog_14_method_111_code, 3, some .int, 0, 8112, 8110, 8111, 1013), (12, "isAhead", "(II)Z", prog_14_method_112_code, 3, some .boolean, 0, 8128, 8127, 126, 1013), (12, "seconds", "()I", prog_14_method_113_code, 4, some .int, 0, 8124, 8122, 8123, 1013), (12, "inCommon", "(II)I", prog_14_method_114_code, 5, some .int, 0, 8136, 8135, 127, 1013), (12, "beside", "(II)I", prog_14_method_115_code, 5, some .int, 0, 8132, 8130, 8131, 1013), (12, "note", "(IIZ)I", prog_14_method_116_code, 4, some .int, 0, 8140, 8138, 8139, 1013), (12, "hasSuch", "(III)Z", prog_14_method_117_code, 5, some .boolean, 0, 8152, 8151, 129, 1013), (12, "isNoted", "(II)Z", prog_14_method_118_code, 5, some .boolean, 0, 8156, 8155, 130, 1013), (12, "writers", "()I", prog_14_method_119_code, 5, some .int, 0, 8148, 8147, 128, 1013), (12, "whose", "(I)I", prog_14_method_120_code, 9, some .int, 0, 8144, 8142, 8143, 1013), (12, "uses", "(I)I", prog_14_method_121_code, 5, some .int, 0, 8161, 8159, 8160, 1013), (12, "heapOf", "(I)I", prog_14_method_122_code, 4, some .int, 0, 8169, 8168, 131, 1013), (12, "game", "(I)I", prog_14_method_123_code, 4, some .int, 0, 8165, 8163, 8164, 1013), (12, "keepsOne", "(I)I", prog_14_method_124_code, 2, some .int, 0, 8177, 8176, 132, 1013), (12, "keepsLaw", "()V", prog_14_method_125_code, 2, none, 0, 8189, 8188, 135, 1013), (12, "keepsTexts", "()V", prog_14_method_126_code, 2, none, 0, 8185, 8184, 134, 1013), (12, "keepsTold", "()V", prog_14_method_127_code, 2, none, 0, 8181, 8180, 133, 1013), (12, "image", "(Z)Z", prog_14_method_128_code, 3, some .boolean, 0, 8173, 8171, 8172, 1013), (12, "look", "(I)I", prog_14_method_129_code, 2, some .int, 0, 8193, 8191, 8192, 1013), (13, "bitCount", "(I)I", prog_16_method_49_code, 1, some .int, 1, 4191, 4190, 0, 1021), (14, "charAt", "(I)C", prog_18_method_56_code, 2, some .char, 0, 3192, 3190, 3191, 1016), (14, "isLatin1", "()Z", prog_18_method_154_code, 1, some .boolean, 0, 3196, 3194, 3195, 1016), (14, "checkIndex", "(II)V", prog_18_method_155_code, 2, none, 1, 3204, 3203, 0, 1016), (15, "charAt", "([BI)C", prog_19_method_2_code, 2, some .char, 1, 3201, 3200, 0, 1017), (16, "checkIndex", "(IILjava/util/function/BiFunction;)I", prog_22_method_11_code, 3, some .int, 1, 3209, 3208, 0, 1018), (14, "indexOf", "(I)I", prog_18_method_79_code, 2, some .int, 0, 4008, 4006, 4007, 1016), (14, "indexOf", "(II)I", prog_18_method_80_code, 3, some .int, 0, 4012, 4010, 4011, 1016), (14, "length", "()I", prog_18_method_54_code, 1, some .int, 0, 4016, 4014, 4015, 1016), (14, "coder", "()B", prog_18_method_152_code, 1, some .byte, 0, 4020, 4018, 4019, 1016), (15, "indexOf", "([BIII)I", prog_19_method_22_code, 4, some .int, 1, 4023, 4022, 0, 1017), (15, "canEncode", "(I)Z", prog_19_method_4_code, 1, some .boolean, 1, 4026, 4025, 0, 1017), (15, "indexOfChar", "([BIII)I", prog_19_method_23_code, 6, some .int, 1, 4031, 4030, 0, 1017)]
def IRL : List pR := IR0 ++ IR1 ++ IR2 ++ IR3 ++ IR4
def IRo (k : Nat) : pR := IRL.getD k (99, "", "", ⟨#[]⟩, 0, none, 9, 0, 0, 0, 0)
def IN (k : Nat) : pN := (⟨cnm.getD (IRo k).1 "", (IRo k).2.1, (IRo k).2.2.1⟩, (IRo k).2.2.2.1, (IRo k).2.2.2.2.1, (IRo k).2.2.2.2.2.1, (IRo k).2.2.2.2.2.2.1)
def tbq : Nat → List Cond
  | 0 => k2_sels lw_privs
  | 1 => tables_1_1
  | 2 => tables_1_2
  | 3 => tables_1_3
  | 4 => tables_1_4
  | 5 => tables_1_5
  | 6 => tables_1_6
  | 7 => tables_1_7
  | 8 => tables_1_8
  | _ => []
def tbw (w : Nat) : Option Cond := (tbq (w / 1000))[w % 1000]?
theorem tbq_in (c : Nat) {x : Cond} (h : x ∈ tbq c) : x ∈ lw_tbl := by
  unfold lw_tbl tables_1
  simp only [List.mem_append]
  match c, h with
  | 0, h => exact Or.inl h
  | 1, h => exact Or.inr (Or.inl h)
  | 2, h => exact Or.inr (Or.inr (Or.inl h))
  | 3, h => exact Or.inr (Or.inr (Or.inr (Or.inl h)))
  | 4, h => exact Or.inr (Or.inr (Or.inr (Or.inr (Or.inl h))))
  | 5, h => exact Or.inr (Or.inr (Or.inr (Or.inr (Or.inr (Or.inl h)))))
  | 6, h => exact Or.inr (Or.inr (Or.inr (Or.inr (Or.inr (Or.inr (Or.inl h))))))
  | 7, h => exact Or.inr (Or.inr (Or.inr (Or.inr (Or.inr (Or.inr (Or.inr (Or.inl h)))))))
  | 8, h => exact Or.inr (Or.inr (Or.inr (Or.inr (Or.inr (Or.inr (Or.inr (Or.inr h)))))))
  | c + 9, h => exact absurd h List.not_mem_nil
/-- the words that every method is given -/
def GW : List Cond := lw_tbl.filter goodWord
theorem GW_good : ∀ w ∈ GW, goodWord w = true := fun w h => (List.mem_filter.mp h).2
theorem GW_of {w : Nat} {x : Cond} (h : tbw w = some x) (hg : goodWord x = true) : x ∈ GW := List.mem_filter.mpr ⟨tbq_in (w / 1000) (List.mem_of_getElem? h), hg⟩
def layP : List (List Nat) := [[2131, 2133, 2135, 2137, 2139], [2103, 2105, 2107, 2109, 2111, 2113, 2115], [2078, 2080, 2082, 2084], [1062, 1064, 1066, 1068, 1070, 1072, 1074, 1076], [1231, 1233, 1235], [1207, 1209, 1211, 1213, 1215], [1103, 1105, 1107, 1109, 1111, 1113, 1115, 1117, 1119], [2047, 2049, 2051, 2053, 2055, 2057, 2059, 2061, 2063], [1138, 1140, 1142], [2012, 2014, 2016, 2018, 2020], [1173, 1175, 1177, 1179, 1181, 1183, 1185, 1187, 1189, 1191], [2158, 2160, 2162, 2164, 2166, 2168, 2170, 2172, 2174, 2176, 2178, 2180, 2182, 2184, 2186, 2188], [6042, 6044, 6046, 6048, 6050, 6052, 6054, 6056, 6058, 6060, 6062, 6064, 6066, 6068, 6070, 6072, 6074, 6076, 6078, 6080, 6082, 6084, 6086, 6088, 6090, 6092, 6094, 6096, 6098, 6100, 6102, 6104, 6106, 6108, 6110, 6112, 6114, 6116, 6118, 6120, 6122, 6124, 6126, 6128, 6130, 6132, 6134, 6136, 6138, 6140, 6142, 6144, 6146, 6148, 6150, 6152, 6154, 6156, 6158, 6160]]
def layOk (b : Nat) : Bool := match cls[b]?, layP[b]? with
  | some (C, T, N), some ps => decide ((u_ws C T N).map some = ps.map tbw)
  | _, _ => false
theorem lay_all : (List.range 13).all layOk = true := by decide +kernel
theorem lay_in {b : Nat} {C : String} {T : u_T} {N : Nat} (hb : cls[b]? = some (C, T, N)) : ∀ w ∈ u_ws C T N, w ∈ GW := by
  intro w hw
  have hlt : b < 13 := (List.getElem?_eq_some_iff.mp hb).1
  have h1 := List.all_eq_true.mp lay_all b (List.mem_range.mpr hlt)
  unfold layOk at h1
  rw [hb] at h1
  split at h1
  · rename_i C' T' N' ps e1 e2
    cases e1
    have h2 := of_decide_eq_true h1
    have h3 : some w ∈ (u_ws C T N).map some := List.mem_map.mpr ⟨w, hw, rfl⟩
    rw [h2] at h3
    obtain ⟨p, -, hp⟩ := List.mem_map.mp h3
    refine GW_of hp ?_
    obtain ⟨k, -, rfl⟩ := List.mem_map.mp hw
    unfold u_lay
    split <;> rfl
  · cases h1
def tyOk (b : Nat) : Bool := match cls[b]?, yCs[b]? with
  | some (_, T, N), some y => (List.range N).all (fun k => decide (parseFieldDescriptor (T k).2.2.1 = some (y k)) && (List.range N).all (fun j => decide (k = j) || decide ((T k).2.1 ≠ (T j).2.1)))
  | _, _ => false
theorem ty_all : (List.range 13).all tyOk = true := by decide +kernel
theorem ty_of {b : Nat} {C : String} {T : u_T} {N : Nat} (hb : cls[b]? = some (C, T, N)) : ∃ y, yCs[b]? = some y ∧ (∀ k, k < N → parseFieldDescriptor (T k).2.2.1 = some (y k)) ∧ ∀ x, x < N → ∀ z, z < N → x ≠ z → (T x).2.1 ≠ (T z).2.1 := by
  have hlt : b < 13 := (List.getElem?_eq_some_iff.mp hb).1
  have h1 := List.all_eq_true.mp ty_all b (List.mem_range.mpr hlt)
  unfold tyOk at h1
  rw [hb] at h1
  split at h1
  · rename_i C' T' N' y e1 e2
    cases e1
    have h2 := List.all_eq_true.mp h1
    refine ⟨y, e2, fun k hk => ?_, fun x hx z hz hne => ?_⟩
    · have := h2 k (List.mem_range.mpr hk)
      simp only [Bool.and_eq_true, decide_eq_true_eq] at this
      exact this.1
    · have := h2 x (List.mem_range.mpr hx)
      simp only [Bool.and_eq_true, decide_eq_true_eq] at this
      have := List.all_eq_true.mp this.2 z (List.mem_range.mpr hz)
      simp only [Bool.or_eq_true, decide_eq_true_eq] at this
      exact this.resolve_left hne
  · cases h1
/-- field links: whose, which, class, field, place of the word -/
def FLK : List (Nat × Nat × Nat × Nat × Nat) := [(0, 9, 0, 2, 2126), (0, 15, 0, 0, 2124), (0, 19, 0, 1, 2125), (0, 23, 10, 6, 1164), (0, 29, 8, 2, 1131), (0, 41, 3, 1, 1039), (0, 54, 0, 3, 2127), (0, 57, 0, 4, 2129), (0, 88, 3, 2, 1043), (1, 9, 1, 2, 2095), (1, 15, 1, 3, 2096), (1, 18, 1, 0, 2093), (1, 22, 1, 1, 2094), (1, 26, 10, 1, 1149), (1, 59, 1, 5, 2099), (1, 63, 1, 4, 2097), (1, 69, 1, 6, 2101), (1, 72, 3, 2, 1044), (1, 83, 10, 7, 1167), (1, 87, 8, 2, 1137), (2, 9, 2, 2, 2074), (2, 15, 2, 3, 2076), (2, 18, 2, 0, 2072), (2, 22, 2, 1, 2073), (2, 26, 3, 1, 1037), (2, 36, 10, 2, 1152), (2, 41, 10, 3, 1155), (2, 44, 10, 5, 1161), (2, 48, 8, 2, 1132), (3, 9, 3, 0, 1036), (3, 21, 3, 1, 1038), (3, 25, 3, 2, 1042), (3, 28, 3, 3, 1048), (3, 31, 3, 4, 1051), (3, 34, 3, 5, 1054), (3, 37, 3, 6, 1057), (3, 40, 3, 7, 1061), (4, 11, 4, 0, 1227), (4, 15, 4, 1, 1228), (4, 20, 4, 2, 1229), (4, 31, 8, 2, 1135), (5, 9, 5, 0, 1202), (5, 15, 5, 1, 1203), (5, 19, 5, 2, 1204), (5, 23, 5, 3, 1205), (5, 27, 3, 3, 1047), (5, 39, 5, 4, 1206), (5, 42, 3, 1, 1040), (5, 49, 10, 0, 1146), (5, 101, 3, 2, 1045), (5, 104, 10, 4, 1158), (5, 107, 8, 2, 1136), (5, 137, 3, 6, 1058), (5, 140, 3, 4, 1053), (5, 143, 3, 5, 1055), (6, 9, 6, 0, 1092), (6, 15, 6, 1, 1093), (6, 18, 6, 2, 1094), (6, 21, 6, 3, 1095), (6, 24, 6, 4, 1096), (6, 27, 6, 5, 1097), (6, 30, 6, 6, 1098), (6, 33, 6, 7, 1099), (6, 43, 6, 8, 1101), (6, 52, 3, 3, 1050), (7, 12, 7, 1, 2034), (7, 23, 7, 2, 2036), (7, 27, 7, 5, 2042), (7, 31, 7, 0, 2033), (7, 35, 7, 4, 2040), (7, 38, 7, 3, 2038), (7, 56, 7, 6, 2044), (7, 59, 9, 1, 2006), (7, 63, 7, 7, 2045), (7, 80, 9, 2, 2008), (7, 89, 7, 8, 2046), (7, 105, 6, 7, 1100), (8, 9, 8, 0, 1128), (8, 15, 8, 1, 1129), (8, 19, 8, 2, 1130), (9, 9, 9, 0, 2004), (9, 15, 9, 1, 2005), (9, 18, 9, 2, 2007), (9, 21, 9, 4, 2010), (9, 25, 9, 3, 2009), (10, 12, 10, 0, 1145), (10, 18, 10, 1, 1148), (10, 22, 10, 2, 1151), (10, 25, 10, 3, 1154), (10, 33, 10, 4, 1157), (10, 37, 10, 5, 1160), (10, 40, 10, 6, 1163), (10, 43, 10, 7, 1166), (10, 59, 10, 8, 1169), (10, 63, 10, 9, 1171), (10, 66, 7, 1, 2035), (10, 69, 7, 2, 2037), (10, 78, 8, 2, 1133), (11, 10, 11, 0, 2142), (11, 19, 11, 1, 2143), (11, 28, 11, 2, 2144), (11, 37, 11, 3, 2145), (11, 41, 11, 4, 2146), (11, 44, 11, 5, 2147), (11, 50, 11, 6, 2148), (11, 57, 11, 7, 2149), (11, 66, 11, 8, 2150), (11, 75, 11, 9, 2151), (11, 82, 11, 10, 2152), (11, 89, 11, 11, 2153), (11, 93, 11, 12, 2154), (11, 96, 11, 13, 2155), (11, 99, 11, 14, 2156), (11, 102, 11, 15, 2157), (11, 106, 3, 7, 1060), (11, 117, 3, 1, 1041), (11, 124, 3, 3, 1049), (11, 139, 8, 2, 1134), (11, 162, 3, 4, 1052), (11, 174, 9, 4, 2011), (11, 184, 7, 3, 2039), (11, 187, 7, 4, 2041), (11, 190, 7, 5, 2043), (11, 195, 10, 0, 1147), (11, 205, 10, 1, 1150), (11, 209, 10, 2, 1153), (11, 212, 10, 3, 1156), (11, 222, 3, 5, 1056), (11, 225, 3, 6, 1059), (11, 228, 3, 2, 1046), (11, 236, 10, 5, 1162), (11, 250, 2, 2, 2075), (11, 253, 2, 3, 2077), (11, 259, 1, 4, 2098), (11, 262, 1, 5, 2100), (11, 265, 1, 6, 2102), (11, 283, 10, 6, 1165), (11, 292, 0, 3, 2128), (11, 295, 0, 4, 2130), (11, 316, 10, 7, 1168), (11, 350, 6, 8, 1102), (11, 351, 10, 8, 1170), (11, 354, 10, 9, 1172), (11, 357, 10, 4, 1159), (11, 360, 4, 2, 1230), (12, 7, 12, 1, 5223), (12, 13, 12, 2, 5224), (12, 16, 12, 4, 5226), (12, 19, 12, 7, 5229), (12, 22, 12, 8, 5230), (12, 25, 12, 9, 5231), (12, 28, 12, 10, 5232), (12, 31, 12, 11, 5233), (12, 34, 12, 17, 5239), (12, 37, 12, 18, 6000), (12, 40, 12, 19, 6001), (12, 43, 12, 20, 6002), (12, 46, 12, 21, 6003), (12, 49, 12, 22, 6004), (12, 52, 12, 23, 6005), (12, 55, 12, 24, 6006), (12, 58, 12, 28, 6010), (12, 61, 12, 33, 6015), (12, 65, 12, 35, 6017), (12, 68, 12, 37, 6019), (12, 71, 12, 38, 6020), (12, 74, 12, 40, 6022), (12, 77, 12, 41, 6023), (12, 80, 12, 42, 6024), (12, 83, 12, 44, 6026), (12, 86, 12, 45, 6027), (12, 89, 12, 46, 6028), (12, 92, 12, 47, 6029), (12, 95, 12, 48, 6030), (12, 98, 12, 50, 6032), (12, 101, 12, 51, 6033), (12, 104, 12, 53, 6035), (12, 107, 12, 54, 6036), (12, 110, 12, 55, 6037), (12, 113, 12, 59, 6041), (12, 119, 12, 3, 5225), (12, 116, 12, 0, 5222), (12, 122, 12, 5, 5227), (12, 128, 12, 6, 5228), (12, 145, 12, 12, 5234), (12, 152, 12, 13, 5235), (12, 159, 12, 14, 5236), (12, 162, 12, 15, 5237), (12, 165, 12, 16, 5238), (12, 181, 12, 30, 6012), (12, 184, 12, 31, 6013), (12, 187, 12, 26, 6008), (12, 216, 12, 29, 6011), (12, 219, 12, 27, 6009), (12, 241, 12, 25, 6007), (12, 275, 12, 34, 6016), (12, 278, 12, 36, 6018), (12, 281, 12, 39, 6021), (12, 284, 12, 32, 6014), (12, 389, 12, 43, 6025), (12, 416, 12, 49, 6031), (12, 443, 12, 52, 6034), (12, 459, 12, 58, 6040), (12, 462, 12, 56, 6038), (12, 468, 12, 57, 6039)]
def flkOk (q : Nat × Nat × Nat × Nat × Nat) : Bool := match cls[q.2.2.1]? with
  | some (_, T, N) => decide (q.2.2.2.1 < N) && decide (tbw q.2.2.2.2 = some (.fieldLink (cnm.getD q.1 "") q.2.1 (T q.2.2.2.1).1 (T q.2.2.2.1).2.1 (T q.2.2.2.1).2.2.1))
  | none => false
theorem flk_all : FLK.all flkOk = true := by decide +kernel
/-- method links: whose, which, callee, nest mate or not, place of the word -/
def MLK : List (Nat × Nat × Nat × Nat × Nat) := [(0, 46, 39, 0, 5063), (0, 50, 2, 0, 5064), (0, 60, 285, 0, 5077), (0, 66, 3, 0, 5078), (0, 69, 5, 0, 5068), (0, 72, 4, 0, 5074), (0, 76, 97, 0, 5072), (0, 79, 40, 0, 5073), (0, 82, 7, 0, 5090), (0, 85, 45, 0, 5094), (0, 91, 9, 0, 5104), (0, 94, 10, 0, 5108), (0, 98, 154, 1, 5112), (0, 101, 12, 0, 5121), (0, 104, 14, 0, 5133), (0, 107, 15, 0, 5185), (0, 110, 16, 0, 5189), (0, 113, 17, 0, 5181), (1, 31, 153, 1, 4230), (1, 35, 154, 1, 4235), (1, 38, 21, 0, 4236), (1, 42, 20, 0, 4226), (1, 46, 22, 0, 4231), (1, 50, 45, 0, 5000), (1, 56, 46, 0, 5001), (1, 66, 24, 0, 5005), (1, 75, 285, 0, 5033), (1, 80, 28, 0, 5034), (1, 92, 97, 0, 5153), (1, 95, 31, 0, 5154), (1, 98, 25, 0, 5158), (2, 32, 40, 0, 4209), (2, 53, 97, 0, 4210), (2, 56, 35, 0, 4211), (2, 60, 38, 0, 4215), (3, 43, 154, 1, 2235), (3, 47, 41, 0, 2210), (3, 51, 40, 0, 2238), (3, 60, 39, 0, 2231), (4, 19, 36, 1, 1226), (4, 24, 51, 0, 3006), (4, 27, 37, 0, 3010), (5, 33, 95, 0, 3067), (5, 45, 154, 1, 3026), (5, 55, 72, 0, 3027), (5, 61, 39, 0, 3088), (5, 65, 40, 0, 3055), (5, 69, 41, 0, 3056), (5, 73, 47, 0, 3057), (5, 77, 45, 0, 3021), (5, 80, 55, 0, 3022), (5, 83, 57, 0, 3051), (5, 86, 54, 0, 3063), (5, 89, 44, 0, 3071), (5, 93, 60, 0, 3084), (5, 97, 43, 0, 3089), (5, 110, 97, 0, 3114), (5, 113, 64, 0, 3119), (5, 116, 65, 0, 3128), (5, 119, 66, 0, 3132), (5, 122, 59, 0, 3123), (5, 125, 58, 0, 3124), (5, 128, 38, 0, 3125), (5, 131, 61, 0, 3126), (5, 134, 62, 0, 3127), (6, 46, 40, 0, 3031), (6, 60, 75, 0, 3035), (6, 63, 74, 0, 3042), (6, 66, 73, 0, 3048), (6, 72, 76, 0, 3039), (7, 11, 67, 1, 2030), (7, 20, 94, 0, 2032), (7, 41, 69, 0, 3160), (7, 44, 96, 0, 3164), (7, 47, 153, 1, 3168), (7, 51, 102, 0, 3169), (7, 66, 87, 0, 4067), (7, 70, 84, 0, 4118), (7, 73, 85, 0, 4127), (7, 76, 86, 0, 4131), (7, 83, 80, 0, 4075), (7, 86, 79, 0, 4079), (7, 92, 82, 0, 4071), (7, 95, 83, 0, 4122), (7, 98, 81, 0, 4110), (7, 101, 95, 0, 4126), (7, 108, 90, 0, 4083), (7, 111, 88, 0, 4102), (7, 114, 71, 0, 4114), (7, 118, 89, 0, 4106), (7, 121, 70, 0, 4091), (7, 123, 93, 0, 4087), (7, 127, 91, 0, 4095), (7, 130, 92, 0, 4098), (8, 22, 153, 1, 3118), (9, 28, 104, 0, 3173), (9, 32, 106, 0, 3176), (9, 36, 108, 0, 3180), (9, 40, 103, 0, 3229), (9, 44, 105, 0, 3233), (9, 47, 107, 0, 3236), (9, 50, 110, 0, 4000), (9, 55, 291, 0, 4005), (9, 60, 109, 0, 3184), (9, 66, 286, 0, 3189), (10, 11, 67, 1, 1088), (10, 30, 94, 0, 1124), (10, 46, 68, 0, 4139), (10, 56, 98, 0, 4154), (10, 72, 114, 0, 4144), (10, 75, 115, 0, 4150), (10, 81, 97, 0, 4148), (10, 85, 153, 1, 4149), (11, 9, 36, 1, 1032), (11, 18, 111, 0, 1082), (11, 25, 94, 0, 1195), (11, 34, 53, 0, 1198), (11, 49, 48, 0, 1220), (11, 56, 99, 1, 2000), (11, 63, 77, 0, 2025), (11, 72, 33, 0, 2068), (11, 81, 19, 0, 2089), (11, 88, 0, 0, 2120), (11, 110, 49, 0, 2195), (11, 113, 153, 0, 2203), (11, 120, 42, 0, 2206), (11, 127, 38, 0, 2218), (11, 131, 41, 0, 2222), (11, 135, 45, 0, 2227), (11, 142, 50, 0, 3002), (11, 146, 58, 0, 3017), (11, 150, 59, 0, 3080), (11, 153, 39, 0, 3097), (11, 156, 62, 0, 3098), (11, 159, 61, 0, 3102), (11, 165, 63, 0, 3110), (11, 168, 100, 0, 3140), (11, 171, 101, 0, 3144), (11, 177, 78, 0, 3156), (11, 180, 113, 0, 4135), (11, 193, 40, 0, 4169), (11, 199, 72, 0, 4170), (11, 215, 97, 0, 4183), (11, 218, 37, 0, 4188), (11, 231, 285, 0, 4189), (11, 239, 96, 0, 4199), (11, 243, 95, 0, 4200), (11, 246, 34, 0, 4205), (11, 256, 23, 0, 4222), (11, 268, 25, 0, 5013), (11, 271, 26, 0, 5021), (11, 274, 27, 0, 5029), (11, 277, 154, 0, 5042), (11, 280, 29, 0, 5043), (11, 286, 155, 0, 5051), (11, 289, 1, 0, 5058), (11, 298, 6, 0, 5086), (11, 301, 7, 0, 5095), (11, 304, 8, 0, 5100), (11, 307, 11, 0, 5117), (11, 310, 13, 0, 5129), (11, 313, 14, 0, 5137), (11, 319, 156, 0, 5142), (11, 322, 30, 0, 5149), (11, 325, 32, 0, 5159), (11, 328, 56, 0, 5168), (11, 331, 55, 0, 5172), (11, 334, 18, 0, 5177), (11, 337, 17, 0, 5193), (11, 340, 52, 0, 5198), (11, 344, 112, 0, 5206), (11, 347, 98, 0, 5211), (12, 131, 172, 0, 7107), (12, 135, 171, 0, 6175), (12, 138, 158, 0, 6179), (12, 142, 170, 0, 6187), (12, 148, 177, 0, 6195), (12, 155, 180, 0, 6215), (12, 168, 181, 0, 6219), (12, 171, 184, 0, 6223), (12, 175, 182, 0, 6227), (12, 178, 183, 0, 6231), (12, 190, 190, 0, 7063), (12, 193, 186, 0, 7003), (12, 196, 189, 0, 7067), (12, 200, 185, 0, 6211), (12, 203, 191, 0, 7059), (12, 207, 188, 0, 7023), (12, 210, 192, 0, 7055), (12, 213, 193, 0, 7051), (12, 222, 187, 0, 6239), (12, 225, 195, 0, 7075), (12, 228, 194, 0, 7079), (12, 231, 196, 0, 7083), (12, 234, 198, 0, 7047), (12, 238, 197, 0, 7071), (12, 244, 201, 0, 7015), (12, 247, 203, 0, 7011), (12, 251, 202, 0, 7019), (12, 254, 204, 0, 7007), (12, 257, 206, 0, 7031), (12, 260, 208, 0, 7039), (12, 263, 205, 0, 6235), (12, 266, 207, 0, 7027), (12, 269, 209, 0, 7035), (12, 272, 199, 0, 7043), (12, 287, 210, 0, 6207), (12, 290, 200, 0, 7087), (12, 293, 211, 0, 7091), (12, 296, 214, 0, 7135), (12, 299, 215, 0, 7131), (12, 302, 218, 0, 7115), (12, 305, 216, 0, 7127), (12, 308, 159, 0, 7139), (12, 311, 160, 0, 7119), (12, 314, 217, 0, 7123), (12, 318, 219, 0, 7111), (12, 321, 169, 0, 7155), (12, 324, 223, 0, 7103), (12, 327, 224, 0, 7151), (12, 331, 161, 0, 7161), (12, 334, 222, 0, 7165), (12, 338, 221, 0, 7181), (12, 341, 226, 0, 7177), (12, 344, 164, 0, 7143), (12, 347, 225, 0, 7147), (12, 350, 227, 0, 7173), (12, 353, 229, 0, 7189), (12, 356, 228, 0, 7193), (12, 359, 220, 0, 7217), (12, 362, 233, 0, 7205), (12, 365, 234, 0, 7209), (12, 368, 235, 0, 7213), (12, 371, 236, 0, 7201), (12, 374, 174, 0, 7229), (12, 377, 166, 0, 8005), (12, 380, 173, 0, 8009), (12, 383, 162, 0, 8013), (12, 386, 167, 0, 8017), (12, 392, 244, 0, 8029), (12, 395, 163, 0, 8045), (12, 398, 246, 0, 8049), (12, 401, 249, 0, 8037), (12, 404, 247, 0, 8041), (12, 407, 248, 0, 8053), (12, 410, 251, 0, 8061), (12, 413, 254, 0, 8073), (12, 419, 258, 0, 8097), (12, 422, 259, 0, 8093), (12, 425, 260, 0, 8089), (12, 428, 262, 0, 8105), (12, 431, 264, 0, 8117), (12, 434, 265, 0, 8113), (12, 437, 267, 0, 8125), (12, 440, 269, 0, 8133), (12, 446, 272, 0, 8149), (12, 449, 273, 0, 8153), (12, 452, 274, 0, 8145), (12, 456, 277, 0, 8166), (12, 465, 279, 0, 8174), (12, 471, 282, 0, 8178), (12, 474, 281, 0, 8182), (12, 477, 280, 0, 8186), (14, 492, 287, 0, 3193), (14, 495, 289, 0, 3199), (14, 1059, 290, 0, 3207), (15, 9, 288, 0, 3202), (14, 633, 292, 0, 4009), (14, 505, 293, 0, 4013), (14, 637, 295, 0, 4021), (14, 335, 294, 0, 4017), (15, 88, 296, 0, 4024), (15, 95, 297, 0, 4029)]
def mlkOk (q : Nat × Nat × Nat × Nat × Nat) : Bool := if q.2.2.2.1 = 0 then decide (tbw q.2.2.2.2 = some (.methodLink (cnm.getD q.1 "") q.2.1 (IN q.2.2.1).1)) else decide ((cnm.getD q.1 "", q.2.1, (IN q.2.2.1).1, "CardDrawer") ∈ pNL)
theorem mlk_all : MLK.all mlkOk = true := by decide +kernel
/-- other words: constants, links of the members that are rows of the kit, texts and statics -/
def OLK : List (Nat × Nat × Cond × Nat) := [(3, 64, .constant "CardDrawer$Drawer" 64 1664525, 3061), (3, 65, .constant "CardDrawer$Drawer" 65 1013904223, 3062), (13, 265, .constant "java/lang/Integer" 265 1431655765, 4192), (13, 266, .constant "java/lang/Integer" 266 858993459, 4193), (13, 267, .constant "java/lang/Integer" 267 252645135, 4194), (12, 126, .constant "CardDrawerModel" 126 1664525, 7159), (12, 127, .constant "CardDrawerModel" 127 1013904223, 7160), (12, 455, .constant "CardDrawerModel" 455 1000000, 8157), (11, 1, .methodLink "CardDrawer" 1 Lib.objectInit, 1027), (3, 3, .methodLink "CardDrawer$Drawer" 3 Lib.objectInit, 1035), (10, 3, .methodLink "CardDrawer$Told" 3 Lib.objectInit, 1085), (6, 3, .methodLink "CardDrawer$Law" 3 Lib.objectInit, 1091), (8, 3, .methodLink "CardDrawer$Rows" 3 Lib.objectInit, 1127), (5, 3, .methodLink "CardDrawer$Keeper" 3 Lib.objectInit, 1201), (4, 1, .methodLink "CardDrawer$History" 1 Lib.objectInit, 1223), (9, 3, .methodLink "CardDrawer$Tape" 3 Lib.objectInit, 2003), (7, 3, .methodLink "CardDrawer$Reader" 3 Lib.objectInit, 2028), (2, 3, .methodLink "CardDrawer$Dating" 3 Lib.objectInit, 2071), (1, 3, .methodLink "CardDrawer$Circle" 3 Lib.objectInit, 2092), (0, 3, .methodLink "CardDrawer$Chooser" 3 Lib.objectInit, 2123), (3, 15, .methodLink "CardDrawer$Drawer" 15 arraycopyName, 3014), (6, 55, .methodLink "CardDrawer$Law" 55 Lib.Math.max.name, 3032), (6, 69, .methodLink "CardDrawer$Law" 69 Lib.Math.min.name, 3045), (3, 55, .methodLink "CardDrawer$Drawer" 55 Lib.Math.min.name, 3075), (15, 92, .methodLink "java/lang/StringLatin1" 92 Lib.Math.max.name, 4027), (15, 38, .methodLink "java/lang/StringLatin1" 38 Lib.Math.min.name, 4028), (6, 37, .methodLink "CardDrawer$Law" 37 arraycopyName, 4143), (8, 26, .methodLink "CardDrawer$Rows" 26 Lib.Math.min.name, 4158), (8, 32, .methodLink "CardDrawer$Rows" 32 arraycopyName, 4159), (2, 64, .methodLink "CardDrawer$Dating" 64 Lib.Math.max.name, 4216), (2, 69, .methodLink "CardDrawer$Dating" 69 Lib.Math.min.name, 4217), (0, 35, .methodLink "CardDrawer$Chooser" 35 Lib.Math.min.name, 5062), (1, 101, .methodLink "CardDrawer$Circle" 101 Lib.Math.max.name, 5163), (10, 50, .methodLink "CardDrawer$Told" 50 arraycopyName, 5210), (12, 1, .methodLink "CardDrawerModel" 1 Lib.objectInit, 5221), (14, 38, .fieldLink "java/lang/String" 38 "java/lang/String" "COMPACT_STRINGS" "Z", 3197), (14, 1053, .fieldLink "java/lang/String" 1053 "jdk/internal/util/Preconditions" "SIOOBE_FORMATTER" "Ljava/util/function/BiFunction;", 3205), (14, 15, .fieldLink "java/lang/String" 15 "java/lang/String" "coder" "B", 8194), (14, 9, .fieldLink "java/lang/String" 9 "java/lang/String" "value" "[B", 8195), (99, 0, .instanceMethod Lib.objectInit, 1028), (99, 0, .code Lib.objectInit ⟨#[0xb1]⟩ 1 none, 1029), (99, 0, .native arraycopyName, 3016), (99, 0, .static arraycopyName, 3015), (99, 0, .initialized "java/lang/System", 1014), (99, 0, .static Lib.Math.max.name, 3033), (99, 0, .static Lib.Math.min.name, 3046), (99, 0, .initialized "java/lang/Math", 1015), (99, 0, .code Lib.Math.max.name Lib.Math.max.code 2 (some .int), 3034), (99, 0, .code Lib.Math.min.name Lib.Math.min.code 2 (some .int), 3047)]
theorem olk_all : OLK.all (fun q => decide (tbw q.2.2.2 = some q.2.2.1) && goodWord q.2.2.1) = true := by decide +kernel
theorem olk_in {q : Nat × Nat × Cond × Nat} (h : q ∈ OLK) : q.2.2.1 ∈ GW := by
  have := List.all_eq_true.mp olk_all q h
  simp only [Bool.and_eq_true, decide_eq_true_eq] at this
  exact GW_of this.1 this.2
