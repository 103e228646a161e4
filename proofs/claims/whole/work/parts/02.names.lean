def tv_R0 : String := "TiedViews"
def tv_T0 : u_T := fun k => match k with
  | 0 => ("TiedViews", "prime", "I", true)
  | 1 => ("TiedViews", "sheets", "[LTiedViews$Sheet;", true)
  | 2 => ("TiedViews", "told", "LTiedViews$Told;", true)
  | 3 => ("TiedViews", "reader", "LTiedViews$Reader;", true)
  | 4 => ("TiedViews", "agreement", "LTiedViews$Agreement;", true)
  | 5 => ("TiedViews", "dropping", "LTiedViews$Dropping;", true)
  | 6 => ("TiedViews", "hearsay", "LTiedViews$Hearsay;", true)
  | 7 => ("TiedViews", "choices", "LTiedViews$Choices;", true)
  | 8 => ("TiedViews", "bodies", "LTiedViews$Bodies;", true)
  | _ => ("TiedViews", "latestFinding", "I", false)
def tv_ty0 : Nat → FieldType := fun k => match k with
  | 0 => .int
  | 1 => .array (.object "TiedViews$Sheet")
  | 2 => .object "TiedViews$Told"
  | 3 => .object "TiedViews$Reader"
  | 4 => .object "TiedViews$Agreement"
  | 5 => .object "TiedViews$Dropping"
  | 6 => .object "TiedViews$Hearsay"
  | 7 => .object "TiedViews$Choices"
  | 8 => .object "TiedViews$Bodies"
  | _ => .int
def tv_R1 : String := "TiedViews$Sheet"
def tv_T1 : u_T := fun k => match k with
  | 0 => ("TiedViews$Sheet", "lane", "I", false)
  | 1 => ("TiedViews$Sheet", "length", "I", false)
  | _ => ("TiedViews$Sheet", "items", "[I", true)
def tv_ty1 : Nat → FieldType := fun k => match k with
  | 0 => .int
  | 1 => .int
  | _ => .array .int
def tv_R2 : String := "TiedViews$Told"
def tv_T2 : u_T := fun k => match k with
  | 0 => ("TiedViews$Told", "prime", "I", true)
  | 1 => ("TiedViews$Told", "eyes", "[LTiedViews$Eye;", true)
  | 2 => ("TiedViews$Told", "ties", "[LTiedViews$Tie;", true)
  | 3 => ("TiedViews$Told", "bars", "[I", true)
  | 4 => ("TiedViews$Told", "eyeCount", "I", false)
  | 5 => ("TiedViews$Told", "tieCount", "I", false)
  | 6 => ("TiedViews$Told", "barCount", "I", false)
  | 7 => ("TiedViews$Told", "columns", "I", false)
  | 8 => ("TiedViews$Told", "lines", "I", false)
  | 9 => ("TiedViews$Told", "keptEyes", "I", false)
  | 10 => ("TiedViews$Told", "keptTies", "I", false)
  | 11 => ("TiedViews$Told", "keptBars", "I", false)
  | 12 => ("TiedViews$Told", "keptColumns", "I", false)
  | _ => ("TiedViews$Told", "keptLines", "I", false)
def tv_ty2 : Nat → FieldType := fun k => match k with
  | 0 => .int
  | 1 => .array (.object "TiedViews$Eye")
  | 2 => .array (.object "TiedViews$Tie")
  | 3 => .array .int
  | 4 => .int
  | 5 => .int
  | 6 => .int
  | 7 => .int
  | 8 => .int
  | 9 => .int
  | 10 => .int
  | 11 => .int
  | 12 => .int
  | _ => .int
def tv_R3 : String := "TiedViews$Eye"
def tv_T3 : u_T := fun k => match k with
  | 0 => ("TiedViews$Eye", "number", "I", true)
  | 1 => ("TiedViews$Eye", "sort", "I", false)
  | 2 => ("TiedViews$Eye", "size", "I", false)
  | 3 => ("TiedViews$Eye", "column", "I", false)
  | 4 => ("TiedViews$Eye", "choiceSet", "I", false)
  | 5 => ("TiedViews$Eye", "hasReading", "Z", false)
  | _ => ("TiedViews$Eye", "numbers", "[I", true)
def tv_ty3 : Nat → FieldType := fun k => match k with
  | 0 => .int
  | 1 => .int
  | 2 => .int
  | 3 => .int
  | 4 => .int
  | 5 => .boolean
  | _ => .array .int
def tv_R4 : String := "TiedViews$Tie"
def tv_T4 : u_T := fun k => match k with
  | 0 => ("TiedViews$Tie", "firstEye", "I", false)
  | 1 => ("TiedViews$Tie", "secondEye", "I", false)
  | 2 => ("TiedViews$Tie", "rows", "I", false)
  | 3 => ("TiedViews$Tie", "firstTable", "[I", true)
  | _ => ("TiedViews$Tie", "secondTable", "[I", true)
def tv_ty4 : Nat → FieldType := fun k => match k with
  | 0 => .int
  | 1 => .int
  | 2 => .int
  | 3 => .array .int
  | _ => .array .int
def tv_R5 : String := "TiedViews$Reader"
def tv_T5 : u_T := fun k => match k with
  | 0 => ("TiedViews$Reader", "told", "LTiedViews$Told;", true)
  | 1 => ("TiedViews$Reader", "tape", "[B", true)
  | 2 => ("TiedViews$Reader", "length", "I", false)
  | 3 => ("TiedViews$Reader", "latestFault", "I", false)
  | 4 => ("TiedViews$Reader", "token", "I", false)
  | 5 => ("TiedViews$Reader", "begin", "I", false)
  | 6 => ("TiedViews$Reader", "behind", "I", false)
  | 7 => ("TiedViews$Reader", "value", "I", false)
  | _ => ("TiedViews$Reader", "taken", "I", false)
def tv_ty5 : Nat → FieldType := fun k => match k with
  | 0 => .object "TiedViews$Told"
  | 1 => .array .byte
  | 2 => .int
  | 3 => .int
  | 4 => .int
  | 5 => .int
  | 6 => .int
  | 7 => .int
  | _ => .int
def tv_R6 : String := "TiedViews$Agreement"
def tv_T6 : u_T := fun k => match k with
  | 0 => ("TiedViews$Agreement", "told", "LTiedViews$Told;", true)
  | 1 => ("TiedViews$Agreement", "lines", "LTiedViews$Steps;", true)
  | 2 => ("TiedViews$Agreement", "wanting", "LTiedViews$Steps;", true)
  | 3 => ("TiedViews$Agreement", "fillKnown", "Z", false)
  | _ => ("TiedViews$Agreement", "fit", "Z", false)
def tv_ty6 : Nat → FieldType := fun k => match k with
  | 0 => .object "TiedViews$Told"
  | 1 => .object "TiedViews$Steps"
  | 2 => .object "TiedViews$Steps"
  | 3 => .boolean
  | _ => .boolean
def tv_R7 : String := "TiedViews$Steps"
def tv_T7 : u_T := fun k => match k with
  | 0 => ("TiedViews$Steps", "prime", "I", true)
  | 1 => ("TiedViews$Steps", "mostExtras", "I", true)
  | 2 => ("TiedViews$Steps", "rows", "[[I", true)
  | 3 => ("TiedViews$Steps", "leaderOf", "[I", true)
  | 4 => ("TiedViews$Steps", "freeAt", "[I", true)
  | 5 => ("TiedViews$Steps", "leads", "[I", true)
  | 6 => ("TiedViews$Steps", "lineCount", "I", false)
  | 7 => ("TiedViews$Steps", "columnCount", "I", false)
  | 8 => ("TiedViews$Steps", "leaderCount", "I", false)
  | 9 => ("TiedViews$Steps", "freeCount", "I", false)
  | _ => ("TiedViews$Steps", "width", "I", false)
def tv_ty7 : Nat → FieldType := fun k => match k with
  | 0 => .int
  | 1 => .int
  | 2 => .array (.array .int)
  | 3 => .array .int
  | 4 => .array .int
  | 5 => .array .int
  | 6 => .int
  | 7 => .int
  | 8 => .int
  | 9 => .int
  | _ => .int
def tv_R8 : String := "TiedViews$Dropping"
def tv_T8 : u_T := fun k => match k with
  | 0 => ("TiedViews$Dropping", "told", "LTiedViews$Told;", true)
  | 1 => ("TiedViews$Dropping", "agreement", "LTiedViews$Agreement;", true)
  | 2 => ("TiedViews$Dropping", "equations", "[[I", true)
  | 3 => ("TiedViews$Dropping", "ledBy", "[I", true)
  | 4 => ("TiedViews$Dropping", "equationCount", "I", false)
  | 5 => ("TiedViews$Dropping", "unknowns", "I", false)
  | 6 => ("TiedViews$Dropping", "best", "I", false)
  | 7 => ("TiedViews$Dropping", "bestCount", "I", false)
  | _ => ("TiedViews$Dropping", "known", "Z", false)
def tv_ty8 : Nat → FieldType := fun k => match k with
  | 0 => .object "TiedViews$Told"
  | 1 => .object "TiedViews$Agreement"
  | 2 => .array (.array .int)
  | 3 => .array .int
  | 4 => .int
  | 5 => .int
  | 6 => .int
  | 7 => .int
  | _ => .boolean
def tv_R9 : String := "TiedViews$Hearsay"
def tv_T9 : u_T := fun k => match k with
  | 0 => ("TiedViews$Hearsay", "told", "LTiedViews$Told;", true)
  | 1 => ("TiedViews$Hearsay", "takesOf", "[I", true)
  | 2 => ("TiedViews$Hearsay", "takesBy", "[I", true)
  | 3 => ("TiedViews$Hearsay", "ruleCount", "I", false)
  | 4 => ("TiedViews$Hearsay", "row", "[I", true)
  | 5 => ("TiedViews$Hearsay", "walker", "[I", true)
  | 6 => ("TiedViews$Hearsay", "heard", "[I", true)
  | 7 => ("TiedViews$Hearsay", "lowSeen", "[J", true)
  | 8 => ("TiedViews$Hearsay", "highSeen", "[J", true)
  | 9 => ("TiedViews$Hearsay", "settledBehind", "I", false)
  | 10 => ("TiedViews$Hearsay", "settledLater", "I", false)
  | 11 => ("TiedViews$Hearsay", "spent", "Z", false)
  | _ => ("TiedViews$Hearsay", "known", "Z", false)
def tv_ty9 : Nat → FieldType := fun k => match k with
  | 0 => .object "TiedViews$Told"
  | 1 => .array .int
  | 2 => .array .int
  | 3 => .int
  | 4 => .array .int
  | 5 => .array .int
  | 6 => .array .int
  | 7 => .array .long
  | 8 => .array .long
  | 9 => .int
  | 10 => .int
  | 11 => .boolean
  | _ => .boolean
def tv_R10 : String := "TiedViews$Choices"
def tv_T10 : u_T := fun k => match k with
  | 0 => ("TiedViews$Choices", "told", "LTiedViews$Told;", true)
  | 1 => ("TiedViews$Choices", "goesWith", "[[I", true)
  | 2 => ("TiedViews$Choices", "barsLater", "[Z", true)
  | 3 => ("TiedViews$Choices", "open", "[[I", true)
  | 4 => ("TiedViews$Choices", "first", "[I", true)
  | 5 => ("TiedViews$Choices", "wayCount", "I", false)
  | _ => ("TiedViews$Choices", "known", "Z", false)
def tv_ty10 : Nat → FieldType := fun k => match k with
  | 0 => .object "TiedViews$Told"
  | 1 => .array (.array .int)
  | 2 => .array .boolean
  | 3 => .array (.array .int)
  | 4 => .array .int
  | 5 => .int
  | _ => .boolean
def tv_R11 : String := "TiedViews$Bodies"
def tv_T11 : u_T := fun k => match k with
  | 0 => ("TiedViews$Bodies", "told", "LTiedViews$Told;", true)
  | 1 => ("TiedViews$Bodies", "traced", "[I", true)
  | _ => ("TiedViews$Bodies", "tracedCount", "I", false)
def tv_ty11 : Nat → FieldType := fun k => match k with
  | 0 => .object "TiedViews$Told"
  | 1 => .array .int
  | _ => .int
def tv_R12 : String := "TiedViewsModel"
def tv_T12 : u_T := fun k => match k with
  | 0 => ("TiedViewsModel", "thrown", "I", false)
  | 1 => ("TiedViewsModel", "status", "I", false)
  | 2 => ("TiedViewsModel", "prime", "I", true)
  | 3 => ("TiedViewsModel", "lane", "[I", true)
  | 4 => ("TiedViewsModel", "many", "[I", true)
  | 5 => ("TiedViewsModel", "item", "[I", true)
  | 6 => ("TiedViewsModel", "eyes", "I", false)
  | 7 => ("TiedViewsModel", "sort", "[I", true)
  | 8 => ("TiedViewsModel", "dims", "[I", true)
  | 9 => ("TiedViewsModel", "column", "[I", true)
  | 10 => ("TiedViewsModel", "columns", "I", false)
  | 11 => ("TiedViewsModel", "ties", "I", false)
  | 12 => ("TiedViewsModel", "tieOne", "[I", true)
  | 13 => ("TiedViewsModel", "tieOther", "[I", true)
  | 14 => ("TiedViewsModel", "tieRows", "[I", true)
  | 15 => ("TiedViewsModel", "table", "[I", true)
  | 16 => ("TiedViewsModel", "bars", "I", false)
  | 17 => ("TiedViewsModel", "barOne", "[I", true)
  | 18 => ("TiedViewsModel", "barOther", "[I", true)
  | 19 => ("TiedViewsModel", "barValue", "[I", true)
  | 20 => ("TiedViewsModel", "barWith", "[I", true)
  | 21 => ("TiedViewsModel", "barred", "[I", true)
  | 22 => ("TiedViewsModel", "choice", "[I", true)
  | 23 => ("TiedViewsModel", "tape", "[I", true)
  | 24 => ("TiedViewsModel", "taped", "I", false)
  | 25 => ("TiedViewsModel", "latest", "I", false)
  | 26 => ("TiedViewsModel", "size", "I", false)
  | 27 => ("TiedViewsModel", "cursor", "I", false)
  | 28 => ("TiedViewsModel", "token", "I", false)
  | 29 => ("TiedViewsModel", "from", "I", false)
  | 30 => ("TiedViewsModel", "till", "I", false)
  | 31 => ("TiedViewsModel", "fault", "I", false)
  | 32 => ("TiedViewsModel", "faultAt", "I", false)
  | 33 => ("TiedViewsModel", "newEyes", "I", false)
  | 34 => ("TiedViewsModel", "newColumns", "I", false)
  | 35 => ("TiedViewsModel", "newTies", "I", false)
  | 36 => ("TiedViewsModel", "newBars", "I", false)
  | 37 => ("TiedViewsModel", "lines", "I", false)
  | 38 => ("TiedViewsModel", "line", "[I", true)
  | 39 => ("TiedViewsModel", "isLeader", "[Z", true)
  | 40 => ("TiedViewsModel", "leader", "[I", true)
  | 41 => ("TiedViewsModel", "hasReading", "[Z", true)
  | 42 => ("TiedViewsModel", "reads", "[I", true)
  | 43 => ("TiedViewsModel", "rules", "I", false)
  | 44 => ("TiedViewsModel", "ruleTie", "[I", true)
  | 45 => ("TiedViewsModel", "ruleFrom", "[I", true)
  | 46 => ("TiedViewsModel", "now", "[I", true)
  | 47 => ("TiedViewsModel", "then", "[I", true)
  | 48 => ("TiedViewsModel", "rows", "[I", true)
  | 49 => ("TiedViewsModel", "choices", "I", false)
  | 50 => ("TiedViewsModel", "whose", "[I", true)
  | 51 => ("TiedViewsModel", "given", "[I", true)
  | 52 => ("TiedViewsModel", "first", "[I", true)
  | 53 => ("TiedViewsModel", "trace", "[I", true)
  | _ => ("TiedViewsModel", "traced", "I", false)
def tv_ty12 : Nat → FieldType := fun k => match k with
  | 0 => .int
  | 1 => .int
  | 2 => .int
  | 3 => .array .int
  | 4 => .array .int
  | 5 => .array .int
  | 6 => .int
  | 7 => .array .int
  | 8 => .array .int
  | 9 => .array .int
  | 10 => .int
  | 11 => .int
  | 12 => .array .int
  | 13 => .array .int
  | 14 => .array .int
  | 15 => .array .int
  | 16 => .int
  | 17 => .array .int
  | 18 => .array .int
  | 19 => .array .int
  | 20 => .array .int
  | 21 => .array .int
  | 22 => .array .int
  | 23 => .array .int
  | 24 => .int
  | 25 => .int
  | 26 => .int
  | 27 => .int
  | 28 => .int
  | 29 => .int
  | 30 => .int
  | 31 => .int
  | 32 => .int
  | 33 => .int
  | 34 => .int
  | 35 => .int
  | 36 => .int
  | 37 => .int
  | 38 => .array .int
  | 39 => .array .boolean
  | 40 => .array .int
  | 41 => .array .boolean
  | 42 => .array .int
  | 43 => .int
  | 44 => .array .int
  | 45 => .array .int
  | 46 => .array .int
  | 47 => .array .int
  | 48 => .array .int
  | 49 => .int
  | 50 => .array .int
  | 51 => .array .int
  | 52 => .array .int
  | 53 => .array .int
  | _ => .int
abbrev tv_cl : List vw_C := [(tv_R0, tv_T0, 10), (tv_R1, tv_T1, 3), (tv_R2, tv_T2, 14), (tv_R3, tv_T3, 7), (tv_R4, tv_T4, 5), (tv_R5, tv_T5, 9), (tv_R6, tv_T6, 5), (tv_R7, tv_T7, 11), (tv_R8, tv_T8, 9), (tv_R9, tv_T9, 13), (tv_R10, tv_T10, 7), (tv_R11, tv_T11, 3), (tv_R12, tv_T12, 55)]
/-- number of fields; which of them are references -/
def tv_nf : List Nat := [10, 3, 14, 7, 5, 9, 5, 11, 9, 13, 7, 3, 55]
def tv_rf : List (List Bool) := [[false, true, true, true, true, true, true, true, true, false], [false, false, true], [false, true, true, true, false, false, false, false, false, false, false, false, false, false], [false, false, false, false, false, false, true], [false, false, false, true, true], [true, true, false, false, false, false, false, false, false], [true, true, true, false, false], [false, false, true, true, true, true, false, false, false, false, false], [true, true, true, true, false, false, false, false, false], [true, true, true, false, true, true, true, true, true, false, false, false, false], [true, true, true, true, true, false, false], [true, true, false], [false, false, false, true, true, true, false, true, true, true, false, false, true, true, true, true, false, true, true, true, true, true, true, true, false, false, false, false, false, false, false, false, false, false, false, false, false, false, true, true, true, true, true, false, true, true, true, true, true, false, true, true, true, true, false]]
/-- the cells in the order in which they are made: class number, or 20 + the array's type; length -/
def tv_lay : List (Nat × Nat) := [(0, 10), (24, 8), (1, 3), (20, 40), (1, 3), (20, 40), (1, 3), (20, 40), (1, 3), (20, 40), (1, 3), (20, 40), (1, 3), (20, 40), (1, 3), (20, 40), (1, 3), (20, 40), (2, 14), (25, 8), (26, 10), (20, 120), (3, 7), (20, 3), (3, 7), (20, 3), (3, 7), (20, 3), (3, 7), (20, 3), (3, 7), (20, 3), (3, 7), (20, 3), (3, 7), (20, 3), (3, 7), (20, 3), (4, 5), (20, 9), (20, 9), (4, 5), (20, 9), (20, 9), (4, 5), (20, 9), (20, 9), (4, 5), (20, 9), (20, 9), (4, 5), (20, 9), (20, 9), (4, 5), (20, 9), (20, 9), (4, 5), (20, 9), (20, 9), (4, 5), (20, 9), (20, 9), (4, 5), (20, 9), (20, 9), (4, 5), (20, 9), (20, 9), (5, 9), (21, 500), (6, 5), (7, 11), (20, 24), (20, 24), (27, 30), (20, 54), (20, 54), (20, 54), (20, 54), (20, 54), (20, 54), (20, 54), (20, 54), (20, 54), (20, 54), (20, 54), (20, 54), (20, 54), (20, 54), (20, 54), (20, 54), (20, 54), (20, 54), (20, 54), (20, 54), (20, 54), (20, 54), (20, 54), (20, 54), (20, 54), (20, 54), (20, 54), (20, 54), (20, 54), (20, 54), (20, 30), (7, 11), (20, 24), (20, 24), (27, 54), (20, 25), (20, 25), (20, 25), (20, 25), (20, 25), (20, 25), (20, 25), (20, 25), (20, 25), (20, 25), (20, 25), (20, 25), (20, 25), (20, 25), (20, 25), (20, 25), (20, 25), (20, 25), (20, 25), (20, 25), (20, 25), (20, 25), (20, 25), (20, 25), (20, 25), (20, 25), (20, 25), (20, 25), (20, 25), (20, 25), (20, 25), (20, 25), (20, 25), (20, 25), (20, 25), (20, 25), (20, 25), (20, 25), (20, 25), (20, 25), (20, 25), (20, 25), (20, 25), (20, 25), (20, 25), (20, 25), (20, 25), (20, 25), (20, 25), (20, 25), (20, 25), (20, 25), (20, 25), (20, 25), (20, 54), (8, 9), (27, 25), (20, 25), (20, 25), (20, 25), (20, 25), (20, 25), (20, 25), (20, 25), (20, 25), (20, 25), (20, 25), (20, 25), (20, 25), (20, 25), (20, 25), (20, 25), (20, 25), (20, 25), (20, 25), (20, 25), (20, 25), (20, 25), (20, 25), (20, 25), (20, 25), (20, 25), (20, 25), (9, 13), (20, 8), (20, 8), (20, 24), (20, 24), (20, 24), (23, 301), (23, 301), (10, 7), (27, 32), (20, 8), (20, 8), (20, 8), (20, 8), (20, 8), (20, 8), (20, 8), (20, 8), (20, 8), (20, 8), (20, 8), (20, 8), (20, 8), (20, 8), (20, 8), (20, 8), (20, 8), (20, 8), (20, 8), (20, 8), (20, 8), (20, 8), (20, 8), (20, 8), (20, 8), (20, 8), (20, 8), (20, 8), (20, 8), (20, 8), (20, 8), (20, 8), (22, 8), (27, 9), (20, 8), (20, 8), (20, 8), (20, 8), (20, 8), (20, 8), (20, 8), (20, 8), (20, 8), (20, 8), (11, 3), (20, 16), (12, 55), (20, 8), (20, 8), (20, 320), (20, 8), (20, 8), (20, 8), (20, 10), (20, 10), (20, 10), (20, 180), (20, 30), (20, 30), (20, 30), (20, 30), (20, 256), (20, 8), (20, 500), (20, 2970), (22, 54), (20, 24), (22, 8), (20, 24), (20, 8), (20, 8), (20, 24), (20, 24), (20, 7224), (20, 8), (20, 8), (20, 8), (20, 16)]
def tv_n : Nat := 281
def tv_pt : List (List (Option Nat)) := [[none, some 1, some 18, some 68, some 70, some 165, some 193, some 201, some 247, none], [some 2, some 4, some 6, some 8, some 10, some 12, some 14, some 16], [none, none, some 3], [], [none, none, some 5], [], [none, none, some 7], [], [none, none, some 9], [], [none, none, some 11], [], [none, none, some 13], [], [none, none, some 15], [], [none, none, some 17], [], [none, some 19, some 20, some 21, none, none, none, none, none, none, none, none, none, none], [some 22, some 24, some 26, some 28, some 30, some 32, some 34, some 36], [some 38, some 41, some 44, some 47, some 50, some 53, some 56, some 59, some 62, some 65], [], [none, none, none, none, none, none, some 23], [], [none, none, none, none, none, none, some 25], [], [none, none, none, none, none, none, some 27], [], [none, none, none, none, none, none, some 29], [], [none, none, none, none, none, none, some 31], [], [none, none, none, none, none, none, some 33], [], [none, none, none, none, none, none, some 35], [], [none, none, none, none, none, none, some 37], [], [none, none, none, some 39, some 40], [], [], [none, none, none, some 42, some 43], [], [], [none, none, none, some 45, some 46], [], [], [none, none, none, some 48, some 49], [], [], [none, none, none, some 51, some 52], [], [], [none, none, none, some 54, some 55], [], [], [none, none, none, some 57, some 58], [], [], [none, none, none, some 60, some 61], [], [], [none, none, none, some 63, some 64], [], [], [none, none, none, some 66, some 67], [], [], [some 18, some 69, none, none, none, none, none, none, none], [], [some 18, some 71, some 106, none, none], [none, none, some 74, some 72, some 73, some 105, none, none, none, none, none], [], [], [some 75, some 76, some 77, some 78, some 79, some 80, some 81, some 82, some 83, some 84, some 85, some 86, some 87, some 88, some 89, some 90, some 91, some 92, some 93, some 94, some 95, some 96, some 97, some 98, some 99, some 100, some 101, some 102, some 103, some 104], [], [], [], [], [], [], [], [], [], [], [], [], [], [], [], [], [], [], [], [], [], [], [], [], [], [], [], [], [], [], [], [none, none, some 109, some 107, some 108, some 164, none, none, none, none, none], [], [], [some 110, some 111, some 112, some 113, some 114, some 115, some 116, some 117, some 118, some 119, some 120, some 121, some 122, some 123, some 124, some 125, some 126, some 127, some 128, some 129, some 130, some 131, some 132, some 133, some 134, some 135, some 136, some 137, some 138, some 139, some 140, some 141, some 142, some 143, some 144, some 145, some 146, some 147, some 148, some 149, some 150, some 151, some 152, some 153, some 154, some 155, some 156, some 157, some 158, some 159, some 160, some 161, some 162, some 163], [], [], [], [], [], [], [], [], [], [], [], [], [], [], [], [], [], [], [], [], [], [], [], [], [], [], [], [], [], [], [], [], [], [], [], [], [], [], [], [], [], [], [], [], [], [], [], [], [], [], [], [], [], [], [], [some 18, some 70, some 166, some 192, none, none, none, none, none], [some 167, some 168, some 169, some 170, some 171, some 172, some 173, some 174, some 175, some 176, some 177, some 178, some 179, some 180, some 181, some 182, some 183, some 184, some 185, some 186, some 187, some 188, some 189, some 190, some 191], [], [], [], [], [], [], [], [], [], [], [], [], [], [], [], [], [], [], [], [], [], [], [], [], [], [], [some 18, some 194, some 195, none, some 196, some 197, some 198, some 199, some 200, none, none, none, none], [], [], [], [], [], [], [], [some 18, some 202, some 235, some 236, some 246, none, none], [some 203, some 204, some 205, some 206, some 207, some 208, some 209, some 210, some 211, some 212, some 213, some 214, some 215, some 216, some 217, some 218, some 219, some 220, some 221, some 222, some 223, some 224, some 225, some 226, some 227, some 228, some 229, some 230, some 231, some 232, some 233, some 234], [], [], [], [], [], [], [], [], [], [], [], [], [], [], [], [], [], [], [], [], [], [], [], [], [], [], [], [], [], [], [], [], [], [some 237, some 238, some 239, some 240, some 241, some 242, some 243, some 244, some 245], [], [], [], [], [], [], [], [], [], [], [some 18, some 248, none], [], [none, none, none, some 250, some 251, some 252, none, some 253, some 254, some 255, none, none, some 256, some 257, some 258, some 259, none, some 260, some 261, some 262, some 263, some 264, some 265, some 266, none, none, none, none, none, none, none, none, none, none, none, none, none, none, some 267, some 268, some 269, some 270, some 271, none, some 272, some 273, some 274, some 275, some 276, none, some 277, some 278, some 279, some 280, none], [], [], [], [], [], [], [], [], [], [], [], [], [], [], [], [], [], [], [], [], [], [], [], [], [], [], [], [], [], [], []]
def tv_P0 (k j : Nat) : Option Nat := (tv_pt.getD k []).getD j none
theorem tv_nm0 : ∀ a, a < 10 → ∀ b, b < 10 → a ≠ b → (tv_T0 a).2.1 ≠ (tv_T0 b).2.1 := by decide +kernel
theorem tv_tk0 : ∀ k, k < 10 → parseFieldDescriptor (tv_T0 k).2.2.1 = some (tv_ty0 k) := by decide +kernel
theorem tv_nm1 : ∀ a, a < 3 → ∀ b, b < 3 → a ≠ b → (tv_T1 a).2.1 ≠ (tv_T1 b).2.1 := by decide +kernel
theorem tv_tk1 : ∀ k, k < 3 → parseFieldDescriptor (tv_T1 k).2.2.1 = some (tv_ty1 k) := by decide +kernel
theorem tv_nm2 : ∀ a, a < 14 → ∀ b, b < 14 → a ≠ b → (tv_T2 a).2.1 ≠ (tv_T2 b).2.1 := by decide +kernel
theorem tv_tk2 : ∀ k, k < 14 → parseFieldDescriptor (tv_T2 k).2.2.1 = some (tv_ty2 k) := by decide +kernel
theorem tv_nm3 : ∀ a, a < 7 → ∀ b, b < 7 → a ≠ b → (tv_T3 a).2.1 ≠ (tv_T3 b).2.1 := by decide +kernel
theorem tv_tk3 : ∀ k, k < 7 → parseFieldDescriptor (tv_T3 k).2.2.1 = some (tv_ty3 k) := by decide +kernel
theorem tv_nm4 : ∀ a, a < 5 → ∀ b, b < 5 → a ≠ b → (tv_T4 a).2.1 ≠ (tv_T4 b).2.1 := by decide +kernel
theorem tv_tk4 : ∀ k, k < 5 → parseFieldDescriptor (tv_T4 k).2.2.1 = some (tv_ty4 k) := by decide +kernel
theorem tv_nm5 : ∀ a, a < 9 → ∀ b, b < 9 → a ≠ b → (tv_T5 a).2.1 ≠ (tv_T5 b).2.1 := by decide +kernel
theorem tv_tk5 : ∀ k, k < 9 → parseFieldDescriptor (tv_T5 k).2.2.1 = some (tv_ty5 k) := by decide +kernel
theorem tv_nm6 : ∀ a, a < 5 → ∀ b, b < 5 → a ≠ b → (tv_T6 a).2.1 ≠ (tv_T6 b).2.1 := by decide +kernel
theorem tv_tk6 : ∀ k, k < 5 → parseFieldDescriptor (tv_T6 k).2.2.1 = some (tv_ty6 k) := by decide +kernel
theorem tv_nm7 : ∀ a, a < 11 → ∀ b, b < 11 → a ≠ b → (tv_T7 a).2.1 ≠ (tv_T7 b).2.1 := by decide +kernel
theorem tv_tk7 : ∀ k, k < 11 → parseFieldDescriptor (tv_T7 k).2.2.1 = some (tv_ty7 k) := by decide +kernel
theorem tv_nm8 : ∀ a, a < 9 → ∀ b, b < 9 → a ≠ b → (tv_T8 a).2.1 ≠ (tv_T8 b).2.1 := by decide +kernel
theorem tv_tk8 : ∀ k, k < 9 → parseFieldDescriptor (tv_T8 k).2.2.1 = some (tv_ty8 k) := by decide +kernel
theorem tv_nm9 : ∀ a, a < 13 → ∀ b, b < 13 → a ≠ b → (tv_T9 a).2.1 ≠ (tv_T9 b).2.1 := by decide +kernel
theorem tv_tk9 : ∀ k, k < 13 → parseFieldDescriptor (tv_T9 k).2.2.1 = some (tv_ty9 k) := by decide +kernel
theorem tv_nm10 : ∀ a, a < 7 → ∀ b, b < 7 → a ≠ b → (tv_T10 a).2.1 ≠ (tv_T10 b).2.1 := by decide +kernel
theorem tv_tk10 : ∀ k, k < 7 → parseFieldDescriptor (tv_T10 k).2.2.1 = some (tv_ty10 k) := by decide +kernel
theorem tv_nm11 : ∀ a, a < 3 → ∀ b, b < 3 → a ≠ b → (tv_T11 a).2.1 ≠ (tv_T11 b).2.1 := by decide +kernel
theorem tv_tk11 : ∀ k, k < 3 → parseFieldDescriptor (tv_T11 k).2.2.1 = some (tv_ty11 k) := by decide +kernel
theorem tv_nm12 : ∀ a, a < 55 → ∀ b, b < 55 → a ≠ b → (tv_T12 a).2.1 ≠ (tv_T12 b).2.1 := by decide +kernel
theorem tv_tk12 : ∀ k, k < 55 → parseFieldDescriptor (tv_T12 k).2.2.1 = some (tv_ty12 k) := by decide +kernel
theorem tv_in0 : ∀ w ∈ u_ws tv_R0 tv_T0 10, w ∈ tables_1 := by
  have h : u_ws tv_R0 tv_T0 10 = ([467, 469, 471, 473, 475, 477, 479, 481, 483, 485] : List Nat).filterMap (fun i => tables_1[i]?) := by decide +kernel
  intro w hw
  rw [h] at hw
  obtain ⟨i, -, hi⟩ := List.mem_filterMap.mp hw
  exact List.mem_of_getElem? hi
theorem tv_in1 : ∀ w ∈ u_ws tv_R1 tv_T1 3, w ∈ tables_1 := by
  have h : u_ws tv_R1 tv_T1 3 = ([48, 50, 52] : List Nat).filterMap (fun i => tables_1[i]?) := by decide +kernel
  intro w hw
  rw [h] at hw
  obtain ⟨i, -, hi⟩ := List.mem_filterMap.mp hw
  exact List.mem_of_getElem? hi
theorem tv_in2 : ∀ w ∈ u_ws tv_R2 tv_T2 14, w ∈ tables_1 := by
  have h : u_ws tv_R2 tv_T2 14 = ([191, 193, 195, 197, 199, 201, 203, 205, 207, 209, 211, 213, 215, 217] : List Nat).filterMap (fun i => tables_1[i]?) := by decide +kernel
  intro w hw
  rw [h] at hw
  obtain ⟨i, -, hi⟩ := List.mem_filterMap.mp hw
  exact List.mem_of_getElem? hi
theorem tv_in3 : ∀ w ∈ u_ws tv_R3 tv_T3 7, w ∈ tables_1 := by
  have h : u_ws tv_R3 tv_T3 7 = ([106, 108, 110, 112, 114, 116, 118] : List Nat).filterMap (fun i => tables_1[i]?) := by decide +kernel
  intro w hw
  rw [h] at hw
  obtain ⟨i, -, hi⟩ := List.mem_filterMap.mp hw
  exact List.mem_of_getElem? hi
theorem tv_in4 : ∀ w ∈ u_ws tv_R4 tv_T4 5, w ∈ tables_1 := by
  have h : u_ws tv_R4 tv_T4 5 = ([140, 142, 144, 146, 148] : List Nat).filterMap (fun i => tables_1[i]?) := by decide +kernel
  intro w hw
  rw [h] at hw
  obtain ⟨i, -, hi⟩ := List.mem_filterMap.mp hw
  exact List.mem_of_getElem? hi
theorem tv_in5 : ∀ w ∈ u_ws tv_R5 tv_T5 9, w ∈ tables_1 := by
  have h : u_ws tv_R5 tv_T5 9 = ([237, 239, 241, 243, 245, 247, 249, 251, 253] : List Nat).filterMap (fun i => tables_1[i]?) := by decide +kernel
  intro w hw
  rw [h] at hw
  obtain ⟨i, -, hi⟩ := List.mem_filterMap.mp hw
  exact List.mem_of_getElem? hi
theorem tv_in6 : ∀ w ∈ u_ws tv_R6 tv_T6 5, w ∈ tables_1 := by
  have h : u_ws tv_R6 tv_T6 5 = ([312, 314, 316, 318, 320] : List Nat).filterMap (fun i => tables_1[i]?) := by decide +kernel
  intro w hw
  rw [h] at hw
  obtain ⟨i, -, hi⟩ := List.mem_filterMap.mp hw
  exact List.mem_of_getElem? hi
theorem tv_in7 : ∀ w ∈ u_ws tv_R7 tv_T7 11, w ∈ tables_1 := by
  have h : u_ws tv_R7 tv_T7 11 = ([284, 286, 288, 290, 292, 294, 296, 298, 300, 302, 304] : List Nat).filterMap (fun i => tables_1[i]?) := by decide +kernel
  intro w hw
  rw [h] at hw
  obtain ⟨i, -, hi⟩ := List.mem_filterMap.mp hw
  exact List.mem_of_getElem? hi
theorem tv_in8 : ∀ w ∈ u_ws tv_R8 tv_T8 9, w ∈ tables_1 := by
  have h : u_ws tv_R8 tv_T8 9 = ([339, 341, 343, 345, 347, 349, 351, 353, 355] : List Nat).filterMap (fun i => tables_1[i]?) := by decide +kernel
  intro w hw
  rw [h] at hw
  obtain ⟨i, -, hi⟩ := List.mem_filterMap.mp hw
  exact List.mem_of_getElem? hi
theorem tv_in9 : ∀ w ∈ u_ws tv_R9 tv_T9 13, w ∈ tables_1 := by
  have h : u_ws tv_R9 tv_T9 13 = ([383, 385, 387, 389, 391, 393, 395, 397, 399, 401, 403, 405, 407] : List Nat).filterMap (fun i => tables_1[i]?) := by decide +kernel
  intro w hw
  rw [h] at hw
  obtain ⟨i, -, hi⟩ := List.mem_filterMap.mp hw
  exact List.mem_of_getElem? hi
theorem tv_in10 : ∀ w ∈ u_ws tv_R10 tv_T10 7, w ∈ tables_1 := by
  have h : u_ws tv_R10 tv_T10 7 = ([425, 427, 429, 431, 433, 435, 437] : List Nat).filterMap (fun i => tables_1[i]?) := by decide +kernel
  intro w hw
  rw [h] at hw
  obtain ⟨i, -, hi⟩ := List.mem_filterMap.mp hw
  exact List.mem_of_getElem? hi
theorem tv_in11 : ∀ w ∈ u_ws tv_R11 tv_T11 3, w ∈ tables_1 := by
  have h : u_ws tv_R11 tv_T11 3 = ([450, 452, 454] : List Nat).filterMap (fun i => tables_1[i]?) := by decide +kernel
  intro w hw
  rw [h] at hw
  obtain ⟨i, -, hi⟩ := List.mem_filterMap.mp hw
  exact List.mem_of_getElem? hi
theorem tv_in12 : ∀ w ∈ u_ws tv_R12 tv_T12 55, w ∈ tables_1 := by
  have h : u_ws tv_R12 tv_T12 55 = ([1278, 1280, 1282, 1284, 1286, 1288, 1290, 1292, 1294, 1296, 1298, 1300, 1302, 1304, 1306, 1308, 1310, 1312, 1314, 1316, 1318, 1320, 1322, 1324, 1326, 1328, 1330, 1332, 1334, 1336, 1338, 1340, 1342, 1344, 1346, 1348, 1350, 1352, 1354, 1356, 1358, 1360, 1362, 1364, 1366, 1368, 1370, 1372, 1374, 1376, 1378, 1380, 1382, 1384, 1386] : List Nat).filterMap (fun i => tables_1[i]?) := by decide +kernel
  intro w hw
  rw [h] at hw
  obtain ⟨i, -, hi⟩ := List.mem_filterMap.mp hw
  exact List.mem_of_getElem? hi
