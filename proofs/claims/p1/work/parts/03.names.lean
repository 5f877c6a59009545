def R_0 : String := "PlayCutter"
def T_0 : u_T := fun k => (([("PlayCutter", "text", "[C", true), ("PlayCutter", "letters", "I", false), ("PlayCutter", "fault", "I", false), ("PlayCutter", "who", "I", false), ("PlayCutter", "play", "LPlayCutter$Statement;", false), ("PlayCutter", "stage", "LPlayCutter$Stage;", true), ("PlayCutter", "wanted", "[I", true)] : List (String × String × String × Bool)).getD k ("", "", "", false))
def Y_0 : Nat → FieldType := fun k => (([(.array .char), .int, .int, .int, (.object "PlayCutter$Statement"), (.object "PlayCutter$Stage"), (.array .int)] : List FieldType).getD k .int)
set_option maxRecDepth 100000 in
theorem n_0 : ∀ a, a < 7 → ∀ b, b < 7 → a ≠ b → (T_0 a).2.1 ≠ (T_0 b).2.1 := by decide +kernel
set_option maxRecDepth 100000 in
theorem t_0 : ∀ k, k < 7 → parseFieldDescriptor (T_0 k).2.2.1 = some (Y_0 k) := by decide +kernel
set_option maxRecDepth 100000 in
theorem i_0 : u_ws R_0 T_0 7 = ([140, 142, 144, 146, 148, 150, 152] : List Nat).filterMap (fun i => tables_1[i]?) := by decide +kernel
def R_1 : String := "PlayCutter$Action"
def T_1 : u_T := fun k => (([("PlayCutter$Action", "kind", "I", true), ("PlayCutter$Action", "variable", "I", false), ("PlayCutter$Action", "label", "I", false), ("PlayCutter$Action", "other", "I", false), ("PlayCutter$Action", "led", "I", false), ("PlayCutter$Action", "expression", "J", false), ("PlayCutter$Action", "parts", "[LPlayCutter$Action;", true), ("PlayCutter$Action", "present", "I", false), ("PlayCutter$Action", "next", "LPlayCutter$Action;", false), ("PlayCutter$Action", "behind", "LPlayCutter$Action;", false)] : List (String × String × String × Bool)).getD k ("", "", "", false))
def Y_1 : Nat → FieldType := fun k => (([.int, .int, .int, .int, .int, .long, (.array (.object "PlayCutter$Action")), .int, (.object "PlayCutter$Action"), (.object "PlayCutter$Action")] : List FieldType).getD k .int)
set_option maxRecDepth 100000 in
theorem n_1 : ∀ a, a < 10 → ∀ b, b < 10 → a ≠ b → (T_1 a).2.1 ≠ (T_1 b).2.1 := by decide +kernel
set_option maxRecDepth 100000 in
theorem t_1 : ∀ k, k < 10 → parseFieldDescriptor (T_1 k).2.2.1 = some (Y_1 k) := by decide +kernel
set_option maxRecDepth 100000 in
theorem i_1 : u_ws R_1 T_1 10 = ([517, 519, 521, 523, 525, 527, 529, 531, 533, 535] : List Nat).filterMap (fun i => tables_1[i]?) := by decide +kernel
def R_2 : String := "PlayCutter$Cutter"
def T_2 : u_T := fun k => (([("PlayCutter$Cutter", "putIn", "Z", true), ("PlayCutter$Cutter", "statements", "I", false), ("PlayCutter$Cutter", "fault", "I", false), ("PlayCutter$Cutter", "who", "I", false)] : List (String × String × String × Bool)).getD k ("", "", "", false))
def Y_2 : Nat → FieldType := fun k => (([.boolean, .int, .int, .int] : List FieldType).getD k .int)
set_option maxRecDepth 100000 in
theorem n_2 : ∀ a, a < 4 → ∀ b, b < 4 → a ≠ b → (T_2 a).2.1 ≠ (T_2 b).2.1 := by decide +kernel
set_option maxRecDepth 100000 in
theorem t_2 : ∀ k, k < 4 → parseFieldDescriptor (T_2 k).2.2.1 = some (Y_2 k) := by decide +kernel
set_option maxRecDepth 100000 in
theorem i_2 : u_ws R_2 T_2 4 = ([433, 435, 437, 439] : List Nat).filterMap (fun i => tables_1[i]?) := by decide +kernel
def R_3 : String := "PlayCutter$PartText"
def T_3 : u_T := fun k => (([("PlayCutter$PartText", "letters", "[C", true), ("PlayCutter$PartText", "count", "I", false)] : List (String × String × String × Bool)).getD k ("", "", "", false))
def Y_3 : Nat → FieldType := fun k => (([(.array .char), .int] : List FieldType).getD k .int)
set_option maxRecDepth 100000 in
theorem n_3 : ∀ a, a < 2 → ∀ b, b < 2 → a ≠ b → (T_3 a).2.1 ≠ (T_3 b).2.1 := by decide +kernel
set_option maxRecDepth 100000 in
theorem t_3 : ∀ k, k < 2 → parseFieldDescriptor (T_3 k).2.2.1 = some (Y_3 k) := by decide +kernel
set_option maxRecDepth 100000 in
theorem i_3 : u_ws R_3 T_3 2 = ([56, 58] : List Nat).filterMap (fun i => tables_1[i]?) := by decide +kernel
def R_4 : String := "PlayCutter$Party"
def T_4 : u_T := fun k => (([("PlayCutter$Party", "text", "LPlayCutter$PartText;", true), ("PlayCutter$Party", "first", "LPlayCutter$Action;", false), ("PlayCutter$Party", "action", "LPlayCutter$Action;", false), ("PlayCutter$Party", "asked", "Z", false), ("PlayCutter$Party", "answer", "I", false), ("PlayCutter$Party", "toTell", "I", false)] : List (String × String × String × Bool)).getD k ("", "", "", false))
def Y_4 : Nat → FieldType := fun k => (([(.object "PlayCutter$PartText"), (.object "PlayCutter$Action"), (.object "PlayCutter$Action"), .boolean, .int, .int] : List FieldType).getD k .int)
set_option maxRecDepth 100000 in
theorem n_4 : ∀ a, a < 6 → ∀ b, b < 6 → a ≠ b → (T_4 a).2.1 ≠ (T_4 b).2.1 := by decide +kernel
set_option maxRecDepth 100000 in
theorem t_4 : ∀ k, k < 6 → parseFieldDescriptor (T_4 k).2.2.1 = some (Y_4 k) := by decide +kernel
set_option maxRecDepth 100000 in
theorem i_4 : u_ws R_4 T_4 6 = ([75, 77, 79, 81, 83, 85] : List Nat).filterMap (fun i => tables_1[i]?) := by decide +kernel
def R_5 : String := "PlayCutter$PlayReader"
def T_5 : u_T := fun k => (([("PlayCutter$PlayReader", "text", "[C", true), ("PlayCutter$PlayReader", "end", "I", true), ("PlayCutter$PlayReader", "place", "I", false), ("PlayCutter$PlayReader", "count", "I", false), ("PlayCutter$PlayReader", "wrong", "Z", false), ("PlayCutter$PlayReader", "expression", "J", false), ("PlayCutter$PlayReader", "expressionLength", "I", false)] : List (String × String × String × Bool)).getD k ("", "", "", false))
def Y_5 : Nat → FieldType := fun k => (([(.array .char), .int, .int, .int, .boolean, .long, .int] : List FieldType).getD k .int)
set_option maxRecDepth 100000 in
theorem n_5 : ∀ a, a < 7 → ∀ b, b < 7 → a ≠ b → (T_5 a).2.1 ≠ (T_5 b).2.1 := by decide +kernel
set_option maxRecDepth 100000 in
theorem t_5 : ∀ k, k < 7 → parseFieldDescriptor (T_5 k).2.2.1 = some (Y_5 k) := by decide +kernel
set_option maxRecDepth 100000 in
theorem i_5 : u_ws R_5 T_5 7 = ([196, 198, 200, 202, 204, 206, 208] : List Nat).filterMap (fun i => tables_1[i]?) := by decide +kernel
def R_6 : String := "PlayCutter$Queue"
def T_6 : u_T := fun k => (([("PlayCutter$Queue", "values", "[I", true), ("PlayCutter$Queue", "labels", "[Z", true), ("PlayCutter$Queue", "head", "I", false), ("PlayCutter$Queue", "size", "I", false)] : List (String × String × String × Bool)).getD k ("", "", "", false))
def Y_6 : Nat → FieldType := fun k => (([(.array .int), (.array .boolean), .int, .int] : List FieldType).getD k .int)
set_option maxRecDepth 100000 in
theorem n_6 : ∀ a, a < 4 → ∀ b, b < 4 → a ≠ b → (T_6 a).2.1 ≠ (T_6 b).2.1 := by decide +kernel
set_option maxRecDepth 100000 in
theorem t_6 : ∀ k, k < 4 → parseFieldDescriptor (T_6 k).2.2.1 = some (Y_6 k) := by decide +kernel
set_option maxRecDepth 100000 in
theorem i_6 : u_ws R_6 T_6 4 = ([99, 101, 103, 105] : List Nat).filterMap (fun i => tables_1[i]?) := by decide +kernel
def R_7 : String := "PlayCutter$Row"
def T_7 : u_T := fun k => (([("PlayCutter$Row", "first", "LPlayCutter$Action;", false), ("PlayCutter$Row", "last", "LPlayCutter$Action;", false), ("PlayCutter$Row", "heard", "LPlayCutter$Action;", false), ("PlayCutter$Row", "label", "I", false)] : List (String × String × String × Bool)).getD k ("", "", "", false))
def Y_7 : Nat → FieldType := fun k => (([(.object "PlayCutter$Action"), (.object "PlayCutter$Action"), (.object "PlayCutter$Action"), .int] : List FieldType).getD k .int)
set_option maxRecDepth 100000 in
theorem n_7 : ∀ a, a < 4 → ∀ b, b < 4 → a ≠ b → (T_7 a).2.1 ≠ (T_7 b).2.1 := by decide +kernel
set_option maxRecDepth 100000 in
theorem t_7 : ∀ k, k < 4 → parseFieldDescriptor (T_7 k).2.2.1 = some (Y_7 k) := by decide +kernel
set_option maxRecDepth 100000 in
theorem i_7 : u_ws R_7 T_7 4 = ([459, 461, 463, 465] : List Nat).filterMap (fun i => tables_1[i]?) := by decide +kernel
def R_8 : String := "PlayCutter$Stage"
def T_8 : u_T := fun k => (([("PlayCutter$Stage", "parties", "[LPlayCutter$Party;", true), ("PlayCutter$Stage", "queues", "[LPlayCutter$Queue;", true), ("PlayCutter$Stage", "inputs", "[I", true), ("PlayCutter$Stage", "variables", "[I", true), ("PlayCutter$Stage", "room", "I", false), ("PlayCutter$Stage", "stepped", "Z", false)] : List (String × String × String × Bool)).getD k ("", "", "", false))
def Y_8 : Nat → FieldType := fun k => (([(.array (.object "PlayCutter$Party")), (.array (.object "PlayCutter$Queue")), (.array .int), (.array .int), .int, .boolean] : List FieldType).getD k .int)
set_option maxRecDepth 100000 in
theorem n_8 : ∀ a, a < 6 → ∀ b, b < 6 → a ≠ b → (T_8 a).2.1 ≠ (T_8 b).2.1 := by decide +kernel
set_option maxRecDepth 100000 in
theorem t_8 : ∀ k, k < 6 → parseFieldDescriptor (T_8 k).2.2.1 = some (Y_8 k) := by decide +kernel
set_option maxRecDepth 100000 in
theorem i_8 : u_ws R_8 T_8 6 = ([120, 122, 124, 126, 128, 130] : List Nat).filterMap (fun i => tables_1[i]?) := by decide +kernel
def R_9 : String := "PlayCutter$Statement"
def T_9 : u_T := fun k => (([("PlayCutter$Statement", "place", "I", true), ("PlayCutter$Statement", "kind", "I", false), ("PlayCutter$Statement", "party", "I", false), ("PlayCutter$Statement", "other", "I", false), ("PlayCutter$Statement", "variable", "I", false), ("PlayCutter$Statement", "label", "I", false), ("PlayCutter$Statement", "expression", "J", false), ("PlayCutter$Statement", "first", "LPlayCutter$Statement;", false), ("PlayCutter$Statement", "second", "LPlayCutter$Statement;", false), ("PlayCutter$Statement", "next", "LPlayCutter$Statement;", false), ("PlayCutter$Statement", "behind", "LPlayCutter$Statement;", false), ("PlayCutter$Statement", "occurring", "I", false)] : List (String × String × String × Bool)).getD k ("", "", "", false))
def Y_9 : Nat → FieldType := fun k => (([.int, .int, .int, .int, .int, .int, .long, (.object "PlayCutter$Statement"), (.object "PlayCutter$Statement"), (.object "PlayCutter$Statement"), (.object "PlayCutter$Statement"), .int] : List FieldType).getD k .int)
set_option maxRecDepth 100000 in
theorem n_9 : ∀ a, a < 12 → ∀ b, b < 12 → a ≠ b → (T_9 a).2.1 ≠ (T_9 b).2.1 := by decide +kernel
set_option maxRecDepth 100000 in
theorem t_9 : ∀ k, k < 12 → parseFieldDescriptor (T_9 k).2.2.1 = some (Y_9 k) := by decide +kernel
set_option maxRecDepth 100000 in
theorem i_9 : u_ws R_9 T_9 12 = ([268, 270, 272, 274, 276, 278, 280, 282, 284, 286, 288, 290] : List Nat).filterMap (fun i => tables_1[i]?) := by decide +kernel
def R_10 : String := "PlayCutterModel"
def T_10 : u_T := fun k => (([("PlayCutterModel", "thrown", "I", false), ("PlayCutterModel", "typed", "I", false), ("PlayCutterModel", "text", "[I", true), ("PlayCutterModel", "fault", "I", false), ("PlayCutterModel", "who", "I", false), ("PlayCutterModel", "chars", "I", false), ("PlayCutterModel", "source", "[I", true), ("PlayCutterModel", "items", "I", false), ("PlayCutterModel", "kind", "[I", true), ("PlayCutterModel", "party", "[I", true), ("PlayCutterModel", "other", "[I", true), ("PlayCutterModel", "name", "[I", true), ("PlayCutterModel", "from", "[I", true), ("PlayCutterModel", "to", "[I", true), ("PlayCutterModel", "place", "[I", true), ("PlayCutterModel", "firstEnd", "[I", true), ("PlayCutterModel", "secondEnd", "[I", true), ("PlayCutterModel", "head", "[I", true), ("PlayCutterModel", "which", "[I", true), ("PlayCutterModel", "told", "[I", true), ("PlayCutterModel", "at", "I", false), ("PlayCutterModel", "bad", "Z", false), ("PlayCutterModel", "count", "I", false), ("PlayCutterModel", "deep", "I", false), ("PlayCutterModel", "open", "[I", true), ("PlayCutterModel", "loaded", "Z", false), ("PlayCutterModel", "steps", "I", false), ("PlayCutterModel", "playSource", "[I", true), ("PlayCutterModel", "playKind", "[I", true), ("PlayCutterModel", "playParty", "[I", true), ("PlayCutterModel", "playOther", "[I", true), ("PlayCutterModel", "playName", "[I", true), ("PlayCutterModel", "playFrom", "[I", true), ("PlayCutterModel", "playFirst", "[I", true), ("PlayCutterModel", "playSecond", "[I", true), ("PlayCutterModel", "playHead", "[I", true), ("PlayCutterModel", "playTold", "[I", true), ("PlayCutterModel", "parts", "[I", true), ("PlayCutterModel", "lengths", "[I", true), ("PlayCutterModel", "size", "I", false), ("PlayCutterModel", "rows", "[I", true), ("PlayCutterModel", "top", "I", false), ("PlayCutterModel", "starts", "[I", true), ("PlayCutterModel", "aMany", "I", false), ("PlayCutterModel", "a", "[I", true), ("PlayCutterModel", "bMany", "I", false), ("PlayCutterModel", "b", "[I", true), ("PlayCutterModel", "many", "I", false), ("PlayCutterModel", "joined", "[I", true), ("PlayCutterModel", "room", "I", false), ("PlayCutterModel", "stepped", "Z", false), ("PlayCutterModel", "inputs", "[I", true), ("PlayCutterModel", "vars", "[I", true), ("PlayCutterModel", "wanted", "[I", true), ("PlayCutterModel", "stands", "[I", true), ("PlayCutterModel", "next", "[I", true), ("PlayCutterModel", "around", "[I", true), ("PlayCutterModel", "queued", "[I", true), ("PlayCutterModel", "values", "[I", true), ("PlayCutterModel", "labels", "[Z", true), ("PlayCutterModel", "behind", "I", false), ("PlayCutterModel", "worth", "I", false), ("PlayCutterModel", "aside", "[I", true)] : List (String × String × String × Bool)).getD k ("", "", "", false))
def Y_10 : Nat → FieldType := fun k => (([.int, .int, (.array .int), .int, .int, .int, (.array .int), .int, (.array .int), (.array .int), (.array .int), (.array .int), (.array .int), (.array .int), (.array .int), (.array .int), (.array .int), (.array .int), (.array .int), (.array .int), .int, .boolean, .int, .int, (.array .int), .boolean, .int, (.array .int), (.array .int), (.array .int), (.array .int), (.array .int), (.array .int), (.array .int), (.array .int), (.array .int), (.array .int), (.array .int), (.array .int), .int, (.array .int), .int, (.array .int), .int, (.array .int), .int, (.array .int), .int, (.array .int), .int, .boolean, (.array .int), (.array .int), (.array .int), (.array .int), (.array .int), (.array .int), (.array .int), (.array .int), (.array .boolean), .int, .int, (.array .int)] : List FieldType).getD k .int)
set_option maxRecDepth 100000 in
theorem n_10 : ∀ a, a < 63 → ∀ b, b < 63 → a ≠ b → (T_10 a).2.1 ≠ (T_10 b).2.1 := by decide +kernel
set_option maxRecDepth 100000 in
theorem t_10 : ∀ k, k < 63 → parseFieldDescriptor (T_10 k).2.2.1 = some (Y_10 k) := by decide +kernel
set_option maxRecDepth 100000 in
theorem i_10 : u_ws R_10 T_10 63 = ([1028, 1030, 1032, 1034, 1036, 1038, 1040, 1042, 1044, 1046, 1048, 1050, 1052, 1054, 1056, 1058, 1060, 1062, 1064, 1066, 1068, 1070, 1072, 1074, 1076, 1078, 1080, 1082, 1084, 1086, 1088, 1090, 1092, 1094, 1096, 1098, 1100, 1102, 1104, 1106, 1108, 1110, 1112, 1114, 1116, 1118, 1120, 1122, 1124, 1126, 1128, 1130, 1132, 1134, 1136, 1138, 1140, 1142, 1144, 1146, 1148, 1150, 1152] : List Nat).filterMap (fun i => tables_1[i]?) := by decide +kernel
def R_11 : String := "java/lang/IllegalArgumentException"
def T_11 : u_T := fun k => (([] : List (String × String × String × Bool)).getD k ("", "", "", false))
def Y_11 : Nat → FieldType := fun k => (([] : List FieldType).getD k .int)
def R_12 : String := "java/lang/IllegalStateException"
def T_12 : u_T := fun k => (([] : List (String × String × String × Bool)).getD k ("", "", "", false))
def Y_12 : Nat → FieldType := fun k => (([] : List FieldType).getD k .int)
def R_13 : String := "java/lang/UnsupportedOperationException"
def T_13 : u_T := fun k => (([] : List (String × String × String × Bool)).getD k ("", "", "", false))
def Y_13 : Nat → FieldType := fun k => (([] : List FieldType).getD k .int)
def R_14 : String := "java/lang/IndexOutOfBoundsException"
def T_14 : u_T := fun k => (([] : List (String × String × String × Bool)).getD k ("", "", "", false))
def Y_14 : Nat → FieldType := fun k => (([] : List FieldType).getD k .int)
def R_15 : String := "java/util/NoSuchElementException"
def T_15 : u_T := fun k => (([] : List (String × String × String × Bool)).getD k ("", "", "", false))
def Y_15 : Nat → FieldType := fun k => (([] : List FieldType).getD k .int)
abbrev ie_cl : List vw_C := [(R_0, T_0, 7), (R_1, T_1, 10), (R_2, T_2, 4), (R_3, T_3, 2), (R_4, T_4, 6), (R_5, T_5, 7), (R_6, T_6, 4), (R_7, T_7, 4), (R_8, T_8, 6), (R_9, T_9, 12), (R_10, T_10, 63), (R_11, T_11, 0), (R_12, T_12, 0), (R_13, T_13, 0), (R_14, T_14, 0), (R_15, T_15, 0)]
def ie_own : List String := ["PlayCutter", "PlayCutter$Action", "PlayCutter$Cutter", "PlayCutter$PartText", "PlayCutter$Party", "PlayCutter$PlayReader", "PlayCutter$Queue", "PlayCutter$Row", "PlayCutter$Stage", "PlayCutter$Statement", "PlayCutterModel", "PlayCutter$Expression", "PlayCutterLaw", "java/lang/Integer"]
def ie_kd : List FieldType := [.int, .char, .boolean, .long, (.object "PlayCutter$Party"), (.object "PlayCutter$Queue"), (.object "PlayCutter$Row"), (.object "PlayCutter$Action")]
def ie_fl : List (Nat → FieldType) := [Y_0, Y_1, Y_2, Y_3, Y_4, Y_5, Y_6, Y_7, Y_8, Y_9, Y_10, Y_11, Y_12, Y_13, Y_14, Y_15]
