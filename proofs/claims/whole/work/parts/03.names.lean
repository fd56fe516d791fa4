def R_History : String := "InterlockingFrame$History"
def F_History : u_T := fun k => match k with
  | 0 => ("InterlockingFrame$History", "total", "I", false)
  | 1 => ("InterlockingFrame$History", "takenDeed", "I", false)
  | 2 => ("InterlockingFrame$History", "takenSubject", "I", false)
  | 3 => ("InterlockingFrame$History", "takenRule", "I", false)
  | 4 => ("InterlockingFrame$History", "deeds", "[I", true)
  | 5 => ("InterlockingFrame$History", "subjects", "[I", true)
  | _ => ("InterlockingFrame$History", "rules", "[I", true)
def t_History : Nat → FieldType := fun k => match k with
  | 0 => .int
  | 1 => .int
  | 2 => .int
  | 3 => .int
  | 4 => .array .int
  | 5 => .array .int
  | _ => .array .int
theorem n_History : ∀ a, a < 7 → ∀ b, b < 7 → a ≠ b → (F_History a).2.1 ≠ (F_History b).2.1 := by decide +kernel
theorem t_History_ok : ∀ k, k < 7 → parseFieldDescriptor (F_History k).2.2.1 = some (t_History k) := by decide +kernel
def R_LockPlanner : String := "InterlockingFrame$LockPlanne\x72"
def F_LockPlanner : u_T := fun k => match k with
  | 0 => ("InterlockingFrame$LockPlanne\x72", "sizeIsKnown", "Z", false)
  | 1 => ("InterlockingFrame$LockPlanne\x72", "grown", "LInterlockingFrame$Locking;", true)
  | 2 => ("InterlockingFrame$LockPlanne\x72", "locks", "[I", true)
  | _ => ("InterlockingFrame$LockPlanne\x72", "size", "I", false)
def t_LockPlanner : Nat → FieldType := fun k => match k with
  | 0 => .boolean
  | 1 => .object "InterlockingFrame$Locking"
  | 2 => .array .int
  | _ => .int
theorem n_LockPlanner : ∀ a, a < 4 → ∀ b, b < 4 → a ≠ b → (F_LockPlanner a).2.1 ≠ (F_LockPlanner b).2.1 := by decide +kernel
theorem t_LockPlanner_ok : ∀ k, k < 4 → parseFieldDescriptor (F_LockPlanner k).2.2.1 = some (t_LockPlanner k) := by decide +kernel
def R_Locking : String := "InterlockingFrame$Locking"
def F_Locking : u_T := fun k => match k with
  | 0 => ("InterlockingFrame$Locking", "illegal", "[J", true)
  | _ => ("InterlockingFrame$Locking", "held", "[J", true)
def t_Locking : Nat → FieldType := fun k => match k with
  | 0 => .array .long
  | _ => .array .long
theorem n_Locking : ∀ a, a < 2 → ∀ b, b < 2 → a ≠ b → (F_Locking a).2.1 ≠ (F_Locking b).2.1 := by decide +kernel
theorem t_Locking_ok : ∀ k, k < 2 → parseFieldDescriptor (F_Locking k).2.2.1 = some (t_Locking k) := by decide +kernel
def R_Merger : String := "InterlockingFrame$Merge\x72"
def F_Merger : u_T := fun k => match k with
  | 0 => ("InterlockingFrame$Merge\x72", "open", "I", false)
  | 1 => ("InterlockingFrame$Merge\x72", "merged", "LInterlockingFrame$Sheet;", true)
  | 2 => ("InterlockingFrame$Merge\x72", "attempted", "LInterlockingFrame$Sheet;", true)
  | _ => ("InterlockingFrame$Merge\x72", "settable", "I", false)
def t_Merger : Nat → FieldType := fun k => match k with
  | 0 => .int
  | 1 => .object "InterlockingFrame$Sheet"
  | 2 => .object "InterlockingFrame$Sheet"
  | _ => .int
theorem n_Merger : ∀ a, a < 4 → ∀ b, b < 4 → a ≠ b → (F_Merger a).2.1 ≠ (F_Merger b).2.1 := by decide +kernel
theorem t_Merger_ok : ∀ k, k < 4 → parseFieldDescriptor (F_Merger k).2.2.1 = some (t_Merger k) := by decide +kernel
def R_Search : String := "InterlockingFrame$Search"
def F_Search : u_T := fun k => match k with
  | 0 => ("InterlockingFrame$Search", "locking", "LInterlockingFrame$Locking;", true)
  | 1 => ("InterlockingFrame$Search", "total", "I", false)
  | 2 => ("InterlockingFrame$Search", "movable", "I", false)
  | 3 => ("InterlockingFrame$Search", "orde\x72", "[I", true)
  | _ => ("InterlockingFrame$Search", "ways", "[I", true)
def t_Search : Nat → FieldType := fun k => match k with
  | 0 => .object "InterlockingFrame$Locking"
  | 1 => .int
  | 2 => .int
  | 3 => .array .int
  | _ => .array .int
theorem n_Search : ∀ a, a < 5 → ∀ b, b < 5 → a ≠ b → (F_Search a).2.1 ≠ (F_Search b).2.1 := by decide +kernel
theorem t_Search_ok : ∀ k, k < 5 → parseFieldDescriptor (F_Search k).2.2.1 = some (t_Search k) := by decide +kernel
def R_Sheet : String := "InterlockingFrame$Sheet"
def F_Sheet : u_T := fun k => match k with
  | 0 => ("InterlockingFrame$Sheet", "levers", "I", false)
  | 1 => ("InterlockingFrame$Sheet", "mergedLevers", "I", false)
  | 2 => ("InterlockingFrame$Sheet", "rules", "[I", true)
  | 3 => ("InterlockingFrame$Sheet", "ruleTotal", "I", false)
  | 4 => ("InterlockingFrame$Sheet", "routes", "[I", true)
  | 5 => ("InterlockingFrame$Sheet", "routeTotal", "I", false)
  | 6 => ("InterlockingFrame$Sheet", "conflictFirst", "[I", true)
  | 7 => ("InterlockingFrame$Sheet", "conflictSecond", "[I", true)
  | _ => ("InterlockingFrame$Sheet", "conflictTotal", "I", false)
def t_Sheet : Nat → FieldType := fun k => match k with
  | 0 => .int
  | 1 => .int
  | 2 => .array .int
  | 3 => .int
  | 4 => .array .int
  | 5 => .int
  | 6 => .array .int
  | 7 => .array .int
  | _ => .int
theorem n_Sheet : ∀ a, a < 9 → ∀ b, b < 9 → a ≠ b → (F_Sheet a).2.1 ≠ (F_Sheet b).2.1 := by decide +kernel
theorem t_Sheet_ok : ∀ k, k < 9 → parseFieldDescriptor (F_Sheet k).2.2.1 = some (t_Sheet k) := by decide +kernel
def R_SheetParser : String := "InterlockingFrame$SheetParse\x72"
def F_SheetParser : u_T := fun k => match k with
  | 0 => ("InterlockingFrame$SheetParse\x72", "errorCode", "I", false)
  | 1 => ("InterlockingFrame$SheetParse\x72", "errorOffset", "I", false)
  | 2 => ("InterlockingFrame$SheetParse\x72", "text", "[I", true)
  | 3 => ("InterlockingFrame$SheetParse\x72", "length", "I", false)
  | 4 => ("InterlockingFrame$SheetParse\x72", "tokenStart", "I", false)
  | 5 => ("InterlockingFrame$SheetParse\x72", "tokenEnd", "I", false)
  | _ => ("InterlockingFrame$SheetParse\x72", "textLength", "I", false)
def t_SheetParser : Nat → FieldType := fun k => match k with
  | 0 => .int
  | 1 => .int
  | 2 => .array .int
  | 3 => .int
  | 4 => .int
  | 5 => .int
  | _ => .int
theorem n_SheetParser : ∀ a, a < 7 → ∀ b, b < 7 → a ≠ b → (F_SheetParser a).2.1 ≠ (F_SheetParser b).2.1 := by decide +kernel
theorem t_SheetParser_ok : ∀ k, k < 7 → parseFieldDescriptor (F_SheetParser k).2.2.1 = some (t_SheetParser k) := by decide +kernel
def R_Frame : String := "InterlockingFrame"
def F_Frame : u_T := fun k => match k with
  | 0 => ("InterlockingFrame", "merge\x72", "LInterlockingFrame$Merger;", true)
  | 1 => ("InterlockingFrame", "leversLeft", "I", false)
  | 2 => ("InterlockingFrame", "parse\x72", "LInterlockingFrame$SheetParser;", true)
  | 3 => ("InterlockingFrame", "sheet", "LInterlockingFrame$Sheet;", true)
  | 4 => ("InterlockingFrame", "draft", "LInterlockingFrame$Sheet;", true)
  | 5 => ("InterlockingFrame", "history", "LInterlockingFrame$History;", true)
  | 6 => ("InterlockingFrame", "current", "I", false)
  | 7 => ("InterlockingFrame", "home", "LInterlockingFrame$Search;", true)
  | 8 => ("InterlockingFrame", "homeIsKnown", "Z", false)
  | 9 => ("InterlockingFrame", "trial", "LInterlockingFrame$Search;", true)
  | 10 => ("InterlockingFrame", "planne\x72", "LInterlockingFrame$LockPlanner;", true)
  | _ => ("InterlockingFrame", "mergingIsKnown", "Z", false)
def t_Frame : Nat → FieldType := fun k => match k with
  | 0 => .object "InterlockingFrame$Merge\x72"
  | 1 => .int
  | 2 => .object "InterlockingFrame$SheetParse\x72"
  | 3 => .object "InterlockingFrame$Sheet"
  | 4 => .object "InterlockingFrame$Sheet"
  | 5 => .object "InterlockingFrame$History"
  | 6 => .int
  | 7 => .object "InterlockingFrame$Search"
  | 8 => .boolean
  | 9 => .object "InterlockingFrame$Search"
  | 10 => .object "InterlockingFrame$LockPlanne\x72"
  | _ => .boolean
theorem n_Frame : ∀ a, a < 12 → ∀ b, b < 12 → a ≠ b → (F_Frame a).2.1 ≠ (F_Frame b).2.1 := by decide +kernel
theorem t_Frame_ok : ∀ k, k < 12 → parseFieldDescriptor (F_Frame k).2.2.1 = some (t_Frame k) := by decide +kernel
def R_Model : String := "InterlockingFrameModel"
def F_Model : u_T := fun k => match k with
  | 0 => ("InterlockingFrameModel", "levers", "I", false)
  | 1 => ("InterlockingFrameModel", "routes", "I", false)
  | 2 => ("InterlockingFrameModel", "conflicts", "I", false)
  | 3 => ("InterlockingFrameModel", "s", "[I", true)
  | 4 => ("InterlockingFrameModel", "acts", "[I", true)
  | 5 => ("InterlockingFrameModel", "route", "[I", true)
  | 6 => ("InterlockingFrameModel", "first", "[I", true)
  | 7 => ("InterlockingFrameModel", "second", "[I", true)
  | 8 => ("InterlockingFrameModel", "actMany", "I", false)
  | 9 => ("InterlockingFrameModel", "thrown", "I", false)
  | 10 => ("InterlockingFrameModel", "tape", "[I", true)
  | 11 => ("InterlockingFrameModel", "taped", "I", false)
  | 12 => ("InterlockingFrameModel", "size", "I", false)
  | 13 => ("InterlockingFrameModel", "spot", "I", false)
  | 14 => ("InterlockingFrameModel", "wrong", "I", false)
  | 15 => ("InterlockingFrameModel", "wrongAt", "I", false)
  | 16 => ("InterlockingFrameModel", "numberAt", "I", false)
  | 17 => ("InterlockingFrameModel", "newLevers", "I", false)
  | 18 => ("InterlockingFrameModel", "newRules", "I", false)
  | 19 => ("InterlockingFrameModel", "newRoutes", "I", false)
  | 20 => ("InterlockingFrameModel", "newConflicts", "I", false)
  | 21 => ("InterlockingFrameModel", "newRule", "[I", true)
  | 22 => ("InterlockingFrameModel", "newRoute", "[I", true)
  | 23 => ("InterlockingFrameModel", "newFirst", "[I", true)
  | 24 => ("InterlockingFrameModel", "newSecond", "[I", true)
  | 25 => ("InterlockingFrameModel", "\x72", "[I", true)
  | 26 => ("InterlockingFrameModel", "way", "[I", true)
  | 27 => ("InterlockingFrameModel", "many", "I", false)
  | 28 => ("InterlockingFrameModel", "used", "I", false)
  | 29 => ("InterlockingFrameModel", "gone", "I", false)
  | 30 => ("InterlockingFrameModel", "fa\x72", "[I", true)
  | 31 => ("InterlockingFrameModel", "queue", "[I", true)
  | 32 => ("InterlockingFrameModel", "queued", "I", false)
  | 33 => ("InterlockingFrameModel", "added", "[I", true)
  | 34 => ("InterlockingFrameModel", "addedMany", "I", false)
  | 35 => ("InterlockingFrameModel", "targets", "[I", true)
  | 36 => ("InterlockingFrameModel", "targetMany", "I", false)
  | 37 => ("InterlockingFrameModel", "dueRoutes", "I", false)
  | 38 => ("InterlockingFrameModel", "dueConflicts", "I", false)
  | 39 => ("InterlockingFrameModel", "wasRule", "[I", true)
  | 40 => ("InterlockingFrameModel", "wasWay", "[I", true)
  | _ => ("InterlockingFrameModel", "wasGone", "I", false)
def t_Model : Nat → FieldType := fun k => match k with
  | 0 => .int
  | 1 => .int
  | 2 => .int
  | 3 => .array .int
  | 4 => .array .int
  | 5 => .array .int
  | 6 => .array .int
  | 7 => .array .int
  | 8 => .int
  | 9 => .int
  | 10 => .array .int
  | 11 => .int
  | 12 => .int
  | 13 => .int
  | 14 => .int
  | 15 => .int
  | 16 => .int
  | 17 => .int
  | 18 => .int
  | 19 => .int
  | 20 => .int
  | 21 => .array .int
  | 22 => .array .int
  | 23 => .array .int
  | 24 => .array .int
  | 25 => .array .int
  | 26 => .array .int
  | 27 => .int
  | 28 => .int
  | 29 => .int
  | 30 => .array .int
  | 31 => .array .int
  | 32 => .int
  | 33 => .array .int
  | 34 => .int
  | 35 => .array .int
  | 36 => .int
  | 37 => .int
  | 38 => .int
  | 39 => .array .int
  | 40 => .array .int
  | _ => .int
theorem n_Model : ∀ a, a < 42 → ∀ b, b < 42 → a ≠ b → (F_Model a).2.1 ≠ (F_Model b).2.1 := by decide +kernel
theorem t_Model_ok : ∀ k, k < 42 → parseFieldDescriptor (F_Model k).2.2.1 = some (t_Model k) := by decide +kernel
/-- words that a callee may take over -/
def ja_tb : List Cond := lw_tbl.filter goodWord
theorem ja_mem (i : Nat) {w : Cond} (h : lw_tbl[i]? = some w) (hg : goodWord w = true) : w ∈ ja_tb := List.mem_filter.mpr ⟨List.mem_of_getElem? h, hg⟩
theorem ja_good {c : Cond} (h : c ∈ ja_tb) : GoodIn ja_tb (c :: ja_tb) := by
  intro w hw
  rcases List.mem_cons.mp hw with rfl | hw
  · exact ⟨h, good_of_word (List.mem_filter.mp h).2⟩
  · exact ⟨hw, good_of_word (List.mem_filter.mp hw).2⟩
theorem ja_in (ws : List Cond) (ps : List Nat) (hp : ws = ps.filterMap (fun i => lw_tbl[i]?)) (hg : ws.all goodWord = true) : ∀ w ∈ ws, w ∈ ja_tb := by
  intro w hw
  have h1 := List.all_eq_true.mp hg w hw
  rw [hp] at hw
  obtain ⟨i, -, hi⟩ := List.mem_filterMap.mp hw
  exact ja_mem i hi h1
set_option maxRecDepth 20000 in
theorem i_History : ∀ w ∈ u_ws R_History F_History 7, w ∈ ja_tb := ja_in _ [198, 200, 202, 204, 206, 208, 210] (by decide +kernel) (by decide +kernel)
set_option maxRecDepth 20000 in
theorem i_LockPlanner : ∀ w ∈ u_ws R_LockPlanner F_LockPlanner 4, w ∈ ja_tb := ja_in _ [274, 270, 272, 276] (by decide +kernel) (by decide +kernel)
set_option maxRecDepth 20000 in
theorem i_Locking : ∀ w ∈ u_ws R_Locking F_Locking 2, w ∈ ja_tb := ja_in _ [227, 229] (by decide +kernel) (by decide +kernel)
set_option maxRecDepth 20000 in
theorem i_Merger : ∀ w ∈ u_ws R_Merger F_Merger 4, w ∈ ja_tb := ja_in _ [297, 291, 293, 295] (by decide +kernel) (by decide +kernel)
set_option maxRecDepth 20000 in
theorem i_Search : ∀ w ∈ u_ws R_Search F_Search 5, w ∈ ja_tb := ja_in _ [246, 248, 250, 252, 254] (by decide +kernel) (by decide +kernel)
set_option maxRecDepth 20000 in
theorem i_Sheet : ∀ w ∈ u_ws R_Sheet F_Sheet 9, w ∈ ja_tb := ja_in _ [162, 164, 166, 168, 170, 172, 174, 176, 178] (by decide +kernel) (by decide +kernel)
set_option maxRecDepth 20000 in
theorem i_SheetParser : ∀ w ∈ u_ws R_SheetParser F_SheetParser 7, w ∈ ja_tb := ja_in _ [117, 119, 121, 123, 125, 127, 115] (by decide +kernel) (by decide +kernel)
set_option maxRecDepth 20000 in
theorem i_Frame : ∀ w ∈ u_ws R_Frame F_Frame 12, w ∈ ja_tb := ja_in _ [330, 334, 312, 314, 316, 318, 320, 322, 324, 326, 328, 332] (by decide +kernel) (by decide +kernel)
set_option maxRecDepth 20000 in
theorem i_Model : ∀ w ∈ u_ws R_Model F_Model 42, w ∈ ja_tb := ja_in _ [1023, 1025, 1027, 1029, 1031, 1033, 1035, 1037, 1039, 1041, 1043, 1045, 1047, 1049, 1051, 1053, 1055, 1057, 1059, 1061, 1063, 1065, 1067, 1069, 1071, 1073, 1075, 1077, 1079, 1081, 1083, 1085, 1087, 1089, 1091, 1093, 1095, 1097, 1099, 1101, 1103, 1105] (by decide +kernel) (by decide +kernel)
abbrev classes : List vw_C := [(R_History, F_History, 7), (R_LockPlanner, F_LockPlanner, 4), (R_Locking, F_Locking, 2), (R_Merger, F_Merger, 4), (R_Search, F_Search, 5), (R_Sheet, F_Sheet, 9), (R_SheetParser, F_SheetParser, 7), (R_Frame, F_Frame, 12), (R_Model, F_Model, 42)]
