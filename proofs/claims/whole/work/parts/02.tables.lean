def LT : List Cond := lw_tbl.filter goodWord
theorem mG {w : Cond} (h : w ∈ lw_tbl) (g : goodWord w = true) : w ∈ LT := List.mem_filter.mpr ⟨h, g⟩
theorem LT_good : ∀ w ∈ LT, (w.onTables && w.keeps) = true ∨ ∃ ty, w = .arrayClass ty := fun w hw => good_of_word (List.mem_filter.mp hw).2
def NL : List (String × Nat × MethodName × String) := [("CloudDepth", 9, ⟨"CloudDepth$Tape", "<init>", "()V"⟩, "CloudDepth"), ("CloudDepth$TextReader", 11, ⟨"CloudDepth$Cloud", "<init>", "()V"⟩, "CloudDepth"), ("CloudDepth", 27, ⟨"CloudDepth$Cloud", "<init>", "()V"⟩, "CloudDepth"), ("CloudDepth", 37, ⟨"CloudDepth$Hulls", "<init>", "()V"⟩, "CloudDepth"), ("CloudDepth", 44, ⟨"CloudDepth$Depths", "<init>", "()V"⟩, "CloudDepth"), ("CloudDepth", 51, ⟨"CloudDepth$Cuts", "<init>", "()V"⟩, "CloudDepth"), ("CloudDepth$Cuts", 11, ⟨"CloudDepth$SetMarks", "<init>", "()V"⟩, "CloudDepth"), ("CloudDepth", 58, ⟨"CloudDepth$Lines", "<init>", "()V"⟩, "CloudDepth"), ("CloudDepth", 65, ⟨"CloudDepth$Fits", "<init>", "()V"⟩, "CloudDepth"), ("CloudDepth", 72, ⟨"CloudDepth$Shapes", "<init>", "()V"⟩, "CloudDepth"), ("CloudDepth$Shapes", 11, ⟨"CloudDepth$SetMarks", "<init>", "()V"⟩, "CloudDepth"), ("CloudDepth$TextReader", 104, ⟨"CloudDepth", "isWithinReach", "(I)Z"⟩, "CloudDepth"), ("CloudDepth$Cloud", 29, ⟨"CloudDepth", "isWithinReach", "(I)Z"⟩, "CloudDepth"), ("CloudDepth$Hulls", 32, ⟨"CloudDepth", "bit", "(II)I"⟩, "CloudDepth"), ("CloudDepth$Cloud", 58, ⟨"CloudDepth", "signOf", "(I)I"⟩, "CloudDepth"), ("CloudDepth$Cuts", 51, ⟨"CloudDepth", "bit", "(II)I"⟩, "CloudDepth"), ("CloudDepth$Shapes", 36, ⟨"CloudDepth", "bit", "(II)I"⟩, "CloudDepth"), ("CloudDepth$Shapes", 99, ⟨"CloudDepth", "signOf", "(I)I"⟩, "CloudDepth")]
-- the objects of both systems, by number (printed by wip/whole/gen/tables.py)
def oTab : List (Nat × Nat × List Nat) := [(0, 11, [1, 3, 8, 11, 14, 17, 21, 24, 26, 28, 31, 73, 78, 0, 0]), (0, 9, [2, 0, 0, 0, 0, 0, 0]), (1, 2000, []), (0, 10, [4, 0, 1, 7, 0, 0, 0, 0, 0, 0]), (0, 0, [5, 6, 0, 0, 0]), (1, 12, []), (1, 12, []), (4, 12, []), (0, 0, [9, 10, 0, 0, 0]), (1, 12, []), (1, 12, []), (0, 0, [12, 13, 0, 0, 0]), (1, 12, []), (1, 12, []), (0, 4, [15, 16, 0, 0]), (1, 12, []), (1, 12, []), (0, 2, [18, 19, 20, 0, 0, 0, 0, 0, 0, 0, 0, 0, 0]), (1, 1681, []), (1, 12, []), (1, 12, []), (0, 1, [22, 0]), (0, 6, [23]), (1, 128, []), (0, 5, [25, 0]), (1, 66, []), (0, 3, [27, 0, 0, 0, 0, 0]), (1, 12, []), (0, 7, [29]), (0, 6, [30]), (1, 128, []), (0, 8, [32]), (5, 40, [33, 34, 35, 36, 37, 38, 39, 40, 41, 42, 43, 44, 45, 46, 47, 48, 49, 50, 51, 52, 53, 54, 55, 56, 57, 58, 59, 60, 61, 62, 63, 64, 65, 66, 67, 68, 69, 70, 71, 72]), (1, 26, []), (1, 26, []), (1, 26, []), (1, 26, []), (1, 26, []), (1, 26, []), (1, 26, []), (1, 26, []), (1, 26, []), (1, 26, []), (1, 26, []), (1, 26, []), (1, 26, []), (1, 26, []), (1, 26, []), (1, 26, []), (1, 26, []), (1, 26, []), (1, 26, []), (1, 26, []), (1, 26, []), (1, 26, []), (1, 26, []), (1, 26, []), (1, 26, []), (1, 26, []), (1, 26, []), (1, 26, []), (1, 26, []), (1, 26, []), (1, 26, []), (1, 26, []), (1, 26, []), (1, 26, []), (1, 26, []), (1, 26, []), (1, 26, []), (1, 26, []), (1, 26, []), (1, 26, []), (0, 8, [74]), (5, 3, [75, 76, 77]), (1, 26, []), (1, 26, []), (1, 26, []), (3, 3, []), (0, 12, [0, 80, 0, 81, 0, 82, 83, 84, 85, 86, 0, 0, 0, 0, 0, 0, 0, 87, 88, 89, 90, 0, 91, 0, 0, 92, 93, 94, 95, 96, 97, 0, 0, 0, 0, 98, 99, 100, 101, 102]), (2, 2000, []), (2, 2000, []), (1, 403, []), (1, 403, []), (1, 403, []), (4, 403, []), (4, 2, []), (1, 28, []), (1, 28, []), (4, 12, []), (3, 12, []), (1, 1040, []), (1, 78, []), (3, 3, []), (1, 13, []), (1, 13, []), (1, 900, []), (1, 900, []), (1, 66, []), (1, 66, []), (1, 66, []), (1, 66, []), (1, 12, [])]
def NO : Nat := 103
def ob (o : Nat) : Nat × Nat × List Nat := oTab.getD o (9, 0, [])
def ak (o : Nat) : Nat := (ob o).1
def cx (o : Nat) : Nat := (ob o).2.1
def rf (o k : Nat) : Nat := (ob o).2.2.getD k 33
def R_0 : String := "CloudDepth$Cloud"
def F_0 : u_T := fun k => match k with
  | 0 => ("CloudDepth$Cloud", "xs", "[I", true)
  | 1 => ("CloudDepth$Cloud", "ys", "[I", true)
  | 2 => ("CloudDepth$Cloud", "size", "I", false)
  | 3 => ("CloudDepth$Cloud", "grid", "I", false)
  | _ => ("CloudDepth$Cloud", "stamp", "I", false)
def t_0 : Nat → FieldType := fun k => match k with
  | 0 => (.array .int)
  | 1 => (.array .int)
  | 2 => .int
  | 3 => .int
  | _ => .int
def R_1 : String := "CloudDepth$Cuts"
def F_1 : u_T := fun k => match k with
  | 0 => ("CloudDepth$Cuts", "found", "LCloudDepth$SetMarks;", true)
  | _ => ("CloudDepth$Cuts", "stamp", "I", false)
def t_1 : Nat → FieldType := fun k => match k with
  | 0 => (.object "CloudDepth$SetMarks")
  | _ => .int
def R_2 : String := "CloudDepth$Depths"
def F_2 : u_T := fun k => match k with
  | 0 => ("CloudDepth$Depths", "values", "[I", true)
  | 1 => ("CloudDepth$Depths", "dx", "[I", true)
  | 2 => ("CloudDepth$Depths", "dy", "[I", true)
  | 3 => ("CloudDepth$Depths", "stamp", "I", false)
  | 4 => ("CloudDepth$Depths", "greatest", "I", false)
  | 5 => ("CloudDepth$Depths", "greatestCount", "I", false)
  | 6 => ("CloudDepth$Depths", "firstX", "I", false)
  | 7 => ("CloudDepth$Depths", "firstY", "I", false)
  | 8 => ("CloudDepth$Depths", "regionCount", "I", false)
  | 9 => ("CloudDepth$Depths", "leastX", "I", false)
  | 10 => ("CloudDepth$Depths", "mostX", "I", false)
  | 11 => ("CloudDepth$Depths", "leastY", "I", false)
  | _ => ("CloudDepth$Depths", "mostY", "I", false)
def t_2 : Nat → FieldType := fun k => match k with
  | 0 => (.array .int)
  | 1 => (.array .int)
  | 2 => (.array .int)
  | 3 => .int
  | 4 => .int
  | 5 => .int
  | 6 => .int
  | 7 => .int
  | 8 => .int
  | 9 => .int
  | 10 => .int
  | 11 => .int
  | _ => .int
def R_3 : String := "CloudDepth$Fits"
def F_3 : u_T := fun k => match k with
  | 0 => ("CloudDepth$Fits", "byX", "[I", true)
  | 1 => ("CloudDepth$Fits", "stamp", "I", false)
  | 2 => ("CloudDepth$Fits", "greatest", "I", false)
  | 3 => ("CloudDepth$Fits", "greatestCount", "I", false)
  | 4 => ("CloudDepth$Fits", "firstA", "I", false)
  | _ => ("CloudDepth$Fits", "firstB", "I", false)
def t_3 : Nat → FieldType := fun k => match k with
  | 0 => (.array .int)
  | 1 => .int
  | 2 => .int
  | 3 => .int
  | 4 => .int
  | _ => .int
def R_4 : String := "CloudDepth$Hulls"
def F_4 : u_T := fun k => match k with
  | 0 => ("CloudDepth$Hulls", "layers", "[I", true)
  | 1 => ("CloudDepth$Hulls", "corners", "[I", true)
  | 2 => ("CloudDepth$Hulls", "layerCount", "I", false)
  | _ => ("CloudDepth$Hulls", "cornerCount", "I", false)
def t_4 : Nat → FieldType := fun k => match k with
  | 0 => (.array .int)
  | 1 => (.array .int)
  | 2 => .int
  | _ => .int
def R_5 : String := "CloudDepth$Lines"
def F_5 : u_T := fun k => match k with
  | 0 => ("CloudDepth$Lines", "pairs", "[I", true)
  | _ => ("CloudDepth$Lines", "crossings", "I", false)
def t_5 : Nat → FieldType := fun k => match k with
  | 0 => (.array .int)
  | _ => .int
def R_6 : String := "CloudDepth$SetMarks"
def F_6 : u_T := fun k => match k with
  | _ => ("CloudDepth$SetMarks", "words", "[I", true)
def t_6 : Nat → FieldType := fun k => match k with
  | _ => (.array .int)
def R_7 : String := "CloudDepth$Shapes"
def F_7 : u_T := fun k => match k with
  | _ => ("CloudDepth$Shapes", "convex", "LCloudDepth$SetMarks;", true)
def t_7 : Nat → FieldType := fun k => match k with
  | _ => (.object "CloudDepth$SetMarks")
def R_8 : String := "CloudDepth$Shelf"
def F_8 : u_T := fun k => match k with
  | _ => ("CloudDepth$Shelf", "rows", "[[I", true)
def t_8 : Nat → FieldType := fun k => match k with
  | _ => (.array (.array .int))
def R_9 : String := "CloudDepth$Tape"
def F_9 : u_T := fun k => match k with
  | 0 => ("CloudDepth$Tape", "bytes", "[I", true)
  | 1 => ("CloudDepth$Tape", "length", "I", false)
  | 2 => ("CloudDepth$Tape", "start", "I", false)
  | 3 => ("CloudDepth$Tape", "kind", "I", false)
  | 4 => ("CloudDepth$Tape", "number", "I", false)
  | 5 => ("CloudDepth$Tape", "name", "J", false)
  | _ => ("CloudDepth$Tape", "next", "I", false)
def t_9 : Nat → FieldType := fun k => match k with
  | 0 => (.array .int)
  | 1 => .int
  | 2 => .int
  | 3 => .int
  | 4 => .int
  | 5 => .long
  | _ => .int
def R_10 : String := "CloudDepth$TextReader"
def F_10 : u_T := fun k => match k with
  | 0 => ("CloudDepth$TextReader", "told", "LCloudDepth$Cloud;", true)
  | 1 => ("CloudDepth$TextReader", "faultPlace", "I", false)
  | 2 => ("CloudDepth$TextReader", "tape", "LCloudDepth$Tape;", true)
  | 3 => ("CloudDepth$TextReader", "names", "[J", true)
  | 4 => ("CloudDepth$TextReader", "fault", "I", false)
  | 5 => ("CloudDepth$TextReader", "state", "I", false)
  | 6 => ("CloudDepth$TextReader", "tokenCount", "I", false)
  | 7 => ("CloudDepth$TextReader", "pointLines", "I", false)
  | 8 => ("CloudDepth$TextReader", "x", "I", false)
  | _ => ("CloudDepth$TextReader", "minus", "Z", false)
def t_10 : Nat → FieldType := fun k => match k with
  | 0 => (.object "CloudDepth$Cloud")
  | 1 => .int
  | 2 => (.object "CloudDepth$Tape")
  | 3 => (.array .long)
  | 4 => .int
  | 5 => .int
  | 6 => .int
  | 7 => .int
  | 8 => .int
  | _ => .boolean
def R_11 : String := "CloudDepth"
def F_11 : u_T := fun k => match k with
  | 0 => ("CloudDepth", "tape", "LCloudDepth$Tape;", true)
  | 1 => ("CloudDepth", "reader", "LCloudDepth$TextReader;", true)
  | 2 => ("CloudDepth", "cloud", "LCloudDepth$Cloud;", true)
  | 3 => ("CloudDepth", "trial", "LCloudDepth$Cloud;", true)
  | 4 => ("CloudDepth", "hulls", "LCloudDepth$Hulls;", true)
  | 5 => ("CloudDepth", "depths", "LCloudDepth$Depths;", true)
  | 6 => ("CloudDepth", "cuts", "LCloudDepth$Cuts;", true)
  | 7 => ("CloudDepth", "lines", "LCloudDepth$Lines;", true)
  | 8 => ("CloudDepth", "fits", "LCloudDepth$Fits;", true)
  | 9 => ("CloudDepth", "shapes", "LCloudDepth$Shapes;", true)
  | 10 => ("CloudDepth", "past", "LCloudDepth$Shelf;", true)
  | 11 => ("CloudDepth", "slots", "LCloudDepth$Shelf;", true)
  | 12 => ("CloudDepth", "slotHolds", "[Z", true)
  | 13 => ("CloudDepth", "undoable", "I", false)
  | _ => ("CloudDepth", "nextPast", "I", false)
def t_11 : Nat → FieldType := fun k => match k with
  | 0 => (.object "CloudDepth$Tape")
  | 1 => (.object "CloudDepth$TextReader")
  | 2 => (.object "CloudDepth$Cloud")
  | 3 => (.object "CloudDepth$Cloud")
  | 4 => (.object "CloudDepth$Hulls")
  | 5 => (.object "CloudDepth$Depths")
  | 6 => (.object "CloudDepth$Cuts")
  | 7 => (.object "CloudDepth$Lines")
  | 8 => (.object "CloudDepth$Fits")
  | 9 => (.object "CloudDepth$Shapes")
  | 10 => (.object "CloudDepth$Shelf")
  | 11 => (.object "CloudDepth$Shelf")
  | 12 => (.array .boolean)
  | 13 => .int
  | _ => .int
def R_12 : String := "CloudDepthModel"
def F_12 : u_T := fun k => match k with
  | 0 => ("CloudDepthModel", "thrown", "I", false)
  | 1 => ("CloudDepthModel", "tape", "[B", true)
  | 2 => ("CloudDepthModel", "taped", "I", false)
  | 3 => ("CloudDepthModel", "text", "[B", true)
  | 4 => ("CloudDepthModel", "size", "I", false)
  | 5 => ("CloudDepthModel", "tKind", "[I", true)
  | 6 => ("CloudDepthModel", "tPlace", "[I", true)
  | 7 => ("CloudDepthModel", "tValue", "[I", true)
  | 8 => ("CloudDepthModel", "tName", "[J", true)
  | 9 => ("CloudDepthModel", "keys", "[J", true)
  | 10 => ("CloudDepthModel", "tokens", "I", false)
  | 11 => ("CloudDepthModel", "t", "I", false)
  | 12 => ("CloudDepthModel", "fault", "I", false)
  | 13 => ("CloudDepthModel", "faultPlace", "I", false)
  | 14 => ("CloudDepthModel", "worst", "I", false)
  | 15 => ("CloudDepthModel", "worstPlace", "I", false)
  | 16 => ("CloudDepthModel", "place", "I", false)
  | 17 => ("CloudDepthModel", "now", "[I", true)
  | 18 => ("CloudDepthModel", "draft", "[I", true)
  | 19 => ("CloudDepthModel", "names", "[J", true)
  | 20 => ("CloudDepthModel", "isGood", "[Z", true)
  | 21 => ("CloudDepthModel", "newPoints", "I", false)
  | 22 => ("CloudDepthModel", "earlier", "[I", true)
  | 23 => ("CloudDepthModel", "earliest", "I", false)
  | 24 => ("CloudDepthModel", "undos", "I", false)
  | 25 => ("CloudDepthModel", "held", "[I", true)
  | 26 => ("CloudDepthModel", "isHeld", "[Z", true)
  | 27 => ("CloudDepthModel", "layers", "[I", true)
  | 28 => ("CloudDepthModel", "cornerAt", "[I", true)
  | 29 => ("CloudDepthModel", "oneOf", "[I", true)
  | 30 => ("CloudDepthModel", "otherOf", "[I", true)
  | 31 => ("CloudDepthModel", "meetings", "I", false)
  | 32 => ("CloudDepthModel", "deepX", "I", false)
  | 33 => ("CloudDepthModel", "deepY", "I", false)
  | 34 => ("CloudDepthModel", "deepMany", "I", false)
  | 35 => ("CloudDepthModel", "overs", "[I", true)
  | 36 => ("CloudDepthModel", "unders", "[I", true)
  | 37 => ("CloudDepthModel", "lowers", "[I", true)
  | 38 => ("CloudDepthModel", "uppers", "[I", true)
  | _ => ("CloudDepthModel", "restOf", "[I", true)
def t_12 : Nat → FieldType := fun k => match k with
  | 0 => .int
  | 1 => (.array .byte)
  | 2 => .int
  | 3 => (.array .byte)
  | 4 => .int
  | 5 => (.array .int)
  | 6 => (.array .int)
  | 7 => (.array .int)
  | 8 => (.array .long)
  | 9 => (.array .long)
  | 10 => .int
  | 11 => .int
  | 12 => .int
  | 13 => .int
  | 14 => .int
  | 15 => .int
  | 16 => .int
  | 17 => (.array .int)
  | 18 => (.array .int)
  | 19 => (.array .long)
  | 20 => (.array .boolean)
  | 21 => .int
  | 22 => (.array .int)
  | 23 => .int
  | 24 => .int
  | 25 => (.array .int)
  | 26 => (.array .boolean)
  | 27 => (.array .int)
  | 28 => (.array .int)
  | 29 => (.array .int)
  | 30 => (.array .int)
  | 31 => .int
  | 32 => .int
  | 33 => .int
  | 34 => .int
  | 35 => (.array .int)
  | 36 => (.array .int)
  | 37 => (.array .int)
  | 38 => (.array .int)
  | _ => (.array .int)
def classes : List vw_C := [(R_0, F_0, 5), (R_1, F_1, 2), (R_2, F_2, 13), (R_3, F_3, 6), (R_4, F_4, 4), (R_5, F_5, 2), (R_6, F_6, 1), (R_7, F_7, 1), (R_8, F_8, 1), (R_9, F_9, 7), (R_10, F_10, 10), (R_11, F_11, 15), (R_12, F_12, 40)]
def KF : List (List Nat) := [[2, 2, 0, 0, 0], [2, 0], [2, 2, 2, 0, 0, 0, 0, 0, 0, 0, 0, 0, 0], [2, 0, 0, 0, 0, 0], [2, 2, 0, 0], [2, 0], [2], [2], [2], [2, 0, 0, 0, 0, 1, 0], [2, 0, 2, 2, 0, 0, 0, 0, 0, 3], [2, 2, 2, 2, 2, 2, 2, 2, 2, 2, 2, 2, 2, 0, 0], [0, 2, 0, 2, 0, 2, 2, 2, 2, 2, 0, 0, 0, 0, 0, 0, 0, 2, 2, 2, 2, 0, 2, 0, 0, 2, 2, 2, 2, 2, 2, 0, 0, 0, 0, 2, 2, 2, 2, 2]]
def TF : List (Nat → FieldType) := [t_0, t_1, t_2, t_3, t_4, t_5, t_6, t_7, t_8, t_9, t_10, t_11, t_12]
theorem n_0 : ∀ a, a < 5 → ∀ b, b < 5 → a ≠ b → (F_0 a).2.1 ≠ (F_0 b).2.1 := by decide +kernel
theorem t_0_ok : ∀ k, k < 5 → parseFieldDescriptor (F_0 k).2.2.1 = some (t_0 k) := by decide +kernel
theorem k_0 : ∀ k, k < 5 → ((KF.getD 0 []).getD k 9 = 0 → t_0 k = .int ∧ (F_0 k).2.2.2 = false) ∧ ((KF.getD 0 []).getD k 9 = 1 → t_0 k = .long ∧ (F_0 k).2.2.2 = false) ∧ ((KF.getD 0 []).getD k 9 = 3 → t_0 k = .boolean ∧ (F_0 k).2.2.2 = false) := by decide +kernel
theorem i_0 : ∀ w ∈ u_ws R_0 F_0 5, w ∈ LT := by
  intro w hw
  obtain ⟨k, hk, rfl⟩ := List.mem_map.mp hw
  have hk := List.mem_range.mp hk
  match k, hk with
  | 0, _ => exact mG (List.mem_append_right _ (List.mem_append_left _ (List.mem_of_getElem? (l := tables_1_1) (i := 112) rfl))) rfl
  | 1, _ => exact mG (List.mem_append_right _ (List.mem_append_left _ (List.mem_of_getElem? (l := tables_1_1) (i := 114) rfl))) rfl
  | 2, _ => exact mG (List.mem_append_right _ (List.mem_append_left _ (List.mem_of_getElem? (l := tables_1_1) (i := 116) rfl))) rfl
  | 3, _ => exact mG (List.mem_append_right _ (List.mem_append_left _ (List.mem_of_getElem? (l := tables_1_1) (i := 118) rfl))) rfl
  | 4, _ => exact mG (List.mem_append_right _ (List.mem_append_left _ (List.mem_of_getElem? (l := tables_1_1) (i := 120) rfl))) rfl
  | k + 5, h => exact absurd h (by omega)
theorem n_1 : ∀ a, a < 2 → ∀ b, b < 2 → a ≠ b → (F_1 a).2.1 ≠ (F_1 b).2.1 := by decide +kernel
theorem t_1_ok : ∀ k, k < 2 → parseFieldDescriptor (F_1 k).2.2.1 = some (t_1 k) := by decide +kernel
theorem k_1 : ∀ k, k < 2 → ((KF.getD 1 []).getD k 9 = 0 → t_1 k = .int ∧ (F_1 k).2.2.2 = false) ∧ ((KF.getD 1 []).getD k 9 = 1 → t_1 k = .long ∧ (F_1 k).2.2.2 = false) ∧ ((KF.getD 1 []).getD k 9 = 3 → t_1 k = .boolean ∧ (F_1 k).2.2.2 = false) := by decide +kernel
theorem i_1 : ∀ w ∈ u_ws R_1 F_1 2, w ∈ LT := by
  intro w hw
  obtain ⟨k, hk, rfl⟩ := List.mem_map.mp hw
  have hk := List.mem_range.mp hk
  match k, hk with
  | 0, _ => exact mG (List.mem_append_right _ (List.mem_append_right _ (List.mem_append_left _ (List.mem_of_getElem? (l := tables_1_2) (i := 14) rfl)))) rfl
  | 1, _ => exact mG (List.mem_append_right _ (List.mem_append_right _ (List.mem_append_left _ (List.mem_of_getElem? (l := tables_1_2) (i := 16) rfl)))) rfl
  | k + 2, h => exact absurd h (by omega)
theorem n_2 : ∀ a, a < 13 → ∀ b, b < 13 → a ≠ b → (F_2 a).2.1 ≠ (F_2 b).2.1 := by decide +kernel
theorem t_2_ok : ∀ k, k < 13 → parseFieldDescriptor (F_2 k).2.2.1 = some (t_2 k) := by decide +kernel
theorem k_2 : ∀ k, k < 13 → ((KF.getD 2 []).getD k 9 = 0 → t_2 k = .int ∧ (F_2 k).2.2.2 = false) ∧ ((KF.getD 2 []).getD k 9 = 1 → t_2 k = .long ∧ (F_2 k).2.2.2 = false) ∧ ((KF.getD 2 []).getD k 9 = 3 → t_2 k = .boolean ∧ (F_2 k).2.2.2 = false) := by decide +kernel
theorem i_2 : ∀ w ∈ u_ws R_2 F_2 13, w ∈ LT := by
  intro w hw
  obtain ⟨k, hk, rfl⟩ := List.mem_map.mp hw
  have hk := List.mem_range.mp hk
  match k, hk with
  | 0, _ => exact mG (List.mem_append_right _ (List.mem_append_left _ (List.mem_of_getElem? (l := tables_1_1) (i := 208) rfl))) rfl
  | 1, _ => exact mG (List.mem_append_right _ (List.mem_append_left _ (List.mem_of_getElem? (l := tables_1_1) (i := 210) rfl))) rfl
  | 2, _ => exact mG (List.mem_append_right _ (List.mem_append_left _ (List.mem_of_getElem? (l := tables_1_1) (i := 212) rfl))) rfl
  | 3, _ => exact mG (List.mem_append_right _ (List.mem_append_left _ (List.mem_of_getElem? (l := tables_1_1) (i := 214) rfl))) rfl
  | 4, _ => exact mG (List.mem_append_right _ (List.mem_append_left _ (List.mem_of_getElem? (l := tables_1_1) (i := 216) rfl))) rfl
  | 5, _ => exact mG (List.mem_append_right _ (List.mem_append_left _ (List.mem_of_getElem? (l := tables_1_1) (i := 218) rfl))) rfl
  | 6, _ => exact mG (List.mem_append_right _ (List.mem_append_left _ (List.mem_of_getElem? (l := tables_1_1) (i := 220) rfl))) rfl
  | 7, _ => exact mG (List.mem_append_right _ (List.mem_append_left _ (List.mem_of_getElem? (l := tables_1_1) (i := 222) rfl))) rfl
  | 8, _ => exact mG (List.mem_append_right _ (List.mem_append_left _ (List.mem_of_getElem? (l := tables_1_1) (i := 224) rfl))) rfl
  | 9, _ => exact mG (List.mem_append_right _ (List.mem_append_left _ (List.mem_of_getElem? (l := tables_1_1) (i := 226) rfl))) rfl
  | 10, _ => exact mG (List.mem_append_right _ (List.mem_append_left _ (List.mem_of_getElem? (l := tables_1_1) (i := 228) rfl))) rfl
  | 11, _ => exact mG (List.mem_append_right _ (List.mem_append_left _ (List.mem_of_getElem? (l := tables_1_1) (i := 230) rfl))) rfl
  | 12, _ => exact mG (List.mem_append_right _ (List.mem_append_left _ (List.mem_of_getElem? (l := tables_1_1) (i := 232) rfl))) rfl
  | k + 13, h => exact absurd h (by omega)
theorem n_3 : ∀ a, a < 6 → ∀ b, b < 6 → a ≠ b → (F_3 a).2.1 ≠ (F_3 b).2.1 := by decide +kernel
theorem t_3_ok : ∀ k, k < 6 → parseFieldDescriptor (F_3 k).2.2.1 = some (t_3 k) := by decide +kernel
theorem k_3 : ∀ k, k < 6 → ((KF.getD 3 []).getD k 9 = 0 → t_3 k = .int ∧ (F_3 k).2.2.2 = false) ∧ ((KF.getD 3 []).getD k 9 = 1 → t_3 k = .long ∧ (F_3 k).2.2.2 = false) ∧ ((KF.getD 3 []).getD k 9 = 3 → t_3 k = .boolean ∧ (F_3 k).2.2.2 = false) := by decide +kernel
theorem i_3 : ∀ w ∈ u_ws R_3 F_3 6, w ∈ LT := by
  intro w hw
  obtain ⟨k, hk, rfl⟩ := List.mem_map.mp hw
  have hk := List.mem_range.mp hk
  match k, hk with
  | 0, _ => exact mG (List.mem_append_right _ (List.mem_append_right _ (List.mem_append_left _ (List.mem_of_getElem? (l := tables_1_2) (i := 49) rfl)))) rfl
  | 1, _ => exact mG (List.mem_append_right _ (List.mem_append_right _ (List.mem_append_left _ (List.mem_of_getElem? (l := tables_1_2) (i := 51) rfl)))) rfl
  | 2, _ => exact mG (List.mem_append_right _ (List.mem_append_right _ (List.mem_append_left _ (List.mem_of_getElem? (l := tables_1_2) (i := 53) rfl)))) rfl
  | 3, _ => exact mG (List.mem_append_right _ (List.mem_append_right _ (List.mem_append_left _ (List.mem_of_getElem? (l := tables_1_2) (i := 55) rfl)))) rfl
  | 4, _ => exact mG (List.mem_append_right _ (List.mem_append_right _ (List.mem_append_left _ (List.mem_of_getElem? (l := tables_1_2) (i := 57) rfl)))) rfl
  | 5, _ => exact mG (List.mem_append_right _ (List.mem_append_right _ (List.mem_append_left _ (List.mem_of_getElem? (l := tables_1_2) (i := 59) rfl)))) rfl
  | k + 6, h => exact absurd h (by omega)
theorem n_4 : ∀ a, a < 4 → ∀ b, b < 4 → a ≠ b → (F_4 a).2.1 ≠ (F_4 b).2.1 := by decide +kernel
theorem t_4_ok : ∀ k, k < 4 → parseFieldDescriptor (F_4 k).2.2.1 = some (t_4 k) := by decide +kernel
theorem k_4 : ∀ k, k < 4 → ((KF.getD 4 []).getD k 9 = 0 → t_4 k = .int ∧ (F_4 k).2.2.2 = false) ∧ ((KF.getD 4 []).getD k 9 = 1 → t_4 k = .long ∧ (F_4 k).2.2.2 = false) ∧ ((KF.getD 4 []).getD k 9 = 3 → t_4 k = .boolean ∧ (F_4 k).2.2.2 = false) := by decide +kernel
theorem i_4 : ∀ w ∈ u_ws R_4 F_4 4, w ∈ LT := by
  intro w hw
  obtain ⟨k, hk, rfl⟩ := List.mem_map.mp hw
  have hk := List.mem_range.mp hk
  match k, hk with
  | 0, _ => exact mG (List.mem_append_right _ (List.mem_append_left _ (List.mem_of_getElem? (l := tables_1_1) (i := 171) rfl))) rfl
  | 1, _ => exact mG (List.mem_append_right _ (List.mem_append_left _ (List.mem_of_getElem? (l := tables_1_1) (i := 173) rfl))) rfl
  | 2, _ => exact mG (List.mem_append_right _ (List.mem_append_left _ (List.mem_of_getElem? (l := tables_1_1) (i := 175) rfl))) rfl
  | 3, _ => exact mG (List.mem_append_right _ (List.mem_append_left _ (List.mem_of_getElem? (l := tables_1_1) (i := 177) rfl))) rfl
  | k + 4, h => exact absurd h (by omega)
theorem n_5 : ∀ a, a < 2 → ∀ b, b < 2 → a ≠ b → (F_5 a).2.1 ≠ (F_5 b).2.1 := by decide +kernel
theorem t_5_ok : ∀ k, k < 2 → parseFieldDescriptor (F_5 k).2.2.1 = some (t_5 k) := by decide +kernel
theorem k_5 : ∀ k, k < 2 → ((KF.getD 5 []).getD k 9 = 0 → t_5 k = .int ∧ (F_5 k).2.2.2 = false) ∧ ((KF.getD 5 []).getD k 9 = 1 → t_5 k = .long ∧ (F_5 k).2.2.2 = false) ∧ ((KF.getD 5 []).getD k 9 = 3 → t_5 k = .boolean ∧ (F_5 k).2.2.2 = false) := by decide +kernel
theorem i_5 : ∀ w ∈ u_ws R_5 F_5 2, w ∈ LT := by
  intro w hw
  obtain ⟨k, hk, rfl⟩ := List.mem_map.mp hw
  have hk := List.mem_range.mp hk
  match k, hk with
  | 0, _ => exact mG (List.mem_append_right _ (List.mem_append_right _ (List.mem_append_left _ (List.mem_of_getElem? (l := tables_1_2) (i := 28) rfl)))) rfl
  | 1, _ => exact mG (List.mem_append_right _ (List.mem_append_right _ (List.mem_append_left _ (List.mem_of_getElem? (l := tables_1_2) (i := 30) rfl)))) rfl
  | k + 2, h => exact absurd h (by omega)
theorem n_6 : ∀ a, a < 1 → ∀ b, b < 1 → a ≠ b → (F_6 a).2.1 ≠ (F_6 b).2.1 := by decide +kernel
theorem t_6_ok : ∀ k, k < 1 → parseFieldDescriptor (F_6 k).2.2.1 = some (t_6 k) := by decide +kernel
theorem k_6 : ∀ k, k < 1 → ((KF.getD 6 []).getD k 9 = 0 → t_6 k = .int ∧ (F_6 k).2.2.2 = false) ∧ ((KF.getD 6 []).getD k 9 = 1 → t_6 k = .long ∧ (F_6 k).2.2.2 = false) ∧ ((KF.getD 6 []).getD k 9 = 3 → t_6 k = .boolean ∧ (F_6 k).2.2.2 = false) := by decide +kernel
theorem i_6 : ∀ w ∈ u_ws R_6 F_6 1, w ∈ LT := by
  intro w hw
  obtain ⟨k, hk, rfl⟩ := List.mem_map.mp hw
  have hk := List.mem_range.mp hk
  match k, hk with
  | 0, _ => exact mG (List.mem_append_right _ (List.mem_append_right _ (List.mem_append_left _ (List.mem_of_getElem? (l := tables_1_2) (i := 8) rfl)))) rfl
  | k + 1, h => exact absurd h (by omega)
theorem n_7 : ∀ a, a < 1 → ∀ b, b < 1 → a ≠ b → (F_7 a).2.1 ≠ (F_7 b).2.1 := by decide +kernel
theorem t_7_ok : ∀ k, k < 1 → parseFieldDescriptor (F_7 k).2.2.1 = some (t_7 k) := by decide +kernel
theorem k_7 : ∀ k, k < 1 → ((KF.getD 7 []).getD k 9 = 0 → t_7 k = .int ∧ (F_7 k).2.2.2 = false) ∧ ((KF.getD 7 []).getD k 9 = 1 → t_7 k = .long ∧ (F_7 k).2.2.2 = false) ∧ ((KF.getD 7 []).getD k 9 = 3 → t_7 k = .boolean ∧ (F_7 k).2.2.2 = false) := by decide +kernel
theorem i_7 : ∀ w ∈ u_ws R_7 F_7 1, w ∈ LT := by
  intro w hw
  obtain ⟨k, hk, rfl⟩ := List.mem_map.mp hw
  have hk := List.mem_range.mp hk
  match k, hk with
  | 0, _ => exact mG (List.mem_append_right _ (List.mem_append_right _ (List.mem_append_left _ (List.mem_of_getElem? (l := tables_1_2) (i := 71) rfl)))) rfl
  | k + 1, h => exact absurd h (by omega)
theorem n_8 : ∀ a, a < 1 → ∀ b, b < 1 → a ≠ b → (F_8 a).2.1 ≠ (F_8 b).2.1 := by decide +kernel
theorem t_8_ok : ∀ k, k < 1 → parseFieldDescriptor (F_8 k).2.2.1 = some (t_8 k) := by decide +kernel
theorem k_8 : ∀ k, k < 1 → ((KF.getD 8 []).getD k 9 = 0 → t_8 k = .int ∧ (F_8 k).2.2.2 = false) ∧ ((KF.getD 8 []).getD k 9 = 1 → t_8 k = .long ∧ (F_8 k).2.2.2 = false) ∧ ((KF.getD 8 []).getD k 9 = 3 → t_8 k = .boolean ∧ (F_8 k).2.2.2 = false) := by decide +kernel
theorem i_8 : ∀ w ∈ u_ws R_8 F_8 1, w ∈ LT := by
  intro w hw
  obtain ⟨k, hk, rfl⟩ := List.mem_map.mp hw
  have hk := List.mem_range.mp hk
  match k, hk with
  | 0, _ => exact mG (List.mem_append_right _ (List.mem_append_right _ (List.mem_append_left _ (List.mem_of_getElem? (l := tables_1_2) (i := 86) rfl)))) rfl
  | k + 1, h => exact absurd h (by omega)
theorem n_9 : ∀ a, a < 7 → ∀ b, b < 7 → a ≠ b → (F_9 a).2.1 ≠ (F_9 b).2.1 := by decide +kernel
theorem t_9_ok : ∀ k, k < 7 → parseFieldDescriptor (F_9 k).2.2.1 = some (t_9 k) := by decide +kernel
theorem k_9 : ∀ k, k < 7 → ((KF.getD 9 []).getD k 9 = 0 → t_9 k = .int ∧ (F_9 k).2.2.2 = false) ∧ ((KF.getD 9 []).getD k 9 = 1 → t_9 k = .long ∧ (F_9 k).2.2.2 = false) ∧ ((KF.getD 9 []).getD k 9 = 3 → t_9 k = .boolean ∧ (F_9 k).2.2.2 = false) := by decide +kernel
theorem i_9 : ∀ w ∈ u_ws R_9 F_9 7, w ∈ LT := by
  intro w hw
  obtain ⟨k, hk, rfl⟩ := List.mem_map.mp hw
  have hk := List.mem_range.mp hk
  match k, hk with
  | 0, _ => exact mG (List.mem_append_right _ (List.mem_append_left _ (List.mem_of_getElem? (l := tables_1_1) (i := 48) rfl))) rfl
  | 1, _ => exact mG (List.mem_append_right _ (List.mem_append_left _ (List.mem_of_getElem? (l := tables_1_1) (i := 50) rfl))) rfl
  | 2, _ => exact mG (List.mem_append_right _ (List.mem_append_left _ (List.mem_of_getElem? (l := tables_1_1) (i := 52) rfl))) rfl
  | 3, _ => exact mG (List.mem_append_right _ (List.mem_append_left _ (List.mem_of_getElem? (l := tables_1_1) (i := 54) rfl))) rfl
  | 4, _ => exact mG (List.mem_append_right _ (List.mem_append_left _ (List.mem_of_getElem? (l := tables_1_1) (i := 56) rfl))) rfl
  | 5, _ => exact mG (List.mem_append_right _ (List.mem_append_left _ (List.mem_of_getElem? (l := tables_1_1) (i := 58) rfl))) rfl
  | 6, _ => exact mG (List.mem_append_right _ (List.mem_append_left _ (List.mem_of_getElem? (l := tables_1_1) (i := 60) rfl))) rfl
  | k + 7, h => exact absurd h (by omega)
theorem n_10 : ∀ a, a < 10 → ∀ b, b < 10 → a ≠ b → (F_10 a).2.1 ≠ (F_10 b).2.1 := by decide +kernel
theorem t_10_ok : ∀ k, k < 10 → parseFieldDescriptor (F_10 k).2.2.1 = some (t_10 k) := by decide +kernel
theorem k_10 : ∀ k, k < 10 → ((KF.getD 10 []).getD k 9 = 0 → t_10 k = .int ∧ (F_10 k).2.2.2 = false) ∧ ((KF.getD 10 []).getD k 9 = 1 → t_10 k = .long ∧ (F_10 k).2.2.2 = false) ∧ ((KF.getD 10 []).getD k 9 = 3 → t_10 k = .boolean ∧ (F_10 k).2.2.2 = false) := by decide +kernel
theorem i_10 : ∀ w ∈ u_ws R_10 F_10 10, w ∈ LT := by
  intro w hw
  obtain ⟨k, hk, rfl⟩ := List.mem_map.mp hw
  have hk := List.mem_range.mp hk
  match k, hk with
  | 0, _ => exact mG (List.mem_append_right _ (List.mem_append_left _ (List.mem_of_getElem? (l := tables_1_1) (i := 135) rfl))) rfl
  | 1, _ => exact mG (List.mem_append_right _ (List.mem_append_left _ (List.mem_of_getElem? (l := tables_1_1) (i := 137) rfl))) rfl
  | 2, _ => exact mG (List.mem_append_right _ (List.mem_append_left _ (List.mem_of_getElem? (l := tables_1_1) (i := 139) rfl))) rfl
  | 3, _ => exact mG (List.mem_append_right _ (List.mem_append_left _ (List.mem_of_getElem? (l := tables_1_1) (i := 141) rfl))) rfl
  | 4, _ => exact mG (List.mem_append_right _ (List.mem_append_left _ (List.mem_of_getElem? (l := tables_1_1) (i := 143) rfl))) rfl
  | 5, _ => exact mG (List.mem_append_right _ (List.mem_append_left _ (List.mem_of_getElem? (l := tables_1_1) (i := 145) rfl))) rfl
  | 6, _ => exact mG (List.mem_append_right _ (List.mem_append_left _ (List.mem_of_getElem? (l := tables_1_1) (i := 147) rfl))) rfl
  | 7, _ => exact mG (List.mem_append_right _ (List.mem_append_left _ (List.mem_of_getElem? (l := tables_1_1) (i := 149) rfl))) rfl
  | 8, _ => exact mG (List.mem_append_right _ (List.mem_append_left _ (List.mem_of_getElem? (l := tables_1_1) (i := 151) rfl))) rfl
  | 9, _ => exact mG (List.mem_append_right _ (List.mem_append_left _ (List.mem_of_getElem? (l := tables_1_1) (i := 153) rfl))) rfl
  | k + 10, h => exact absurd h (by omega)
theorem n_11 : ∀ a, a < 15 → ∀ b, b < 15 → a ≠ b → (F_11 a).2.1 ≠ (F_11 b).2.1 := by decide +kernel
theorem t_11_ok : ∀ k, k < 15 → parseFieldDescriptor (F_11 k).2.2.1 = some (t_11 k) := by decide +kernel
theorem k_11 : ∀ k, k < 15 → ((KF.getD 11 []).getD k 9 = 0 → t_11 k = .int ∧ (F_11 k).2.2.2 = false) ∧ ((KF.getD 11 []).getD k 9 = 1 → t_11 k = .long ∧ (F_11 k).2.2.2 = false) ∧ ((KF.getD 11 []).getD k 9 = 3 → t_11 k = .boolean ∧ (F_11 k).2.2.2 = false) := by decide +kernel
theorem i_11 : ∀ w ∈ u_ws R_11 F_11 15, w ∈ LT := by
  intro w hw
  obtain ⟨k, hk, rfl⟩ := List.mem_map.mp hw
  have hk := List.mem_range.mp hk
  match k, hk with
  | 0, _ => exact mG (List.mem_append_right _ (List.mem_append_right _ (List.mem_append_left _ (List.mem_of_getElem? (l := tables_1_2) (i := 104) rfl)))) rfl
  | 1, _ => exact mG (List.mem_append_right _ (List.mem_append_right _ (List.mem_append_left _ (List.mem_of_getElem? (l := tables_1_2) (i := 106) rfl)))) rfl
  | 2, _ => exact mG (List.mem_append_right _ (List.mem_append_right _ (List.mem_append_left _ (List.mem_of_getElem? (l := tables_1_2) (i := 108) rfl)))) rfl
  | 3, _ => exact mG (List.mem_append_right _ (List.mem_append_right _ (List.mem_append_left _ (List.mem_of_getElem? (l := tables_1_2) (i := 110) rfl)))) rfl
  | 4, _ => exact mG (List.mem_append_right _ (List.mem_append_right _ (List.mem_append_left _ (List.mem_of_getElem? (l := tables_1_2) (i := 112) rfl)))) rfl
  | 5, _ => exact mG (List.mem_append_right _ (List.mem_append_right _ (List.mem_append_left _ (List.mem_of_getElem? (l := tables_1_2) (i := 114) rfl)))) rfl
  | 6, _ => exact mG (List.mem_append_right _ (List.mem_append_right _ (List.mem_append_left _ (List.mem_of_getElem? (l := tables_1_2) (i := 116) rfl)))) rfl
  | 7, _ => exact mG (List.mem_append_right _ (List.mem_append_right _ (List.mem_append_left _ (List.mem_of_getElem? (l := tables_1_2) (i := 118) rfl)))) rfl
  | 8, _ => exact mG (List.mem_append_right _ (List.mem_append_right _ (List.mem_append_left _ (List.mem_of_getElem? (l := tables_1_2) (i := 120) rfl)))) rfl
  | 9, _ => exact mG (List.mem_append_right _ (List.mem_append_right _ (List.mem_append_left _ (List.mem_of_getElem? (l := tables_1_2) (i := 122) rfl)))) rfl
  | 10, _ => exact mG (List.mem_append_right _ (List.mem_append_right _ (List.mem_append_left _ (List.mem_of_getElem? (l := tables_1_2) (i := 124) rfl)))) rfl
  | 11, _ => exact mG (List.mem_append_right _ (List.mem_append_right _ (List.mem_append_left _ (List.mem_of_getElem? (l := tables_1_2) (i := 126) rfl)))) rfl
  | 12, _ => exact mG (List.mem_append_right _ (List.mem_append_right _ (List.mem_append_left _ (List.mem_of_getElem? (l := tables_1_2) (i := 128) rfl)))) rfl
  | 13, _ => exact mG (List.mem_append_right _ (List.mem_append_right _ (List.mem_append_left _ (List.mem_of_getElem? (l := tables_1_2) (i := 130) rfl)))) rfl
  | 14, _ => exact mG (List.mem_append_right _ (List.mem_append_right _ (List.mem_append_left _ (List.mem_of_getElem? (l := tables_1_2) (i := 132) rfl)))) rfl
  | k + 15, h => exact absurd h (by omega)
theorem n_12 : ∀ a, a < 40 → ∀ b, b < 40 → a ≠ b → (F_12 a).2.1 ≠ (F_12 b).2.1 := by decide +kernel
theorem t_12_ok : ∀ k, k < 40 → parseFieldDescriptor (F_12 k).2.2.1 = some (t_12 k) := by decide +kernel
theorem k_12 : ∀ k, k < 40 → ((KF.getD 12 []).getD k 9 = 0 → t_12 k = .int ∧ (F_12 k).2.2.2 = false) ∧ ((KF.getD 12 []).getD k 9 = 1 → t_12 k = .long ∧ (F_12 k).2.2.2 = false) ∧ ((KF.getD 12 []).getD k 9 = 3 → t_12 k = .boolean ∧ (F_12 k).2.2.2 = false) := by decide +kernel
theorem i_12 : ∀ w ∈ u_ws R_12 F_12 40, w ∈ LT := by
  intro w hw
  obtain ⟨k, hk, rfl⟩ := List.mem_map.mp hw
  have hk := List.mem_range.mp hk
  match k, hk with
  | 0, _ => exact mG (List.mem_append_right _ (List.mem_append_right _ (List.mem_append_right _ (List.mem_append_right _ (List.mem_append_right _ (List.mem_append_left _ (List.mem_of_getElem? (l := tables_1_5) (i := 150) rfl))))))) rfl
  | 1, _ => exact mG (List.mem_append_right _ (List.mem_append_right _ (List.mem_append_right _ (List.mem_append_right _ (List.mem_append_right _ (List.mem_append_left _ (List.mem_of_getElem? (l := tables_1_5) (i := 152) rfl))))))) rfl
  | 2, _ => exact mG (List.mem_append_right _ (List.mem_append_right _ (List.mem_append_right _ (List.mem_append_right _ (List.mem_append_right _ (List.mem_append_left _ (List.mem_of_getElem? (l := tables_1_5) (i := 154) rfl))))))) rfl
  | 3, _ => exact mG (List.mem_append_right _ (List.mem_append_right _ (List.mem_append_right _ (List.mem_append_right _ (List.mem_append_right _ (List.mem_append_left _ (List.mem_of_getElem? (l := tables_1_5) (i := 156) rfl))))))) rfl
  | 4, _ => exact mG (List.mem_append_right _ (List.mem_append_right _ (List.mem_append_right _ (List.mem_append_right _ (List.mem_append_right _ (List.mem_append_left _ (List.mem_of_getElem? (l := tables_1_5) (i := 158) rfl))))))) rfl
  | 5, _ => exact mG (List.mem_append_right _ (List.mem_append_right _ (List.mem_append_right _ (List.mem_append_right _ (List.mem_append_right _ (List.mem_append_left _ (List.mem_of_getElem? (l := tables_1_5) (i := 160) rfl))))))) rfl
  | 6, _ => exact mG (List.mem_append_right _ (List.mem_append_right _ (List.mem_append_right _ (List.mem_append_right _ (List.mem_append_right _ (List.mem_append_left _ (List.mem_of_getElem? (l := tables_1_5) (i := 162) rfl))))))) rfl
  | 7, _ => exact mG (List.mem_append_right _ (List.mem_append_right _ (List.mem_append_right _ (List.mem_append_right _ (List.mem_append_right _ (List.mem_append_left _ (List.mem_of_getElem? (l := tables_1_5) (i := 164) rfl))))))) rfl
  | 8, _ => exact mG (List.mem_append_right _ (List.mem_append_right _ (List.mem_append_right _ (List.mem_append_right _ (List.mem_append_right _ (List.mem_append_left _ (List.mem_of_getElem? (l := tables_1_5) (i := 166) rfl))))))) rfl
  | 9, _ => exact mG (List.mem_append_right _ (List.mem_append_right _ (List.mem_append_right _ (List.mem_append_right _ (List.mem_append_right _ (List.mem_append_left _ (List.mem_of_getElem? (l := tables_1_5) (i := 168) rfl))))))) rfl
  | 10, _ => exact mG (List.mem_append_right _ (List.mem_append_right _ (List.mem_append_right _ (List.mem_append_right _ (List.mem_append_right _ (List.mem_append_left _ (List.mem_of_getElem? (l := tables_1_5) (i := 170) rfl))))))) rfl
  | 11, _ => exact mG (List.mem_append_right _ (List.mem_append_right _ (List.mem_append_right _ (List.mem_append_right _ (List.mem_append_right _ (List.mem_append_left _ (List.mem_of_getElem? (l := tables_1_5) (i := 172) rfl))))))) rfl
  | 12, _ => exact mG (List.mem_append_right _ (List.mem_append_right _ (List.mem_append_right _ (List.mem_append_right _ (List.mem_append_right _ (List.mem_append_left _ (List.mem_of_getElem? (l := tables_1_5) (i := 174) rfl))))))) rfl
  | 13, _ => exact mG (List.mem_append_right _ (List.mem_append_right _ (List.mem_append_right _ (List.mem_append_right _ (List.mem_append_right _ (List.mem_append_left _ (List.mem_of_getElem? (l := tables_1_5) (i := 176) rfl))))))) rfl
  | 14, _ => exact mG (List.mem_append_right _ (List.mem_append_right _ (List.mem_append_right _ (List.mem_append_right _ (List.mem_append_right _ (List.mem_append_left _ (List.mem_of_getElem? (l := tables_1_5) (i := 178) rfl))))))) rfl
  | 15, _ => exact mG (List.mem_append_right _ (List.mem_append_right _ (List.mem_append_right _ (List.mem_append_right _ (List.mem_append_right _ (List.mem_append_left _ (List.mem_of_getElem? (l := tables_1_5) (i := 180) rfl))))))) rfl
  | 16, _ => exact mG (List.mem_append_right _ (List.mem_append_right _ (List.mem_append_right _ (List.mem_append_right _ (List.mem_append_right _ (List.mem_append_left _ (List.mem_of_getElem? (l := tables_1_5) (i := 182) rfl))))))) rfl
  | 17, _ => exact mG (List.mem_append_right _ (List.mem_append_right _ (List.mem_append_right _ (List.mem_append_right _ (List.mem_append_right _ (List.mem_append_left _ (List.mem_of_getElem? (l := tables_1_5) (i := 184) rfl))))))) rfl
  | 18, _ => exact mG (List.mem_append_right _ (List.mem_append_right _ (List.mem_append_right _ (List.mem_append_right _ (List.mem_append_right _ (List.mem_append_left _ (List.mem_of_getElem? (l := tables_1_5) (i := 186) rfl))))))) rfl
  | 19, _ => exact mG (List.mem_append_right _ (List.mem_append_right _ (List.mem_append_right _ (List.mem_append_right _ (List.mem_append_right _ (List.mem_append_left _ (List.mem_of_getElem? (l := tables_1_5) (i := 188) rfl))))))) rfl
  | 20, _ => exact mG (List.mem_append_right _ (List.mem_append_right _ (List.mem_append_right _ (List.mem_append_right _ (List.mem_append_right _ (List.mem_append_left _ (List.mem_of_getElem? (l := tables_1_5) (i := 190) rfl))))))) rfl
  | 21, _ => exact mG (List.mem_append_right _ (List.mem_append_right _ (List.mem_append_right _ (List.mem_append_right _ (List.mem_append_right _ (List.mem_append_left _ (List.mem_of_getElem? (l := tables_1_5) (i := 192) rfl))))))) rfl
  | 22, _ => exact mG (List.mem_append_right _ (List.mem_append_right _ (List.mem_append_right _ (List.mem_append_right _ (List.mem_append_right _ (List.mem_append_left _ (List.mem_of_getElem? (l := tables_1_5) (i := 194) rfl))))))) rfl
  | 23, _ => exact mG (List.mem_append_right _ (List.mem_append_right _ (List.mem_append_right _ (List.mem_append_right _ (List.mem_append_right _ (List.mem_append_left _ (List.mem_of_getElem? (l := tables_1_5) (i := 196) rfl))))))) rfl
  | 24, _ => exact mG (List.mem_append_right _ (List.mem_append_right _ (List.mem_append_right _ (List.mem_append_right _ (List.mem_append_right _ (List.mem_append_left _ (List.mem_of_getElem? (l := tables_1_5) (i := 198) rfl))))))) rfl
  | 25, _ => exact mG (List.mem_append_right _ (List.mem_append_right _ (List.mem_append_right _ (List.mem_append_right _ (List.mem_append_right _ (List.mem_append_left _ (List.mem_of_getElem? (l := tables_1_5) (i := 200) rfl))))))) rfl
  | 26, _ => exact mG (List.mem_append_right _ (List.mem_append_right _ (List.mem_append_right _ (List.mem_append_right _ (List.mem_append_right _ (List.mem_append_left _ (List.mem_of_getElem? (l := tables_1_5) (i := 202) rfl))))))) rfl
  | 27, _ => exact mG (List.mem_append_right _ (List.mem_append_right _ (List.mem_append_right _ (List.mem_append_right _ (List.mem_append_right _ (List.mem_append_left _ (List.mem_of_getElem? (l := tables_1_5) (i := 204) rfl))))))) rfl
  | 28, _ => exact mG (List.mem_append_right _ (List.mem_append_right _ (List.mem_append_right _ (List.mem_append_right _ (List.mem_append_right _ (List.mem_append_left _ (List.mem_of_getElem? (l := tables_1_5) (i := 206) rfl))))))) rfl
  | 29, _ => exact mG (List.mem_append_right _ (List.mem_append_right _ (List.mem_append_right _ (List.mem_append_right _ (List.mem_append_right _ (List.mem_append_left _ (List.mem_of_getElem? (l := tables_1_5) (i := 208) rfl))))))) rfl
  | 30, _ => exact mG (List.mem_append_right _ (List.mem_append_right _ (List.mem_append_right _ (List.mem_append_right _ (List.mem_append_right _ (List.mem_append_left _ (List.mem_of_getElem? (l := tables_1_5) (i := 210) rfl))))))) rfl
  | 31, _ => exact mG (List.mem_append_right _ (List.mem_append_right _ (List.mem_append_right _ (List.mem_append_right _ (List.mem_append_right _ (List.mem_append_left _ (List.mem_of_getElem? (l := tables_1_5) (i := 212) rfl))))))) rfl
  | 32, _ => exact mG (List.mem_append_right _ (List.mem_append_right _ (List.mem_append_right _ (List.mem_append_right _ (List.mem_append_right _ (List.mem_append_left _ (List.mem_of_getElem? (l := tables_1_5) (i := 214) rfl))))))) rfl
  | 33, _ => exact mG (List.mem_append_right _ (List.mem_append_right _ (List.mem_append_right _ (List.mem_append_right _ (List.mem_append_right _ (List.mem_append_left _ (List.mem_of_getElem? (l := tables_1_5) (i := 216) rfl))))))) rfl
  | 34, _ => exact mG (List.mem_append_right _ (List.mem_append_right _ (List.mem_append_right _ (List.mem_append_right _ (List.mem_append_right _ (List.mem_append_left _ (List.mem_of_getElem? (l := tables_1_5) (i := 218) rfl))))))) rfl
  | 35, _ => exact mG (List.mem_append_right _ (List.mem_append_right _ (List.mem_append_right _ (List.mem_append_right _ (List.mem_append_right _ (List.mem_append_left _ (List.mem_of_getElem? (l := tables_1_5) (i := 220) rfl))))))) rfl
  | 36, _ => exact mG (List.mem_append_right _ (List.mem_append_right _ (List.mem_append_right _ (List.mem_append_right _ (List.mem_append_right _ (List.mem_append_left _ (List.mem_of_getElem? (l := tables_1_5) (i := 222) rfl))))))) rfl
  | 37, _ => exact mG (List.mem_append_right _ (List.mem_append_right _ (List.mem_append_right _ (List.mem_append_right _ (List.mem_append_right _ (List.mem_append_left _ (List.mem_of_getElem? (l := tables_1_5) (i := 224) rfl))))))) rfl
  | 38, _ => exact mG (List.mem_append_right _ (List.mem_append_right _ (List.mem_append_right _ (List.mem_append_right _ (List.mem_append_right _ (List.mem_append_left _ (List.mem_of_getElem? (l := tables_1_5) (i := 226) rfl))))))) rfl
  | 39, _ => exact mG (List.mem_append_right _ (List.mem_append_right _ (List.mem_append_right _ (List.mem_append_right _ (List.mem_append_right _ (List.mem_append_left _ (List.mem_of_getElem? (l := tables_1_5) (i := 228) rfl))))))) rfl
  | k + 40, h => exact absurd h (by omega)
