/-! names: the classes, their fields in the order of the slots, the words of the tables that stay -/
def TT : List Cond := lw_tbl.filter goodWord
theorem TT_of {w : Cond} (h : w ∈ lw_tbl) (g : goodWord w = true) : w ∈ TT := List.mem_filter.mpr ⟨h, g⟩
theorem TT_t {w : Cond} (h : w ∈ tables_1) (g : goodWord w = true) : w ∈ TT := TT_of (List.mem_append_right _ h) g
def isNest : Cond → Bool
  | .methodLinkNest .. => true
  | .fieldLinkNest .. => true
  | _ => false
def NN : List Cond := tables_1.filter isNest
def cn : Nat → String := fun k => ["TouchMap$Chooser", "TouchMap$Keeper", "TouchMap$Layer", "TouchMap$Line", "TouchMap$Name", "TouchMap$Ruler", "TouchMap$Setter", "TouchMap$Speller", "TouchMap$Way", "TouchMap$Word", "TouchMap", "TouchMapModel", "TouchMapLaw", "java/lang/Integer", "java/lang/Long", "java/lang/Math"].getD k ""
def F_Chooser : u_T := fun k => match k with
  | 0 => ("TouchMap$Chooser", "items", "I", true)
  | 1 => ("TouchMap$Chooser", "options", "I", true)
  | 2 => ("TouchMap$Chooser", "clashes", "[I", true)
  | 3 => ("TouchMap$Chooser", "gains", "[I", true)
  | 4 => ("TouchMap$Chooser", "bounds", "[I", true)
  | 5 => ("TouchMap$Chooser", "trial", "[I", true)
  | 6 => ("TouchMap$Chooser", "chosen", "[I", true)
  | _ => ("TouchMap$Chooser", "best", "I", false)
def t_Chooser : Nat → FieldType := fun k => match k with
  | 0 => .int
  | 1 => .int
  | 2 => (.array .int)
  | 3 => (.array .int)
  | 4 => (.array .int)
  | 5 => (.array .int)
  | 6 => (.array .int)
  | _ => .int
theorem n_Chooser : ∀ a, a < 8 → ∀ b, b < 8 → a ≠ b → (F_Chooser a).2.1 ≠ (F_Chooser b).2.1 := by decide +kernel
theorem t_Chooser_ok : ∀ k, k < 8 → parseFieldDescriptor (F_Chooser k).2.2.1 = some (t_Chooser k) := by decide +kernel
theorem i_Chooser0 : ∀ w ∈ u_ws "TouchMap$Chooser" F_Chooser 8, w ∈ tables_1 := by decide +kernel
theorem i_Chooser1 : ∀ w ∈ u_ws "TouchMap$Chooser" F_Chooser 8, goodWord w = true := by decide +kernel
theorem i_Chooser : ∀ w ∈ u_ws "TouchMap$Chooser" F_Chooser 8, w ∈ TT := fun w h => TT_t (i_Chooser0 w h) (i_Chooser1 w h)
def F_Keeper : u_T := fun k => match k with
  | 0 => ("TouchMap$Keeper", "chooser", "LTouchMap$Chooser;", true)
  | _ => ("TouchMap$Keeper", "hasFound", "Z", false)
def t_Keeper : Nat → FieldType := fun k => match k with
  | 0 => (.object "TouchMap$Chooser")
  | _ => .boolean
theorem n_Keeper : ∀ a, a < 2 → ∀ b, b < 2 → a ≠ b → (F_Keeper a).2.1 ≠ (F_Keeper b).2.1 := by decide +kernel
theorem t_Keeper_ok : ∀ k, k < 2 → parseFieldDescriptor (F_Keeper k).2.2.1 = some (t_Keeper k) := by decide +kernel
theorem i_Keeper0 : ∀ w ∈ u_ws "TouchMap$Keeper" F_Keeper 2, w ∈ tables_1 := by decide +kernel
theorem i_Keeper1 : ∀ w ∈ u_ws "TouchMap$Keeper" F_Keeper 2, goodWord w = true := by decide +kernel
theorem i_Keeper : ∀ w ∈ u_ws "TouchMap$Keeper" F_Keeper 2, w ∈ TT := fun w h => TT_t (i_Keeper0 w h) (i_Keeper1 w h)
def F_Layer : u_T := fun k => match k with
  | 0 => ("TouchMap$Layer", "touching", "[I", true)
  | 1 => ("TouchMap$Layer", "unlike", "[I", true)
  | 2 => ("TouchMap$Layer", "trial", "[I", true)
  | 3 => ("TouchMap$Layer", "best", "[I", true)
  | 4 => ("TouchMap$Layer", "dead", "[J", true)
  | _ => ("TouchMap$Layer", "laid", "I", false)
def t_Layer : Nat → FieldType := fun k => match k with
  | 0 => (.array .int)
  | 1 => (.array .int)
  | 2 => (.array .int)
  | 3 => (.array .int)
  | 4 => (.array .long)
  | _ => .int
theorem n_Layer : ∀ a, a < 6 → ∀ b, b < 6 → a ≠ b → (F_Layer a).2.1 ≠ (F_Layer b).2.1 := by decide +kernel
theorem t_Layer_ok : ∀ k, k < 6 → parseFieldDescriptor (F_Layer k).2.2.1 = some (t_Layer k) := by decide +kernel
theorem i_Layer0 : ∀ w ∈ u_ws "TouchMap$Layer" F_Layer 6, w ∈ tables_1 := by decide +kernel
theorem i_Layer1 : ∀ w ∈ u_ws "TouchMap$Layer" F_Layer 6, goodWord w = true := by decide +kernel
theorem i_Layer : ∀ w ∈ u_ws "TouchMap$Layer" F_Layer 6, w ∈ TT := fun w h => TT_t (i_Layer0 w h) (i_Layer1 w h)
def F_Line : u_T := fun k => match k with
  | 0 => ("TouchMap$Line", "x1", "I", false)
  | 1 => ("TouchMap$Line", "y1", "I", false)
  | 2 => ("TouchMap$Line", "x2", "I", false)
  | _ => ("TouchMap$Line", "y2", "I", false)
def t_Line : Nat → FieldType := fun k => match k with
  | 0 => .int
  | 1 => .int
  | 2 => .int
  | _ => .int
theorem n_Line : ∀ a, a < 4 → ∀ b, b < 4 → a ≠ b → (F_Line a).2.1 ≠ (F_Line b).2.1 := by decide +kernel
theorem t_Line_ok : ∀ k, k < 4 → parseFieldDescriptor (F_Line k).2.2.1 = some (t_Line k) := by decide +kernel
theorem i_Line0 : ∀ w ∈ u_ws "TouchMap$Line" F_Line 4, w ∈ tables_1 := by decide +kernel
theorem i_Line1 : ∀ w ∈ u_ws "TouchMap$Line" F_Line 4, goodWord w = true := by decide +kernel
theorem i_Line : ∀ w ∈ u_ws "TouchMap$Line" F_Line 4, w ∈ TT := fun w h => TT_t (i_Line0 w h) (i_Line1 w h)
def F_Name : u_T := fun k => match k with
  | 0 => ("TouchMap$Name", "word", "LTouchMap$Word;", true)
  | 1 => ("TouchMap$Name", "x", "I", false)
  | 2 => ("TouchMap$Name", "y", "I", false)
  | 3 => ("TouchMap$Name", "worth", "I", false)
  | _ => ("TouchMap$Name", "isThere", "Z", false)
def t_Name : Nat → FieldType := fun k => match k with
  | 0 => (.object "TouchMap$Word")
  | 1 => .int
  | 2 => .int
  | 3 => .int
  | _ => .boolean
theorem n_Name : ∀ a, a < 5 → ∀ b, b < 5 → a ≠ b → (F_Name a).2.1 ≠ (F_Name b).2.1 := by decide +kernel
theorem t_Name_ok : ∀ k, k < 5 → parseFieldDescriptor (F_Name k).2.2.1 = some (t_Name k) := by decide +kernel
theorem i_Name0 : ∀ w ∈ u_ws "TouchMap$Name" F_Name 5, w ∈ tables_1 := by decide +kernel
theorem i_Name1 : ∀ w ∈ u_ws "TouchMap$Name" F_Name 5, goodWord w = true := by decide +kernel
theorem i_Name : ∀ w ∈ u_ws "TouchMap$Name" F_Name 5, w ∈ TT := fun w h => TT_t (i_Name0 w h) (i_Name1 w h)
def F_Ruler : u_T := fun k => match k with
  | 0 => ("TouchMap$Ruler", "one", "LTouchMap$Line;", true)
  | 1 => ("TouchMap$Ruler", "other", "LTouchMap$Line;", true)
  | 2 => ("TouchMap$Ruler", "least", "[I", true)
  | _ => ("TouchMap$Ruler", "next", "[I", true)
def t_Ruler : Nat → FieldType := fun k => match k with
  | 0 => (.object "TouchMap$Line")
  | 1 => (.object "TouchMap$Line")
  | 2 => (.array .int)
  | _ => (.array .int)
theorem n_Ruler : ∀ a, a < 4 → ∀ b, b < 4 → a ≠ b → (F_Ruler a).2.1 ≠ (F_Ruler b).2.1 := by decide +kernel
theorem t_Ruler_ok : ∀ k, k < 4 → parseFieldDescriptor (F_Ruler k).2.2.1 = some (t_Ruler k) := by decide +kernel
theorem i_Ruler0 : ∀ w ∈ u_ws "TouchMap$Ruler" F_Ruler 4, w ∈ tables_1 := by decide +kernel
theorem i_Ruler1 : ∀ w ∈ u_ws "TouchMap$Ruler" F_Ruler 4, goodWord w = true := by decide +kernel
theorem i_Ruler : ∀ w ∈ u_ws "TouchMap$Ruler" F_Ruler 4, w ∈ TT := fun w h => TT_t (i_Ruler0 w h) (i_Ruler1 w h)
def F_Setter : u_T := fun k => match k with
  | 0 => ("TouchMap$Setter", "chooser", "LTouchMap$Chooser;", true)
  | 1 => ("TouchMap$Setter", "line", "LTouchMap$Line;", true)
  | 2 => ("TouchMap$Setter", "lefts", "[I", true)
  | 3 => ("TouchMap$Setter", "lows", "[I", true)
  | 4 => ("TouchMap$Setter", "widths", "[I", true)
  | 5 => ("TouchMap$Setter", "spots", "[I", true)
  | _ => ("TouchMap$Setter", "usable", "I", false)
def t_Setter : Nat → FieldType := fun k => match k with
  | 0 => (.object "TouchMap$Chooser")
  | 1 => (.object "TouchMap$Line")
  | 2 => (.array .int)
  | 3 => (.array .int)
  | 4 => (.array .int)
  | 5 => (.array .int)
  | _ => .int
theorem n_Setter : ∀ a, a < 7 → ∀ b, b < 7 → a ≠ b → (F_Setter a).2.1 ≠ (F_Setter b).2.1 := by decide +kernel
theorem t_Setter_ok : ∀ k, k < 7 → parseFieldDescriptor (F_Setter k).2.2.1 = some (t_Setter k) := by decide +kernel
theorem i_Setter0 : ∀ w ∈ u_ws "TouchMap$Setter" F_Setter 7, w ∈ tables_1 := by decide +kernel
theorem i_Setter1 : ∀ w ∈ u_ws "TouchMap$Setter" F_Setter 7, goodWord w = true := by decide +kernel
theorem i_Setter : ∀ w ∈ u_ws "TouchMap$Setter" F_Setter 7, w ∈ TT := fun w h => TT_t (i_Setter0 w h) (i_Setter1 w h)
def F_Speller : u_T := fun k => match k with
  | 0 => ("TouchMap$Speller", "parts", "[LTouchMap$Word;", true)
  | 1 => ("TouchMap$Speller", "partCells", "[I", true)
  | 2 => ("TouchMap$Speller", "least", "[I", true)
  | 3 => ("TouchMap$Speller", "steps", "[I", true)
  | 4 => ("TouchMap$Speller", "firsts", "[I", true)
  | _ => ("TouchMap$Speller", "cells", "[I", true)
def t_Speller : Nat → FieldType := fun k => match k with
  | 0 => (.array (.object "TouchMap$Word"))
  | 1 => (.array .int)
  | 2 => (.array .int)
  | 3 => (.array .int)
  | 4 => (.array .int)
  | _ => (.array .int)
theorem n_Speller : ∀ a, a < 6 → ∀ b, b < 6 → a ≠ b → (F_Speller a).2.1 ≠ (F_Speller b).2.1 := by decide +kernel
theorem t_Speller_ok : ∀ k, k < 6 → parseFieldDescriptor (F_Speller k).2.2.1 = some (t_Speller k) := by decide +kernel
theorem i_Speller0 : ∀ w ∈ u_ws "TouchMap$Speller" F_Speller 6, w ∈ tables_1 := by decide +kernel
theorem i_Speller1 : ∀ w ∈ u_ws "TouchMap$Speller" F_Speller 6, goodWord w = true := by decide +kernel
theorem i_Speller : ∀ w ∈ u_ws "TouchMap$Speller" F_Speller 6, w ∈ TT := fun w h => TT_t (i_Speller0 w h) (i_Speller1 w h)
def F_Way : u_T := fun k => match k with
  | 0 => ("TouchMap$Way", "xs", "[I", true)
  | 1 => ("TouchMap$Way", "ys", "[I", true)
  | 2 => ("TouchMap$Way", "numbers", "[I", true)
  | 3 => ("TouchMap$Way", "count", "I", false)
  | 4 => ("TouchMap$Way", "shown", "I", false)
  | 5 => ("TouchMap$Way", "worth", "I", false)
  | 6 => ("TouchMap$Way", "isDanger", "Z", false)
  | _ => ("TouchMap$Way", "isBegun", "Z", false)
def t_Way : Nat → FieldType := fun k => match k with
  | 0 => (.array .int)
  | 1 => (.array .int)
  | 2 => (.array .int)
  | 3 => .int
  | 4 => .int
  | 5 => .int
  | 6 => .boolean
  | _ => .boolean
theorem n_Way : ∀ a, a < 8 → ∀ b, b < 8 → a ≠ b → (F_Way a).2.1 ≠ (F_Way b).2.1 := by decide +kernel
theorem t_Way_ok : ∀ k, k < 8 → parseFieldDescriptor (F_Way k).2.2.1 = some (t_Way k) := by decide +kernel
theorem i_Way0 : ∀ w ∈ u_ws "TouchMap$Way" F_Way 8, w ∈ tables_1 := by decide +kernel
theorem i_Way1 : ∀ w ∈ u_ws "TouchMap$Way" F_Way 8, goodWord w = true := by decide +kernel
theorem i_Way : ∀ w ∈ u_ws "TouchMap$Way" F_Way 8, w ∈ TT := fun w h => TT_t (i_Way0 w h) (i_Way1 w h)
def F_Word : u_T := fun k => match k with
  | 0 => ("TouchMap$Word", "letters", "[I", true)
  | _ => ("TouchMap$Word", "length", "I", false)
def t_Word : Nat → FieldType := fun k => match k with
  | 0 => (.array .int)
  | _ => .int
theorem n_Word : ∀ a, a < 2 → ∀ b, b < 2 → a ≠ b → (F_Word a).2.1 ≠ (F_Word b).2.1 := by decide +kernel
theorem t_Word_ok : ∀ k, k < 2 → parseFieldDescriptor (F_Word k).2.2.1 = some (t_Word k) := by decide +kernel
theorem i_Word0 : ∀ w ∈ u_ws "TouchMap$Word" F_Word 2, w ∈ tables_1 := by decide +kernel
theorem i_Word1 : ∀ w ∈ u_ws "TouchMap$Word" F_Word 2, goodWord w = true := by decide +kernel
theorem i_Word : ∀ w ∈ u_ws "TouchMap$Word" F_Word 2, w ∈ TT := fun w h => TT_t (i_Word0 w h) (i_Word1 w h)
def F_TM : u_T := fun k => match k with
  | 0 => ("TouchMap", "ways", "[LTouchMap$Way;", true)
  | 1 => ("TouchMap", "ruler", "LTouchMap$Ruler;", true)
  | 2 => ("TouchMap", "keeper", "LTouchMap$Keeper;", true)
  | 3 => ("TouchMap", "tape", "LTouchMap$Word;", true)
  | 4 => ("TouchMap", "speller", "LTouchMap$Speller;", true)
  | 5 => ("TouchMap", "names", "[LTouchMap$Name;", true)
  | 6 => ("TouchMap", "setter", "LTouchMap$Setter;", true)
  | 7 => ("TouchMap", "layer", "LTouchMap$Layer;", true)
  | _ => ("TouchMap", "leastGap", "I", false)
def t_TM : Nat → FieldType := fun k => match k with
  | 0 => (.array (.object "TouchMap$Way"))
  | 1 => (.object "TouchMap$Ruler")
  | 2 => (.object "TouchMap$Keeper")
  | 3 => (.object "TouchMap$Word")
  | 4 => (.object "TouchMap$Speller")
  | 5 => (.array (.object "TouchMap$Name"))
  | 6 => (.object "TouchMap$Setter")
  | 7 => (.object "TouchMap$Layer")
  | _ => .int
theorem n_TM : ∀ a, a < 9 → ∀ b, b < 9 → a ≠ b → (F_TM a).2.1 ≠ (F_TM b).2.1 := by decide +kernel
theorem t_TM_ok : ∀ k, k < 9 → parseFieldDescriptor (F_TM k).2.2.1 = some (t_TM k) := by decide +kernel
theorem i_TM0 : ∀ w ∈ u_ws "TouchMap" F_TM 9, w ∈ tables_1 := by decide +kernel
theorem i_TM1 : ∀ w ∈ u_ws "TouchMap" F_TM 9, goodWord w = true := by decide +kernel
theorem i_TM : ∀ w ∈ u_ws "TouchMap" F_TM 9, w ∈ TT := fun w h => TT_t (i_TM0 w h) (i_TM1 w h)
def F_MD : u_T := fun k => match k with
  | 0 => ("TouchMapModel", "isBegun", "[Z", true)
  | 1 => ("TouchMapModel", "worth", "[I", true)
  | 2 => ("TouchMapModel", "isDanger", "[Z", true)
  | 3 => ("TouchMapModel", "points", "[I", true)
  | 4 => ("TouchMapModel", "pointX", "[I", true)
  | 5 => ("TouchMapModel", "pointY", "[I", true)
  | 6 => ("TouchMapModel", "drawnMany", "[I", true)
  | 7 => ("TouchMapModel", "drawnBy", "[I", true)
  | 8 => ("TouchMapModel", "fewest", "[I", true)
  | 9 => ("TouchMapModel", "gap", "I", false)
  | 10 => ("TouchMapModel", "keptBits", "I", false)
  | 11 => ("TouchMapModel", "hasKept", "Z", false)
  | 12 => ("TouchMapModel", "nearBits", "[I", true)
  | 13 => ("TouchMapModel", "dots", "[I", true)
  | 14 => ("TouchMapModel", "tape", "[I", true)
  | 15 => ("TouchMapModel", "taped", "I", false)
  | 16 => ("TouchMapModel", "shortMany", "[I", true)
  | 17 => ("TouchMapModel", "shortLetter", "[I", true)
  | 18 => ("TouchMapModel", "shortCell", "[I", true)
  | 19 => ("TouchMapModel", "nameMany", "[I", true)
  | 20 => ("TouchMapModel", "nameLetter", "[I", true)
  | 21 => ("TouchMapModel", "nameX", "[I", true)
  | 22 => ("TouchMapModel", "nameY", "[I", true)
  | 23 => ("TouchMapModel", "nameWorth", "[I", true)
  | 24 => ("TouchMapModel", "cells", "[I", true)
  | 25 => ("TouchMapModel", "cellOf", "[I", true)
  | 26 => ("TouchMapModel", "boxX", "[I", true)
  | 27 => ("TouchMapModel", "boxY", "[I", true)
  | 28 => ("TouchMapModel", "boxWide", "[I", true)
  | 29 => ("TouchMapModel", "mayStand", "[Z", true)
  | 30 => ("TouchMapModel", "lap", "[Z", true)
  | 31 => ("TouchMapModel", "spotNow", "[I", true)
  | 32 => ("TouchMapModel", "spotFound", "[I", true)
  | 33 => ("TouchMapModel", "touches", "[Z", true)
  | 34 => ("TouchMapModel", "isApart", "[Z", true)
  | 35 => ("TouchMapModel", "laid", "I", false)
  | 36 => ("TouchMapModel", "now", "[I", true)
  | _ => ("TouchMapModel", "found", "[I", true)
def t_MD : Nat → FieldType := fun k => match k with
  | 0 => (.array .boolean)
  | 1 => (.array .int)
  | 2 => (.array .boolean)
  | 3 => (.array .int)
  | 4 => (.array .int)
  | 5 => (.array .int)
  | 6 => (.array .int)
  | 7 => (.array .int)
  | 8 => (.array .int)
  | 9 => .int
  | 10 => .int
  | 11 => .boolean
  | 12 => (.array .int)
  | 13 => (.array .int)
  | 14 => (.array .int)
  | 15 => .int
  | 16 => (.array .int)
  | 17 => (.array .int)
  | 18 => (.array .int)
  | 19 => (.array .int)
  | 20 => (.array .int)
  | 21 => (.array .int)
  | 22 => (.array .int)
  | 23 => (.array .int)
  | 24 => (.array .int)
  | 25 => (.array .int)
  | 26 => (.array .int)
  | 27 => (.array .int)
  | 28 => (.array .int)
  | 29 => (.array .boolean)
  | 30 => (.array .boolean)
  | 31 => (.array .int)
  | 32 => (.array .int)
  | 33 => (.array .boolean)
  | 34 => (.array .boolean)
  | 35 => .int
  | 36 => (.array .int)
  | _ => (.array .int)
theorem n_MD : ∀ a, a < 38 → ∀ b, b < 38 → a ≠ b → (F_MD a).2.1 ≠ (F_MD b).2.1 := by decide +kernel
theorem t_MD_ok : ∀ k, k < 38 → parseFieldDescriptor (F_MD k).2.2.1 = some (t_MD k) := by decide +kernel
theorem i_MD0 : ∀ w ∈ u_ws "TouchMapModel" F_MD 38, w ∈ tables_1 := by decide +kernel
theorem i_MD1 : ∀ w ∈ u_ws "TouchMapModel" F_MD 38, goodWord w = true := by decide +kernel
theorem i_MD : ∀ w ∈ u_ws "TouchMapModel" F_MD 38, w ∈ TT := fun w h => TT_t (i_MD0 w h) (i_MD1 w h)
def classes : List vw_C := [("TouchMap$Chooser", F_Chooser, 8), ("TouchMap$Keeper", F_Keeper, 2), ("TouchMap$Layer", F_Layer, 6), ("TouchMap$Line", F_Line, 4), ("TouchMap$Name", F_Name, 5), ("TouchMap$Ruler", F_Ruler, 4), ("TouchMap$Setter", F_Setter, 7), ("TouchMap$Speller", F_Speller, 6), ("TouchMap$Way", F_Way, 8), ("TouchMap$Word", F_Word, 2), ("TouchMap", F_TM, 9), ("TouchMapModel", F_MD, 38)]
/-- the fields' types of a class, by its number -/
def tyOf : Nat → Nat → FieldType := fun c => match c with
  | 0 => t_Chooser
  | 1 => t_Keeper
  | 2 => t_Layer
  | 3 => t_Line
  | 4 => t_Name
  | 5 => t_Ruler
  | 6 => t_Setter
  | 7 => t_Speller
  | 8 => t_Way
  | 9 => t_Word
  | 10 => t_TM
  | _ => t_MD
