def RX0 : String := "SillHours$Page"
def TX0 : u_T := fun k => match k with
  | 0 => ("SillHours$Page", "letters", "[C", true)
  | _ => ("SillHours$Page", "size", "I", false)
def tyX0 : Nat → FieldType := fun k => match k with
  | 0 => .array .char
  | _ => .int
theorem nmX0 : ∀ a, a < 2 → ∀ b, b < 2 → a ≠ b → (TX0 a).2.1 ≠ (TX0 b).2.1 := by decide +kernel
theorem tyX0_ok : ∀ k, k < 2 → parseFieldDescriptor (TX0 k).2.2.1 = some (tyX0 k) := by decide +kernel
def RX1 : String := "SillHours$Planner"
def TX1 : u_T := fun k => match k with
  | 0 => ("SillHours$Planner", "windows", "LSillHours$Windows;", true)
  | 1 => ("SillHours$Planner", "deep", "LSillHours$Spans;", true)
  | 2 => ("SillHours$Planner", "stays", "LSillHours$Spans;", true)
  | 3 => ("SillHours$Planner", "arrivals", "LSillHours$Spans;", true)
  | 4 => ("SillHours$Planner", "options", "LSillHours$Spans;", true)
  | 5 => ("SillHours$Planner", "reached", "[LSillHours$Spans;", true)
  | _ => ("SillHours$Planner", "passes", "[I", true)
def tyX1 : Nat → FieldType := fun k => match k with
  | 0 => .object "SillHours$Windows"
  | 1 => .object "SillHours$Spans"
  | 2 => .object "SillHours$Spans"
  | 3 => .object "SillHours$Spans"
  | 4 => .object "SillHours$Spans"
  | 5 => .array (.object "SillHours$Spans")
  | _ => .array .int
theorem nmX1 : ∀ a, a < 7 → ∀ b, b < 7 → a ≠ b → (TX1 a).2.1 ≠ (TX1 b).2.1 := by decide +kernel
theorem tyX1_ok : ∀ k, k < 7 → parseFieldDescriptor (TX1 k).2.2.1 = some (tyX1 k) := by decide +kernel
def RX2 : String := "SillHours$Port"
def TX2 : u_T := fun k => match k with
  | 0 => ("SillHours$Port", "room", "I", true)
  | 1 => ("SillHours$Port", "highs", "[Z", true)
  | 2 => ("SillHours$Port", "minutes", "[I", true)
  | 3 => ("SillHours$Port", "heights", "[I", true)
  | _ => ("SillHours$Port", "size", "I", false)
def tyX2 : Nat → FieldType := fun k => match k with
  | 0 => .int
  | 1 => .array .boolean
  | 2 => .array .int
  | 3 => .array .int
  | _ => .int
theorem nmX2 : ∀ a, a < 5 → ∀ b, b < 5 → a ≠ b → (TX2 a).2.1 ≠ (TX2 b).2.1 := by decide +kernel
theorem tyX2_ok : ∀ k, k < 5 → parseFieldDescriptor (TX2 k).2.2.1 = some (tyX2 k) := by decide +kernel
def RX3 : String := "SillHours$PortDraft"
def TX3 : u_T := fun k => match k with
  | 0 => ("SillHours$PortDraft", "highs", "[Z", true)
  | 1 => ("SillHours$PortDraft", "times", "[I", true)
  | 2 => ("SillHours$PortDraft", "heights", "[I", true)
  | 3 => ("SillHours$PortDraft", "size", "I", false)
  | 4 => ("SillHours$PortDraft", "shiftOfHigh", "LSillHours$Shift;", true)
  | 5 => ("SillHours$PortDraft", "shiftOfLow", "LSillHours$Shift;", true)
  | _ => ("SillHours$PortDraft", "made", "LSillHours$Port;", true)
def tyX3 : Nat → FieldType := fun k => match k with
  | 0 => .array .boolean
  | 1 => .array .int
  | 2 => .array .int
  | 3 => .int
  | 4 => .object "SillHours$Shift"
  | 5 => .object "SillHours$Shift"
  | _ => .object "SillHours$Port"
theorem nmX3 : ∀ a, a < 7 → ∀ b, b < 7 → a ≠ b → (TX3 a).2.1 ≠ (TX3 b).2.1 := by decide +kernel
theorem tyX3_ok : ∀ k, k < 7 → parseFieldDescriptor (TX3 k).2.2.1 = some (tyX3 k) := by decide +kernel
def RX4 : String := "SillHours$Route"
def TX4 : u_T := fun k => match k with
  | 0 => ("SillHours$Route", "room", "I", true)
  | 1 => ("SillHours$Route", "sillRow", "[LSillHours$Sill;", true)
  | 2 => ("SillHours$Route", "numbers", "[I", true)
  | 3 => ("SillHours$Route", "kinds", "[I", true)
  | 4 => ("SillHours$Route", "levels", "[I", true)
  | 5 => ("SillHours$Route", "miles", "[I", true)
  | _ => ("SillHours$Route", "size", "I", false)
def tyX4 : Nat → FieldType := fun k => match k with
  | 0 => .int
  | 1 => .array (.object "SillHours$Sill")
  | 2 => .array .int
  | 3 => .array .int
  | 4 => .array .int
  | 5 => .array .int
  | _ => .int
theorem nmX4 : ∀ a, a < 7 → ∀ b, b < 7 → a ≠ b → (TX4 a).2.1 ≠ (TX4 b).2.1 := by decide +kernel
theorem tyX4_ok : ∀ k, k < 7 → parseFieldDescriptor (TX4 k).2.2.1 = some (tyX4 k) := by decide +kernel
def RX5 : String := "SillHours$Shift"
def TX5 : u_T := fun k => match k with
  | 0 => ("SillHours$Shift", "later", "I", false)
  | 1 => ("SillHours$Shift", "firstHeight", "I", false)
  | 2 => ("SillHours$Shift", "firstStep", "I", false)
  | 3 => ("SillHours$Shift", "otherHeight", "I", false)
  | _ => ("SillHours$Shift", "otherStep", "I", false)
def tyX5 : Nat → FieldType := fun k => match k with
  | 0 => .int
  | 1 => .int
  | 2 => .int
  | 3 => .int
  | _ => .int
theorem nmX5 : ∀ a, a < 5 → ∀ b, b < 5 → a ≠ b → (TX5 a).2.1 ≠ (TX5 b).2.1 := by decide +kernel
theorem tyX5_ok : ∀ k, k < 5 → parseFieldDescriptor (TX5 k).2.2.1 = some (tyX5 k) := by decide +kernel
def RX6 : String := "SillHours$Ship"
def TX6 : u_T := fun k => match k with
  | 0 => ("SillHours$Ship", "draught", "I", false)
  | 1 => ("SillHours$Ship", "mast", "I", false)
  | _ => ("SillHours$Ship", "pace", "I", false)
def tyX6 : Nat → FieldType := fun k => match k with
  | 0 => .int
  | 1 => .int
  | _ => .int
theorem nmX6 : ∀ a, a < 3 → ∀ b, b < 3 → a ≠ b → (TX6 a).2.1 ≠ (TX6 b).2.1 := by decide +kernel
theorem tyX6_ok : ∀ k, k < 3 → parseFieldDescriptor (TX6 k).2.2.1 = some (tyX6 k) := by decide +kernel
def RX7 : String := "SillHours$Sill"
def TX7 : u_T := fun k => match k with
  | 0 => ("SillHours$Sill", "home", "LSillHours$Port;", true)
  | 1 => ("SillHours$Sill", "kind", "I", false)
  | 2 => ("SillHours$Sill", "level", "I", false)
  | 3 => ("SillHours$Sill", "one", "I", false)
  | _ => ("SillHours$Sill", "two", "I", false)
def tyX7 : Nat → FieldType := fun k => match k with
  | 0 => .object "SillHours$Port"
  | 1 => .int
  | 2 => .int
  | 3 => .int
  | _ => .int
theorem nmX7 : ∀ a, a < 5 → ∀ b, b < 5 → a ≠ b → (TX7 a).2.1 ≠ (TX7 b).2.1 := by decide +kernel
theorem tyX7_ok : ∀ k, k < 5 → parseFieldDescriptor (TX7 k).2.2.1 = some (tyX7 k) := by decide +kernel
def RX8 : String := "SillHours$Spans"
def TX8 : u_T := fun k => match k with
  | 0 => ("SillHours$Spans", "room", "I", true)
  | 1 => ("SillHours$Spans", "firsts", "[I", true)
  | 2 => ("SillHours$Spans", "lasts", "[I", true)
  | _ => ("SillHours$Spans", "size", "I", false)
def tyX8 : Nat → FieldType := fun k => match k with
  | 0 => .int
  | 1 => .array .int
  | 2 => .array .int
  | _ => .int
theorem nmX8 : ∀ a, a < 4 → ∀ b, b < 4 → a ≠ b → (TX8 a).2.1 ≠ (TX8 b).2.1 := by decide +kernel
theorem tyX8_ok : ∀ k, k < 4 → parseFieldDescriptor (TX8 k).2.2.1 = some (tyX8 k) := by decide +kernel
def RX9 : String := "SillHours$Tape"
def TX9 : u_T := fun k => match k with
  | 0 => ("SillHours$Tape", "bytes", "[B", true)
  | 1 => ("SillHours$Tape", "size", "I", false)
  | 2 => ("SillHours$Tape", "at", "I", false)
  | _ => ("SillHours$Tape", "wrong", "Z", false)
def tyX9 : Nat → FieldType := fun k => match k with
  | 0 => .array .byte
  | 1 => .int
  | 2 => .int
  | _ => .boolean
theorem nmX9 : ∀ a, a < 4 → ∀ b, b < 4 → a ≠ b → (TX9 a).2.1 ≠ (TX9 b).2.1 := by decide +kernel
theorem tyX9_ok : ∀ k, k < 4 → parseFieldDescriptor (TX9 k).2.2.1 = some (tyX9 k) := by decide +kernel
def RX10 : String := "SillHours$Windows"
def TX10 : u_T := fun k => match k with
  | 0 => ("SillHours$Windows", "found", "LSillHours$Spans;", true)
  | 1 => ("SillHours$Windows", "wet", "LSillHours$Spans;", true)
  | 2 => ("SillHours$Windows", "tended", "LSillHours$Spans;", true)
  | _ => ("SillHours$Windows", "always", "Z", false)
def tyX10 : Nat → FieldType := fun k => match k with
  | 0 => .object "SillHours$Spans"
  | 1 => .object "SillHours$Spans"
  | 2 => .object "SillHours$Spans"
  | _ => .boolean
theorem nmX10 : ∀ a, a < 4 → ∀ b, b < 4 → a ≠ b → (TX10 a).2.1 ≠ (TX10 b).2.1 := by decide +kernel
theorem tyX10_ok : ∀ k, k < 4 → parseFieldDescriptor (TX10 k).2.2.1 = some (tyX10 k) := by decide +kernel
def RX11 : String := "SillHours"
def TX11 : u_T := fun k => match k with
  | 0 => ("SillHours", "tape", "LSillHours$Tape;", true)
  | 1 => ("SillHours", "portDraft", "LSillHours$PortDraft;", true)
  | 2 => ("SillHours", "routeDraft", "LSillHours$Route;", true)
  | 3 => ("SillHours", "ports", "[LSillHours$Port;", true)
  | 4 => ("SillHours", "sills", "[LSillHours$Sill;", true)
  | 5 => ("SillHours", "ships", "[LSillHours$Ship;", true)
  | 6 => ("SillHours", "routes", "[LSillHours$Route;", true)
  | 7 => ("SillHours", "windows", "LSillHours$Windows;", true)
  | 8 => ("SillHours", "stretches", "LSillHours$Spans;", true)
  | 9 => ("SillHours", "planner", "LSillHours$Planner;", true)
  | 10 => ("SillHours", "page", "LSillHours$Page;", true)
  | 11 => ("SillHours", "portCount", "I", false)
  | 12 => ("SillHours", "sillCount", "I", false)
  | 13 => ("SillHours", "shipCount", "I", false)
  | 14 => ("SillHours", "routeCount", "I", false)
  | 15 => ("SillHours", "lastStatus", "I", false)
  | 16 => ("SillHours", "lastPlace", "I", false)
  | _ => ("SillHours", "lastFault", "I", false)
def tyX11 : Nat → FieldType := fun k => match k with
  | 0 => .object "SillHours$Tape"
  | 1 => .object "SillHours$PortDraft"
  | 2 => .object "SillHours$Route"
  | 3 => .array (.object "SillHours$Port")
  | 4 => .array (.object "SillHours$Sill")
  | 5 => .array (.object "SillHours$Ship")
  | 6 => .array (.object "SillHours$Route")
  | 7 => .object "SillHours$Windows"
  | 8 => .object "SillHours$Spans"
  | 9 => .object "SillHours$Planner"
  | 10 => .object "SillHours$Page"
  | 11 => .int
  | 12 => .int
  | 13 => .int
  | 14 => .int
  | 15 => .int
  | 16 => .int
  | _ => .int
theorem nmX11 : ∀ a, a < 18 → ∀ b, b < 18 → a ≠ b → (TX11 a).2.1 ≠ (TX11 b).2.1 := by decide +kernel
theorem tyX11_ok : ∀ k, k < 18 → parseFieldDescriptor (TX11 k).2.2.1 = some (tyX11 k) := by decide +kernel
def RX12 : String := "SillHoursModel"
def TX12 : u_T := fun k => match k with
  | 0 => ("SillHoursModel", "tape", "[I", true)
  | 1 => ("SillHoursModel", "taped", "I", false)
  | 2 => ("SillHoursModel", "status", "I", false)
  | 3 => ("SillHoursModel", "wrongAt", "I", false)
  | 4 => ("SillHoursModel", "faultOf", "I", false)
  | 5 => ("SillHoursModel", "ports", "I", false)
  | 6 => ("SillHoursModel", "turns", "[I", true)
  | 7 => ("SillHoursModel", "minute", "[I", true)
  | 8 => ("SillHoursModel", "height", "[I", true)
  | 9 => ("SillHoursModel", "isHigh", "[Z", true)
  | 10 => ("SillHoursModel", "sills", "I", false)
  | 11 => ("SillHoursModel", "sillPort", "[I", true)
  | 12 => ("SillHoursModel", "sillKind", "[I", true)
  | 13 => ("SillHoursModel", "sillSize", "[I", true)
  | 14 => ("SillHoursModel", "sillOne", "[I", true)
  | 15 => ("SillHoursModel", "sillTwo", "[I", true)
  | 16 => ("SillHoursModel", "ships", "I", false)
  | 17 => ("SillHoursModel", "draught", "[I", true)
  | 18 => ("SillHoursModel", "mast", "[I", true)
  | 19 => ("SillHoursModel", "pace", "[I", true)
  | 20 => ("SillHoursModel", "routes", "I", false)
  | 21 => ("SillHoursModel", "stops", "[I", true)
  | 22 => ("SillHoursModel", "stopSill", "[I", true)
  | 23 => ("SillHoursModel", "stopWait", "[I", true)
  | 24 => ("SillHoursModel", "stopSize", "[I", true)
  | 25 => ("SillHoursModel", "stopMiles", "[I", true)
  | 26 => ("SillHoursModel", "above", "I", false)
  | 27 => ("SillHoursModel", "below", "I", false)
  | 28 => ("SillHoursModel", "isGood", "[Z", true)
  | 29 => ("SillHoursModel", "goodFrom", "I", false)
  | 30 => ("SillHoursModel", "goodTo", "I", false)
  | 31 => ("SillHoursModel", "end", "I", false)
  | 32 => ("SillHoursModel", "windowFrom", "I", false)
  | 33 => ("SillHoursModel", "windowTo", "I", false)
  | 34 => ("SillHoursModel", "good", "[[Z", true)
  | 35 => ("SillHoursModel", "floats", "[[Z", true)
  | 36 => ("SillHoursModel", "marks", "[[Z", true)
  | 37 => ("SillHoursModel", "passes", "[I", true)
  | 38 => ("SillHoursModel", "written", "[I", true)
  | 39 => ("SillHoursModel", "writes", "I", false)
  | 40 => ("SillHoursModel", "ahead", "[I", true)
  | 41 => ("SillHoursModel", "at", "I", false)
  | 42 => ("SillHoursModel", "begin", "I", false)
  | 43 => ("SillHoursModel", "token", "I", false)
  | 44 => ("SillHoursModel", "value", "I", false)
  | 45 => ("SillHoursModel", "fits", "Z", false)
  | 46 => ("SillHoursModel", "told", "I", false)
  | 47 => ("SillHoursModel", "toldHigh", "[Z", true)
  | 48 => ("SillHoursModel", "toldTime", "[I", true)
  | 49 => ("SillHoursModel", "toldHeight", "[I", true)
  | 50 => ("SillHoursModel", "toldMinute", "[I", true)
  | 51 => ("SillHoursModel", "shift", "[I", true)
  | 52 => ("SillHoursModel", "toldSill", "[I", true)
  | 53 => ("SillHoursModel", "toldWait", "[I", true)
  | 54 => ("SillHoursModel", "toldSize", "[I", true)
  | _ => ("SillHoursModel", "toldMiles", "[I", true)
def tyX12 : Nat → FieldType := fun k => match k with
  | 0 => .array .int
  | 1 => .int
  | 2 => .int
  | 3 => .int
  | 4 => .int
  | 5 => .int
  | 6 => .array .int
  | 7 => .array .int
  | 8 => .array .int
  | 9 => .array .boolean
  | 10 => .int
  | 11 => .array .int
  | 12 => .array .int
  | 13 => .array .int
  | 14 => .array .int
  | 15 => .array .int
  | 16 => .int
  | 17 => .array .int
  | 18 => .array .int
  | 19 => .array .int
  | 20 => .int
  | 21 => .array .int
  | 22 => .array .int
  | 23 => .array .int
  | 24 => .array .int
  | 25 => .array .int
  | 26 => .int
  | 27 => .int
  | 28 => .array .boolean
  | 29 => .int
  | 30 => .int
  | 31 => .int
  | 32 => .int
  | 33 => .int
  | 34 => .array (.array .boolean)
  | 35 => .array (.array .boolean)
  | 36 => .array (.array .boolean)
  | 37 => .array .int
  | 38 => .array .int
  | 39 => .int
  | 40 => .array .int
  | 41 => .int
  | 42 => .int
  | 43 => .int
  | 44 => .int
  | 45 => .boolean
  | 46 => .int
  | 47 => .array .boolean
  | 48 => .array .int
  | 49 => .array .int
  | 50 => .array .int
  | 51 => .array .int
  | 52 => .array .int
  | 53 => .array .int
  | 54 => .array .int
  | _ => .array .int
theorem nmX12 : ∀ a, a < 56 → ∀ b, b < 56 → a ≠ b → (TX12 a).2.1 ≠ (TX12 b).2.1 := by decide +kernel
theorem tyX12_ok : ∀ k, k < 56 → parseFieldDescriptor (TX12 k).2.2.1 = some (tyX12 k) := by decide +kernel
abbrev vwCl : List vw_C := [(RX0, TX0, 2), (RX1, TX1, 7), (RX2, TX2, 5), (RX3, TX3, 7), (RX4, TX4, 7), (RX5, TX5, 5), (RX6, TX6, 3), (RX7, TX7, 5), (RX8, TX8, 4), (RX9, TX9, 4), (RX10, TX10, 4), (RX11, TX11, 18), (RX12, TX12, 56)]
theorem am_places {big : List Cond} (ws : List Cond) (ps : List Nat) (hp : ws = ps.filterMap (fun i => big[i]?)) : ∀ w ∈ ws, w ∈ big := by
  intro w hw
  rw [hp] at hw
  obtain ⟨i, -, hi⟩ := List.mem_filterMap.mp hw
  exact List.mem_of_getElem? hi
set_option maxRecDepth 100000 in
theorem inX0 : ∀ w ∈ u_ws RX0 TX0 2, w ∈ lw_tbl := am_places _ [336, 338] (by decide +kernel)
set_option maxRecDepth 100000 in
theorem inX1 : ∀ w ∈ u_ws RX1 TX1 7, w ∈ lw_tbl := am_places _ [313, 315, 317, 319, 321, 323, 325] (by decide +kernel)
set_option maxRecDepth 100000 in
theorem inX2 : ∀ w ∈ u_ws RX2 TX2 5, w ∈ lw_tbl := am_places _ [184, 186, 188, 190, 192] (by decide +kernel)
set_option maxRecDepth 100000 in
theorem inX3 : ∀ w ∈ u_ws RX3 TX3 7, w ∈ lw_tbl := am_places _ [202, 204, 206, 208, 210, 212, 214] (by decide +kernel)
set_option maxRecDepth 100000 in
theorem inX4 : ∀ w ∈ u_ws RX4 TX4 7, w ∈ lw_tbl := am_places _ [233, 235, 237, 239, 241, 243, 245] (by decide +kernel)
set_option maxRecDepth 100000 in
theorem inX5 : ∀ w ∈ u_ws RX5 TX5 5, w ∈ lw_tbl := am_places _ [157, 159, 161, 163, 165] (by decide +kernel)
set_option maxRecDepth 100000 in
theorem inX6 : ∀ w ∈ u_ws RX6 TX6 3, w ∈ lw_tbl := am_places _ [744, 746, 748] (by decide +kernel)
set_option maxRecDepth 100000 in
theorem inX7 : ∀ w ∈ u_ws RX7 TX7 5, w ∈ lw_tbl := am_places _ [700, 702, 704, 706, 708] (by decide +kernel)
set_option maxRecDepth 100000 in
theorem inX8 : ∀ w ∈ u_ws RX8 TX8 4, w ∈ lw_tbl := am_places _ [271, 273, 275, 277] (by decide +kernel)
set_option maxRecDepth 100000 in
theorem inX9 : ∀ w ∈ u_ws RX9 TX9 4, w ∈ lw_tbl := am_places _ [130, 132, 134, 136] (by decide +kernel)
set_option maxRecDepth 100000 in
theorem inX10 : ∀ w ∈ u_ws RX10 TX10 4, w ∈ lw_tbl := am_places _ [284, 286, 288, 290] (by decide +kernel)
set_option maxRecDepth 100000 in
theorem inX11 : ∀ w ∈ u_ws RX11 TX11 18, w ∈ lw_tbl := am_places _ [360, 362, 364, 366, 368, 370, 372, 374, 376, 378, 380, 382, 384, 386, 388, 390, 392, 394] (by decide +kernel)
set_option maxRecDepth 100000 in
theorem inX12 : ∀ w ∈ u_ws RX12 TX12 56, w ∈ lw_tbl := am_places _ [1322, 1324, 1326, 1328, 1330, 1332, 1334, 1336, 1338, 1340, 1342, 1344, 1346, 1348, 1350, 1352, 1354, 1356, 1358, 1360, 1362, 1364, 1366, 1368, 1370, 1372, 1374, 1376, 1378, 1380, 1382, 1384, 1386, 1388, 1390, 1392, 1394, 1396, 1398, 1400, 1402, 1404, 1406, 1408, 1410, 1412, 1414, 1416, 1418, 1420, 1422, 1424, 1426, 1428, 1430, 1432] (by decide +kernel)
