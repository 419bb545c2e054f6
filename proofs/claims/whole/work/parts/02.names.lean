def RX0 : String := "MotionDesk$Ballots"
def TX0 : u_T := fun k => match k with
  | 0 => ("MotionDesk$Ballots", "forFirst", "[I", true)
  | 1 => ("MotionDesk$Ballots", "above", "[I", true)
  | _ => ("MotionDesk$Ballots", "comesOf", "[I", true)
def tyX0 : Nat → FieldType := fun k => match k with
  | 0 => .array .int
  | 1 => .array .int
  | _ => .array .int
abbrev wsX00 : List Cond := u_ws RX0 TX0 3
theorem nmX0 : ∀ a, a < 3 → ∀ b, b < 3 → a ≠ b → (TX0 a).2.1 ≠ (TX0 b).2.1 := by decide +kernel
theorem tyX0_ok : ∀ k, k < 3 → parseFieldDescriptor (TX0 k).2.2.1 = some (tyX0 k) := by decide +kernel
def RX1 : String := "MotionDesk$Picture"
def TX1 : u_T := fun k => match k with
  | 0 => ("MotionDesk$Picture", "ranked", "[I", true)
  | 1 => ("MotionDesk$Picture", "kinds", "[I", true)
  | 2 => ("MotionDesk$Picture", "motions", "I", false)
  | 3 => ("MotionDesk$Picture", "members", "I", false)
  | _ => ("MotionDesk$Picture", "nodes", "I", false)
def tyX1 : Nat → FieldType := fun k => match k with
  | 0 => .array .int
  | 1 => .array .int
  | 2 => .int
  | 3 => .int
  | _ => .int
abbrev wsX10 : List Cond := u_ws RX1 TX1 5
theorem nmX1 : ∀ a, a < 5 → ∀ b, b < 5 → a ≠ b → (TX1 a).2.1 ≠ (TX1 b).2.1 := by decide +kernel
theorem tyX1_ok : ∀ k, k < 5 → parseFieldDescriptor (TX1 k).2.2.1 = some (tyX1 k) := by decide +kernel
def RX2 : String := "MotionDesk$Sightings"
def TX2 : u_T := fun k => match k with
  | 0 => ("MotionDesk$Sightings", "firsts", "[I", true)
  | 1 => ("MotionDesk$Sightings", "seconds", "[I", true)
  | 2 => ("MotionDesk$Sightings", "branches", "[I", true)
  | _ => ("MotionDesk$Sightings", "size", "I", false)
def tyX2 : Nat → FieldType := fun k => match k with
  | 0 => .array .int
  | 1 => .array .int
  | 2 => .array .int
  | _ => .int
abbrev wsX20 : List Cond := u_ws RX2 TX2 4
theorem nmX2 : ∀ a, a < 4 → ∀ b, b < 4 → a ≠ b → (TX2 a).2.1 ≠ (TX2 b).2.1 := by decide +kernel
theorem tyX2_ok : ∀ k, k < 4 → parseFieldDescriptor (TX2 k).2.2.1 = some (tyX2 k) := by decide +kernel
def RX3 : String := "MotionDesk$Text"
def TX3 : u_T := fun k => match k with
  | 0 => ("MotionDesk$Text", "letters", "[I", true)
  | 1 => ("MotionDesk$Text", "told", "LMotionDesk$Picture;", true)
  | 2 => ("MotionDesk$Text", "length", "I", false)
  | 3 => ("MotionDesk$Text", "at", "I", false)
  | 4 => ("MotionDesk$Text", "sign", "I", false)
  | 5 => ("MotionDesk$Text", "signAt", "I", false)
  | _ => ("MotionDesk$Text", "number", "I", false)
def tyX3 : Nat → FieldType := fun k => match k with
  | 0 => .array .int
  | 1 => .object "MotionDesk$Picture"
  | 2 => .int
  | 3 => .int
  | 4 => .int
  | 5 => .int
  | _ => .int
abbrev wsX30 : List Cond := u_ws RX3 TX3 7
theorem nmX3 : ∀ a, a < 7 → ∀ b, b < 7 → a ≠ b → (TX3 a).2.1 ≠ (TX3 b).2.1 := by decide +kernel
theorem tyX3_ok : ∀ k, k < 7 → parseFieldDescriptor (TX3 k).2.2.1 = some (tyX3 k) := by decide +kernel
def RX4 : String := "MotionDesk$Tree"
def TX4 : u_T := fun k => match k with
  | 0 => ("MotionDesk$Tree", "kinds", "[I", true)
  | 1 => ("MotionDesk$Tree", "sizes", "[I", true)
  | 2 => ("MotionDesk$Tree", "motionsOf", "[I", true)
  | _ => ("MotionDesk$Tree", "nodes", "I", false)
def tyX4 : Nat → FieldType := fun k => match k with
  | 0 => .array .int
  | 1 => .array .int
  | 2 => .array .int
  | _ => .int
abbrev wsX40 : List Cond := u_ws RX4 TX4 4
theorem nmX4 : ∀ a, a < 4 → ∀ b, b < 4 → a ≠ b → (TX4 a).2.1 ≠ (TX4 b).2.1 := by decide +kernel
theorem tyX4_ok : ∀ k, k < 4 → parseFieldDescriptor (TX4 k).2.2.1 = some (tyX4 k) := by decide +kernel
def RX5 : String := "MotionDesk"
def TX5 : u_T := fun k => match k with
  | 0 => ("MotionDesk", "text", "LMotionDesk$Text;", true)
  | 1 => ("MotionDesk", "standing", "LMotionDesk$Picture;", true)
  | 2 => ("MotionDesk", "tree", "LMotionDesk$Tree;", true)
  | 3 => ("MotionDesk", "ballots", "LMotionDesk$Ballots;", true)
  | 4 => ("MotionDesk", "changed", "LMotionDesk$Ballots;", true)
  | 5 => ("MotionDesk", "supposed", "LMotionDesk$Ballots;", true)
  | 6 => ("MotionDesk", "known", "[LMotionDesk$Picture;", true)
  | 7 => ("MotionDesk", "knownCount", "I", false)
  | 8 => ("MotionDesk", "images", "[LMotionDesk$Picture;", true)
  | 9 => ("MotionDesk", "imagesKept", "I", false)
  | 10 => ("MotionDesk", "sightings", "LMotionDesk$Sightings;", true)
  | 11 => ("MotionDesk", "row", "[I", true)
  | 12 => ("MotionDesk", "outcomes", "[I", true)
  | 13 => ("MotionDesk", "presentCounts", "[I", true)
  | _ => ("MotionDesk", "firstCounts", "[I", true)
def tyX5 : Nat → FieldType := fun k => match k with
  | 0 => .object "MotionDesk$Text"
  | 1 => .object "MotionDesk$Picture"
  | 2 => .object "MotionDesk$Tree"
  | 3 => .object "MotionDesk$Ballots"
  | 4 => .object "MotionDesk$Ballots"
  | 5 => .object "MotionDesk$Ballots"
  | 6 => .array (.object "MotionDesk$Picture")
  | 7 => .int
  | 8 => .array (.object "MotionDesk$Picture")
  | 9 => .int
  | 10 => .object "MotionDesk$Sightings"
  | 11 => .array .int
  | 12 => .array .int
  | 13 => .array .int
  | _ => .array .int
abbrev wsX50 : List Cond := u_ws RX5 TX5 15
theorem nmX5 : ∀ a, a < 15 → ∀ b, b < 15 → a ≠ b → (TX5 a).2.1 ≠ (TX5 b).2.1 := by decide +kernel
theorem tyX5_ok : ∀ k, k < 15 → parseFieldDescriptor (TX5 k).2.2.1 = some (tyX5 k) := by decide +kernel
def RX6 : String := "MotionDeskModel"
def TX6 : u_T := fun k => match k with
  | 0 => ("MotionDeskModel", "thrown", "I", false)
  | 1 => ("MotionDeskModel", "text", "[I", true)
  | 2 => ("MotionDeskModel", "typed", "I", false)
  | 3 => ("MotionDeskModel", "spot", "I", false)
  | 4 => ("MotionDeskModel", "token", "I", false)
  | 5 => ("MotionDeskModel", "start", "I", false)
  | 6 => ("MotionDeskModel", "value", "I", false)
  | 7 => ("MotionDeskModel", "fault", "I", false)
  | 8 => ("MotionDeskModel", "motions", "I", false)
  | 9 => ("MotionDeskModel", "members", "I", false)
  | 10 => ("MotionDeskModel", "draftMotions", "I", false)
  | 11 => ("MotionDeskModel", "draftMembers", "I", false)
  | 12 => ("MotionDeskModel", "draft", "[I", true)
  | 13 => ("MotionDeskModel", "s", "[I", true)
  | 14 => ("MotionDeskModel", "w", "[I", true)
  | 15 => ("MotionDeskModel", "undos", "[I", true)
  | 16 => ("MotionDeskModel", "undoMany", "I", false)
  | 17 => ("MotionDeskModel", "kept", "[I", true)
  | 18 => ("MotionDeskModel", "isKept", "[Z", true)
  | 19 => ("MotionDeskModel", "seenOne", "[I", true)
  | 20 => ("MotionDeskModel", "seenTwo", "[I", true)
  | 21 => ("MotionDeskModel", "seenBranch", "[I", true)
  | 22 => ("MotionDeskModel", "seenMany", "I", false)
  | 23 => ("MotionDeskModel", "there", "I", false)
  | 24 => ("MotionDeskModel", "beats", "[Z", true)
  | 25 => ("MotionDeskModel", "sets", "[I", true)
  | 26 => ("MotionDeskModel", "comes", "[I", true)
  | 27 => ("MotionDeskModel", "order", "[I", true)
  | 28 => ("MotionDeskModel", "pile", "[I", true)
  | 29 => ("MotionDeskModel", "piled", "I", false)
  | 30 => ("MotionDeskModel", "best", "[I", true)
  | 31 => ("MotionDeskModel", "firsts", "[I", true)
  | _ => ("MotionDeskModel", "rankingFirst", "I", false)
def tyX6 : Nat → FieldType := fun k => match k with
  | 0 => .int
  | 1 => .array .int
  | 2 => .int
  | 3 => .int
  | 4 => .int
  | 5 => .int
  | 6 => .int
  | 7 => .int
  | 8 => .int
  | 9 => .int
  | 10 => .int
  | 11 => .int
  | 12 => .array .int
  | 13 => .array .int
  | 14 => .array .int
  | 15 => .array .int
  | 16 => .int
  | 17 => .array .int
  | 18 => .array .boolean
  | 19 => .array .int
  | 20 => .array .int
  | 21 => .array .int
  | 22 => .int
  | 23 => .int
  | 24 => .array .boolean
  | 25 => .array .int
  | 26 => .array .int
  | 27 => .array .int
  | 28 => .array .int
  | 29 => .int
  | 30 => .array .int
  | 31 => .array .int
  | _ => .int
abbrev wsX60 : List Cond := u_ws RX6 TX6 33
theorem nmX6 : ∀ a, a < 33 → ∀ b, b < 33 → a ≠ b → (TX6 a).2.1 ≠ (TX6 b).2.1 := by decide +kernel
theorem tyX6_ok : ∀ k, k < 33 → parseFieldDescriptor (TX6 k).2.2.1 = some (tyX6 k) := by decide +kernel
abbrev vwCl : List vw_C := [(RX0, TX0, 3), (RX1, TX1, 5), (RX2, TX2, 4), (RX3, TX3, 7), (RX4, TX4, 4), (RX5, TX5, 15), (RX6, TX6, 33)]
theorem inX0 : ∀ w ∈ wsX00, w ∈ lw_tbl := by decide +kernel
theorem inX1 : ∀ w ∈ wsX10, w ∈ lw_tbl := by decide +kernel
theorem inX2 : ∀ w ∈ wsX20, w ∈ lw_tbl := by decide +kernel
theorem inX3 : ∀ w ∈ wsX30, w ∈ lw_tbl := by decide +kernel
theorem inX4 : ∀ w ∈ wsX40, w ∈ lw_tbl := by decide +kernel
theorem inX5 : ∀ w ∈ wsX50, w ∈ lw_tbl := by decide +kernel
theorem inX6 : ∀ w ∈ wsX60, w ∈ lw_tbl := by decide +kernel
def mx_cn (k : Nat) : String := match k with
  | 0 => "MotionDesk$Ballots"
  | 1 => "MotionDesk$Picture"
  | 2 => "MotionDesk$Sightings"
  | 3 => "MotionDesk$Text"
  | 4 => "MotionDesk$Tree"
  | 5 => "MotionDesk"
  | 6 => "MotionDeskModel"
  | 7 => "MotionDeskLaw"
  | 8 => "java/lang/Integer"
  | 9 => "java/lang/Math"
  | 10 => "java/util/Arrays"
  | _ => ""
