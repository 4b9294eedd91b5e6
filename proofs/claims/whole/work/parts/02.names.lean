def rc_0 : String := "PaperedOver"
def tc_0 : u_T := fun k => match k with
  | 0 => ("PaperedOver", "rows", "LPaperedOver$Rows;", true)
  | 1 => ("PaperedOver", "tape", "LPaperedOver$Tape;", true)
  | 2 => ("PaperedOver", "reader", "LPaperedOver$Reader;", true)
  | 3 => ("PaperedOver", "house", "LPaperedOver$House;", true)
  | 4 => ("PaperedOver", "spots", "LPaperedOver$Spots;", true)
  | 5 => ("PaperedOver", "imageA", "LPaperedOver$Image;", true)
  | 6 => ("PaperedOver", "imageB", "LPaperedOver$Image;", true)
  | 7 => ("PaperedOver", "facts", "LPaperedOver$Facts;", true)
  | 8 => ("PaperedOver", "parted", "LPaperedOver$Orders;", true)
  | 9 => ("PaperedOver", "cutter", "LPaperedOver$Cutter;", true)
  | 10 => ("PaperedOver", "bodies", "LPaperedOver$Bodies;", true)
  | 11 => ("PaperedOver", "latestFault", "I", false)
  | _ => ("PaperedOver", "latestFinding", "I", false)
def yc_0 : Nat → FieldType := fun k => match k with
  | 0 => .object "PaperedOver$Rows"
  | 1 => .object "PaperedOver$Tape"
  | 2 => .object "PaperedOver$Reader"
  | 3 => .object "PaperedOver$House"
  | 4 => .object "PaperedOver$Spots"
  | 5 => .object "PaperedOver$Image"
  | 6 => .object "PaperedOver$Image"
  | 7 => .object "PaperedOver$Facts"
  | 8 => .object "PaperedOver$Orders"
  | 9 => .object "PaperedOver$Cutter"
  | 10 => .object "PaperedOver$Bodies"
  | 11 => .int
  | _ => .int
theorem nc_0 : ∀ a, a < 13 → ∀ b, b < 13 → a ≠ b → (tc_0 a).2.1 ≠ (tc_0 b).2.1 := by decide +kernel
theorem yo_0 : ∀ k, k < 13 → parseFieldDescriptor (tc_0 k).2.2.1 = some (yc_0 k) := by decide +kernel
def rc_1 : String := "PaperedOver$Rows"
def tc_1 : u_T := fun k => match k with
  | 0 => ("PaperedOver$Rows", "there", "[Z", true)
  | 1 => ("PaperedOver$Rows", "lanes", "[I", true)
  | 2 => ("PaperedOver$Rows", "sizes", "[I", true)
  | _ => ("PaperedOver$Rows", "items", "[I", true)
def yc_1 : Nat → FieldType := fun k => match k with
  | 0 => .array .boolean
  | 1 => .array .int
  | 2 => .array .int
  | _ => .array .int
theorem nc_1 : ∀ a, a < 4 → ∀ b, b < 4 → a ≠ b → (tc_1 a).2.1 ≠ (tc_1 b).2.1 := by decide +kernel
theorem yo_1 : ∀ k, k < 4 → parseFieldDescriptor (tc_1 k).2.2.1 = some (yc_1 k) := by decide +kernel
def rc_2 : String := "PaperedOver$Tape"
def tc_2 : u_T := fun k => match k with
  | 0 => ("PaperedOver$Tape", "bytes", "[I", true)
  | _ => ("PaperedOver$Tape", "length", "I", false)
def yc_2 : Nat → FieldType := fun k => match k with
  | 0 => .array .int
  | _ => .int
theorem nc_2 : ∀ a, a < 2 → ∀ b, b < 2 → a ≠ b → (tc_2 a).2.1 ≠ (tc_2 b).2.1 := by decide +kernel
theorem yo_2 : ∀ k, k < 2 → parseFieldDescriptor (tc_2 k).2.2.1 = some (yc_2 k) := by decide +kernel
def rc_3 : String := "PaperedOver$Reader"
def tc_3 : u_T := fun k => match k with
  | 0 => ("PaperedOver$Reader", "tape", "LPaperedOver$Tape;", true)
  | 1 => ("PaperedOver$Reader", "draft", "LPaperedOver$House;", true)
  | 2 => ("PaperedOver$Reader", "sort", "I", false)
  | 3 => ("PaperedOver$Reader", "begin", "I", false)
  | 4 => ("PaperedOver$Reader", "end", "I", false)
  | 5 => ("PaperedOver$Reader", "value", "I", false)
  | 6 => ("PaperedOver$Reader", "fault", "I", false)
  | _ => ("PaperedOver$Reader", "place", "I", false)
def yc_3 : Nat → FieldType := fun k => match k with
  | 0 => .object "PaperedOver$Tape"
  | 1 => .object "PaperedOver$House"
  | 2 => .int
  | 3 => .int
  | 4 => .int
  | 5 => .int
  | 6 => .int
  | _ => .int
theorem nc_3 : ∀ a, a < 8 → ∀ b, b < 8 → a ≠ b → (tc_3 a).2.1 ≠ (tc_3 b).2.1 := by decide +kernel
theorem yo_3 : ∀ k, k < 8 → parseFieldDescriptor (tc_3 k).2.2.1 = some (yc_3 k) := by decide +kernel
def rc_4 : String := "PaperedOver$House"
def tc_4 : u_T := fun k => match k with
  | 0 => ("PaperedOver$House", "walls", "I", false)
  | 1 => ("PaperedOver$House", "built", "[I", true)
  | 2 => ("PaperedOver$House", "wide", "[I", true)
  | 3 => ("PaperedOver$House", "high", "[I", true)
  | 4 => ("PaperedOver$House", "papers", "I", false)
  | 5 => ("PaperedOver$House", "kinds", "[I", true)
  | 6 => ("PaperedOver$House", "made", "[I", true)
  | 7 => ("PaperedOver$House", "last", "[I", true)
  | 8 => ("PaperedOver$House", "prices", "[I", true)
  | 9 => ("PaperedOver$House", "repeats", "[I", true)
  | 10 => ("PaperedOver$House", "tenants", "I", false)
  | 11 => ("PaperedOver$House", "from", "[I", true)
  | 12 => ("PaperedOver$House", "to", "[I", true)
  | _ => ("PaperedOver$House", "means", "[I", true)
def yc_4 : Nat → FieldType := fun k => match k with
  | 0 => .int
  | 1 => .array .int
  | 2 => .array .int
  | 3 => .array .int
  | 4 => .int
  | 5 => .array .int
  | 6 => .array .int
  | 7 => .array .int
  | 8 => .array .int
  | 9 => .array .int
  | 10 => .int
  | 11 => .array .int
  | 12 => .array .int
  | _ => .array .int
theorem nc_4 : ∀ a, a < 14 → ∀ b, b < 14 → a ≠ b → (tc_4 a).2.1 ≠ (tc_4 b).2.1 := by decide +kernel
theorem yo_4 : ∀ k, k < 14 → parseFieldDescriptor (tc_4 k).2.2.1 = some (yc_4 k) := by decide +kernel
def rc_5 : String := "PaperedOver$Spots"
def tc_5 : u_T := fun k => match k with
  | 0 => ("PaperedOver$Spots", "number", "I", false)
  | 1 => ("PaperedOver$Spots", "walls", "[I", true)
  | 2 => ("PaperedOver$Spots", "depths", "[I", true)
  | _ => ("PaperedOver$Spots", "layers", "[I", true)
def yc_5 : Nat → FieldType := fun k => match k with
  | 0 => .int
  | 1 => .array .int
  | 2 => .array .int
  | _ => .array .int
theorem nc_5 : ∀ a, a < 4 → ∀ b, b < 4 → a ≠ b → (tc_5 a).2.1 ≠ (tc_5 b).2.1 := by decide +kernel
theorem yo_5 : ∀ k, k < 4 → parseFieldDescriptor (tc_5 k).2.2.1 = some (yc_5 k) := by decide +kernel
def rc_6 : String := "PaperedOver$Image"
def tc_6 : u_T := fun k => match k with
  | 0 => ("PaperedOver$Image", "house", "LPaperedOver$House;", true)
  | _ => ("PaperedOver$Image", "spots", "LPaperedOver$Spots;", true)
def yc_6 : Nat → FieldType := fun k => match k with
  | 0 => .object "PaperedOver$House"
  | _ => .object "PaperedOver$Spots"
theorem nc_6 : ∀ a, a < 2 → ∀ b, b < 2 → a ≠ b → (tc_6 a).2.1 ≠ (tc_6 b).2.1 := by decide +kernel
theorem yo_6 : ∀ k, k < 2 → parseFieldDescriptor (tc_6 k).2.2.1 = some (yc_6 k) := by decide +kernel
def rc_7 : String := "PaperedOver$Facts"
def tc_7 : u_T := fun k => match k with
  | 0 => ("PaperedOver$Facts", "house", "LPaperedOver$House;", true)
  | 1 => ("PaperedOver$Facts", "spots", "LPaperedOver$Spots;", true)
  | 2 => ("PaperedOver$Facts", "seen", "I", false)
  | 3 => ("PaperedOver$Facts", "ring", "I", false)
  | 4 => ("PaperedOver$Facts", "on", "[I", true)
  | 5 => ("PaperedOver$Facts", "ahead", "[I", true)
  | 6 => ("PaperedOver$Facts", "sure", "[I", true)
  | 7 => ("PaperedOver$Facts", "earliest", "[I", true)
  | 8 => ("PaperedOver$Facts", "placed", "I", false)
  | 9 => ("PaperedOver$Facts", "least", "[I", true)
  | _ => ("PaperedOver$Facts", "most", "[I", true)
def yc_7 : Nat → FieldType := fun k => match k with
  | 0 => .object "PaperedOver$House"
  | 1 => .object "PaperedOver$Spots"
  | 2 => .int
  | 3 => .int
  | 4 => .array .int
  | 5 => .array .int
  | 6 => .array .int
  | 7 => .array .int
  | 8 => .int
  | 9 => .array .int
  | _ => .array .int
theorem nc_7 : ∀ a, a < 11 → ∀ b, b < 11 → a ≠ b → (tc_7 a).2.1 ≠ (tc_7 b).2.1 := by decide +kernel
theorem yo_7 : ∀ k, k < 11 → parseFieldDescriptor (tc_7 k).2.2.1 = some (yc_7 k) := by decide +kernel
def rc_8 : String := "PaperedOver$Orders"
def tc_8 : u_T := fun k => match k with
  | 0 => ("PaperedOver$Orders", "facts", "LPaperedOver$Facts;", true)
  | 1 => ("PaperedOver$Orders", "counted", "Z", false)
  | 2 => ("PaperedOver$Orders", "begun", "[I", true)
  | 3 => ("PaperedOver$Orders", "ended", "[I", true)
  | _ => ("PaperedOver$Orders", "pairs", "[I", true)
def yc_8 : Nat → FieldType := fun k => match k with
  | 0 => .object "PaperedOver$Facts"
  | 1 => .boolean
  | 2 => .array .int
  | 3 => .array .int
  | _ => .array .int
theorem nc_8 : ∀ a, a < 5 → ∀ b, b < 5 → a ≠ b → (tc_8 a).2.1 ≠ (tc_8 b).2.1 := by decide +kernel
theorem yo_8 : ∀ k, k < 5 → parseFieldDescriptor (tc_8 k).2.2.1 = some (yc_8 k) := by decide +kernel
def rc_9 : String := "PaperedOver$Cutter"
def tc_9 : u_T := fun k => match k with
  | 0 => ("PaperedOver$Cutter", "strips", "I", false)
  | 1 => ("PaperedOver$Cutter", "used", "I", false)
  | _ => ("PaperedOver$Cutter", "left", "I", false)
def yc_9 : Nat → FieldType := fun k => match k with
  | 0 => .int
  | 1 => .int
  | _ => .int
theorem nc_9 : ∀ a, a < 3 → ∀ b, b < 3 → a ≠ b → (tc_9 a).2.1 ≠ (tc_9 b).2.1 := by decide +kernel
theorem yo_9 : ∀ k, k < 3 → parseFieldDescriptor (tc_9 k).2.2.1 = some (yc_9 k) := by decide +kernel
def rc_10 : String := "PaperedOver$Bodies"
def tc_10 : u_T := fun k => match k with
  | 0 => ("PaperedOver$Bodies", "trace", "[I", true)
  | _ => ("PaperedOver$Bodies", "begun", "I", false)
def yc_10 : Nat → FieldType := fun k => match k with
  | 0 => .array .int
  | _ => .int
theorem nc_10 : ∀ a, a < 2 → ∀ b, b < 2 → a ≠ b → (tc_10 a).2.1 ≠ (tc_10 b).2.1 := by decide +kernel
theorem yo_10 : ∀ k, k < 2 → parseFieldDescriptor (tc_10 k).2.2.1 = some (yc_10 k) := by decide +kernel
def rc_11 : String := "PaperedOverModel"
def tc_11 : u_T := fun k => match k with
  | 0 => ("PaperedOverModel", "thrown", "I", false)
  | 1 => ("PaperedOverModel", "status", "I", false)
  | 2 => ("PaperedOverModel", "lane", "[I", true)
  | 3 => ("PaperedOverModel", "many", "[I", true)
  | 4 => ("PaperedOverModel", "item", "[I", true)
  | 5 => ("PaperedOverModel", "house", "[I", true)
  | 6 => ("PaperedOverModel", "fresh", "[I", true)
  | 7 => ("PaperedOverModel", "isThere", "Z", false)
  | 8 => ("PaperedOverModel", "tape", "[I", true)
  | 9 => ("PaperedOverModel", "taped", "I", false)
  | 10 => ("PaperedOverModel", "latest", "I", false)
  | 11 => ("PaperedOverModel", "length", "I", false)
  | 12 => ("PaperedOverModel", "cursor", "I", false)
  | 13 => ("PaperedOverModel", "token", "I", false)
  | 14 => ("PaperedOverModel", "start", "I", false)
  | 15 => ("PaperedOverModel", "till", "I", false)
  | 16 => ("PaperedOverModel", "fault", "I", false)
  | 17 => ("PaperedOverModel", "faultAt", "I", false)
  | 18 => ("PaperedOverModel", "seen", "I", false)
  | 19 => ("PaperedOverModel", "on", "[I", true)
  | 20 => ("PaperedOverModel", "ahead", "[I", true)
  | 21 => ("PaperedOverModel", "sure", "[I", true)
  | 22 => ("PaperedOverModel", "ways", "[I", true)
  | 23 => ("PaperedOverModel", "least", "[I", true)
  | 24 => ("PaperedOverModel", "most", "[I", true)
  | 25 => ("PaperedOverModel", "isKept", "[Z", true)
  | 26 => ("PaperedOverModel", "kept", "[I", true)
  | 27 => ("PaperedOverModel", "trace", "[I", true)
  | _ => ("PaperedOverModel", "traced", "I", false)
def yc_11 : Nat → FieldType := fun k => match k with
  | 0 => .int
  | 1 => .int
  | 2 => .array .int
  | 3 => .array .int
  | 4 => .array .int
  | 5 => .array .int
  | 6 => .array .int
  | 7 => .boolean
  | 8 => .array .int
  | 9 => .int
  | 10 => .int
  | 11 => .int
  | 12 => .int
  | 13 => .int
  | 14 => .int
  | 15 => .int
  | 16 => .int
  | 17 => .int
  | 18 => .int
  | 19 => .array .int
  | 20 => .array .int
  | 21 => .array .int
  | 22 => .array .int
  | 23 => .array .int
  | 24 => .array .int
  | 25 => .array .boolean
  | 26 => .array .int
  | 27 => .array .int
  | _ => .int
theorem nc_11 : ∀ a, a < 29 → ∀ b, b < 29 → a ≠ b → (tc_11 a).2.1 ≠ (tc_11 b).2.1 := by decide +kernel
theorem yo_11 : ∀ k, k < 29 → parseFieldDescriptor (tc_11 k).2.2.1 = some (yc_11 k) := by decide +kernel
def am_cls : List vw_C := [(rc_0, tc_0, 13), (rc_1, tc_1, 4), (rc_2, tc_2, 2), (rc_3, tc_3, 8), (rc_4, tc_4, 14), (rc_5, tc_5, 4), (rc_6, tc_6, 2), (rc_7, tc_7, 11), (rc_8, tc_8, 5), (rc_9, tc_9, 3), (rc_10, tc_10, 2), (rc_11, tc_11, 29)]
/-- of each kind the fields of its object: a number, or the cell that it always holds -/
def am_ob : Nat → List (Option (Nat → Nat × Nat × Nat))
  | 0 => [some (fun j => (1, 0, 0)), some (fun j => (2, 0, 0)), some (fun j => (3, 0, 0)), some (fun j => (4, 0, 0)), some (fun j => (5, 0, 0)), some (fun j => (6, 0, 0)), some (fun j => (6, 1, 0)), some (fun j => (7, 0, 0)), some (fun j => (8, 0, 0)), some (fun j => (9, 0, 0)), some (fun j => (10, 0, 0)), none, none]
  | 1 => [some (fun j => (1, j, 1)), some (fun j => (1, j, 2)), some (fun j => (1, j, 3)), some (fun j => (1, j, 4))]
  | 2 => [some (fun j => (2, j, 1)), none]
  | 3 => [some (fun j => (2, 0, 0)), some (fun j => (4, 1, 0)), none, none, none, none, none, none]
  | 4 => [none, some (fun j => (4, j, 1)), some (fun j => (4, j, 2)), some (fun j => (4, j, 3)), none, some (fun j => (4, j, 4)), some (fun j => (4, j, 5)), some (fun j => (4, j, 6)), some (fun j => (4, j, 7)), some (fun j => (4, j, 8)), none, some (fun j => (4, j, 9)), some (fun j => (4, j, 10)), some (fun j => (4, j, 11))]
  | 5 => [none, some (fun j => (5, j, 1)), some (fun j => (5, j, 2)), some (fun j => (5, j, 3))]
  | 6 => [some (fun j => (4, 2 + j, 0)), some (fun j => (5, 1 + j, 0))]
  | 7 => [some (fun j => (4, 0, 0)), some (fun j => (5, 0, 0)), none, none, some (fun j => (7, j, 1)), some (fun j => (7, j, 2)), some (fun j => (7, j, 3)), some (fun j => (7, j, 4)), none, some (fun j => (7, j, 5)), some (fun j => (7, j, 6))]
  | 8 => [some (fun j => (7, 0, 0)), none, some (fun j => (8, j, 1)), some (fun j => (8, j, 2)), some (fun j => (8, j, 3))]
  | 9 => [none, none, none]
  | 10 => [some (fun j => (10, j, 1)), none]
  | 11 => [none, none, some (fun j => (11, j, 1)), some (fun j => (11, j, 2)), some (fun j => (11, j, 3)), some (fun j => (11, j, 4)), some (fun j => (11, j, 5)), none, some (fun j => (11, j, 6)), none, none, none, none, none, none, none, none, none, none, some (fun j => (11, j, 7)), some (fun j => (11, j, 8)), some (fun j => (11, j, 9)), some (fun j => (11, j, 10)), some (fun j => (11, j, 11)), some (fun j => (11, j, 12)), some (fun j => (11, j, 13)), some (fun j => (11, j, 14)), some (fun j => (11, j, 15)), none]
  | _ => []
/-- of each kind its arrays: whether of booleans, and how long -/
def am_ar : Nat → List (Bool × Nat)
  | 1 => [(true, 8), (false, 8), (false, 8), (false, 320)]
  | 2 => [(false, 500)]
  | 4 => [(false, 8), (false, 8), (false, 8), (false, 10), (false, 10), (false, 10), (false, 10), (false, 10), (false, 10), (false, 10), (false, 10)]
  | 5 => [(false, 9), (false, 9), (false, 72)]
  | 7 => [(false, 8), (false, 10), (false, 10), (false, 10), (false, 10), (false, 10)]
  | 8 => [(false, 1024), (false, 1024), (false, 100)]
  | 10 => [(false, 16)]
  | 11 => [(false, 8), (false, 8), (false, 320), (false, 198), (false, 198), (false, 500), (false, 8), (false, 10), (false, 10), (false, 1024), (false, 10), (false, 10), (true, 2), (false, 396), (false, 16)]
  | _ => []
/-- all cells -/
def am_all : List (Nat × Nat × Nat) := [(0, 0, 0), (1, 0, 0), (1, 0, 1), (1, 0, 2), (1, 0, 3), (1, 0, 4), (2, 0, 0), (2, 0, 1), (3, 0, 0), (4, 0, 0), (4, 0, 1), (4, 0, 2), (4, 0, 3), (4, 0, 4), (4, 0, 5), (4, 0, 6), (4, 0, 7), (4, 0, 8), (4, 0, 9), (4, 0, 10), (4, 0, 11), (4, 1, 0), (4, 1, 1), (4, 1, 2), (4, 1, 3), (4, 1, 4), (4, 1, 5), (4, 1, 6), (4, 1, 7), (4, 1, 8), (4, 1, 9), (4, 1, 10), (4, 1, 11), (4, 2, 0), (4, 2, 1), (4, 2, 2), (4, 2, 3), (4, 2, 4), (4, 2, 5), (4, 2, 6), (4, 2, 7), (4, 2, 8), (4, 2, 9), (4, 2, 10), (4, 2, 11), (4, 3, 0), (4, 3, 1), (4, 3, 2), (4, 3, 3), (4, 3, 4), (4, 3, 5), (4, 3, 6), (4, 3, 7), (4, 3, 8), (4, 3, 9), (4, 3, 10), (4, 3, 11), (5, 0, 0), (5, 0, 1), (5, 0, 2), (5, 0, 3), (5, 1, 0), (5, 1, 1), (5, 1, 2), (5, 1, 3), (5, 2, 0), (5, 2, 1), (5, 2, 2), (5, 2, 3), (6, 0, 0), (6, 1, 0), (7, 0, 0), (7, 0, 1), (7, 0, 2), (7, 0, 3), (7, 0, 4), (7, 0, 5), (7, 0, 6), (8, 0, 0), (8, 0, 1), (8, 0, 2), (8, 0, 3), (9, 0, 0), (10, 0, 0), (10, 0, 1), (11, 0, 0), (11, 0, 1), (11, 0, 2), (11, 0, 3), (11, 0, 4), (11, 0, 5), (11, 0, 6), (11, 0, 7), (11, 0, 8), (11, 0, 9), (11, 0, 10), (11, 0, 11), (11, 0, 12), (11, 0, 13), (11, 0, 14), (11, 0, 15)]
/-- a field that holds a boolean -/
def am_fb (k s : Nat) : Bool := (k == 8 && s == 1) || (k == 11 && s == 7)
