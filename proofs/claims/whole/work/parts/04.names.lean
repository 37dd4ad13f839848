def RX0 : String := "ErrataRow$Book"
def TX0 : u_T := fun k => match k with
  | 0 => ("ErrataRow$Book", "told", "Z", false)
  | 1 => ("ErrataRow$Book", "quarter", "I", false)
  | 2 => ("ErrataRow$Book", "letters", "I", false)
  | 3 => ("ErrataRow$Book", "habits", "I", false)
  | 4 => ("ErrataRow$Book", "meant", "[I", true)
  | 5 => ("ErrataRow$Book", "from", "[I", true)
  | 6 => ("ErrataRow$Book", "to", "[I", true)
  | _ => ("ErrataRow$Book", "begin", "LErrataRow$State;", true)
def tyX0 : Nat → FieldType := fun k => match k with
  | 0 => .boolean
  | 1 => .int
  | 2 => .int
  | 3 => .int
  | 4 => .array .int
  | 5 => .array .int
  | 6 => .array .int
  | _ => .object "ErrataRow$State"
theorem nmX0 : ∀ a, a < 8 → ∀ b, b < 8 → a ≠ b → (TX0 a).2.1 ≠ (TX0 b).2.1 := by decide +kernel
theorem tyX0_ok : ∀ k, k < 8 → parseFieldDescriptor (TX0 k).2.2.1 = some (tyX0 k) := by decide +kernel
def RX1 : String := "ErrataRow$BookReader"
def TX1 : u_T := fun k => match k with
  | 0 => ("ErrataRow$BookReader", "tokens", "LErrataRow$Tokens;", true)
  | _ => ("ErrataRow$BookReader", "told", "LErrataRow$Book;", true)
def tyX1 : Nat → FieldType := fun k => match k with
  | 0 => .object "ErrataRow$Tokens"
  | _ => .object "ErrataRow$Book"
theorem nmX1 : ∀ a, a < 2 → ∀ b, b < 2 → a ≠ b → (TX1 a).2.1 ≠ (TX1 b).2.1 := by decide +kernel
theorem tyX1_ok : ∀ k, k < 2 → parseFieldDescriptor (TX1 k).2.2.1 = some (tyX1 k) := by decide +kernel
def RX2 : String := "ErrataRow$History"
def TX2 : u_T := fun k => match k with
  | 0 => ("ErrataRow$History", "size", "I", false)
  | 1 => ("ErrataRow$History", "next", "I", false)
  | _ => ("ErrataRow$History", "states", "[LErrataRow$State;", true)
def tyX2 : Nat → FieldType := fun k => match k with
  | 0 => .int
  | 1 => .int
  | _ => .array (.object "ErrataRow$State")
theorem nmX2 : ∀ a, a < 3 → ∀ b, b < 3 → a ≠ b → (TX2 a).2.1 ≠ (TX2 b).2.1 := by decide +kernel
theorem tyX2_ok : ∀ k, k < 3 → parseFieldDescriptor (TX2 k).2.2.1 = some (tyX2 k) := by decide +kernel
def RX3 : String := "ErrataRow$Notes"
def TX3 : u_T := fun k => match k with
  | 0 => ("ErrataRow$Notes", "size", "I", false)
  | 1 => ("ErrataRow$Notes", "behind", "[I", true)
  | 2 => ("ErrataRow$Notes", "letters", "[I", true)
  | _ => ("ErrataRow$Notes", "puts", "[I", true)
def tyX3 : Nat → FieldType := fun k => match k with
  | 0 => .int
  | 1 => .array .int
  | 2 => .array .int
  | _ => .array .int
theorem nmX3 : ∀ a, a < 4 → ∀ b, b < 4 → a ≠ b → (TX3 a).2.1 ≠ (TX3 b).2.1 := by decide +kernel
theorem tyX3_ok : ∀ k, k < 4 → parseFieldDescriptor (TX3 k).2.2.1 = some (tyX3 k) := by decide +kernel
def RX4 : String := "ErrataRow$Press"
def TX4 : u_T := fun k => match k with
  | 0 => ("ErrataRow$Press", "book", "LErrataRow$Book;", true)
  | 1 => ("ErrataRow$Press", "words", "[J", true)
  | 2 => ("ErrataRow$Press", "rule", "LErrataRow$Rule;", false)
  | 3 => ("ErrataRow$Press", "leftOff", "I", false)
  | 4 => ("ErrataRow$Press", "gotPaid", "I", false)
  | _ => ("ErrataRow$Press", "notPaid", "I", false)
def tyX4 : Nat → FieldType := fun k => match k with
  | 0 => .object "ErrataRow$Book"
  | 1 => .array .long
  | 2 => .object "ErrataRow$Rule"
  | 3 => .int
  | 4 => .int
  | _ => .int
theorem nmX4 : ∀ a, a < 6 → ∀ b, b < 6 → a ≠ b → (TX4 a).2.1 ≠ (TX4 b).2.1 := by decide +kernel
theorem tyX4_ok : ∀ k, k < 6 → parseFieldDescriptor (TX4 k).2.2.1 = some (tyX4 k) := by decide +kernel
def RX5 : String := "ErrataRow$RowSearch"
def TX5 : u_T := fun k => match k with
  | 0 => ("ErrataRow$RowSearch", "press", "LErrataRow$Press;", true)
  | 1 => ("ErrataRow$RowSearch", "states", "[LErrataRow$State;", true)
  | 2 => ("ErrataRow$RowSearch", "tried", "[I", true)
  | 3 => ("ErrataRow$RowSearch", "best", "[I", true)
  | _ => ("ErrataRow$RowSearch", "fewest", "I", false)
def tyX5 : Nat → FieldType := fun k => match k with
  | 0 => .object "ErrataRow$Press"
  | 1 => .array (.object "ErrataRow$State")
  | 2 => .array .int
  | 3 => .array .int
  | _ => .int
theorem nmX5 : ∀ a, a < 5 → ∀ b, b < 5 → a ≠ b → (TX5 a).2.1 ≠ (TX5 b).2.1 := by decide +kernel
theorem tyX5_ok : ∀ k, k < 5 → parseFieldDescriptor (TX5 k).2.2.1 = some (tyX5 k) := by decide +kernel
def RX6 : String := "ErrataRow$Rule"
def TX6 : u_T := fun k => match k with
  | 0 => ("ErrataRow$Rule", "codes", "[I", true)
  | 1 => ("ErrataRow$Rule", "sumEnds", "[I", true)
  | 2 => ("ErrataRow$Rule", "clauseEnds", "[I", true)
  | _ => ("ErrataRow$Rule", "stack", "[J", true)
def tyX6 : Nat → FieldType := fun k => match k with
  | 0 => .array .int
  | 1 => .array .int
  | 2 => .array .int
  | _ => .array .long
theorem nmX6 : ∀ a, a < 4 → ∀ b, b < 4 → a ≠ b → (TX6 a).2.1 ≠ (TX6 b).2.1 := by decide +kernel
theorem tyX6_ok : ∀ k, k < 4 → parseFieldDescriptor (TX6 k).2.2.1 = some (tyX6 k) := by decide +kernel
def RX7 : String := "ErrataRow$RuleReader"
def TX7 : u_T := fun k => match k with
  | 0 => ("ErrataRow$RuleReader", "tokens", "LErrataRow$Tokens;", true)
  | 1 => ("ErrataRow$RuleReader", "codes", "[I", true)
  | 2 => ("ErrataRow$RuleReader", "sumEnds", "[I", true)
  | 3 => ("ErrataRow$RuleReader", "clauseEnds", "[I", true)
  | 4 => ("ErrataRow$RuleReader", "size", "I", false)
  | 5 => ("ErrataRow$RuleReader", "clauses", "I", false)
  | _ => ("ErrataRow$RuleReader", "values", "I", false)
def tyX7 : Nat → FieldType := fun k => match k with
  | 0 => .object "ErrataRow$Tokens"
  | 1 => .array .int
  | 2 => .array .int
  | 3 => .array .int
  | 4 => .int
  | 5 => .int
  | _ => .int
theorem nmX7 : ∀ a, a < 7 → ∀ b, b < 7 → a ≠ b → (TX7 a).2.1 ≠ (TX7 b).2.1 := by decide +kernel
theorem tyX7_ok : ∀ k, k < 7 → parseFieldDescriptor (TX7 k).2.2.1 = some (tyX7 k) := by decide +kernel
def RX8 : String := "ErrataRow$State"
def TX8 : u_T := fun k => match k with
  | 0 => ("ErrataRow$State", "put", "[I", true)
  | 1 => ("ErrataRow$State", "paid", "[I", true)
  | 2 => ("ErrataRow$State", "hangs", "[I", true)
  | 3 => ("ErrataRow$State", "purse", "I", false)
  | 4 => ("ErrataRow$State", "owed", "I", false)
  | _ => ("ErrataRow$State", "edition", "I", false)
def tyX8 : Nat → FieldType := fun k => match k with
  | 0 => .array .int
  | 1 => .array .int
  | 2 => .array .int
  | 3 => .int
  | 4 => .int
  | _ => .int
theorem nmX8 : ∀ a, a < 6 → ∀ b, b < 6 → a ≠ b → (TX8 a).2.1 ≠ (TX8 b).2.1 := by decide +kernel
theorem tyX8_ok : ∀ k, k < 6 → parseFieldDescriptor (TX8 k).2.2.1 = some (tyX8 k) := by decide +kernel
def RX9 : String := "ErrataRow$Tokens"
def TX9 : u_T := fun k => match k with
  | 0 => ("ErrataRow$Tokens", "kinds", "[I", true)
  | 1 => ("ErrataRow$Tokens", "values", "[I", true)
  | 2 => ("ErrataRow$Tokens", "places", "[I", true)
  | 3 => ("ErrataRow$Tokens", "size", "I", false)
  | 4 => ("ErrataRow$Tokens", "at", "I", false)
  | 5 => ("ErrataRow$Tokens", "kind", "I", false)
  | 6 => ("ErrataRow$Tokens", "value", "I", false)
  | _ => ("ErrataRow$Tokens", "fault", "I", false)
def tyX9 : Nat → FieldType := fun k => match k with
  | 0 => .array .int
  | 1 => .array .int
  | 2 => .array .int
  | 3 => .int
  | 4 => .int
  | 5 => .int
  | 6 => .int
  | _ => .int
theorem nmX9 : ∀ a, a < 8 → ∀ b, b < 8 → a ≠ b → (TX9 a).2.1 ≠ (TX9 b).2.1 := by decide +kernel
theorem tyX9_ok : ∀ k, k < 8 → parseFieldDescriptor (TX9 k).2.2.1 = some (tyX9 k) := by decide +kernel
def RX10 : String := "ErrataRow$World"
def TX10 : u_T := fun k => match k with
  | 0 => ("ErrataRow$World", "book", "LErrataRow$Book;", true)
  | 1 => ("ErrataRow$World", "now", "LErrataRow$State;", true)
  | 2 => ("ErrataRow$World", "notes", "LErrataRow$Notes;", true)
  | 3 => ("ErrataRow$World", "inForce", "I", false)
  | _ => ("ErrataRow$World", "x", "I", false)
def tyX10 : Nat → FieldType := fun k => match k with
  | 0 => .object "ErrataRow$Book"
  | 1 => .object "ErrataRow$State"
  | 2 => .object "ErrataRow$Notes"
  | 3 => .int
  | _ => .int
theorem nmX10 : ∀ a, a < 5 → ∀ b, b < 5 → a ≠ b → (TX10 a).2.1 ≠ (TX10 b).2.1 := by decide +kernel
theorem tyX10_ok : ∀ k, k < 5 → parseFieldDescriptor (TX10 k).2.2.1 = some (tyX10 k) := by decide +kernel
def RX11 : String := "ErrataRow"
def TX11 : u_T := fun k => match k with
  | 0 => ("ErrataRow", "tape", "[I", true)
  | 1 => ("ErrataRow", "tapeLength", "I", false)
  | 2 => ("ErrataRow", "tokens", "LErrataRow$Tokens;", true)
  | 3 => ("ErrataRow", "bookReader", "LErrataRow$BookReader;", true)
  | 4 => ("ErrataRow", "ruleReader", "LErrataRow$RuleReader;", true)
  | 5 => ("ErrataRow", "rules", "[LErrataRow$Rule;", true)
  | 6 => ("ErrataRow", "ruleCount", "I", false)
  | 7 => ("ErrataRow", "world", "LErrataRow$World;", true)
  | 8 => ("ErrataRow", "images", "[LErrataRow$World;", true)
  | 9 => ("ErrataRow", "history", "LErrataRow$History;", true)
  | 10 => ("ErrataRow", "press", "LErrataRow$Press;", true)
  | 11 => ("ErrataRow", "rowSearch", "LErrataRow$RowSearch;", true)
  | 12 => ("ErrataRow", "trial", "LErrataRow$State;", true)
  | 13 => ("ErrataRow", "found", "[I", true)
  | 14 => ("ErrataRow", "scratch", "[I", true)
  | _ => ("ErrataRow", "gains", "[I", true)
def tyX11 : Nat → FieldType := fun k => match k with
  | 0 => .array .int
  | 1 => .int
  | 2 => .object "ErrataRow$Tokens"
  | 3 => .object "ErrataRow$BookReader"
  | 4 => .object "ErrataRow$RuleReader"
  | 5 => .array (.object "ErrataRow$Rule")
  | 6 => .int
  | 7 => .object "ErrataRow$World"
  | 8 => .array (.object "ErrataRow$World")
  | 9 => .object "ErrataRow$History"
  | 10 => .object "ErrataRow$Press"
  | 11 => .object "ErrataRow$RowSearch"
  | 12 => .object "ErrataRow$State"
  | 13 => .array .int
  | 14 => .array .int
  | _ => .array .int
theorem nmX11 : ∀ a, a < 16 → ∀ b, b < 16 → a ≠ b → (TX11 a).2.1 ≠ (TX11 b).2.1 := by decide +kernel
theorem tyX11_ok : ∀ k, k < 16 → parseFieldDescriptor (TX11 k).2.2.1 = some (tyX11 k) := by decide +kernel
def RX12 : String := "ErrataRowModel"
def TX12 : u_T := fun k => match k with
  | 0 => ("ErrataRowModel", "tape", "[B", true)
  | 1 => ("ErrataRowModel", "taped", "I", false)
  | 2 => ("ErrataRowModel", "rules", "I", false)
  | 3 => ("ErrataRowModel", "sign", "[I", true)
  | 4 => ("ErrataRowModel", "length", "[I", true)
  | 5 => ("ErrataRowModel", "clause", "[I", true)
  | 6 => ("ErrataRowModel", "clauses", "[I", true)
  | 7 => ("ErrataRowModel", "read", "[I", true)
  | 8 => ("ErrataRowModel", "next", "I", false)
  | 9 => ("ErrataRowModel", "wrong", "I", false)
  | 10 => ("ErrataRowModel", "number", "I", false)
  | 11 => ("ErrataRowModel", "text", "I", false)
  | 12 => ("ErrataRowModel", "made", "I", false)
  | 13 => ("ErrataRowModel", "deep", "I", false)
  | 14 => ("ErrataRowModel", "lines", "I", false)
  | 15 => ("ErrataRowModel", "open", "[I", true)
  | 16 => ("ErrataRowModel", "opened", "I", false)
  | 17 => ("ErrataRowModel", "stack", "[J", true)
  | 18 => ("ErrataRowModel", "top", "I", false)
  | 19 => ("ErrataRowModel", "word", "[J", true)
  | 20 => ("ErrataRowModel", "said", "[I", true)
  | 21 => ("ErrataRowModel", "force", "I", false)
  | 22 => ("ErrataRowModel", "x", "I", false)
  | 23 => ("ErrataRowModel", "leftNow", "I", false)
  | 24 => ("ErrataRowModel", "owedFor", "I", false)
  | 25 => ("ErrataRowModel", "paidTo", "I", false)
  | 26 => ("ErrataRowModel", "wasSaid", "[I", true)
  | 27 => ("ErrataRowModel", "undone", "I", false)
  | 28 => ("ErrataRowModel", "kept", "[I", true)
  | 29 => ("ErrataRowModel", "rowNow", "[I", true)
  | 30 => ("ErrataRowModel", "rowBest", "[I", true)
  | 31 => ("ErrataRowModel", "farOf", "[I", true)
  | 32 => ("ErrataRowModel", "hasBy", "[I", true)
  | 33 => ("ErrataRowModel", "putThen", "[I", true)
  | 34 => ("ErrataRowModel", "isFit", "[Z", true)
  | 35 => ("ErrataRowModel", "rulePut", "[I", true)
  | 36 => ("ErrataRowModel", "drawX", "J", false)
  | 37 => ("ErrataRowModel", "images", "[I", true)
  | 38 => ("ErrataRowModel", "imageForce", "[I", true)
  | 39 => ("ErrataRowModel", "imageX", "[I", true)
  | _ => ("ErrataRowModel", "isMade", "[Z", true)
def tyX12 : Nat → FieldType := fun k => match k with
  | 0 => .array .byte
  | 1 => .int
  | 2 => .int
  | 3 => .array .int
  | 4 => .array .int
  | 5 => .array .int
  | 6 => .array .int
  | 7 => .array .int
  | 8 => .int
  | 9 => .int
  | 10 => .int
  | 11 => .int
  | 12 => .int
  | 13 => .int
  | 14 => .int
  | 15 => .array .int
  | 16 => .int
  | 17 => .array .long
  | 18 => .int
  | 19 => .array .long
  | 20 => .array .int
  | 21 => .int
  | 22 => .int
  | 23 => .int
  | 24 => .int
  | 25 => .int
  | 26 => .array .int
  | 27 => .int
  | 28 => .array .int
  | 29 => .array .int
  | 30 => .array .int
  | 31 => .array .int
  | 32 => .array .int
  | 33 => .array .int
  | 34 => .array .boolean
  | 35 => .array .int
  | 36 => .long
  | 37 => .array .int
  | 38 => .array .int
  | 39 => .array .int
  | _ => .array .boolean
theorem nmX12 : ∀ a, a < 41 → ∀ b, b < 41 → a ≠ b → (TX12 a).2.1 ≠ (TX12 b).2.1 := by decide +kernel
theorem tyX12_ok : ∀ k, k < 41 → parseFieldDescriptor (TX12 k).2.2.1 = some (tyX12 k) := by decide +kernel
abbrev vwCl : List vw_C := [(RX0, TX0, 8), (RX1, TX1, 2), (RX2, TX2, 3), (RX3, TX3, 4), (RX4, TX4, 6), (RX5, TX5, 5), (RX6, TX6, 4), (RX7, TX7, 7), (RX8, TX8, 6), (RX9, TX9, 8), (RX10, TX10, 5), (RX11, TX11, 16), (RX12, TX12, 41)]
theorem inM : ∀ w ∈ u_ws RX12 TX12 41, w ∈ lw_gt := fun w h => List.mem_filter.mpr (by have h1 := List.all_eq_true.mp (show (u_ws RX12 TX12 41).all (fun w => decide (w ∈ lw_tbl) && goodWord w) = true by decide +kernel) w h; simp only [Bool.and_eq_true, decide_eq_true_eq] at h1; exact h1)
