def RX0 : String := "ClaimTrees$ClaimReader"
def TX0 : u_T := fun k => match k with
  | 0 => ("ClaimTrees$ClaimReader", "text", "LClaimTrees$Text;", true)
  | 1 => ("ClaimTrees$ClaimReader", "tree", "LClaimTrees$Claims;", true)
  | 2 => ("ClaimTrees$ClaimReader", "faultByte", "I", false)
  | _ => ("ClaimTrees$ClaimReader", "clauses", "I", false)
def tyX0 : Nat → FieldType := fun k => match k with
  | 0 => .object "ClaimTrees$Text"
  | 1 => .object "ClaimTrees$Claims"
  | 2 => .int
  | _ => .int
abbrev wsX00 : List Cond := u_ws RX0 TX0 4
theorem nmX0 : ∀ a, a < 4 → ∀ b, b < 4 → a ≠ b → (TX0 a).2.1 ≠ (TX0 b).2.1 := by decide +kernel
theorem tyX0_ok : ∀ k, k < 4 → parseFieldDescriptor (TX0 k).2.2.1 = some (tyX0 k) := by decide +kernel
def RX1 : String := "ClaimTrees$Claims"
def TX1 : u_T := fun k => match k with
  | 0 => ("ClaimTrees$Claims", "filingOf", "[I", true)
  | 1 => ("ClaimTrees$Claims", "own", "[I", true)
  | 2 => ("ClaimTrees$Claims", "added", "[I", true)
  | 3 => ("ClaimTrees$Claims", "versionCounts", "[I", true)
  | 4 => ("ClaimTrees$Claims", "versions", "[I", true)
  | 5 => ("ClaimTrees$Claims", "ancestors", "[J", true)
  | 6 => ("ClaimTrees$Claims", "parentStarts", "[I", true)
  | 7 => ("ClaimTrees$Claims", "parentEnds", "[I", true)
  | 8 => ("ClaimTrees$Claims", "parents", "[I", true)
  | _ => ("ClaimTrees$Claims", "count", "I", false)
def tyX1 : Nat → FieldType := fun k => match k with
  | 0 => .array .int
  | 1 => .array .int
  | 2 => .array .int
  | 3 => .array .int
  | 4 => .array .int
  | 5 => .array .long
  | 6 => .array .int
  | 7 => .array .int
  | 8 => .array .int
  | _ => .int
abbrev wsX10 : List Cond := u_ws RX1 TX1 10
theorem nmX1 : ∀ a, a < 10 → ∀ b, b < 10 → a ≠ b → (TX1 a).2.1 ≠ (TX1 b).2.1 := by decide +kernel
theorem tyX1_ok : ∀ k, k < 10 → parseFieldDescriptor (TX1 k).2.2.1 = some (tyX1 k) := by decide +kernel
def RX2 : String := "ClaimTrees$Features"
def TX2 : u_T := fun k => match k with
  | 0 => ("ClaimTrees$Features", "has", "[I", true)
  | 1 => ("ClaimTrees$Features", "ofKind", "[Z", true)
  | _ => ("ClaimTrees$Features", "told", "I", false)
def tyX2 : Nat → FieldType := fun k => match k with
  | 0 => .array .int
  | 1 => .array .boolean
  | _ => .int
abbrev wsX20 : List Cond := u_ws RX2 TX2 3
theorem nmX2 : ∀ a, a < 3 → ∀ b, b < 3 → a ≠ b → (TX2 a).2.1 ≠ (TX2 b).2.1 := by decide +kernel
theorem tyX2_ok : ∀ k, k < 3 → parseFieldDescriptor (TX2 k).2.2.1 = some (tyX2 k) := by decide +kernel
def RX3 : String := "ClaimTrees$Filings"
def TX3 : u_T := fun k => match k with
  | 0 => ("ClaimTrees$Filings", "sets", "[I", true)
  | 1 => ("ClaimTrees$Filings", "has", "[I", true)
  | 2 => ("ClaimTrees$Filings", "days", "[I", true)
  | 3 => ("ClaimTrees$Filings", "fields", "[I", true)
  | 4 => ("ClaimTrees$Filings", "firstClaims", "[I", true)
  | 5 => ("ClaimTrees$Filings", "claimCounts", "[I", true)
  | 6 => ("ClaimTrees$Filings", "elderCounts", "[I", true)
  | 7 => ("ClaimTrees$Filings", "elderSets", "[I", true)
  | 8 => ("ClaimTrees$Filings", "elderHas", "[I", true)
  | 9 => ("ClaimTrees$Filings", "elderDays", "[I", true)
  | 10 => ("ClaimTrees$Filings", "paid", "[I", true)
  | _ => ("ClaimTrees$Filings", "count", "I", false)
def tyX3 : Nat → FieldType := fun k => match k with
  | 0 => .array .int
  | 1 => .array .int
  | 2 => .array .int
  | 3 => .array .int
  | 4 => .array .int
  | 5 => .array .int
  | 6 => .array .int
  | 7 => .array .int
  | 8 => .array .int
  | 9 => .array .int
  | 10 => .array .int
  | _ => .int
abbrev wsX30 : List Cond := u_ws RX3 TX3 12
theorem nmX3 : ∀ a, a < 12 → ∀ b, b < 12 → a ≠ b → (TX3 a).2.1 ≠ (TX3 b).2.1 := by decide +kernel
theorem tyX3_ok : ∀ k, k < 12 → parseFieldDescriptor (TX3 k).2.2.1 = some (tyX3 k) := by decide +kernel
def RX4 : String := "ClaimTrees$Judge"
def TX4 : u_T := fun k => match k with
  | 0 => ("ClaimTrees$Judge", "features", "LClaimTrees$Features;", true)
  | 1 => ("ClaimTrees$Judge", "papers", "LClaimTrees$Papers;", true)
  | 2 => ("ClaimTrees$Judge", "filings", "LClaimTrees$Filings;", true)
  | _ => ("ClaimTrees$Judge", "tree", "LClaimTrees$Claims;", true)
def tyX4 : Nat → FieldType := fun k => match k with
  | 0 => .object "ClaimTrees$Features"
  | 1 => .object "ClaimTrees$Papers"
  | 2 => .object "ClaimTrees$Filings"
  | _ => .object "ClaimTrees$Claims"
abbrev wsX40 : List Cond := u_ws RX4 TX4 4
theorem nmX4 : ∀ a, a < 4 → ∀ b, b < 4 → a ≠ b → (TX4 a).2.1 ≠ (TX4 b).2.1 := by decide +kernel
theorem tyX4_ok : ∀ k, k < 4 → parseFieldDescriptor (TX4 k).2.2.1 = some (tyX4 k) := by decide +kernel
def RX5 : String := "ClaimTrees$Market"
def TX5 : u_T := fun k => match k with
  | 0 => ("ClaimTrees$Market", "features", "LClaimTrees$Features;", true)
  | 1 => ("ClaimTrees$Market", "filings", "LClaimTrees$Filings;", true)
  | 2 => ("ClaimTrees$Market", "tree", "LClaimTrees$Claims;", true)
  | 3 => ("ClaimTrees$Market", "judge", "LClaimTrees$Judge;", true)
  | 4 => ("ClaimTrees$Market", "sets", "[I", true)
  | 5 => ("ClaimTrees$Market", "landSets", "[I", true)
  | 6 => ("ClaimTrees$Market", "days", "[I", true)
  | 7 => ("ClaimTrees$Market", "threats", "[I", true)
  | 8 => ("ClaimTrees$Market", "threatCount", "I", false)
  | _ => ("ClaimTrees$Market", "count", "I", false)
def tyX5 : Nat → FieldType := fun k => match k with
  | 0 => .object "ClaimTrees$Features"
  | 1 => .object "ClaimTrees$Filings"
  | 2 => .object "ClaimTrees$Claims"
  | 3 => .object "ClaimTrees$Judge"
  | 4 => .array .int
  | 5 => .array .int
  | 6 => .array .int
  | 7 => .array .int
  | 8 => .int
  | _ => .int
abbrev wsX50 : List Cond := u_ws RX5 TX5 10
theorem nmX5 : ∀ a, a < 10 → ∀ b, b < 10 → a ≠ b → (TX5 a).2.1 ≠ (TX5 b).2.1 := by decide +kernel
theorem tyX5_ok : ∀ k, k < 10 → parseFieldDescriptor (TX5 k).2.2.1 = some (tyX5 k) := by decide +kernel
def RX6 : String := "ClaimTrees$Papers"
def TX6 : u_T := fun k => match k with
  | 0 => ("ClaimTrees$Papers", "has", "[I", true)
  | 1 => ("ClaimTrees$Papers", "fields", "[I", true)
  | 2 => ("ClaimTrees$Papers", "nearTo", "[I", true)
  | 3 => ("ClaimTrees$Papers", "sets", "[I", true)
  | 4 => ("ClaimTrees$Papers", "days", "[I", true)
  | _ => ("ClaimTrees$Papers", "count", "I", false)
def tyX6 : Nat → FieldType := fun k => match k with
  | 0 => .array .int
  | 1 => .array .int
  | 2 => .array .int
  | 3 => .array .int
  | 4 => .array .int
  | _ => .int
abbrev wsX60 : List Cond := u_ws RX6 TX6 6
theorem nmX6 : ∀ a, a < 6 → ∀ b, b < 6 → a ≠ b → (TX6 a).2.1 ≠ (TX6 b).2.1 := by decide +kernel
theorem tyX6_ok : ∀ k, k < 6 → parseFieldDescriptor (TX6 k).2.2.1 = some (tyX6 k) := by decide +kernel
def RX7 : String := "ClaimTrees$RuleReader"
def TX7 : u_T := fun k => match k with
  | 0 => ("ClaimTrees$RuleReader", "text", "LClaimTrees$Text;", true)
  | 1 => ("ClaimTrees$RuleReader", "draft", "LClaimTrees$Rules;", true)
  | 2 => ("ClaimTrees$RuleReader", "seen", "I", false)
  | 3 => ("ClaimTrees$RuleReader", "faultByte", "I", false)
  | _ => ("ClaimTrees$RuleReader", "clauses", "I", false)
def tyX7 : Nat → FieldType := fun k => match k with
  | 0 => .object "ClaimTrees$Text"
  | 1 => .object "ClaimTrees$Rules"
  | 2 => .int
  | 3 => .int
  | _ => .int
abbrev wsX70 : List Cond := u_ws RX7 TX7 5
theorem nmX7 : ∀ a, a < 5 → ∀ b, b < 5 → a ≠ b → (TX7 a).2.1 ≠ (TX7 b).2.1 := by decide +kernel
theorem tyX7_ok : ∀ k, k < 5 → parseFieldDescriptor (TX7 k).2.2.1 = some (tyX7 k) := by decide +kernel
def RX8 : String := "ClaimTrees$Rules"
def TX8 : u_T := fun k => match k with
  | _ => ("ClaimTrees$Rules", "values", "[I", true)
def tyX8 : Nat → FieldType := fun k => match k with
  | _ => .array .int
abbrev wsX80 : List Cond := u_ws RX8 TX8 1
theorem nmX8 : ∀ a, a < 1 → ∀ b, b < 1 → a ≠ b → (TX8 a).2.1 ≠ (TX8 b).2.1 := by decide +kernel
theorem tyX8_ok : ∀ k, k < 1 → parseFieldDescriptor (TX8 k).2.2.1 = some (tyX8 k) := by decide +kernel
def RX9 : String := "ClaimTrees$Text"
def TX9 : u_T := fun k => match k with
  | 0 => ("ClaimTrees$Text", "signs", "[I", true)
  | 1 => ("ClaimTrees$Text", "length", "I", false)
  | 2 => ("ClaimTrees$Text", "type", "I", false)
  | 3 => ("ClaimTrees$Text", "start", "I", false)
  | 4 => ("ClaimTrees$Text", "value", "I", false)
  | _ => ("ClaimTrees$Text", "next", "I", false)
def tyX9 : Nat → FieldType := fun k => match k with
  | 0 => .array .int
  | 1 => .int
  | 2 => .int
  | 3 => .int
  | 4 => .int
  | _ => .int
abbrev wsX90 : List Cond := u_ws RX9 TX9 6
theorem nmX9 : ∀ a, a < 6 → ∀ b, b < 6 → a ≠ b → (TX9 a).2.1 ≠ (TX9 b).2.1 := by decide +kernel
theorem tyX9_ok : ∀ k, k < 6 → parseFieldDescriptor (TX9 k).2.2.1 = some (tyX9 k) := by decide +kernel
def RX10 : String := "ClaimTrees"
def TX10 : u_T := fun k => match k with
  | 0 => ("ClaimTrees", "features", "LClaimTrees$Features;", true)
  | 1 => ("ClaimTrees", "papers", "LClaimTrees$Papers;", true)
  | 2 => ("ClaimTrees", "filings", "LClaimTrees$Filings;", true)
  | 3 => ("ClaimTrees", "tree", "LClaimTrees$Claims;", true)
  | 4 => ("ClaimTrees", "lands", "[LClaimTrees$Rules;", true)
  | 5 => ("ClaimTrees", "text", "LClaimTrees$Text;", true)
  | 6 => ("ClaimTrees", "claimReader", "LClaimTrees$ClaimReader;", true)
  | 7 => ("ClaimTrees", "ruleReader", "LClaimTrees$RuleReader;", true)
  | 8 => ("ClaimTrees", "judge", "LClaimTrees$Judge;", true)
  | 9 => ("ClaimTrees", "market", "LClaimTrees$Market;", true)
  | _ => ("ClaimTrees", "faultByte", "I", false)
def tyX10 : Nat → FieldType := fun k => match k with
  | 0 => .object "ClaimTrees$Features"
  | 1 => .object "ClaimTrees$Papers"
  | 2 => .object "ClaimTrees$Filings"
  | 3 => .object "ClaimTrees$Claims"
  | 4 => .array (.object "ClaimTrees$Rules")
  | 5 => .object "ClaimTrees$Text"
  | 6 => .object "ClaimTrees$ClaimReader"
  | 7 => .object "ClaimTrees$RuleReader"
  | 8 => .object "ClaimTrees$Judge"
  | 9 => .object "ClaimTrees$Market"
  | _ => .int
abbrev wsX100 : List Cond := u_ws RX10 TX10 11
theorem nmX10 : ∀ a, a < 11 → ∀ b, b < 11 → a ≠ b → (TX10 a).2.1 ≠ (TX10 b).2.1 := by decide +kernel
theorem tyX10_ok : ∀ k, k < 11 → parseFieldDescriptor (TX10 k).2.2.1 = some (tyX10 k) := by decide +kernel
def RX11 : String := "ClaimTreesModel"
def TX11 : u_T := fun k => match k with
  | 0 => ("ClaimTreesModel", "kinds", "[I", true)
  | 1 => ("ClaimTreesModel", "isNear", "[Z", true)
  | 2 => ("ClaimTreesModel", "papers", "I", false)
  | 3 => ("ClaimTreesModel", "paperSet", "[I", true)
  | 4 => ("ClaimTreesModel", "paperDay", "[I", true)
  | 5 => ("ClaimTreesModel", "paperField", "[I", true)
  | 6 => ("ClaimTreesModel", "filings", "I", false)
  | 7 => ("ClaimTreesModel", "filingSet", "[I", true)
  | 8 => ("ClaimTreesModel", "filingDay", "[I", true)
  | 9 => ("ClaimTreesModel", "filingField", "[I", true)
  | 10 => ("ClaimTreesModel", "elderMany", "[I", true)
  | 11 => ("ClaimTreesModel", "elderSet", "[I", true)
  | 12 => ("ClaimTreesModel", "elderDay", "[I", true)
  | 13 => ("ClaimTreesModel", "laws", "[I", true)
  | 14 => ("ClaimTreesModel", "fresh", "[I", true)
  | 15 => ("ClaimTreesModel", "text", "[I", true)
  | 16 => ("ClaimTreesModel", "texted", "I", false)
  | 17 => ("ClaimTreesModel", "faultPlace", "I", false)
  | 18 => ("ClaimTreesModel", "at0", "I", false)
  | 19 => ("ClaimTreesModel", "word", "J", false)
  | 20 => ("ClaimTreesModel", "wordEnd", "I", false)
  | 21 => ("ClaimTreesModel", "number", "I", false)
  | 22 => ("ClaimTreesModel", "numberAt", "I", false)
  | 23 => ("ClaimTreesModel", "claims", "I", false)
  | 24 => ("ClaimTreesModel", "claimOf", "[I", true)
  | 25 => ("ClaimTreesModel", "own", "[I", true)
  | 26 => ("ClaimTreesModel", "added", "[I", true)
  | 27 => ("ClaimTreesModel", "onMany", "[I", true)
  | 28 => ("ClaimTreesModel", "on", "[I", true)
  | 29 => ("ClaimTreesModel", "firsts", "[I", true)
  | 30 => ("ClaimTreesModel", "manyOf", "[I", true)
  | 31 => ("ClaimTreesModel", "versionMany", "[I", true)
  | 32 => ("ClaimTreesModel", "versions", "[I", true)
  | 33 => ("ClaimTreesModel", "seen", "I", false)
  | 34 => ("ClaimTreesModel", "looked", "[I", true)
  | 35 => ("ClaimTreesModel", "paid", "[I", true)
  | 36 => ("ClaimTreesModel", "products", "I", false)
  | 37 => ("ClaimTreesModel", "productSet", "[I", true)
  | 38 => ("ClaimTreesModel", "productLands", "[I", true)
  | 39 => ("ClaimTreesModel", "productDay", "[I", true)
  | _ => ("ClaimTreesModel", "bites", "[Z", true)
def tyX11 : Nat → FieldType := fun k => match k with
  | 0 => .array .int
  | 1 => .array .boolean
  | 2 => .int
  | 3 => .array .int
  | 4 => .array .int
  | 5 => .array .int
  | 6 => .int
  | 7 => .array .int
  | 8 => .array .int
  | 9 => .array .int
  | 10 => .array .int
  | 11 => .array .int
  | 12 => .array .int
  | 13 => .array .int
  | 14 => .array .int
  | 15 => .array .int
  | 16 => .int
  | 17 => .int
  | 18 => .int
  | 19 => .long
  | 20 => .int
  | 21 => .int
  | 22 => .int
  | 23 => .int
  | 24 => .array .int
  | 25 => .array .int
  | 26 => .array .int
  | 27 => .array .int
  | 28 => .array .int
  | 29 => .array .int
  | 30 => .array .int
  | 31 => .array .int
  | 32 => .array .int
  | 33 => .int
  | 34 => .array .int
  | 35 => .array .int
  | 36 => .int
  | 37 => .array .int
  | 38 => .array .int
  | 39 => .array .int
  | _ => .array .boolean
abbrev wsX110 : List Cond := u_ws RX11 TX11 41
theorem nmX11 : ∀ a, a < 41 → ∀ b, b < 41 → a ≠ b → (TX11 a).2.1 ≠ (TX11 b).2.1 := by decide +kernel
theorem tyX11_ok : ∀ k, k < 41 → parseFieldDescriptor (TX11 k).2.2.1 = some (tyX11 k) := by decide +kernel
def RJ6 : String := "java/lang/Integer"
def RJ9 : String := "java/lang/Math"
def RJ0 : String := "java/lang/String"
def RJ1 : String := "java/lang/StringLatin1"
def RJ2 : String := "java/lang/StringUTF16"
def RJ3 : String := "jdk/internal/util/Preconditions"
def RL : String := "ClaimTreesLaw"
abbrev vwCl : List vw_C := [(RX0, TX0, 4), (RX1, TX1, 10), (RX2, TX2, 3), (RX3, TX3, 12), (RX4, TX4, 4), (RX5, TX5, 10), (RX6, TX6, 6), (RX7, TX7, 5), (RX8, TX8, 1), (RX9, TX9, 6), (RX10, TX10, 11), (RX11, TX11, 41)]
