/-! NAMES (classes, fields: the claim's own, printed), methods, links by their places in lw_tbl (wip/whole/gennames.py) -/
def RX0 : String := "InvariantWorks$Bases"
def TX0 : u_T := fun k => match k with
  | 0 => ("InvariantWorks$Bases", "mover", "LInvariantWorks$Mover;", true)
  | 1 => ("InvariantWorks$Bases", "echelon", "LInvariantWorks$Echelon;", true)
  | 2 => ("InvariantWorks$Bases", "shape", "LInvariantWorks$Shape;", false)
  | 3 => ("InvariantWorks$Bases", "members", "LInvariantWorks$Members;", false)
  | 4 => ("InvariantWorks$Bases", "sizes", "[I", true)
  | 5 => ("InvariantWorks$Bases", "grades", "[LInvariantWorks$Grade;", true)
  | 6 => ("InvariantWorks$Bases", "monomial", "[I", true)
  | 7 => ("InvariantWorks$Bases", "sum", "[I", true)
  | _ => ("InvariantWorks$Bases", "piece", "LInvariantWorks$Piece;", true)
def tyX0 : Nat → FieldType := fun k => match k with
  | 0 => .object "InvariantWorks$Mover"
  | 1 => .object "InvariantWorks$Echelon"
  | 2 => .object "InvariantWorks$Shape"
  | 3 => .object "InvariantWorks$Members"
  | 4 => .array .int
  | 5 => .array (.object "InvariantWorks$Grade")
  | 6 => .array .int
  | 7 => .array .int
  | _ => .object "InvariantWorks$Piece"
theorem nmX0 : ∀ a, a < 9 → ∀ b, b < 9 → a ≠ b → (TX0 a).2.1 ≠ (TX0 b).2.1 := by decide +kernel
theorem tyX0_ok : ∀ k, k < 9 → parseFieldDescriptor (TX0 k).2.2.1 = some (tyX0 k) := by decide +kernel
def RX1 : String := "InvariantWorks$Echelon"
def TX1 : u_T := fun k => match k with
  | 0 => ("InvariantWorks$Echelon", "columns", "I", false)
  | 1 => ("InvariantWorks$Echelon", "rank", "I", false)
  | 2 => ("InvariantWorks$Echelon", "rows", "[I", false)
  | _ => ("InvariantWorks$Echelon", "rowAt", "[I", true)
def tyX1 : Nat → FieldType := fun k => match k with
  | 0 => .int
  | 1 => .int
  | 2 => .array .int
  | _ => .array .int
theorem nmX1 : ∀ a, a < 4 → ∀ b, b < 4 → a ≠ b → (TX1 a).2.1 ≠ (TX1 b).2.1 := by decide +kernel
theorem tyX1_ok : ∀ k, k < 4 → parseFieldDescriptor (TX1 k).2.2.1 = some (tyX1 k) := by decide +kernel
def RX2 : String := "InvariantWorks$Grade"
def TX2 : u_T := fun k => match k with
  | 0 => ("InvariantWorks$Grade", "degree", "I", true)
  | 1 => ("InvariantWorks$Grade", "known", "Z", false)
  | 2 => ("InvariantWorks$Grade", "many", "I", false)
  | 3 => ("InvariantWorks$Grade", "size", "I", false)
  | 4 => ("InvariantWorks$Grade", "rows", "[I", false)
  | 5 => ("InvariantWorks$Grade", "heads", "[I", false)
  | 6 => ("InvariantWorks$Grade", "made", "I", false)
  | 7 => ("InvariantWorks$Grade", "products", "[I", false)
  | 8 => ("InvariantWorks$Grade", "labels", "[I", false)
  | 9 => ("InvariantWorks$Grade", "triangles", "[I", false)
  | _ => ("InvariantWorks$Grade", "order", "[I", false)
def tyX2 : Nat → FieldType := fun k => match k with
  | 0 => .int
  | 1 => .boolean
  | 2 => .int
  | 3 => .int
  | 4 => .array .int
  | 5 => .array .int
  | 6 => .int
  | 7 => .array .int
  | 8 => .array .int
  | 9 => .array .int
  | _ => .array .int
theorem nmX2 : ∀ a, a < 11 → ∀ b, b < 11 → a ≠ b → (TX2 a).2.1 ≠ (TX2 b).2.1 := by decide +kernel
theorem tyX2_ok : ∀ k, k < 11 → parseFieldDescriptor (TX2 k).2.2.1 = some (tyX2 k) := by decide +kernel
def RX3 : String := "InvariantWorks$Members"
def TX3 : u_T := fun k => match k with
  | 0 => ("InvariantWorks$Members", "variables", "I", false)
  | 1 => ("InvariantWorks$Members", "tables", "I", false)
  | 2 => ("InvariantWorks$Members", "many", "I", false)
  | 3 => ("InvariantWorks$Members", "told", "[I", true)
  | 4 => ("InvariantWorks$Members", "cells", "[I", true)
  | 5 => ("InvariantWorks$Members", "steps", "[I", true)
  | 6 => ("InvariantWorks$Members", "products", "[I", true)
  | 7 => ("InvariantWorks$Members", "inverses", "[I", true)
  | 8 => ("InvariantWorks$Members", "orders", "[I", true)
  | 9 => ("InvariantWorks$Members", "cameFrom", "[I", true)
  | 10 => ("InvariantWorks$Members", "cameBy", "[I", true)
  | _ => ("InvariantWorks$Members", "candidate", "[I", true)
def tyX3 : Nat → FieldType := fun k => match k with
  | 0 => .int
  | 1 => .int
  | 2 => .int
  | 3 => .array .int
  | 4 => .array .int
  | 5 => .array .int
  | 6 => .array .int
  | 7 => .array .int
  | 8 => .array .int
  | 9 => .array .int
  | 10 => .array .int
  | _ => .array .int
theorem nmX3 : ∀ a, a < 12 → ∀ b, b < 12 → a ≠ b → (TX3 a).2.1 ≠ (TX3 b).2.1 := by decide +kernel
theorem tyX3_ok : ∀ k, k < 12 → parseFieldDescriptor (TX3 k).2.2.1 = some (tyX3 k) := by decide +kernel
def RX4 : String := "InvariantWorks$Mover"
def TX4 : u_T := fun k => match k with
  | 0 => ("InvariantWorks$Mover", "shape", "LInvariantWorks$Shape;", false)
  | 1 => ("InvariantWorks$Mover", "members", "LInvariantWorks$Members;", false)
  | 2 => ("InvariantWorks$Mover", "forms", "[I", true)
  | 3 => ("InvariantWorks$Mover", "straight", "Z", false)
  | 4 => ("InvariantWorks$Mover", "target", "[I", true)
  | 5 => ("InvariantWorks$Mover", "scale", "[I", true)
  | 6 => ("InvariantWorks$Mover", "powers", "[I", true)
  | 7 => ("InvariantWorks$Mover", "outer", "[I", true)
  | 8 => ("InvariantWorks$Mover", "inner", "[I", true)
  | 9 => ("InvariantWorks$Mover", "lastPowers", "[I", true)
  | 10 => ("InvariantWorks$Mover", "lastTop", "I", false)
  | _ => ("InvariantWorks$Mover", "part", "LInvariantWorks$Piece;", true)
def tyX4 : Nat → FieldType := fun k => match k with
  | 0 => .object "InvariantWorks$Shape"
  | 1 => .object "InvariantWorks$Members"
  | 2 => .array .int
  | 3 => .boolean
  | 4 => .array .int
  | 5 => .array .int
  | 6 => .array .int
  | 7 => .array .int
  | 8 => .array .int
  | 9 => .array .int
  | 10 => .int
  | _ => .object "InvariantWorks$Piece"
theorem nmX4 : ∀ a, a < 12 → ∀ b, b < 12 → a ≠ b → (TX4 a).2.1 ≠ (TX4 b).2.1 := by decide +kernel
theorem tyX4_ok : ∀ k, k < 12 → parseFieldDescriptor (TX4 k).2.2.1 = some (tyX4 k) := by decide +kernel
def RX5 : String := "InvariantWorks$Piece"
def TX5 : u_T := fun k => match k with
  | 0 => ("InvariantWorks$Piece", "row", "[I", false)
  | 1 => ("InvariantWorks$Piece", "at", "I", false)
  | _ => ("InvariantWorks$Piece", "degree", "I", false)
def tyX5 : Nat → FieldType := fun k => match k with
  | 0 => .array .int
  | 1 => .int
  | _ => .int
theorem nmX5 : ∀ a, a < 3 → ∀ b, b < 3 → a ≠ b → (TX5 a).2.1 ≠ (TX5 b).2.1 := by decide +kernel
theorem tyX5_ok : ∀ k, k < 3 → parseFieldDescriptor (TX5 k).2.2.1 = some (tyX5 k) := by decide +kernel
def RX6 : String := "InvariantWorks$PrimarySearch"
def TX6 : u_T := fun k => match k with
  | 0 => ("InvariantWorks$PrimarySearch", "bases", "LInvariantWorks$Bases;", true)
  | 1 => ("InvariantWorks$PrimarySearch", "echelon", "LInvariantWorks$Echelon;", true)
  | 2 => ("InvariantWorks$PrimarySearch", "shape", "LInvariantWorks$Shape;", false)
  | 3 => ("InvariantWorks$PrimarySearch", "members", "I", false)
  | 4 => ("InvariantWorks$PrimarySearch", "searched", "Z", false)
  | 5 => ("InvariantWorks$PrimarySearch", "found", "Z", false)
  | 6 => ("InvariantWorks$PrimarySearch", "asked", "I", false)
  | 7 => ("InvariantWorks$PrimarySearch", "candidates", "I", false)
  | 8 => ("InvariantWorks$PrimarySearch", "candidateDegrees", "[I", true)
  | 9 => ("InvariantWorks$PrimarySearch", "candidateRows", "[I", true)
  | 10 => ("InvariantWorks$PrimarySearch", "spread", "[I", true)
  | 11 => ("InvariantWorks$PrimarySearch", "pieces", "[LInvariantWorks$Piece;", true)
  | 12 => ("InvariantWorks$PrimarySearch", "degrees", "[I", true)
  | _ => ("InvariantWorks$PrimarySearch", "rows", "[I", true)
def tyX6 : Nat → FieldType := fun k => match k with
  | 0 => .object "InvariantWorks$Bases"
  | 1 => .object "InvariantWorks$Echelon"
  | 2 => .object "InvariantWorks$Shape"
  | 3 => .int
  | 4 => .boolean
  | 5 => .boolean
  | 6 => .int
  | 7 => .int
  | 8 => .array .int
  | 9 => .array .int
  | 10 => .array .int
  | 11 => .array (.object "InvariantWorks$Piece")
  | 12 => .array .int
  | _ => .array .int
theorem nmX6 : ∀ a, a < 14 → ∀ b, b < 14 → a ≠ b → (TX6 a).2.1 ≠ (TX6 b).2.1 := by decide +kernel
theorem tyX6_ok : ∀ k, k < 14 → parseFieldDescriptor (TX6 k).2.2.1 = some (tyX6 k) := by decide +kernel
def RX7 : String := "InvariantWorks$Reader"
def TX7 : u_T := fun k => match k with
  | 0 => ("InvariantWorks$Reader", "text", "[B", true)
  | 1 => ("InvariantWorks$Reader", "firsts", "[I", true)
  | 2 => ("InvariantWorks$Reader", "length", "I", false)
  | 3 => ("InvariantWorks$Reader", "next", "I", false)
  | 4 => ("InvariantWorks$Reader", "place", "I", false)
  | 5 => ("InvariantWorks$Reader", "kind", "I", false)
  | 6 => ("InvariantWorks$Reader", "value", "I", false)
  | 7 => ("InvariantWorks$Reader", "digits", "I", false)
  | _ => ("InvariantWorks$Reader", "fault", "I", false)
def tyX7 : Nat → FieldType := fun k => match k with
  | 0 => .array .byte
  | 1 => .array .int
  | 2 => .int
  | 3 => .int
  | 4 => .int
  | 5 => .int
  | 6 => .int
  | 7 => .int
  | _ => .int
theorem nmX7 : ∀ a, a < 9 → ∀ b, b < 9 → a ≠ b → (TX7 a).2.1 ≠ (TX7 b).2.1 := by decide +kernel
theorem tyX7_ok : ∀ k, k < 9 → parseFieldDescriptor (TX7 k).2.2.1 = some (tyX7 k) := by decide +kernel
def RX8 : String := "InvariantWorks$Rewriter"
def TX8 : u_T := fun k => match k with
  | 0 => ("InvariantWorks$Rewriter", "bases", "LInvariantWorks$Bases;", true)
  | 1 => ("InvariantWorks$Rewriter", "search", "LInvariantWorks$PrimarySearch;", true)
  | 2 => ("InvariantWorks$Rewriter", "shape", "LInvariantWorks$Shape;", false)
  | 3 => ("InvariantWorks$Rewriter", "many", "I", false)
  | 4 => ("InvariantWorks$Rewriter", "top", "I", false)
  | 5 => ("InvariantWorks$Rewriter", "degrees", "[I", true)
  | 6 => ("InvariantWorks$Rewriter", "rows", "[I", true)
  | 7 => ("InvariantWorks$Rewriter", "told", "I", false)
  | 8 => ("InvariantWorks$Rewriter", "factors", "[I", true)
  | 9 => ("InvariantWorks$Rewriter", "relatedLeft", "I", false)
  | 10 => ("InvariantWorks$Rewriter", "relatedRight", "I", false)
  | 11 => ("InvariantWorks$Rewriter", "related", "[I", true)
  | 12 => ("InvariantWorks$Rewriter", "parts", "[I", true)
  | 13 => ("InvariantWorks$Rewriter", "sum", "[I", true)
  | 14 => ("InvariantWorks$Rewriter", "left", "LInvariantWorks$Piece;", true)
  | _ => ("InvariantWorks$Rewriter", "right", "LInvariantWorks$Piece;", true)
def tyX8 : Nat → FieldType := fun k => match k with
  | 0 => .object "InvariantWorks$Bases"
  | 1 => .object "InvariantWorks$PrimarySearch"
  | 2 => .object "InvariantWorks$Shape"
  | 3 => .int
  | 4 => .int
  | 5 => .array .int
  | 6 => .array .int
  | 7 => .int
  | 8 => .array .int
  | 9 => .int
  | 10 => .int
  | 11 => .array .int
  | 12 => .array .int
  | 13 => .array .int
  | 14 => .object "InvariantWorks$Piece"
  | _ => .object "InvariantWorks$Piece"
theorem nmX8 : ∀ a, a < 16 → ∀ b, b < 16 → a ≠ b → (TX8 a).2.1 ≠ (TX8 b).2.1 := by decide +kernel
theorem tyX8_ok : ∀ k, k < 16 → parseFieldDescriptor (TX8 k).2.2.1 = some (tyX8 k) := by decide +kernel
def RX9 : String := "InvariantWorks$Shape"
def TX9 : u_T := fun k => match k with
  | 0 => ("InvariantWorks$Shape", "variables", "I", true)
  | 1 => ("InvariantWorks$Shape", "size", "I", true)
  | 2 => ("InvariantWorks$Shape", "first", "[I", true)
  | 3 => ("InvariantWorks$Shape", "start", "[I", true)
  | 4 => ("InvariantWorks$Shape", "block", "[I", true)
  | 5 => ("InvariantWorks$Shape", "wide", "[I", true)
  | 6 => ("InvariantWorks$Shape", "left", "LInvariantWorks$Piece;", true)
  | _ => ("InvariantWorks$Shape", "right", "LInvariantWorks$Piece;", true)
def tyX9 : Nat → FieldType := fun k => match k with
  | 0 => .int
  | 1 => .int
  | 2 => .array .int
  | 3 => .array .int
  | 4 => .array .int
  | 5 => .array .int
  | 6 => .object "InvariantWorks$Piece"
  | _ => .object "InvariantWorks$Piece"
theorem nmX9 : ∀ a, a < 8 → ∀ b, b < 8 → a ≠ b → (TX9 a).2.1 ≠ (TX9 b).2.1 := by decide +kernel
theorem tyX9_ok : ∀ k, k < 8 → parseFieldDescriptor (TX9 k).2.2.1 = some (tyX9 k) := by decide +kernel
def RX10 : String := "InvariantWorks$SumReader"
def TX10 : u_T := fun k => match k with
  | 0 => ("InvariantWorks$SumReader", "reader", "LInvariantWorks$Reader;", true)
  | 1 => ("InvariantWorks$SumReader", "shape", "LInvariantWorks$Shape;", false)
  | 2 => ("InvariantWorks$SumReader", "rows", "[[I", false)
  | 3 => ("InvariantWorks$SumReader", "part", "I", false)
  | 4 => ("InvariantWorks$SumReader", "other", "I", false)
  | 5 => ("InvariantWorks$SumReader", "result", "I", false)
  | _ => ("InvariantWorks$SumReader", "tooHigh", "Z", false)
def tyX10 : Nat → FieldType := fun k => match k with
  | 0 => .object "InvariantWorks$Reader"
  | 1 => .object "InvariantWorks$Shape"
  | 2 => .array (.array .int)
  | 3 => .int
  | 4 => .int
  | 5 => .int
  | _ => .boolean
theorem nmX10 : ∀ a, a < 7 → ∀ b, b < 7 → a ≠ b → (TX10 a).2.1 ≠ (TX10 b).2.1 := by decide +kernel
theorem tyX10_ok : ∀ k, k < 7 → parseFieldDescriptor (TX10 k).2.2.1 = some (tyX10 k) := by decide +kernel
def RX11 : String := "InvariantWorks"
def TX11 : u_T := fun k => match k with
  | 0 => ("InvariantWorks", "tape", "[B", true)
  | 1 => ("InvariantWorks", "taped", "I", false)
  | 2 => ("InvariantWorks", "kept", "[[I", true)
  | 3 => ("InvariantWorks", "fresh", "[I", true)
  | 4 => ("InvariantWorks", "plane", "LInvariantWorks$Shape;", true)
  | 5 => ("InvariantWorks", "space", "LInvariantWorks$Shape;", true)
  | 6 => ("InvariantWorks", "shape", "LInvariantWorks$Shape;", false)
  | 7 => ("InvariantWorks", "members", "LInvariantWorks$Members;", false)
  | 8 => ("InvariantWorks", "spare", "LInvariantWorks$Members;", false)
  | 9 => ("InvariantWorks", "reader", "LInvariantWorks$Reader;", true)
  | 10 => ("InvariantWorks", "sumReader", "LInvariantWorks$SumReader;", true)
  | 11 => ("InvariantWorks", "mover", "LInvariantWorks$Mover;", true)
  | 12 => ("InvariantWorks", "echelon", "LInvariantWorks$Echelon;", true)
  | 13 => ("InvariantWorks", "bases", "LInvariantWorks$Bases;", true)
  | 14 => ("InvariantWorks", "search", "LInvariantWorks$PrimarySearch;", true)
  | _ => ("InvariantWorks", "rewriter", "LInvariantWorks$Rewriter;", true)
def tyX11 : Nat → FieldType := fun k => match k with
  | 0 => .array .byte
  | 1 => .int
  | 2 => .array (.array .int)
  | 3 => .array .int
  | 4 => .object "InvariantWorks$Shape"
  | 5 => .object "InvariantWorks$Shape"
  | 6 => .object "InvariantWorks$Shape"
  | 7 => .object "InvariantWorks$Members"
  | 8 => .object "InvariantWorks$Members"
  | 9 => .object "InvariantWorks$Reader"
  | 10 => .object "InvariantWorks$SumReader"
  | 11 => .object "InvariantWorks$Mover"
  | 12 => .object "InvariantWorks$Echelon"
  | 13 => .object "InvariantWorks$Bases"
  | 14 => .object "InvariantWorks$PrimarySearch"
  | _ => .object "InvariantWorks$Rewriter"
theorem nmX11 : ∀ a, a < 16 → ∀ b, b < 16 → a ≠ b → (TX11 a).2.1 ≠ (TX11 b).2.1 := by decide +kernel
theorem tyX11_ok : ∀ k, k < 16 → parseFieldDescriptor (TX11 k).2.2.1 = some (tyX11 k) := by decide +kernel
def RX12 : String := "InvariantWorksModel"
def TX12 : u_T := fun k => match k with
  | 0 => ("InvariantWorksModel", "thrown", "I", false)
  | 1 => ("InvariantWorksModel", "d", "I", false)
  | 2 => ("InvariantWorksModel", "ea", "[I", true)
  | 3 => ("InvariantWorksModel", "eb", "[I", true)
  | 4 => ("InvariantWorksModel", "ec", "[I", true)
  | 5 => ("InvariantWorksModel", "kept", "[I", true)
  | 6 => ("InvariantWorksModel", "work", "[I", true)
  | 7 => ("InvariantWorksModel", "other", "[I", true)
  | 8 => ("InvariantWorksModel", "made", "[I", true)
  | 9 => ("InvariantWorksModel", "tableMany", "I", false)
  | 10 => ("InvariantWorksModel", "tables", "[I", true)
  | 11 => ("InvariantWorksModel", "members", "I", false)
  | 12 => ("InvariantWorksModel", "member", "[I", true)
  | 13 => ("InvariantWorksModel", "tape", "[B", true)
  | 14 => ("InvariantWorksModel", "taped", "I", false)
  | 15 => ("InvariantWorksModel", "size", "I", false)
  | 16 => ("InvariantWorksModel", "begin", "I", false)
  | 17 => ("InvariantWorksModel", "next", "I", false)
  | 18 => ("InvariantWorksModel", "token", "I", false)
  | 19 => ("InvariantWorksModel", "value", "I", false)
  | 20 => ("InvariantWorksModel", "fault", "I", false)
  | 21 => ("InvariantWorksModel", "readTables", "[I", true)
  | 22 => ("InvariantWorksModel", "readPlaces", "[I", true)
  | 23 => ("InvariantWorksModel", "readD", "I", false)
  | 24 => ("InvariantWorksModel", "readMany", "I", false)
  | 25 => ("InvariantWorksModel", "wasTables", "[I", true)
  | 26 => ("InvariantWorksModel", "stack", "[I", true)
  | 27 => ("InvariantWorksModel", "top", "I", false)
  | 28 => ("InvariantWorksModel", "isGreat", "Z", false)
  | 29 => ("InvariantWorksModel", "open", "I", false)
  | 30 => ("InvariantWorksModel", "image", "[I", true)
  | 31 => ("InvariantWorksModel", "orbit", "[I", true)
  | 32 => ("InvariantWorksModel", "matrix", "[I", true)
  | 33 => ("InvariantWorksModel", "pivots", "[I", true)
  | 34 => ("InvariantWorksModel", "baseMany", "[I", true)
  | 35 => ("InvariantWorksModel", "baseFrom", "[I", true)
  | 36 => ("InvariantWorksModel", "bases", "[I", true)
  | 37 => ("InvariantWorksModel", "based", "I", false)
  | 38 => ("InvariantWorksModel", "isPivot", "[Z", true)
  | 39 => ("InvariantWorksModel", "free", "[I", true)
  | 40 => ("InvariantWorksModel", "three", "[I", true)
  | 41 => ("InvariantWorksModel", "arePrimary", "Z", false)
  | 42 => ("InvariantWorksModel", "hasPrimary", "Z", false)
  | 43 => ("InvariantWorksModel", "primaryDegree", "[I", true)
  | 44 => ("InvariantWorksModel", "primaryRow", "[I", true)
  | 45 => ("InvariantWorksModel", "primary", "[I", true)
  | 46 => ("InvariantWorksModel", "candidates", "I", false)
  | 47 => ("InvariantWorksModel", "candidateDegree", "[I", true)
  | 48 => ("InvariantWorksModel", "candidateRow", "[I", true)
  | 49 => ("InvariantWorksModel", "asked", "I", false)
  | 50 => ("InvariantWorksModel", "secondaries", "I", false)
  | 51 => ("InvariantWorksModel", "secondDegree", "[I", true)
  | 52 => ("InvariantWorksModel", "secondRow", "[I", true)
  | 53 => ("InvariantWorksModel", "products", "I", false)
  | 54 => ("InvariantWorksModel", "productOf", "[I", true)
  | 55 => ("InvariantWorksModel", "powersA", "[I", true)
  | 56 => ("InvariantWorksModel", "powersB", "[I", true)
  | 57 => ("InvariantWorksModel", "powersC", "[I", true)
  | 58 => ("InvariantWorksModel", "rewrites", "I", false)
  | 59 => ("InvariantWorksModel", "rewriteRows", "[I", true)
  | 60 => ("InvariantWorksModel", "found", "I", false)
  | 61 => ("InvariantWorksModel", "foundRows", "[I", true)
  | _ => ("InvariantWorksModel", "column", "[I", true)
def tyX12 : Nat → FieldType := fun k => match k with
  | 0 => .int
  | 1 => .int
  | 2 => .array .int
  | 3 => .array .int
  | 4 => .array .int
  | 5 => .array .int
  | 6 => .array .int
  | 7 => .array .int
  | 8 => .array .int
  | 9 => .int
  | 10 => .array .int
  | 11 => .int
  | 12 => .array .int
  | 13 => .array .byte
  | 14 => .int
  | 15 => .int
  | 16 => .int
  | 17 => .int
  | 18 => .int
  | 19 => .int
  | 20 => .int
  | 21 => .array .int
  | 22 => .array .int
  | 23 => .int
  | 24 => .int
  | 25 => .array .int
  | 26 => .array .int
  | 27 => .int
  | 28 => .boolean
  | 29 => .int
  | 30 => .array .int
  | 31 => .array .int
  | 32 => .array .int
  | 33 => .array .int
  | 34 => .array .int
  | 35 => .array .int
  | 36 => .array .int
  | 37 => .int
  | 38 => .array .boolean
  | 39 => .array .int
  | 40 => .array .int
  | 41 => .boolean
  | 42 => .boolean
  | 43 => .array .int
  | 44 => .array .int
  | 45 => .array .int
  | 46 => .int
  | 47 => .array .int
  | 48 => .array .int
  | 49 => .int
  | 50 => .int
  | 51 => .array .int
  | 52 => .array .int
  | 53 => .int
  | 54 => .array .int
  | 55 => .array .int
  | 56 => .array .int
  | 57 => .array .int
  | 58 => .int
  | 59 => .array .int
  | 60 => .int
  | 61 => .array .int
  | _ => .array .int
theorem nmX12 : ∀ a, a < 63 → ∀ b, b < 63 → a ≠ b → (TX12 a).2.1 ≠ (TX12 b).2.1 := by decide +kernel
theorem tyX12_ok : ∀ k, k < 63 → parseFieldDescriptor (TX12 k).2.2.1 = some (tyX12 k) := by decide +kernel
abbrev vwCl : List vw_C := [(RX0, TX0, 9), (RX1, TX1, 4), (RX2, TX2, 11), (RX3, TX3, 12), (RX4, TX4, 12), (RX5, TX5, 3), (RX6, TX6, 14), (RX7, TX7, 9), (RX8, TX8, 16), (RX9, TX9, 8), (RX10, TX10, 7), (RX11, TX11, 16), (RX12, TX12, 63)]
def sm_fn : Nat → Nat := fun c => bif Nat.blt c 6 then (bif Nat.blt c 3 then (bif Nat.blt c 1 then (bif Nat.beq c 0 then 9 else 0) else (bif Nat.blt c 2 then (bif Nat.beq c 1 then 4 else 0) else (bif Nat.beq c 2 then 11 else 0))) else (bif Nat.blt c 4 then (bif Nat.beq c 3 then 12 else 0) else (bif Nat.blt c 5 then (bif Nat.beq c 4 then 12 else 0) else (bif Nat.beq c 5 then 3 else 0)))) else (bif Nat.blt c 9 then (bif Nat.blt c 7 then (bif Nat.beq c 6 then 14 else 0) else (bif Nat.blt c 8 then (bif Nat.beq c 7 then 9 else 0) else (bif Nat.beq c 8 then 16 else 0))) else (bif Nat.blt c 11 then (bif Nat.blt c 10 then (bif Nat.beq c 9 then 8 else 0) else (bif Nat.beq c 10 then 7 else 0)) else (bif Nat.blt c 12 then (bif Nat.beq c 11 then 16 else 0) else (bif Nat.beq c 12 then 63 else 0))))
def sm_fk : Nat → Nat → Option Nat := fun c j => bif Nat.blt c 6 then (bif Nat.blt c 3 then (bif Nat.blt c 1 then (bif Nat.beq c 0 then bif Nat.blt j 4 then (bif Nat.blt j 2 then (bif Nat.blt j 1 then (bif Nat.beq j 0 then some 4 else none) else (bif Nat.beq j 1 then some 1 else none)) else (bif Nat.blt j 3 then (bif Nat.beq j 2 then some 9 else none) else (bif Nat.beq j 3 then some 3 else none))) else (bif Nat.blt j 6 then (bif Nat.blt j 5 then (bif Nat.beq j 4 then some 20 else none) else (bif Nat.beq j 5 then some 24 else none)) else (bif Nat.blt j 7 then (bif Nat.beq j 6 then some 20 else none) else (bif Nat.blt j 8 then (bif Nat.beq j 7 then some 20 else none) else (bif Nat.beq j 8 then some 5 else none)))) else none) else (bif Nat.blt c 2 then (bif Nat.beq c 1 then bif Nat.blt j 3 then (bif Nat.beq j 2 then some 20 else none) else (bif Nat.beq j 3 then some 20 else none) else none) else (bif Nat.beq c 2 then bif Nat.blt j 8 then (bif Nat.blt j 5 then (bif Nat.beq j 4 then some 20 else none) else (bif Nat.blt j 7 then (bif Nat.beq j 5 then some 20 else none) else (bif Nat.beq j 7 then some 20 else none))) else (bif Nat.blt j 9 then (bif Nat.beq j 8 then some 20 else none) else (bif Nat.blt j 10 then (bif Nat.beq j 9 then some 20 else none) else (bif Nat.beq j 10 then some 20 else none))) else none))) else (bif Nat.blt c 4 then (bif Nat.beq c 3 then bif Nat.blt j 7 then (bif Nat.blt j 5 then (bif Nat.blt j 4 then (bif Nat.beq j 3 then some 20 else none) else (bif Nat.beq j 4 then some 20 else none)) else (bif Nat.blt j 6 then (bif Nat.beq j 5 then some 20 else none) else (bif Nat.beq j 6 then some 20 else none))) else (bif Nat.blt j 9 then (bif Nat.blt j 8 then (bif Nat.beq j 7 then some 20 else none) else (bif Nat.beq j 8 then some 20 else none)) else (bif Nat.blt j 10 then (bif Nat.beq j 9 then some 20 else none) else (bif Nat.blt j 11 then (bif Nat.beq j 10 then some 20 else none) else (bif Nat.beq j 11 then some 20 else none)))) else none) else (bif Nat.blt c 5 then (bif Nat.beq c 4 then bif Nat.blt j 6 then (bif Nat.blt j 2 then (bif Nat.blt j 1 then (bif Nat.beq j 0 then some 9 else none) else (bif Nat.beq j 1 then some 3 else none)) else (bif Nat.blt j 4 then (bif Nat.beq j 2 then some 20 else none) else (bif Nat.blt j 5 then (bif Nat.beq j 4 then some 20 else none) else (bif Nat.beq j 5 then some 20 else none)))) else (bif Nat.blt j 8 then (bif Nat.blt j 7 then (bif Nat.beq j 6 then some 20 else none) else (bif Nat.beq j 7 then some 20 else none)) else (bif Nat.blt j 9 then (bif Nat.beq j 8 then some 20 else none) else (bif Nat.blt j 11 then (bif Nat.beq j 9 then some 20 else none) else (bif Nat.beq j 11 then some 5 else none)))) else none) else (bif Nat.beq c 5 then bif Nat.beq j 0 then some 20 else none else none)))) else (bif Nat.blt c 9 then (bif Nat.blt c 7 then (bif Nat.beq c 6 then bif Nat.blt j 9 then (bif Nat.blt j 2 then (bif Nat.blt j 1 then (bif Nat.beq j 0 then some 0 else none) else (bif Nat.beq j 1 then some 1 else none)) else (bif Nat.blt j 8 then (bif Nat.beq j 2 then some 9 else none) else (bif Nat.beq j 8 then some 20 else none))) else (bif Nat.blt j 11 then (bif Nat.blt j 10 then (bif Nat.beq j 9 then some 20 else none) else (bif Nat.beq j 10 then some 20 else none)) else (bif Nat.blt j 12 then (bif Nat.beq j 11 then some 25 else none) else (bif Nat.blt j 13 then (bif Nat.beq j 12 then some 20 else none) else (bif Nat.beq j 13 then some 20 else none)))) else none) else (bif Nat.blt c 8 then (bif Nat.beq c 7 then bif Nat.blt j 1 then (bif Nat.beq j 0 then some 21 else none) else (bif Nat.beq j 1 then some 20 else none) else none) else (bif Nat.beq c 8 then bif Nat.blt j 8 then (bif Nat.blt j 2 then (bif Nat.blt j 1 then (bif Nat.beq j 0 then some 0 else none) else (bif Nat.beq j 1 then some 6 else none)) else (bif Nat.blt j 5 then (bif Nat.beq j 2 then some 9 else none) else (bif Nat.blt j 6 then (bif Nat.beq j 5 then some 20 else none) else (bif Nat.beq j 6 then some 20 else none)))) else (bif Nat.blt j 13 then (bif Nat.blt j 11 then (bif Nat.beq j 8 then some 20 else none) else (bif Nat.blt j 12 then (bif Nat.beq j 11 then some 20 else none) else (bif Nat.beq j 12 then some 20 else none))) else (bif Nat.blt j 14 then (bif Nat.beq j 13 then some 20 else none) else (bif Nat.blt j 15 then (bif Nat.beq j 14 then some 5 else none) else (bif Nat.beq j 15 then some 5 else none)))) else none))) else (bif Nat.blt c 11 then (bif Nat.blt c 10 then (bif Nat.beq c 9 then bif Nat.blt j 5 then (bif Nat.blt j 3 then (bif Nat.beq j 2 then some 20 else none) else (bif Nat.blt j 4 then (bif Nat.beq j 3 then some 20 else none) else (bif Nat.beq j 4 then some 20 else none))) else (bif Nat.blt j 6 then (bif Nat.beq j 5 then some 20 else none) else (bif Nat.blt j 7 then (bif Nat.beq j 6 then some 5 else none) else (bif Nat.beq j 7 then some 5 else none))) else none) else (bif Nat.beq c 10 then bif Nat.blt j 1 then (bif Nat.beq j 0 then some 7 else none) else (bif Nat.blt j 2 then (bif Nat.beq j 1 then some 9 else none) else (bif Nat.beq j 2 then some 23 else none)) else none)) else (bif Nat.blt c 12 then (bif Nat.beq c 11 then bif Nat.blt j 8 then (bif Nat.blt j 4 then (bif Nat.blt j 2 then (bif Nat.beq j 0 then some 21 else none) else (bif Nat.blt j 3 then (bif Nat.beq j 2 then some 23 else none) else (bif Nat.beq j 3 then some 20 else none))) else (bif Nat.blt j 6 then (bif Nat.blt j 5 then (bif Nat.beq j 4 then some 9 else none) else (bif Nat.beq j 5 then some 9 else none)) else (bif Nat.blt j 7 then (bif Nat.beq j 6 then some 9 else none) else (bif Nat.beq j 7 then some 3 else none)))) else (bif Nat.blt j 12 then (bif Nat.blt j 10 then (bif Nat.blt j 9 then (bif Nat.beq j 8 then some 3 else none) else (bif Nat.beq j 9 then some 7 else none)) else (bif Nat.blt j 11 then (bif Nat.beq j 10 then some 10 else none) else (bif Nat.beq j 11 then some 4 else none))) else (bif Nat.blt j 14 then (bif Nat.blt j 13 then (bif Nat.beq j 12 then some 1 else none) else (bif Nat.beq j 13 then some 0 else none)) else (bif Nat.blt j 15 then (bif Nat.beq j 14 then some 6 else none) else (bif Nat.beq j 15 then some 8 else none)))) else none) else (bif Nat.beq c 12 then bif Nat.blt j 35 then (bif Nat.blt j 13 then (bif Nat.blt j 6 then (bif Nat.blt j 4 then (bif Nat.blt j 3 then (bif Nat.beq j 2 then some 20 else none) else (bif Nat.beq j 3 then some 20 else none)) else (bif Nat.blt j 5 then (bif Nat.beq j 4 then some 20 else none) else (bif Nat.beq j 5 then some 20 else none))) else (bif Nat.blt j 8 then (bif Nat.blt j 7 then (bif Nat.beq j 6 then some 20 else none) else (bif Nat.beq j 7 then some 20 else none)) else (bif Nat.blt j 10 then (bif Nat.beq j 8 then some 20 else none) else (bif Nat.blt j 12 then (bif Nat.beq j 10 then some 20 else none) else (bif Nat.beq j 12 then some 20 else none))))) else (bif Nat.blt j 30 then (bif Nat.blt j 22 then (bif Nat.blt j 21 then (bif Nat.beq j 13 then some 21 else none) else (bif Nat.beq j 21 then some 20 else none)) else (bif Nat.blt j 25 then (bif Nat.beq j 22 then some 20 else none) else (bif Nat.blt j 26 then (bif Nat.beq j 25 then some 20 else none) else (bif Nat.beq j 26 then some 20 else none)))) else (bif Nat.blt j 32 then (bif Nat.blt j 31 then (bif Nat.beq j 30 then some 20 else none) else (bif Nat.beq j 31 then some 20 else none)) else (bif Nat.blt j 33 then (bif Nat.beq j 32 then some 20 else none) else (bif Nat.blt j 34 then (bif Nat.beq j 33 then some 20 else none) else (bif Nat.beq j 34 then some 20 else none)))))) else (bif Nat.blt j 48 then (bif Nat.blt j 40 then (bif Nat.blt j 38 then (bif Nat.blt j 36 then (bif Nat.beq j 35 then some 20 else none) else (bif Nat.beq j 36 then some 20 else none)) else (bif Nat.blt j 39 then (bif Nat.beq j 38 then some 22 else none) else (bif Nat.beq j 39 then some 20 else none))) else (bif Nat.blt j 44 then (bif Nat.blt j 43 then (bif Nat.beq j 40 then some 20 else none) else (bif Nat.beq j 43 then some 20 else none)) else (bif Nat.blt j 45 then (bif Nat.beq j 44 then some 20 else none) else (bif Nat.blt j 47 then (bif Nat.beq j 45 then some 20 else none) else (bif Nat.beq j 47 then some 20 else none))))) else (bif Nat.blt j 56 then (bif Nat.blt j 52 then (bif Nat.blt j 51 then (bif Nat.beq j 48 then some 20 else none) else (bif Nat.beq j 51 then some 20 else none)) else (bif Nat.blt j 54 then (bif Nat.beq j 52 then some 20 else none) else (bif Nat.blt j 55 then (bif Nat.beq j 54 then some 20 else none) else (bif Nat.beq j 55 then some 20 else none)))) else (bif Nat.blt j 59 then (bif Nat.blt j 57 then (bif Nat.beq j 56 then some 20 else none) else (bif Nat.beq j 57 then some 20 else none)) else (bif Nat.blt j 61 then (bif Nat.beq j 59 then some 20 else none) else (bif Nat.blt j 62 then (bif Nat.beq j 61 then some 20 else none) else (bif Nat.beq j 62 then some 20 else none)))))) else none))))
def sm_fz : Nat → Nat → Bool := fun c j => bif Nat.blt c 6 then (bif Nat.blt c 3 then (bif Nat.blt c 1 then (bif Nat.beq c 0 then false else false) else (bif Nat.blt c 2 then (bif Nat.beq c 1 then false else false) else (bif Nat.beq c 2 then bif Nat.beq j 1 then true else false else false))) else (bif Nat.blt c 4 then (bif Nat.beq c 3 then false else false) else (bif Nat.blt c 5 then (bif Nat.beq c 4 then bif Nat.beq j 3 then true else false else false) else (bif Nat.beq c 5 then false else false)))) else (bif Nat.blt c 9 then (bif Nat.blt c 7 then (bif Nat.beq c 6 then bif Nat.blt j 5 then (bif Nat.beq j 4 then true else false) else (bif Nat.beq j 5 then true else false) else false) else (bif Nat.blt c 8 then (bif Nat.beq c 7 then false else false) else (bif Nat.beq c 8 then false else false))) else (bif Nat.blt c 11 then (bif Nat.blt c 10 then (bif Nat.beq c 9 then false else false) else (bif Nat.beq c 10 then bif Nat.beq j 6 then true else false else false)) else (bif Nat.blt c 12 then (bif Nat.beq c 11 then false else false) else (bif Nat.beq c 12 then bif Nat.blt j 41 then (bif Nat.beq j 28 then true else false) else (bif Nat.blt j 42 then (bif Nat.beq j 41 then true else false) else (bif Nat.beq j 42 then true else false)) else false))))
def sm_ff : Nat → Nat → Bool := fun c j => bif Nat.blt c 6 then (bif Nat.blt c 3 then (bif Nat.blt c 1 then (bif Nat.beq c 0 then bif Nat.blt j 5 then (bif Nat.blt j 1 then (bif Nat.beq j 0 then true else false) else (bif Nat.blt j 4 then (bif Nat.beq j 1 then true else false) else (bif Nat.beq j 4 then true else false))) else (bif Nat.blt j 7 then (bif Nat.blt j 6 then (bif Nat.beq j 5 then true else false) else (bif Nat.beq j 6 then true else false)) else (bif Nat.blt j 8 then (bif Nat.beq j 7 then true else false) else (bif Nat.beq j 8 then true else false))) else false) else (bif Nat.blt c 2 then (bif Nat.beq c 1 then bif Nat.beq j 3 then true else false else false) else (bif Nat.beq c 2 then bif Nat.beq j 0 then true else false else false))) else (bif Nat.blt c 4 then (bif Nat.beq c 3 then bif Nat.blt j 7 then (bif Nat.blt j 5 then (bif Nat.blt j 4 then (bif Nat.beq j 3 then true else false) else (bif Nat.beq j 4 then true else false)) else (bif Nat.blt j 6 then (bif Nat.beq j 5 then true else false) else (bif Nat.beq j 6 then true else false))) else (bif Nat.blt j 9 then (bif Nat.blt j 8 then (bif Nat.beq j 7 then true else false) else (bif Nat.beq j 8 then true else false)) else (bif Nat.blt j 10 then (bif Nat.beq j 9 then true else false) else (bif Nat.blt j 11 then (bif Nat.beq j 10 then true else false) else (bif Nat.beq j 11 then true else false)))) else false) else (bif Nat.blt c 5 then (bif Nat.beq c 4 then bif Nat.blt j 7 then (bif Nat.blt j 5 then (bif Nat.blt j 4 then (bif Nat.beq j 2 then true else false) else (bif Nat.beq j 4 then true else false)) else (bif Nat.blt j 6 then (bif Nat.beq j 5 then true else false) else (bif Nat.beq j 6 then true else false))) else (bif Nat.blt j 9 then (bif Nat.blt j 8 then (bif Nat.beq j 7 then true else false) else (bif Nat.beq j 8 then true else false)) else (bif Nat.blt j 11 then (bif Nat.beq j 9 then true else false) else (bif Nat.beq j 11 then true else false))) else false) else (bif Nat.beq c 5 then false else false)))) else (bif Nat.blt c 9 then (bif Nat.blt c 7 then (bif Nat.beq c 6 then bif Nat.blt j 10 then (bif Nat.blt j 8 then (bif Nat.blt j 1 then (bif Nat.beq j 0 then true else false) else (bif Nat.beq j 1 then true else false)) else (bif Nat.blt j 9 then (bif Nat.beq j 8 then true else false) else (bif Nat.beq j 9 then true else false))) else (bif Nat.blt j 12 then (bif Nat.blt j 11 then (bif Nat.beq j 10 then true else false) else (bif Nat.beq j 11 then true else false)) else (bif Nat.blt j 13 then (bif Nat.beq j 12 then true else false) else (bif Nat.beq j 13 then true else false))) else false) else (bif Nat.blt c 8 then (bif Nat.beq c 7 then bif Nat.blt j 1 then (bif Nat.beq j 0 then true else false) else (bif Nat.beq j 1 then true else false) else false) else (bif Nat.beq c 8 then bif Nat.blt j 11 then (bif Nat.blt j 5 then (bif Nat.blt j 1 then (bif Nat.beq j 0 then true else false) else (bif Nat.beq j 1 then true else false)) else (bif Nat.blt j 6 then (bif Nat.beq j 5 then true else false) else (bif Nat.blt j 8 then (bif Nat.beq j 6 then true else false) else (bif Nat.beq j 8 then true else false)))) else (bif Nat.blt j 13 then (bif Nat.blt j 12 then (bif Nat.beq j 11 then true else false) else (bif Nat.beq j 12 then true else false)) else (bif Nat.blt j 14 then (bif Nat.beq j 13 then true else false) else (bif Nat.blt j 15 then (bif Nat.beq j 14 then true else false) else (bif Nat.beq j 15 then true else false)))) else false))) else (bif Nat.blt c 11 then (bif Nat.blt c 10 then (bif Nat.beq c 9 then bif Nat.blt j 4 then (bif Nat.blt j 2 then (bif Nat.blt j 1 then (bif Nat.beq j 0 then true else false) else (bif Nat.beq j 1 then true else false)) else (bif Nat.blt j 3 then (bif Nat.beq j 2 then true else false) else (bif Nat.beq j 3 then true else false))) else (bif Nat.blt j 6 then (bif Nat.blt j 5 then (bif Nat.beq j 4 then true else false) else (bif Nat.beq j 5 then true else false)) else (bif Nat.blt j 7 then (bif Nat.beq j 6 then true else false) else (bif Nat.beq j 7 then true else false))) else false) else (bif Nat.beq c 10 then bif Nat.beq j 0 then true else false else false)) else (bif Nat.blt c 12 then (bif Nat.beq c 11 then bif Nat.blt j 10 then (bif Nat.blt j 4 then (bif Nat.blt j 2 then (bif Nat.beq j 0 then true else false) else (bif Nat.blt j 3 then (bif Nat.beq j 2 then true else false) else (bif Nat.beq j 3 then true else false))) else (bif Nat.blt j 5 then (bif Nat.beq j 4 then true else false) else (bif Nat.blt j 9 then (bif Nat.beq j 5 then true else false) else (bif Nat.beq j 9 then true else false)))) else (bif Nat.blt j 13 then (bif Nat.blt j 11 then (bif Nat.beq j 10 then true else false) else (bif Nat.blt j 12 then (bif Nat.beq j 11 then true else false) else (bif Nat.beq j 12 then true else false))) else (bif Nat.blt j 14 then (bif Nat.beq j 13 then true else false) else (bif Nat.blt j 15 then (bif Nat.beq j 14 then true else false) else (bif Nat.beq j 15 then true else false)))) else false) else (bif Nat.beq c 12 then bif Nat.blt j 35 then (bif Nat.blt j 13 then (bif Nat.blt j 6 then (bif Nat.blt j 4 then (bif Nat.blt j 3 then (bif Nat.beq j 2 then true else false) else (bif Nat.beq j 3 then true else false)) else (bif Nat.blt j 5 then (bif Nat.beq j 4 then true else false) else (bif Nat.beq j 5 then true else false))) else (bif Nat.blt j 8 then (bif Nat.blt j 7 then (bif Nat.beq j 6 then true else false) else (bif Nat.beq j 7 then true else false)) else (bif Nat.blt j 10 then (bif Nat.beq j 8 then true else false) else (bif Nat.blt j 12 then (bif Nat.beq j 10 then true else false) else (bif Nat.beq j 12 then true else false))))) else (bif Nat.blt j 30 then (bif Nat.blt j 22 then (bif Nat.blt j 21 then (bif Nat.beq j 13 then true else false) else (bif Nat.beq j 21 then true else false)) else (bif Nat.blt j 25 then (bif Nat.beq j 22 then true else false) else (bif Nat.blt j 26 then (bif Nat.beq j 25 then true else false) else (bif Nat.beq j 26 then true else false)))) else (bif Nat.blt j 32 then (bif Nat.blt j 31 then (bif Nat.beq j 30 then true else false) else (bif Nat.beq j 31 then true else false)) else (bif Nat.blt j 33 then (bif Nat.beq j 32 then true else false) else (bif Nat.blt j 34 then (bif Nat.beq j 33 then true else false) else (bif Nat.beq j 34 then true else false)))))) else (bif Nat.blt j 48 then (bif Nat.blt j 40 then (bif Nat.blt j 38 then (bif Nat.blt j 36 then (bif Nat.beq j 35 then true else false) else (bif Nat.beq j 36 then true else false)) else (bif Nat.blt j 39 then (bif Nat.beq j 38 then true else false) else (bif Nat.beq j 39 then true else false))) else (bif Nat.blt j 44 then (bif Nat.blt j 43 then (bif Nat.beq j 40 then true else false) else (bif Nat.beq j 43 then true else false)) else (bif Nat.blt j 45 then (bif Nat.beq j 44 then true else false) else (bif Nat.blt j 47 then (bif Nat.beq j 45 then true else false) else (bif Nat.beq j 47 then true else false))))) else (bif Nat.blt j 56 then (bif Nat.blt j 52 then (bif Nat.blt j 51 then (bif Nat.beq j 48 then true else false) else (bif Nat.beq j 51 then true else false)) else (bif Nat.blt j 54 then (bif Nat.beq j 52 then true else false) else (bif Nat.blt j 55 then (bif Nat.beq j 54 then true else false) else (bif Nat.beq j 55 then true else false)))) else (bif Nat.blt j 59 then (bif Nat.blt j 57 then (bif Nat.beq j 56 then true else false) else (bif Nat.beq j 57 then true else false)) else (bif Nat.blt j 61 then (bif Nat.beq j 59 then true else false) else (bif Nat.blt j 62 then (bif Nat.beq j 61 then true else false) else (bif Nat.beq j 62 then true else false)))))) else false))))
def sm_cn : Nat → String := fun c => bif Nat.blt c 7 then (bif Nat.blt c 3 then (bif Nat.blt c 1 then (bif Nat.beq c 0 then RX0 else "") else (bif Nat.blt c 2 then (bif Nat.beq c 1 then RX1 else "") else (bif Nat.beq c 2 then RX2 else ""))) else (bif Nat.blt c 5 then (bif Nat.blt c 4 then (bif Nat.beq c 3 then RX3 else "") else (bif Nat.beq c 4 then RX4 else "")) else (bif Nat.blt c 6 then (bif Nat.beq c 5 then RX5 else "") else (bif Nat.beq c 6 then RX6 else "")))) else (bif Nat.blt c 10 then (bif Nat.blt c 8 then (bif Nat.beq c 7 then RX7 else "") else (bif Nat.blt c 9 then (bif Nat.beq c 8 then RX8 else "") else (bif Nat.beq c 9 then RX9 else ""))) else (bif Nat.blt c 12 then (bif Nat.blt c 11 then (bif Nat.beq c 10 then RX10 else "") else (bif Nat.beq c 11 then RX11 else "")) else (bif Nat.blt c 13 then (bif Nat.beq c 12 then RX12 else "") else (bif Nat.beq c 13 then "java/util/Arrays" else ""))))
def sm_y : Nat → MethodName := fun k => bif Nat.blt k 122 then (bif Nat.blt k 61 then (bif Nat.blt k 30 then (bif Nat.blt k 15 then (bif Nat.blt k 7 then (bif Nat.blt k 3 then (bif Nat.blt k 1 then (bif Nat.beq k 0 then ⟨"InvariantWorks$Bases", "<init>", "(LInvariantWorks$Mover;LInvariantWorks$Echelon;)V"⟩ else ⟨"", "", ""⟩) else (bif Nat.blt k 2 then (bif Nat.beq k 1 then ⟨"InvariantWorks$Bases", "begin", "(LInvariantWorks$Shape;LInvariantWorks$Members;)V"⟩ else ⟨"", "", ""⟩) else (bif Nat.beq k 2 then ⟨"InvariantWorks$Bases", "fillSizes", "()V"⟩ else ⟨"", "", ""⟩))) else (bif Nat.blt k 5 then (bif Nat.blt k 4 then (bif Nat.beq k 3 then ⟨"InvariantWorks$Bases", "grade", "(I)LInvariantWorks$Grade;"⟩ else ⟨"", "", ""⟩) else (bif Nat.beq k 4 then ⟨"InvariantWorks$Bases", "build", "(LInvariantWorks$Grade;)V"⟩ else ⟨"", "", ""⟩)) else (bif Nat.blt k 6 then (bif Nat.beq k 5 then ⟨"InvariantWorks$Echelon", "<init>", "()V"⟩ else ⟨"", "", ""⟩) else (bif Nat.beq k 6 then ⟨"InvariantWorks$Echelon", "begin", "(IZ)V"⟩ else ⟨"", "", ""⟩)))) else (bif Nat.blt k 11 then (bif Nat.blt k 9 then (bif Nat.blt k 8 then (bif Nat.beq k 7 then ⟨"InvariantWorks$Echelon", "insert", "([I)V"⟩ else ⟨"", "", ""⟩) else (bif Nat.beq k 8 then ⟨"InvariantWorks$Echelon", "subtract", "(II[III)V"⟩ else ⟨"", "", ""⟩)) else (bif Nat.blt k 10 then (bif Nat.beq k 9 then ⟨"InvariantWorks$Echelon", "finish", "()V"⟩ else ⟨"", "", ""⟩) else (bif Nat.beq k 10 then ⟨"InvariantWorks$Echelon", "finishRow", "(II)V"⟩ else ⟨"", "", ""⟩))) else (bif Nat.blt k 13 then (bif Nat.blt k 12 then (bif Nat.beq k 11 then ⟨"InvariantWorks$Grade", "<init>", "(I)V"⟩ else ⟨"", "", ""⟩) else (bif Nat.beq k 12 then ⟨"InvariantWorks$Grade", "beginBase", "(II)V"⟩ else ⟨"", "", ""⟩)) else (bif Nat.blt k 14 then (bif Nat.beq k 13 then ⟨"InvariantWorks$Grade", "takeBase", "(LInvariantWorks$Echelon;)V"⟩ else ⟨"", "", ""⟩) else (bif Nat.beq k 14 then ⟨"InvariantWorks$Grade", "beginProducts", "()V"⟩ else ⟨"", "", ""⟩))))) else (bif Nat.blt k 22 then (bif Nat.blt k 18 then (bif Nat.blt k 16 then (bif Nat.beq k 15 then ⟨"InvariantWorks$Grade", "takeParts", "([II[I)V"⟩ else ⟨"", "", ""⟩) else (bif Nat.blt k 17 then (bif Nat.beq k 16 then ⟨"InvariantWorks$Grade", "insert", "([I)Z"⟩ else ⟨"", "", ""⟩) else (bif Nat.beq k 17 then ⟨"InvariantWorks$Grade", "clearBehind", "([II)V"⟩ else ⟨"", "", ""⟩))) else (bif Nat.blt k 20 then (bif Nat.blt k 19 then (bif Nat.beq k 18 then ⟨"InvariantWorks$Grade", "turn", "(II)V"⟩ else ⟨"", "", ""⟩) else (bif Nat.beq k 19 then ⟨"InvariantWorks$Grade", "solve", "([I)V"⟩ else ⟨"", "", ""⟩)) else (bif Nat.blt k 21 then (bif Nat.beq k 20 then ⟨"InvariantWorks$Grade", "label", "(IIIII)V"⟩ else ⟨"", "", ""⟩) else (bif Nat.beq k 21 then ⟨"InvariantWorks$Grade", "productOf", "(IIII)I"⟩ else ⟨"", "", ""⟩)))) else (bif Nat.blt k 26 then (bif Nat.blt k 24 then (bif Nat.blt k 23 then (bif Nat.beq k 22 then ⟨"InvariantWorks$Members", "<init>", "()V"⟩ else ⟨"", "", ""⟩) else (bif Nat.beq k 23 then ⟨"InvariantWorks$Members", "grow", "()Z"⟩ else ⟨"", "", ""⟩)) else (bif Nat.blt k 25 then (bif Nat.beq k 24 then ⟨"InvariantWorks$Members", "multiplyByTable", "(II)V"⟩ else ⟨"", "", ""⟩) else (bif Nat.beq k 25 then ⟨"InvariantWorks$Members", "findCandidate", "()I"⟩ else ⟨"", "", ""⟩))) else (bif Nat.blt k 28 then (bif Nat.blt k 27 then (bif Nat.beq k 26 then ⟨"InvariantWorks$Members", "fillProducts", "()V"⟩ else ⟨"", "", ""⟩) else (bif Nat.beq k 27 then ⟨"InvariantWorks$Members", "fillOrders", "()V"⟩ else ⟨"", "", ""⟩)) else (bif Nat.blt k 29 then (bif Nat.beq k 28 then ⟨"InvariantWorks$Members", "lots", "()I"⟩ else ⟨"", "", ""⟩) else (bif Nat.beq k 29 then ⟨"InvariantWorks$Members", "isFirstOfLot", "(I)Z"⟩ else ⟨"", "", ""⟩)))))) else (bif Nat.blt k 45 then (bif Nat.blt k 37 then (bif Nat.blt k 33 then (bif Nat.blt k 31 then (bif Nat.beq k 30 then ⟨"InvariantWorks$Members", "commonPower", "()I"⟩ else ⟨"", "", ""⟩) else (bif Nat.blt k 32 then (bif Nat.beq k 31 then ⟨"InvariantWorks$Members", "isEitherOrder", "()Z"⟩ else ⟨"", "", ""⟩) else (bif Nat.beq k 32 then ⟨"InvariantWorks$Members", "trace", "(I)I"⟩ else ⟨"", "", ""⟩))) else (bif Nat.blt k 35 then (bif Nat.blt k 34 then (bif Nat.beq k 33 then ⟨"InvariantWorks$Members", "middle", "(I)I"⟩ else ⟨"", "", ""⟩) else (bif Nat.beq k 34 then ⟨"InvariantWorks$Mover", "<init>", "()V"⟩ else ⟨"", "", ""⟩)) else (bif Nat.blt k 36 then (bif Nat.beq k 35 then ⟨"InvariantWorks$Mover", "begin", "(LInvariantWorks$Shape;LInvariantWorks$Members;)V"⟩ else ⟨"", "", ""⟩) else (bif Nat.beq k 36 then ⟨"InvariantWorks$Mover", "use", "(I)V"⟩ else ⟨"", "", ""⟩)))) else (bif Nat.blt k 41 then (bif Nat.blt k 39 then (bif Nat.blt k 38 then (bif Nat.beq k 37 then ⟨"InvariantWorks$Mover", "addAllMoved", "([I[I)V"⟩ else ⟨"", "", ""⟩) else (bif Nat.beq k 38 then ⟨"InvariantWorks$Mover", "addMoved", "(LInvariantWorks$Piece;[II)V"⟩ else ⟨"", "", ""⟩)) else (bif Nat.blt k 40 then (bif Nat.beq k 39 then ⟨"InvariantWorks$Mover", "addStraight", "(LInvariantWorks$Piece;[II)V"⟩ else ⟨"", "", ""⟩) else (bif Nat.beq k 40 then ⟨"InvariantWorks$Mover", "growLastPowers", "(LInvariantWorks$Piece;)V"⟩ else ⟨"", "", ""⟩))) else (bif Nat.blt k 43 then (bif Nat.blt k 42 then (bif Nat.beq k 41 then ⟨"InvariantWorks$Mover", "moveBlock", "(LInvariantWorks$Piece;I)Z"⟩ else ⟨"", "", ""⟩) else (bif Nat.beq k 42 then ⟨"InvariantWorks$Mover", "timesForm", "([IIII)V"⟩ else ⟨"", "", ""⟩)) else (bif Nat.blt k 44 then (bif Nat.beq k 43 then ⟨"InvariantWorks$Piece", "<init>", "()V"⟩ else ⟨"", "", ""⟩) else (bif Nat.beq k 44 then ⟨"InvariantWorks$Piece", "put", "([III)V"⟩ else ⟨"", "", ""⟩))))) else (bif Nat.blt k 53 then (bif Nat.blt k 49 then (bif Nat.blt k 47 then (bif Nat.blt k 46 then (bif Nat.beq k 45 then ⟨"InvariantWorks$PrimarySearch", "<init>", "(LInvariantWorks$Bases;LInvariantWorks$Echelon;)V"⟩ else ⟨"", "", ""⟩) else (bif Nat.beq k 46 then ⟨"InvariantWorks$PrimarySearch", "begin", "(LInvariantWorks$Shape;LInvariantWorks$Members;)V"⟩ else ⟨"", "", ""⟩)) else (bif Nat.blt k 48 then (bif Nat.beq k 47 then ⟨"InvariantWorks$PrimarySearch", "find", "()Z"⟩ else ⟨"", "", ""⟩) else (bif Nat.beq k 48 then ⟨"InvariantWorks$PrimarySearch", "addCandidates", "(LInvariantWorks$Grade;)V"⟩ else ⟨"", "", ""⟩))) else (bif Nat.blt k 51 then (bif Nat.blt k 50 then (bif Nat.beq k 49 then ⟨"InvariantWorks$PrimarySearch", "tryTriples", "(I)Z"⟩ else ⟨"", "", ""⟩) else (bif Nat.beq k 50 then ⟨"InvariantWorks$PrimarySearch", "tryPairs", "(III)Z"⟩ else ⟨"", "", ""⟩)) else (bif Nat.blt k 52 then (bif Nat.beq k 51 then ⟨"InvariantWorks$PrimarySearch", "choose", "(II)V"⟩ else ⟨"", "", ""⟩) else (bif Nat.beq k 52 then ⟨"InvariantWorks$PrimarySearch", "isSpanning", "()Z"⟩ else ⟨"", "", ""⟩)))) else (bif Nat.blt k 57 then (bif Nat.blt k 55 then (bif Nat.blt k 54 then (bif Nat.beq k 53 then ⟨"InvariantWorks$PrimarySearch", "isCornerMissing", "()Z"⟩ else ⟨"", "", ""⟩) else (bif Nat.beq k 54 then ⟨"InvariantWorks$PrimarySearch", "putSpread", "(LInvariantWorks$Piece;I)V"⟩ else ⟨"", "", ""⟩)) else (bif Nat.blt k 56 then (bif Nat.beq k 55 then ⟨"InvariantWorks$Reader", "<init>", "([B)V"⟩ else ⟨"", "", ""⟩) else (bif Nat.beq k 56 then ⟨"InvariantWorks$Reader", "open", "(I)V"⟩ else ⟨"", "", ""⟩))) else (bif Nat.blt k 59 then (bif Nat.blt k 58 then (bif Nat.beq k 57 then ⟨"InvariantWorks$Reader", "advance", "()V"⟩ else ⟨"", "", ""⟩) else (bif Nat.beq k 58 then ⟨"InvariantWorks$Reader", "refuse", "(I)Z"⟩ else ⟨"", "", ""⟩)) else (bif Nat.blt k 60 then (bif Nat.beq k 59 then ⟨"InvariantWorks$Reader", "takeDigits", "()V"⟩ else ⟨"", "", ""⟩) else (bif Nat.beq k 60 then ⟨"InvariantWorks$Reader", "isDigit", "(I)Z"⟩ else ⟨"", "", ""⟩))))))) else (bif Nat.blt k 91 then (bif Nat.blt k 76 then (bif Nat.blt k 68 then (bif Nat.blt k 64 then (bif Nat.blt k 62 then (bif Nat.beq k 61 then ⟨"InvariantWorks$Reader", "isSign", "(I)Z"⟩ else ⟨"", "", ""⟩) else (bif Nat.blt k 63 then (bif Nat.beq k 62 then ⟨"InvariantWorks$Reader", "readTables", "(LInvariantWorks$Members;)Z"⟩ else ⟨"", "", ""⟩) else (bif Nat.beq k 63 then ⟨"InvariantWorks$Reader", "readTable", "(LInvariantWorks$Members;I)Z"⟩ else ⟨"", "", ""⟩))) else (bif Nat.blt k 66 then (bif Nat.blt k 65 then (bif Nat.beq k 64 then ⟨"InvariantWorks$Reader", "readRow", "(LInvariantWorks$Members;II)Z"⟩ else ⟨"", "", ""⟩) else (bif Nat.beq k 65 then ⟨"InvariantWorks$Reader", "haveInverses", "(LInvariantWorks$Members;)Z"⟩ else ⟨"", "", ""⟩)) else (bif Nat.blt k 67 then (bif Nat.beq k 66 then ⟨"InvariantWorks$Rewriter", "<init>", "(LInvariantWorks$Bases;LInvariantWorks$PrimarySearch;)V"⟩ else ⟨"", "", ""⟩) else (bif Nat.beq k 67 then ⟨"InvariantWorks$Rewriter", "begin", "(LInvariantWorks$Shape;)V"⟩ else ⟨"", "", ""⟩)))) else (bif Nat.blt k 72 then (bif Nat.blt k 70 then (bif Nat.blt k 69 then (bif Nat.beq k 68 then ⟨"InvariantWorks$Rewriter", "extendToAll", "()V"⟩ else ⟨"", "", ""⟩) else (bif Nat.beq k 69 then ⟨"InvariantWorks$Rewriter", "extend", "(I)V"⟩ else ⟨"", "", ""⟩)) else (bif Nat.blt k 71 then (bif Nat.beq k 70 then ⟨"InvariantWorks$Rewriter", "fillGrade", "(LInvariantWorks$Grade;)V"⟩ else ⟨"", "", ""⟩) else (bif Nat.beq k 71 then ⟨"InvariantWorks$Rewriter", "addProducts", "(LInvariantWorks$Grade;I)V"⟩ else ⟨"", "", ""⟩))) else (bif Nat.blt k 74 then (bif Nat.blt k 73 then (bif Nat.beq k 72 then ⟨"InvariantWorks$Rewriter", "putSum", "(LInvariantWorks$Grade;)V"⟩ else ⟨"", "", ""⟩) else (bif Nat.beq k 73 then ⟨"InvariantWorks$Rewriter", "addSecondaries", "(LInvariantWorks$Grade;)V"⟩ else ⟨"", "", ""⟩)) else (bif Nat.blt k 75 then (bif Nat.beq k 74 then ⟨"InvariantWorks$Rewriter", "tell", "([I)V"⟩ else ⟨"", "", ""⟩) else (bif Nat.beq k 75 then ⟨"InvariantWorks$Rewriter", "relate", "(II)V"⟩ else ⟨"", "", ""⟩))))) else (bif Nat.blt k 83 then (bif Nat.blt k 79 then (bif Nat.blt k 77 then (bif Nat.beq k 76 then ⟨"InvariantWorks$Rewriter", "placeOf", "(IIII)I"⟩ else ⟨"", "", ""⟩) else (bif Nat.blt k 78 then (bif Nat.beq k 77 then ⟨"InvariantWorks$Shape", "<init>", "(I)V"⟩ else ⟨"", "", ""⟩) else (bif Nat.beq k 78 then ⟨"InvariantWorks$Shape", "power", "(III)I"⟩ else ⟨"", "", ""⟩))) else (bif Nat.blt k 81 then (bif Nat.blt k 80 then (bif Nat.beq k 79 then ⟨"InvariantWorks$Shape", "isZero", "([II)Z"⟩ else ⟨"", "", ""⟩) else (bif Nat.beq k 80 then ⟨"InvariantWorks$Shape", "degreeOf", "([I)I"⟩ else ⟨"", "", ""⟩)) else (bif Nat.blt k 82 then (bif Nat.beq k 81 then ⟨"InvariantWorks$Shape", "termsOf", "([I)I"⟩ else ⟨"", "", ""⟩) else (bif Nat.beq k 82 then ⟨"InvariantWorks$Shape", "isOneDegree", "([I)Z"⟩ else ⟨"", "", ""⟩)))) else (bif Nat.blt k 87 then (bif Nat.blt k 85 then (bif Nat.blt k 84 then (bif Nat.beq k 83 then ⟨"InvariantWorks$Shape", "addProduct", "(LInvariantWorks$Piece;LInvariantWorks$Piece;[II)V"⟩ else ⟨"", "", ""⟩) else (bif Nat.beq k 84 then ⟨"InvariantWorks$Shape", "multiply", "([I[I[I)V"⟩ else ⟨"", "", ""⟩)) else (bif Nat.blt k 86 then (bif Nat.beq k 85 then ⟨"InvariantWorks$SumReader", "<init>", "(LInvariantWorks$Reader;)V"⟩ else ⟨"", "", ""⟩) else (bif Nat.beq k 86 then ⟨"InvariantWorks$SumReader", "readAll", "(LInvariantWorks$Shape;)[I"⟩ else ⟨"", "", ""⟩))) else (bif Nat.blt k 89 then (bif Nat.blt k 88 then (bif Nat.beq k 87 then ⟨"InvariantWorks$SumReader", "readSum", "(I)Z"⟩ else ⟨"", "", ""⟩) else (bif Nat.beq k 88 then ⟨"InvariantWorks$SumReader", "readProduct", "(I)Z"⟩ else ⟨"", "", ""⟩)) else (bif Nat.blt k 90 then (bif Nat.beq k 89 then ⟨"InvariantWorks$SumReader", "readPower", "(I)Z"⟩ else ⟨"", "", ""⟩) else (bif Nat.beq k 90 then ⟨"InvariantWorks$SumReader", "readPart", "(I)Z"⟩ else ⟨"", "", ""⟩)))))) else (bif Nat.blt k 106 then (bif Nat.blt k 98 then (bif Nat.blt k 94 then (bif Nat.blt k 92 then (bif Nat.beq k 91 then ⟨"InvariantWorks$SumReader", "readBracket", "(I)Z"⟩ else ⟨"", "", ""⟩) else (bif Nat.blt k 93 then (bif Nat.beq k 92 then ⟨"InvariantWorks$SumReader", "putPart", "(II)V"⟩ else ⟨"", "", ""⟩) else (bif Nat.beq k 93 then ⟨"InvariantWorks$SumReader", "add", "([II[I)V"⟩ else ⟨"", "", ""⟩))) else (bif Nat.blt k 96 then (bif Nat.blt k 95 then (bif Nat.beq k 94 then ⟨"InvariantWorks$SumReader", "multiplyBy", "(I)V"⟩ else ⟨"", "", ""⟩) else (bif Nat.beq k 95 then ⟨"InvariantWorks$SumReader", "raisePart", "(I)V"⟩ else ⟨"", "", ""⟩)) else (bif Nat.blt k 97 then (bif Nat.beq k 96 then ⟨"InvariantWorks", "<init>", "()V"⟩ else ⟨"", "", ""⟩) else (bif Nat.beq k 97 then ⟨"InvariantWorks", "feed", "(IIIII)I"⟩ else ⟨"", "", ""⟩)))) else (bif Nat.blt k 102 then (bif Nat.blt k 100 then (bif Nat.blt k 99 then (bif Nat.beq k 98 then ⟨"InvariantWorks", "tables", "(I)I"⟩ else ⟨"", "", ""⟩) else (bif Nat.beq k 99 then ⟨"InvariantWorks", "polynomial", "(II)I"⟩ else ⟨"", "", ""⟩)) else (bif Nat.blt k 101 then (bif Nat.beq k 100 then ⟨"InvariantWorks", "group", "(I)I"⟩ else ⟨"", "", ""⟩) else (bif Nat.beq k 101 then ⟨"InvariantWorks", "member", "(III)I"⟩ else ⟨"", "", ""⟩))) else (bif Nat.blt k 104 then (bif Nat.blt k 103 then (bif Nat.beq k 102 then ⟨"InvariantWorks", "times", "(II)I"⟩ else ⟨"", "", ""⟩) else (bif Nat.beq k 103 then ⟨"InvariantWorks", "about", "(II)I"⟩ else ⟨"", "", ""⟩)) else (bif Nat.blt k 105 then (bif Nat.beq k 104 then ⟨"InvariantWorks", "of", "(II)I"⟩ else ⟨"", "", ""⟩) else (bif Nat.beq k 105 then ⟨"InvariantWorks", "factor", "(IIII)I"⟩ else ⟨"", "", ""⟩))))) else (bif Nat.blt k 114 then (bif Nat.blt k 110 then (bif Nat.blt k 108 then (bif Nat.blt k 107 then (bif Nat.beq k 106 then ⟨"InvariantWorks", "term", "(III)I"⟩ else ⟨"", "", ""⟩) else (bif Nat.beq k 107 then ⟨"InvariantWorks", "moved", "(III)I"⟩ else ⟨"", "", ""⟩)) else (bif Nat.blt k 109 then (bif Nat.beq k 108 then ⟨"InvariantWorks", "average", "(II)I"⟩ else ⟨"", "", ""⟩) else (bif Nat.beq k 109 then ⟨"InvariantWorks", "plus", "(IIII)I"⟩ else ⟨"", "", ""⟩))) else (bif Nat.blt k 112 then (bif Nat.blt k 111 then (bif Nat.beq k 110 then ⟨"InvariantWorks", "product", "(III)I"⟩ else ⟨"", "", ""⟩) else (bif Nat.beq k 111 then ⟨"InvariantWorks", "series", "(I)I"⟩ else ⟨"", "", ""⟩)) else (bif Nat.blt k 113 then (bif Nat.beq k 112 then ⟨"InvariantWorks", "base", "(III)I"⟩ else ⟨"", "", ""⟩) else (bif Nat.beq k 113 then ⟨"InvariantWorks", "isSystem", "(III)I"⟩ else ⟨"", "", ""⟩)))) else (bif Nat.blt k 118 then (bif Nat.blt k 116 then (bif Nat.blt k 115 then (bif Nat.beq k 114 then ⟨"InvariantWorks", "primary", "(II)I"⟩ else ⟨"", "", ""⟩) else (bif Nat.beq k 115 then ⟨"InvariantWorks", "secondaries", "()I"⟩ else ⟨"", "", ""⟩)) else (bif Nat.blt k 117 then (bif Nat.beq k 116 then ⟨"InvariantWorks", "secondary", "(II)I"⟩ else ⟨"", "", ""⟩) else (bif Nat.beq k 117 then ⟨"InvariantWorks", "numerator", "(I)I"⟩ else ⟨"", "", ""⟩))) else (bif Nat.blt k 120 then (bif Nat.blt k 119 then (bif Nat.beq k 118 then ⟨"InvariantWorks", "rewrite", "(I)I"⟩ else ⟨"", "", ""⟩) else (bif Nat.beq k 119 then ⟨"InvariantWorks", "rewritten", "(IIII)I"⟩ else ⟨"", "", ""⟩)) else (bif Nat.blt k 121 then (bif Nat.beq k 120 then ⟨"InvariantWorks", "relation", "(IIIIII)I"⟩ else ⟨"", "", ""⟩) else (bif Nat.beq k 121 then ⟨"InvariantWorks", "count", "(I)I"⟩ else ⟨"", "", ""⟩)))))))) else (bif Nat.blt k 183 then (bif Nat.blt k 152 then (bif Nat.blt k 137 then (bif Nat.blt k 129 then (bif Nat.blt k 125 then (bif Nat.blt k 123 then (bif Nat.beq k 122 then ⟨"InvariantWorks", "startAgain", "()V"⟩ else ⟨"", "", ""⟩) else (bif Nat.blt k 124 then (bif Nat.beq k 123 then ⟨"InvariantWorks", "putBytes", "(I)V"⟩ else ⟨"", "", ""⟩) else (bif Nat.beq k 124 then ⟨"InvariantWorks", "isKept", "(I)Z"⟩ else ⟨"", "", ""⟩))) else (bif Nat.blt k 127 then (bif Nat.blt k 126 then (bif Nat.beq k 125 then ⟨"InvariantWorks", "isPower", "(I)Z"⟩ else ⟨"", "", ""⟩) else (bif Nat.beq k 126 then ⟨"InvariantWorks", "isMember", "(I)Z"⟩ else ⟨"", "", ""⟩)) else (bif Nat.blt k 128 then (bif Nat.beq k 127 then ⟨"InvariantWorks", "isSecondary", "(I)Z"⟩ else ⟨"", "", ""⟩) else (bif Nat.beq k 128 then ⟨"InvariantWorks", "isProduct", "(IIII)Z"⟩ else ⟨"", "", ""⟩)))) else (bif Nat.blt k 133 then (bif Nat.blt k 131 then (bif Nat.blt k 130 then (bif Nat.beq k 129 then ⟨"InvariantWorks", "keepFresh", "(I)I"⟩ else ⟨"", "", ""⟩) else (bif Nat.beq k 130 then ⟨"InvariantWorks", "isMovedToItself", "([II)Z"⟩ else ⟨"", "", ""⟩)) else (bif Nat.blt k 132 then (bif Nat.beq k 131 then ⟨"InvariantWorks", "isLeftAlone", "([I)Z"⟩ else ⟨"", "", ""⟩) else (bif Nat.beq k 132 then ⟨"InvariantWorks", "unlikeMoved", "([I)I"⟩ else ⟨"", "", ""⟩))) else (bif Nat.blt k 135 then (bif Nat.blt k 134 then (bif Nat.beq k 133 then ⟨"InvariantWorks", "canBeOfSystem", "(I)Z"⟩ else ⟨"", "", ""⟩) else (bif Nat.beq k 134 then ⟨"InvariantWorks", "putForSystem", "(II)V"⟩ else ⟨"", "", ""⟩)) else (bif Nat.blt k 136 then (bif Nat.beq k 135 then ⟨"InvariantWorks", "findSecondaries", "()Z"⟩ else ⟨"", "", ""⟩) else (bif Nat.beq k 136 then ⟨"InvariantWorks", "raise", "(II)I"⟩ else ⟨"", "", ""⟩))))) else (bif Nat.blt k 144 then (bif Nat.blt k 140 then (bif Nat.blt k 138 then (bif Nat.beq k 137 then ⟨"InvariantWorks", "divides", "(II)Z"⟩ else ⟨"", "", ""⟩) else (bif Nat.blt k 139 then (bif Nat.beq k 138 then ⟨"InvariantWorks", "minor", "(IIII)I"⟩ else ⟨"", "", ""⟩) else (bif Nat.beq k 139 then ⟨"InvariantWorks", "determinant", "([III)I"⟩ else ⟨"", "", ""⟩))) else (bif Nat.blt k 142 then (bif Nat.blt k 141 then (bif Nat.beq k 140 then ⟨"InvariantWorks", "withRoom", "([III)[I"⟩ else ⟨"", "", ""⟩) else (bif Nat.beq k 141 then ⟨"InvariantWorksModel", "thrown", "()I"⟩ else ⟨"", "", ""⟩)) else (bif Nat.blt k 143 then (bif Nat.beq k 142 then ⟨"InvariantWorksModel", "within", "(III)Z"⟩ else ⟨"", "", ""⟩) else (bif Nat.beq k 143 then ⟨"InvariantWorksModel", "of", "(J)I"⟩ else ⟨"", "", ""⟩)))) else (bif Nat.blt k 148 then (bif Nat.blt k 146 then (bif Nat.blt k 145 then (bif Nat.beq k 144 then ⟨"InvariantWorksModel", "inverse", "(I)I"⟩ else ⟨"", "", ""⟩) else (bif Nat.beq k 145 then ⟨"InvariantWorksModel", "many", "(I)I"⟩ else ⟨"", "", ""⟩)) else (bif Nat.blt k 147 then (bif Nat.beq k 146 then ⟨"InvariantWorksModel", "from", "(I)I"⟩ else ⟨"", "", ""⟩) else (bif Nat.beq k 147 then ⟨"InvariantWorksModel", "at", "(III)I"⟩ else ⟨"", "", ""⟩))) else (bif Nat.blt k 150 then (bif Nat.blt k 149 then (bif Nat.beq k 148 then ⟨"InvariantWorksModel", "laysMonomials", "()V"⟩ else ⟨"", "", ""⟩) else (bif Nat.beq k 149 then ⟨"InvariantWorksModel", "degreeAt", "(I)I"⟩ else ⟨"", "", ""⟩)) else (bif Nat.blt k 151 then (bif Nat.beq k 150 then ⟨"InvariantWorksModel", "all", "()I"⟩ else ⟨"", "", ""⟩) else (bif Nat.beq k 151 then ⟨"InvariantWorksModel", "copies", "([II[II)V"⟩ else ⟨"", "", ""⟩)))))) else (bif Nat.blt k 167 then (bif Nat.blt k 159 then (bif Nat.blt k 155 then (bif Nat.blt k 153 then (bif Nat.beq k 152 then ⟨"InvariantWorksModel", "clears", "([II)V"⟩ else ⟨"", "", ""⟩) else (bif Nat.blt k 154 then (bif Nat.beq k 153 then ⟨"InvariantWorksModel", "degree", "([II)I"⟩ else ⟨"", "", ""⟩) else (bif Nat.beq k 154 then ⟨"InvariantWorksModel", "isNothing", "([II)Z"⟩ else ⟨"", "", ""⟩))) else (bif Nat.blt k 157 then (bif Nat.blt k 156 then (bif Nat.beq k 155 then ⟨"InvariantWorksModel", "multiplies", "([II[II[II)V"⟩ else ⟨"", "", ""⟩) else (bif Nat.beq k 156 then ⟨"InvariantWorksModel", "terms", "(I)I"⟩ else ⟨"", "", ""⟩)) else (bif Nat.blt k 158 then (bif Nat.beq k 157 then ⟨"InvariantWorksModel", "<init>", "()V"⟩ else ⟨"", "", ""⟩) else (bif Nat.beq k 158 then ⟨"InvariantWorksModel", "entry", "([IIII)I"⟩ else ⟨"", "", ""⟩)))) else (bif Nat.blt k 163 then (bif Nat.blt k 161 then (bif Nat.blt k 160 then (bif Nat.beq k 159 then ⟨"InvariantWorksModel", "times", "([II[II[II)V"⟩ else ⟨"", "", ""⟩) else (bif Nat.beq k 160 then ⟨"InvariantWorksModel", "areSame", "([II[II)Z"⟩ else ⟨"", "", ""⟩)) else (bif Nat.blt k 162 then (bif Nat.beq k 161 then ⟨"InvariantWorksModel", "find", "()I"⟩ else ⟨"", "", ""⟩) else (bif Nat.beq k 162 then ⟨"InvariantWorksModel", "laysGroup", "()Z"⟩ else ⟨"", "", ""⟩))) else (bif Nat.blt k 165 then (bif Nat.blt k 164 then (bif Nat.beq k 163 then ⟨"InvariantWorksModel", "determinant", "([II)I"⟩ else ⟨"", "", ""⟩) else (bif Nat.beq k 164 then ⟨"InvariantWorksModel", "product", "(II)I"⟩ else ⟨"", "", ""⟩)) else (bif Nat.blt k 166 then (bif Nat.beq k 165 then ⟨"InvariantWorksModel", "inverseOf", "(I)I"⟩ else ⟨"", "", ""⟩) else (bif Nat.beq k 166 then ⟨"InvariantWorksModel", "orderOf", "(I)I"⟩ else ⟨"", "", ""⟩))))) else (bif Nat.blt k 175 then (bif Nat.blt k 171 then (bif Nat.blt k 169 then (bif Nat.blt k 168 then (bif Nat.beq k 167 then ⟨"InvariantWorksModel", "isMember", "(I)Z"⟩ else ⟨"", "", ""⟩) else (bif Nat.beq k 168 then ⟨"InvariantWorksModel", "divisor", "(II)I"⟩ else ⟨"", "", ""⟩)) else (bif Nat.blt k 170 then (bif Nat.beq k 169 then ⟨"InvariantWorksModel", "classes", "()I"⟩ else ⟨"", "", ""⟩) else (bif Nat.beq k 170 then ⟨"InvariantWorksModel", "power", "()I"⟩ else ⟨"", "", ""⟩))) else (bif Nat.blt k 173 then (bif Nat.blt k 172 then (bif Nat.beq k 171 then ⟨"InvariantWorksModel", "commutes", "()I"⟩ else ⟨"", "", ""⟩) else (bif Nat.beq k 172 then ⟨"InvariantWorksModel", "group", "(I)I"⟩ else ⟨"", "", ""⟩)) else (bif Nat.blt k 174 then (bif Nat.beq k 173 then ⟨"InvariantWorksModel", "member", "(III)I"⟩ else ⟨"", "", ""⟩) else (bif Nat.beq k 174 then ⟨"InvariantWorksModel", "times", "(II)I"⟩ else ⟨"", "", ""⟩)))) else (bif Nat.blt k 179 then (bif Nat.blt k 177 then (bif Nat.blt k 176 then (bif Nat.beq k 175 then ⟨"InvariantWorksModel", "about", "(II)I"⟩ else ⟨"", "", ""⟩) else (bif Nat.beq k 176 then ⟨"InvariantWorksModel", "feed", "(IIIII)I"⟩ else ⟨"", "", ""⟩)) else (bif Nat.blt k 178 then (bif Nat.beq k 177 then ⟨"InvariantWorksModel", "puts", "(I)V"⟩ else ⟨"", "", ""⟩) else (bif Nat.beq k 178 then ⟨"InvariantWorksModel", "byteAt", "(I)I"⟩ else ⟨"", "", ""⟩))) else (bif Nat.blt k 181 then (bif Nat.blt k 180 then (bif Nat.beq k 179 then ⟨"InvariantWorksModel", "go", "()V"⟩ else ⟨"", "", ""⟩) else (bif Nat.beq k 180 then ⟨"InvariantWorksModel", "starts", "(I)V"⟩ else ⟨"", "", ""⟩)) else (bif Nat.blt k 182 then (bif Nat.beq k 181 then ⟨"InvariantWorksModel", "bad", "(I)Z"⟩ else ⟨"", "", ""⟩) else (bif Nat.beq k 182 then ⟨"InvariantWorksModel", "is", "(I)Z"⟩ else ⟨"", "", ""⟩))))))) else (bif Nat.blt k 214 then (bif Nat.blt k 198 then (bif Nat.blt k 190 then (bif Nat.blt k 186 then (bif Nat.blt k 184 then (bif Nat.beq k 183 then ⟨"InvariantWorksModel", "sign", "(I)Z"⟩ else ⟨"", "", ""⟩) else (bif Nat.blt k 185 then (bif Nat.beq k 184 then ⟨"InvariantWorksModel", "tableNumber", "(I)Z"⟩ else ⟨"", "", ""⟩) else (bif Nat.beq k 185 then ⟨"InvariantWorksModel", "isNumberNext", "()Z"⟩ else ⟨"", "", ""⟩))) else (bif Nat.blt k 188 then (bif Nat.blt k 187 then (bif Nat.beq k 186 then ⟨"InvariantWorksModel", "rowOf", "(I)Z"⟩ else ⟨"", "", ""⟩) else (bif Nat.beq k 187 then ⟨"InvariantWorksModel", "table", "()Z"⟩ else ⟨"", "", ""⟩)) else (bif Nat.blt k 189 then (bif Nat.beq k 188 then ⟨"InvariantWorksModel", "tables", "(I)I"⟩ else ⟨"", "", ""⟩) else (bif Nat.beq k 189 then ⟨"InvariantWorksModel", "takes", "()I"⟩ else ⟨"", "", ""⟩)))) else (bif Nat.blt k 194 then (bif Nat.blt k 192 then (bif Nat.blt k 191 then (bif Nat.beq k 190 then ⟨"InvariantWorksModel", "pushes", "(I)V"⟩ else ⟨"", "", ""⟩) else (bif Nat.beq k 191 then ⟨"InvariantWorksModel", "part", "()Z"⟩ else ⟨"", "", ""⟩)) else (bif Nat.blt k 193 then (bif Nat.beq k 192 then ⟨"InvariantWorksModel", "joins", "()V"⟩ else ⟨"", "", ""⟩) else (bif Nat.beq k 193 then ⟨"InvariantWorksModel", "raises", "(I)V"⟩ else ⟨"", "", ""⟩))) else (bif Nat.blt k 196 then (bif Nat.blt k 195 then (bif Nat.beq k 194 then ⟨"InvariantWorksModel", "powerOf", "()Z"⟩ else ⟨"", "", ""⟩) else (bif Nat.beq k 195 then ⟨"InvariantWorksModel", "productOf", "()Z"⟩ else ⟨"", "", ""⟩)) else (bif Nat.blt k 197 then (bif Nat.beq k 196 then ⟨"InvariantWorksModel", "adds", "(I)V"⟩ else ⟨"", "", ""⟩) else (bif Nat.beq k 197 then ⟨"InvariantWorksModel", "sum", "()Z"⟩ else ⟨"", "", ""⟩))))) else (bif Nat.blt k 206 then (bif Nat.blt k 202 then (bif Nat.blt k 200 then (bif Nat.blt k 199 then (bif Nat.beq k 198 then ⟨"InvariantWorksModel", "isKept", "(I)Z"⟩ else ⟨"", "", ""⟩) else (bif Nat.beq k 199 then ⟨"InvariantWorksModel", "polynomial", "(II)I"⟩ else ⟨"", "", ""⟩)) else (bif Nat.blt k 201 then (bif Nat.beq k 200 then ⟨"InvariantWorksModel", "laysImages", "([III)V"⟩ else ⟨"", "", ""⟩) else (bif Nat.beq k 201 then ⟨"InvariantWorksModel", "moves", "([II[II[I)V"⟩ else ⟨"", "", ""⟩))) else (bif Nat.blt k 204 then (bif Nat.blt k 203 then (bif Nat.beq k 202 then ⟨"InvariantWorksModel", "isAlone", "([II)Z"⟩ else ⟨"", "", ""⟩) else (bif Nat.beq k 203 then ⟨"InvariantWorksModel", "isOfOne", "([II)Z"⟩ else ⟨"", "", ""⟩)) else (bif Nat.blt k 205 then (bif Nat.beq k 204 then ⟨"InvariantWorksModel", "unlike", "(I)I"⟩ else ⟨"", "", ""⟩) else (bif Nat.beq k 205 then ⟨"InvariantWorksModel", "of", "(II)I"⟩ else ⟨"", "", ""⟩)))) else (bif Nat.blt k 210 then (bif Nat.blt k 208 then (bif Nat.blt k 207 then (bif Nat.beq k 206 then ⟨"InvariantWorksModel", "factor", "(IIII)I"⟩ else ⟨"", "", ""⟩) else (bif Nat.beq k 207 then ⟨"InvariantWorksModel", "term", "(III)I"⟩ else ⟨"", "", ""⟩)) else (bif Nat.blt k 209 then (bif Nat.beq k 208 then ⟨"InvariantWorksModel", "moved", "(III)I"⟩ else ⟨"", "", ""⟩) else (bif Nat.beq k 209 then ⟨"InvariantWorksModel", "average", "(II)I"⟩ else ⟨"", "", ""⟩))) else (bif Nat.blt k 212 then (bif Nat.blt k 211 then (bif Nat.beq k 210 then ⟨"InvariantWorksModel", "plus", "(IIII)I"⟩ else ⟨"", "", ""⟩) else (bif Nat.beq k 211 then ⟨"InvariantWorksModel", "product", "(III)I"⟩ else ⟨"", "", ""⟩)) else (bif Nat.blt k 213 then (bif Nat.beq k 212 then ⟨"InvariantWorksModel", "steps", "(II)I"⟩ else ⟨"", "", ""⟩) else (bif Nat.beq k 213 then ⟨"InvariantWorksModel", "clearsRow", "(I)V"⟩ else ⟨"", "", ""⟩)))))) else (bif Nat.blt k 229 then (bif Nat.blt k 221 then (bif Nat.blt k 217 then (bif Nat.blt k 215 then (bif Nat.beq k 214 then ⟨"InvariantWorksModel", "forgets", "()V"⟩ else ⟨"", "", ""⟩) else (bif Nat.blt k 216 then (bif Nat.beq k 215 then ⟨"InvariantWorksModel", "laysBases", "(I)V"⟩ else ⟨"", "", ""⟩) else (bif Nat.beq k 216 then ⟨"InvariantWorksModel", "laysBase", "(I)I"⟩ else ⟨"", "", ""⟩))) else (bif Nat.blt k 219 then (bif Nat.blt k 218 then (bif Nat.beq k 217 then ⟨"InvariantWorksModel", "laysFree", "(III)I"⟩ else ⟨"", "", ""⟩) else (bif Nat.beq k 218 then ⟨"InvariantWorksModel", "laysBaseRow", "(II[II)V"⟩ else ⟨"", "", ""⟩)) else (bif Nat.blt k 220 then (bif Nat.beq k 219 then ⟨"InvariantWorksModel", "series", "(I)I"⟩ else ⟨"", "", ""⟩) else (bif Nat.beq k 220 then ⟨"InvariantWorksModel", "base", "(III)I"⟩ else ⟨"", "", ""⟩)))) else (bif Nat.blt k 225 then (bif Nat.blt k 223 then (bif Nat.blt k 222 then (bif Nat.beq k 221 then ⟨"InvariantWorksModel", "areAll", "()Z"⟩ else ⟨"", "", ""⟩) else (bif Nat.beq k 222 then ⟨"InvariantWorksModel", "isSystem", "(III)I"⟩ else ⟨"", "", ""⟩)) else (bif Nat.blt k 224 then (bif Nat.beq k 223 then ⟨"InvariantWorksModel", "laysPrimary", "()V"⟩ else ⟨"", "", ""⟩) else (bif Nat.beq k 224 then ⟨"InvariantWorksModel", "asksProduct", "(I)V"⟩ else ⟨"", "", ""⟩))) else (bif Nat.blt k 227 then (bif Nat.blt k 226 then (bif Nat.beq k 225 then ⟨"InvariantWorksModel", "asksThese", "(III)V"⟩ else ⟨"", "", ""⟩) else (bif Nat.beq k 226 then ⟨"InvariantWorksModel", "primary", "(II)I"⟩ else ⟨"", "", ""⟩)) else (bif Nat.blt k 228 then (bif Nat.beq k 227 then ⟨"InvariantWorksModel", "laysProducts", "(I)V"⟩ else ⟨"", "", ""⟩) else (bif Nat.beq k 228 then ⟨"InvariantWorksModel", "timesPrimary", "(II)V"⟩ else ⟨"", "", ""⟩))))) else (bif Nat.blt k 237 then (bif Nat.blt k 233 then (bif Nat.blt k 231 then (bif Nat.blt k 230 then (bif Nat.beq k 229 then ⟨"InvariantWorksModel", "laysProduct", "(IIIII)V"⟩ else ⟨"", "", ""⟩) else (bif Nat.beq k 230 then ⟨"InvariantWorksModel", "laysSecondary", "()V"⟩ else ⟨"", "", ""⟩)) else (bif Nat.blt k 232 then (bif Nat.beq k 231 then ⟨"InvariantWorksModel", "secondaries", "()I"⟩ else ⟨"", "", ""⟩) else (bif Nat.beq k 232 then ⟨"InvariantWorksModel", "secondary", "(II)I"⟩ else ⟨"", "", ""⟩))) else (bif Nat.blt k 235 then (bif Nat.blt k 234 then (bif Nat.beq k 233 then ⟨"InvariantWorksModel", "numerator", "(I)I"⟩ else ⟨"", "", ""⟩) else (bif Nat.beq k 234 then ⟨"InvariantWorksModel", "solves", "([II)V"⟩ else ⟨"", "", ""⟩)) else (bif Nat.blt k 236 then (bif Nat.beq k 235 then ⟨"InvariantWorksModel", "solvesDegree", "([III)V"⟩ else ⟨"", "", ""⟩) else (bif Nat.beq k 236 then ⟨"InvariantWorksModel", "told", "([IIIIII)I"⟩ else ⟨"", "", ""⟩)))) else (bif Nat.blt k 241 then (bif Nat.blt k 239 then (bif Nat.blt k 238 then (bif Nat.beq k 237 then ⟨"InvariantWorksModel", "rewrite", "(I)I"⟩ else ⟨"", "", ""⟩) else (bif Nat.beq k 238 then ⟨"InvariantWorksModel", "arePowers", "(IIII)Z"⟩ else ⟨"", "", ""⟩)) else (bif Nat.blt k 240 then (bif Nat.beq k 239 then ⟨"InvariantWorksModel", "rewritten", "(IIII)I"⟩ else ⟨"", "", ""⟩) else (bif Nat.beq k 240 then ⟨"InvariantWorksModel", "relation", "(IIIIII)I"⟩ else ⟨"", "", ""⟩))) else (bif Nat.blt k 243 then (bif Nat.blt k 242 then (bif Nat.beq k 241 then ⟨"InvariantWorksModel", "count", "(I)I"⟩ else ⟨"", "", ""⟩) else (bif Nat.beq k 242 then ⟨"java/util/Arrays", "rangeCheck", "(III)V"⟩ else ⟨"", "", ""⟩)) else (bif Nat.blt k 244 then (bif Nat.beq k 243 then ⟨"java/util/Arrays", "fill", "([II)V"⟩ else ⟨"", "", ""⟩) else (bif Nat.beq k 244 then ⟨"java/util/Arrays", "fill", "([IIII)V"⟩ else ⟨"", "", ""⟩))))))))
def sm_b : Nat → ByteArray := fun k => bif Nat.blt k 122 then (bif Nat.blt k 61 then (bif Nat.blt k 30 then (bif Nat.blt k 15 then (bif Nat.blt k 7 then (bif Nat.blt k 3 then (bif Nat.blt k 1 then (bif Nat.beq k 0 then prog_2_method_1_code else ⟨#[]⟩) else (bif Nat.blt k 2 then (bif Nat.beq k 1 then prog_2_method_2_code else ⟨#[]⟩) else (bif Nat.beq k 2 then prog_2_method_3_code else ⟨#[]⟩))) else (bif Nat.blt k 5 then (bif Nat.blt k 4 then (bif Nat.beq k 3 then prog_2_method_4_code else ⟨#[]⟩) else (bif Nat.beq k 4 then prog_2_method_5_code else ⟨#[]⟩)) else (bif Nat.blt k 6 then (bif Nat.beq k 5 then prog_3_method_1_code else ⟨#[]⟩) else (bif Nat.beq k 6 then prog_3_method_2_code else ⟨#[]⟩)))) else (bif Nat.blt k 11 then (bif Nat.blt k 9 then (bif Nat.blt k 8 then (bif Nat.beq k 7 then prog_3_method_3_code else ⟨#[]⟩) else (bif Nat.beq k 8 then prog_3_method_4_code else ⟨#[]⟩)) else (bif Nat.blt k 10 then (bif Nat.beq k 9 then prog_3_method_5_code else ⟨#[]⟩) else (bif Nat.beq k 10 then prog_3_method_6_code else ⟨#[]⟩))) else (bif Nat.blt k 13 then (bif Nat.blt k 12 then (bif Nat.beq k 11 then prog_4_method_1_code else ⟨#[]⟩) else (bif Nat.beq k 12 then prog_4_method_2_code else ⟨#[]⟩)) else (bif Nat.blt k 14 then (bif Nat.beq k 13 then prog_4_method_3_code else ⟨#[]⟩) else (bif Nat.beq k 14 then prog_4_method_4_code else ⟨#[]⟩))))) else (bif Nat.blt k 22 then (bif Nat.blt k 18 then (bif Nat.blt k 16 then (bif Nat.beq k 15 then prog_4_method_5_code else ⟨#[]⟩) else (bif Nat.blt k 17 then (bif Nat.beq k 16 then prog_4_method_6_code else ⟨#[]⟩) else (bif Nat.beq k 17 then prog_4_method_7_code else ⟨#[]⟩))) else (bif Nat.blt k 20 then (bif Nat.blt k 19 then (bif Nat.beq k 18 then prog_4_method_8_code else ⟨#[]⟩) else (bif Nat.beq k 19 then prog_4_method_9_code else ⟨#[]⟩)) else (bif Nat.blt k 21 then (bif Nat.beq k 20 then prog_4_method_10_code else ⟨#[]⟩) else (bif Nat.beq k 21 then prog_4_method_11_code else ⟨#[]⟩)))) else (bif Nat.blt k 26 then (bif Nat.blt k 24 then (bif Nat.blt k 23 then (bif Nat.beq k 22 then prog_5_method_1_code else ⟨#[]⟩) else (bif Nat.beq k 23 then prog_5_method_2_code else ⟨#[]⟩)) else (bif Nat.blt k 25 then (bif Nat.beq k 24 then prog_5_method_3_code else ⟨#[]⟩) else (bif Nat.beq k 25 then prog_5_method_4_code else ⟨#[]⟩))) else (bif Nat.blt k 28 then (bif Nat.blt k 27 then (bif Nat.beq k 26 then prog_5_method_5_code else ⟨#[]⟩) else (bif Nat.beq k 27 then prog_5_method_6_code else ⟨#[]⟩)) else (bif Nat.blt k 29 then (bif Nat.beq k 28 then prog_5_method_7_code else ⟨#[]⟩) else (bif Nat.beq k 29 then prog_5_method_8_code else ⟨#[]⟩)))))) else (bif Nat.blt k 45 then (bif Nat.blt k 37 then (bif Nat.blt k 33 then (bif Nat.blt k 31 then (bif Nat.beq k 30 then prog_5_method_9_code else ⟨#[]⟩) else (bif Nat.blt k 32 then (bif Nat.beq k 31 then prog_5_method_10_code else ⟨#[]⟩) else (bif Nat.beq k 32 then prog_5_method_11_code else ⟨#[]⟩))) else (bif Nat.blt k 35 then (bif Nat.blt k 34 then (bif Nat.beq k 33 then prog_5_method_12_code else ⟨#[]⟩) else (bif Nat.beq k 34 then prog_6_method_1_code else ⟨#[]⟩)) else (bif Nat.blt k 36 then (bif Nat.beq k 35 then prog_6_method_2_code else ⟨#[]⟩) else (bif Nat.beq k 36 then prog_6_method_3_code else ⟨#[]⟩)))) else (bif Nat.blt k 41 then (bif Nat.blt k 39 then (bif Nat.blt k 38 then (bif Nat.beq k 37 then prog_6_method_4_code else ⟨#[]⟩) else (bif Nat.beq k 38 then prog_6_method_5_code else ⟨#[]⟩)) else (bif Nat.blt k 40 then (bif Nat.beq k 39 then prog_6_method_6_code else ⟨#[]⟩) else (bif Nat.beq k 40 then prog_6_method_7_code else ⟨#[]⟩))) else (bif Nat.blt k 43 then (bif Nat.blt k 42 then (bif Nat.beq k 41 then prog_6_method_8_code else ⟨#[]⟩) else (bif Nat.beq k 42 then prog_6_method_9_code else ⟨#[]⟩)) else (bif Nat.blt k 44 then (bif Nat.beq k 43 then prog_7_method_1_code else ⟨#[]⟩) else (bif Nat.beq k 44 then prog_7_method_2_code else ⟨#[]⟩))))) else (bif Nat.blt k 53 then (bif Nat.blt k 49 then (bif Nat.blt k 47 then (bif Nat.blt k 46 then (bif Nat.beq k 45 then prog_8_method_1_code else ⟨#[]⟩) else (bif Nat.beq k 46 then prog_8_method_2_code else ⟨#[]⟩)) else (bif Nat.blt k 48 then (bif Nat.beq k 47 then prog_8_method_3_code else ⟨#[]⟩) else (bif Nat.beq k 48 then prog_8_method_4_code else ⟨#[]⟩))) else (bif Nat.blt k 51 then (bif Nat.blt k 50 then (bif Nat.beq k 49 then prog_8_method_5_code else ⟨#[]⟩) else (bif Nat.beq k 50 then prog_8_method_6_code else ⟨#[]⟩)) else (bif Nat.blt k 52 then (bif Nat.beq k 51 then prog_8_method_7_code else ⟨#[]⟩) else (bif Nat.beq k 52 then prog_8_method_8_code else ⟨#[]⟩)))) else (bif Nat.blt k 57 then (bif Nat.blt k 55 then (bif Nat.blt k 54 then (bif Nat.beq k 53 then prog_8_method_9_code else ⟨#[]⟩) else (bif Nat.beq k 54 then prog_8_method_10_code else ⟨#[]⟩)) else (bif Nat.blt k 56 then (bif Nat.beq k 55 then prog_9_method_1_code else ⟨#[]⟩) else (bif Nat.beq k 56 then prog_9_method_2_code else ⟨#[]⟩))) else (bif Nat.blt k 59 then (bif Nat.blt k 58 then (bif Nat.beq k 57 then prog_9_method_3_code else ⟨#[]⟩) else (bif Nat.beq k 58 then prog_9_method_4_code else ⟨#[]⟩)) else (bif Nat.blt k 60 then (bif Nat.beq k 59 then prog_9_method_5_code else ⟨#[]⟩) else (bif Nat.beq k 60 then prog_9_method_6_code else ⟨#[]⟩))))))) else (bif Nat.blt k 91 then (bif Nat.blt k 76 then (bif Nat.blt k 68 then (bif Nat.blt k 64 then (bif Nat.blt k 62 then (bif Nat.beq k 61 then prog_9_method_7_code else ⟨#[]⟩) else (bif Nat.blt k 63 then (bif Nat.beq k 62 then prog_9_method_8_code else ⟨#[]⟩) else (bif Nat.beq k 63 then prog_9_method_9_code else ⟨#[]⟩))) else (bif Nat.blt k 66 then (bif Nat.blt k 65 then (bif Nat.beq k 64 then prog_9_method_10_code else ⟨#[]⟩) else (bif Nat.beq k 65 then prog_9_method_11_code else ⟨#[]⟩)) else (bif Nat.blt k 67 then (bif Nat.beq k 66 then prog_10_method_1_code else ⟨#[]⟩) else (bif Nat.beq k 67 then prog_10_method_2_code else ⟨#[]⟩)))) else (bif Nat.blt k 72 then (bif Nat.blt k 70 then (bif Nat.blt k 69 then (bif Nat.beq k 68 then prog_10_method_3_code else ⟨#[]⟩) else (bif Nat.beq k 69 then prog_10_method_4_code else ⟨#[]⟩)) else (bif Nat.blt k 71 then (bif Nat.beq k 70 then prog_10_method_5_code else ⟨#[]⟩) else (bif Nat.beq k 71 then prog_10_method_6_code else ⟨#[]⟩))) else (bif Nat.blt k 74 then (bif Nat.blt k 73 then (bif Nat.beq k 72 then prog_10_method_7_code else ⟨#[]⟩) else (bif Nat.beq k 73 then prog_10_method_8_code else ⟨#[]⟩)) else (bif Nat.blt k 75 then (bif Nat.beq k 74 then prog_10_method_9_code else ⟨#[]⟩) else (bif Nat.beq k 75 then prog_10_method_10_code else ⟨#[]⟩))))) else (bif Nat.blt k 83 then (bif Nat.blt k 79 then (bif Nat.blt k 77 then (bif Nat.beq k 76 then prog_10_method_11_code else ⟨#[]⟩) else (bif Nat.blt k 78 then (bif Nat.beq k 77 then prog_11_method_1_code else ⟨#[]⟩) else (bif Nat.beq k 78 then prog_11_method_2_code else ⟨#[]⟩))) else (bif Nat.blt k 81 then (bif Nat.blt k 80 then (bif Nat.beq k 79 then prog_11_method_3_code else ⟨#[]⟩) else (bif Nat.beq k 80 then prog_11_method_4_code else ⟨#[]⟩)) else (bif Nat.blt k 82 then (bif Nat.beq k 81 then prog_11_method_5_code else ⟨#[]⟩) else (bif Nat.beq k 82 then prog_11_method_6_code else ⟨#[]⟩)))) else (bif Nat.blt k 87 then (bif Nat.blt k 85 then (bif Nat.blt k 84 then (bif Nat.beq k 83 then prog_11_method_7_code else ⟨#[]⟩) else (bif Nat.beq k 84 then prog_11_method_8_code else ⟨#[]⟩)) else (bif Nat.blt k 86 then (bif Nat.beq k 85 then prog_12_method_1_code else ⟨#[]⟩) else (bif Nat.beq k 86 then prog_12_method_2_code else ⟨#[]⟩))) else (bif Nat.blt k 89 then (bif Nat.blt k 88 then (bif Nat.beq k 87 then prog_12_method_3_code else ⟨#[]⟩) else (bif Nat.beq k 88 then prog_12_method_4_code else ⟨#[]⟩)) else (bif Nat.blt k 90 then (bif Nat.beq k 89 then prog_12_method_5_code else ⟨#[]⟩) else (bif Nat.beq k 90 then prog_12_method_6_code else ⟨#[]⟩)))))) else (bif Nat.blt k 106 then (bif Nat.blt k 98 then (bif Nat.blt k 94 then (bif Nat.blt k 92 then (bif Nat.beq k 91 then prog_12_method_7_code else ⟨#[]⟩) else (bif Nat.blt k 93 then (bif Nat.beq k 92 then prog_12_method_8_code else ⟨#[]⟩) else (bif Nat.beq k 93 then prog_12_method_9_code else ⟨#[]⟩))) else (bif Nat.blt k 96 then (bif Nat.blt k 95 then (bif Nat.beq k 94 then prog_12_method_10_code else ⟨#[]⟩) else (bif Nat.beq k 95 then prog_12_method_11_code else ⟨#[]⟩)) else (bif Nat.blt k 97 then (bif Nat.beq k 96 then prog_1_method_1_code else ⟨#[]⟩) else (bif Nat.beq k 97 then prog_1_method_2_code else ⟨#[]⟩)))) else (bif Nat.blt k 102 then (bif Nat.blt k 100 then (bif Nat.blt k 99 then (bif Nat.beq k 98 then prog_1_method_3_code else ⟨#[]⟩) else (bif Nat.beq k 99 then prog_1_method_4_code else ⟨#[]⟩)) else (bif Nat.blt k 101 then (bif Nat.beq k 100 then prog_1_method_5_code else ⟨#[]⟩) else (bif Nat.beq k 101 then prog_1_method_6_code else ⟨#[]⟩))) else (bif Nat.blt k 104 then (bif Nat.blt k 103 then (bif Nat.beq k 102 then prog_1_method_7_code else ⟨#[]⟩) else (bif Nat.beq k 103 then prog_1_method_8_code else ⟨#[]⟩)) else (bif Nat.blt k 105 then (bif Nat.beq k 104 then prog_1_method_9_code else ⟨#[]⟩) else (bif Nat.beq k 105 then prog_1_method_10_code else ⟨#[]⟩))))) else (bif Nat.blt k 114 then (bif Nat.blt k 110 then (bif Nat.blt k 108 then (bif Nat.blt k 107 then (bif Nat.beq k 106 then prog_1_method_11_code else ⟨#[]⟩) else (bif Nat.beq k 107 then prog_1_method_12_code else ⟨#[]⟩)) else (bif Nat.blt k 109 then (bif Nat.beq k 108 then prog_1_method_13_code else ⟨#[]⟩) else (bif Nat.beq k 109 then prog_1_method_14_code else ⟨#[]⟩))) else (bif Nat.blt k 112 then (bif Nat.blt k 111 then (bif Nat.beq k 110 then prog_1_method_15_code else ⟨#[]⟩) else (bif Nat.beq k 111 then prog_1_method_16_code else ⟨#[]⟩)) else (bif Nat.blt k 113 then (bif Nat.beq k 112 then prog_1_method_17_code else ⟨#[]⟩) else (bif Nat.beq k 113 then prog_1_method_18_code else ⟨#[]⟩)))) else (bif Nat.blt k 118 then (bif Nat.blt k 116 then (bif Nat.blt k 115 then (bif Nat.beq k 114 then prog_1_method_19_code else ⟨#[]⟩) else (bif Nat.beq k 115 then prog_1_method_20_code else ⟨#[]⟩)) else (bif Nat.blt k 117 then (bif Nat.beq k 116 then prog_1_method_21_code else ⟨#[]⟩) else (bif Nat.beq k 117 then prog_1_method_22_code else ⟨#[]⟩))) else (bif Nat.blt k 120 then (bif Nat.blt k 119 then (bif Nat.beq k 118 then prog_1_method_23_code else ⟨#[]⟩) else (bif Nat.beq k 119 then prog_1_method_24_code else ⟨#[]⟩)) else (bif Nat.blt k 121 then (bif Nat.beq k 120 then prog_1_method_25_code else ⟨#[]⟩) else (bif Nat.beq k 121 then prog_1_method_26_code else ⟨#[]⟩)))))))) else (bif Nat.blt k 183 then (bif Nat.blt k 152 then (bif Nat.blt k 137 then (bif Nat.blt k 129 then (bif Nat.blt k 125 then (bif Nat.blt k 123 then (bif Nat.beq k 122 then prog_1_method_27_code else ⟨#[]⟩) else (bif Nat.blt k 124 then (bif Nat.beq k 123 then prog_1_method_28_code else ⟨#[]⟩) else (bif Nat.beq k 124 then prog_1_method_29_code else ⟨#[]⟩))) else (bif Nat.blt k 127 then (bif Nat.blt k 126 then (bif Nat.beq k 125 then prog_1_method_30_code else ⟨#[]⟩) else (bif Nat.beq k 126 then prog_1_method_31_code else ⟨#[]⟩)) else (bif Nat.blt k 128 then (bif Nat.beq k 127 then prog_1_method_32_code else ⟨#[]⟩) else (bif Nat.beq k 128 then prog_1_method_33_code else ⟨#[]⟩)))) else (bif Nat.blt k 133 then (bif Nat.blt k 131 then (bif Nat.blt k 130 then (bif Nat.beq k 129 then prog_1_method_34_code else ⟨#[]⟩) else (bif Nat.beq k 130 then prog_1_method_35_code else ⟨#[]⟩)) else (bif Nat.blt k 132 then (bif Nat.beq k 131 then prog_1_method_36_code else ⟨#[]⟩) else (bif Nat.beq k 132 then prog_1_method_37_code else ⟨#[]⟩))) else (bif Nat.blt k 135 then (bif Nat.blt k 134 then (bif Nat.beq k 133 then prog_1_method_38_code else ⟨#[]⟩) else (bif Nat.beq k 134 then prog_1_method_39_code else ⟨#[]⟩)) else (bif Nat.blt k 136 then (bif Nat.beq k 135 then prog_1_method_40_code else ⟨#[]⟩) else (bif Nat.beq k 136 then prog_1_method_41_code else ⟨#[]⟩))))) else (bif Nat.blt k 144 then (bif Nat.blt k 140 then (bif Nat.blt k 138 then (bif Nat.beq k 137 then prog_1_method_42_code else ⟨#[]⟩) else (bif Nat.blt k 139 then (bif Nat.beq k 138 then prog_1_method_43_code else ⟨#[]⟩) else (bif Nat.beq k 139 then prog_1_method_44_code else ⟨#[]⟩))) else (bif Nat.blt k 142 then (bif Nat.blt k 141 then (bif Nat.beq k 140 then prog_1_method_45_code else ⟨#[]⟩) else (bif Nat.beq k 141 then prog_14_method_1_code else ⟨#[]⟩)) else (bif Nat.blt k 143 then (bif Nat.beq k 142 then prog_14_method_2_code else ⟨#[]⟩) else (bif Nat.beq k 143 then prog_14_method_3_code else ⟨#[]⟩)))) else (bif Nat.blt k 148 then (bif Nat.blt k 146 then (bif Nat.blt k 145 then (bif Nat.beq k 144 then prog_14_method_4_code else ⟨#[]⟩) else (bif Nat.beq k 145 then prog_14_method_5_code else ⟨#[]⟩)) else (bif Nat.blt k 147 then (bif Nat.beq k 146 then prog_14_method_6_code else ⟨#[]⟩) else (bif Nat.beq k 147 then prog_14_method_7_code else ⟨#[]⟩))) else (bif Nat.blt k 150 then (bif Nat.blt k 149 then (bif Nat.beq k 148 then prog_14_method_8_code else ⟨#[]⟩) else (bif Nat.beq k 149 then prog_14_method_9_code else ⟨#[]⟩)) else (bif Nat.blt k 151 then (bif Nat.beq k 150 then prog_14_method_10_code else ⟨#[]⟩) else (bif Nat.beq k 151 then prog_14_method_11_code else ⟨#[]⟩)))))) else (bif Nat.blt k 167 then (bif Nat.blt k 159 then (bif Nat.blt k 155 then (bif Nat.blt k 153 then (bif Nat.beq k 152 then prog_14_method_12_code else ⟨#[]⟩) else (bif Nat.blt k 154 then (bif Nat.beq k 153 then prog_14_method_13_code else ⟨#[]⟩) else (bif Nat.beq k 154 then prog_14_method_14_code else ⟨#[]⟩))) else (bif Nat.blt k 157 then (bif Nat.blt k 156 then (bif Nat.beq k 155 then prog_14_method_15_code else ⟨#[]⟩) else (bif Nat.beq k 156 then prog_14_method_16_code else ⟨#[]⟩)) else (bif Nat.blt k 158 then (bif Nat.beq k 157 then prog_14_method_17_code else ⟨#[]⟩) else (bif Nat.beq k 158 then prog_14_method_18_code else ⟨#[]⟩)))) else (bif Nat.blt k 163 then (bif Nat.blt k 161 then (bif Nat.blt k 160 then (bif Nat.beq k 159 then prog_14_method_19_code else ⟨#[]⟩) else (bif Nat.beq k 160 then prog_14_method_20_code else ⟨#[]⟩)) else (bif Nat.blt k 162 then (bif Nat.beq k 161 then prog_14_method_21_code else ⟨#[]⟩) else (bif Nat.beq k 162 then prog_14_method_22_code else ⟨#[]⟩))) else (bif Nat.blt k 165 then (bif Nat.blt k 164 then (bif Nat.beq k 163 then prog_14_method_23_code else ⟨#[]⟩) else (bif Nat.beq k 164 then prog_14_method_24_code else ⟨#[]⟩)) else (bif Nat.blt k 166 then (bif Nat.beq k 165 then prog_14_method_25_code else ⟨#[]⟩) else (bif Nat.beq k 166 then prog_14_method_26_code else ⟨#[]⟩))))) else (bif Nat.blt k 175 then (bif Nat.blt k 171 then (bif Nat.blt k 169 then (bif Nat.blt k 168 then (bif Nat.beq k 167 then prog_14_method_27_code else ⟨#[]⟩) else (bif Nat.beq k 168 then prog_14_method_28_code else ⟨#[]⟩)) else (bif Nat.blt k 170 then (bif Nat.beq k 169 then prog_14_method_29_code else ⟨#[]⟩) else (bif Nat.beq k 170 then prog_14_method_30_code else ⟨#[]⟩))) else (bif Nat.blt k 173 then (bif Nat.blt k 172 then (bif Nat.beq k 171 then prog_14_method_31_code else ⟨#[]⟩) else (bif Nat.beq k 172 then prog_14_method_32_code else ⟨#[]⟩)) else (bif Nat.blt k 174 then (bif Nat.beq k 173 then prog_14_method_33_code else ⟨#[]⟩) else (bif Nat.beq k 174 then prog_14_method_34_code else ⟨#[]⟩)))) else (bif Nat.blt k 179 then (bif Nat.blt k 177 then (bif Nat.blt k 176 then (bif Nat.beq k 175 then prog_14_method_35_code else ⟨#[]⟩) else (bif Nat.beq k 176 then prog_14_method_36_code else ⟨#[]⟩)) else (bif Nat.blt k 178 then (bif Nat.beq k 177 then prog_14_method_37_code else ⟨#[]⟩) else (bif Nat.beq k 178 then prog_14_method_38_code else ⟨#[]⟩))) else (bif Nat.blt k 181 then (bif Nat.blt k 180 then (bif Nat.beq k 179 then prog_14_method_39_code else ⟨#[]⟩) else (bif Nat.beq k 180 then prog_14_method_40_code else ⟨#[]⟩)) else (bif Nat.blt k 182 then (bif Nat.beq k 181 then prog_14_method_41_code else ⟨#[]⟩) else (bif Nat.beq k 182 then prog_14_method_42_code else ⟨#[]⟩))))))) else (bif Nat.blt k 214 then (bif Nat.blt k 198 then (bif Nat.blt k 190 then (bif Nat.blt k 186 then (bif Nat.blt k 184 then (bif Nat.beq k 183 then prog_14_method_43_code else ⟨#[]⟩) else (bif Nat.blt k 185 then (bif Nat.beq k 184 then prog_14_method_44_code else ⟨#[]⟩) else (bif Nat.beq k 185 then prog_14_method_45_code else ⟨#[]⟩))) else (bif Nat.blt k 188 then (bif Nat.blt k 187 then (bif Nat.beq k 186 then prog_14_method_46_code else ⟨#[]⟩) else (bif Nat.beq k 187 then prog_14_method_47_code else ⟨#[]⟩)) else (bif Nat.blt k 189 then (bif Nat.beq k 188 then prog_14_method_48_code else ⟨#[]⟩) else (bif Nat.beq k 189 then prog_14_method_49_code else ⟨#[]⟩)))) else (bif Nat.blt k 194 then (bif Nat.blt k 192 then (bif Nat.blt k 191 then (bif Nat.beq k 190 then prog_14_method_50_code else ⟨#[]⟩) else (bif Nat.beq k 191 then prog_14_method_51_code else ⟨#[]⟩)) else (bif Nat.blt k 193 then (bif Nat.beq k 192 then prog_14_method_52_code else ⟨#[]⟩) else (bif Nat.beq k 193 then prog_14_method_53_code else ⟨#[]⟩))) else (bif Nat.blt k 196 then (bif Nat.blt k 195 then (bif Nat.beq k 194 then prog_14_method_54_code else ⟨#[]⟩) else (bif Nat.beq k 195 then prog_14_method_55_code else ⟨#[]⟩)) else (bif Nat.blt k 197 then (bif Nat.beq k 196 then prog_14_method_56_code else ⟨#[]⟩) else (bif Nat.beq k 197 then prog_14_method_57_code else ⟨#[]⟩))))) else (bif Nat.blt k 206 then (bif Nat.blt k 202 then (bif Nat.blt k 200 then (bif Nat.blt k 199 then (bif Nat.beq k 198 then prog_14_method_58_code else ⟨#[]⟩) else (bif Nat.beq k 199 then prog_14_method_59_code else ⟨#[]⟩)) else (bif Nat.blt k 201 then (bif Nat.beq k 200 then prog_14_method_60_code else ⟨#[]⟩) else (bif Nat.beq k 201 then prog_14_method_61_code else ⟨#[]⟩))) else (bif Nat.blt k 204 then (bif Nat.blt k 203 then (bif Nat.beq k 202 then prog_14_method_62_code else ⟨#[]⟩) else (bif Nat.beq k 203 then prog_14_method_63_code else ⟨#[]⟩)) else (bif Nat.blt k 205 then (bif Nat.beq k 204 then prog_14_method_64_code else ⟨#[]⟩) else (bif Nat.beq k 205 then prog_14_method_65_code else ⟨#[]⟩)))) else (bif Nat.blt k 210 then (bif Nat.blt k 208 then (bif Nat.blt k 207 then (bif Nat.beq k 206 then prog_14_method_66_code else ⟨#[]⟩) else (bif Nat.beq k 207 then prog_14_method_67_code else ⟨#[]⟩)) else (bif Nat.blt k 209 then (bif Nat.beq k 208 then prog_14_method_68_code else ⟨#[]⟩) else (bif Nat.beq k 209 then prog_14_method_69_code else ⟨#[]⟩))) else (bif Nat.blt k 212 then (bif Nat.blt k 211 then (bif Nat.beq k 210 then prog_14_method_70_code else ⟨#[]⟩) else (bif Nat.beq k 211 then prog_14_method_71_code else ⟨#[]⟩)) else (bif Nat.blt k 213 then (bif Nat.beq k 212 then prog_14_method_72_code else ⟨#[]⟩) else (bif Nat.beq k 213 then prog_14_method_73_code else ⟨#[]⟩)))))) else (bif Nat.blt k 229 then (bif Nat.blt k 221 then (bif Nat.blt k 217 then (bif Nat.blt k 215 then (bif Nat.beq k 214 then prog_14_method_74_code else ⟨#[]⟩) else (bif Nat.blt k 216 then (bif Nat.beq k 215 then prog_14_method_75_code else ⟨#[]⟩) else (bif Nat.beq k 216 then prog_14_method_76_code else ⟨#[]⟩))) else (bif Nat.blt k 219 then (bif Nat.blt k 218 then (bif Nat.beq k 217 then prog_14_method_77_code else ⟨#[]⟩) else (bif Nat.beq k 218 then prog_14_method_78_code else ⟨#[]⟩)) else (bif Nat.blt k 220 then (bif Nat.beq k 219 then prog_14_method_79_code else ⟨#[]⟩) else (bif Nat.beq k 220 then prog_14_method_80_code else ⟨#[]⟩)))) else (bif Nat.blt k 225 then (bif Nat.blt k 223 then (bif Nat.blt k 222 then (bif Nat.beq k 221 then prog_14_method_81_code else ⟨#[]⟩) else (bif Nat.beq k 222 then prog_14_method_82_code else ⟨#[]⟩)) else (bif Nat.blt k 224 then (bif Nat.beq k 223 then prog_14_method_83_code else ⟨#[]⟩) else (bif Nat.beq k 224 then prog_14_method_84_code else ⟨#[]⟩))) else (bif Nat.blt k 227 then (bif Nat.blt k 226 then (bif Nat.beq k 225 then prog_14_method_85_code else ⟨#[]⟩) else (bif Nat.beq k 226 then prog_14_method_86_code else ⟨#[]⟩)) else (bif Nat.blt k 228 then (bif Nat.beq k 227 then prog_14_method_87_code else ⟨#[]⟩) else (bif Nat.beq k 228 then prog_14_method_88_code else ⟨#[]⟩))))) else (bif Nat.blt k 237 then (bif Nat.blt k 233 then (bif Nat.blt k 231 then (bif Nat.blt k 230 then (bif Nat.beq k 229 then prog_14_method_89_code else ⟨#[]⟩) else (bif Nat.beq k 230 then prog_14_method_90_code else ⟨#[]⟩)) else (bif Nat.blt k 232 then (bif Nat.beq k 231 then prog_14_method_91_code else ⟨#[]⟩) else (bif Nat.beq k 232 then prog_14_method_92_code else ⟨#[]⟩))) else (bif Nat.blt k 235 then (bif Nat.blt k 234 then (bif Nat.beq k 233 then prog_14_method_93_code else ⟨#[]⟩) else (bif Nat.beq k 234 then prog_14_method_94_code else ⟨#[]⟩)) else (bif Nat.blt k 236 then (bif Nat.beq k 235 then prog_14_method_95_code else ⟨#[]⟩) else (bif Nat.beq k 236 then prog_14_method_96_code else ⟨#[]⟩)))) else (bif Nat.blt k 241 then (bif Nat.blt k 239 then (bif Nat.blt k 238 then (bif Nat.beq k 237 then prog_14_method_97_code else ⟨#[]⟩) else (bif Nat.beq k 238 then prog_14_method_98_code else ⟨#[]⟩)) else (bif Nat.blt k 240 then (bif Nat.beq k 239 then prog_14_method_99_code else ⟨#[]⟩) else (bif Nat.beq k 240 then prog_14_method_100_code else ⟨#[]⟩))) else (bif Nat.blt k 243 then (bif Nat.blt k 242 then (bif Nat.beq k 241 then prog_14_method_101_code else ⟨#[]⟩) else (bif Nat.beq k 242 then prog_22_method_30_code else ⟨#[]⟩)) else (bif Nat.blt k 244 then (bif Nat.beq k 243 then prog_22_method_103_code else ⟨#[]⟩) else (bif Nat.beq k 244 then prog_22_method_104_code else ⟨#[]⟩))))))))
def sm_rt : Nat → Option FieldType := fun k => bif Nat.blt k 122 then (bif Nat.blt k 61 then (bif Nat.blt k 30 then (bif Nat.blt k 15 then (bif Nat.blt k 7 then (bif Nat.blt k 3 then (bif Nat.blt k 1 then (bif Nat.beq k 0 then none else none) else (bif Nat.blt k 2 then (bif Nat.beq k 1 then none else none) else (bif Nat.beq k 2 then none else none))) else (bif Nat.blt k 5 then (bif Nat.blt k 4 then (bif Nat.beq k 3 then (some (.object "InvariantWorks$Grade")) else none) else (bif Nat.beq k 4 then none else none)) else (bif Nat.blt k 6 then (bif Nat.beq k 5 then none else none) else (bif Nat.beq k 6 then none else none)))) else (bif Nat.blt k 11 then (bif Nat.blt k 9 then (bif Nat.blt k 8 then (bif Nat.beq k 7 then none else none) else (bif Nat.beq k 8 then none else none)) else (bif Nat.blt k 10 then (bif Nat.beq k 9 then none else none) else (bif Nat.beq k 10 then none else none))) else (bif Nat.blt k 13 then (bif Nat.blt k 12 then (bif Nat.beq k 11 then none else none) else (bif Nat.beq k 12 then none else none)) else (bif Nat.blt k 14 then (bif Nat.beq k 13 then none else none) else (bif Nat.beq k 14 then none else none))))) else (bif Nat.blt k 22 then (bif Nat.blt k 18 then (bif Nat.blt k 16 then (bif Nat.beq k 15 then none else none) else (bif Nat.blt k 17 then (bif Nat.beq k 16 then (some .boolean) else none) else (bif Nat.beq k 17 then none else none))) else (bif Nat.blt k 20 then (bif Nat.blt k 19 then (bif Nat.beq k 18 then none else none) else (bif Nat.beq k 19 then none else none)) else (bif Nat.blt k 21 then (bif Nat.beq k 20 then none else none) else (bif Nat.beq k 21 then (some .int) else none)))) else (bif Nat.blt k 26 then (bif Nat.blt k 24 then (bif Nat.blt k 23 then (bif Nat.beq k 22 then none else none) else (bif Nat.beq k 23 then (some .boolean) else none)) else (bif Nat.blt k 25 then (bif Nat.beq k 24 then none else none) else (bif Nat.beq k 25 then (some .int) else none))) else (bif Nat.blt k 28 then (bif Nat.blt k 27 then (bif Nat.beq k 26 then none else none) else (bif Nat.beq k 27 then none else none)) else (bif Nat.blt k 29 then (bif Nat.beq k 28 then (some .int) else none) else (bif Nat.beq k 29 then (some .boolean) else none)))))) else (bif Nat.blt k 45 then (bif Nat.blt k 37 then (bif Nat.blt k 33 then (bif Nat.blt k 31 then (bif Nat.beq k 30 then (some .int) else none) else (bif Nat.blt k 32 then (bif Nat.beq k 31 then (some .boolean) else none) else (bif Nat.beq k 32 then (some .int) else none))) else (bif Nat.blt k 35 then (bif Nat.blt k 34 then (bif Nat.beq k 33 then (some .int) else none) else (bif Nat.beq k 34 then none else none)) else (bif Nat.blt k 36 then (bif Nat.beq k 35 then none else none) else (bif Nat.beq k 36 then none else none)))) else (bif Nat.blt k 41 then (bif Nat.blt k 39 then (bif Nat.blt k 38 then (bif Nat.beq k 37 then none else none) else (bif Nat.beq k 38 then none else none)) else (bif Nat.blt k 40 then (bif Nat.beq k 39 then none else none) else (bif Nat.beq k 40 then none else none))) else (bif Nat.blt k 43 then (bif Nat.blt k 42 then (bif Nat.beq k 41 then (some .boolean) else none) else (bif Nat.beq k 42 then none else none)) else (bif Nat.blt k 44 then (bif Nat.beq k 43 then none else none) else (bif Nat.beq k 44 then none else none))))) else (bif Nat.blt k 53 then (bif Nat.blt k 49 then (bif Nat.blt k 47 then (bif Nat.blt k 46 then (bif Nat.beq k 45 then none else none) else (bif Nat.beq k 46 then none else none)) else (bif Nat.blt k 48 then (bif Nat.beq k 47 then (some .boolean) else none) else (bif Nat.beq k 48 then none else none))) else (bif Nat.blt k 51 then (bif Nat.blt k 50 then (bif Nat.beq k 49 then (some .boolean) else none) else (bif Nat.beq k 50 then (some .boolean) else none)) else (bif Nat.blt k 52 then (bif Nat.beq k 51 then none else none) else (bif Nat.beq k 52 then (some .boolean) else none)))) else (bif Nat.blt k 57 then (bif Nat.blt k 55 then (bif Nat.blt k 54 then (bif Nat.beq k 53 then (some .boolean) else none) else (bif Nat.beq k 54 then none else none)) else (bif Nat.blt k 56 then (bif Nat.beq k 55 then none else none) else (bif Nat.beq k 56 then none else none))) else (bif Nat.blt k 59 then (bif Nat.blt k 58 then (bif Nat.beq k 57 then none else none) else (bif Nat.beq k 58 then (some .boolean) else none)) else (bif Nat.blt k 60 then (bif Nat.beq k 59 then none else none) else (bif Nat.beq k 60 then (some .boolean) else none))))))) else (bif Nat.blt k 91 then (bif Nat.blt k 76 then (bif Nat.blt k 68 then (bif Nat.blt k 64 then (bif Nat.blt k 62 then (bif Nat.beq k 61 then (some .boolean) else none) else (bif Nat.blt k 63 then (bif Nat.beq k 62 then (some .boolean) else none) else (bif Nat.beq k 63 then (some .boolean) else none))) else (bif Nat.blt k 66 then (bif Nat.blt k 65 then (bif Nat.beq k 64 then (some .boolean) else none) else (bif Nat.beq k 65 then (some .boolean) else none)) else (bif Nat.blt k 67 then (bif Nat.beq k 66 then none else none) else (bif Nat.beq k 67 then none else none)))) else (bif Nat.blt k 72 then (bif Nat.blt k 70 then (bif Nat.blt k 69 then (bif Nat.beq k 68 then none else none) else (bif Nat.beq k 69 then none else none)) else (bif Nat.blt k 71 then (bif Nat.beq k 70 then none else none) else (bif Nat.beq k 71 then none else none))) else (bif Nat.blt k 74 then (bif Nat.blt k 73 then (bif Nat.beq k 72 then none else none) else (bif Nat.beq k 73 then none else none)) else (bif Nat.blt k 75 then (bif Nat.beq k 74 then none else none) else (bif Nat.beq k 75 then none else none))))) else (bif Nat.blt k 83 then (bif Nat.blt k 79 then (bif Nat.blt k 77 then (bif Nat.beq k 76 then (some .int) else none) else (bif Nat.blt k 78 then (bif Nat.beq k 77 then none else none) else (bif Nat.beq k 78 then (some .int) else none))) else (bif Nat.blt k 81 then (bif Nat.blt k 80 then (bif Nat.beq k 79 then (some .boolean) else none) else (bif Nat.beq k 80 then (some .int) else none)) else (bif Nat.blt k 82 then (bif Nat.beq k 81 then (some .int) else none) else (bif Nat.beq k 82 then (some .boolean) else none)))) else (bif Nat.blt k 87 then (bif Nat.blt k 85 then (bif Nat.blt k 84 then (bif Nat.beq k 83 then none else none) else (bif Nat.beq k 84 then none else none)) else (bif Nat.blt k 86 then (bif Nat.beq k 85 then none else none) else (bif Nat.beq k 86 then (some (.array .int)) else none))) else (bif Nat.blt k 89 then (bif Nat.blt k 88 then (bif Nat.beq k 87 then (some .boolean) else none) else (bif Nat.beq k 88 then (some .boolean) else none)) else (bif Nat.blt k 90 then (bif Nat.beq k 89 then (some .boolean) else none) else (bif Nat.beq k 90 then (some .boolean) else none)))))) else (bif Nat.blt k 106 then (bif Nat.blt k 98 then (bif Nat.blt k 94 then (bif Nat.blt k 92 then (bif Nat.beq k 91 then (some .boolean) else none) else (bif Nat.blt k 93 then (bif Nat.beq k 92 then none else none) else (bif Nat.beq k 93 then none else none))) else (bif Nat.blt k 96 then (bif Nat.blt k 95 then (bif Nat.beq k 94 then none else none) else (bif Nat.beq k 95 then none else none)) else (bif Nat.blt k 97 then (bif Nat.beq k 96 then none else none) else (bif Nat.beq k 97 then (some .int) else none)))) else (bif Nat.blt k 102 then (bif Nat.blt k 100 then (bif Nat.blt k 99 then (bif Nat.beq k 98 then (some .int) else none) else (bif Nat.beq k 99 then (some .int) else none)) else (bif Nat.blt k 101 then (bif Nat.beq k 100 then (some .int) else none) else (bif Nat.beq k 101 then (some .int) else none))) else (bif Nat.blt k 104 then (bif Nat.blt k 103 then (bif Nat.beq k 102 then (some .int) else none) else (bif Nat.beq k 103 then (some .int) else none)) else (bif Nat.blt k 105 then (bif Nat.beq k 104 then (some .int) else none) else (bif Nat.beq k 105 then (some .int) else none))))) else (bif Nat.blt k 114 then (bif Nat.blt k 110 then (bif Nat.blt k 108 then (bif Nat.blt k 107 then (bif Nat.beq k 106 then (some .int) else none) else (bif Nat.beq k 107 then (some .int) else none)) else (bif Nat.blt k 109 then (bif Nat.beq k 108 then (some .int) else none) else (bif Nat.beq k 109 then (some .int) else none))) else (bif Nat.blt k 112 then (bif Nat.blt k 111 then (bif Nat.beq k 110 then (some .int) else none) else (bif Nat.beq k 111 then (some .int) else none)) else (bif Nat.blt k 113 then (bif Nat.beq k 112 then (some .int) else none) else (bif Nat.beq k 113 then (some .int) else none)))) else (bif Nat.blt k 118 then (bif Nat.blt k 116 then (bif Nat.blt k 115 then (bif Nat.beq k 114 then (some .int) else none) else (bif Nat.beq k 115 then (some .int) else none)) else (bif Nat.blt k 117 then (bif Nat.beq k 116 then (some .int) else none) else (bif Nat.beq k 117 then (some .int) else none))) else (bif Nat.blt k 120 then (bif Nat.blt k 119 then (bif Nat.beq k 118 then (some .int) else none) else (bif Nat.beq k 119 then (some .int) else none)) else (bif Nat.blt k 121 then (bif Nat.beq k 120 then (some .int) else none) else (bif Nat.beq k 121 then (some .int) else none)))))))) else (bif Nat.blt k 183 then (bif Nat.blt k 152 then (bif Nat.blt k 137 then (bif Nat.blt k 129 then (bif Nat.blt k 125 then (bif Nat.blt k 123 then (bif Nat.beq k 122 then none else none) else (bif Nat.blt k 124 then (bif Nat.beq k 123 then none else none) else (bif Nat.beq k 124 then (some .boolean) else none))) else (bif Nat.blt k 127 then (bif Nat.blt k 126 then (bif Nat.beq k 125 then (some .boolean) else none) else (bif Nat.beq k 126 then (some .boolean) else none)) else (bif Nat.blt k 128 then (bif Nat.beq k 127 then (some .boolean) else none) else (bif Nat.beq k 128 then (some .boolean) else none)))) else (bif Nat.blt k 133 then (bif Nat.blt k 131 then (bif Nat.blt k 130 then (bif Nat.beq k 129 then (some .int) else none) else (bif Nat.beq k 130 then (some .boolean) else none)) else (bif Nat.blt k 132 then (bif Nat.beq k 131 then (some .boolean) else none) else (bif Nat.beq k 132 then (some .int) else none))) else (bif Nat.blt k 135 then (bif Nat.blt k 134 then (bif Nat.beq k 133 then (some .boolean) else none) else (bif Nat.beq k 134 then none else none)) else (bif Nat.blt k 136 then (bif Nat.beq k 135 then (some .boolean) else none) else (bif Nat.beq k 136 then (some .int) else none))))) else (bif Nat.blt k 144 then (bif Nat.blt k 140 then (bif Nat.blt k 138 then (bif Nat.beq k 137 then (some .boolean) else none) else (bif Nat.blt k 139 then (bif Nat.beq k 138 then (some .int) else none) else (bif Nat.beq k 139 then (some .int) else none))) else (bif Nat.blt k 142 then (bif Nat.blt k 141 then (bif Nat.beq k 140 then (some (.array .int)) else none) else (bif Nat.beq k 141 then (some .int) else none)) else (bif Nat.blt k 143 then (bif Nat.beq k 142 then (some .boolean) else none) else (bif Nat.beq k 143 then (some .int) else none)))) else (bif Nat.blt k 148 then (bif Nat.blt k 146 then (bif Nat.blt k 145 then (bif Nat.beq k 144 then (some .int) else none) else (bif Nat.beq k 145 then (some .int) else none)) else (bif Nat.blt k 147 then (bif Nat.beq k 146 then (some .int) else none) else (bif Nat.beq k 147 then (some .int) else none))) else (bif Nat.blt k 150 then (bif Nat.blt k 149 then (bif Nat.beq k 148 then none else none) else (bif Nat.beq k 149 then (some .int) else none)) else (bif Nat.blt k 151 then (bif Nat.beq k 150 then (some .int) else none) else (bif Nat.beq k 151 then none else none)))))) else (bif Nat.blt k 167 then (bif Nat.blt k 159 then (bif Nat.blt k 155 then (bif Nat.blt k 153 then (bif Nat.beq k 152 then none else none) else (bif Nat.blt k 154 then (bif Nat.beq k 153 then (some .int) else none) else (bif Nat.beq k 154 then (some .boolean) else none))) else (bif Nat.blt k 157 then (bif Nat.blt k 156 then (bif Nat.beq k 155 then none else none) else (bif Nat.beq k 156 then (some .int) else none)) else (bif Nat.blt k 158 then (bif Nat.beq k 157 then none else none) else (bif Nat.beq k 158 then (some .int) else none)))) else (bif Nat.blt k 163 then (bif Nat.blt k 161 then (bif Nat.blt k 160 then (bif Nat.beq k 159 then none else none) else (bif Nat.beq k 160 then (some .boolean) else none)) else (bif Nat.blt k 162 then (bif Nat.beq k 161 then (some .int) else none) else (bif Nat.beq k 162 then (some .boolean) else none))) else (bif Nat.blt k 165 then (bif Nat.blt k 164 then (bif Nat.beq k 163 then (some .int) else none) else (bif Nat.beq k 164 then (some .int) else none)) else (bif Nat.blt k 166 then (bif Nat.beq k 165 then (some .int) else none) else (bif Nat.beq k 166 then (some .int) else none))))) else (bif Nat.blt k 175 then (bif Nat.blt k 171 then (bif Nat.blt k 169 then (bif Nat.blt k 168 then (bif Nat.beq k 167 then (some .boolean) else none) else (bif Nat.beq k 168 then (some .int) else none)) else (bif Nat.blt k 170 then (bif Nat.beq k 169 then (some .int) else none) else (bif Nat.beq k 170 then (some .int) else none))) else (bif Nat.blt k 173 then (bif Nat.blt k 172 then (bif Nat.beq k 171 then (some .int) else none) else (bif Nat.beq k 172 then (some .int) else none)) else (bif Nat.blt k 174 then (bif Nat.beq k 173 then (some .int) else none) else (bif Nat.beq k 174 then (some .int) else none)))) else (bif Nat.blt k 179 then (bif Nat.blt k 177 then (bif Nat.blt k 176 then (bif Nat.beq k 175 then (some .int) else none) else (bif Nat.beq k 176 then (some .int) else none)) else (bif Nat.blt k 178 then (bif Nat.beq k 177 then none else none) else (bif Nat.beq k 178 then (some .int) else none))) else (bif Nat.blt k 181 then (bif Nat.blt k 180 then (bif Nat.beq k 179 then none else none) else (bif Nat.beq k 180 then none else none)) else (bif Nat.blt k 182 then (bif Nat.beq k 181 then (some .boolean) else none) else (bif Nat.beq k 182 then (some .boolean) else none))))))) else (bif Nat.blt k 214 then (bif Nat.blt k 198 then (bif Nat.blt k 190 then (bif Nat.blt k 186 then (bif Nat.blt k 184 then (bif Nat.beq k 183 then (some .boolean) else none) else (bif Nat.blt k 185 then (bif Nat.beq k 184 then (some .boolean) else none) else (bif Nat.beq k 185 then (some .boolean) else none))) else (bif Nat.blt k 188 then (bif Nat.blt k 187 then (bif Nat.beq k 186 then (some .boolean) else none) else (bif Nat.beq k 187 then (some .boolean) else none)) else (bif Nat.blt k 189 then (bif Nat.beq k 188 then (some .int) else none) else (bif Nat.beq k 189 then (some .int) else none)))) else (bif Nat.blt k 194 then (bif Nat.blt k 192 then (bif Nat.blt k 191 then (bif Nat.beq k 190 then none else none) else (bif Nat.beq k 191 then (some .boolean) else none)) else (bif Nat.blt k 193 then (bif Nat.beq k 192 then none else none) else (bif Nat.beq k 193 then none else none))) else (bif Nat.blt k 196 then (bif Nat.blt k 195 then (bif Nat.beq k 194 then (some .boolean) else none) else (bif Nat.beq k 195 then (some .boolean) else none)) else (bif Nat.blt k 197 then (bif Nat.beq k 196 then none else none) else (bif Nat.beq k 197 then (some .boolean) else none))))) else (bif Nat.blt k 206 then (bif Nat.blt k 202 then (bif Nat.blt k 200 then (bif Nat.blt k 199 then (bif Nat.beq k 198 then (some .boolean) else none) else (bif Nat.beq k 199 then (some .int) else none)) else (bif Nat.blt k 201 then (bif Nat.beq k 200 then none else none) else (bif Nat.beq k 201 then none else none))) else (bif Nat.blt k 204 then (bif Nat.blt k 203 then (bif Nat.beq k 202 then (some .boolean) else none) else (bif Nat.beq k 203 then (some .boolean) else none)) else (bif Nat.blt k 205 then (bif Nat.beq k 204 then (some .int) else none) else (bif Nat.beq k 205 then (some .int) else none)))) else (bif Nat.blt k 210 then (bif Nat.blt k 208 then (bif Nat.blt k 207 then (bif Nat.beq k 206 then (some .int) else none) else (bif Nat.beq k 207 then (some .int) else none)) else (bif Nat.blt k 209 then (bif Nat.beq k 208 then (some .int) else none) else (bif Nat.beq k 209 then (some .int) else none))) else (bif Nat.blt k 212 then (bif Nat.blt k 211 then (bif Nat.beq k 210 then (some .int) else none) else (bif Nat.beq k 211 then (some .int) else none)) else (bif Nat.blt k 213 then (bif Nat.beq k 212 then (some .int) else none) else (bif Nat.beq k 213 then none else none)))))) else (bif Nat.blt k 229 then (bif Nat.blt k 221 then (bif Nat.blt k 217 then (bif Nat.blt k 215 then (bif Nat.beq k 214 then none else none) else (bif Nat.blt k 216 then (bif Nat.beq k 215 then none else none) else (bif Nat.beq k 216 then (some .int) else none))) else (bif Nat.blt k 219 then (bif Nat.blt k 218 then (bif Nat.beq k 217 then (some .int) else none) else (bif Nat.beq k 218 then none else none)) else (bif Nat.blt k 220 then (bif Nat.beq k 219 then (some .int) else none) else (bif Nat.beq k 220 then (some .int) else none)))) else (bif Nat.blt k 225 then (bif Nat.blt k 223 then (bif Nat.blt k 222 then (bif Nat.beq k 221 then (some .boolean) else none) else (bif Nat.beq k 222 then (some .int) else none)) else (bif Nat.blt k 224 then (bif Nat.beq k 223 then none else none) else (bif Nat.beq k 224 then none else none))) else (bif Nat.blt k 227 then (bif Nat.blt k 226 then (bif Nat.beq k 225 then none else none) else (bif Nat.beq k 226 then (some .int) else none)) else (bif Nat.blt k 228 then (bif Nat.beq k 227 then none else none) else (bif Nat.beq k 228 then none else none))))) else (bif Nat.blt k 237 then (bif Nat.blt k 233 then (bif Nat.blt k 231 then (bif Nat.blt k 230 then (bif Nat.beq k 229 then none else none) else (bif Nat.beq k 230 then none else none)) else (bif Nat.blt k 232 then (bif Nat.beq k 231 then (some .int) else none) else (bif Nat.beq k 232 then (some .int) else none))) else (bif Nat.blt k 235 then (bif Nat.blt k 234 then (bif Nat.beq k 233 then (some .int) else none) else (bif Nat.beq k 234 then none else none)) else (bif Nat.blt k 236 then (bif Nat.beq k 235 then none else none) else (bif Nat.beq k 236 then (some .int) else none)))) else (bif Nat.blt k 241 then (bif Nat.blt k 239 then (bif Nat.blt k 238 then (bif Nat.beq k 237 then (some .int) else none) else (bif Nat.beq k 238 then (some .boolean) else none)) else (bif Nat.blt k 240 then (bif Nat.beq k 239 then (some .int) else none) else (bif Nat.beq k 240 then (some .int) else none))) else (bif Nat.blt k 243 then (bif Nat.blt k 242 then (bif Nat.beq k 241 then (some .int) else none) else (bif Nat.beq k 242 then none else none)) else (bif Nat.blt k 244 then (bif Nat.beq k 243 then none else none) else (bif Nat.beq k 244 then none else none))))))))
def sm_ow : Nat → Nat := fun k => bif Nat.blt k 122 then (bif Nat.blt k 61 then (bif Nat.blt k 30 then (bif Nat.blt k 15 then (bif Nat.blt k 7 then (bif Nat.blt k 3 then (bif Nat.blt k 1 then (bif Nat.beq k 0 then 0 else 0) else (bif Nat.blt k 2 then (bif Nat.beq k 1 then 0 else 0) else (bif Nat.beq k 2 then 0 else 0))) else (bif Nat.blt k 5 then (bif Nat.blt k 4 then (bif Nat.beq k 3 then 0 else 0) else (bif Nat.beq k 4 then 0 else 0)) else (bif Nat.blt k 6 then (bif Nat.beq k 5 then 1 else 0) else (bif Nat.beq k 6 then 1 else 0)))) else (bif Nat.blt k 11 then (bif Nat.blt k 9 then (bif Nat.blt k 8 then (bif Nat.beq k 7 then 1 else 0) else (bif Nat.beq k 8 then 1 else 0)) else (bif Nat.blt k 10 then (bif Nat.beq k 9 then 1 else 0) else (bif Nat.beq k 10 then 1 else 0))) else (bif Nat.blt k 13 then (bif Nat.blt k 12 then (bif Nat.beq k 11 then 2 else 0) else (bif Nat.beq k 12 then 2 else 0)) else (bif Nat.blt k 14 then (bif Nat.beq k 13 then 2 else 0) else (bif Nat.beq k 14 then 2 else 0))))) else (bif Nat.blt k 22 then (bif Nat.blt k 18 then (bif Nat.blt k 16 then (bif Nat.beq k 15 then 2 else 0) else (bif Nat.blt k 17 then (bif Nat.beq k 16 then 2 else 0) else (bif Nat.beq k 17 then 2 else 0))) else (bif Nat.blt k 20 then (bif Nat.blt k 19 then (bif Nat.beq k 18 then 2 else 0) else (bif Nat.beq k 19 then 2 else 0)) else (bif Nat.blt k 21 then (bif Nat.beq k 20 then 2 else 0) else (bif Nat.beq k 21 then 2 else 0)))) else (bif Nat.blt k 26 then (bif Nat.blt k 24 then (bif Nat.blt k 23 then (bif Nat.beq k 22 then 3 else 0) else (bif Nat.beq k 23 then 3 else 0)) else (bif Nat.blt k 25 then (bif Nat.beq k 24 then 3 else 0) else (bif Nat.beq k 25 then 3 else 0))) else (bif Nat.blt k 28 then (bif Nat.blt k 27 then (bif Nat.beq k 26 then 3 else 0) else (bif Nat.beq k 27 then 3 else 0)) else (bif Nat.blt k 29 then (bif Nat.beq k 28 then 3 else 0) else (bif Nat.beq k 29 then 3 else 0)))))) else (bif Nat.blt k 45 then (bif Nat.blt k 37 then (bif Nat.blt k 33 then (bif Nat.blt k 31 then (bif Nat.beq k 30 then 3 else 0) else (bif Nat.blt k 32 then (bif Nat.beq k 31 then 3 else 0) else (bif Nat.beq k 32 then 3 else 0))) else (bif Nat.blt k 35 then (bif Nat.blt k 34 then (bif Nat.beq k 33 then 3 else 0) else (bif Nat.beq k 34 then 4 else 0)) else (bif Nat.blt k 36 then (bif Nat.beq k 35 then 4 else 0) else (bif Nat.beq k 36 then 4 else 0)))) else (bif Nat.blt k 41 then (bif Nat.blt k 39 then (bif Nat.blt k 38 then (bif Nat.beq k 37 then 4 else 0) else (bif Nat.beq k 38 then 4 else 0)) else (bif Nat.blt k 40 then (bif Nat.beq k 39 then 4 else 0) else (bif Nat.beq k 40 then 4 else 0))) else (bif Nat.blt k 43 then (bif Nat.blt k 42 then (bif Nat.beq k 41 then 4 else 0) else (bif Nat.beq k 42 then 4 else 0)) else (bif Nat.blt k 44 then (bif Nat.beq k 43 then 5 else 0) else (bif Nat.beq k 44 then 5 else 0))))) else (bif Nat.blt k 53 then (bif Nat.blt k 49 then (bif Nat.blt k 47 then (bif Nat.blt k 46 then (bif Nat.beq k 45 then 6 else 0) else (bif Nat.beq k 46 then 6 else 0)) else (bif Nat.blt k 48 then (bif Nat.beq k 47 then 6 else 0) else (bif Nat.beq k 48 then 6 else 0))) else (bif Nat.blt k 51 then (bif Nat.blt k 50 then (bif Nat.beq k 49 then 6 else 0) else (bif Nat.beq k 50 then 6 else 0)) else (bif Nat.blt k 52 then (bif Nat.beq k 51 then 6 else 0) else (bif Nat.beq k 52 then 6 else 0)))) else (bif Nat.blt k 57 then (bif Nat.blt k 55 then (bif Nat.blt k 54 then (bif Nat.beq k 53 then 6 else 0) else (bif Nat.beq k 54 then 6 else 0)) else (bif Nat.blt k 56 then (bif Nat.beq k 55 then 7 else 0) else (bif Nat.beq k 56 then 7 else 0))) else (bif Nat.blt k 59 then (bif Nat.blt k 58 then (bif Nat.beq k 57 then 7 else 0) else (bif Nat.beq k 58 then 7 else 0)) else (bif Nat.blt k 60 then (bif Nat.beq k 59 then 7 else 0) else (bif Nat.beq k 60 then 7 else 0))))))) else (bif Nat.blt k 91 then (bif Nat.blt k 76 then (bif Nat.blt k 68 then (bif Nat.blt k 64 then (bif Nat.blt k 62 then (bif Nat.beq k 61 then 7 else 0) else (bif Nat.blt k 63 then (bif Nat.beq k 62 then 7 else 0) else (bif Nat.beq k 63 then 7 else 0))) else (bif Nat.blt k 66 then (bif Nat.blt k 65 then (bif Nat.beq k 64 then 7 else 0) else (bif Nat.beq k 65 then 7 else 0)) else (bif Nat.blt k 67 then (bif Nat.beq k 66 then 8 else 0) else (bif Nat.beq k 67 then 8 else 0)))) else (bif Nat.blt k 72 then (bif Nat.blt k 70 then (bif Nat.blt k 69 then (bif Nat.beq k 68 then 8 else 0) else (bif Nat.beq k 69 then 8 else 0)) else (bif Nat.blt k 71 then (bif Nat.beq k 70 then 8 else 0) else (bif Nat.beq k 71 then 8 else 0))) else (bif Nat.blt k 74 then (bif Nat.blt k 73 then (bif Nat.beq k 72 then 8 else 0) else (bif Nat.beq k 73 then 8 else 0)) else (bif Nat.blt k 75 then (bif Nat.beq k 74 then 8 else 0) else (bif Nat.beq k 75 then 8 else 0))))) else (bif Nat.blt k 83 then (bif Nat.blt k 79 then (bif Nat.blt k 77 then (bif Nat.beq k 76 then 8 else 0) else (bif Nat.blt k 78 then (bif Nat.beq k 77 then 9 else 0) else (bif Nat.beq k 78 then 9 else 0))) else (bif Nat.blt k 81 then (bif Nat.blt k 80 then (bif Nat.beq k 79 then 9 else 0) else (bif Nat.beq k 80 then 9 else 0)) else (bif Nat.blt k 82 then (bif Nat.beq k 81 then 9 else 0) else (bif Nat.beq k 82 then 9 else 0)))) else (bif Nat.blt k 87 then (bif Nat.blt k 85 then (bif Nat.blt k 84 then (bif Nat.beq k 83 then 9 else 0) else (bif Nat.beq k 84 then 9 else 0)) else (bif Nat.blt k 86 then (bif Nat.beq k 85 then 10 else 0) else (bif Nat.beq k 86 then 10 else 0))) else (bif Nat.blt k 89 then (bif Nat.blt k 88 then (bif Nat.beq k 87 then 10 else 0) else (bif Nat.beq k 88 then 10 else 0)) else (bif Nat.blt k 90 then (bif Nat.beq k 89 then 10 else 0) else (bif Nat.beq k 90 then 10 else 0)))))) else (bif Nat.blt k 106 then (bif Nat.blt k 98 then (bif Nat.blt k 94 then (bif Nat.blt k 92 then (bif Nat.beq k 91 then 10 else 0) else (bif Nat.blt k 93 then (bif Nat.beq k 92 then 10 else 0) else (bif Nat.beq k 93 then 10 else 0))) else (bif Nat.blt k 96 then (bif Nat.blt k 95 then (bif Nat.beq k 94 then 10 else 0) else (bif Nat.beq k 95 then 10 else 0)) else (bif Nat.blt k 97 then (bif Nat.beq k 96 then 11 else 0) else (bif Nat.beq k 97 then 11 else 0)))) else (bif Nat.blt k 102 then (bif Nat.blt k 100 then (bif Nat.blt k 99 then (bif Nat.beq k 98 then 11 else 0) else (bif Nat.beq k 99 then 11 else 0)) else (bif Nat.blt k 101 then (bif Nat.beq k 100 then 11 else 0) else (bif Nat.beq k 101 then 11 else 0))) else (bif Nat.blt k 104 then (bif Nat.blt k 103 then (bif Nat.beq k 102 then 11 else 0) else (bif Nat.beq k 103 then 11 else 0)) else (bif Nat.blt k 105 then (bif Nat.beq k 104 then 11 else 0) else (bif Nat.beq k 105 then 11 else 0))))) else (bif Nat.blt k 114 then (bif Nat.blt k 110 then (bif Nat.blt k 108 then (bif Nat.blt k 107 then (bif Nat.beq k 106 then 11 else 0) else (bif Nat.beq k 107 then 11 else 0)) else (bif Nat.blt k 109 then (bif Nat.beq k 108 then 11 else 0) else (bif Nat.beq k 109 then 11 else 0))) else (bif Nat.blt k 112 then (bif Nat.blt k 111 then (bif Nat.beq k 110 then 11 else 0) else (bif Nat.beq k 111 then 11 else 0)) else (bif Nat.blt k 113 then (bif Nat.beq k 112 then 11 else 0) else (bif Nat.beq k 113 then 11 else 0)))) else (bif Nat.blt k 118 then (bif Nat.blt k 116 then (bif Nat.blt k 115 then (bif Nat.beq k 114 then 11 else 0) else (bif Nat.beq k 115 then 11 else 0)) else (bif Nat.blt k 117 then (bif Nat.beq k 116 then 11 else 0) else (bif Nat.beq k 117 then 11 else 0))) else (bif Nat.blt k 120 then (bif Nat.blt k 119 then (bif Nat.beq k 118 then 11 else 0) else (bif Nat.beq k 119 then 11 else 0)) else (bif Nat.blt k 121 then (bif Nat.beq k 120 then 11 else 0) else (bif Nat.beq k 121 then 11 else 0)))))))) else (bif Nat.blt k 183 then (bif Nat.blt k 152 then (bif Nat.blt k 137 then (bif Nat.blt k 129 then (bif Nat.blt k 125 then (bif Nat.blt k 123 then (bif Nat.beq k 122 then 11 else 0) else (bif Nat.blt k 124 then (bif Nat.beq k 123 then 11 else 0) else (bif Nat.beq k 124 then 11 else 0))) else (bif Nat.blt k 127 then (bif Nat.blt k 126 then (bif Nat.beq k 125 then 11 else 0) else (bif Nat.beq k 126 then 11 else 0)) else (bif Nat.blt k 128 then (bif Nat.beq k 127 then 11 else 0) else (bif Nat.beq k 128 then 11 else 0)))) else (bif Nat.blt k 133 then (bif Nat.blt k 131 then (bif Nat.blt k 130 then (bif Nat.beq k 129 then 11 else 0) else (bif Nat.beq k 130 then 11 else 0)) else (bif Nat.blt k 132 then (bif Nat.beq k 131 then 11 else 0) else (bif Nat.beq k 132 then 11 else 0))) else (bif Nat.blt k 135 then (bif Nat.blt k 134 then (bif Nat.beq k 133 then 11 else 0) else (bif Nat.beq k 134 then 11 else 0)) else (bif Nat.blt k 136 then (bif Nat.beq k 135 then 11 else 0) else (bif Nat.beq k 136 then 11 else 0))))) else (bif Nat.blt k 144 then (bif Nat.blt k 140 then (bif Nat.blt k 138 then (bif Nat.beq k 137 then 11 else 0) else (bif Nat.blt k 139 then (bif Nat.beq k 138 then 11 else 0) else (bif Nat.beq k 139 then 11 else 0))) else (bif Nat.blt k 142 then (bif Nat.blt k 141 then (bif Nat.beq k 140 then 11 else 0) else (bif Nat.beq k 141 then 12 else 0)) else (bif Nat.blt k 143 then (bif Nat.beq k 142 then 12 else 0) else (bif Nat.beq k 143 then 12 else 0)))) else (bif Nat.blt k 148 then (bif Nat.blt k 146 then (bif Nat.blt k 145 then (bif Nat.beq k 144 then 12 else 0) else (bif Nat.beq k 145 then 12 else 0)) else (bif Nat.blt k 147 then (bif Nat.beq k 146 then 12 else 0) else (bif Nat.beq k 147 then 12 else 0))) else (bif Nat.blt k 150 then (bif Nat.blt k 149 then (bif Nat.beq k 148 then 12 else 0) else (bif Nat.beq k 149 then 12 else 0)) else (bif Nat.blt k 151 then (bif Nat.beq k 150 then 12 else 0) else (bif Nat.beq k 151 then 12 else 0)))))) else (bif Nat.blt k 167 then (bif Nat.blt k 159 then (bif Nat.blt k 155 then (bif Nat.blt k 153 then (bif Nat.beq k 152 then 12 else 0) else (bif Nat.blt k 154 then (bif Nat.beq k 153 then 12 else 0) else (bif Nat.beq k 154 then 12 else 0))) else (bif Nat.blt k 157 then (bif Nat.blt k 156 then (bif Nat.beq k 155 then 12 else 0) else (bif Nat.beq k 156 then 12 else 0)) else (bif Nat.blt k 158 then (bif Nat.beq k 157 then 12 else 0) else (bif Nat.beq k 158 then 12 else 0)))) else (bif Nat.blt k 163 then (bif Nat.blt k 161 then (bif Nat.blt k 160 then (bif Nat.beq k 159 then 12 else 0) else (bif Nat.beq k 160 then 12 else 0)) else (bif Nat.blt k 162 then (bif Nat.beq k 161 then 12 else 0) else (bif Nat.beq k 162 then 12 else 0))) else (bif Nat.blt k 165 then (bif Nat.blt k 164 then (bif Nat.beq k 163 then 12 else 0) else (bif Nat.beq k 164 then 12 else 0)) else (bif Nat.blt k 166 then (bif Nat.beq k 165 then 12 else 0) else (bif Nat.beq k 166 then 12 else 0))))) else (bif Nat.blt k 175 then (bif Nat.blt k 171 then (bif Nat.blt k 169 then (bif Nat.blt k 168 then (bif Nat.beq k 167 then 12 else 0) else (bif Nat.beq k 168 then 12 else 0)) else (bif Nat.blt k 170 then (bif Nat.beq k 169 then 12 else 0) else (bif Nat.beq k 170 then 12 else 0))) else (bif Nat.blt k 173 then (bif Nat.blt k 172 then (bif Nat.beq k 171 then 12 else 0) else (bif Nat.beq k 172 then 12 else 0)) else (bif Nat.blt k 174 then (bif Nat.beq k 173 then 12 else 0) else (bif Nat.beq k 174 then 12 else 0)))) else (bif Nat.blt k 179 then (bif Nat.blt k 177 then (bif Nat.blt k 176 then (bif Nat.beq k 175 then 12 else 0) else (bif Nat.beq k 176 then 12 else 0)) else (bif Nat.blt k 178 then (bif Nat.beq k 177 then 12 else 0) else (bif Nat.beq k 178 then 12 else 0))) else (bif Nat.blt k 181 then (bif Nat.blt k 180 then (bif Nat.beq k 179 then 12 else 0) else (bif Nat.beq k 180 then 12 else 0)) else (bif Nat.blt k 182 then (bif Nat.beq k 181 then 12 else 0) else (bif Nat.beq k 182 then 12 else 0))))))) else (bif Nat.blt k 214 then (bif Nat.blt k 198 then (bif Nat.blt k 190 then (bif Nat.blt k 186 then (bif Nat.blt k 184 then (bif Nat.beq k 183 then 12 else 0) else (bif Nat.blt k 185 then (bif Nat.beq k 184 then 12 else 0) else (bif Nat.beq k 185 then 12 else 0))) else (bif Nat.blt k 188 then (bif Nat.blt k 187 then (bif Nat.beq k 186 then 12 else 0) else (bif Nat.beq k 187 then 12 else 0)) else (bif Nat.blt k 189 then (bif Nat.beq k 188 then 12 else 0) else (bif Nat.beq k 189 then 12 else 0)))) else (bif Nat.blt k 194 then (bif Nat.blt k 192 then (bif Nat.blt k 191 then (bif Nat.beq k 190 then 12 else 0) else (bif Nat.beq k 191 then 12 else 0)) else (bif Nat.blt k 193 then (bif Nat.beq k 192 then 12 else 0) else (bif Nat.beq k 193 then 12 else 0))) else (bif Nat.blt k 196 then (bif Nat.blt k 195 then (bif Nat.beq k 194 then 12 else 0) else (bif Nat.beq k 195 then 12 else 0)) else (bif Nat.blt k 197 then (bif Nat.beq k 196 then 12 else 0) else (bif Nat.beq k 197 then 12 else 0))))) else (bif Nat.blt k 206 then (bif Nat.blt k 202 then (bif Nat.blt k 200 then (bif Nat.blt k 199 then (bif Nat.beq k 198 then 12 else 0) else (bif Nat.beq k 199 then 12 else 0)) else (bif Nat.blt k 201 then (bif Nat.beq k 200 then 12 else 0) else (bif Nat.beq k 201 then 12 else 0))) else (bif Nat.blt k 204 then (bif Nat.blt k 203 then (bif Nat.beq k 202 then 12 else 0) else (bif Nat.beq k 203 then 12 else 0)) else (bif Nat.blt k 205 then (bif Nat.beq k 204 then 12 else 0) else (bif Nat.beq k 205 then 12 else 0)))) else (bif Nat.blt k 210 then (bif Nat.blt k 208 then (bif Nat.blt k 207 then (bif Nat.beq k 206 then 12 else 0) else (bif Nat.beq k 207 then 12 else 0)) else (bif Nat.blt k 209 then (bif Nat.beq k 208 then 12 else 0) else (bif Nat.beq k 209 then 12 else 0))) else (bif Nat.blt k 212 then (bif Nat.blt k 211 then (bif Nat.beq k 210 then 12 else 0) else (bif Nat.beq k 211 then 12 else 0)) else (bif Nat.blt k 213 then (bif Nat.beq k 212 then 12 else 0) else (bif Nat.beq k 213 then 12 else 0)))))) else (bif Nat.blt k 229 then (bif Nat.blt k 221 then (bif Nat.blt k 217 then (bif Nat.blt k 215 then (bif Nat.beq k 214 then 12 else 0) else (bif Nat.blt k 216 then (bif Nat.beq k 215 then 12 else 0) else (bif Nat.beq k 216 then 12 else 0))) else (bif Nat.blt k 219 then (bif Nat.blt k 218 then (bif Nat.beq k 217 then 12 else 0) else (bif Nat.beq k 218 then 12 else 0)) else (bif Nat.blt k 220 then (bif Nat.beq k 219 then 12 else 0) else (bif Nat.beq k 220 then 12 else 0)))) else (bif Nat.blt k 225 then (bif Nat.blt k 223 then (bif Nat.blt k 222 then (bif Nat.beq k 221 then 12 else 0) else (bif Nat.beq k 222 then 12 else 0)) else (bif Nat.blt k 224 then (bif Nat.beq k 223 then 12 else 0) else (bif Nat.beq k 224 then 12 else 0))) else (bif Nat.blt k 227 then (bif Nat.blt k 226 then (bif Nat.beq k 225 then 12 else 0) else (bif Nat.beq k 226 then 12 else 0)) else (bif Nat.blt k 228 then (bif Nat.beq k 227 then 12 else 0) else (bif Nat.beq k 228 then 12 else 0))))) else (bif Nat.blt k 237 then (bif Nat.blt k 233 then (bif Nat.blt k 231 then (bif Nat.blt k 230 then (bif Nat.beq k 229 then 12 else 0) else (bif Nat.beq k 230 then 12 else 0)) else (bif Nat.blt k 232 then (bif Nat.beq k 231 then 12 else 0) else (bif Nat.beq k 232 then 12 else 0))) else (bif Nat.blt k 235 then (bif Nat.blt k 234 then (bif Nat.beq k 233 then 12 else 0) else (bif Nat.beq k 234 then 12 else 0)) else (bif Nat.blt k 236 then (bif Nat.beq k 235 then 12 else 0) else (bif Nat.beq k 236 then 12 else 0)))) else (bif Nat.blt k 241 then (bif Nat.blt k 239 then (bif Nat.blt k 238 then (bif Nat.beq k 237 then 12 else 0) else (bif Nat.beq k 238 then 12 else 0)) else (bif Nat.blt k 240 then (bif Nat.beq k 239 then 12 else 0) else (bif Nat.beq k 240 then 12 else 0))) else (bif Nat.blt k 243 then (bif Nat.blt k 242 then (bif Nat.beq k 241 then 12 else 0) else (bif Nat.beq k 242 then 13 else 0)) else (bif Nat.blt k 244 then (bif Nat.beq k 243 then 13 else 0) else (bif Nat.beq k 244 then 13 else 0))))))))
def sm_na : Nat → Nat := fun k => bif Nat.blt k 122 then (bif Nat.blt k 61 then (bif Nat.blt k 30 then (bif Nat.blt k 15 then (bif Nat.blt k 7 then (bif Nat.blt k 3 then (bif Nat.blt k 1 then (bif Nat.beq k 0 then 2 else 0) else (bif Nat.blt k 2 then (bif Nat.beq k 1 then 2 else 0) else (bif Nat.beq k 2 then 0 else 0))) else (bif Nat.blt k 5 then (bif Nat.blt k 4 then (bif Nat.beq k 3 then 1 else 0) else (bif Nat.beq k 4 then 1 else 0)) else (bif Nat.blt k 6 then (bif Nat.beq k 5 then 0 else 0) else (bif Nat.beq k 6 then 2 else 0)))) else (bif Nat.blt k 11 then (bif Nat.blt k 9 then (bif Nat.blt k 8 then (bif Nat.beq k 7 then 1 else 0) else (bif Nat.beq k 8 then 5 else 0)) else (bif Nat.blt k 10 then (bif Nat.beq k 9 then 0 else 0) else (bif Nat.beq k 10 then 2 else 0))) else (bif Nat.blt k 13 then (bif Nat.blt k 12 then (bif Nat.beq k 11 then 1 else 0) else (bif Nat.beq k 12 then 2 else 0)) else (bif Nat.blt k 14 then (bif Nat.beq k 13 then 1 else 0) else (bif Nat.beq k 14 then 0 else 0))))) else (bif Nat.blt k 22 then (bif Nat.blt k 18 then (bif Nat.blt k 16 then (bif Nat.beq k 15 then 3 else 0) else (bif Nat.blt k 17 then (bif Nat.beq k 16 then 1 else 0) else (bif Nat.beq k 17 then 2 else 0))) else (bif Nat.blt k 20 then (bif Nat.blt k 19 then (bif Nat.beq k 18 then 2 else 0) else (bif Nat.beq k 19 then 1 else 0)) else (bif Nat.blt k 21 then (bif Nat.beq k 20 then 5 else 0) else (bif Nat.beq k 21 then 4 else 0)))) else (bif Nat.blt k 26 then (bif Nat.blt k 24 then (bif Nat.blt k 23 then (bif Nat.beq k 22 then 0 else 0) else (bif Nat.beq k 23 then 0 else 0)) else (bif Nat.blt k 25 then (bif Nat.beq k 24 then 2 else 0) else (bif Nat.beq k 25 then 0 else 0))) else (bif Nat.blt k 28 then (bif Nat.blt k 27 then (bif Nat.beq k 26 then 0 else 0) else (bif Nat.beq k 27 then 0 else 0)) else (bif Nat.blt k 29 then (bif Nat.beq k 28 then 0 else 0) else (bif Nat.beq k 29 then 1 else 0)))))) else (bif Nat.blt k 45 then (bif Nat.blt k 37 then (bif Nat.blt k 33 then (bif Nat.blt k 31 then (bif Nat.beq k 30 then 0 else 0) else (bif Nat.blt k 32 then (bif Nat.beq k 31 then 0 else 0) else (bif Nat.beq k 32 then 1 else 0))) else (bif Nat.blt k 35 then (bif Nat.blt k 34 then (bif Nat.beq k 33 then 1 else 0) else (bif Nat.beq k 34 then 0 else 0)) else (bif Nat.blt k 36 then (bif Nat.beq k 35 then 2 else 0) else (bif Nat.beq k 36 then 1 else 0)))) else (bif Nat.blt k 41 then (bif Nat.blt k 39 then (bif Nat.blt k 38 then (bif Nat.beq k 37 then 2 else 0) else (bif Nat.beq k 38 then 3 else 0)) else (bif Nat.blt k 40 then (bif Nat.beq k 39 then 3 else 0) else (bif Nat.beq k 40 then 1 else 0))) else (bif Nat.blt k 43 then (bif Nat.blt k 42 then (bif Nat.beq k 41 then 2 else 0) else (bif Nat.beq k 42 then 4 else 0)) else (bif Nat.blt k 44 then (bif Nat.beq k 43 then 0 else 0) else (bif Nat.beq k 44 then 3 else 0))))) else (bif Nat.blt k 53 then (bif Nat.blt k 49 then (bif Nat.blt k 47 then (bif Nat.blt k 46 then (bif Nat.beq k 45 then 2 else 0) else (bif Nat.beq k 46 then 2 else 0)) else (bif Nat.blt k 48 then (bif Nat.beq k 47 then 0 else 0) else (bif Nat.beq k 48 then 1 else 0))) else (bif Nat.blt k 51 then (bif Nat.blt k 50 then (bif Nat.beq k 49 then 1 else 0) else (bif Nat.beq k 50 then 3 else 0)) else (bif Nat.blt k 52 then (bif Nat.beq k 51 then 2 else 0) else (bif Nat.beq k 52 then 0 else 0)))) else (bif Nat.blt k 57 then (bif Nat.blt k 55 then (bif Nat.blt k 54 then (bif Nat.beq k 53 then 0 else 0) else (bif Nat.beq k 54 then 2 else 0)) else (bif Nat.blt k 56 then (bif Nat.beq k 55 then 1 else 0) else (bif Nat.beq k 56 then 1 else 0))) else (bif Nat.blt k 59 then (bif Nat.blt k 58 then (bif Nat.beq k 57 then 0 else 0) else (bif Nat.beq k 58 then 1 else 0)) else (bif Nat.blt k 60 then (bif Nat.beq k 59 then 0 else 0) else (bif Nat.beq k 60 then 1 else 0))))))) else (bif Nat.blt k 91 then (bif Nat.blt k 76 then (bif Nat.blt k 68 then (bif Nat.blt k 64 then (bif Nat.blt k 62 then (bif Nat.beq k 61 then 1 else 0) else (bif Nat.blt k 63 then (bif Nat.beq k 62 then 1 else 0) else (bif Nat.beq k 63 then 2 else 0))) else (bif Nat.blt k 66 then (bif Nat.blt k 65 then (bif Nat.beq k 64 then 3 else 0) else (bif Nat.beq k 65 then 1 else 0)) else (bif Nat.blt k 67 then (bif Nat.beq k 66 then 2 else 0) else (bif Nat.beq k 67 then 1 else 0)))) else (bif Nat.blt k 72 then (bif Nat.blt k 70 then (bif Nat.blt k 69 then (bif Nat.beq k 68 then 0 else 0) else (bif Nat.beq k 69 then 1 else 0)) else (bif Nat.blt k 71 then (bif Nat.beq k 70 then 1 else 0) else (bif Nat.beq k 71 then 2 else 0))) else (bif Nat.blt k 74 then (bif Nat.blt k 73 then (bif Nat.beq k 72 then 1 else 0) else (bif Nat.beq k 73 then 1 else 0)) else (bif Nat.blt k 75 then (bif Nat.beq k 74 then 1 else 0) else (bif Nat.beq k 75 then 2 else 0))))) else (bif Nat.blt k 83 then (bif Nat.blt k 79 then (bif Nat.blt k 77 then (bif Nat.beq k 76 then 4 else 0) else (bif Nat.blt k 78 then (bif Nat.beq k 77 then 1 else 0) else (bif Nat.beq k 78 then 3 else 0))) else (bif Nat.blt k 81 then (bif Nat.blt k 80 then (bif Nat.beq k 79 then 2 else 0) else (bif Nat.beq k 80 then 1 else 0)) else (bif Nat.blt k 82 then (bif Nat.beq k 81 then 1 else 0) else (bif Nat.beq k 82 then 1 else 0)))) else (bif Nat.blt k 87 then (bif Nat.blt k 85 then (bif Nat.blt k 84 then (bif Nat.beq k 83 then 4 else 0) else (bif Nat.beq k 84 then 3 else 0)) else (bif Nat.blt k 86 then (bif Nat.beq k 85 then 1 else 0) else (bif Nat.beq k 86 then 1 else 0))) else (bif Nat.blt k 89 then (bif Nat.blt k 88 then (bif Nat.beq k 87 then 1 else 0) else (bif Nat.beq k 88 then 1 else 0)) else (bif Nat.blt k 90 then (bif Nat.beq k 89 then 1 else 0) else (bif Nat.beq k 90 then 1 else 0)))))) else (bif Nat.blt k 106 then (bif Nat.blt k 98 then (bif Nat.blt k 94 then (bif Nat.blt k 92 then (bif Nat.beq k 91 then 1 else 0) else (bif Nat.blt k 93 then (bif Nat.beq k 92 then 2 else 0) else (bif Nat.beq k 93 then 3 else 0))) else (bif Nat.blt k 96 then (bif Nat.blt k 95 then (bif Nat.beq k 94 then 1 else 0) else (bif Nat.beq k 95 then 1 else 0)) else (bif Nat.blt k 97 then (bif Nat.beq k 96 then 0 else 0) else (bif Nat.beq k 97 then 5 else 0)))) else (bif Nat.blt k 102 then (bif Nat.blt k 100 then (bif Nat.blt k 99 then (bif Nat.beq k 98 then 1 else 0) else (bif Nat.beq k 99 then 2 else 0)) else (bif Nat.blt k 101 then (bif Nat.beq k 100 then 1 else 0) else (bif Nat.beq k 101 then 3 else 0))) else (bif Nat.blt k 104 then (bif Nat.blt k 103 then (bif Nat.beq k 102 then 2 else 0) else (bif Nat.beq k 103 then 2 else 0)) else (bif Nat.blt k 105 then (bif Nat.beq k 104 then 2 else 0) else (bif Nat.beq k 105 then 4 else 0))))) else (bif Nat.blt k 114 then (bif Nat.blt k 110 then (bif Nat.blt k 108 then (bif Nat.blt k 107 then (bif Nat.beq k 106 then 3 else 0) else (bif Nat.beq k 107 then 3 else 0)) else (bif Nat.blt k 109 then (bif Nat.beq k 108 then 2 else 0) else (bif Nat.beq k 109 then 4 else 0))) else (bif Nat.blt k 112 then (bif Nat.blt k 111 then (bif Nat.beq k 110 then 3 else 0) else (bif Nat.beq k 111 then 1 else 0)) else (bif Nat.blt k 113 then (bif Nat.beq k 112 then 3 else 0) else (bif Nat.beq k 113 then 3 else 0)))) else (bif Nat.blt k 118 then (bif Nat.blt k 116 then (bif Nat.blt k 115 then (bif Nat.beq k 114 then 2 else 0) else (bif Nat.beq k 115 then 0 else 0)) else (bif Nat.blt k 117 then (bif Nat.beq k 116 then 2 else 0) else (bif Nat.beq k 117 then 1 else 0))) else (bif Nat.blt k 120 then (bif Nat.blt k 119 then (bif Nat.beq k 118 then 1 else 0) else (bif Nat.beq k 119 then 4 else 0)) else (bif Nat.blt k 121 then (bif Nat.beq k 120 then 6 else 0) else (bif Nat.beq k 121 then 1 else 0)))))))) else (bif Nat.blt k 183 then (bif Nat.blt k 152 then (bif Nat.blt k 137 then (bif Nat.blt k 129 then (bif Nat.blt k 125 then (bif Nat.blt k 123 then (bif Nat.beq k 122 then 0 else 0) else (bif Nat.blt k 124 then (bif Nat.beq k 123 then 1 else 0) else (bif Nat.beq k 124 then 1 else 0))) else (bif Nat.blt k 127 then (bif Nat.blt k 126 then (bif Nat.beq k 125 then 1 else 0) else (bif Nat.beq k 126 then 1 else 0)) else (bif Nat.blt k 128 then (bif Nat.beq k 127 then 1 else 0) else (bif Nat.beq k 128 then 4 else 0)))) else (bif Nat.blt k 133 then (bif Nat.blt k 131 then (bif Nat.blt k 130 then (bif Nat.beq k 129 then 1 else 0) else (bif Nat.beq k 130 then 2 else 0)) else (bif Nat.blt k 132 then (bif Nat.beq k 131 then 1 else 0) else (bif Nat.beq k 132 then 1 else 0))) else (bif Nat.blt k 135 then (bif Nat.blt k 134 then (bif Nat.beq k 133 then 1 else 0) else (bif Nat.beq k 134 then 2 else 0)) else (bif Nat.blt k 136 then (bif Nat.beq k 135 then 0 else 0) else (bif Nat.beq k 136 then 2 else 0))))) else (bif Nat.blt k 144 then (bif Nat.blt k 140 then (bif Nat.blt k 138 then (bif Nat.beq k 137 then 2 else 0) else (bif Nat.blt k 139 then (bif Nat.beq k 138 then 4 else 0) else (bif Nat.beq k 139 then 3 else 0))) else (bif Nat.blt k 142 then (bif Nat.blt k 141 then (bif Nat.beq k 140 then 3 else 0) else (bif Nat.beq k 141 then 0 else 0)) else (bif Nat.blt k 143 then (bif Nat.beq k 142 then 3 else 0) else (bif Nat.beq k 143 then 1 else 0)))) else (bif Nat.blt k 148 then (bif Nat.blt k 146 then (bif Nat.blt k 145 then (bif Nat.beq k 144 then 1 else 0) else (bif Nat.beq k 145 then 1 else 0)) else (bif Nat.blt k 147 then (bif Nat.beq k 146 then 1 else 0) else (bif Nat.beq k 147 then 3 else 0))) else (bif Nat.blt k 150 then (bif Nat.blt k 149 then (bif Nat.beq k 148 then 0 else 0) else (bif Nat.beq k 149 then 1 else 0)) else (bif Nat.blt k 151 then (bif Nat.beq k 150 then 0 else 0) else (bif Nat.beq k 151 then 4 else 0)))))) else (bif Nat.blt k 167 then (bif Nat.blt k 159 then (bif Nat.blt k 155 then (bif Nat.blt k 153 then (bif Nat.beq k 152 then 2 else 0) else (bif Nat.blt k 154 then (bif Nat.beq k 153 then 2 else 0) else (bif Nat.beq k 154 then 2 else 0))) else (bif Nat.blt k 157 then (bif Nat.blt k 156 then (bif Nat.beq k 155 then 6 else 0) else (bif Nat.beq k 156 then 1 else 0)) else (bif Nat.blt k 158 then (bif Nat.beq k 157 then 0 else 0) else (bif Nat.beq k 158 then 4 else 0)))) else (bif Nat.blt k 163 then (bif Nat.blt k 161 then (bif Nat.blt k 160 then (bif Nat.beq k 159 then 6 else 0) else (bif Nat.beq k 160 then 4 else 0)) else (bif Nat.blt k 162 then (bif Nat.beq k 161 then 0 else 0) else (bif Nat.beq k 162 then 0 else 0))) else (bif Nat.blt k 165 then (bif Nat.blt k 164 then (bif Nat.beq k 163 then 2 else 0) else (bif Nat.beq k 164 then 2 else 0)) else (bif Nat.blt k 166 then (bif Nat.beq k 165 then 1 else 0) else (bif Nat.beq k 166 then 1 else 0))))) else (bif Nat.blt k 175 then (bif Nat.blt k 171 then (bif Nat.blt k 169 then (bif Nat.blt k 168 then (bif Nat.beq k 167 then 1 else 0) else (bif Nat.beq k 168 then 2 else 0)) else (bif Nat.blt k 170 then (bif Nat.beq k 169 then 0 else 0) else (bif Nat.beq k 170 then 0 else 0))) else (bif Nat.blt k 173 then (bif Nat.blt k 172 then (bif Nat.beq k 171 then 0 else 0) else (bif Nat.beq k 172 then 1 else 0)) else (bif Nat.blt k 174 then (bif Nat.beq k 173 then 3 else 0) else (bif Nat.beq k 174 then 2 else 0)))) else (bif Nat.blt k 179 then (bif Nat.blt k 177 then (bif Nat.blt k 176 then (bif Nat.beq k 175 then 2 else 0) else (bif Nat.beq k 176 then 5 else 0)) else (bif Nat.blt k 178 then (bif Nat.beq k 177 then 1 else 0) else (bif Nat.beq k 178 then 1 else 0))) else (bif Nat.blt k 181 then (bif Nat.blt k 180 then (bif Nat.beq k 179 then 0 else 0) else (bif Nat.beq k 180 then 1 else 0)) else (bif Nat.blt k 182 then (bif Nat.beq k 181 then 1 else 0) else (bif Nat.beq k 182 then 1 else 0))))))) else (bif Nat.blt k 214 then (bif Nat.blt k 198 then (bif Nat.blt k 190 then (bif Nat.blt k 186 then (bif Nat.blt k 184 then (bif Nat.beq k 183 then 1 else 0) else (bif Nat.blt k 185 then (bif Nat.beq k 184 then 1 else 0) else (bif Nat.beq k 185 then 0 else 0))) else (bif Nat.blt k 188 then (bif Nat.blt k 187 then (bif Nat.beq k 186 then 1 else 0) else (bif Nat.beq k 187 then 0 else 0)) else (bif Nat.blt k 189 then (bif Nat.beq k 188 then 1 else 0) else (bif Nat.beq k 189 then 0 else 0)))) else (bif Nat.blt k 194 then (bif Nat.blt k 192 then (bif Nat.blt k 191 then (bif Nat.beq k 190 then 1 else 0) else (bif Nat.beq k 191 then 0 else 0)) else (bif Nat.blt k 193 then (bif Nat.beq k 192 then 0 else 0) else (bif Nat.beq k 193 then 1 else 0))) else (bif Nat.blt k 196 then (bif Nat.blt k 195 then (bif Nat.beq k 194 then 0 else 0) else (bif Nat.beq k 195 then 0 else 0)) else (bif Nat.blt k 197 then (bif Nat.beq k 196 then 1 else 0) else (bif Nat.beq k 197 then 0 else 0))))) else (bif Nat.blt k 206 then (bif Nat.blt k 202 then (bif Nat.blt k 200 then (bif Nat.blt k 199 then (bif Nat.beq k 198 then 1 else 0) else (bif Nat.beq k 199 then 2 else 0)) else (bif Nat.blt k 201 then (bif Nat.beq k 200 then 3 else 0) else (bif Nat.beq k 201 then 5 else 0))) else (bif Nat.blt k 204 then (bif Nat.blt k 203 then (bif Nat.beq k 202 then 2 else 0) else (bif Nat.beq k 203 then 2 else 0)) else (bif Nat.blt k 205 then (bif Nat.beq k 204 then 1 else 0) else (bif Nat.beq k 205 then 2 else 0)))) else (bif Nat.blt k 210 then (bif Nat.blt k 208 then (bif Nat.blt k 207 then (bif Nat.beq k 206 then 4 else 0) else (bif Nat.beq k 207 then 3 else 0)) else (bif Nat.blt k 209 then (bif Nat.beq k 208 then 3 else 0) else (bif Nat.beq k 209 then 2 else 0))) else (bif Nat.blt k 212 then (bif Nat.blt k 211 then (bif Nat.beq k 210 then 4 else 0) else (bif Nat.beq k 211 then 3 else 0)) else (bif Nat.blt k 213 then (bif Nat.beq k 212 then 2 else 0) else (bif Nat.beq k 213 then 1 else 0)))))) else (bif Nat.blt k 229 then (bif Nat.blt k 221 then (bif Nat.blt k 217 then (bif Nat.blt k 215 then (bif Nat.beq k 214 then 0 else 0) else (bif Nat.blt k 216 then (bif Nat.beq k 215 then 1 else 0) else (bif Nat.beq k 216 then 1 else 0))) else (bif Nat.blt k 219 then (bif Nat.blt k 218 then (bif Nat.beq k 217 then 3 else 0) else (bif Nat.beq k 218 then 4 else 0)) else (bif Nat.blt k 220 then (bif Nat.beq k 219 then 1 else 0) else (bif Nat.beq k 220 then 3 else 0)))) else (bif Nat.blt k 225 then (bif Nat.blt k 223 then (bif Nat.blt k 222 then (bif Nat.beq k 221 then 0 else 0) else (bif Nat.beq k 222 then 3 else 0)) else (bif Nat.blt k 224 then (bif Nat.beq k 223 then 0 else 0) else (bif Nat.beq k 224 then 1 else 0))) else (bif Nat.blt k 227 then (bif Nat.blt k 226 then (bif Nat.beq k 225 then 3 else 0) else (bif Nat.beq k 226 then 2 else 0)) else (bif Nat.blt k 228 then (bif Nat.beq k 227 then 1 else 0) else (bif Nat.beq k 228 then 2 else 0))))) else (bif Nat.blt k 237 then (bif Nat.blt k 233 then (bif Nat.blt k 231 then (bif Nat.blt k 230 then (bif Nat.beq k 229 then 5 else 0) else (bif Nat.beq k 230 then 0 else 0)) else (bif Nat.blt k 232 then (bif Nat.beq k 231 then 0 else 0) else (bif Nat.beq k 232 then 2 else 0))) else (bif Nat.blt k 235 then (bif Nat.blt k 234 then (bif Nat.beq k 233 then 1 else 0) else (bif Nat.beq k 234 then 2 else 0)) else (bif Nat.blt k 236 then (bif Nat.beq k 235 then 3 else 0) else (bif Nat.beq k 236 then 6 else 0)))) else (bif Nat.blt k 241 then (bif Nat.blt k 239 then (bif Nat.blt k 238 then (bif Nat.beq k 237 then 1 else 0) else (bif Nat.beq k 238 then 4 else 0)) else (bif Nat.blt k 240 then (bif Nat.beq k 239 then 4 else 0) else (bif Nat.beq k 240 then 6 else 0))) else (bif Nat.blt k 243 then (bif Nat.blt k 242 then (bif Nat.beq k 241 then 1 else 0) else (bif Nat.beq k 242 then 3 else 0)) else (bif Nat.blt k 244 then (bif Nat.beq k 243 then 2 else 0) else (bif Nat.beq k 244 then 4 else 0))))))))
def sm_sta : Nat → Bool := fun k => bif Nat.blt k 122 then (bif Nat.blt k 61 then (bif Nat.blt k 30 then (bif Nat.blt k 15 then (bif Nat.blt k 7 then (bif Nat.blt k 3 then (bif Nat.blt k 1 then (bif Nat.beq k 0 then false else false) else (bif Nat.blt k 2 then (bif Nat.beq k 1 then false else false) else (bif Nat.beq k 2 then false else false))) else (bif Nat.blt k 5 then (bif Nat.blt k 4 then (bif Nat.beq k 3 then false else false) else (bif Nat.beq k 4 then false else false)) else (bif Nat.blt k 6 then (bif Nat.beq k 5 then false else false) else (bif Nat.beq k 6 then false else false)))) else (bif Nat.blt k 11 then (bif Nat.blt k 9 then (bif Nat.blt k 8 then (bif Nat.beq k 7 then false else false) else (bif Nat.beq k 8 then false else false)) else (bif Nat.blt k 10 then (bif Nat.beq k 9 then false else false) else (bif Nat.beq k 10 then false else false))) else (bif Nat.blt k 13 then (bif Nat.blt k 12 then (bif Nat.beq k 11 then false else false) else (bif Nat.beq k 12 then false else false)) else (bif Nat.blt k 14 then (bif Nat.beq k 13 then false else false) else (bif Nat.beq k 14 then false else false))))) else (bif Nat.blt k 22 then (bif Nat.blt k 18 then (bif Nat.blt k 16 then (bif Nat.beq k 15 then false else false) else (bif Nat.blt k 17 then (bif Nat.beq k 16 then false else false) else (bif Nat.beq k 17 then false else false))) else (bif Nat.blt k 20 then (bif Nat.blt k 19 then (bif Nat.beq k 18 then false else false) else (bif Nat.beq k 19 then false else false)) else (bif Nat.blt k 21 then (bif Nat.beq k 20 then false else false) else (bif Nat.beq k 21 then false else false)))) else (bif Nat.blt k 26 then (bif Nat.blt k 24 then (bif Nat.blt k 23 then (bif Nat.beq k 22 then false else false) else (bif Nat.beq k 23 then false else false)) else (bif Nat.blt k 25 then (bif Nat.beq k 24 then false else false) else (bif Nat.beq k 25 then false else false))) else (bif Nat.blt k 28 then (bif Nat.blt k 27 then (bif Nat.beq k 26 then false else false) else (bif Nat.beq k 27 then false else false)) else (bif Nat.blt k 29 then (bif Nat.beq k 28 then false else false) else (bif Nat.beq k 29 then false else false)))))) else (bif Nat.blt k 45 then (bif Nat.blt k 37 then (bif Nat.blt k 33 then (bif Nat.blt k 31 then (bif Nat.beq k 30 then false else false) else (bif Nat.blt k 32 then (bif Nat.beq k 31 then false else false) else (bif Nat.beq k 32 then false else false))) else (bif Nat.blt k 35 then (bif Nat.blt k 34 then (bif Nat.beq k 33 then false else false) else (bif Nat.beq k 34 then false else false)) else (bif Nat.blt k 36 then (bif Nat.beq k 35 then false else false) else (bif Nat.beq k 36 then false else false)))) else (bif Nat.blt k 41 then (bif Nat.blt k 39 then (bif Nat.blt k 38 then (bif Nat.beq k 37 then false else false) else (bif Nat.beq k 38 then false else false)) else (bif Nat.blt k 40 then (bif Nat.beq k 39 then false else false) else (bif Nat.beq k 40 then false else false))) else (bif Nat.blt k 43 then (bif Nat.blt k 42 then (bif Nat.beq k 41 then false else false) else (bif Nat.beq k 42 then false else false)) else (bif Nat.blt k 44 then (bif Nat.beq k 43 then false else false) else (bif Nat.beq k 44 then false else false))))) else (bif Nat.blt k 53 then (bif Nat.blt k 49 then (bif Nat.blt k 47 then (bif Nat.blt k 46 then (bif Nat.beq k 45 then false else false) else (bif Nat.beq k 46 then false else false)) else (bif Nat.blt k 48 then (bif Nat.beq k 47 then false else false) else (bif Nat.beq k 48 then false else false))) else (bif Nat.blt k 51 then (bif Nat.blt k 50 then (bif Nat.beq k 49 then false else false) else (bif Nat.beq k 50 then false else false)) else (bif Nat.blt k 52 then (bif Nat.beq k 51 then false else false) else (bif Nat.beq k 52 then false else false)))) else (bif Nat.blt k 57 then (bif Nat.blt k 55 then (bif Nat.blt k 54 then (bif Nat.beq k 53 then false else false) else (bif Nat.beq k 54 then false else false)) else (bif Nat.blt k 56 then (bif Nat.beq k 55 then false else false) else (bif Nat.beq k 56 then false else false))) else (bif Nat.blt k 59 then (bif Nat.blt k 58 then (bif Nat.beq k 57 then false else false) else (bif Nat.beq k 58 then false else false)) else (bif Nat.blt k 60 then (bif Nat.beq k 59 then false else false) else (bif Nat.beq k 60 then true else false))))))) else (bif Nat.blt k 91 then (bif Nat.blt k 76 then (bif Nat.blt k 68 then (bif Nat.blt k 64 then (bif Nat.blt k 62 then (bif Nat.beq k 61 then true else false) else (bif Nat.blt k 63 then (bif Nat.beq k 62 then false else false) else (bif Nat.beq k 63 then false else false))) else (bif Nat.blt k 66 then (bif Nat.blt k 65 then (bif Nat.beq k 64 then false else false) else (bif Nat.beq k 65 then false else false)) else (bif Nat.blt k 67 then (bif Nat.beq k 66 then false else false) else (bif Nat.beq k 67 then false else false)))) else (bif Nat.blt k 72 then (bif Nat.blt k 70 then (bif Nat.blt k 69 then (bif Nat.beq k 68 then false else false) else (bif Nat.beq k 69 then false else false)) else (bif Nat.blt k 71 then (bif Nat.beq k 70 then false else false) else (bif Nat.beq k 71 then false else false))) else (bif Nat.blt k 74 then (bif Nat.blt k 73 then (bif Nat.beq k 72 then false else false) else (bif Nat.beq k 73 then false else false)) else (bif Nat.blt k 75 then (bif Nat.beq k 74 then false else false) else (bif Nat.beq k 75 then false else false))))) else (bif Nat.blt k 83 then (bif Nat.blt k 79 then (bif Nat.blt k 77 then (bif Nat.beq k 76 then false else false) else (bif Nat.blt k 78 then (bif Nat.beq k 77 then false else false) else (bif Nat.beq k 78 then false else false))) else (bif Nat.blt k 81 then (bif Nat.blt k 80 then (bif Nat.beq k 79 then false else false) else (bif Nat.beq k 80 then false else false)) else (bif Nat.blt k 82 then (bif Nat.beq k 81 then false else false) else (bif Nat.beq k 82 then false else false)))) else (bif Nat.blt k 87 then (bif Nat.blt k 85 then (bif Nat.blt k 84 then (bif Nat.beq k 83 then false else false) else (bif Nat.beq k 84 then false else false)) else (bif Nat.blt k 86 then (bif Nat.beq k 85 then false else false) else (bif Nat.beq k 86 then false else false))) else (bif Nat.blt k 89 then (bif Nat.blt k 88 then (bif Nat.beq k 87 then false else false) else (bif Nat.beq k 88 then false else false)) else (bif Nat.blt k 90 then (bif Nat.beq k 89 then false else false) else (bif Nat.beq k 90 then false else false)))))) else (bif Nat.blt k 106 then (bif Nat.blt k 98 then (bif Nat.blt k 94 then (bif Nat.blt k 92 then (bif Nat.beq k 91 then false else false) else (bif Nat.blt k 93 then (bif Nat.beq k 92 then false else false) else (bif Nat.beq k 93 then false else false))) else (bif Nat.blt k 96 then (bif Nat.blt k 95 then (bif Nat.beq k 94 then false else false) else (bif Nat.beq k 95 then false else false)) else (bif Nat.blt k 97 then (bif Nat.beq k 96 then false else false) else (bif Nat.beq k 97 then false else false)))) else (bif Nat.blt k 102 then (bif Nat.blt k 100 then (bif Nat.blt k 99 then (bif Nat.beq k 98 then false else false) else (bif Nat.beq k 99 then false else false)) else (bif Nat.blt k 101 then (bif Nat.beq k 100 then false else false) else (bif Nat.beq k 101 then false else false))) else (bif Nat.blt k 104 then (bif Nat.blt k 103 then (bif Nat.beq k 102 then false else false) else (bif Nat.beq k 103 then false else false)) else (bif Nat.blt k 105 then (bif Nat.beq k 104 then false else false) else (bif Nat.beq k 105 then false else false))))) else (bif Nat.blt k 114 then (bif Nat.blt k 110 then (bif Nat.blt k 108 then (bif Nat.blt k 107 then (bif Nat.beq k 106 then false else false) else (bif Nat.beq k 107 then false else false)) else (bif Nat.blt k 109 then (bif Nat.beq k 108 then false else false) else (bif Nat.beq k 109 then false else false))) else (bif Nat.blt k 112 then (bif Nat.blt k 111 then (bif Nat.beq k 110 then false else false) else (bif Nat.beq k 111 then false else false)) else (bif Nat.blt k 113 then (bif Nat.beq k 112 then false else false) else (bif Nat.beq k 113 then false else false)))) else (bif Nat.blt k 118 then (bif Nat.blt k 116 then (bif Nat.blt k 115 then (bif Nat.beq k 114 then false else false) else (bif Nat.beq k 115 then false else false)) else (bif Nat.blt k 117 then (bif Nat.beq k 116 then false else false) else (bif Nat.beq k 117 then false else false))) else (bif Nat.blt k 120 then (bif Nat.blt k 119 then (bif Nat.beq k 118 then false else false) else (bif Nat.beq k 119 then false else false)) else (bif Nat.blt k 121 then (bif Nat.beq k 120 then false else false) else (bif Nat.beq k 121 then false else false)))))))) else (bif Nat.blt k 183 then (bif Nat.blt k 152 then (bif Nat.blt k 137 then (bif Nat.blt k 129 then (bif Nat.blt k 125 then (bif Nat.blt k 123 then (bif Nat.beq k 122 then false else false) else (bif Nat.blt k 124 then (bif Nat.beq k 123 then false else false) else (bif Nat.beq k 124 then true else false))) else (bif Nat.blt k 127 then (bif Nat.blt k 126 then (bif Nat.beq k 125 then true else false) else (bif Nat.beq k 126 then false else false)) else (bif Nat.blt k 128 then (bif Nat.beq k 127 then false else false) else (bif Nat.beq k 128 then false else false)))) else (bif Nat.blt k 133 then (bif Nat.blt k 131 then (bif Nat.blt k 130 then (bif Nat.beq k 129 then false else false) else (bif Nat.beq k 130 then false else false)) else (bif Nat.blt k 132 then (bif Nat.beq k 131 then false else false) else (bif Nat.beq k 132 then false else false))) else (bif Nat.blt k 135 then (bif Nat.blt k 134 then (bif Nat.beq k 133 then false else false) else (bif Nat.beq k 134 then false else false)) else (bif Nat.blt k 136 then (bif Nat.beq k 135 then false else false) else (bif Nat.beq k 136 then true else false))))) else (bif Nat.blt k 144 then (bif Nat.blt k 140 then (bif Nat.blt k 138 then (bif Nat.beq k 137 then true else false) else (bif Nat.blt k 139 then (bif Nat.beq k 138 then true else false) else (bif Nat.beq k 139 then true else false))) else (bif Nat.blt k 142 then (bif Nat.blt k 141 then (bif Nat.beq k 140 then true else false) else (bif Nat.beq k 141 then false else false)) else (bif Nat.blt k 143 then (bif Nat.beq k 142 then true else false) else (bif Nat.beq k 143 then true else false)))) else (bif Nat.blt k 148 then (bif Nat.blt k 146 then (bif Nat.blt k 145 then (bif Nat.beq k 144 then true else false) else (bif Nat.beq k 145 then false else false)) else (bif Nat.blt k 147 then (bif Nat.beq k 146 then false else false) else (bif Nat.beq k 147 then false else false))) else (bif Nat.blt k 150 then (bif Nat.blt k 149 then (bif Nat.beq k 148 then false else false) else (bif Nat.beq k 149 then false else false)) else (bif Nat.blt k 151 then (bif Nat.beq k 150 then false else false) else (bif Nat.beq k 151 then true else false)))))) else (bif Nat.blt k 167 then (bif Nat.blt k 159 then (bif Nat.blt k 155 then (bif Nat.blt k 153 then (bif Nat.beq k 152 then true else false) else (bif Nat.blt k 154 then (bif Nat.beq k 153 then false else false) else (bif Nat.beq k 154 then false else false))) else (bif Nat.blt k 157 then (bif Nat.blt k 156 then (bif Nat.beq k 155 then false else false) else (bif Nat.beq k 156 then false else false)) else (bif Nat.blt k 158 then (bif Nat.beq k 157 then false else false) else (bif Nat.beq k 158 then false else false)))) else (bif Nat.blt k 163 then (bif Nat.blt k 161 then (bif Nat.blt k 160 then (bif Nat.beq k 159 then false else false) else (bif Nat.beq k 160 then false else false)) else (bif Nat.blt k 162 then (bif Nat.beq k 161 then false else false) else (bif Nat.beq k 162 then false else false))) else (bif Nat.blt k 165 then (bif Nat.blt k 164 then (bif Nat.beq k 163 then false else false) else (bif Nat.beq k 164 then false else false)) else (bif Nat.blt k 166 then (bif Nat.beq k 165 then false else false) else (bif Nat.beq k 166 then false else false))))) else (bif Nat.blt k 175 then (bif Nat.blt k 171 then (bif Nat.blt k 169 then (bif Nat.blt k 168 then (bif Nat.beq k 167 then false else false) else (bif Nat.beq k 168 then true else false)) else (bif Nat.blt k 170 then (bif Nat.beq k 169 then false else false) else (bif Nat.beq k 170 then false else false))) else (bif Nat.blt k 173 then (bif Nat.blt k 172 then (bif Nat.beq k 171 then false else false) else (bif Nat.beq k 172 then false else false)) else (bif Nat.blt k 174 then (bif Nat.beq k 173 then false else false) else (bif Nat.beq k 174 then false else false)))) else (bif Nat.blt k 179 then (bif Nat.blt k 177 then (bif Nat.blt k 176 then (bif Nat.beq k 175 then false else false) else (bif Nat.beq k 176 then false else false)) else (bif Nat.blt k 178 then (bif Nat.beq k 177 then false else false) else (bif Nat.beq k 178 then false else false))) else (bif Nat.blt k 181 then (bif Nat.blt k 180 then (bif Nat.beq k 179 then false else false) else (bif Nat.beq k 180 then false else false)) else (bif Nat.blt k 182 then (bif Nat.beq k 181 then false else false) else (bif Nat.beq k 182 then false else false))))))) else (bif Nat.blt k 214 then (bif Nat.blt k 198 then (bif Nat.blt k 190 then (bif Nat.blt k 186 then (bif Nat.blt k 184 then (bif Nat.beq k 183 then false else false) else (bif Nat.blt k 185 then (bif Nat.beq k 184 then false else false) else (bif Nat.beq k 185 then false else false))) else (bif Nat.blt k 188 then (bif Nat.blt k 187 then (bif Nat.beq k 186 then false else false) else (bif Nat.beq k 187 then false else false)) else (bif Nat.blt k 189 then (bif Nat.beq k 188 then false else false) else (bif Nat.beq k 189 then false else false)))) else (bif Nat.blt k 194 then (bif Nat.blt k 192 then (bif Nat.blt k 191 then (bif Nat.beq k 190 then false else false) else (bif Nat.beq k 191 then false else false)) else (bif Nat.blt k 193 then (bif Nat.beq k 192 then false else false) else (bif Nat.beq k 193 then false else false))) else (bif Nat.blt k 196 then (bif Nat.blt k 195 then (bif Nat.beq k 194 then false else false) else (bif Nat.beq k 195 then false else false)) else (bif Nat.blt k 197 then (bif Nat.beq k 196 then false else false) else (bif Nat.beq k 197 then false else false))))) else (bif Nat.blt k 206 then (bif Nat.blt k 202 then (bif Nat.blt k 200 then (bif Nat.blt k 199 then (bif Nat.beq k 198 then false else false) else (bif Nat.beq k 199 then false else false)) else (bif Nat.blt k 201 then (bif Nat.beq k 200 then false else false) else (bif Nat.beq k 201 then false else false))) else (bif Nat.blt k 204 then (bif Nat.blt k 203 then (bif Nat.beq k 202 then false else false) else (bif Nat.beq k 203 then false else false)) else (bif Nat.blt k 205 then (bif Nat.beq k 204 then false else false) else (bif Nat.beq k 205 then false else false)))) else (bif Nat.blt k 210 then (bif Nat.blt k 208 then (bif Nat.blt k 207 then (bif Nat.beq k 206 then false else false) else (bif Nat.beq k 207 then false else false)) else (bif Nat.blt k 209 then (bif Nat.beq k 208 then false else false) else (bif Nat.beq k 209 then false else false))) else (bif Nat.blt k 212 then (bif Nat.blt k 211 then (bif Nat.beq k 210 then false else false) else (bif Nat.beq k 211 then false else false)) else (bif Nat.blt k 213 then (bif Nat.beq k 212 then false else false) else (bif Nat.beq k 213 then false else false)))))) else (bif Nat.blt k 229 then (bif Nat.blt k 221 then (bif Nat.blt k 217 then (bif Nat.blt k 215 then (bif Nat.beq k 214 then false else false) else (bif Nat.blt k 216 then (bif Nat.beq k 215 then false else false) else (bif Nat.beq k 216 then false else false))) else (bif Nat.blt k 219 then (bif Nat.blt k 218 then (bif Nat.beq k 217 then false else false) else (bif Nat.beq k 218 then false else false)) else (bif Nat.blt k 220 then (bif Nat.beq k 219 then false else false) else (bif Nat.beq k 220 then false else false)))) else (bif Nat.blt k 225 then (bif Nat.blt k 223 then (bif Nat.blt k 222 then (bif Nat.beq k 221 then false else false) else (bif Nat.beq k 222 then false else false)) else (bif Nat.blt k 224 then (bif Nat.beq k 223 then false else false) else (bif Nat.beq k 224 then false else false))) else (bif Nat.blt k 227 then (bif Nat.blt k 226 then (bif Nat.beq k 225 then false else false) else (bif Nat.beq k 226 then false else false)) else (bif Nat.blt k 228 then (bif Nat.beq k 227 then false else false) else (bif Nat.beq k 228 then false else false))))) else (bif Nat.blt k 237 then (bif Nat.blt k 233 then (bif Nat.blt k 231 then (bif Nat.blt k 230 then (bif Nat.beq k 229 then false else false) else (bif Nat.beq k 230 then false else false)) else (bif Nat.blt k 232 then (bif Nat.beq k 231 then false else false) else (bif Nat.beq k 232 then false else false))) else (bif Nat.blt k 235 then (bif Nat.blt k 234 then (bif Nat.beq k 233 then false else false) else (bif Nat.beq k 234 then false else false)) else (bif Nat.blt k 236 then (bif Nat.beq k 235 then false else false) else (bif Nat.beq k 236 then true else false)))) else (bif Nat.blt k 241 then (bif Nat.blt k 239 then (bif Nat.blt k 238 then (bif Nat.beq k 237 then false else false) else (bif Nat.beq k 238 then false else false)) else (bif Nat.blt k 240 then (bif Nat.beq k 239 then false else false) else (bif Nat.beq k 240 then false else false))) else (bif Nat.blt k 243 then (bif Nat.blt k 242 then (bif Nat.beq k 241 then false else false) else (bif Nat.beq k 242 then true else false)) else (bif Nat.blt k 244 then (bif Nat.beq k 243 then true else false) else (bif Nat.beq k 244 then true else false))))))))
def sm_isI : Nat → Bool := fun k => bif Nat.blt k 122 then (bif Nat.blt k 61 then (bif Nat.blt k 30 then (bif Nat.blt k 15 then (bif Nat.blt k 7 then (bif Nat.blt k 3 then (bif Nat.blt k 1 then (bif Nat.beq k 0 then true else false) else (bif Nat.blt k 2 then (bif Nat.beq k 1 then false else false) else (bif Nat.beq k 2 then false else false))) else (bif Nat.blt k 5 then (bif Nat.blt k 4 then (bif Nat.beq k 3 then false else false) else (bif Nat.beq k 4 then false else false)) else (bif Nat.blt k 6 then (bif Nat.beq k 5 then true else false) else (bif Nat.beq k 6 then false else false)))) else (bif Nat.blt k 11 then (bif Nat.blt k 9 then (bif Nat.blt k 8 then (bif Nat.beq k 7 then false else false) else (bif Nat.beq k 8 then false else false)) else (bif Nat.blt k 10 then (bif Nat.beq k 9 then false else false) else (bif Nat.beq k 10 then false else false))) else (bif Nat.blt k 13 then (bif Nat.blt k 12 then (bif Nat.beq k 11 then true else false) else (bif Nat.beq k 12 then false else false)) else (bif Nat.blt k 14 then (bif Nat.beq k 13 then false else false) else (bif Nat.beq k 14 then false else false))))) else (bif Nat.blt k 22 then (bif Nat.blt k 18 then (bif Nat.blt k 16 then (bif Nat.beq k 15 then false else false) else (bif Nat.blt k 17 then (bif Nat.beq k 16 then false else false) else (bif Nat.beq k 17 then false else false))) else (bif Nat.blt k 20 then (bif Nat.blt k 19 then (bif Nat.beq k 18 then false else false) else (bif Nat.beq k 19 then false else false)) else (bif Nat.blt k 21 then (bif Nat.beq k 20 then false else false) else (bif Nat.beq k 21 then false else false)))) else (bif Nat.blt k 26 then (bif Nat.blt k 24 then (bif Nat.blt k 23 then (bif Nat.beq k 22 then true else false) else (bif Nat.beq k 23 then false else false)) else (bif Nat.blt k 25 then (bif Nat.beq k 24 then false else false) else (bif Nat.beq k 25 then false else false))) else (bif Nat.blt k 28 then (bif Nat.blt k 27 then (bif Nat.beq k 26 then false else false) else (bif Nat.beq k 27 then false else false)) else (bif Nat.blt k 29 then (bif Nat.beq k 28 then false else false) else (bif Nat.beq k 29 then false else false)))))) else (bif Nat.blt k 45 then (bif Nat.blt k 37 then (bif Nat.blt k 33 then (bif Nat.blt k 31 then (bif Nat.beq k 30 then false else false) else (bif Nat.blt k 32 then (bif Nat.beq k 31 then false else false) else (bif Nat.beq k 32 then false else false))) else (bif Nat.blt k 35 then (bif Nat.blt k 34 then (bif Nat.beq k 33 then false else false) else (bif Nat.beq k 34 then true else false)) else (bif Nat.blt k 36 then (bif Nat.beq k 35 then false else false) else (bif Nat.beq k 36 then false else false)))) else (bif Nat.blt k 41 then (bif Nat.blt k 39 then (bif Nat.blt k 38 then (bif Nat.beq k 37 then false else false) else (bif Nat.beq k 38 then false else false)) else (bif Nat.blt k 40 then (bif Nat.beq k 39 then false else false) else (bif Nat.beq k 40 then false else false))) else (bif Nat.blt k 43 then (bif Nat.blt k 42 then (bif Nat.beq k 41 then false else false) else (bif Nat.beq k 42 then false else false)) else (bif Nat.blt k 44 then (bif Nat.beq k 43 then true else false) else (bif Nat.beq k 44 then false else false))))) else (bif Nat.blt k 53 then (bif Nat.blt k 49 then (bif Nat.blt k 47 then (bif Nat.blt k 46 then (bif Nat.beq k 45 then true else false) else (bif Nat.beq k 46 then false else false)) else (bif Nat.blt k 48 then (bif Nat.beq k 47 then false else false) else (bif Nat.beq k 48 then false else false))) else (bif Nat.blt k 51 then (bif Nat.blt k 50 then (bif Nat.beq k 49 then false else false) else (bif Nat.beq k 50 then false else false)) else (bif Nat.blt k 52 then (bif Nat.beq k 51 then false else false) else (bif Nat.beq k 52 then false else false)))) else (bif Nat.blt k 57 then (bif Nat.blt k 55 then (bif Nat.blt k 54 then (bif Nat.beq k 53 then false else false) else (bif Nat.beq k 54 then false else false)) else (bif Nat.blt k 56 then (bif Nat.beq k 55 then true else false) else (bif Nat.beq k 56 then false else false))) else (bif Nat.blt k 59 then (bif Nat.blt k 58 then (bif Nat.beq k 57 then false else false) else (bif Nat.beq k 58 then false else false)) else (bif Nat.blt k 60 then (bif Nat.beq k 59 then false else false) else (bif Nat.beq k 60 then false else false))))))) else (bif Nat.blt k 91 then (bif Nat.blt k 76 then (bif Nat.blt k 68 then (bif Nat.blt k 64 then (bif Nat.blt k 62 then (bif Nat.beq k 61 then false else false) else (bif Nat.blt k 63 then (bif Nat.beq k 62 then false else false) else (bif Nat.beq k 63 then false else false))) else (bif Nat.blt k 66 then (bif Nat.blt k 65 then (bif Nat.beq k 64 then false else false) else (bif Nat.beq k 65 then false else false)) else (bif Nat.blt k 67 then (bif Nat.beq k 66 then true else false) else (bif Nat.beq k 67 then false else false)))) else (bif Nat.blt k 72 then (bif Nat.blt k 70 then (bif Nat.blt k 69 then (bif Nat.beq k 68 then false else false) else (bif Nat.beq k 69 then false else false)) else (bif Nat.blt k 71 then (bif Nat.beq k 70 then false else false) else (bif Nat.beq k 71 then false else false))) else (bif Nat.blt k 74 then (bif Nat.blt k 73 then (bif Nat.beq k 72 then false else false) else (bif Nat.beq k 73 then false else false)) else (bif Nat.blt k 75 then (bif Nat.beq k 74 then false else false) else (bif Nat.beq k 75 then false else false))))) else (bif Nat.blt k 83 then (bif Nat.blt k 79 then (bif Nat.blt k 77 then (bif Nat.beq k 76 then false else false) else (bif Nat.blt k 78 then (bif Nat.beq k 77 then true else false) else (bif Nat.beq k 78 then false else false))) else (bif Nat.blt k 81 then (bif Nat.blt k 80 then (bif Nat.beq k 79 then false else false) else (bif Nat.beq k 80 then false else false)) else (bif Nat.blt k 82 then (bif Nat.beq k 81 then false else false) else (bif Nat.beq k 82 then false else false)))) else (bif Nat.blt k 87 then (bif Nat.blt k 85 then (bif Nat.blt k 84 then (bif Nat.beq k 83 then false else false) else (bif Nat.beq k 84 then false else false)) else (bif Nat.blt k 86 then (bif Nat.beq k 85 then true else false) else (bif Nat.beq k 86 then false else false))) else (bif Nat.blt k 89 then (bif Nat.blt k 88 then (bif Nat.beq k 87 then false else false) else (bif Nat.beq k 88 then false else false)) else (bif Nat.blt k 90 then (bif Nat.beq k 89 then false else false) else (bif Nat.beq k 90 then false else false)))))) else (bif Nat.blt k 106 then (bif Nat.blt k 98 then (bif Nat.blt k 94 then (bif Nat.blt k 92 then (bif Nat.beq k 91 then false else false) else (bif Nat.blt k 93 then (bif Nat.beq k 92 then false else false) else (bif Nat.beq k 93 then false else false))) else (bif Nat.blt k 96 then (bif Nat.blt k 95 then (bif Nat.beq k 94 then false else false) else (bif Nat.beq k 95 then false else false)) else (bif Nat.blt k 97 then (bif Nat.beq k 96 then true else false) else (bif Nat.beq k 97 then false else false)))) else (bif Nat.blt k 102 then (bif Nat.blt k 100 then (bif Nat.blt k 99 then (bif Nat.beq k 98 then false else false) else (bif Nat.beq k 99 then false else false)) else (bif Nat.blt k 101 then (bif Nat.beq k 100 then false else false) else (bif Nat.beq k 101 then false else false))) else (bif Nat.blt k 104 then (bif Nat.blt k 103 then (bif Nat.beq k 102 then false else false) else (bif Nat.beq k 103 then false else false)) else (bif Nat.blt k 105 then (bif Nat.beq k 104 then false else false) else (bif Nat.beq k 105 then false else false))))) else (bif Nat.blt k 114 then (bif Nat.blt k 110 then (bif Nat.blt k 108 then (bif Nat.blt k 107 then (bif Nat.beq k 106 then false else false) else (bif Nat.beq k 107 then false else false)) else (bif Nat.blt k 109 then (bif Nat.beq k 108 then false else false) else (bif Nat.beq k 109 then false else false))) else (bif Nat.blt k 112 then (bif Nat.blt k 111 then (bif Nat.beq k 110 then false else false) else (bif Nat.beq k 111 then false else false)) else (bif Nat.blt k 113 then (bif Nat.beq k 112 then false else false) else (bif Nat.beq k 113 then false else false)))) else (bif Nat.blt k 118 then (bif Nat.blt k 116 then (bif Nat.blt k 115 then (bif Nat.beq k 114 then false else false) else (bif Nat.beq k 115 then false else false)) else (bif Nat.blt k 117 then (bif Nat.beq k 116 then false else false) else (bif Nat.beq k 117 then false else false))) else (bif Nat.blt k 120 then (bif Nat.blt k 119 then (bif Nat.beq k 118 then false else false) else (bif Nat.beq k 119 then false else false)) else (bif Nat.blt k 121 then (bif Nat.beq k 120 then false else false) else (bif Nat.beq k 121 then false else false)))))))) else (bif Nat.blt k 183 then (bif Nat.blt k 152 then (bif Nat.blt k 137 then (bif Nat.blt k 129 then (bif Nat.blt k 125 then (bif Nat.blt k 123 then (bif Nat.beq k 122 then false else false) else (bif Nat.blt k 124 then (bif Nat.beq k 123 then false else false) else (bif Nat.beq k 124 then false else false))) else (bif Nat.blt k 127 then (bif Nat.blt k 126 then (bif Nat.beq k 125 then false else false) else (bif Nat.beq k 126 then false else false)) else (bif Nat.blt k 128 then (bif Nat.beq k 127 then false else false) else (bif Nat.beq k 128 then false else false)))) else (bif Nat.blt k 133 then (bif Nat.blt k 131 then (bif Nat.blt k 130 then (bif Nat.beq k 129 then false else false) else (bif Nat.beq k 130 then false else false)) else (bif Nat.blt k 132 then (bif Nat.beq k 131 then false else false) else (bif Nat.beq k 132 then false else false))) else (bif Nat.blt k 135 then (bif Nat.blt k 134 then (bif Nat.beq k 133 then false else false) else (bif Nat.beq k 134 then false else false)) else (bif Nat.blt k 136 then (bif Nat.beq k 135 then false else false) else (bif Nat.beq k 136 then false else false))))) else (bif Nat.blt k 144 then (bif Nat.blt k 140 then (bif Nat.blt k 138 then (bif Nat.beq k 137 then false else false) else (bif Nat.blt k 139 then (bif Nat.beq k 138 then false else false) else (bif Nat.beq k 139 then false else false))) else (bif Nat.blt k 142 then (bif Nat.blt k 141 then (bif Nat.beq k 140 then false else false) else (bif Nat.beq k 141 then false else false)) else (bif Nat.blt k 143 then (bif Nat.beq k 142 then false else false) else (bif Nat.beq k 143 then false else false)))) else (bif Nat.blt k 148 then (bif Nat.blt k 146 then (bif Nat.blt k 145 then (bif Nat.beq k 144 then false else false) else (bif Nat.beq k 145 then false else false)) else (bif Nat.blt k 147 then (bif Nat.beq k 146 then false else false) else (bif Nat.beq k 147 then false else false))) else (bif Nat.blt k 150 then (bif Nat.blt k 149 then (bif Nat.beq k 148 then false else false) else (bif Nat.beq k 149 then false else false)) else (bif Nat.blt k 151 then (bif Nat.beq k 150 then false else false) else (bif Nat.beq k 151 then false else false)))))) else (bif Nat.blt k 167 then (bif Nat.blt k 159 then (bif Nat.blt k 155 then (bif Nat.blt k 153 then (bif Nat.beq k 152 then false else false) else (bif Nat.blt k 154 then (bif Nat.beq k 153 then false else false) else (bif Nat.beq k 154 then false else false))) else (bif Nat.blt k 157 then (bif Nat.blt k 156 then (bif Nat.beq k 155 then false else false) else (bif Nat.beq k 156 then false else false)) else (bif Nat.blt k 158 then (bif Nat.beq k 157 then true else false) else (bif Nat.beq k 158 then false else false)))) else (bif Nat.blt k 163 then (bif Nat.blt k 161 then (bif Nat.blt k 160 then (bif Nat.beq k 159 then false else false) else (bif Nat.beq k 160 then false else false)) else (bif Nat.blt k 162 then (bif Nat.beq k 161 then false else false) else (bif Nat.beq k 162 then false else false))) else (bif Nat.blt k 165 then (bif Nat.blt k 164 then (bif Nat.beq k 163 then false else false) else (bif Nat.beq k 164 then false else false)) else (bif Nat.blt k 166 then (bif Nat.beq k 165 then false else false) else (bif Nat.beq k 166 then false else false))))) else (bif Nat.blt k 175 then (bif Nat.blt k 171 then (bif Nat.blt k 169 then (bif Nat.blt k 168 then (bif Nat.beq k 167 then false else false) else (bif Nat.beq k 168 then false else false)) else (bif Nat.blt k 170 then (bif Nat.beq k 169 then false else false) else (bif Nat.beq k 170 then false else false))) else (bif Nat.blt k 173 then (bif Nat.blt k 172 then (bif Nat.beq k 171 then false else false) else (bif Nat.beq k 172 then false else false)) else (bif Nat.blt k 174 then (bif Nat.beq k 173 then false else false) else (bif Nat.beq k 174 then false else false)))) else (bif Nat.blt k 179 then (bif Nat.blt k 177 then (bif Nat.blt k 176 then (bif Nat.beq k 175 then false else false) else (bif Nat.beq k 176 then false else false)) else (bif Nat.blt k 178 then (bif Nat.beq k 177 then false else false) else (bif Nat.beq k 178 then false else false))) else (bif Nat.blt k 181 then (bif Nat.blt k 180 then (bif Nat.beq k 179 then false else false) else (bif Nat.beq k 180 then false else false)) else (bif Nat.blt k 182 then (bif Nat.beq k 181 then false else false) else (bif Nat.beq k 182 then false else false))))))) else (bif Nat.blt k 214 then (bif Nat.blt k 198 then (bif Nat.blt k 190 then (bif Nat.blt k 186 then (bif Nat.blt k 184 then (bif Nat.beq k 183 then false else false) else (bif Nat.blt k 185 then (bif Nat.beq k 184 then false else false) else (bif Nat.beq k 185 then false else false))) else (bif Nat.blt k 188 then (bif Nat.blt k 187 then (bif Nat.beq k 186 then false else false) else (bif Nat.beq k 187 then false else false)) else (bif Nat.blt k 189 then (bif Nat.beq k 188 then false else false) else (bif Nat.beq k 189 then false else false)))) else (bif Nat.blt k 194 then (bif Nat.blt k 192 then (bif Nat.blt k 191 then (bif Nat.beq k 190 then false else false) else (bif Nat.beq k 191 then false else false)) else (bif Nat.blt k 193 then (bif Nat.beq k 192 then false else false) else (bif Nat.beq k 193 then false else false))) else (bif Nat.blt k 196 then (bif Nat.blt k 195 then (bif Nat.beq k 194 then false else false) else (bif Nat.beq k 195 then false else false)) else (bif Nat.blt k 197 then (bif Nat.beq k 196 then false else false) else (bif Nat.beq k 197 then false else false))))) else (bif Nat.blt k 206 then (bif Nat.blt k 202 then (bif Nat.blt k 200 then (bif Nat.blt k 199 then (bif Nat.beq k 198 then false else false) else (bif Nat.beq k 199 then false else false)) else (bif Nat.blt k 201 then (bif Nat.beq k 200 then false else false) else (bif Nat.beq k 201 then false else false))) else (bif Nat.blt k 204 then (bif Nat.blt k 203 then (bif Nat.beq k 202 then false else false) else (bif Nat.beq k 203 then false else false)) else (bif Nat.blt k 205 then (bif Nat.beq k 204 then false else false) else (bif Nat.beq k 205 then false else false)))) else (bif Nat.blt k 210 then (bif Nat.blt k 208 then (bif Nat.blt k 207 then (bif Nat.beq k 206 then false else false) else (bif Nat.beq k 207 then false else false)) else (bif Nat.blt k 209 then (bif Nat.beq k 208 then false else false) else (bif Nat.beq k 209 then false else false))) else (bif Nat.blt k 212 then (bif Nat.blt k 211 then (bif Nat.beq k 210 then false else false) else (bif Nat.beq k 211 then false else false)) else (bif Nat.blt k 213 then (bif Nat.beq k 212 then false else false) else (bif Nat.beq k 213 then false else false)))))) else (bif Nat.blt k 229 then (bif Nat.blt k 221 then (bif Nat.blt k 217 then (bif Nat.blt k 215 then (bif Nat.beq k 214 then false else false) else (bif Nat.blt k 216 then (bif Nat.beq k 215 then false else false) else (bif Nat.beq k 216 then false else false))) else (bif Nat.blt k 219 then (bif Nat.blt k 218 then (bif Nat.beq k 217 then false else false) else (bif Nat.beq k 218 then false else false)) else (bif Nat.blt k 220 then (bif Nat.beq k 219 then false else false) else (bif Nat.beq k 220 then false else false)))) else (bif Nat.blt k 225 then (bif Nat.blt k 223 then (bif Nat.blt k 222 then (bif Nat.beq k 221 then false else false) else (bif Nat.beq k 222 then false else false)) else (bif Nat.blt k 224 then (bif Nat.beq k 223 then false else false) else (bif Nat.beq k 224 then false else false))) else (bif Nat.blt k 227 then (bif Nat.blt k 226 then (bif Nat.beq k 225 then false else false) else (bif Nat.beq k 226 then false else false)) else (bif Nat.blt k 228 then (bif Nat.beq k 227 then false else false) else (bif Nat.beq k 228 then false else false))))) else (bif Nat.blt k 237 then (bif Nat.blt k 233 then (bif Nat.blt k 231 then (bif Nat.blt k 230 then (bif Nat.beq k 229 then false else false) else (bif Nat.beq k 230 then false else false)) else (bif Nat.blt k 232 then (bif Nat.beq k 231 then false else false) else (bif Nat.beq k 232 then false else false))) else (bif Nat.blt k 235 then (bif Nat.blt k 234 then (bif Nat.beq k 233 then false else false) else (bif Nat.beq k 234 then false else false)) else (bif Nat.blt k 236 then (bif Nat.beq k 235 then false else false) else (bif Nat.beq k 236 then false else false)))) else (bif Nat.blt k 241 then (bif Nat.blt k 239 then (bif Nat.blt k 238 then (bif Nat.beq k 237 then false else false) else (bif Nat.beq k 238 then false else false)) else (bif Nat.blt k 240 then (bif Nat.beq k 239 then false else false) else (bif Nat.beq k 240 then false else false))) else (bif Nat.blt k 243 then (bif Nat.blt k 242 then (bif Nat.beq k 241 then false else false) else (bif Nat.beq k 242 then false else false)) else (bif Nat.blt k 244 then (bif Nat.beq k 243 then false else false) else (bif Nat.beq k 244 then false else false))))))))
def sm_pc : Nat → Nat := fun k => bif Nat.blt k 122 then (bif Nat.blt k 61 then (bif Nat.blt k 30 then (bif Nat.blt k 15 then (bif Nat.blt k 7 then (bif Nat.blt k 3 then (bif Nat.blt k 1 then (bif Nat.beq k 0 then 424 else 0) else (bif Nat.blt k 2 then (bif Nat.beq k 1 then 676 else 0) else (bif Nat.beq k 2 then 680 else 0))) else (bif Nat.blt k 5 then (bif Nat.blt k 4 then (bif Nat.beq k 3 then 1035 else 0) else (bif Nat.beq k 4 then 1039 else 0)) else (bif Nat.blt k 6 then (bif Nat.beq k 5 then 401 else 0) else (bif Nat.beq k 6 then 1052 else 0)))) else (bif Nat.blt k 11 then (bif Nat.blt k 9 then (bif Nat.blt k 8 then (bif Nat.beq k 7 then 1061 else 0) else (bif Nat.beq k 8 then 1065 else 0)) else (bif Nat.blt k 10 then (bif Nat.beq k 9 then 1071 else 0) else (bif Nat.beq k 10 then 1075 else 0))) else (bif Nat.blt k 13 then (bif Nat.blt k 12 then (bif Nat.beq k 11 then 433 else 0) else (bif Nat.beq k 12 then 1043 else 0)) else (bif Nat.blt k 14 then (bif Nat.beq k 13 then 1079 else 0) else (bif Nat.beq k 14 then 1157 else 0))))) else (bif Nat.blt k 22 then (bif Nat.blt k 18 then (bif Nat.blt k 16 then (bif Nat.beq k 15 then 1172 else 0) else (bif Nat.blt k 17 then (bif Nat.beq k 16 then 1176 else 0) else (bif Nat.beq k 17 then 1180 else 0))) else (bif Nat.blt k 20 then (bif Nat.blt k 19 then (bif Nat.beq k 18 then 1184 else 0) else (bif Nat.beq k 19 then 1219 else 0)) else (bif Nat.blt k 21 then (bif Nat.beq k 20 then 1189 else 0) else (bif Nat.beq k 21 then 1240 else 0)))) else (bif Nat.blt k 26 then (bif Nat.blt k 24 then (bif Nat.blt k 23 then (bif Nat.beq k 22 then 230 else 0) else (bif Nat.beq k 23 then 639 else 0)) else (bif Nat.blt k 25 then (bif Nat.beq k 24 then 649 else 0) else (bif Nat.beq k 25 then 653 else 0))) else (bif Nat.blt k 28 then (bif Nat.blt k 27 then (bif Nat.beq k 26 then 660 else 0) else (bif Nat.beq k 27 then 664 else 0)) else (bif Nat.blt k 29 then (bif Nat.beq k 28 then 896 else 0) else (bif Nat.beq k 29 then 900 else 0)))))) else (bif Nat.blt k 45 then (bif Nat.blt k 37 then (bif Nat.blt k 33 then (bif Nat.blt k 31 then (bif Nat.beq k 30 then 904 else 0) else (bif Nat.blt k 32 then (bif Nat.beq k 31 then 911 else 0) else (bif Nat.beq k 32 then 687 else 0))) else (bif Nat.blt k 35 then (bif Nat.blt k 34 then (bif Nat.beq k 33 then 691 else 0) else (bif Nat.beq k 34 then 356 else 0)) else (bif Nat.blt k 36 then (bif Nat.beq k 35 then 672 else 0) else (bif Nat.beq k 36 then 949 else 0)))) else (bif Nat.blt k 41 then (bif Nat.blt k 39 then (bif Nat.blt k 38 then (bif Nat.beq k 37 then 953 else 0) else (bif Nat.beq k 38 then 962 else 0)) else (bif Nat.blt k 40 then (bif Nat.beq k 39 then 966 else 0) else (bif Nat.beq k 40 then 971 else 0))) else (bif Nat.blt k 43 then (bif Nat.blt k 42 then (bif Nat.beq k 41 then 984 else 0) else (bif Nat.beq k 42 then 979 else 0)) else (bif Nat.blt k 44 then (bif Nat.beq k 43 then 159 else 0) else (bif Nat.beq k 44 then 874 else 0))))) else (bif Nat.blt k 53 then (bif Nat.blt k 49 then (bif Nat.blt k 47 then (bif Nat.blt k 46 then (bif Nat.beq k 45 then 519 else 0) else (bif Nat.beq k 46 then 711 else 0)) else (bif Nat.blt k 48 then (bif Nat.beq k 47 then 1116 else 0) else (bif Nat.beq k 48 then 1121 else 0))) else (bif Nat.blt k 51 then (bif Nat.blt k 50 then (bif Nat.beq k 49 then 1126 else 0) else (bif Nat.beq k 50 then 1135 else 0)) else (bif Nat.blt k 52 then (bif Nat.beq k 51 then 1130 else 0) else (bif Nat.beq k 52 then 1097 else 0)))) else (bif Nat.blt k 57 then (bif Nat.blt k 55 then (bif Nat.blt k 54 then (bif Nat.beq k 53 then 1101 else 0) else (bif Nat.beq k 54 then 1106 else 0)) else (bif Nat.blt k 56 then (bif Nat.beq k 55 then 288 else 0) else (bif Nat.beq k 56 then 780 else 0))) else (bif Nat.blt k 59 then (bif Nat.blt k 58 then (bif Nat.beq k 57 then 784 else 0) else (bif Nat.beq k 58 then 810 else 0)) else (bif Nat.blt k 60 then (bif Nat.beq k 59 then 791 else 0) else (bif Nat.beq k 60 then 787 else 0))))))) else (bif Nat.blt k 91 then (bif Nat.blt k 76 then (bif Nat.blt k 68 then (bif Nat.blt k 64 then (bif Nat.blt k 62 then (bif Nat.beq k 61 then 794 else 0) else (bif Nat.blt k 63 then (bif Nat.beq k 62 then 798 else 0) else (bif Nat.beq k 63 then 802 else 0))) else (bif Nat.blt k 66 then (bif Nat.blt k 65 then (bif Nat.beq k 64 then 806 else 0) else (bif Nat.beq k 65 then 815 else 0)) else (bif Nat.blt k 67 then (bif Nat.beq k 66 then 577 else 0) else (bif Nat.beq k 67 then 715 else 0)))) else (bif Nat.blt k 72 then (bif Nat.blt k 70 then (bif Nat.blt k 69 then (bif Nat.beq k 68 then 1148 else 0) else (bif Nat.beq k 69 then 1210 else 0)) else (bif Nat.blt k 71 then (bif Nat.beq k 70 then 1153 else 0) else (bif Nat.beq k 71 then 1161 else 0))) else (bif Nat.blt k 74 then (bif Nat.blt k 73 then (bif Nat.beq k 72 then 1166 else 0) else (bif Nat.beq k 73 then 1194 else 0)) else (bif Nat.blt k 75 then (bif Nat.beq k 74 then 1214 else 0) else (bif Nat.beq k 75 then 1248 else 0))))) else (bif Nat.blt k 83 then (bif Nat.blt k 79 then (bif Nat.blt k 77 then (bif Nat.beq k 76 then 1236 else 0) else (bif Nat.blt k 78 then (bif Nat.beq k 77 then 153 else 0) else (bif Nat.beq k 78 then 1329 else 0))) else (bif Nat.blt k 81 then (bif Nat.blt k 80 then (bif Nat.beq k 79 then 957 else 0) else (bif Nat.beq k 80 then 864 else 0)) else (bif Nat.blt k 82 then (bif Nat.beq k 81 then 937 else 0) else (bif Nat.beq k 82 then 989 else 0)))) else (bif Nat.blt k 87 then (bif Nat.blt k 85 then (bif Nat.blt k 84 then (bif Nat.beq k 83 then 878 else 0) else (bif Nat.beq k 84 then 868 else 0)) else (bif Nat.blt k 86 then (bif Nat.beq k 85 then 327 else 0) else (bif Nat.beq k 86 then 828 else 0))) else (bif Nat.blt k 89 then (bif Nat.blt k 88 then (bif Nat.beq k 87 then 832 else 0) else (bif Nat.beq k 88 then 838 else 0)) else (bif Nat.blt k 90 then (bif Nat.beq k 89 then 842 else 0) else (bif Nat.beq k 90 then 846 else 0)))))) else (bif Nat.blt k 106 then (bif Nat.blt k 98 then (bif Nat.blt k 94 then (bif Nat.blt k 92 then (bif Nat.beq k 91 then 850 else 0) else (bif Nat.blt k 93 then (bif Nat.beq k 92 then 856 else 0) else (bif Nat.beq k 93 then 886 else 0))) else (bif Nat.blt k 96 then (bif Nat.blt k 95 then (bif Nat.beq k 94 then 882 else 0) else (bif Nat.beq k 95 then 860 else 0)) else (bif Nat.blt k 97 then (bif Nat.beq k 96 then 143 else 0) else (bif Nat.beq k 97 then 768 else 0)))) else (bif Nat.blt k 102 then (bif Nat.blt k 100 then (bif Nat.blt k 99 then (bif Nat.beq k 98 then 776 else 0) else (bif Nat.beq k 99 then 821 else 0)) else (bif Nat.blt k 101 then (bif Nat.beq k 100 then 892 else 0) else (bif Nat.beq k 101 then 915 else 0))) else (bif Nat.blt k 104 then (bif Nat.blt k 103 then (bif Nat.beq k 102 then 923 else 0) else (bif Nat.beq k 103 then 927 else 0)) else (bif Nat.blt k 105 then (bif Nat.beq k 104 then 933 else 0) else (bif Nat.beq k 105 then 998 else 0))))) else (bif Nat.blt k 114 then (bif Nat.blt k 110 then (bif Nat.blt k 108 then (bif Nat.blt k 107 then (bif Nat.beq k 106 then 1260 else 0) else (bif Nat.beq k 107 then 1005 else 0)) else (bif Nat.blt k 109 then (bif Nat.beq k 108 then 1013 else 0) else (bif Nat.beq k 109 then 1018 else 0))) else (bif Nat.blt k 112 then (bif Nat.blt k 111 then (bif Nat.beq k 110 then 1022 else 0) else (bif Nat.beq k 111 then 1027 else 0)) else (bif Nat.blt k 113 then (bif Nat.beq k 112 then 1031 else 0) else (bif Nat.beq k 113 then 1084 else 0)))) else (bif Nat.blt k 118 then (bif Nat.blt k 116 then (bif Nat.blt k 115 then (bif Nat.beq k 114 then 1112 else 0) else (bif Nat.beq k 115 then 1140 else 0)) else (bif Nat.blt k 117 then (bif Nat.beq k 116 then 1198 else 0) else (bif Nat.beq k 117 then 1202 else 0))) else (bif Nat.blt k 120 then (bif Nat.blt k 119 then (bif Nat.beq k 118 then 1206 else 0) else (bif Nat.beq k 119 then 1224 else 0)) else (bif Nat.blt k 121 then (bif Nat.beq k 120 then 1244 else 0) else (bif Nat.beq k 121 then 1252 else 0)))))))) else (bif Nat.blt k 183 then (bif Nat.blt k 152 then (bif Nat.blt k 137 then (bif Nat.blt k 129 then (bif Nat.blt k 125 then (bif Nat.blt k 123 then (bif Nat.beq k 122 then 668 else 0) else (bif Nat.blt k 124 then (bif Nat.beq k 123 then 772 else 0) else (bif Nat.beq k 124 then 824 else 0))) else (bif Nat.blt k 127 then (bif Nat.blt k 126 then (bif Nat.beq k 125 then 1001 else 0) else (bif Nat.beq k 126 then 919 else 0)) else (bif Nat.blt k 128 then (bif Nat.beq k 127 then 1232 else 0) else (bif Nat.beq k 128 then 1228 else 0)))) else (bif Nat.blt k 133 then (bif Nat.blt k 131 then (bif Nat.blt k 130 then (bif Nat.beq k 129 then 1009 else 0) else (bif Nat.beq k 130 then 945 else 0)) else (bif Nat.blt k 132 then (bif Nat.beq k 131 then 941 else 0) else (bif Nat.beq k 132 then 994 else 0))) else (bif Nat.blt k 135 then (bif Nat.blt k 134 then (bif Nat.beq k 133 then 1088 else 0) else (bif Nat.beq k 134 then 1092 else 0)) else (bif Nat.blt k 136 then (bif Nat.beq k 135 then 1144 else 0) else (bif Nat.beq k 136 then 704 else 0))))) else (bif Nat.blt k 144 then (bif Nat.blt k 140 then (bif Nat.blt k 138 then (bif Nat.beq k 137 then 907 else 0) else (bif Nat.blt k 139 then (bif Nat.beq k 138 then 694 else 0) else (bif Nat.beq k 139 then 700 else 0))) else (bif Nat.blt k 142 then (bif Nat.blt k 141 then (bif Nat.beq k 140 then 1046 else 0) else (bif Nat.beq k 141 then 1333 else 0)) else (bif Nat.blt k 143 then (bif Nat.beq k 142 then 1613 else 0) else (bif Nat.beq k 143 then 1371 else 0)))) else (bif Nat.blt k 148 then (bif Nat.blt k 146 then (bif Nat.blt k 145 then (bif Nat.beq k 144 then 1802 else 0) else (bif Nat.beq k 145 then 1771 else 0)) else (bif Nat.blt k 147 then (bif Nat.beq k 146 then 1356 else 0) else (bif Nat.beq k 147 then 1352 else 0))) else (bif Nat.blt k 150 then (bif Nat.blt k 149 then (bif Nat.beq k 148 then 1348 else 0) else (bif Nat.beq k 149 then 1728 else 0)) else (bif Nat.blt k 151 then (bif Nat.beq k 150 then 1775 else 0) else (bif Nat.beq k 151 then 1731 else 0)))))) else (bif Nat.blt k 167 then (bif Nat.blt k 159 then (bif Nat.blt k 155 then (bif Nat.blt k 153 then (bif Nat.beq k 152 then 1704 else 0) else (bif Nat.blt k 154 then (bif Nat.beq k 153 then 1724 else 0) else (bif Nat.beq k 154 then 1743 else 0))) else (bif Nat.blt k 157 then (bif Nat.blt k 156 then (bif Nat.beq k 155 then 1735 else 0) else (bif Nat.beq k 156 then 1755 else 0)) else (bif Nat.blt k 158 then (bif Nat.beq k 157 then 1338 else 0) else (bif Nat.beq k 158 then 1368 else 0)))) else (bif Nat.blt k 163 then (bif Nat.blt k 161 then (bif Nat.blt k 160 then (bif Nat.beq k 159 then 1364 else 0) else (bif Nat.beq k 160 then 1380 else 0)) else (bif Nat.blt k 162 then (bif Nat.beq k 161 then 1376 else 0) else (bif Nat.beq k 162 then 1360 else 0))) else (bif Nat.blt k 165 then (bif Nat.blt k 164 then (bif Nat.beq k 163 then 1625 else 0) else (bif Nat.beq k 164 then 1587 else 0)) else (bif Nat.blt k 166 then (bif Nat.beq k 165 then 1583 else 0) else (bif Nat.beq k 166 then 1595 else 0))))) else (bif Nat.blt k 175 then (bif Nat.blt k 171 then (bif Nat.blt k 169 then (bif Nat.blt k 168 then (bif Nat.beq k 167 then 1610 else 0) else (bif Nat.beq k 168 then 1598 else 0)) else (bif Nat.blt k 170 then (bif Nat.beq k 169 then 1579 else 0) else (bif Nat.beq k 170 then 1591 else 0))) else (bif Nat.blt k 173 then (bif Nat.blt k 172 then (bif Nat.beq k 171 then 1602 else 0) else (bif Nat.beq k 172 then 1575 else 0)) else (bif Nat.blt k 174 then (bif Nat.beq k 173 then 1606 else 0) else (bif Nat.beq k 174 then 1617 else 0)))) else (bif Nat.blt k 179 then (bif Nat.blt k 177 then (bif Nat.blt k 176 then (bif Nat.beq k 175 then 1621 else 0) else (bif Nat.beq k 176 then 1629 else 0)) else (bif Nat.blt k 178 then (bif Nat.beq k 177 then 1633 else 0) else (bif Nat.beq k 178 then 1649 else 0))) else (bif Nat.blt k 181 then (bif Nat.blt k 180 then (bif Nat.beq k 179 then 1645 else 0) else (bif Nat.beq k 180 then 1641 else 0)) else (bif Nat.blt k 182 then (bif Nat.beq k 181 then 1673 else 0) else (bif Nat.beq k 182 then 1665 else 0))))))) else (bif Nat.blt k 214 then (bif Nat.blt k 198 then (bif Nat.blt k 190 then (bif Nat.blt k 186 then (bif Nat.blt k 184 then (bif Nat.beq k 183 then 1677 else 0) else (bif Nat.blt k 185 then (bif Nat.beq k 184 then 1669 else 0) else (bif Nat.beq k 185 then 1661 else 0))) else (bif Nat.blt k 188 then (bif Nat.blt k 187 then (bif Nat.beq k 186 then 1657 else 0) else (bif Nat.beq k 187 then 1653 else 0)) else (bif Nat.blt k 189 then (bif Nat.beq k 188 then 1637 else 0) else (bif Nat.beq k 189 then 1681 else 0)))) else (bif Nat.blt k 194 then (bif Nat.blt k 192 then (bif Nat.blt k 191 then (bif Nat.beq k 190 then 1701 else 0) else (bif Nat.beq k 191 then 1716 else 0)) else (bif Nat.blt k 193 then (bif Nat.beq k 192 then 1739 else 0) else (bif Nat.beq k 193 then 1720 else 0))) else (bif Nat.blt k 196 then (bif Nat.blt k 195 then (bif Nat.beq k 194 then 1712 else 0) else (bif Nat.beq k 195 then 1708 else 0)) else (bif Nat.blt k 197 then (bif Nat.beq k 196 then 1747 else 0) else (bif Nat.beq k 197 then 1697 else 0))))) else (bif Nat.blt k 206 then (bif Nat.blt k 202 then (bif Nat.blt k 200 then (bif Nat.blt k 199 then (bif Nat.beq k 198 then 1693 else 0) else (bif Nat.beq k 199 then 1689 else 0)) else (bif Nat.blt k 201 then (bif Nat.beq k 200 then 1767 else 0) else (bif Nat.beq k 201 then 1763 else 0))) else (bif Nat.blt k 204 then (bif Nat.blt k 203 then (bif Nat.beq k 202 then 1759 else 0) else (bif Nat.beq k 203 then 1779 else 0)) else (bif Nat.blt k 205 then (bif Nat.beq k 204 then 1783 else 0) else (bif Nat.beq k 205 then 1751 else 0)))) else (bif Nat.blt k 210 then (bif Nat.blt k 208 then (bif Nat.blt k 207 then (bif Nat.beq k 206 then 1787 else 0) else (bif Nat.beq k 207 then 1791 else 0)) else (bif Nat.blt k 209 then (bif Nat.beq k 208 then 1795 else 0) else (bif Nat.beq k 209 then 1799 else 0))) else (bif Nat.blt k 212 then (bif Nat.blt k 211 then (bif Nat.beq k 210 then 1806 else 0) else (bif Nat.beq k 211 then 1810 else 0)) else (bif Nat.blt k 213 then (bif Nat.beq k 212 then 1830 else 0) else (bif Nat.beq k 213 then 1826 else 0)))))) else (bif Nat.blt k 229 then (bif Nat.blt k 221 then (bif Nat.blt k 217 then (bif Nat.blt k 215 then (bif Nat.beq k 214 then 1685 else 0) else (bif Nat.blt k 216 then (bif Nat.beq k 215 then 1818 else 0) else (bif Nat.beq k 216 then 1822 else 0))) else (bif Nat.blt k 219 then (bif Nat.blt k 218 then (bif Nat.beq k 217 then 1834 else 0) else (bif Nat.beq k 218 then 1842 else 0)) else (bif Nat.blt k 220 then (bif Nat.beq k 219 then 1814 else 0) else (bif Nat.beq k 220 then 1838 else 0)))) else (bif Nat.blt k 225 then (bif Nat.blt k 223 then (bif Nat.blt k 222 then (bif Nat.beq k 221 then 1850 else 0) else (bif Nat.beq k 222 then 1846 else 0)) else (bif Nat.blt k 224 then (bif Nat.beq k 223 then 1858 else 0) else (bif Nat.beq k 224 then 1862 else 0))) else (bif Nat.blt k 227 then (bif Nat.blt k 226 then (bif Nat.beq k 225 then 1866 else 0) else (bif Nat.beq k 226 then 1854 else 0)) else (bif Nat.blt k 228 then (bif Nat.beq k 227 then 1874 else 0) else (bif Nat.beq k 228 then 1882 else 0))))) else (bif Nat.blt k 237 then (bif Nat.blt k 233 then (bif Nat.blt k 231 then (bif Nat.blt k 230 then (bif Nat.beq k 229 then 1878 else 0) else (bif Nat.beq k 230 then 1870 else 0)) else (bif Nat.blt k 232 then (bif Nat.beq k 231 then 1886 else 0) else (bif Nat.beq k 232 then 1890 else 0))) else (bif Nat.blt k 235 then (bif Nat.blt k 234 then (bif Nat.beq k 233 then 1894 else 0) else (bif Nat.beq k 234 then 1902 else 0)) else (bif Nat.blt k 236 then (bif Nat.beq k 235 then 1906 else 0) else (bif Nat.beq k 236 then 1917 else 0)))) else (bif Nat.blt k 241 then (bif Nat.blt k 239 then (bif Nat.blt k 238 then (bif Nat.beq k 237 then 1898 else 0) else (bif Nat.beq k 238 then 1914 else 0)) else (bif Nat.blt k 240 then (bif Nat.beq k 239 then 1910 else 0) else (bif Nat.beq k 240 then 1921 else 0))) else (bif Nat.blt k 243 then (bif Nat.blt k 242 then (bif Nat.beq k 241 then 1925 else 0) else (bif Nat.beq k 242 then 645 else 0)) else (bif Nat.blt k 244 then (bif Nat.beq k 243 then 683 else 0) else (bif Nat.beq k 244 then 642 else 0))))))))
def sm_pi : Nat → Nat := fun k => bif Nat.blt k 122 then (bif Nat.blt k 61 then (bif Nat.blt k 30 then (bif Nat.blt k 15 then (bif Nat.blt k 7 then (bif Nat.blt k 3 then (bif Nat.blt k 1 then (bif Nat.beq k 0 then 423 else 0) else (bif Nat.blt k 2 then (bif Nat.beq k 1 then 674 else 0) else (bif Nat.beq k 2 then 679 else 0))) else (bif Nat.blt k 5 then (bif Nat.blt k 4 then (bif Nat.beq k 3 then 1033 else 0) else (bif Nat.beq k 4 then 1038 else 0)) else (bif Nat.blt k 6 then (bif Nat.beq k 5 then 400 else 0) else (bif Nat.beq k 6 then 1050 else 0)))) else (bif Nat.blt k 11 then (bif Nat.blt k 9 then (bif Nat.blt k 8 then (bif Nat.beq k 7 then 1059 else 0) else (bif Nat.beq k 8 then 1064 else 0)) else (bif Nat.blt k 10 then (bif Nat.beq k 9 then 1069 else 0) else (bif Nat.beq k 10 then 1074 else 0))) else (bif Nat.blt k 13 then (bif Nat.blt k 12 then (bif Nat.beq k 11 then 432 else 0) else (bif Nat.beq k 12 then 1041 else 0)) else (bif Nat.blt k 14 then (bif Nat.beq k 13 then 1077 else 0) else (bif Nat.beq k 14 then 1155 else 0))))) else (bif Nat.blt k 22 then (bif Nat.blt k 18 then (bif Nat.blt k 16 then (bif Nat.beq k 15 then 1170 else 0) else (bif Nat.blt k 17 then (bif Nat.beq k 16 then 1174 else 0) else (bif Nat.beq k 17 then 1179 else 0))) else (bif Nat.blt k 20 then (bif Nat.blt k 19 then (bif Nat.beq k 18 then 1183 else 0) else (bif Nat.beq k 19 then 1217 else 0)) else (bif Nat.blt k 21 then (bif Nat.beq k 20 then 1187 else 0) else (bif Nat.beq k 21 then 1238 else 0)))) else (bif Nat.blt k 26 then (bif Nat.blt k 24 then (bif Nat.blt k 23 then (bif Nat.beq k 22 then 229 else 0) else (bif Nat.beq k 23 then 637 else 0)) else (bif Nat.blt k 25 then (bif Nat.beq k 24 then 648 else 0) else (bif Nat.beq k 25 then 652 else 0))) else (bif Nat.blt k 28 then (bif Nat.blt k 27 then (bif Nat.beq k 26 then 659 else 0) else (bif Nat.beq k 27 then 663 else 0)) else (bif Nat.blt k 29 then (bif Nat.beq k 28 then 894 else 0) else (bif Nat.beq k 29 then 899 else 0)))))) else (bif Nat.blt k 45 then (bif Nat.blt k 37 then (bif Nat.blt k 33 then (bif Nat.blt k 31 then (bif Nat.beq k 30 then 902 else 0) else (bif Nat.blt k 32 then (bif Nat.beq k 31 then 909 else 0) else (bif Nat.beq k 32 then 685 else 0))) else (bif Nat.blt k 35 then (bif Nat.blt k 34 then (bif Nat.beq k 33 then 689 else 0) else (bif Nat.beq k 34 then 355 else 0)) else (bif Nat.blt k 36 then (bif Nat.beq k 35 then 670 else 0) else (bif Nat.beq k 36 then 947 else 0)))) else (bif Nat.blt k 41 then (bif Nat.blt k 39 then (bif Nat.blt k 38 then (bif Nat.beq k 37 then 951 else 0) else (bif Nat.beq k 38 then 960 else 0)) else (bif Nat.blt k 40 then (bif Nat.beq k 39 then 965 else 0) else (bif Nat.beq k 40 then 970 else 0))) else (bif Nat.blt k 43 then (bif Nat.blt k 42 then (bif Nat.beq k 41 then 983 else 0) else (bif Nat.beq k 42 then 978 else 0)) else (bif Nat.blt k 44 then (bif Nat.beq k 43 then 158 else 0) else (bif Nat.beq k 44 then 872 else 0))))) else (bif Nat.blt k 53 then (bif Nat.blt k 49 then (bif Nat.blt k 47 then (bif Nat.blt k 46 then (bif Nat.beq k 45 then 518 else 0) else (bif Nat.beq k 46 then 709 else 0)) else (bif Nat.blt k 48 then (bif Nat.beq k 47 then 1114 else 0) else (bif Nat.beq k 48 then 1120 else 0))) else (bif Nat.blt k 51 then (bif Nat.blt k 50 then (bif Nat.beq k 49 then 1125 else 0) else (bif Nat.beq k 50 then 1134 else 0)) else (bif Nat.blt k 52 then (bif Nat.beq k 51 then 1129 else 0) else (bif Nat.beq k 52 then 1095 else 0)))) else (bif Nat.blt k 57 then (bif Nat.blt k 55 then (bif Nat.blt k 54 then (bif Nat.beq k 53 then 1100 else 0) else (bif Nat.beq k 54 then 1105 else 0)) else (bif Nat.blt k 56 then (bif Nat.beq k 55 then 287 else 0) else (bif Nat.beq k 56 then 778 else 0))) else (bif Nat.blt k 59 then (bif Nat.blt k 58 then (bif Nat.beq k 57 then 782 else 0) else (bif Nat.beq k 58 then 808 else 0)) else (bif Nat.blt k 60 then (bif Nat.beq k 59 then 790 else 0) else (bif Nat.beq k 60 then 786 else 0))))))) else (bif Nat.blt k 91 then (bif Nat.blt k 76 then (bif Nat.blt k 68 then (bif Nat.blt k 64 then (bif Nat.blt k 62 then (bif Nat.beq k 61 then 793 else 0) else (bif Nat.blt k 63 then (bif Nat.beq k 62 then 796 else 0) else (bif Nat.beq k 63 then 801 else 0))) else (bif Nat.blt k 66 then (bif Nat.blt k 65 then (bif Nat.beq k 64 then 805 else 0) else (bif Nat.beq k 65 then 814 else 0)) else (bif Nat.blt k 67 then (bif Nat.beq k 66 then 576 else 0) else (bif Nat.beq k 67 then 713 else 0)))) else (bif Nat.blt k 72 then (bif Nat.blt k 70 then (bif Nat.blt k 69 then (bif Nat.beq k 68 then 1146 else 0) else (bif Nat.beq k 69 then 1208 else 0)) else (bif Nat.blt k 71 then (bif Nat.beq k 70 then 1152 else 0) else (bif Nat.beq k 71 then 1160 else 0))) else (bif Nat.blt k 74 then (bif Nat.blt k 73 then (bif Nat.beq k 72 then 1165 else 0) else (bif Nat.beq k 73 then 1193 else 0)) else (bif Nat.blt k 75 then (bif Nat.beq k 74 then 1212 else 0) else (bif Nat.beq k 75 then 1246 else 0))))) else (bif Nat.blt k 83 then (bif Nat.blt k 79 then (bif Nat.blt k 77 then (bif Nat.beq k 76 then 1234 else 0) else (bif Nat.blt k 78 then (bif Nat.beq k 77 then 152 else 0) else (bif Nat.beq k 78 then 1327 else 0))) else (bif Nat.blt k 81 then (bif Nat.blt k 80 then (bif Nat.beq k 79 then 955 else 0) else (bif Nat.beq k 80 then 862 else 0)) else (bif Nat.blt k 82 then (bif Nat.beq k 81 then 935 else 0) else (bif Nat.beq k 82 then 987 else 0)))) else (bif Nat.blt k 87 then (bif Nat.blt k 85 then (bif Nat.blt k 84 then (bif Nat.beq k 83 then 876 else 0) else (bif Nat.beq k 84 then 866 else 0)) else (bif Nat.blt k 86 then (bif Nat.beq k 85 then 326 else 0) else (bif Nat.beq k 86 then 826 else 0))) else (bif Nat.blt k 89 then (bif Nat.blt k 88 then (bif Nat.beq k 87 then 831 else 0) else (bif Nat.beq k 88 then 837 else 0)) else (bif Nat.blt k 90 then (bif Nat.beq k 89 then 841 else 0) else (bif Nat.beq k 90 then 845 else 0)))))) else (bif Nat.blt k 106 then (bif Nat.blt k 98 then (bif Nat.blt k 94 then (bif Nat.blt k 92 then (bif Nat.beq k 91 then 849 else 0) else (bif Nat.blt k 93 then (bif Nat.beq k 92 then 855 else 0) else (bif Nat.beq k 93 then 885 else 0))) else (bif Nat.blt k 96 then (bif Nat.blt k 95 then (bif Nat.beq k 94 then 881 else 0) else (bif Nat.beq k 95 then 859 else 0)) else (bif Nat.blt k 97 then (bif Nat.beq k 96 then 142 else 0) else (bif Nat.beq k 97 then 766 else 0)))) else (bif Nat.blt k 102 then (bif Nat.blt k 100 then (bif Nat.blt k 99 then (bif Nat.beq k 98 then 774 else 0) else (bif Nat.beq k 99 then 819 else 0)) else (bif Nat.blt k 101 then (bif Nat.beq k 100 then 890 else 0) else (bif Nat.beq k 101 then 913 else 0))) else (bif Nat.blt k 104 then (bif Nat.blt k 103 then (bif Nat.beq k 102 then 921 else 0) else (bif Nat.beq k 103 then 925 else 0)) else (bif Nat.blt k 105 then (bif Nat.beq k 104 then 931 else 0) else (bif Nat.beq k 105 then 996 else 0))))) else (bif Nat.blt k 114 then (bif Nat.blt k 110 then (bif Nat.blt k 108 then (bif Nat.blt k 107 then (bif Nat.beq k 106 then 1258 else 0) else (bif Nat.beq k 107 then 1003 else 0)) else (bif Nat.blt k 109 then (bif Nat.beq k 108 then 1011 else 0) else (bif Nat.beq k 109 then 1016 else 0))) else (bif Nat.blt k 112 then (bif Nat.blt k 111 then (bif Nat.beq k 110 then 1020 else 0) else (bif Nat.beq k 111 then 1025 else 0)) else (bif Nat.blt k 113 then (bif Nat.beq k 112 then 1029 else 0) else (bif Nat.beq k 113 then 1082 else 0)))) else (bif Nat.blt k 118 then (bif Nat.blt k 116 then (bif Nat.blt k 115 then (bif Nat.beq k 114 then 1110 else 0) else (bif Nat.beq k 115 then 1138 else 0)) else (bif Nat.blt k 117 then (bif Nat.beq k 116 then 1196 else 0) else (bif Nat.beq k 117 then 1200 else 0))) else (bif Nat.blt k 120 then (bif Nat.blt k 119 then (bif Nat.beq k 118 then 1204 else 0) else (bif Nat.beq k 119 then 1222 else 0)) else (bif Nat.blt k 121 then (bif Nat.beq k 120 then 1242 else 0) else (bif Nat.beq k 121 then 1250 else 0)))))))) else (bif Nat.blt k 183 then (bif Nat.blt k 152 then (bif Nat.blt k 137 then (bif Nat.blt k 129 then (bif Nat.blt k 125 then (bif Nat.blt k 123 then (bif Nat.beq k 122 then 667 else 0) else (bif Nat.blt k 124 then (bif Nat.beq k 123 then 771 else 0) else (bif Nat.beq k 124 then 823 else 0))) else (bif Nat.blt k 127 then (bif Nat.blt k 126 then (bif Nat.beq k 125 then 1000 else 0) else (bif Nat.beq k 126 then 918 else 0)) else (bif Nat.blt k 128 then (bif Nat.beq k 127 then 1231 else 0) else (bif Nat.beq k 128 then 1227 else 0)))) else (bif Nat.blt k 133 then (bif Nat.blt k 131 then (bif Nat.blt k 130 then (bif Nat.beq k 129 then 1008 else 0) else (bif Nat.beq k 130 then 944 else 0)) else (bif Nat.blt k 132 then (bif Nat.beq k 131 then 940 else 0) else (bif Nat.beq k 132 then 993 else 0))) else (bif Nat.blt k 135 then (bif Nat.blt k 134 then (bif Nat.beq k 133 then 1087 else 0) else (bif Nat.beq k 134 then 1091 else 0)) else (bif Nat.blt k 136 then (bif Nat.beq k 135 then 1143 else 0) else (bif Nat.beq k 136 then 703 else 0))))) else (bif Nat.blt k 144 then (bif Nat.blt k 140 then (bif Nat.blt k 138 then (bif Nat.beq k 137 then 906 else 0) else (bif Nat.blt k 139 then (bif Nat.beq k 138 then 693 else 0) else (bif Nat.beq k 139 then 699 else 0))) else (bif Nat.blt k 142 then (bif Nat.blt k 141 then (bif Nat.beq k 140 then 1045 else 0) else (bif Nat.beq k 141 then 1331 else 0)) else (bif Nat.blt k 143 then (bif Nat.beq k 142 then 1612 else 0) else (bif Nat.beq k 143 then 1370 else 0)))) else (bif Nat.blt k 148 then (bif Nat.blt k 146 then (bif Nat.blt k 145 then (bif Nat.beq k 144 then 1801 else 0) else (bif Nat.beq k 145 then 1770 else 0)) else (bif Nat.blt k 147 then (bif Nat.beq k 146 then 1355 else 0) else (bif Nat.beq k 147 then 1351 else 0))) else (bif Nat.blt k 150 then (bif Nat.blt k 149 then (bif Nat.beq k 148 then 1347 else 0) else (bif Nat.beq k 149 then 1727 else 0)) else (bif Nat.blt k 151 then (bif Nat.beq k 150 then 1774 else 0) else (bif Nat.beq k 151 then 1730 else 0)))))) else (bif Nat.blt k 167 then (bif Nat.blt k 159 then (bif Nat.blt k 155 then (bif Nat.blt k 153 then (bif Nat.beq k 152 then 1703 else 0) else (bif Nat.blt k 154 then (bif Nat.beq k 153 then 1723 else 0) else (bif Nat.beq k 154 then 1742 else 0))) else (bif Nat.blt k 157 then (bif Nat.blt k 156 then (bif Nat.beq k 155 then 1734 else 0) else (bif Nat.beq k 156 then 1754 else 0)) else (bif Nat.blt k 158 then (bif Nat.beq k 157 then 1337 else 0) else (bif Nat.beq k 158 then 1367 else 0)))) else (bif Nat.blt k 163 then (bif Nat.blt k 161 then (bif Nat.blt k 160 then (bif Nat.beq k 159 then 1363 else 0) else (bif Nat.beq k 160 then 1379 else 0)) else (bif Nat.blt k 162 then (bif Nat.beq k 161 then 1375 else 0) else (bif Nat.beq k 162 then 1359 else 0))) else (bif Nat.blt k 165 then (bif Nat.blt k 164 then (bif Nat.beq k 163 then 1624 else 0) else (bif Nat.beq k 164 then 1586 else 0)) else (bif Nat.blt k 166 then (bif Nat.beq k 165 then 1582 else 0) else (bif Nat.beq k 166 then 1594 else 0))))) else (bif Nat.blt k 175 then (bif Nat.blt k 171 then (bif Nat.blt k 169 then (bif Nat.blt k 168 then (bif Nat.beq k 167 then 1609 else 0) else (bif Nat.beq k 168 then 1597 else 0)) else (bif Nat.blt k 170 then (bif Nat.beq k 169 then 1578 else 0) else (bif Nat.beq k 170 then 1590 else 0))) else (bif Nat.blt k 173 then (bif Nat.blt k 172 then (bif Nat.beq k 171 then 1601 else 0) else (bif Nat.beq k 172 then 1573 else 0)) else (bif Nat.blt k 174 then (bif Nat.beq k 173 then 1604 else 0) else (bif Nat.beq k 174 then 1615 else 0)))) else (bif Nat.blt k 179 then (bif Nat.blt k 177 then (bif Nat.blt k 176 then (bif Nat.beq k 175 then 1619 else 0) else (bif Nat.beq k 176 then 1627 else 0)) else (bif Nat.blt k 178 then (bif Nat.beq k 177 then 1632 else 0) else (bif Nat.beq k 178 then 1648 else 0))) else (bif Nat.blt k 181 then (bif Nat.blt k 180 then (bif Nat.beq k 179 then 1644 else 0) else (bif Nat.beq k 180 then 1640 else 0)) else (bif Nat.blt k 182 then (bif Nat.beq k 181 then 1672 else 0) else (bif Nat.beq k 182 then 1664 else 0))))))) else (bif Nat.blt k 214 then (bif Nat.blt k 198 then (bif Nat.blt k 190 then (bif Nat.blt k 186 then (bif Nat.blt k 184 then (bif Nat.beq k 183 then 1676 else 0) else (bif Nat.blt k 185 then (bif Nat.beq k 184 then 1668 else 0) else (bif Nat.beq k 185 then 1660 else 0))) else (bif Nat.blt k 188 then (bif Nat.blt k 187 then (bif Nat.beq k 186 then 1656 else 0) else (bif Nat.beq k 187 then 1652 else 0)) else (bif Nat.blt k 189 then (bif Nat.beq k 188 then 1635 else 0) else (bif Nat.beq k 189 then 1680 else 0)))) else (bif Nat.blt k 194 then (bif Nat.blt k 192 then (bif Nat.blt k 191 then (bif Nat.beq k 190 then 1700 else 0) else (bif Nat.beq k 191 then 1715 else 0)) else (bif Nat.blt k 193 then (bif Nat.beq k 192 then 1738 else 0) else (bif Nat.beq k 193 then 1719 else 0))) else (bif Nat.blt k 196 then (bif Nat.blt k 195 then (bif Nat.beq k 194 then 1711 else 0) else (bif Nat.beq k 195 then 1707 else 0)) else (bif Nat.blt k 197 then (bif Nat.beq k 196 then 1746 else 0) else (bif Nat.beq k 197 then 1696 else 0))))) else (bif Nat.blt k 206 then (bif Nat.blt k 202 then (bif Nat.blt k 200 then (bif Nat.blt k 199 then (bif Nat.beq k 198 then 1692 else 0) else (bif Nat.beq k 199 then 1687 else 0)) else (bif Nat.blt k 201 then (bif Nat.beq k 200 then 1766 else 0) else (bif Nat.beq k 201 then 1762 else 0))) else (bif Nat.blt k 204 then (bif Nat.blt k 203 then (bif Nat.beq k 202 then 1758 else 0) else (bif Nat.beq k 203 then 1778 else 0)) else (bif Nat.blt k 205 then (bif Nat.beq k 204 then 1782 else 0) else (bif Nat.beq k 205 then 1749 else 0)))) else (bif Nat.blt k 210 then (bif Nat.blt k 208 then (bif Nat.blt k 207 then (bif Nat.beq k 206 then 1785 else 0) else (bif Nat.beq k 207 then 1789 else 0)) else (bif Nat.blt k 209 then (bif Nat.beq k 208 then 1793 else 0) else (bif Nat.beq k 209 then 1797 else 0))) else (bif Nat.blt k 212 then (bif Nat.blt k 211 then (bif Nat.beq k 210 then 1804 else 0) else (bif Nat.beq k 211 then 1808 else 0)) else (bif Nat.blt k 213 then (bif Nat.beq k 212 then 1829 else 0) else (bif Nat.beq k 213 then 1825 else 0)))))) else (bif Nat.blt k 229 then (bif Nat.blt k 221 then (bif Nat.blt k 217 then (bif Nat.blt k 215 then (bif Nat.beq k 214 then 1684 else 0) else (bif Nat.blt k 216 then (bif Nat.beq k 215 then 1817 else 0) else (bif Nat.beq k 216 then 1821 else 0))) else (bif Nat.blt k 219 then (bif Nat.blt k 218 then (bif Nat.beq k 217 then 1833 else 0) else (bif Nat.beq k 218 then 1841 else 0)) else (bif Nat.blt k 220 then (bif Nat.beq k 219 then 1812 else 0) else (bif Nat.beq k 220 then 1836 else 0)))) else (bif Nat.blt k 225 then (bif Nat.blt k 223 then (bif Nat.blt k 222 then (bif Nat.beq k 221 then 1849 else 0) else (bif Nat.beq k 222 then 1844 else 0)) else (bif Nat.blt k 224 then (bif Nat.beq k 223 then 1857 else 0) else (bif Nat.beq k 224 then 1861 else 0))) else (bif Nat.blt k 227 then (bif Nat.blt k 226 then (bif Nat.beq k 225 then 1865 else 0) else (bif Nat.beq k 226 then 1852 else 0)) else (bif Nat.blt k 228 then (bif Nat.beq k 227 then 1873 else 0) else (bif Nat.beq k 228 then 1881 else 0))))) else (bif Nat.blt k 237 then (bif Nat.blt k 233 then (bif Nat.blt k 231 then (bif Nat.blt k 230 then (bif Nat.beq k 229 then 1877 else 0) else (bif Nat.beq k 230 then 1869 else 0)) else (bif Nat.blt k 232 then (bif Nat.beq k 231 then 1884 else 0) else (bif Nat.beq k 232 then 1888 else 0))) else (bif Nat.blt k 235 then (bif Nat.blt k 234 then (bif Nat.beq k 233 then 1892 else 0) else (bif Nat.beq k 234 then 1901 else 0)) else (bif Nat.blt k 236 then (bif Nat.beq k 235 then 1905 else 0) else (bif Nat.beq k 236 then 1916 else 0)))) else (bif Nat.blt k 241 then (bif Nat.blt k 239 then (bif Nat.blt k 238 then (bif Nat.beq k 237 then 1896 else 0) else (bif Nat.beq k 238 then 1913 else 0)) else (bif Nat.blt k 240 then (bif Nat.beq k 239 then 1908 else 0) else (bif Nat.beq k 240 then 1919 else 0))) else (bif Nat.blt k 243 then (bif Nat.blt k 242 then (bif Nat.beq k 241 then 1923 else 0) else (bif Nat.beq k 242 then 644 else 0)) else (bif Nat.blt k 244 then (bif Nat.beq k 243 then 682 else 0) else (bif Nat.beq k 244 then 641 else 0))))))))
def sm_ps : Nat → Nat := fun k => bif Nat.blt k 122 then (bif Nat.blt k 61 then (bif Nat.blt k 30 then (bif Nat.blt k 15 then (bif Nat.blt k 7 then (bif Nat.blt k 3 then (bif Nat.blt k 1 then (bif Nat.beq k 0 then 0 else 0) else (bif Nat.blt k 2 then (bif Nat.beq k 1 then 675 else 0) else (bif Nat.beq k 2 then 5 else 0))) else (bif Nat.blt k 5 then (bif Nat.blt k 4 then (bif Nat.beq k 3 then 1034 else 0) else (bif Nat.beq k 4 then 30 else 0)) else (bif Nat.blt k 6 then (bif Nat.beq k 5 then 0 else 0) else (bif Nat.beq k 6 then 1051 else 0)))) else (bif Nat.blt k 11 then (bif Nat.blt k 9 then (bif Nat.blt k 8 then (bif Nat.beq k 7 then 1060 else 0) else (bif Nat.beq k 8 then 31 else 0)) else (bif Nat.blt k 10 then (bif Nat.beq k 9 then 1070 else 0) else (bif Nat.beq k 10 then 32 else 0))) else (bif Nat.blt k 13 then (bif Nat.blt k 12 then (bif Nat.beq k 11 then 0 else 0) else (bif Nat.beq k 12 then 1042 else 0)) else (bif Nat.blt k 14 then (bif Nat.beq k 13 then 1078 else 0) else (bif Nat.beq k 14 then 1156 else 0))))) else (bif Nat.blt k 22 then (bif Nat.blt k 18 then (bif Nat.blt k 16 then (bif Nat.beq k 15 then 1171 else 0) else (bif Nat.blt k 17 then (bif Nat.beq k 16 then 1175 else 0) else (bif Nat.beq k 17 then 45 else 0))) else (bif Nat.blt k 20 then (bif Nat.blt k 19 then (bif Nat.beq k 18 then 46 else 0) else (bif Nat.beq k 19 then 1218 else 0)) else (bif Nat.blt k 21 then (bif Nat.beq k 20 then 1188 else 0) else (bif Nat.beq k 21 then 1239 else 0)))) else (bif Nat.blt k 26 then (bif Nat.blt k 24 then (bif Nat.blt k 23 then (bif Nat.beq k 22 then 0 else 0) else (bif Nat.beq k 23 then 638 else 0)) else (bif Nat.blt k 25 then (bif Nat.beq k 24 then 0 else 0) else (bif Nat.beq k 25 then 1 else 0))) else (bif Nat.blt k 28 then (bif Nat.blt k 27 then (bif Nat.beq k 26 then 2 else 0) else (bif Nat.beq k 27 then 3 else 0)) else (bif Nat.blt k 29 then (bif Nat.beq k 28 then 895 else 0) else (bif Nat.beq k 29 then 20 else 0)))))) else (bif Nat.blt k 45 then (bif Nat.blt k 37 then (bif Nat.blt k 33 then (bif Nat.blt k 31 then (bif Nat.beq k 30 then 903 else 0) else (bif Nat.blt k 32 then (bif Nat.beq k 31 then 910 else 0) else (bif Nat.beq k 32 then 686 else 0))) else (bif Nat.blt k 35 then (bif Nat.blt k 34 then (bif Nat.beq k 33 then 690 else 0) else (bif Nat.beq k 34 then 0 else 0)) else (bif Nat.blt k 36 then (bif Nat.beq k 35 then 671 else 0) else (bif Nat.beq k 36 then 948 else 0)))) else (bif Nat.blt k 41 then (bif Nat.blt k 39 then (bif Nat.blt k 38 then (bif Nat.beq k 37 then 952 else 0) else (bif Nat.beq k 38 then 961 else 0)) else (bif Nat.blt k 40 then (bif Nat.beq k 39 then 24 else 0) else (bif Nat.beq k 40 then 25 else 0))) else (bif Nat.blt k 43 then (bif Nat.blt k 42 then (bif Nat.beq k 41 then 27 else 0) else (bif Nat.beq k 42 then 26 else 0)) else (bif Nat.blt k 44 then (bif Nat.beq k 43 then 0 else 0) else (bif Nat.beq k 44 then 873 else 0))))) else (bif Nat.blt k 53 then (bif Nat.blt k 49 then (bif Nat.blt k 47 then (bif Nat.blt k 46 then (bif Nat.beq k 45 then 0 else 0) else (bif Nat.beq k 46 then 710 else 0)) else (bif Nat.blt k 48 then (bif Nat.beq k 47 then 1115 else 0) else (bif Nat.beq k 48 then 37 else 0))) else (bif Nat.blt k 51 then (bif Nat.blt k 50 then (bif Nat.beq k 49 then 38 else 0) else (bif Nat.beq k 50 then 40 else 0)) else (bif Nat.blt k 52 then (bif Nat.beq k 51 then 39 else 0) else (bif Nat.beq k 52 then 1096 else 0)))) else (bif Nat.blt k 57 then (bif Nat.blt k 55 then (bif Nat.blt k 54 then (bif Nat.beq k 53 then 35 else 0) else (bif Nat.beq k 54 then 36 else 0)) else (bif Nat.blt k 56 then (bif Nat.beq k 55 then 0 else 0) else (bif Nat.beq k 56 then 779 else 0))) else (bif Nat.blt k 59 then (bif Nat.blt k 58 then (bif Nat.beq k 57 then 783 else 0) else (bif Nat.beq k 58 then 809 else 0)) else (bif Nat.blt k 60 then (bif Nat.beq k 59 then 7 else 0) else (bif Nat.beq k 60 then 0 else 0))))))) else (bif Nat.blt k 91 then (bif Nat.blt k 76 then (bif Nat.blt k 68 then (bif Nat.blt k 64 then (bif Nat.blt k 62 then (bif Nat.beq k 61 then 0 else 0) else (bif Nat.blt k 63 then (bif Nat.beq k 62 then 797 else 0) else (bif Nat.beq k 63 then 8 else 0))) else (bif Nat.blt k 66 then (bif Nat.blt k 65 then (bif Nat.beq k 64 then 9 else 0) else (bif Nat.beq k 65 then 10 else 0)) else (bif Nat.blt k 67 then (bif Nat.beq k 66 then 0 else 0) else (bif Nat.beq k 67 then 714 else 0)))) else (bif Nat.blt k 72 then (bif Nat.blt k 70 then (bif Nat.blt k 69 then (bif Nat.beq k 68 then 1147 else 0) else (bif Nat.beq k 69 then 1209 else 0)) else (bif Nat.blt k 71 then (bif Nat.beq k 70 then 42 else 0) else (bif Nat.beq k 71 then 43 else 0))) else (bif Nat.blt k 74 then (bif Nat.blt k 73 then (bif Nat.beq k 72 then 44 else 0) else (bif Nat.beq k 73 then 47 else 0)) else (bif Nat.blt k 75 then (bif Nat.beq k 74 then 1213 else 0) else (bif Nat.beq k 75 then 1247 else 0))))) else (bif Nat.blt k 83 then (bif Nat.blt k 79 then (bif Nat.blt k 77 then (bif Nat.beq k 76 then 1235 else 0) else (bif Nat.blt k 78 then (bif Nat.beq k 77 then 0 else 0) else (bif Nat.beq k 78 then 1328 else 0))) else (bif Nat.blt k 81 then (bif Nat.blt k 80 then (bif Nat.beq k 79 then 956 else 0) else (bif Nat.beq k 80 then 863 else 0)) else (bif Nat.blt k 82 then (bif Nat.beq k 81 then 936 else 0) else (bif Nat.beq k 82 then 988 else 0)))) else (bif Nat.blt k 87 then (bif Nat.blt k 85 then (bif Nat.blt k 84 then (bif Nat.beq k 83 then 877 else 0) else (bif Nat.beq k 84 then 867 else 0)) else (bif Nat.blt k 86 then (bif Nat.beq k 85 then 0 else 0) else (bif Nat.beq k 86 then 827 else 0))) else (bif Nat.blt k 89 then (bif Nat.blt k 88 then (bif Nat.beq k 87 then 11 else 0) else (bif Nat.beq k 88 then 12 else 0)) else (bif Nat.blt k 90 then (bif Nat.beq k 89 then 13 else 0) else (bif Nat.beq k 90 then 14 else 0)))))) else (bif Nat.blt k 106 then (bif Nat.blt k 98 then (bif Nat.blt k 94 then (bif Nat.blt k 92 then (bif Nat.beq k 91 then 15 else 0) else (bif Nat.blt k 93 then (bif Nat.beq k 92 then 16 else 0) else (bif Nat.beq k 93 then 19 else 0))) else (bif Nat.blt k 96 then (bif Nat.blt k 95 then (bif Nat.beq k 94 then 18 else 0) else (bif Nat.beq k 95 then 17 else 0)) else (bif Nat.blt k 97 then (bif Nat.beq k 96 then 0 else 0) else (bif Nat.beq k 97 then 767 else 0)))) else (bif Nat.blt k 102 then (bif Nat.blt k 100 then (bif Nat.blt k 99 then (bif Nat.beq k 98 then 775 else 0) else (bif Nat.beq k 99 then 820 else 0)) else (bif Nat.blt k 101 then (bif Nat.beq k 100 then 891 else 0) else (bif Nat.beq k 101 then 914 else 0))) else (bif Nat.blt k 104 then (bif Nat.blt k 103 then (bif Nat.beq k 102 then 922 else 0) else (bif Nat.beq k 103 then 926 else 0)) else (bif Nat.blt k 105 then (bif Nat.beq k 104 then 932 else 0) else (bif Nat.beq k 105 then 997 else 0))))) else (bif Nat.blt k 114 then (bif Nat.blt k 110 then (bif Nat.blt k 108 then (bif Nat.blt k 107 then (bif Nat.beq k 106 then 1259 else 0) else (bif Nat.beq k 107 then 1004 else 0)) else (bif Nat.blt k 109 then (bif Nat.beq k 108 then 1012 else 0) else (bif Nat.beq k 109 then 1017 else 0))) else (bif Nat.blt k 112 then (bif Nat.blt k 111 then (bif Nat.beq k 110 then 1021 else 0) else (bif Nat.beq k 111 then 1026 else 0)) else (bif Nat.blt k 113 then (bif Nat.beq k 112 then 1030 else 0) else (bif Nat.beq k 113 then 1083 else 0)))) else (bif Nat.blt k 118 then (bif Nat.blt k 116 then (bif Nat.blt k 115 then (bif Nat.beq k 114 then 1111 else 0) else (bif Nat.beq k 115 then 1139 else 0)) else (bif Nat.blt k 117 then (bif Nat.beq k 116 then 1197 else 0) else (bif Nat.beq k 117 then 1201 else 0))) else (bif Nat.blt k 120 then (bif Nat.blt k 119 then (bif Nat.beq k 118 then 1205 else 0) else (bif Nat.beq k 119 then 1223 else 0)) else (bif Nat.blt k 121 then (bif Nat.beq k 120 then 1243 else 0) else (bif Nat.beq k 121 then 1251 else 0)))))))) else (bif Nat.blt k 183 then (bif Nat.blt k 152 then (bif Nat.blt k 137 then (bif Nat.blt k 129 then (bif Nat.blt k 125 then (bif Nat.blt k 123 then (bif Nat.beq k 122 then 4 else 0) else (bif Nat.blt k 124 then (bif Nat.beq k 123 then 6 else 0) else (bif Nat.beq k 124 then 0 else 0))) else (bif Nat.blt k 127 then (bif Nat.blt k 126 then (bif Nat.beq k 125 then 0 else 0) else (bif Nat.beq k 126 then 21 else 0)) else (bif Nat.blt k 128 then (bif Nat.beq k 127 then 49 else 0) else (bif Nat.beq k 128 then 48 else 0)))) else (bif Nat.blt k 133 then (bif Nat.blt k 131 then (bif Nat.blt k 130 then (bif Nat.beq k 129 then 29 else 0) else (bif Nat.beq k 130 then 23 else 0)) else (bif Nat.blt k 132 then (bif Nat.beq k 131 then 22 else 0) else (bif Nat.beq k 132 then 28 else 0))) else (bif Nat.blt k 135 then (bif Nat.blt k 134 then (bif Nat.beq k 133 then 33 else 0) else (bif Nat.beq k 134 then 34 else 0)) else (bif Nat.blt k 136 then (bif Nat.beq k 135 then 41 else 0) else (bif Nat.beq k 136 then 0 else 0))))) else (bif Nat.blt k 144 then (bif Nat.blt k 140 then (bif Nat.blt k 138 then (bif Nat.beq k 137 then 0 else 0) else (bif Nat.blt k 139 then (bif Nat.beq k 138 then 0 else 0) else (bif Nat.beq k 139 then 0 else 0))) else (bif Nat.blt k 142 then (bif Nat.blt k 141 then (bif Nat.beq k 140 then 0 else 0) else (bif Nat.beq k 141 then 1332 else 0)) else (bif Nat.blt k 143 then (bif Nat.beq k 142 then 0 else 0) else (bif Nat.beq k 143 then 0 else 0)))) else (bif Nat.blt k 148 then (bif Nat.blt k 146 then (bif Nat.blt k 145 then (bif Nat.beq k 144 then 0 else 0) else (bif Nat.beq k 145 then 97 else 0)) else (bif Nat.blt k 147 then (bif Nat.beq k 146 then 53 else 0) else (bif Nat.beq k 147 then 52 else 0))) else (bif Nat.blt k 150 then (bif Nat.blt k 149 then (bif Nat.beq k 148 then 51 else 0) else (bif Nat.beq k 149 then 88 else 0)) else (bif Nat.blt k 151 then (bif Nat.beq k 150 then 98 else 0) else (bif Nat.beq k 151 then 0 else 0)))))) else (bif Nat.blt k 167 then (bif Nat.blt k 159 then (bif Nat.blt k 155 then (bif Nat.blt k 153 then (bif Nat.beq k 152 then 0 else 0) else (bif Nat.blt k 154 then (bif Nat.beq k 153 then 87 else 0) else (bif Nat.beq k 154 then 91 else 0))) else (bif Nat.blt k 157 then (bif Nat.blt k 156 then (bif Nat.beq k 155 then 89 else 0) else (bif Nat.beq k 156 then 93 else 0)) else (bif Nat.blt k 158 then (bif Nat.beq k 157 then 0 else 0) else (bif Nat.beq k 158 then 56 else 0)))) else (bif Nat.blt k 163 then (bif Nat.blt k 161 then (bif Nat.blt k 160 then (bif Nat.beq k 159 then 55 else 0) else (bif Nat.beq k 160 then 58 else 0)) else (bif Nat.blt k 162 then (bif Nat.beq k 161 then 57 else 0) else (bif Nat.beq k 162 then 54 else 0))) else (bif Nat.blt k 165 then (bif Nat.blt k 164 then (bif Nat.beq k 163 then 66 else 0) else (bif Nat.beq k 164 then 61 else 0)) else (bif Nat.blt k 166 then (bif Nat.beq k 165 then 60 else 0) else (bif Nat.beq k 166 then 63 else 0))))) else (bif Nat.blt k 175 then (bif Nat.blt k 171 then (bif Nat.blt k 169 then (bif Nat.blt k 168 then (bif Nat.beq k 167 then 65 else 0) else (bif Nat.beq k 168 then 0 else 0)) else (bif Nat.blt k 170 then (bif Nat.beq k 169 then 59 else 0) else (bif Nat.beq k 170 then 62 else 0))) else (bif Nat.blt k 173 then (bif Nat.blt k 172 then (bif Nat.beq k 171 then 64 else 0) else (bif Nat.beq k 172 then 1574 else 0)) else (bif Nat.blt k 174 then (bif Nat.beq k 173 then 1605 else 0) else (bif Nat.beq k 174 then 1616 else 0)))) else (bif Nat.blt k 179 then (bif Nat.blt k 177 then (bif Nat.blt k 176 then (bif Nat.beq k 175 then 1620 else 0) else (bif Nat.beq k 176 then 1628 else 0)) else (bif Nat.blt k 178 then (bif Nat.beq k 177 then 67 else 0) else (bif Nat.beq k 178 then 70 else 0))) else (bif Nat.blt k 181 then (bif Nat.blt k 180 then (bif Nat.beq k 179 then 69 else 0) else (bif Nat.beq k 180 then 68 else 0)) else (bif Nat.blt k 182 then (bif Nat.beq k 181 then 76 else 0) else (bif Nat.beq k 182 then 74 else 0))))))) else (bif Nat.blt k 214 then (bif Nat.blt k 198 then (bif Nat.blt k 190 then (bif Nat.blt k 186 then (bif Nat.blt k 184 then (bif Nat.beq k 183 then 77 else 0) else (bif Nat.blt k 185 then (bif Nat.beq k 184 then 75 else 0) else (bif Nat.beq k 185 then 73 else 0))) else (bif Nat.blt k 188 then (bif Nat.blt k 187 then (bif Nat.beq k 186 then 72 else 0) else (bif Nat.beq k 187 then 71 else 0)) else (bif Nat.blt k 189 then (bif Nat.beq k 188 then 1636 else 0) else (bif Nat.beq k 189 then 78 else 0)))) else (bif Nat.blt k 194 then (bif Nat.blt k 192 then (bif Nat.blt k 191 then (bif Nat.beq k 190 then 82 else 0) else (bif Nat.beq k 191 then 85 else 0)) else (bif Nat.blt k 193 then (bif Nat.beq k 192 then 90 else 0) else (bif Nat.beq k 193 then 86 else 0))) else (bif Nat.blt k 196 then (bif Nat.blt k 195 then (bif Nat.beq k 194 then 84 else 0) else (bif Nat.beq k 195 then 83 else 0)) else (bif Nat.blt k 197 then (bif Nat.beq k 196 then 92 else 0) else (bif Nat.beq k 197 then 81 else 0))))) else (bif Nat.blt k 206 then (bif Nat.blt k 202 then (bif Nat.blt k 200 then (bif Nat.blt k 199 then (bif Nat.beq k 198 then 80 else 0) else (bif Nat.beq k 199 then 1688 else 0)) else (bif Nat.blt k 201 then (bif Nat.beq k 200 then 96 else 0) else (bif Nat.beq k 201 then 95 else 0))) else (bif Nat.blt k 204 then (bif Nat.blt k 203 then (bif Nat.beq k 202 then 94 else 0) else (bif Nat.beq k 203 then 99 else 0)) else (bif Nat.blt k 205 then (bif Nat.beq k 204 then 100 else 0) else (bif Nat.beq k 205 then 1750 else 0)))) else (bif Nat.blt k 210 then (bif Nat.blt k 208 then (bif Nat.blt k 207 then (bif Nat.beq k 206 then 1786 else 0) else (bif Nat.beq k 207 then 1790 else 0)) else (bif Nat.blt k 209 then (bif Nat.beq k 208 then 1794 else 0) else (bif Nat.beq k 209 then 1798 else 0))) else (bif Nat.blt k 212 then (bif Nat.blt k 211 then (bif Nat.beq k 210 then 1805 else 0) else (bif Nat.beq k 211 then 1809 else 0)) else (bif Nat.blt k 213 then (bif Nat.beq k 212 then 104 else 0) else (bif Nat.beq k 213 then 103 else 0)))))) else (bif Nat.blt k 229 then (bif Nat.blt k 221 then (bif Nat.blt k 217 then (bif Nat.blt k 215 then (bif Nat.beq k 214 then 79 else 0) else (bif Nat.blt k 216 then (bif Nat.beq k 215 then 101 else 0) else (bif Nat.beq k 216 then 102 else 0))) else (bif Nat.blt k 219 then (bif Nat.blt k 218 then (bif Nat.beq k 217 then 105 else 0) else (bif Nat.beq k 218 then 106 else 0)) else (bif Nat.blt k 220 then (bif Nat.beq k 219 then 1813 else 0) else (bif Nat.beq k 220 then 1837 else 0)))) else (bif Nat.blt k 225 then (bif Nat.blt k 223 then (bif Nat.blt k 222 then (bif Nat.beq k 221 then 107 else 0) else (bif Nat.beq k 222 then 1845 else 0)) else (bif Nat.blt k 224 then (bif Nat.beq k 223 then 108 else 0) else (bif Nat.beq k 224 then 109 else 0))) else (bif Nat.blt k 227 then (bif Nat.blt k 226 then (bif Nat.beq k 225 then 110 else 0) else (bif Nat.beq k 226 then 1853 else 0)) else (bif Nat.blt k 228 then (bif Nat.beq k 227 then 112 else 0) else (bif Nat.beq k 228 then 114 else 0))))) else (bif Nat.blt k 237 then (bif Nat.blt k 233 then (bif Nat.blt k 231 then (bif Nat.blt k 230 then (bif Nat.beq k 229 then 113 else 0) else (bif Nat.beq k 230 then 111 else 0)) else (bif Nat.blt k 232 then (bif Nat.beq k 231 then 1885 else 0) else (bif Nat.beq k 232 then 1889 else 0))) else (bif Nat.blt k 235 then (bif Nat.blt k 234 then (bif Nat.beq k 233 then 1893 else 0) else (bif Nat.beq k 234 then 115 else 0)) else (bif Nat.blt k 236 then (bif Nat.beq k 235 then 116 else 0) else (bif Nat.beq k 236 then 0 else 0)))) else (bif Nat.blt k 241 then (bif Nat.blt k 239 then (bif Nat.blt k 238 then (bif Nat.beq k 237 then 1897 else 0) else (bif Nat.beq k 238 then 117 else 0)) else (bif Nat.blt k 240 then (bif Nat.beq k 239 then 1909 else 0) else (bif Nat.beq k 240 then 1920 else 0))) else (bif Nat.blt k 243 then (bif Nat.blt k 242 then (bif Nat.beq k 241 then 1924 else 0) else (bif Nat.beq k 242 then 0 else 0)) else (bif Nat.blt k 244 then (bif Nat.beq k 243 then 0 else 0) else (bif Nat.beq k 244 then 0 else 0))))))))
def sm_px : Nat → Nat := fun c => bif Nat.blt c 7 then (bif Nat.blt c 3 then (bif Nat.blt c 1 then (bif Nat.beq c 0 then 127 else 0) else (bif Nat.blt c 2 then (bif Nat.beq c 1 then 126 else 0) else (bif Nat.beq c 2 then 128 else 0))) else (bif Nat.blt c 5 then (bif Nat.blt c 4 then (bif Nat.beq c 3 then 122 else 0) else (bif Nat.beq c 4 then 125 else 0)) else (bif Nat.blt c 6 then (bif Nat.beq c 5 then 121 else 0) else (bif Nat.beq c 6 then 129 else 0)))) else (bif Nat.blt c 10 then (bif Nat.blt c 8 then (bif Nat.beq c 7 then 123 else 0) else (bif Nat.blt c 9 then (bif Nat.beq c 8 then 130 else 0) else (bif Nat.beq c 9 then 120 else 0))) else (bif Nat.blt c 12 then (bif Nat.blt c 11 then (bif Nat.beq c 10 then 124 else 0) else (bif Nat.beq c 11 then 119 else 0)) else (bif Nat.blt c 13 then (bif Nat.beq c 12 then 134 else 0) else (bif Nat.beq c 13 then 131 else 0))))
def tbG : List Cond := lw_tbl.filter goodWord
theorem tb_in {w : Cond} (i : Nat) (h1 : lw_tbl[i]? = some w) (h2 : goodWord w = true) : w ∈ tbG := List.mem_filter.mpr ⟨List.mem_of_getElem? h1, h2⟩
def sm_W (k : Nat) : List Cond := [.code (sm_y k) (sm_b k) (cm_maxL k) (sm_rt k)]
set_option maxRecDepth 100000 in
theorem tc_0 : lw_tbl[424]? = some (Cond.code (sm_y 0) (sm_b 0) (cm_maxL 0) (sm_rt 0)) := rfl
set_option maxRecDepth 100000 in
theorem tc_1 : lw_tbl[676]? = some (Cond.code (sm_y 1) (sm_b 1) (cm_maxL 1) (sm_rt 1)) := rfl
set_option maxRecDepth 100000 in
theorem tc_2 : lw_tbl[680]? = some (Cond.code (sm_y 2) (sm_b 2) (cm_maxL 2) (sm_rt 2)) := rfl
set_option maxRecDepth 100000 in
theorem tc_3 : lw_tbl[1035]? = some (Cond.code (sm_y 3) (sm_b 3) (cm_maxL 3) (sm_rt 3)) := rfl
set_option maxRecDepth 100000 in
theorem tc_4 : lw_tbl[1039]? = some (Cond.code (sm_y 4) (sm_b 4) (cm_maxL 4) (sm_rt 4)) := rfl
set_option maxRecDepth 100000 in
theorem tc_5 : lw_tbl[401]? = some (Cond.code (sm_y 5) (sm_b 5) (cm_maxL 5) (sm_rt 5)) := rfl
set_option maxRecDepth 100000 in
theorem tc_6 : lw_tbl[1052]? = some (Cond.code (sm_y 6) (sm_b 6) (cm_maxL 6) (sm_rt 6)) := rfl
set_option maxRecDepth 100000 in
theorem tc_7 : lw_tbl[1061]? = some (Cond.code (sm_y 7) (sm_b 7) (cm_maxL 7) (sm_rt 7)) := rfl
set_option maxRecDepth 100000 in
theorem tc_8 : lw_tbl[1065]? = some (Cond.code (sm_y 8) (sm_b 8) (cm_maxL 8) (sm_rt 8)) := rfl
set_option maxRecDepth 100000 in
theorem tc_9 : lw_tbl[1071]? = some (Cond.code (sm_y 9) (sm_b 9) (cm_maxL 9) (sm_rt 9)) := rfl
set_option maxRecDepth 100000 in
theorem tc_10 : lw_tbl[1075]? = some (Cond.code (sm_y 10) (sm_b 10) (cm_maxL 10) (sm_rt 10)) := rfl
set_option maxRecDepth 100000 in
theorem tc_11 : lw_tbl[433]? = some (Cond.code (sm_y 11) (sm_b 11) (cm_maxL 11) (sm_rt 11)) := rfl
set_option maxRecDepth 100000 in
theorem tc_12 : lw_tbl[1043]? = some (Cond.code (sm_y 12) (sm_b 12) (cm_maxL 12) (sm_rt 12)) := rfl
set_option maxRecDepth 100000 in
theorem tc_13 : lw_tbl[1079]? = some (Cond.code (sm_y 13) (sm_b 13) (cm_maxL 13) (sm_rt 13)) := rfl
set_option maxRecDepth 100000 in
theorem tc_14 : lw_tbl[1157]? = some (Cond.code (sm_y 14) (sm_b 14) (cm_maxL 14) (sm_rt 14)) := rfl
set_option maxRecDepth 100000 in
theorem tc_15 : lw_tbl[1172]? = some (Cond.code (sm_y 15) (sm_b 15) (cm_maxL 15) (sm_rt 15)) := rfl
set_option maxRecDepth 100000 in
theorem tc_16 : lw_tbl[1176]? = some (Cond.code (sm_y 16) (sm_b 16) (cm_maxL 16) (sm_rt 16)) := rfl
set_option maxRecDepth 100000 in
theorem tc_17 : lw_tbl[1180]? = some (Cond.code (sm_y 17) (sm_b 17) (cm_maxL 17) (sm_rt 17)) := rfl
set_option maxRecDepth 100000 in
theorem tc_18 : lw_tbl[1184]? = some (Cond.code (sm_y 18) (sm_b 18) (cm_maxL 18) (sm_rt 18)) := rfl
set_option maxRecDepth 100000 in
theorem tc_19 : lw_tbl[1219]? = some (Cond.code (sm_y 19) (sm_b 19) (cm_maxL 19) (sm_rt 19)) := rfl
set_option maxRecDepth 100000 in
theorem tc_20 : lw_tbl[1189]? = some (Cond.code (sm_y 20) (sm_b 20) (cm_maxL 20) (sm_rt 20)) := rfl
set_option maxRecDepth 100000 in
theorem tc_21 : lw_tbl[1240]? = some (Cond.code (sm_y 21) (sm_b 21) (cm_maxL 21) (sm_rt 21)) := rfl
set_option maxRecDepth 100000 in
theorem tc_22 : lw_tbl[230]? = some (Cond.code (sm_y 22) (sm_b 22) (cm_maxL 22) (sm_rt 22)) := rfl
set_option maxRecDepth 100000 in
theorem tc_23 : lw_tbl[639]? = some (Cond.code (sm_y 23) (sm_b 23) (cm_maxL 23) (sm_rt 23)) := rfl
set_option maxRecDepth 100000 in
theorem tc_24 : lw_tbl[649]? = some (Cond.code (sm_y 24) (sm_b 24) (cm_maxL 24) (sm_rt 24)) := rfl
set_option maxRecDepth 100000 in
theorem tc_25 : lw_tbl[653]? = some (Cond.code (sm_y 25) (sm_b 25) (cm_maxL 25) (sm_rt 25)) := rfl
set_option maxRecDepth 100000 in
theorem tc_26 : lw_tbl[660]? = some (Cond.code (sm_y 26) (sm_b 26) (cm_maxL 26) (sm_rt 26)) := rfl
set_option maxRecDepth 100000 in
theorem tc_27 : lw_tbl[664]? = some (Cond.code (sm_y 27) (sm_b 27) (cm_maxL 27) (sm_rt 27)) := rfl
set_option maxRecDepth 100000 in
theorem tc_28 : lw_tbl[896]? = some (Cond.code (sm_y 28) (sm_b 28) (cm_maxL 28) (sm_rt 28)) := rfl
set_option maxRecDepth 100000 in
theorem tc_29 : lw_tbl[900]? = some (Cond.code (sm_y 29) (sm_b 29) (cm_maxL 29) (sm_rt 29)) := rfl
set_option maxRecDepth 100000 in
theorem tc_30 : lw_tbl[904]? = some (Cond.code (sm_y 30) (sm_b 30) (cm_maxL 30) (sm_rt 30)) := rfl
set_option maxRecDepth 100000 in
theorem tc_31 : lw_tbl[911]? = some (Cond.code (sm_y 31) (sm_b 31) (cm_maxL 31) (sm_rt 31)) := rfl
set_option maxRecDepth 100000 in
theorem tc_32 : lw_tbl[687]? = some (Cond.code (sm_y 32) (sm_b 32) (cm_maxL 32) (sm_rt 32)) := rfl
set_option maxRecDepth 100000 in
theorem tc_33 : lw_tbl[691]? = some (Cond.code (sm_y 33) (sm_b 33) (cm_maxL 33) (sm_rt 33)) := rfl
set_option maxRecDepth 100000 in
theorem tc_34 : lw_tbl[356]? = some (Cond.code (sm_y 34) (sm_b 34) (cm_maxL 34) (sm_rt 34)) := rfl
set_option maxRecDepth 100000 in
theorem tc_35 : lw_tbl[672]? = some (Cond.code (sm_y 35) (sm_b 35) (cm_maxL 35) (sm_rt 35)) := rfl
set_option maxRecDepth 100000 in
theorem tc_36 : lw_tbl[949]? = some (Cond.code (sm_y 36) (sm_b 36) (cm_maxL 36) (sm_rt 36)) := rfl
set_option maxRecDepth 100000 in
theorem tc_37 : lw_tbl[953]? = some (Cond.code (sm_y 37) (sm_b 37) (cm_maxL 37) (sm_rt 37)) := rfl
set_option maxRecDepth 100000 in
theorem tc_38 : lw_tbl[962]? = some (Cond.code (sm_y 38) (sm_b 38) (cm_maxL 38) (sm_rt 38)) := rfl
set_option maxRecDepth 100000 in
theorem tc_39 : lw_tbl[966]? = some (Cond.code (sm_y 39) (sm_b 39) (cm_maxL 39) (sm_rt 39)) := rfl
set_option maxRecDepth 100000 in
theorem tc_40 : lw_tbl[971]? = some (Cond.code (sm_y 40) (sm_b 40) (cm_maxL 40) (sm_rt 40)) := rfl
set_option maxRecDepth 100000 in
theorem tc_41 : lw_tbl[984]? = some (Cond.code (sm_y 41) (sm_b 41) (cm_maxL 41) (sm_rt 41)) := rfl
set_option maxRecDepth 100000 in
theorem tc_42 : lw_tbl[979]? = some (Cond.code (sm_y 42) (sm_b 42) (cm_maxL 42) (sm_rt 42)) := rfl
set_option maxRecDepth 100000 in
theorem tc_43 : lw_tbl[159]? = some (Cond.code (sm_y 43) (sm_b 43) (cm_maxL 43) (sm_rt 43)) := rfl
set_option maxRecDepth 100000 in
theorem tc_44 : lw_tbl[874]? = some (Cond.code (sm_y 44) (sm_b 44) (cm_maxL 44) (sm_rt 44)) := rfl
set_option maxRecDepth 100000 in
theorem tc_45 : lw_tbl[519]? = some (Cond.code (sm_y 45) (sm_b 45) (cm_maxL 45) (sm_rt 45)) := rfl
set_option maxRecDepth 100000 in
theorem tc_46 : lw_tbl[711]? = some (Cond.code (sm_y 46) (sm_b 46) (cm_maxL 46) (sm_rt 46)) := rfl
set_option maxRecDepth 100000 in
theorem tc_47 : lw_tbl[1116]? = some (Cond.code (sm_y 47) (sm_b 47) (cm_maxL 47) (sm_rt 47)) := rfl
set_option maxRecDepth 100000 in
theorem tc_48 : lw_tbl[1121]? = some (Cond.code (sm_y 48) (sm_b 48) (cm_maxL 48) (sm_rt 48)) := rfl
set_option maxRecDepth 100000 in
theorem tc_49 : lw_tbl[1126]? = some (Cond.code (sm_y 49) (sm_b 49) (cm_maxL 49) (sm_rt 49)) := rfl
set_option maxRecDepth 100000 in
theorem tc_50 : lw_tbl[1135]? = some (Cond.code (sm_y 50) (sm_b 50) (cm_maxL 50) (sm_rt 50)) := rfl
set_option maxRecDepth 100000 in
theorem tc_51 : lw_tbl[1130]? = some (Cond.code (sm_y 51) (sm_b 51) (cm_maxL 51) (sm_rt 51)) := rfl
set_option maxRecDepth 100000 in
theorem tc_52 : lw_tbl[1097]? = some (Cond.code (sm_y 52) (sm_b 52) (cm_maxL 52) (sm_rt 52)) := rfl
set_option maxRecDepth 100000 in
theorem tc_53 : lw_tbl[1101]? = some (Cond.code (sm_y 53) (sm_b 53) (cm_maxL 53) (sm_rt 53)) := rfl
set_option maxRecDepth 100000 in
theorem tc_54 : lw_tbl[1106]? = some (Cond.code (sm_y 54) (sm_b 54) (cm_maxL 54) (sm_rt 54)) := rfl
set_option maxRecDepth 100000 in
theorem tc_55 : lw_tbl[288]? = some (Cond.code (sm_y 55) (sm_b 55) (cm_maxL 55) (sm_rt 55)) := rfl
set_option maxRecDepth 100000 in
theorem tc_56 : lw_tbl[780]? = some (Cond.code (sm_y 56) (sm_b 56) (cm_maxL 56) (sm_rt 56)) := rfl
set_option maxRecDepth 100000 in
theorem tc_57 : lw_tbl[784]? = some (Cond.code (sm_y 57) (sm_b 57) (cm_maxL 57) (sm_rt 57)) := rfl
set_option maxRecDepth 100000 in
theorem tc_58 : lw_tbl[810]? = some (Cond.code (sm_y 58) (sm_b 58) (cm_maxL 58) (sm_rt 58)) := rfl
set_option maxRecDepth 100000 in
theorem tc_59 : lw_tbl[791]? = some (Cond.code (sm_y 59) (sm_b 59) (cm_maxL 59) (sm_rt 59)) := rfl
set_option maxRecDepth 100000 in
theorem tc_60 : lw_tbl[787]? = some (Cond.code (sm_y 60) (sm_b 60) (cm_maxL 60) (sm_rt 60)) := rfl
set_option maxRecDepth 100000 in
theorem tc_61 : lw_tbl[794]? = some (Cond.code (sm_y 61) (sm_b 61) (cm_maxL 61) (sm_rt 61)) := rfl
set_option maxRecDepth 100000 in
theorem tc_62 : lw_tbl[798]? = some (Cond.code (sm_y 62) (sm_b 62) (cm_maxL 62) (sm_rt 62)) := rfl
set_option maxRecDepth 100000 in
theorem tc_63 : lw_tbl[802]? = some (Cond.code (sm_y 63) (sm_b 63) (cm_maxL 63) (sm_rt 63)) := rfl
set_option maxRecDepth 100000 in
theorem tc_64 : lw_tbl[806]? = some (Cond.code (sm_y 64) (sm_b 64) (cm_maxL 64) (sm_rt 64)) := rfl
set_option maxRecDepth 100000 in
theorem tc_65 : lw_tbl[815]? = some (Cond.code (sm_y 65) (sm_b 65) (cm_maxL 65) (sm_rt 65)) := rfl
set_option maxRecDepth 100000 in
theorem tc_66 : lw_tbl[577]? = some (Cond.code (sm_y 66) (sm_b 66) (cm_maxL 66) (sm_rt 66)) := rfl
set_option maxRecDepth 100000 in
theorem tc_67 : lw_tbl[715]? = some (Cond.code (sm_y 67) (sm_b 67) (cm_maxL 67) (sm_rt 67)) := rfl
set_option maxRecDepth 100000 in
theorem tc_68 : lw_tbl[1148]? = some (Cond.code (sm_y 68) (sm_b 68) (cm_maxL 68) (sm_rt 68)) := rfl
set_option maxRecDepth 100000 in
theorem tc_69 : lw_tbl[1210]? = some (Cond.code (sm_y 69) (sm_b 69) (cm_maxL 69) (sm_rt 69)) := rfl
set_option maxRecDepth 100000 in
theorem tc_70 : lw_tbl[1153]? = some (Cond.code (sm_y 70) (sm_b 70) (cm_maxL 70) (sm_rt 70)) := rfl
set_option maxRecDepth 100000 in
theorem tc_71 : lw_tbl[1161]? = some (Cond.code (sm_y 71) (sm_b 71) (cm_maxL 71) (sm_rt 71)) := rfl
set_option maxRecDepth 100000 in
theorem tc_72 : lw_tbl[1166]? = some (Cond.code (sm_y 72) (sm_b 72) (cm_maxL 72) (sm_rt 72)) := rfl
set_option maxRecDepth 100000 in
theorem tc_73 : lw_tbl[1194]? = some (Cond.code (sm_y 73) (sm_b 73) (cm_maxL 73) (sm_rt 73)) := rfl
set_option maxRecDepth 100000 in
theorem tc_74 : lw_tbl[1214]? = some (Cond.code (sm_y 74) (sm_b 74) (cm_maxL 74) (sm_rt 74)) := rfl
set_option maxRecDepth 100000 in
theorem tc_75 : lw_tbl[1248]? = some (Cond.code (sm_y 75) (sm_b 75) (cm_maxL 75) (sm_rt 75)) := rfl
set_option maxRecDepth 100000 in
theorem tc_76 : lw_tbl[1236]? = some (Cond.code (sm_y 76) (sm_b 76) (cm_maxL 76) (sm_rt 76)) := rfl
set_option maxRecDepth 100000 in
theorem tc_77 : lw_tbl[153]? = some (Cond.code (sm_y 77) (sm_b 77) (cm_maxL 77) (sm_rt 77)) := rfl
set_option maxRecDepth 100000 in
theorem tc_78 : lw_tbl[1329]? = some (Cond.code (sm_y 78) (sm_b 78) (cm_maxL 78) (sm_rt 78)) := rfl
set_option maxRecDepth 100000 in
theorem tc_79 : lw_tbl[957]? = some (Cond.code (sm_y 79) (sm_b 79) (cm_maxL 79) (sm_rt 79)) := rfl
set_option maxRecDepth 100000 in
theorem tc_80 : lw_tbl[864]? = some (Cond.code (sm_y 80) (sm_b 80) (cm_maxL 80) (sm_rt 80)) := rfl
set_option maxRecDepth 100000 in
theorem tc_81 : lw_tbl[937]? = some (Cond.code (sm_y 81) (sm_b 81) (cm_maxL 81) (sm_rt 81)) := rfl
set_option maxRecDepth 100000 in
theorem tc_82 : lw_tbl[989]? = some (Cond.code (sm_y 82) (sm_b 82) (cm_maxL 82) (sm_rt 82)) := rfl
set_option maxRecDepth 100000 in
theorem tc_83 : lw_tbl[878]? = some (Cond.code (sm_y 83) (sm_b 83) (cm_maxL 83) (sm_rt 83)) := rfl
set_option maxRecDepth 100000 in
theorem tc_84 : lw_tbl[868]? = some (Cond.code (sm_y 84) (sm_b 84) (cm_maxL 84) (sm_rt 84)) := rfl
set_option maxRecDepth 100000 in
theorem tc_85 : lw_tbl[327]? = some (Cond.code (sm_y 85) (sm_b 85) (cm_maxL 85) (sm_rt 85)) := rfl
set_option maxRecDepth 100000 in
theorem tc_86 : lw_tbl[828]? = some (Cond.code (sm_y 86) (sm_b 86) (cm_maxL 86) (sm_rt 86)) := rfl
set_option maxRecDepth 100000 in
theorem tc_87 : lw_tbl[832]? = some (Cond.code (sm_y 87) (sm_b 87) (cm_maxL 87) (sm_rt 87)) := rfl
set_option maxRecDepth 100000 in
theorem tc_88 : lw_tbl[838]? = some (Cond.code (sm_y 88) (sm_b 88) (cm_maxL 88) (sm_rt 88)) := rfl
set_option maxRecDepth 100000 in
theorem tc_89 : lw_tbl[842]? = some (Cond.code (sm_y 89) (sm_b 89) (cm_maxL 89) (sm_rt 89)) := rfl
set_option maxRecDepth 100000 in
theorem tc_90 : lw_tbl[846]? = some (Cond.code (sm_y 90) (sm_b 90) (cm_maxL 90) (sm_rt 90)) := rfl
set_option maxRecDepth 100000 in
theorem tc_91 : lw_tbl[850]? = some (Cond.code (sm_y 91) (sm_b 91) (cm_maxL 91) (sm_rt 91)) := rfl
set_option maxRecDepth 100000 in
theorem tc_92 : lw_tbl[856]? = some (Cond.code (sm_y 92) (sm_b 92) (cm_maxL 92) (sm_rt 92)) := rfl
set_option maxRecDepth 100000 in
theorem tc_93 : lw_tbl[886]? = some (Cond.code (sm_y 93) (sm_b 93) (cm_maxL 93) (sm_rt 93)) := rfl
set_option maxRecDepth 100000 in
theorem tc_94 : lw_tbl[882]? = some (Cond.code (sm_y 94) (sm_b 94) (cm_maxL 94) (sm_rt 94)) := rfl
set_option maxRecDepth 100000 in
theorem tc_95 : lw_tbl[860]? = some (Cond.code (sm_y 95) (sm_b 95) (cm_maxL 95) (sm_rt 95)) := rfl
set_option maxRecDepth 100000 in
theorem tc_96 : lw_tbl[143]? = some (Cond.code (sm_y 96) (sm_b 96) (cm_maxL 96) (sm_rt 96)) := rfl
set_option maxRecDepth 100000 in
theorem tc_97 : lw_tbl[768]? = some (Cond.code (sm_y 97) (sm_b 97) (cm_maxL 97) (sm_rt 97)) := rfl
set_option maxRecDepth 100000 in
theorem tc_98 : lw_tbl[776]? = some (Cond.code (sm_y 98) (sm_b 98) (cm_maxL 98) (sm_rt 98)) := rfl
set_option maxRecDepth 100000 in
theorem tc_99 : lw_tbl[821]? = some (Cond.code (sm_y 99) (sm_b 99) (cm_maxL 99) (sm_rt 99)) := rfl
set_option maxRecDepth 100000 in
theorem tc_100 : lw_tbl[892]? = some (Cond.code (sm_y 100) (sm_b 100) (cm_maxL 100) (sm_rt 100)) := rfl
set_option maxRecDepth 100000 in
theorem tc_101 : lw_tbl[915]? = some (Cond.code (sm_y 101) (sm_b 101) (cm_maxL 101) (sm_rt 101)) := rfl
set_option maxRecDepth 100000 in
theorem tc_102 : lw_tbl[923]? = some (Cond.code (sm_y 102) (sm_b 102) (cm_maxL 102) (sm_rt 102)) := rfl
set_option maxRecDepth 100000 in
theorem tc_103 : lw_tbl[927]? = some (Cond.code (sm_y 103) (sm_b 103) (cm_maxL 103) (sm_rt 103)) := rfl
set_option maxRecDepth 100000 in
theorem tc_104 : lw_tbl[933]? = some (Cond.code (sm_y 104) (sm_b 104) (cm_maxL 104) (sm_rt 104)) := rfl
set_option maxRecDepth 100000 in
theorem tc_105 : lw_tbl[998]? = some (Cond.code (sm_y 105) (sm_b 105) (cm_maxL 105) (sm_rt 105)) := rfl
set_option maxRecDepth 100000 in
theorem tc_106 : lw_tbl[1260]? = some (Cond.code (sm_y 106) (sm_b 106) (cm_maxL 106) (sm_rt 106)) := rfl
set_option maxRecDepth 100000 in
theorem tc_107 : lw_tbl[1005]? = some (Cond.code (sm_y 107) (sm_b 107) (cm_maxL 107) (sm_rt 107)) := rfl
set_option maxRecDepth 100000 in
theorem tc_108 : lw_tbl[1013]? = some (Cond.code (sm_y 108) (sm_b 108) (cm_maxL 108) (sm_rt 108)) := rfl
set_option maxRecDepth 100000 in
theorem tc_109 : lw_tbl[1018]? = some (Cond.code (sm_y 109) (sm_b 109) (cm_maxL 109) (sm_rt 109)) := rfl
set_option maxRecDepth 100000 in
theorem tc_110 : lw_tbl[1022]? = some (Cond.code (sm_y 110) (sm_b 110) (cm_maxL 110) (sm_rt 110)) := rfl
set_option maxRecDepth 100000 in
theorem tc_111 : lw_tbl[1027]? = some (Cond.code (sm_y 111) (sm_b 111) (cm_maxL 111) (sm_rt 111)) := rfl
set_option maxRecDepth 100000 in
theorem tc_112 : lw_tbl[1031]? = some (Cond.code (sm_y 112) (sm_b 112) (cm_maxL 112) (sm_rt 112)) := rfl
set_option maxRecDepth 100000 in
theorem tc_113 : lw_tbl[1084]? = some (Cond.code (sm_y 113) (sm_b 113) (cm_maxL 113) (sm_rt 113)) := rfl
set_option maxRecDepth 100000 in
theorem tc_114 : lw_tbl[1112]? = some (Cond.code (sm_y 114) (sm_b 114) (cm_maxL 114) (sm_rt 114)) := rfl
set_option maxRecDepth 100000 in
theorem tc_115 : lw_tbl[1140]? = some (Cond.code (sm_y 115) (sm_b 115) (cm_maxL 115) (sm_rt 115)) := rfl
set_option maxRecDepth 100000 in
theorem tc_116 : lw_tbl[1198]? = some (Cond.code (sm_y 116) (sm_b 116) (cm_maxL 116) (sm_rt 116)) := rfl
set_option maxRecDepth 100000 in
theorem tc_117 : lw_tbl[1202]? = some (Cond.code (sm_y 117) (sm_b 117) (cm_maxL 117) (sm_rt 117)) := rfl
set_option maxRecDepth 100000 in
theorem tc_118 : lw_tbl[1206]? = some (Cond.code (sm_y 118) (sm_b 118) (cm_maxL 118) (sm_rt 118)) := rfl
set_option maxRecDepth 100000 in
theorem tc_119 : lw_tbl[1224]? = some (Cond.code (sm_y 119) (sm_b 119) (cm_maxL 119) (sm_rt 119)) := rfl
set_option maxRecDepth 100000 in
theorem tc_120 : lw_tbl[1244]? = some (Cond.code (sm_y 120) (sm_b 120) (cm_maxL 120) (sm_rt 120)) := rfl
set_option maxRecDepth 100000 in
theorem tc_121 : lw_tbl[1252]? = some (Cond.code (sm_y 121) (sm_b 121) (cm_maxL 121) (sm_rt 121)) := rfl
set_option maxRecDepth 100000 in
theorem tc_122 : lw_tbl[668]? = some (Cond.code (sm_y 122) (sm_b 122) (cm_maxL 122) (sm_rt 122)) := rfl
set_option maxRecDepth 100000 in
theorem tc_123 : lw_tbl[772]? = some (Cond.code (sm_y 123) (sm_b 123) (cm_maxL 123) (sm_rt 123)) := rfl
set_option maxRecDepth 100000 in
theorem tc_124 : lw_tbl[824]? = some (Cond.code (sm_y 124) (sm_b 124) (cm_maxL 124) (sm_rt 124)) := rfl
set_option maxRecDepth 100000 in
theorem tc_125 : lw_tbl[1001]? = some (Cond.code (sm_y 125) (sm_b 125) (cm_maxL 125) (sm_rt 125)) := rfl
set_option maxRecDepth 100000 in
theorem tc_126 : lw_tbl[919]? = some (Cond.code (sm_y 126) (sm_b 126) (cm_maxL 126) (sm_rt 126)) := rfl
set_option maxRecDepth 100000 in
theorem tc_127 : lw_tbl[1232]? = some (Cond.code (sm_y 127) (sm_b 127) (cm_maxL 127) (sm_rt 127)) := rfl
set_option maxRecDepth 100000 in
theorem tc_128 : lw_tbl[1228]? = some (Cond.code (sm_y 128) (sm_b 128) (cm_maxL 128) (sm_rt 128)) := rfl
set_option maxRecDepth 100000 in
theorem tc_129 : lw_tbl[1009]? = some (Cond.code (sm_y 129) (sm_b 129) (cm_maxL 129) (sm_rt 129)) := rfl
set_option maxRecDepth 100000 in
theorem tc_130 : lw_tbl[945]? = some (Cond.code (sm_y 130) (sm_b 130) (cm_maxL 130) (sm_rt 130)) := rfl
set_option maxRecDepth 100000 in
theorem tc_131 : lw_tbl[941]? = some (Cond.code (sm_y 131) (sm_b 131) (cm_maxL 131) (sm_rt 131)) := rfl
set_option maxRecDepth 100000 in
theorem tc_132 : lw_tbl[994]? = some (Cond.code (sm_y 132) (sm_b 132) (cm_maxL 132) (sm_rt 132)) := rfl
set_option maxRecDepth 100000 in
theorem tc_133 : lw_tbl[1088]? = some (Cond.code (sm_y 133) (sm_b 133) (cm_maxL 133) (sm_rt 133)) := rfl
set_option maxRecDepth 100000 in
theorem tc_134 : lw_tbl[1092]? = some (Cond.code (sm_y 134) (sm_b 134) (cm_maxL 134) (sm_rt 134)) := rfl
set_option maxRecDepth 100000 in
theorem tc_135 : lw_tbl[1144]? = some (Cond.code (sm_y 135) (sm_b 135) (cm_maxL 135) (sm_rt 135)) := rfl
set_option maxRecDepth 100000 in
theorem tc_136 : lw_tbl[704]? = some (Cond.code (sm_y 136) (sm_b 136) (cm_maxL 136) (sm_rt 136)) := rfl
set_option maxRecDepth 100000 in
theorem tc_137 : lw_tbl[907]? = some (Cond.code (sm_y 137) (sm_b 137) (cm_maxL 137) (sm_rt 137)) := rfl
set_option maxRecDepth 100000 in
theorem tc_138 : lw_tbl[694]? = some (Cond.code (sm_y 138) (sm_b 138) (cm_maxL 138) (sm_rt 138)) := rfl
set_option maxRecDepth 100000 in
theorem tc_139 : lw_tbl[700]? = some (Cond.code (sm_y 139) (sm_b 139) (cm_maxL 139) (sm_rt 139)) := rfl
set_option maxRecDepth 100000 in
theorem tc_140 : lw_tbl[1046]? = some (Cond.code (sm_y 140) (sm_b 140) (cm_maxL 140) (sm_rt 140)) := rfl
set_option maxRecDepth 100000 in
theorem tc_141 : lw_tbl[1333]? = some (Cond.code (sm_y 141) (sm_b 141) (cm_maxL 141) (sm_rt 141)) := rfl
set_option maxRecDepth 100000 in
theorem tc_142 : lw_tbl[1613]? = some (Cond.code (sm_y 142) (sm_b 142) (cm_maxL 142) (sm_rt 142)) := rfl
set_option maxRecDepth 100000 in
theorem tc_143 : lw_tbl[1371]? = some (Cond.code (sm_y 143) (sm_b 143) (cm_maxL 143) (sm_rt 143)) := rfl
set_option maxRecDepth 100000 in
theorem tc_144 : lw_tbl[1802]? = some (Cond.code (sm_y 144) (sm_b 144) (cm_maxL 144) (sm_rt 144)) := rfl
set_option maxRecDepth 100000 in
theorem tc_145 : lw_tbl[1771]? = some (Cond.code (sm_y 145) (sm_b 145) (cm_maxL 145) (sm_rt 145)) := rfl
set_option maxRecDepth 100000 in
theorem tc_146 : lw_tbl[1356]? = some (Cond.code (sm_y 146) (sm_b 146) (cm_maxL 146) (sm_rt 146)) := rfl
set_option maxRecDepth 100000 in
theorem tc_147 : lw_tbl[1352]? = some (Cond.code (sm_y 147) (sm_b 147) (cm_maxL 147) (sm_rt 147)) := rfl
set_option maxRecDepth 100000 in
theorem tc_148 : lw_tbl[1348]? = some (Cond.code (sm_y 148) (sm_b 148) (cm_maxL 148) (sm_rt 148)) := rfl
set_option maxRecDepth 100000 in
theorem tc_149 : lw_tbl[1728]? = some (Cond.code (sm_y 149) (sm_b 149) (cm_maxL 149) (sm_rt 149)) := rfl
set_option maxRecDepth 100000 in
theorem tc_150 : lw_tbl[1775]? = some (Cond.code (sm_y 150) (sm_b 150) (cm_maxL 150) (sm_rt 150)) := rfl
set_option maxRecDepth 100000 in
theorem tc_151 : lw_tbl[1731]? = some (Cond.code (sm_y 151) (sm_b 151) (cm_maxL 151) (sm_rt 151)) := rfl
set_option maxRecDepth 100000 in
theorem tc_152 : lw_tbl[1704]? = some (Cond.code (sm_y 152) (sm_b 152) (cm_maxL 152) (sm_rt 152)) := rfl
set_option maxRecDepth 100000 in
theorem tc_153 : lw_tbl[1724]? = some (Cond.code (sm_y 153) (sm_b 153) (cm_maxL 153) (sm_rt 153)) := rfl
set_option maxRecDepth 100000 in
theorem tc_154 : lw_tbl[1743]? = some (Cond.code (sm_y 154) (sm_b 154) (cm_maxL 154) (sm_rt 154)) := rfl
set_option maxRecDepth 100000 in
theorem tc_155 : lw_tbl[1735]? = some (Cond.code (sm_y 155) (sm_b 155) (cm_maxL 155) (sm_rt 155)) := rfl
set_option maxRecDepth 100000 in
theorem tc_156 : lw_tbl[1755]? = some (Cond.code (sm_y 156) (sm_b 156) (cm_maxL 156) (sm_rt 156)) := rfl
set_option maxRecDepth 100000 in
theorem tc_157 : lw_tbl[1338]? = some (Cond.code (sm_y 157) (sm_b 157) (cm_maxL 157) (sm_rt 157)) := rfl
set_option maxRecDepth 100000 in
theorem tc_158 : lw_tbl[1368]? = some (Cond.code (sm_y 158) (sm_b 158) (cm_maxL 158) (sm_rt 158)) := rfl
set_option maxRecDepth 100000 in
theorem tc_159 : lw_tbl[1364]? = some (Cond.code (sm_y 159) (sm_b 159) (cm_maxL 159) (sm_rt 159)) := rfl
set_option maxRecDepth 100000 in
theorem tc_160 : lw_tbl[1380]? = some (Cond.code (sm_y 160) (sm_b 160) (cm_maxL 160) (sm_rt 160)) := rfl
set_option maxRecDepth 100000 in
theorem tc_161 : lw_tbl[1376]? = some (Cond.code (sm_y 161) (sm_b 161) (cm_maxL 161) (sm_rt 161)) := rfl
set_option maxRecDepth 100000 in
theorem tc_162 : lw_tbl[1360]? = some (Cond.code (sm_y 162) (sm_b 162) (cm_maxL 162) (sm_rt 162)) := rfl
set_option maxRecDepth 100000 in
theorem tc_163 : lw_tbl[1625]? = some (Cond.code (sm_y 163) (sm_b 163) (cm_maxL 163) (sm_rt 163)) := rfl
set_option maxRecDepth 100000 in
theorem tc_164 : lw_tbl[1587]? = some (Cond.code (sm_y 164) (sm_b 164) (cm_maxL 164) (sm_rt 164)) := rfl
set_option maxRecDepth 100000 in
theorem tc_165 : lw_tbl[1583]? = some (Cond.code (sm_y 165) (sm_b 165) (cm_maxL 165) (sm_rt 165)) := rfl
set_option maxRecDepth 100000 in
theorem tc_166 : lw_tbl[1595]? = some (Cond.code (sm_y 166) (sm_b 166) (cm_maxL 166) (sm_rt 166)) := rfl
set_option maxRecDepth 100000 in
theorem tc_167 : lw_tbl[1610]? = some (Cond.code (sm_y 167) (sm_b 167) (cm_maxL 167) (sm_rt 167)) := rfl
set_option maxRecDepth 100000 in
theorem tc_168 : lw_tbl[1598]? = some (Cond.code (sm_y 168) (sm_b 168) (cm_maxL 168) (sm_rt 168)) := rfl
set_option maxRecDepth 100000 in
theorem tc_169 : lw_tbl[1579]? = some (Cond.code (sm_y 169) (sm_b 169) (cm_maxL 169) (sm_rt 169)) := rfl
set_option maxRecDepth 100000 in
theorem tc_170 : lw_tbl[1591]? = some (Cond.code (sm_y 170) (sm_b 170) (cm_maxL 170) (sm_rt 170)) := rfl
set_option maxRecDepth 100000 in
theorem tc_171 : lw_tbl[1602]? = some (Cond.code (sm_y 171) (sm_b 171) (cm_maxL 171) (sm_rt 171)) := rfl
set_option maxRecDepth 100000 in
theorem tc_172 : lw_tbl[1575]? = some (Cond.code (sm_y 172) (sm_b 172) (cm_maxL 172) (sm_rt 172)) := rfl
set_option maxRecDepth 100000 in
theorem tc_173 : lw_tbl[1606]? = some (Cond.code (sm_y 173) (sm_b 173) (cm_maxL 173) (sm_rt 173)) := rfl
set_option maxRecDepth 100000 in
theorem tc_174 : lw_tbl[1617]? = some (Cond.code (sm_y 174) (sm_b 174) (cm_maxL 174) (sm_rt 174)) := rfl
set_option maxRecDepth 100000 in
theorem tc_175 : lw_tbl[1621]? = some (Cond.code (sm_y 175) (sm_b 175) (cm_maxL 175) (sm_rt 175)) := rfl
set_option maxRecDepth 100000 in
theorem tc_176 : lw_tbl[1629]? = some (Cond.code (sm_y 176) (sm_b 176) (cm_maxL 176) (sm_rt 176)) := rfl
set_option maxRecDepth 100000 in
theorem tc_177 : lw_tbl[1633]? = some (Cond.code (sm_y 177) (sm_b 177) (cm_maxL 177) (sm_rt 177)) := rfl
set_option maxRecDepth 100000 in
theorem tc_178 : lw_tbl[1649]? = some (Cond.code (sm_y 178) (sm_b 178) (cm_maxL 178) (sm_rt 178)) := rfl
set_option maxRecDepth 100000 in
theorem tc_179 : lw_tbl[1645]? = some (Cond.code (sm_y 179) (sm_b 179) (cm_maxL 179) (sm_rt 179)) := rfl
set_option maxRecDepth 100000 in
theorem tc_180 : lw_tbl[1641]? = some (Cond.code (sm_y 180) (sm_b 180) (cm_maxL 180) (sm_rt 180)) := rfl
set_option maxRecDepth 100000 in
theorem tc_181 : lw_tbl[1673]? = some (Cond.code (sm_y 181) (sm_b 181) (cm_maxL 181) (sm_rt 181)) := rfl
set_option maxRecDepth 100000 in
theorem tc_182 : lw_tbl[1665]? = some (Cond.code (sm_y 182) (sm_b 182) (cm_maxL 182) (sm_rt 182)) := rfl
set_option maxRecDepth 100000 in
theorem tc_183 : lw_tbl[1677]? = some (Cond.code (sm_y 183) (sm_b 183) (cm_maxL 183) (sm_rt 183)) := rfl
set_option maxRecDepth 100000 in
theorem tc_184 : lw_tbl[1669]? = some (Cond.code (sm_y 184) (sm_b 184) (cm_maxL 184) (sm_rt 184)) := rfl
set_option maxRecDepth 100000 in
theorem tc_185 : lw_tbl[1661]? = some (Cond.code (sm_y 185) (sm_b 185) (cm_maxL 185) (sm_rt 185)) := rfl
set_option maxRecDepth 100000 in
theorem tc_186 : lw_tbl[1657]? = some (Cond.code (sm_y 186) (sm_b 186) (cm_maxL 186) (sm_rt 186)) := rfl
set_option maxRecDepth 100000 in
theorem tc_187 : lw_tbl[1653]? = some (Cond.code (sm_y 187) (sm_b 187) (cm_maxL 187) (sm_rt 187)) := rfl
set_option maxRecDepth 100000 in
theorem tc_188 : lw_tbl[1637]? = some (Cond.code (sm_y 188) (sm_b 188) (cm_maxL 188) (sm_rt 188)) := rfl
set_option maxRecDepth 100000 in
theorem tc_189 : lw_tbl[1681]? = some (Cond.code (sm_y 189) (sm_b 189) (cm_maxL 189) (sm_rt 189)) := rfl
set_option maxRecDepth 100000 in
theorem tc_190 : lw_tbl[1701]? = some (Cond.code (sm_y 190) (sm_b 190) (cm_maxL 190) (sm_rt 190)) := rfl
set_option maxRecDepth 100000 in
theorem tc_191 : lw_tbl[1716]? = some (Cond.code (sm_y 191) (sm_b 191) (cm_maxL 191) (sm_rt 191)) := rfl
set_option maxRecDepth 100000 in
theorem tc_192 : lw_tbl[1739]? = some (Cond.code (sm_y 192) (sm_b 192) (cm_maxL 192) (sm_rt 192)) := rfl
set_option maxRecDepth 100000 in
theorem tc_193 : lw_tbl[1720]? = some (Cond.code (sm_y 193) (sm_b 193) (cm_maxL 193) (sm_rt 193)) := rfl
set_option maxRecDepth 100000 in
theorem tc_194 : lw_tbl[1712]? = some (Cond.code (sm_y 194) (sm_b 194) (cm_maxL 194) (sm_rt 194)) := rfl
set_option maxRecDepth 100000 in
theorem tc_195 : lw_tbl[1708]? = some (Cond.code (sm_y 195) (sm_b 195) (cm_maxL 195) (sm_rt 195)) := rfl
set_option maxRecDepth 100000 in
theorem tc_196 : lw_tbl[1747]? = some (Cond.code (sm_y 196) (sm_b 196) (cm_maxL 196) (sm_rt 196)) := rfl
set_option maxRecDepth 100000 in
theorem tc_197 : lw_tbl[1697]? = some (Cond.code (sm_y 197) (sm_b 197) (cm_maxL 197) (sm_rt 197)) := rfl
set_option maxRecDepth 100000 in
theorem tc_198 : lw_tbl[1693]? = some (Cond.code (sm_y 198) (sm_b 198) (cm_maxL 198) (sm_rt 198)) := rfl
set_option maxRecDepth 100000 in
theorem tc_199 : lw_tbl[1689]? = some (Cond.code (sm_y 199) (sm_b 199) (cm_maxL 199) (sm_rt 199)) := rfl
set_option maxRecDepth 100000 in
theorem tc_200 : lw_tbl[1767]? = some (Cond.code (sm_y 200) (sm_b 200) (cm_maxL 200) (sm_rt 200)) := rfl
set_option maxRecDepth 100000 in
theorem tc_201 : lw_tbl[1763]? = some (Cond.code (sm_y 201) (sm_b 201) (cm_maxL 201) (sm_rt 201)) := rfl
set_option maxRecDepth 100000 in
theorem tc_202 : lw_tbl[1759]? = some (Cond.code (sm_y 202) (sm_b 202) (cm_maxL 202) (sm_rt 202)) := rfl
set_option maxRecDepth 100000 in
theorem tc_203 : lw_tbl[1779]? = some (Cond.code (sm_y 203) (sm_b 203) (cm_maxL 203) (sm_rt 203)) := rfl
set_option maxRecDepth 100000 in
theorem tc_204 : lw_tbl[1783]? = some (Cond.code (sm_y 204) (sm_b 204) (cm_maxL 204) (sm_rt 204)) := rfl
set_option maxRecDepth 100000 in
theorem tc_205 : lw_tbl[1751]? = some (Cond.code (sm_y 205) (sm_b 205) (cm_maxL 205) (sm_rt 205)) := rfl
set_option maxRecDepth 100000 in
theorem tc_206 : lw_tbl[1787]? = some (Cond.code (sm_y 206) (sm_b 206) (cm_maxL 206) (sm_rt 206)) := rfl
set_option maxRecDepth 100000 in
theorem tc_207 : lw_tbl[1791]? = some (Cond.code (sm_y 207) (sm_b 207) (cm_maxL 207) (sm_rt 207)) := rfl
set_option maxRecDepth 100000 in
theorem tc_208 : lw_tbl[1795]? = some (Cond.code (sm_y 208) (sm_b 208) (cm_maxL 208) (sm_rt 208)) := rfl
set_option maxRecDepth 100000 in
theorem tc_209 : lw_tbl[1799]? = some (Cond.code (sm_y 209) (sm_b 209) (cm_maxL 209) (sm_rt 209)) := rfl
set_option maxRecDepth 100000 in
theorem tc_210 : lw_tbl[1806]? = some (Cond.code (sm_y 210) (sm_b 210) (cm_maxL 210) (sm_rt 210)) := rfl
set_option maxRecDepth 100000 in
theorem tc_211 : lw_tbl[1810]? = some (Cond.code (sm_y 211) (sm_b 211) (cm_maxL 211) (sm_rt 211)) := rfl
set_option maxRecDepth 100000 in
theorem tc_212 : lw_tbl[1830]? = some (Cond.code (sm_y 212) (sm_b 212) (cm_maxL 212) (sm_rt 212)) := rfl
set_option maxRecDepth 100000 in
theorem tc_213 : lw_tbl[1826]? = some (Cond.code (sm_y 213) (sm_b 213) (cm_maxL 213) (sm_rt 213)) := rfl
set_option maxRecDepth 100000 in
theorem tc_214 : lw_tbl[1685]? = some (Cond.code (sm_y 214) (sm_b 214) (cm_maxL 214) (sm_rt 214)) := rfl
set_option maxRecDepth 100000 in
theorem tc_215 : lw_tbl[1818]? = some (Cond.code (sm_y 215) (sm_b 215) (cm_maxL 215) (sm_rt 215)) := rfl
set_option maxRecDepth 100000 in
theorem tc_216 : lw_tbl[1822]? = some (Cond.code (sm_y 216) (sm_b 216) (cm_maxL 216) (sm_rt 216)) := rfl
set_option maxRecDepth 100000 in
theorem tc_217 : lw_tbl[1834]? = some (Cond.code (sm_y 217) (sm_b 217) (cm_maxL 217) (sm_rt 217)) := rfl
set_option maxRecDepth 100000 in
theorem tc_218 : lw_tbl[1842]? = some (Cond.code (sm_y 218) (sm_b 218) (cm_maxL 218) (sm_rt 218)) := rfl
set_option maxRecDepth 100000 in
theorem tc_219 : lw_tbl[1814]? = some (Cond.code (sm_y 219) (sm_b 219) (cm_maxL 219) (sm_rt 219)) := rfl
set_option maxRecDepth 100000 in
theorem tc_220 : lw_tbl[1838]? = some (Cond.code (sm_y 220) (sm_b 220) (cm_maxL 220) (sm_rt 220)) := rfl
set_option maxRecDepth 100000 in
theorem tc_221 : lw_tbl[1850]? = some (Cond.code (sm_y 221) (sm_b 221) (cm_maxL 221) (sm_rt 221)) := rfl
set_option maxRecDepth 100000 in
theorem tc_222 : lw_tbl[1846]? = some (Cond.code (sm_y 222) (sm_b 222) (cm_maxL 222) (sm_rt 222)) := rfl
set_option maxRecDepth 100000 in
theorem tc_223 : lw_tbl[1858]? = some (Cond.code (sm_y 223) (sm_b 223) (cm_maxL 223) (sm_rt 223)) := rfl
set_option maxRecDepth 100000 in
theorem tc_224 : lw_tbl[1862]? = some (Cond.code (sm_y 224) (sm_b 224) (cm_maxL 224) (sm_rt 224)) := rfl
set_option maxRecDepth 100000 in
theorem tc_225 : lw_tbl[1866]? = some (Cond.code (sm_y 225) (sm_b 225) (cm_maxL 225) (sm_rt 225)) := rfl
set_option maxRecDepth 100000 in
theorem tc_226 : lw_tbl[1854]? = some (Cond.code (sm_y 226) (sm_b 226) (cm_maxL 226) (sm_rt 226)) := rfl
set_option maxRecDepth 100000 in
theorem tc_227 : lw_tbl[1874]? = some (Cond.code (sm_y 227) (sm_b 227) (cm_maxL 227) (sm_rt 227)) := rfl
set_option maxRecDepth 100000 in
theorem tc_228 : lw_tbl[1882]? = some (Cond.code (sm_y 228) (sm_b 228) (cm_maxL 228) (sm_rt 228)) := rfl
set_option maxRecDepth 100000 in
theorem tc_229 : lw_tbl[1878]? = some (Cond.code (sm_y 229) (sm_b 229) (cm_maxL 229) (sm_rt 229)) := rfl
set_option maxRecDepth 100000 in
theorem tc_230 : lw_tbl[1870]? = some (Cond.code (sm_y 230) (sm_b 230) (cm_maxL 230) (sm_rt 230)) := rfl
set_option maxRecDepth 100000 in
theorem tc_231 : lw_tbl[1886]? = some (Cond.code (sm_y 231) (sm_b 231) (cm_maxL 231) (sm_rt 231)) := rfl
set_option maxRecDepth 100000 in
theorem tc_232 : lw_tbl[1890]? = some (Cond.code (sm_y 232) (sm_b 232) (cm_maxL 232) (sm_rt 232)) := rfl
set_option maxRecDepth 100000 in
theorem tc_233 : lw_tbl[1894]? = some (Cond.code (sm_y 233) (sm_b 233) (cm_maxL 233) (sm_rt 233)) := rfl
set_option maxRecDepth 100000 in
theorem tc_234 : lw_tbl[1902]? = some (Cond.code (sm_y 234) (sm_b 234) (cm_maxL 234) (sm_rt 234)) := rfl
set_option maxRecDepth 100000 in
theorem tc_235 : lw_tbl[1906]? = some (Cond.code (sm_y 235) (sm_b 235) (cm_maxL 235) (sm_rt 235)) := rfl
set_option maxRecDepth 100000 in
theorem tc_236 : lw_tbl[1917]? = some (Cond.code (sm_y 236) (sm_b 236) (cm_maxL 236) (sm_rt 236)) := rfl
set_option maxRecDepth 100000 in
theorem tc_237 : lw_tbl[1898]? = some (Cond.code (sm_y 237) (sm_b 237) (cm_maxL 237) (sm_rt 237)) := rfl
set_option maxRecDepth 100000 in
theorem tc_238 : lw_tbl[1914]? = some (Cond.code (sm_y 238) (sm_b 238) (cm_maxL 238) (sm_rt 238)) := rfl
set_option maxRecDepth 100000 in
theorem tc_239 : lw_tbl[1910]? = some (Cond.code (sm_y 239) (sm_b 239) (cm_maxL 239) (sm_rt 239)) := rfl
set_option maxRecDepth 100000 in
theorem tc_240 : lw_tbl[1921]? = some (Cond.code (sm_y 240) (sm_b 240) (cm_maxL 240) (sm_rt 240)) := rfl
set_option maxRecDepth 100000 in
theorem tc_241 : lw_tbl[1925]? = some (Cond.code (sm_y 241) (sm_b 241) (cm_maxL 241) (sm_rt 241)) := rfl
set_option maxRecDepth 100000 in
theorem tc_242 : lw_tbl[645]? = some (Cond.code (sm_y 242) (sm_b 242) (cm_maxL 242) (sm_rt 242)) := rfl
set_option maxRecDepth 100000 in
theorem tc_243 : lw_tbl[683]? = some (Cond.code (sm_y 243) (sm_b 243) (cm_maxL 243) (sm_rt 243)) := rfl
set_option maxRecDepth 100000 in
theorem tc_244 : lw_tbl[642]? = some (Cond.code (sm_y 244) (sm_b 244) (cm_maxL 244) (sm_rt 244)) := rfl
theorem tk_code_0 : ∀ k, 0 ≤ k → k < 16 → Cond.code (sm_y k) (sm_b k) (cm_maxL k) (sm_rt k) ∈ tbG := by
  intro k h1 h2
  rcases Nat.lt_or_ge k 1 with h | h
  · have e : k = 0 := by omega
    subst e
    exact tb_in _ tc_0 rfl
  rcases Nat.lt_or_ge k 2 with h | h
  · have e : k = 1 := by omega
    subst e
    exact tb_in _ tc_1 rfl
  rcases Nat.lt_or_ge k 3 with h | h
  · have e : k = 2 := by omega
    subst e
    exact tb_in _ tc_2 rfl
  rcases Nat.lt_or_ge k 4 with h | h
  · have e : k = 3 := by omega
    subst e
    exact tb_in _ tc_3 rfl
  rcases Nat.lt_or_ge k 5 with h | h
  · have e : k = 4 := by omega
    subst e
    exact tb_in _ tc_4 rfl
  rcases Nat.lt_or_ge k 6 with h | h
  · have e : k = 5 := by omega
    subst e
    exact tb_in _ tc_5 rfl
  rcases Nat.lt_or_ge k 7 with h | h
  · have e : k = 6 := by omega
    subst e
    exact tb_in _ tc_6 rfl
  rcases Nat.lt_or_ge k 8 with h | h
  · have e : k = 7 := by omega
    subst e
    exact tb_in _ tc_7 rfl
  rcases Nat.lt_or_ge k 9 with h | h
  · have e : k = 8 := by omega
    subst e
    exact tb_in _ tc_8 rfl
  rcases Nat.lt_or_ge k 10 with h | h
  · have e : k = 9 := by omega
    subst e
    exact tb_in _ tc_9 rfl
  rcases Nat.lt_or_ge k 11 with h | h
  · have e : k = 10 := by omega
    subst e
    exact tb_in _ tc_10 rfl
  rcases Nat.lt_or_ge k 12 with h | h
  · have e : k = 11 := by omega
    subst e
    exact tb_in _ tc_11 rfl
  rcases Nat.lt_or_ge k 13 with h | h
  · have e : k = 12 := by omega
    subst e
    exact tb_in _ tc_12 rfl
  rcases Nat.lt_or_ge k 14 with h | h
  · have e : k = 13 := by omega
    subst e
    exact tb_in _ tc_13 rfl
  rcases Nat.lt_or_ge k 15 with h | h
  · have e : k = 14 := by omega
    subst e
    exact tb_in _ tc_14 rfl
  rcases Nat.lt_or_ge k 16 with h | h
  · have e : k = 15 := by omega
    subst e
    exact tb_in _ tc_15 rfl
  omega
theorem tk_code_16 : ∀ k, 16 ≤ k → k < 32 → Cond.code (sm_y k) (sm_b k) (cm_maxL k) (sm_rt k) ∈ tbG := by
  intro k h1 h2
  rcases Nat.lt_or_ge k 17 with h | h
  · have e : k = 16 := by omega
    subst e
    exact tb_in _ tc_16 rfl
  rcases Nat.lt_or_ge k 18 with h | h
  · have e : k = 17 := by omega
    subst e
    exact tb_in _ tc_17 rfl
  rcases Nat.lt_or_ge k 19 with h | h
  · have e : k = 18 := by omega
    subst e
    exact tb_in _ tc_18 rfl
  rcases Nat.lt_or_ge k 20 with h | h
  · have e : k = 19 := by omega
    subst e
    exact tb_in _ tc_19 rfl
  rcases Nat.lt_or_ge k 21 with h | h
  · have e : k = 20 := by omega
    subst e
    exact tb_in _ tc_20 rfl
  rcases Nat.lt_or_ge k 22 with h | h
  · have e : k = 21 := by omega
    subst e
    exact tb_in _ tc_21 rfl
  rcases Nat.lt_or_ge k 23 with h | h
  · have e : k = 22 := by omega
    subst e
    exact tb_in _ tc_22 rfl
  rcases Nat.lt_or_ge k 24 with h | h
  · have e : k = 23 := by omega
    subst e
    exact tb_in _ tc_23 rfl
  rcases Nat.lt_or_ge k 25 with h | h
  · have e : k = 24 := by omega
    subst e
    exact tb_in _ tc_24 rfl
  rcases Nat.lt_or_ge k 26 with h | h
  · have e : k = 25 := by omega
    subst e
    exact tb_in _ tc_25 rfl
  rcases Nat.lt_or_ge k 27 with h | h
  · have e : k = 26 := by omega
    subst e
    exact tb_in _ tc_26 rfl
  rcases Nat.lt_or_ge k 28 with h | h
  · have e : k = 27 := by omega
    subst e
    exact tb_in _ tc_27 rfl
  rcases Nat.lt_or_ge k 29 with h | h
  · have e : k = 28 := by omega
    subst e
    exact tb_in _ tc_28 rfl
  rcases Nat.lt_or_ge k 30 with h | h
  · have e : k = 29 := by omega
    subst e
    exact tb_in _ tc_29 rfl
  rcases Nat.lt_or_ge k 31 with h | h
  · have e : k = 30 := by omega
    subst e
    exact tb_in _ tc_30 rfl
  rcases Nat.lt_or_ge k 32 with h | h
  · have e : k = 31 := by omega
    subst e
    exact tb_in _ tc_31 rfl
  omega
theorem tk_code_32 : ∀ k, 32 ≤ k → k < 48 → Cond.code (sm_y k) (sm_b k) (cm_maxL k) (sm_rt k) ∈ tbG := by
  intro k h1 h2
  rcases Nat.lt_or_ge k 33 with h | h
  · have e : k = 32 := by omega
    subst e
    exact tb_in _ tc_32 rfl
  rcases Nat.lt_or_ge k 34 with h | h
  · have e : k = 33 := by omega
    subst e
    exact tb_in _ tc_33 rfl
  rcases Nat.lt_or_ge k 35 with h | h
  · have e : k = 34 := by omega
    subst e
    exact tb_in _ tc_34 rfl
  rcases Nat.lt_or_ge k 36 with h | h
  · have e : k = 35 := by omega
    subst e
    exact tb_in _ tc_35 rfl
  rcases Nat.lt_or_ge k 37 with h | h
  · have e : k = 36 := by omega
    subst e
    exact tb_in _ tc_36 rfl
  rcases Nat.lt_or_ge k 38 with h | h
  · have e : k = 37 := by omega
    subst e
    exact tb_in _ tc_37 rfl
  rcases Nat.lt_or_ge k 39 with h | h
  · have e : k = 38 := by omega
    subst e
    exact tb_in _ tc_38 rfl
  rcases Nat.lt_or_ge k 40 with h | h
  · have e : k = 39 := by omega
    subst e
    exact tb_in _ tc_39 rfl
  rcases Nat.lt_or_ge k 41 with h | h
  · have e : k = 40 := by omega
    subst e
    exact tb_in _ tc_40 rfl
  rcases Nat.lt_or_ge k 42 with h | h
  · have e : k = 41 := by omega
    subst e
    exact tb_in _ tc_41 rfl
  rcases Nat.lt_or_ge k 43 with h | h
  · have e : k = 42 := by omega
    subst e
    exact tb_in _ tc_42 rfl
  rcases Nat.lt_or_ge k 44 with h | h
  · have e : k = 43 := by omega
    subst e
    exact tb_in _ tc_43 rfl
  rcases Nat.lt_or_ge k 45 with h | h
  · have e : k = 44 := by omega
    subst e
    exact tb_in _ tc_44 rfl
  rcases Nat.lt_or_ge k 46 with h | h
  · have e : k = 45 := by omega
    subst e
    exact tb_in _ tc_45 rfl
  rcases Nat.lt_or_ge k 47 with h | h
  · have e : k = 46 := by omega
    subst e
    exact tb_in _ tc_46 rfl
  rcases Nat.lt_or_ge k 48 with h | h
  · have e : k = 47 := by omega
    subst e
    exact tb_in _ tc_47 rfl
  omega
theorem tk_code_48 : ∀ k, 48 ≤ k → k < 64 → Cond.code (sm_y k) (sm_b k) (cm_maxL k) (sm_rt k) ∈ tbG := by
  intro k h1 h2
  rcases Nat.lt_or_ge k 49 with h | h
  · have e : k = 48 := by omega
    subst e
    exact tb_in _ tc_48 rfl
  rcases Nat.lt_or_ge k 50 with h | h
  · have e : k = 49 := by omega
    subst e
    exact tb_in _ tc_49 rfl
  rcases Nat.lt_or_ge k 51 with h | h
  · have e : k = 50 := by omega
    subst e
    exact tb_in _ tc_50 rfl
  rcases Nat.lt_or_ge k 52 with h | h
  · have e : k = 51 := by omega
    subst e
    exact tb_in _ tc_51 rfl
  rcases Nat.lt_or_ge k 53 with h | h
  · have e : k = 52 := by omega
    subst e
    exact tb_in _ tc_52 rfl
  rcases Nat.lt_or_ge k 54 with h | h
  · have e : k = 53 := by omega
    subst e
    exact tb_in _ tc_53 rfl
  rcases Nat.lt_or_ge k 55 with h | h
  · have e : k = 54 := by omega
    subst e
    exact tb_in _ tc_54 rfl
  rcases Nat.lt_or_ge k 56 with h | h
  · have e : k = 55 := by omega
    subst e
    exact tb_in _ tc_55 rfl
  rcases Nat.lt_or_ge k 57 with h | h
  · have e : k = 56 := by omega
    subst e
    exact tb_in _ tc_56 rfl
  rcases Nat.lt_or_ge k 58 with h | h
  · have e : k = 57 := by omega
    subst e
    exact tb_in _ tc_57 rfl
  rcases Nat.lt_or_ge k 59 with h | h
  · have e : k = 58 := by omega
    subst e
    exact tb_in _ tc_58 rfl
  rcases Nat.lt_or_ge k 60 with h | h
  · have e : k = 59 := by omega
    subst e
    exact tb_in _ tc_59 rfl
  rcases Nat.lt_or_ge k 61 with h | h
  · have e : k = 60 := by omega
    subst e
    exact tb_in _ tc_60 rfl
  rcases Nat.lt_or_ge k 62 with h | h
  · have e : k = 61 := by omega
    subst e
    exact tb_in _ tc_61 rfl
  rcases Nat.lt_or_ge k 63 with h | h
  · have e : k = 62 := by omega
    subst e
    exact tb_in _ tc_62 rfl
  rcases Nat.lt_or_ge k 64 with h | h
  · have e : k = 63 := by omega
    subst e
    exact tb_in _ tc_63 rfl
  omega
theorem tk_code_64 : ∀ k, 64 ≤ k → k < 80 → Cond.code (sm_y k) (sm_b k) (cm_maxL k) (sm_rt k) ∈ tbG := by
  intro k h1 h2
  rcases Nat.lt_or_ge k 65 with h | h
  · have e : k = 64 := by omega
    subst e
    exact tb_in _ tc_64 rfl
  rcases Nat.lt_or_ge k 66 with h | h
  · have e : k = 65 := by omega
    subst e
    exact tb_in _ tc_65 rfl
  rcases Nat.lt_or_ge k 67 with h | h
  · have e : k = 66 := by omega
    subst e
    exact tb_in _ tc_66 rfl
  rcases Nat.lt_or_ge k 68 with h | h
  · have e : k = 67 := by omega
    subst e
    exact tb_in _ tc_67 rfl
  rcases Nat.lt_or_ge k 69 with h | h
  · have e : k = 68 := by omega
    subst e
    exact tb_in _ tc_68 rfl
  rcases Nat.lt_or_ge k 70 with h | h
  · have e : k = 69 := by omega
    subst e
    exact tb_in _ tc_69 rfl
  rcases Nat.lt_or_ge k 71 with h | h
  · have e : k = 70 := by omega
    subst e
    exact tb_in _ tc_70 rfl
  rcases Nat.lt_or_ge k 72 with h | h
  · have e : k = 71 := by omega
    subst e
    exact tb_in _ tc_71 rfl
  rcases Nat.lt_or_ge k 73 with h | h
  · have e : k = 72 := by omega
    subst e
    exact tb_in _ tc_72 rfl
  rcases Nat.lt_or_ge k 74 with h | h
  · have e : k = 73 := by omega
    subst e
    exact tb_in _ tc_73 rfl
  rcases Nat.lt_or_ge k 75 with h | h
  · have e : k = 74 := by omega
    subst e
    exact tb_in _ tc_74 rfl
  rcases Nat.lt_or_ge k 76 with h | h
  · have e : k = 75 := by omega
    subst e
    exact tb_in _ tc_75 rfl
  rcases Nat.lt_or_ge k 77 with h | h
  · have e : k = 76 := by omega
    subst e
    exact tb_in _ tc_76 rfl
  rcases Nat.lt_or_ge k 78 with h | h
  · have e : k = 77 := by omega
    subst e
    exact tb_in _ tc_77 rfl
  rcases Nat.lt_or_ge k 79 with h | h
  · have e : k = 78 := by omega
    subst e
    exact tb_in _ tc_78 rfl
  rcases Nat.lt_or_ge k 80 with h | h
  · have e : k = 79 := by omega
    subst e
    exact tb_in _ tc_79 rfl
  omega
theorem tk_code_80 : ∀ k, 80 ≤ k → k < 96 → Cond.code (sm_y k) (sm_b k) (cm_maxL k) (sm_rt k) ∈ tbG := by
  intro k h1 h2
  rcases Nat.lt_or_ge k 81 with h | h
  · have e : k = 80 := by omega
    subst e
    exact tb_in _ tc_80 rfl
  rcases Nat.lt_or_ge k 82 with h | h
  · have e : k = 81 := by omega
    subst e
    exact tb_in _ tc_81 rfl
  rcases Nat.lt_or_ge k 83 with h | h
  · have e : k = 82 := by omega
    subst e
    exact tb_in _ tc_82 rfl
  rcases Nat.lt_or_ge k 84 with h | h
  · have e : k = 83 := by omega
    subst e
    exact tb_in _ tc_83 rfl
  rcases Nat.lt_or_ge k 85 with h | h
  · have e : k = 84 := by omega
    subst e
    exact tb_in _ tc_84 rfl
  rcases Nat.lt_or_ge k 86 with h | h
  · have e : k = 85 := by omega
    subst e
    exact tb_in _ tc_85 rfl
  rcases Nat.lt_or_ge k 87 with h | h
  · have e : k = 86 := by omega
    subst e
    exact tb_in _ tc_86 rfl
  rcases Nat.lt_or_ge k 88 with h | h
  · have e : k = 87 := by omega
    subst e
    exact tb_in _ tc_87 rfl
  rcases Nat.lt_or_ge k 89 with h | h
  · have e : k = 88 := by omega
    subst e
    exact tb_in _ tc_88 rfl
  rcases Nat.lt_or_ge k 90 with h | h
  · have e : k = 89 := by omega
    subst e
    exact tb_in _ tc_89 rfl
  rcases Nat.lt_or_ge k 91 with h | h
  · have e : k = 90 := by omega
    subst e
    exact tb_in _ tc_90 rfl
  rcases Nat.lt_or_ge k 92 with h | h
  · have e : k = 91 := by omega
    subst e
    exact tb_in _ tc_91 rfl
  rcases Nat.lt_or_ge k 93 with h | h
  · have e : k = 92 := by omega
    subst e
    exact tb_in _ tc_92 rfl
  rcases Nat.lt_or_ge k 94 with h | h
  · have e : k = 93 := by omega
    subst e
    exact tb_in _ tc_93 rfl
  rcases Nat.lt_or_ge k 95 with h | h
  · have e : k = 94 := by omega
    subst e
    exact tb_in _ tc_94 rfl
  rcases Nat.lt_or_ge k 96 with h | h
  · have e : k = 95 := by omega
    subst e
    exact tb_in _ tc_95 rfl
  omega
theorem tk_code_96 : ∀ k, 96 ≤ k → k < 112 → Cond.code (sm_y k) (sm_b k) (cm_maxL k) (sm_rt k) ∈ tbG := by
  intro k h1 h2
  rcases Nat.lt_or_ge k 97 with h | h
  · have e : k = 96 := by omega
    subst e
    exact tb_in _ tc_96 rfl
  rcases Nat.lt_or_ge k 98 with h | h
  · have e : k = 97 := by omega
    subst e
    exact tb_in _ tc_97 rfl
  rcases Nat.lt_or_ge k 99 with h | h
  · have e : k = 98 := by omega
    subst e
    exact tb_in _ tc_98 rfl
  rcases Nat.lt_or_ge k 100 with h | h
  · have e : k = 99 := by omega
    subst e
    exact tb_in _ tc_99 rfl
  rcases Nat.lt_or_ge k 101 with h | h
  · have e : k = 100 := by omega
    subst e
    exact tb_in _ tc_100 rfl
  rcases Nat.lt_or_ge k 102 with h | h
  · have e : k = 101 := by omega
    subst e
    exact tb_in _ tc_101 rfl
  rcases Nat.lt_or_ge k 103 with h | h
  · have e : k = 102 := by omega
    subst e
    exact tb_in _ tc_102 rfl
  rcases Nat.lt_or_ge k 104 with h | h
  · have e : k = 103 := by omega
    subst e
    exact tb_in _ tc_103 rfl
  rcases Nat.lt_or_ge k 105 with h | h
  · have e : k = 104 := by omega
    subst e
    exact tb_in _ tc_104 rfl
  rcases Nat.lt_or_ge k 106 with h | h
  · have e : k = 105 := by omega
    subst e
    exact tb_in _ tc_105 rfl
  rcases Nat.lt_or_ge k 107 with h | h
  · have e : k = 106 := by omega
    subst e
    exact tb_in _ tc_106 rfl
  rcases Nat.lt_or_ge k 108 with h | h
  · have e : k = 107 := by omega
    subst e
    exact tb_in _ tc_107 rfl
  rcases Nat.lt_or_ge k 109 with h | h
  · have e : k = 108 := by omega
    subst e
    exact tb_in _ tc_108 rfl
  rcases Nat.lt_or_ge k 110 with h | h
  · have e : k = 109 := by omega
    subst e
    exact tb_in _ tc_109 rfl
  rcases Nat.lt_or_ge k 111 with h | h
  · have e : k = 110 := by omega
    subst e
    exact tb_in _ tc_110 rfl
  rcases Nat.lt_or_ge k 112 with h | h
  · have e : k = 111 := by omega
    subst e
    exact tb_in _ tc_111 rfl
  omega
theorem tk_code_112 : ∀ k, 112 ≤ k → k < 128 → Cond.code (sm_y k) (sm_b k) (cm_maxL k) (sm_rt k) ∈ tbG := by
  intro k h1 h2
  rcases Nat.lt_or_ge k 113 with h | h
  · have e : k = 112 := by omega
    subst e
    exact tb_in _ tc_112 rfl
  rcases Nat.lt_or_ge k 114 with h | h
  · have e : k = 113 := by omega
    subst e
    exact tb_in _ tc_113 rfl
  rcases Nat.lt_or_ge k 115 with h | h
  · have e : k = 114 := by omega
    subst e
    exact tb_in _ tc_114 rfl
  rcases Nat.lt_or_ge k 116 with h | h
  · have e : k = 115 := by omega
    subst e
    exact tb_in _ tc_115 rfl
  rcases Nat.lt_or_ge k 117 with h | h
  · have e : k = 116 := by omega
    subst e
    exact tb_in _ tc_116 rfl
  rcases Nat.lt_or_ge k 118 with h | h
  · have e : k = 117 := by omega
    subst e
    exact tb_in _ tc_117 rfl
  rcases Nat.lt_or_ge k 119 with h | h
  · have e : k = 118 := by omega
    subst e
    exact tb_in _ tc_118 rfl
  rcases Nat.lt_or_ge k 120 with h | h
  · have e : k = 119 := by omega
    subst e
    exact tb_in _ tc_119 rfl
  rcases Nat.lt_or_ge k 121 with h | h
  · have e : k = 120 := by omega
    subst e
    exact tb_in _ tc_120 rfl
  rcases Nat.lt_or_ge k 122 with h | h
  · have e : k = 121 := by omega
    subst e
    exact tb_in _ tc_121 rfl
  rcases Nat.lt_or_ge k 123 with h | h
  · have e : k = 122 := by omega
    subst e
    exact tb_in _ tc_122 rfl
  rcases Nat.lt_or_ge k 124 with h | h
  · have e : k = 123 := by omega
    subst e
    exact tb_in _ tc_123 rfl
  rcases Nat.lt_or_ge k 125 with h | h
  · have e : k = 124 := by omega
    subst e
    exact tb_in _ tc_124 rfl
  rcases Nat.lt_or_ge k 126 with h | h
  · have e : k = 125 := by omega
    subst e
    exact tb_in _ tc_125 rfl
  rcases Nat.lt_or_ge k 127 with h | h
  · have e : k = 126 := by omega
    subst e
    exact tb_in _ tc_126 rfl
  rcases Nat.lt_or_ge k 128 with h | h
  · have e : k = 127 := by omega
    subst e
    exact tb_in _ tc_127 rfl
  omega
theorem tk_code_128 : ∀ k, 128 ≤ k → k < 144 → Cond.code (sm_y k) (sm_b k) (cm_maxL k) (sm_rt k) ∈ tbG := by
  intro k h1 h2
  rcases Nat.lt_or_ge k 129 with h | h
  · have e : k = 128 := by omega
    subst e
    exact tb_in _ tc_128 rfl
  rcases Nat.lt_or_ge k 130 with h | h
  · have e : k = 129 := by omega
    subst e
    exact tb_in _ tc_129 rfl
  rcases Nat.lt_or_ge k 131 with h | h
  · have e : k = 130 := by omega
    subst e
    exact tb_in _ tc_130 rfl
  rcases Nat.lt_or_ge k 132 with h | h
  · have e : k = 131 := by omega
    subst e
    exact tb_in _ tc_131 rfl
  rcases Nat.lt_or_ge k 133 with h | h
  · have e : k = 132 := by omega
    subst e
    exact tb_in _ tc_132 rfl
  rcases Nat.lt_or_ge k 134 with h | h
  · have e : k = 133 := by omega
    subst e
    exact tb_in _ tc_133 rfl
  rcases Nat.lt_or_ge k 135 with h | h
  · have e : k = 134 := by omega
    subst e
    exact tb_in _ tc_134 rfl
  rcases Nat.lt_or_ge k 136 with h | h
  · have e : k = 135 := by omega
    subst e
    exact tb_in _ tc_135 rfl
  rcases Nat.lt_or_ge k 137 with h | h
  · have e : k = 136 := by omega
    subst e
    exact tb_in _ tc_136 rfl
  rcases Nat.lt_or_ge k 138 with h | h
  · have e : k = 137 := by omega
    subst e
    exact tb_in _ tc_137 rfl
  rcases Nat.lt_or_ge k 139 with h | h
  · have e : k = 138 := by omega
    subst e
    exact tb_in _ tc_138 rfl
  rcases Nat.lt_or_ge k 140 with h | h
  · have e : k = 139 := by omega
    subst e
    exact tb_in _ tc_139 rfl
  rcases Nat.lt_or_ge k 141 with h | h
  · have e : k = 140 := by omega
    subst e
    exact tb_in _ tc_140 rfl
  rcases Nat.lt_or_ge k 142 with h | h
  · have e : k = 141 := by omega
    subst e
    exact tb_in _ tc_141 rfl
  rcases Nat.lt_or_ge k 143 with h | h
  · have e : k = 142 := by omega
    subst e
    exact tb_in _ tc_142 rfl
  rcases Nat.lt_or_ge k 144 with h | h
  · have e : k = 143 := by omega
    subst e
    exact tb_in _ tc_143 rfl
  omega
theorem tk_code_144 : ∀ k, 144 ≤ k → k < 160 → Cond.code (sm_y k) (sm_b k) (cm_maxL k) (sm_rt k) ∈ tbG := by
  intro k h1 h2
  rcases Nat.lt_or_ge k 145 with h | h
  · have e : k = 144 := by omega
    subst e
    exact tb_in _ tc_144 rfl
  rcases Nat.lt_or_ge k 146 with h | h
  · have e : k = 145 := by omega
    subst e
    exact tb_in _ tc_145 rfl
  rcases Nat.lt_or_ge k 147 with h | h
  · have e : k = 146 := by omega
    subst e
    exact tb_in _ tc_146 rfl
  rcases Nat.lt_or_ge k 148 with h | h
  · have e : k = 147 := by omega
    subst e
    exact tb_in _ tc_147 rfl
  rcases Nat.lt_or_ge k 149 with h | h
  · have e : k = 148 := by omega
    subst e
    exact tb_in _ tc_148 rfl
  rcases Nat.lt_or_ge k 150 with h | h
  · have e : k = 149 := by omega
    subst e
    exact tb_in _ tc_149 rfl
  rcases Nat.lt_or_ge k 151 with h | h
  · have e : k = 150 := by omega
    subst e
    exact tb_in _ tc_150 rfl
  rcases Nat.lt_or_ge k 152 with h | h
  · have e : k = 151 := by omega
    subst e
    exact tb_in _ tc_151 rfl
  rcases Nat.lt_or_ge k 153 with h | h
  · have e : k = 152 := by omega
    subst e
    exact tb_in _ tc_152 rfl
  rcases Nat.lt_or_ge k 154 with h | h
  · have e : k = 153 := by omega
    subst e
    exact tb_in _ tc_153 rfl
  rcases Nat.lt_or_ge k 155 with h | h
  · have e : k = 154 := by omega
    subst e
    exact tb_in _ tc_154 rfl
  rcases Nat.lt_or_ge k 156 with h | h
  · have e : k = 155 := by omega
    subst e
    exact tb_in _ tc_155 rfl
  rcases Nat.lt_or_ge k 157 with h | h
  · have e : k = 156 := by omega
    subst e
    exact tb_in _ tc_156 rfl
  rcases Nat.lt_or_ge k 158 with h | h
  · have e : k = 157 := by omega
    subst e
    exact tb_in _ tc_157 rfl
  rcases Nat.lt_or_ge k 159 with h | h
  · have e : k = 158 := by omega
    subst e
    exact tb_in _ tc_158 rfl
  rcases Nat.lt_or_ge k 160 with h | h
  · have e : k = 159 := by omega
    subst e
    exact tb_in _ tc_159 rfl
  omega
theorem tk_code_160 : ∀ k, 160 ≤ k → k < 176 → Cond.code (sm_y k) (sm_b k) (cm_maxL k) (sm_rt k) ∈ tbG := by
  intro k h1 h2
  rcases Nat.lt_or_ge k 161 with h | h
  · have e : k = 160 := by omega
    subst e
    exact tb_in _ tc_160 rfl
  rcases Nat.lt_or_ge k 162 with h | h
  · have e : k = 161 := by omega
    subst e
    exact tb_in _ tc_161 rfl
  rcases Nat.lt_or_ge k 163 with h | h
  · have e : k = 162 := by omega
    subst e
    exact tb_in _ tc_162 rfl
  rcases Nat.lt_or_ge k 164 with h | h
  · have e : k = 163 := by omega
    subst e
    exact tb_in _ tc_163 rfl
  rcases Nat.lt_or_ge k 165 with h | h
  · have e : k = 164 := by omega
    subst e
    exact tb_in _ tc_164 rfl
  rcases Nat.lt_or_ge k 166 with h | h
  · have e : k = 165 := by omega
    subst e
    exact tb_in _ tc_165 rfl
  rcases Nat.lt_or_ge k 167 with h | h
  · have e : k = 166 := by omega
    subst e
    exact tb_in _ tc_166 rfl
  rcases Nat.lt_or_ge k 168 with h | h
  · have e : k = 167 := by omega
    subst e
    exact tb_in _ tc_167 rfl
  rcases Nat.lt_or_ge k 169 with h | h
  · have e : k = 168 := by omega
    subst e
    exact tb_in _ tc_168 rfl
  rcases Nat.lt_or_ge k 170 with h | h
  · have e : k = 169 := by omega
    subst e
    exact tb_in _ tc_169 rfl
  rcases Nat.lt_or_ge k 171 with h | h
  · have e : k = 170 := by omega
    subst e
    exact tb_in _ tc_170 rfl
  rcases Nat.lt_or_ge k 172 with h | h
  · have e : k = 171 := by omega
    subst e
    exact tb_in _ tc_171 rfl
  rcases Nat.lt_or_ge k 173 with h | h
  · have e : k = 172 := by omega
    subst e
    exact tb_in _ tc_172 rfl
  rcases Nat.lt_or_ge k 174 with h | h
  · have e : k = 173 := by omega
    subst e
    exact tb_in _ tc_173 rfl
  rcases Nat.lt_or_ge k 175 with h | h
  · have e : k = 174 := by omega
    subst e
    exact tb_in _ tc_174 rfl
  rcases Nat.lt_or_ge k 176 with h | h
  · have e : k = 175 := by omega
    subst e
    exact tb_in _ tc_175 rfl
  omega
theorem tk_code_176 : ∀ k, 176 ≤ k → k < 192 → Cond.code (sm_y k) (sm_b k) (cm_maxL k) (sm_rt k) ∈ tbG := by
  intro k h1 h2
  rcases Nat.lt_or_ge k 177 with h | h
  · have e : k = 176 := by omega
    subst e
    exact tb_in _ tc_176 rfl
  rcases Nat.lt_or_ge k 178 with h | h
  · have e : k = 177 := by omega
    subst e
    exact tb_in _ tc_177 rfl
  rcases Nat.lt_or_ge k 179 with h | h
  · have e : k = 178 := by omega
    subst e
    exact tb_in _ tc_178 rfl
  rcases Nat.lt_or_ge k 180 with h | h
  · have e : k = 179 := by omega
    subst e
    exact tb_in _ tc_179 rfl
  rcases Nat.lt_or_ge k 181 with h | h
  · have e : k = 180 := by omega
    subst e
    exact tb_in _ tc_180 rfl
  rcases Nat.lt_or_ge k 182 with h | h
  · have e : k = 181 := by omega
    subst e
    exact tb_in _ tc_181 rfl
  rcases Nat.lt_or_ge k 183 with h | h
  · have e : k = 182 := by omega
    subst e
    exact tb_in _ tc_182 rfl
  rcases Nat.lt_or_ge k 184 with h | h
  · have e : k = 183 := by omega
    subst e
    exact tb_in _ tc_183 rfl
  rcases Nat.lt_or_ge k 185 with h | h
  · have e : k = 184 := by omega
    subst e
    exact tb_in _ tc_184 rfl
  rcases Nat.lt_or_ge k 186 with h | h
  · have e : k = 185 := by omega
    subst e
    exact tb_in _ tc_185 rfl
  rcases Nat.lt_or_ge k 187 with h | h
  · have e : k = 186 := by omega
    subst e
    exact tb_in _ tc_186 rfl
  rcases Nat.lt_or_ge k 188 with h | h
  · have e : k = 187 := by omega
    subst e
    exact tb_in _ tc_187 rfl
  rcases Nat.lt_or_ge k 189 with h | h
  · have e : k = 188 := by omega
    subst e
    exact tb_in _ tc_188 rfl
  rcases Nat.lt_or_ge k 190 with h | h
  · have e : k = 189 := by omega
    subst e
    exact tb_in _ tc_189 rfl
  rcases Nat.lt_or_ge k 191 with h | h
  · have e : k = 190 := by omega
    subst e
    exact tb_in _ tc_190 rfl
  rcases Nat.lt_or_ge k 192 with h | h
  · have e : k = 191 := by omega
    subst e
    exact tb_in _ tc_191 rfl
  omega
theorem tk_code_192 : ∀ k, 192 ≤ k → k < 208 → Cond.code (sm_y k) (sm_b k) (cm_maxL k) (sm_rt k) ∈ tbG := by
  intro k h1 h2
  rcases Nat.lt_or_ge k 193 with h | h
  · have e : k = 192 := by omega
    subst e
    exact tb_in _ tc_192 rfl
  rcases Nat.lt_or_ge k 194 with h | h
  · have e : k = 193 := by omega
    subst e
    exact tb_in _ tc_193 rfl
  rcases Nat.lt_or_ge k 195 with h | h
  · have e : k = 194 := by omega
    subst e
    exact tb_in _ tc_194 rfl
  rcases Nat.lt_or_ge k 196 with h | h
  · have e : k = 195 := by omega
    subst e
    exact tb_in _ tc_195 rfl
  rcases Nat.lt_or_ge k 197 with h | h
  · have e : k = 196 := by omega
    subst e
    exact tb_in _ tc_196 rfl
  rcases Nat.lt_or_ge k 198 with h | h
  · have e : k = 197 := by omega
    subst e
    exact tb_in _ tc_197 rfl
  rcases Nat.lt_or_ge k 199 with h | h
  · have e : k = 198 := by omega
    subst e
    exact tb_in _ tc_198 rfl
  rcases Nat.lt_or_ge k 200 with h | h
  · have e : k = 199 := by omega
    subst e
    exact tb_in _ tc_199 rfl
  rcases Nat.lt_or_ge k 201 with h | h
  · have e : k = 200 := by omega
    subst e
    exact tb_in _ tc_200 rfl
  rcases Nat.lt_or_ge k 202 with h | h
  · have e : k = 201 := by omega
    subst e
    exact tb_in _ tc_201 rfl
  rcases Nat.lt_or_ge k 203 with h | h
  · have e : k = 202 := by omega
    subst e
    exact tb_in _ tc_202 rfl
  rcases Nat.lt_or_ge k 204 with h | h
  · have e : k = 203 := by omega
    subst e
    exact tb_in _ tc_203 rfl
  rcases Nat.lt_or_ge k 205 with h | h
  · have e : k = 204 := by omega
    subst e
    exact tb_in _ tc_204 rfl
  rcases Nat.lt_or_ge k 206 with h | h
  · have e : k = 205 := by omega
    subst e
    exact tb_in _ tc_205 rfl
  rcases Nat.lt_or_ge k 207 with h | h
  · have e : k = 206 := by omega
    subst e
    exact tb_in _ tc_206 rfl
  rcases Nat.lt_or_ge k 208 with h | h
  · have e : k = 207 := by omega
    subst e
    exact tb_in _ tc_207 rfl
  omega
theorem tk_code_208 : ∀ k, 208 ≤ k → k < 224 → Cond.code (sm_y k) (sm_b k) (cm_maxL k) (sm_rt k) ∈ tbG := by
  intro k h1 h2
  rcases Nat.lt_or_ge k 209 with h | h
  · have e : k = 208 := by omega
    subst e
    exact tb_in _ tc_208 rfl
  rcases Nat.lt_or_ge k 210 with h | h
  · have e : k = 209 := by omega
    subst e
    exact tb_in _ tc_209 rfl
  rcases Nat.lt_or_ge k 211 with h | h
  · have e : k = 210 := by omega
    subst e
    exact tb_in _ tc_210 rfl
  rcases Nat.lt_or_ge k 212 with h | h
  · have e : k = 211 := by omega
    subst e
    exact tb_in _ tc_211 rfl
  rcases Nat.lt_or_ge k 213 with h | h
  · have e : k = 212 := by omega
    subst e
    exact tb_in _ tc_212 rfl
  rcases Nat.lt_or_ge k 214 with h | h
  · have e : k = 213 := by omega
    subst e
    exact tb_in _ tc_213 rfl
  rcases Nat.lt_or_ge k 215 with h | h
  · have e : k = 214 := by omega
    subst e
    exact tb_in _ tc_214 rfl
  rcases Nat.lt_or_ge k 216 with h | h
  · have e : k = 215 := by omega
    subst e
    exact tb_in _ tc_215 rfl
  rcases Nat.lt_or_ge k 217 with h | h
  · have e : k = 216 := by omega
    subst e
    exact tb_in _ tc_216 rfl
  rcases Nat.lt_or_ge k 218 with h | h
  · have e : k = 217 := by omega
    subst e
    exact tb_in _ tc_217 rfl
  rcases Nat.lt_or_ge k 219 with h | h
  · have e : k = 218 := by omega
    subst e
    exact tb_in _ tc_218 rfl
  rcases Nat.lt_or_ge k 220 with h | h
  · have e : k = 219 := by omega
    subst e
    exact tb_in _ tc_219 rfl
  rcases Nat.lt_or_ge k 221 with h | h
  · have e : k = 220 := by omega
    subst e
    exact tb_in _ tc_220 rfl
  rcases Nat.lt_or_ge k 222 with h | h
  · have e : k = 221 := by omega
    subst e
    exact tb_in _ tc_221 rfl
  rcases Nat.lt_or_ge k 223 with h | h
  · have e : k = 222 := by omega
    subst e
    exact tb_in _ tc_222 rfl
  rcases Nat.lt_or_ge k 224 with h | h
  · have e : k = 223 := by omega
    subst e
    exact tb_in _ tc_223 rfl
  omega
theorem tk_code_224 : ∀ k, 224 ≤ k → k < 240 → Cond.code (sm_y k) (sm_b k) (cm_maxL k) (sm_rt k) ∈ tbG := by
  intro k h1 h2
  rcases Nat.lt_or_ge k 225 with h | h
  · have e : k = 224 := by omega
    subst e
    exact tb_in _ tc_224 rfl
  rcases Nat.lt_or_ge k 226 with h | h
  · have e : k = 225 := by omega
    subst e
    exact tb_in _ tc_225 rfl
  rcases Nat.lt_or_ge k 227 with h | h
  · have e : k = 226 := by omega
    subst e
    exact tb_in _ tc_226 rfl
  rcases Nat.lt_or_ge k 228 with h | h
  · have e : k = 227 := by omega
    subst e
    exact tb_in _ tc_227 rfl
  rcases Nat.lt_or_ge k 229 with h | h
  · have e : k = 228 := by omega
    subst e
    exact tb_in _ tc_228 rfl
  rcases Nat.lt_or_ge k 230 with h | h
  · have e : k = 229 := by omega
    subst e
    exact tb_in _ tc_229 rfl
  rcases Nat.lt_or_ge k 231 with h | h
  · have e : k = 230 := by omega
    subst e
    exact tb_in _ tc_230 rfl
  rcases Nat.lt_or_ge k 232 with h | h
  · have e : k = 231 := by omega
    subst e
    exact tb_in _ tc_231 rfl
  rcases Nat.lt_or_ge k 233 with h | h
  · have e : k = 232 := by omega
    subst e
    exact tb_in _ tc_232 rfl
  rcases Nat.lt_or_ge k 234 with h | h
  · have e : k = 233 := by omega
    subst e
    exact tb_in _ tc_233 rfl
  rcases Nat.lt_or_ge k 235 with h | h
  · have e : k = 234 := by omega
    subst e
    exact tb_in _ tc_234 rfl
  rcases Nat.lt_or_ge k 236 with h | h
  · have e : k = 235 := by omega
    subst e
    exact tb_in _ tc_235 rfl
  rcases Nat.lt_or_ge k 237 with h | h
  · have e : k = 236 := by omega
    subst e
    exact tb_in _ tc_236 rfl
  rcases Nat.lt_or_ge k 238 with h | h
  · have e : k = 237 := by omega
    subst e
    exact tb_in _ tc_237 rfl
  rcases Nat.lt_or_ge k 239 with h | h
  · have e : k = 238 := by omega
    subst e
    exact tb_in _ tc_238 rfl
  rcases Nat.lt_or_ge k 240 with h | h
  · have e : k = 239 := by omega
    subst e
    exact tb_in _ tc_239 rfl
  omega
theorem tk_code_240 : ∀ k, 240 ≤ k → k < 245 → Cond.code (sm_y k) (sm_b k) (cm_maxL k) (sm_rt k) ∈ tbG := by
  intro k h1 h2
  rcases Nat.lt_or_ge k 241 with h | h
  · have e : k = 240 := by omega
    subst e
    exact tb_in _ tc_240 rfl
  rcases Nat.lt_or_ge k 242 with h | h
  · have e : k = 241 := by omega
    subst e
    exact tb_in _ tc_241 rfl
  rcases Nat.lt_or_ge k 243 with h | h
  · have e : k = 242 := by omega
    subst e
    exact tb_in _ tc_242 rfl
  rcases Nat.lt_or_ge k 244 with h | h
  · have e : k = 243 := by omega
    subst e
    exact tb_in _ tc_243 rfl
  rcases Nat.lt_or_ge k 245 with h | h
  · have e : k = 244 := by omega
    subst e
    exact tb_in _ tc_244 rfl
  omega
theorem tk_code {k : Nat} (hk : k < 245) : Cond.code (sm_y k) (sm_b k) (cm_maxL k) (sm_rt k) ∈ tbG := by
  rcases Nat.lt_or_ge k 16 with h | h
  · exact tk_code_0 k (by omega) h
  rcases Nat.lt_or_ge k 32 with h | h
  · exact tk_code_16 k (by omega) h
  rcases Nat.lt_or_ge k 48 with h | h
  · exact tk_code_32 k (by omega) h
  rcases Nat.lt_or_ge k 64 with h | h
  · exact tk_code_48 k (by omega) h
  rcases Nat.lt_or_ge k 80 with h | h
  · exact tk_code_64 k (by omega) h
  rcases Nat.lt_or_ge k 96 with h | h
  · exact tk_code_80 k (by omega) h
  rcases Nat.lt_or_ge k 112 with h | h
  · exact tk_code_96 k (by omega) h
  rcases Nat.lt_or_ge k 128 with h | h
  · exact tk_code_112 k (by omega) h
  rcases Nat.lt_or_ge k 144 with h | h
  · exact tk_code_128 k (by omega) h
  rcases Nat.lt_or_ge k 160 with h | h
  · exact tk_code_144 k (by omega) h
  rcases Nat.lt_or_ge k 176 with h | h
  · exact tk_code_160 k (by omega) h
  rcases Nat.lt_or_ge k 192 with h | h
  · exact tk_code_176 k (by omega) h
  rcases Nat.lt_or_ge k 208 with h | h
  · exact tk_code_192 k (by omega) h
  rcases Nat.lt_or_ge k 224 with h | h
  · exact tk_code_208 k (by omega) h
  rcases Nat.lt_or_ge k 240 with h | h
  · exact tk_code_224 k (by omega) h
  rcases Nat.lt_or_ge k 245 with h | h
  · exact tk_code_240 k (by omega) h
  omega
set_option maxRecDepth 100000 in
theorem tk_sta_b : (List.range 245).all (fun k => !(sm_sta k) || (decide (lw_tbl[sm_pi k]? = some (Cond.static (sm_y k))) && goodWord (Cond.static (sm_y k)))) = true := by decide +kernel
theorem tk_sta {k : Nat} (hk : k < 245) (hg : sm_sta k = true) : Cond.static (sm_y k) ∈ tbG := by
  have h := List.all_eq_true.mp tk_sta_b k (List.mem_range.mpr hk)
  simp only [hg, Bool.not_true, Bool.not_false, Bool.and_self, Bool.false_or, Bool.and_eq_true, decide_eq_true_eq] at h
  exact tb_in _ h.1 h.2
set_option maxRecDepth 100000 in
theorem tk_ins_b : (List.range 245).all (fun k => !(!sm_sta k) || (decide (lw_tbl[sm_pi k]? = some (Cond.instanceMethod (sm_y k))) && goodWord (Cond.instanceMethod (sm_y k)))) = true := by decide +kernel
theorem tk_ins {k : Nat} (hk : k < 245) (hg : sm_sta k = false) : Cond.instanceMethod (sm_y k) ∈ tbG := by
  have h := List.all_eq_true.mp tk_ins_b k (List.mem_range.mpr hk)
  simp only [hg, Bool.not_true, Bool.not_false, Bool.and_self, Bool.false_or, Bool.and_eq_true, decide_eq_true_eq] at h
  exact tb_in _ h.1 h.2
set_option maxRecDepth 100000 in
theorem tk_sel_b : (List.range 245).all (fun k => !((!sm_sta k && !sm_isI k)) || (decide (lw_tbl[sm_ps k]? = some (Cond.selects (sm_y k).cls (sm_y k) (sm_y k))) && goodWord (Cond.selects (sm_y k).cls (sm_y k) (sm_y k)))) = true := by decide +kernel
theorem tk_sel {k : Nat} (hk : k < 245) (hg : sm_sta k = false) (hi : sm_isI k = false) : Cond.selects (sm_y k).cls (sm_y k) (sm_y k) ∈ tbG := by
  have h := List.all_eq_true.mp tk_sel_b k (List.mem_range.mpr hk)
  simp only [hg, hi, Bool.not_true, Bool.not_false, Bool.and_self, Bool.false_or, Bool.and_eq_true, decide_eq_true_eq] at h
  exact tb_in _ h.1 h.2
set_option maxRecDepth 100000 in
theorem tk_x_b : (List.range 14).all (fun c => decide (lw_tbl[sm_px c]? = some (Cond.initialized (sm_cn c))) && goodWord (Cond.initialized (sm_cn c))) = true := by decide +kernel
theorem tk_x {c : Nat} (hc : c < 14) : Cond.initialized (sm_cn c) ∈ tbG := by
  have h := List.all_eq_true.mp tk_x_b c (List.mem_range.mpr hc)
  simp only [Bool.and_eq_true, decide_eq_true_eq] at h
  exact tb_in _ h.1 h.2
set_option maxRecDepth 100000 in
theorem tk_m_b : (List.range 245).all (fun k => decide ((sm_y k).cls = sm_cn (sm_ow k)) && decide (sm_ow k < 14) && plainName (sm_y k).cls && decide ((sm_y k).cls ≠ "java/lang/invoke/MethodHandle") && decide ((sm_y k).cls ≠ "java/lang/invoke/VarHandle") && decide ((parseMethodDescriptor (sm_y k).desc).map (fun d => d.parameters.length) = some (sm_na k)) && decide (sm_isI k = true ↔ (sm_y k).name = "<init>") && decide (cm_maxL k ≤ 14)) = true := by decide +kernel
set_option maxRecDepth 100000 in
theorem tk_f0 : ∀ w ∈ u_ws RX0 TX0 9, w ∈ tbG := by
  have h : ((List.range 9).zip [496, 498, 500, 502, 504, 506, 508, 510, 512]).all (fun q => decide (lw_tbl[q.2]? = some (u_lay RX0 TX0 q.1)) && goodWord (u_lay RX0 TX0 q.1)) = true := by decide +kernel
  intro w hw
  obtain ⟨j, hj, rfl⟩ := List.mem_map.mp hw
  obtain ⟨p, hp⟩ : ∃ p, (j, p) ∈ (List.range 9).zip [496, 498, 500, 502, 504, 506, 508, 510, 512] := by
    have hl : ((List.range 9).zip [496, 498, 500, 502, 504, 506, 508, 510, 512])[j]? = some (j, [496, 498, 500, 502, 504, 506, 508, 510, 512].getD j 0) := by
      have hj2 := List.mem_range.mp hj
      have : ∀ j, j < 9 → ((List.range 9).zip [496, 498, 500, 502, 504, 506, 508, 510, 512])[j]? = some (j, [496, 498, 500, 502, 504, 506, 508, 510, 512].getD j 0) := by decide +kernel
      exact this j hj2
    exact ⟨_, List.mem_of_getElem? hl⟩
  have h2 := List.all_eq_true.mp h _ hp
  simp only [Bool.and_eq_true, decide_eq_true_eq] at h2
  exact tb_in _ h2.1 h2.2
set_option maxRecDepth 100000 in
theorem tk_f1 : ∀ w ∈ u_ws RX1 TX1 4, w ∈ tbG := by
  have h : ((List.range 4).zip [411, 413, 415, 417]).all (fun q => decide (lw_tbl[q.2]? = some (u_lay RX1 TX1 q.1)) && goodWord (u_lay RX1 TX1 q.1)) = true := by decide +kernel
  intro w hw
  obtain ⟨j, hj, rfl⟩ := List.mem_map.mp hw
  obtain ⟨p, hp⟩ : ∃ p, (j, p) ∈ (List.range 4).zip [411, 413, 415, 417] := by
    have hl : ((List.range 4).zip [411, 413, 415, 417])[j]? = some (j, [411, 413, 415, 417].getD j 0) := by
      have hj2 := List.mem_range.mp hj
      have : ∀ j, j < 4 → ((List.range 4).zip [411, 413, 415, 417])[j]? = some (j, [411, 413, 415, 417].getD j 0) := by decide +kernel
      exact this j hj2
    exact ⟨_, List.mem_of_getElem? hl⟩
  have h2 := List.all_eq_true.mp h _ hp
  simp only [Bool.and_eq_true, decide_eq_true_eq] at h2
  exact tb_in _ h2.1 h2.2
set_option maxRecDepth 100000 in
theorem tk_f2 : ∀ w ∈ u_ws RX2 TX2 11, w ∈ tbG := by
  have h : ((List.range 11).zip [461, 463, 465, 467, 469, 471, 473, 475, 477, 479, 481]).all (fun q => decide (lw_tbl[q.2]? = some (u_lay RX2 TX2 q.1)) && goodWord (u_lay RX2 TX2 q.1)) = true := by decide +kernel
  intro w hw
  obtain ⟨j, hj, rfl⟩ := List.mem_map.mp hw
  obtain ⟨p, hp⟩ : ∃ p, (j, p) ∈ (List.range 11).zip [461, 463, 465, 467, 469, 471, 473, 475, 477, 479, 481] := by
    have hl : ((List.range 11).zip [461, 463, 465, 467, 469, 471, 473, 475, 477, 479, 481])[j]? = some (j, [461, 463, 465, 467, 469, 471, 473, 475, 477, 479, 481].getD j 0) := by
      have hj2 := List.mem_range.mp hj
      have : ∀ j, j < 11 → ((List.range 11).zip [461, 463, 465, 467, 469, 471, 473, 475, 477, 479, 481])[j]? = some (j, [461, 463, 465, 467, 469, 471, 473, 475, 477, 479, 481].getD j 0) := by decide +kernel
      exact this j hj2
    exact ⟨_, List.mem_of_getElem? hl⟩
  have h2 := List.all_eq_true.mp h _ hp
  simp only [Bool.and_eq_true, decide_eq_true_eq] at h2
  exact tb_in _ h2.1 h2.2
set_option maxRecDepth 100000 in
theorem tk_f3 : ∀ w ∈ u_ws RX3 TX3 12, w ∈ tbG := by
  have h : ((List.range 12).zip [259, 261, 263, 265, 267, 269, 271, 273, 275, 277, 279, 281]).all (fun q => decide (lw_tbl[q.2]? = some (u_lay RX3 TX3 q.1)) && goodWord (u_lay RX3 TX3 q.1)) = true := by decide +kernel
  intro w hw
  obtain ⟨j, hj, rfl⟩ := List.mem_map.mp hw
  obtain ⟨p, hp⟩ : ∃ p, (j, p) ∈ (List.range 12).zip [259, 261, 263, 265, 267, 269, 271, 273, 275, 277, 279, 281] := by
    have hl : ((List.range 12).zip [259, 261, 263, 265, 267, 269, 271, 273, 275, 277, 279, 281])[j]? = some (j, [259, 261, 263, 265, 267, 269, 271, 273, 275, 277, 279, 281].getD j 0) := by
      have hj2 := List.mem_range.mp hj
      have : ∀ j, j < 12 → ((List.range 12).zip [259, 261, 263, 265, 267, 269, 271, 273, 275, 277, 279, 281])[j]? = some (j, [259, 261, 263, 265, 267, 269, 271, 273, 275, 277, 279, 281].getD j 0) := by decide +kernel
      exact this j hj2
    exact ⟨_, List.mem_of_getElem? hl⟩
  have h2 := List.all_eq_true.mp h _ hp
  simp only [Bool.and_eq_true, decide_eq_true_eq] at h2
  exact tb_in _ h2.1 h2.2
set_option maxRecDepth 100000 in
theorem tk_f4 : ∀ w ∈ u_ws RX4 TX4 12, w ∈ tbG := by
  have h : ((List.range 12).zip [372, 374, 376, 378, 380, 382, 384, 386, 388, 390, 392, 394]).all (fun q => decide (lw_tbl[q.2]? = some (u_lay RX4 TX4 q.1)) && goodWord (u_lay RX4 TX4 q.1)) = true := by decide +kernel
  intro w hw
  obtain ⟨j, hj, rfl⟩ := List.mem_map.mp hw
  obtain ⟨p, hp⟩ : ∃ p, (j, p) ∈ (List.range 12).zip [372, 374, 376, 378, 380, 382, 384, 386, 388, 390, 392, 394] := by
    have hl : ((List.range 12).zip [372, 374, 376, 378, 380, 382, 384, 386, 388, 390, 392, 394])[j]? = some (j, [372, 374, 376, 378, 380, 382, 384, 386, 388, 390, 392, 394].getD j 0) := by
      have hj2 := List.mem_range.mp hj
      have : ∀ j, j < 12 → ((List.range 12).zip [372, 374, 376, 378, 380, 382, 384, 386, 388, 390, 392, 394])[j]? = some (j, [372, 374, 376, 378, 380, 382, 384, 386, 388, 390, 392, 394].getD j 0) := by decide +kernel
      exact this j hj2
    exact ⟨_, List.mem_of_getElem? hl⟩
  have h2 := List.all_eq_true.mp h _ hp
  simp only [Bool.and_eq_true, decide_eq_true_eq] at h2
  exact tb_in _ h2.1 h2.2
set_option maxRecDepth 100000 in
theorem tk_f5 : ∀ w ∈ u_ws RX5 TX5 3, w ∈ tbG := by
  have h : ((List.range 3).zip [173, 175, 177]).all (fun q => decide (lw_tbl[q.2]? = some (u_lay RX5 TX5 q.1)) && goodWord (u_lay RX5 TX5 q.1)) = true := by decide +kernel
  intro w hw
  obtain ⟨j, hj, rfl⟩ := List.mem_map.mp hw
  obtain ⟨p, hp⟩ : ∃ p, (j, p) ∈ (List.range 3).zip [173, 175, 177] := by
    have hl : ((List.range 3).zip [173, 175, 177])[j]? = some (j, [173, 175, 177].getD j 0) := by
      have hj2 := List.mem_range.mp hj
      have : ∀ j, j < 3 → ((List.range 3).zip [173, 175, 177])[j]? = some (j, [173, 175, 177].getD j 0) := by decide +kernel
      exact this j hj2
    exact ⟨_, List.mem_of_getElem? hl⟩
  have h2 := List.all_eq_true.mp h _ hp
  simp only [Bool.and_eq_true, decide_eq_true_eq] at h2
  exact tb_in _ h2.1 h2.2
set_option maxRecDepth 100000 in
theorem tk_f6 : ∀ w ∈ u_ws RX6 TX6 14, w ∈ tbG := by
  have h : ((List.range 14).zip [544, 546, 548, 550, 552, 554, 556, 558, 560, 562, 564, 566, 568, 570]).all (fun q => decide (lw_tbl[q.2]? = some (u_lay RX6 TX6 q.1)) && goodWord (u_lay RX6 TX6 q.1)) = true := by decide +kernel
  intro w hw
  obtain ⟨j, hj, rfl⟩ := List.mem_map.mp hw
  obtain ⟨p, hp⟩ : ∃ p, (j, p) ∈ (List.range 14).zip [544, 546, 548, 550, 552, 554, 556, 558, 560, 562, 564, 566, 568, 570] := by
    have hl : ((List.range 14).zip [544, 546, 548, 550, 552, 554, 556, 558, 560, 562, 564, 566, 568, 570])[j]? = some (j, [544, 546, 548, 550, 552, 554, 556, 558, 560, 562, 564, 566, 568, 570].getD j 0) := by
      have hj2 := List.mem_range.mp hj
      have : ∀ j, j < 14 → ((List.range 14).zip [544, 546, 548, 550, 552, 554, 556, 558, 560, 562, 564, 566, 568, 570])[j]? = some (j, [544, 546, 548, 550, 552, 554, 556, 558, 560, 562, 564, 566, 568, 570].getD j 0) := by decide +kernel
      exact this j hj2
    exact ⟨_, List.mem_of_getElem? hl⟩
  have h2 := List.all_eq_true.mp h _ hp
  simp only [Bool.and_eq_true, decide_eq_true_eq] at h2
  exact tb_in _ h2.1 h2.2
set_option maxRecDepth 100000 in
theorem tk_f7 : ∀ w ∈ u_ws RX7 TX7 9, w ∈ tbG := by
  have h : ((List.range 9).zip [304, 306, 308, 310, 312, 314, 316, 318, 320]).all (fun q => decide (lw_tbl[q.2]? = some (u_lay RX7 TX7 q.1)) && goodWord (u_lay RX7 TX7 q.1)) = true := by decide +kernel
  intro w hw
  obtain ⟨j, hj, rfl⟩ := List.mem_map.mp hw
  obtain ⟨p, hp⟩ : ∃ p, (j, p) ∈ (List.range 9).zip [304, 306, 308, 310, 312, 314, 316, 318, 320] := by
    have hl : ((List.range 9).zip [304, 306, 308, 310, 312, 314, 316, 318, 320])[j]? = some (j, [304, 306, 308, 310, 312, 314, 316, 318, 320].getD j 0) := by
      have hj2 := List.mem_range.mp hj
      have : ∀ j, j < 9 → ((List.range 9).zip [304, 306, 308, 310, 312, 314, 316, 318, 320])[j]? = some (j, [304, 306, 308, 310, 312, 314, 316, 318, 320].getD j 0) := by decide +kernel
      exact this j hj2
    exact ⟨_, List.mem_of_getElem? hl⟩
  have h2 := List.all_eq_true.mp h _ hp
  simp only [Bool.and_eq_true, decide_eq_true_eq] at h2
  exact tb_in _ h2.1 h2.2
set_option maxRecDepth 100000 in
theorem tk_f8 : ∀ w ∈ u_ws RX8 TX8 16, w ∈ tbG := by
  have h : ((List.range 16).zip [603, 605, 607, 609, 611, 613, 615, 617, 619, 621, 623, 625, 627, 629, 631, 633]).all (fun q => decide (lw_tbl[q.2]? = some (u_lay RX8 TX8 q.1)) && goodWord (u_lay RX8 TX8 q.1)) = true := by decide +kernel
  intro w hw
  obtain ⟨j, hj, rfl⟩ := List.mem_map.mp hw
  obtain ⟨p, hp⟩ : ∃ p, (j, p) ∈ (List.range 16).zip [603, 605, 607, 609, 611, 613, 615, 617, 619, 621, 623, 625, 627, 629, 631, 633] := by
    have hl : ((List.range 16).zip [603, 605, 607, 609, 611, 613, 615, 617, 619, 621, 623, 625, 627, 629, 631, 633])[j]? = some (j, [603, 605, 607, 609, 611, 613, 615, 617, 619, 621, 623, 625, 627, 629, 631, 633].getD j 0) := by
      have hj2 := List.mem_range.mp hj
      have : ∀ j, j < 16 → ((List.range 16).zip [603, 605, 607, 609, 611, 613, 615, 617, 619, 621, 623, 625, 627, 629, 631, 633])[j]? = some (j, [603, 605, 607, 609, 611, 613, 615, 617, 619, 621, 623, 625, 627, 629, 631, 633].getD j 0) := by decide +kernel
      exact this j hj2
    exact ⟨_, List.mem_of_getElem? hl⟩
  have h2 := List.all_eq_true.mp h _ hp
  simp only [Bool.and_eq_true, decide_eq_true_eq] at h2
  exact tb_in _ h2.1 h2.2
set_option maxRecDepth 100000 in
theorem tk_f9 : ∀ w ∈ u_ws RX9 TX9 8, w ∈ tbG := by
  have h : ((List.range 8).zip [209, 211, 213, 215, 217, 219, 221, 223]).all (fun q => decide (lw_tbl[q.2]? = some (u_lay RX9 TX9 q.1)) && goodWord (u_lay RX9 TX9 q.1)) = true := by decide +kernel
  intro w hw
  obtain ⟨j, hj, rfl⟩ := List.mem_map.mp hw
  obtain ⟨p, hp⟩ : ∃ p, (j, p) ∈ (List.range 8).zip [209, 211, 213, 215, 217, 219, 221, 223] := by
    have hl : ((List.range 8).zip [209, 211, 213, 215, 217, 219, 221, 223])[j]? = some (j, [209, 211, 213, 215, 217, 219, 221, 223].getD j 0) := by
      have hj2 := List.mem_range.mp hj
      have : ∀ j, j < 8 → ((List.range 8).zip [209, 211, 213, 215, 217, 219, 221, 223])[j]? = some (j, [209, 211, 213, 215, 217, 219, 221, 223].getD j 0) := by decide +kernel
      exact this j hj2
    exact ⟨_, List.mem_of_getElem? hl⟩
  have h2 := List.all_eq_true.mp h _ hp
  simp only [Bool.and_eq_true, decide_eq_true_eq] at h2
  exact tb_in _ h2.1 h2.2
set_option maxRecDepth 100000 in
theorem tk_f10 : ∀ w ∈ u_ws RX10 TX10 7, w ∈ tbG := by
  have h : ((List.range 7).zip [337, 339, 341, 343, 345, 347, 349]).all (fun q => decide (lw_tbl[q.2]? = some (u_lay RX10 TX10 q.1)) && goodWord (u_lay RX10 TX10 q.1)) = true := by decide +kernel
  intro w hw
  obtain ⟨j, hj, rfl⟩ := List.mem_map.mp hw
  obtain ⟨p, hp⟩ : ∃ p, (j, p) ∈ (List.range 7).zip [337, 339, 341, 343, 345, 347, 349] := by
    have hl : ((List.range 7).zip [337, 339, 341, 343, 345, 347, 349])[j]? = some (j, [337, 339, 341, 343, 345, 347, 349].getD j 0) := by
      have hj2 := List.mem_range.mp hj
      have : ∀ j, j < 7 → ((List.range 7).zip [337, 339, 341, 343, 345, 347, 349])[j]? = some (j, [337, 339, 341, 343, 345, 347, 349].getD j 0) := by decide +kernel
      exact this j hj2
    exact ⟨_, List.mem_of_getElem? hl⟩
  have h2 := List.all_eq_true.mp h _ hp
  simp only [Bool.and_eq_true, decide_eq_true_eq] at h2
  exact tb_in _ h2.1 h2.2
set_option maxRecDepth 100000 in
theorem tk_f11 : ∀ w ∈ u_ws RX11 TX11 16, w ∈ tbG := by
  have h : ((List.range 16).zip [732, 734, 736, 738, 740, 742, 744, 746, 748, 750, 752, 754, 756, 758, 760, 762]).all (fun q => decide (lw_tbl[q.2]? = some (u_lay RX11 TX11 q.1)) && goodWord (u_lay RX11 TX11 q.1)) = true := by decide +kernel
  intro w hw
  obtain ⟨j, hj, rfl⟩ := List.mem_map.mp hw
  obtain ⟨p, hp⟩ : ∃ p, (j, p) ∈ (List.range 16).zip [732, 734, 736, 738, 740, 742, 744, 746, 748, 750, 752, 754, 756, 758, 760, 762] := by
    have hl : ((List.range 16).zip [732, 734, 736, 738, 740, 742, 744, 746, 748, 750, 752, 754, 756, 758, 760, 762])[j]? = some (j, [732, 734, 736, 738, 740, 742, 744, 746, 748, 750, 752, 754, 756, 758, 760, 762].getD j 0) := by
      have hj2 := List.mem_range.mp hj
      have : ∀ j, j < 16 → ((List.range 16).zip [732, 734, 736, 738, 740, 742, 744, 746, 748, 750, 752, 754, 756, 758, 760, 762])[j]? = some (j, [732, 734, 736, 738, 740, 742, 744, 746, 748, 750, 752, 754, 756, 758, 760, 762].getD j 0) := by decide +kernel
      exact this j hj2
    exact ⟨_, List.mem_of_getElem? hl⟩
  have h2 := List.all_eq_true.mp h _ hp
  simp only [Bool.and_eq_true, decide_eq_true_eq] at h2
  exact tb_in _ h2.1 h2.2
set_option maxRecDepth 100000 in
theorem tk_f12 : ∀ w ∈ u_ws RX12 TX12 63, w ∈ tbG := by
  have h : ((List.range 63).zip [1444, 1446, 1448, 1450, 1452, 1454, 1456, 1458, 1460, 1462, 1464, 1466, 1468, 1470, 1472, 1474, 1476, 1478, 1480, 1482, 1484, 1486, 1488, 1490, 1492, 1494, 1496, 1498, 1500, 1502, 1504, 1506, 1508, 1510, 1512, 1514, 1516, 1518, 1520, 1522, 1524, 1526, 1528, 1530, 1532, 1534, 1536, 1538, 1540, 1542, 1544, 1546, 1548, 1550, 1552, 1554, 1556, 1558, 1560, 1562, 1564, 1566, 1568]).all (fun q => decide (lw_tbl[q.2]? = some (u_lay RX12 TX12 q.1)) && goodWord (u_lay RX12 TX12 q.1)) = true := by decide +kernel
  intro w hw
  obtain ⟨j, hj, rfl⟩ := List.mem_map.mp hw
  obtain ⟨p, hp⟩ : ∃ p, (j, p) ∈ (List.range 63).zip [1444, 1446, 1448, 1450, 1452, 1454, 1456, 1458, 1460, 1462, 1464, 1466, 1468, 1470, 1472, 1474, 1476, 1478, 1480, 1482, 1484, 1486, 1488, 1490, 1492, 1494, 1496, 1498, 1500, 1502, 1504, 1506, 1508, 1510, 1512, 1514, 1516, 1518, 1520, 1522, 1524, 1526, 1528, 1530, 1532, 1534, 1536, 1538, 1540, 1542, 1544, 1546, 1548, 1550, 1552, 1554, 1556, 1558, 1560, 1562, 1564, 1566, 1568] := by
    have hl : ((List.range 63).zip [1444, 1446, 1448, 1450, 1452, 1454, 1456, 1458, 1460, 1462, 1464, 1466, 1468, 1470, 1472, 1474, 1476, 1478, 1480, 1482, 1484, 1486, 1488, 1490, 1492, 1494, 1496, 1498, 1500, 1502, 1504, 1506, 1508, 1510, 1512, 1514, 1516, 1518, 1520, 1522, 1524, 1526, 1528, 1530, 1532, 1534, 1536, 1538, 1540, 1542, 1544, 1546, 1548, 1550, 1552, 1554, 1556, 1558, 1560, 1562, 1564, 1566, 1568])[j]? = some (j, [1444, 1446, 1448, 1450, 1452, 1454, 1456, 1458, 1460, 1462, 1464, 1466, 1468, 1470, 1472, 1474, 1476, 1478, 1480, 1482, 1484, 1486, 1488, 1490, 1492, 1494, 1496, 1498, 1500, 1502, 1504, 1506, 1508, 1510, 1512, 1514, 1516, 1518, 1520, 1522, 1524, 1526, 1528, 1530, 1532, 1534, 1536, 1538, 1540, 1542, 1544, 1546, 1548, 1550, 1552, 1554, 1556, 1558, 1560, 1562, 1564, 1566, 1568].getD j 0) := by
      have hj2 := List.mem_range.mp hj
      have : ∀ j, j < 63 → ((List.range 63).zip [1444, 1446, 1448, 1450, 1452, 1454, 1456, 1458, 1460, 1462, 1464, 1466, 1468, 1470, 1472, 1474, 1476, 1478, 1480, 1482, 1484, 1486, 1488, 1490, 1492, 1494, 1496, 1498, 1500, 1502, 1504, 1506, 1508, 1510, 1512, 1514, 1516, 1518, 1520, 1522, 1524, 1526, 1528, 1530, 1532, 1534, 1536, 1538, 1540, 1542, 1544, 1546, 1548, 1550, 1552, 1554, 1556, 1558, 1560, 1562, 1564, 1566, 1568])[j]? = some (j, [1444, 1446, 1448, 1450, 1452, 1454, 1456, 1458, 1460, 1462, 1464, 1466, 1468, 1470, 1472, 1474, 1476, 1478, 1480, 1482, 1484, 1486, 1488, 1490, 1492, 1494, 1496, 1498, 1500, 1502, 1504, 1506, 1508, 1510, 1512, 1514, 1516, 1518, 1520, 1522, 1524, 1526, 1528, 1530, 1532, 1534, 1536, 1538, 1540, 1542, 1544, 1546, 1548, 1550, 1552, 1554, 1556, 1558, 1560, 1562, 1564, 1566, 1568].getD j 0) := by decide +kernel
      exact this j hj2
    exact ⟨_, List.mem_of_getElem? hl⟩
  have h2 := List.all_eq_true.mp h _ hp
  simp only [Bool.and_eq_true, decide_eq_true_eq] at h2
  exact tb_in _ h2.1 h2.2
