abbrev R_SF : String := "StripeField"
def T_SF : u_T := fun k => match k with
  | 0 => ("StripeField", "layout", "LStripeField$Layout;", true)
  | 1 => ("StripeField", "rack", "LStripeField$Rack;", true)
  | 2 => ("StripeField", "places", "LStripeField$Places;", true)
  | 3 => ("StripeField", "power", "LStripeField$Power;", true)
  | 4 => ("StripeField", "tape", "[J", true)
  | 5 => ("StripeField", "tapeBytes", "I", false)
  | 6 => ("StripeField", "next", "I", false)
  | 7 => ("StripeField", "holes", "I", false)
  | 8 => ("StripeField", "fresh", "[J", true)
  | 9 => ("StripeField", "sum", "[J", true)
  | _ => ("StripeField", "zeros", "[J", true)
def t_SF : Nat → FieldType := fun k => match k with
  | 0 => .object "StripeField$Layout"
  | 1 => .object "StripeField$Rack"
  | 2 => .object "StripeField$Places"
  | 3 => .object "StripeField$Power"
  | 4 => .array .long
  | 5 => .int
  | 6 => .int
  | 7 => .int
  | 8 => .array .long
  | 9 => .array .long
  | _ => .array .long
theorem n_SF : ∀ a, a < 11 → ∀ b, b < 11 → a ≠ b → (T_SF a).2.1 ≠ (T_SF b).2.1 := by decide +kernel
theorem tok_SF : ∀ k, k < 11 → parseFieldDescriptor (T_SF k).2.2.1 = some (t_SF k) := by decide +kernel
theorem in_SF : ∀ w ∈ u_ws R_SF T_SF 11, w ∈ ltb := by decide +kernel
abbrev R_LA : String := "StripeField$Layout"
def T_LA : u_T := fun k => match k with
  | 0 => ("StripeField$Layout", "disks", "I", true)
  | 1 => ("StripeField$Layout", "width", "I", true)
  | 2 => ("StripeField$Layout", "rows", "I", true)
  | 3 => ("StripeField$Layout", "groups", "I", true)
  | 4 => ("StripeField$Layout", "stripes", "I", true)
  | 5 => ("StripeField$Layout", "blocks", "I", true)
  | 6 => ("StripeField$Layout", "positions", "I", true)
  | 7 => ("StripeField$Layout", "parity", "I", true)
  | 8 => ("StripeField$Layout", "cells", "I", true)
  | _ => ("StripeField$Layout", "home", "[I", true)
def t_LA : Nat → FieldType := fun k => match k with
  | 0 => .int
  | 1 => .int
  | 2 => .int
  | 3 => .int
  | 4 => .int
  | 5 => .int
  | 6 => .int
  | 7 => .int
  | 8 => .int
  | _ => .array .int
theorem n_LA : ∀ a, a < 10 → ∀ b, b < 10 → a ≠ b → (T_LA a).2.1 ≠ (T_LA b).2.1 := by decide +kernel
theorem tok_LA : ∀ k, k < 10 → parseFieldDescriptor (T_LA k).2.2.1 = some (t_LA k) := by decide +kernel
theorem in_LA : ∀ w ∈ u_ws R_LA T_LA 10, w ∈ ltb := by decide +kernel
abbrev R_PL : String := "StripeField$Places"
def T_PL : u_T := fun k => match k with
  | 0 => ("StripeField$Places", "place", "[I", true)
  | 1 => ("StripeField$Places", "holder", "[I", true)
  | 2 => ("StripeField$Places", "layout", "LStripeField$Layout;", true)
  | _ => ("StripeField$Places", "rack", "LStripeField$Rack;", true)
def t_PL : Nat → FieldType := fun k => match k with
  | 0 => .array .int
  | 1 => .array .int
  | 2 => .object "StripeField$Layout"
  | _ => .object "StripeField$Rack"
theorem n_PL : ∀ a, a < 4 → ∀ b, b < 4 → a ≠ b → (T_PL a).2.1 ≠ (T_PL b).2.1 := by decide +kernel
theorem tok_PL : ∀ k, k < 4 → parseFieldDescriptor (T_PL k).2.2.1 = some (t_PL k) := by decide +kernel
theorem in_PL : ∀ w ∈ u_ws R_PL T_PL 4, w ∈ ltb := by decide +kernel
abbrev R_PW : String := "StripeField$Power"
def T_PW : u_T := fun k => match k with
  | 0 => ("StripeField$Power", "on", "Z", false)
  | 1 => ("StripeField$Power", "writesLeft", "I", false)
  | _ => ("StripeField$Power", "writesDone", "I", false)
def t_PW : Nat → FieldType := fun k => match k with
  | 0 => .boolean
  | 1 => .int
  | _ => .int
theorem n_PW : ∀ a, a < 3 → ∀ b, b < 3 → a ≠ b → (T_PW a).2.1 ≠ (T_PW b).2.1 := by decide +kernel
theorem tok_PW : ∀ k, k < 3 → parseFieldDescriptor (T_PW k).2.2.1 = some (t_PW k) := by decide +kernel
theorem in_PW : ∀ w ∈ u_ws R_PW T_PW 3, w ∈ ltb := by decide +kernel
abbrev R_RK : String := "StripeField$Rack"
def T_RK : u_T := fun k => match k with
  | 0 => ("StripeField$Rack", "live", "[Z", true)
  | 1 => ("StripeField$Rack", "layout", "LStripeField$Layout;", true)
  | 2 => ("StripeField$Rack", "words", "[J", true)
  | 3 => ("StripeField$Rack", "drift", "[J", true)
  | 4 => ("StripeField$Rack", "written", "[Z", true)
  | _ => ("StripeField$Rack", "valid", "[Z", true)
def t_RK : Nat → FieldType := fun k => match k with
  | 0 => .array .boolean
  | 1 => .object "StripeField$Layout"
  | 2 => .array .long
  | 3 => .array .long
  | 4 => .array .boolean
  | _ => .array .boolean
theorem n_RK : ∀ a, a < 6 → ∀ b, b < 6 → a ≠ b → (T_RK a).2.1 ≠ (T_RK b).2.1 := by decide +kernel
theorem tok_RK : ∀ k, k < 6 → parseFieldDescriptor (T_RK k).2.2.1 = some (t_RK k) := by decide +kernel
theorem in_RK : ∀ w ∈ u_ws R_RK T_RK 6, w ∈ ltb := by decide +kernel
abbrev R_MD : String := "StripeFieldModel"
def T_MD : u_T := fun k => match k with
  | 0 => ("StripeFieldModel", "thrown", "I", false)
  | 1 => ("StripeFieldModel", "disks", "I", true)
  | 2 => ("StripeFieldModel", "width", "I", true)
  | 3 => ("StripeFieldModel", "rows", "I", true)
  | 4 => ("StripeFieldModel", "groups", "I", true)
  | 5 => ("StripeFieldModel", "units", "[I", true)
  | 6 => ("StripeFieldModel", "many", "I", false)
  | 7 => ("StripeFieldModel", "live", "[Z", true)
  | 8 => ("StripeFieldModel", "filled", "[Z", true)
  | 9 => ("StripeFieldModel", "tag", "[I", true)
  | 10 => ("StripeFieldModel", "damage", "[B", true)
  | 11 => ("StripeFieldModel", "place", "[I", true)
  | 12 => ("StripeFieldModel", "on", "Z", false)
  | 13 => ("StripeFieldModel", "left", "I", false)
  | 14 => ("StripeFieldModel", "writes", "I", false)
  | 15 => ("StripeFieldModel", "next", "I", false)
  | 16 => ("StripeFieldModel", "tape", "[I", true)
  | 17 => ("StripeFieldModel", "taped", "I", false)
  | 18 => ("StripeFieldModel", "value", "[I", true)
  | 19 => ("StripeFieldModel", "cutBlock", "I", false)
  | 20 => ("StripeFieldModel", "cutDeep", "Z", false)
  | _ => ("StripeFieldModel", "old", "[I", true)
def t_MD : Nat → FieldType := fun k => match k with
  | 0 => .int
  | 1 => .int
  | 2 => .int
  | 3 => .int
  | 4 => .int
  | 5 => .array .int
  | 6 => .int
  | 7 => .array .boolean
  | 8 => .array .boolean
  | 9 => .array .int
  | 10 => .array .byte
  | 11 => .array .int
  | 12 => .boolean
  | 13 => .int
  | 14 => .int
  | 15 => .int
  | 16 => .array .int
  | 17 => .int
  | 18 => .array .int
  | 19 => .int
  | 20 => .boolean
  | _ => .array .int
theorem n_MD : ∀ a, a < 22 → ∀ b, b < 22 → a ≠ b → (T_MD a).2.1 ≠ (T_MD b).2.1 := by decide +kernel
theorem tok_MD : ∀ k, k < 22 → parseFieldDescriptor (T_MD k).2.2.1 = some (t_MD k) := by decide +kernel
theorem in_MD : ∀ w ∈ u_ws R_MD T_MD 22, w ∈ ltb := by decide +kernel
abbrev R_LW : String := "StripeFieldLaw"
abbrev R_AR : String := "java/util/Arrays"
abbrev cls6 : List vw_C := [(R_LA, T_LA, 10), (R_PL, T_PL, 4), (R_PW, T_PW, 3), (R_RK, T_RK, 6), (R_SF, T_SF, 11), (R_MD, T_MD, 22)]
