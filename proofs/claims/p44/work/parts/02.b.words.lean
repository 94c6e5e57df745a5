def RX0 : String := "PolicyGate$Grants"
def TX0 : u_T := fun k => match k with
  | 0 => ("PolicyGate$Grants", "count", "I", false)
  | 1 => ("PolicyGate$Grants", "from", "LPolicyGate$Row;", true)
  | 2 => ("PolicyGate$Grants", "to", "LPolicyGate$Row;", true)
  | 3 => ("PolicyGate$Grants", "action", "LPolicyGate$Row;", true)
  | 4 => ("PolicyGate$Grants", "resource", "LPolicyGate$Row;", true)
  | 5 => ("PolicyGate$Grants", "hands", "LPolicyGate$Row;", true)
  | _ => ("PolicyGate$Grants", "end", "LPolicyGate$Row;", true)
def tyX0 : Nat → FieldType := fun k => match k with
  | 0 => .int
  | 1 => .object "PolicyGate$Row"
  | 2 => .object "PolicyGate$Row"
  | 3 => .object "PolicyGate$Row"
  | 4 => .object "PolicyGate$Row"
  | 5 => .object "PolicyGate$Row"
  | _ => .object "PolicyGate$Row"
abbrev wsX00 : List Cond := u_ws RX0 TX0 7
theorem nmX0 : ∀ a, a < 7 → ∀ b, b < 7 → a ≠ b → (TX0 a).2.1 ≠ (TX0 b).2.1 := by decide +kernel
theorem tyX0_ok : ∀ k, k < 7 → parseFieldDescriptor (TX0 k).2.2.1 = some (tyX0 k) := by decide +kernel
abbrev cX0_init : ByteArray := prog_2_method_1_code
def yX0_init : MethodName := ⟨RX0, "<init>", "()V"⟩
abbrev cX0_add : ByteArray := prog_2_method_2_code
def yX0_add : MethodName := ⟨RX0, "add", "(IIIIII)I"⟩
def RX1 : String := "PolicyGate$Roles"
def TX1 : u_T := fun k => match k with
  | 0 => ("PolicyGate$Roles", "count", "I", false)
  | 1 => ("PolicyGate$Roles", "pairs", "I", false)
  | 2 => ("PolicyGate$Roles", "holds", "LPolicyGate$Row;", true)
  | _ => ("PolicyGate$Roles", "apart", "LPolicyGate$Row;", true)
def tyX1 : Nat → FieldType := fun k => match k with
  | 0 => .int
  | 1 => .int
  | 2 => .object "PolicyGate$Row"
  | _ => .object "PolicyGate$Row"
abbrev wsX10 : List Cond := u_ws RX1 TX1 4
theorem nmX1 : ∀ a, a < 4 → ∀ b, b < 4 → a ≠ b → (TX1 a).2.1 ≠ (TX1 b).2.1 := by decide +kernel
theorem tyX1_ok : ∀ k, k < 4 → parseFieldDescriptor (TX1 k).2.2.1 = some (tyX1 k) := by decide +kernel
abbrev cX1_init : ByteArray := prog_3_method_1_code
def yX1_init : MethodName := ⟨RX1, "<init>", "()V"⟩
abbrev cX1_add : ByteArray := prog_3_method_2_code
def yX1_add : MethodName := ⟨RX1, "add", "()I"⟩
abbrev cX1_part : ByteArray := prog_3_method_3_code
def yX1_part : MethodName := ⟨RX1, "part", "(II)I"⟩
abbrev cX1_heldBy : ByteArray := prog_3_method_4_code
def yX1_heldBy : MethodName := ⟨RX1, "heldBy", "(I)I"⟩
abbrev cX1_hadWith : ByteArray := prog_3_method_5_code
def yX1_hadWith : MethodName := ⟨RX1, "hadWith", "(I)I"⟩
abbrev cX1_nearBy : ByteArray := prog_3_method_6_code
def yX1_nearBy : MethodName := ⟨RX1, "nearBy", "(II)I"⟩
abbrev cX1_isSplit : ByteArray := prog_3_method_7_code
def yX1_isSplit : MethodName := ⟨RX1, "isSplit", "(I)Z"⟩
def RX2 : String := "PolicyGate$Row"
def TX2 : u_T := fun k => match k with
  | _ => ("PolicyGate$Row", "cells", "[I", true)
def tyX2 : Nat → FieldType := fun k => match k with
  | _ => .array .int
abbrev wsX20 : List Cond := u_ws RX2 TX2 1
theorem nmX2 : ∀ a, a < 1 → ∀ b, b < 1 → a ≠ b → (TX2 a).2.1 ≠ (TX2 b).2.1 := by decide +kernel
theorem tyX2_ok : ∀ k, k < 1 → parseFieldDescriptor (TX2 k).2.2.1 = some (tyX2 k) := by decide +kernel
abbrev cX2_init : ByteArray := prog_4_method_1_code
def yX2_init : MethodName := ⟨RX2, "<init>", "(II)V"⟩
abbrev cX2_at : ByteArray := prog_4_method_2_code
def yX2_at : MethodName := ⟨RX2, "at", "(I)I"⟩
abbrev cX2_put : ByteArray := prog_4_method_3_code
def yX2_put : MethodName := ⟨RX2, "put", "(II)V"⟩
abbrev cX2_takeOut : ByteArray := prog_4_method_4_code
def yX2_takeOut : MethodName := ⟨RX2, "takeOut", "(I)V"⟩
abbrev cX2_clear : ByteArray := prog_4_method_5_code
def yX2_clear : MethodName := ⟨RX2, "clear", "()V"⟩
def RX3 : String := "PolicyGate$Rules"
def TX3 : u_T := fun k => match k with
  | 0 => ("PolicyGate$Rules", "count", "I", false)
  | 1 => ("PolicyGate$Rules", "allows", "LPolicyGate$Row;", true)
  | 2 => ("PolicyGate$Rules", "forWhom", "LPolicyGate$Row;", true)
  | 3 => ("PolicyGate$Rules", "actions", "LPolicyGate$Row;", true)
  | 4 => ("PolicyGate$Rules", "resource", "LPolicyGate$Row;", true)
  | 5 => ("PolicyGate$Rules", "deep", "LPolicyGate$Row;", true)
  | 6 => ("PolicyGate$Rules", "rank", "LPolicyGate$Row;", true)
  | 7 => ("PolicyGate$Rules", "traits", "LPolicyGate$Row;", true)
  | 8 => ("PolicyGate$Rules", "first", "LPolicyGate$Row;", true)
  | _ => ("PolicyGate$Rules", "last", "LPolicyGate$Row;", true)
def tyX3 : Nat → FieldType := fun k => match k with
  | 0 => .int
  | 1 => .object "PolicyGate$Row"
  | 2 => .object "PolicyGate$Row"
  | 3 => .object "PolicyGate$Row"
  | 4 => .object "PolicyGate$Row"
  | 5 => .object "PolicyGate$Row"
  | 6 => .object "PolicyGate$Row"
  | 7 => .object "PolicyGate$Row"
  | 8 => .object "PolicyGate$Row"
  | _ => .object "PolicyGate$Row"
abbrev wsX30 : List Cond := u_ws RX3 TX3 10
theorem nmX3 : ∀ a, a < 10 → ∀ b, b < 10 → a ≠ b → (TX3 a).2.1 ≠ (TX3 b).2.1 := by decide +kernel
theorem tyX3_ok : ∀ k, k < 10 → parseFieldDescriptor (TX3 k).2.2.1 = some (tyX3 k) := by decide +kernel
abbrev cX3_init : ByteArray := prog_5_method_1_code
def yX3_init : MethodName := ⟨RX3, "<init>", "()V"⟩
abbrev cX3_add : ByteArray := prog_5_method_2_code
def yX3_add : MethodName := ⟨RX3, "add", "(ZIII)I"⟩
abbrev cX3_drop : ByteArray := prog_5_method_3_code
def yX3_drop : MethodName := ⟨RX3, "drop", "(I)I"⟩
abbrev cX3_holdsIn : ByteArray := prog_5_method_4_code
def yX3_holdsIn : MethodName := ⟨RX3, "holdsIn", "(II)Z"⟩
def RX4 : String := "PolicyGate$Told"
def TX4 : u_T := fun k => match k with
  | 0 => ("PolicyGate$Told", "users", "LPolicyGate$Users;", true)
  | 1 => ("PolicyGate$Told", "roles", "LPolicyGate$Roles;", true)
  | 2 => ("PolicyGate$Told", "tree", "LPolicyGate$Tree;", true)
  | 3 => ("PolicyGate$Told", "rules", "LPolicyGate$Rules;", true)
  | 4 => ("PolicyGate$Told", "grants", "LPolicyGate$Grants;", true)
  | 5 => ("PolicyGate$Told", "weighing", "I", false)
  | _ => ("PolicyGate$Told", "clock", "I", false)
def tyX4 : Nat → FieldType := fun k => match k with
  | 0 => .object "PolicyGate$Users"
  | 1 => .object "PolicyGate$Roles"
  | 2 => .object "PolicyGate$Tree"
  | 3 => .object "PolicyGate$Rules"
  | 4 => .object "PolicyGate$Grants"
  | 5 => .int
  | _ => .int
abbrev wsX40 : List Cond := u_ws RX4 TX4 7
theorem nmX4 : ∀ a, a < 7 → ∀ b, b < 7 → a ≠ b → (TX4 a).2.1 ≠ (TX4 b).2.1 := by decide +kernel
theorem tyX4_ok : ∀ k, k < 7 → parseFieldDescriptor (TX4 k).2.2.1 = some (tyX4 k) := by decide +kernel
abbrev cX4_init : ByteArray := prog_6_method_1_code
def yX4_init : MethodName := ⟨RX4, "<init>", "()V"⟩
abbrev cX4_hour : ByteArray := prog_6_method_2_code
def yX4_hour : MethodName := ⟨RX4, "hour", "()I"⟩
abbrev cX4_isThere : ByteArray := prog_6_method_3_code
def yX4_isThere : MethodName := ⟨RX4, "isThere", "(I)Z"⟩
abbrev cX4_isGiven : ByteArray := prog_6_method_4_code
def yX4_isGiven : MethodName := ⟨RX4, "isGiven", "(IIII)Z"⟩
def RX5 : String := "PolicyGate$Tree"
def TX5 : u_T := fun k => match k with
  | 0 => ("PolicyGate$Tree", "count", "I", false)
  | 1 => ("PolicyGate$Tree", "depth", "LPolicyGate$Row;", true)
  | 2 => ("PolicyGate$Tree", "above", "LPolicyGate$Row;", true)
  | 3 => ("PolicyGate$Tree", "label", "LPolicyGate$Row;", true)
  | 4 => ("PolicyGate$Tree", "itsClass", "LPolicyGate$Row;", true)
  | _ => ("PolicyGate$Tree", "house", "LPolicyGate$Row;", true)
def tyX5 : Nat → FieldType := fun k => match k with
  | 0 => .int
  | 1 => .object "PolicyGate$Row"
  | 2 => .object "PolicyGate$Row"
  | 3 => .object "PolicyGate$Row"
  | 4 => .object "PolicyGate$Row"
  | _ => .object "PolicyGate$Row"
abbrev wsX50 : List Cond := u_ws RX5 TX5 6
theorem nmX5 : ∀ a, a < 6 → ∀ b, b < 6 → a ≠ b → (TX5 a).2.1 ≠ (TX5 b).2.1 := by decide +kernel
theorem tyX5_ok : ∀ k, k < 6 → parseFieldDescriptor (TX5 k).2.2.1 = some (tyX5 k) := by decide +kernel
abbrev cX5_init : ByteArray := prog_7_method_1_code
def yX5_init : MethodName := ⟨RX5, "<init>", "()V"⟩
abbrev cX5_add : ByteArray := prog_7_method_2_code
def yX5_add : MethodName := ⟨RX5, "add", "(I)I"⟩
abbrev cX5_isBeneath : ByteArray := prog_7_method_3_code
def yX5_isBeneath : MethodName := ⟨RX5, "isBeneath", "(II)Z"⟩
abbrev cX5_farUp : ByteArray := prog_7_method_4_code
def yX5_farUp : MethodName := ⟨RX5, "farUp", "(II)I"⟩
def RX6 : String := "PolicyGate$Users"
def TX6 : u_T := fun k => match k with
  | 0 => ("PolicyGate$Users", "count", "I", false)
  | 1 => ("PolicyGate$Users", "clearance", "LPolicyGate$Row;", true)
  | 2 => ("PolicyGate$Users", "traits", "LPolicyGate$Row;", true)
  | 3 => ("PolicyGate$Users", "sets", "LPolicyGate$Row;", true)
  | _ => ("PolicyGate$Users", "doneSets", "LPolicyGate$Row;", true)
def tyX6 : Nat → FieldType := fun k => match k with
  | 0 => .int
  | 1 => .object "PolicyGate$Row"
  | 2 => .object "PolicyGate$Row"
  | 3 => .object "PolicyGate$Row"
  | _ => .object "PolicyGate$Row"
abbrev wsX60 : List Cond := u_ws RX6 TX6 5
theorem nmX6 : ∀ a, a < 5 → ∀ b, b < 5 → a ≠ b → (TX6 a).2.1 ≠ (TX6 b).2.1 := by decide +kernel
theorem tyX6_ok : ∀ k, k < 5 → parseFieldDescriptor (TX6 k).2.2.1 = some (tyX6 k) := by decide +kernel
abbrev cX6_init : ByteArray := prog_8_method_1_code
def yX6_init : MethodName := ⟨RX6, "<init>", "()V"⟩
abbrev cX6_add : ByteArray := prog_8_method_2_code
def yX6_add : MethodName := ⟨RX6, "add", "(II)I"⟩
abbrev cX6_doneOn : ByteArray := prog_8_method_3_code
def yX6_doneOn : MethodName := ⟨RX6, "doneOn", "(II)I"⟩
abbrev cX6_note : ByteArray := prog_8_method_4_code
def yX6_note : MethodName := ⟨RX6, "note", "(III)V"⟩
def RX7 : String := "PolicyGate$View"
def TX7 : u_T := fun k => match k with
  | 0 => ("PolicyGate$View", "told", "LPolicyGate$Told;", true)
  | 1 => ("PolicyGate$View", "onAction", "LPolicyGate$Row;", true)
  | 2 => ("PolicyGate$View", "onResource", "LPolicyGate$Row;", true)
  | 3 => ("PolicyGate$View", "forUser", "LPolicyGate$Row;", true)
  | 4 => ("PolicyGate$View", "weights", "LPolicyGate$Row;", true)
  | 5 => ("PolicyGate$View", "houses", "LPolicyGate$Row;", true)
  | 6 => ("PolicyGate$View", "opposed", "LPolicyGate$Row;", true)
  | 7 => ("PolicyGate$View", "weighing", "I", false)
  | 8 => ("PolicyGate$View", "live", "I", false)
  | 9 => ("PolicyGate$View", "allowing", "I", false)
  | _ => ("PolicyGate$View", "good", "I", false)
def tyX7 : Nat → FieldType := fun k => match k with
  | 0 => .object "PolicyGate$Told"
  | 1 => .object "PolicyGate$Row"
  | 2 => .object "PolicyGate$Row"
  | 3 => .object "PolicyGate$Row"
  | 4 => .object "PolicyGate$Row"
  | 5 => .object "PolicyGate$Row"
  | 6 => .object "PolicyGate$Row"
  | 7 => .int
  | 8 => .int
  | 9 => .int
  | _ => .int
abbrev wsX70 : List Cond := u_ws RX7 TX7 11
theorem nmX7 : ∀ a, a < 11 → ∀ b, b < 11 → a ≠ b → (TX7 a).2.1 ≠ (TX7 b).2.1 := by decide +kernel
theorem tyX7_ok : ∀ k, k < 11 → parseFieldDescriptor (TX7 k).2.2.1 = some (tyX7 k) := by decide +kernel
abbrev cX7_init : ByteArray := prog_9_method_1_code
def yX7_init : MethodName := ⟨RX7, "<init>", "(LPolicyGate$Told;)V"⟩
abbrev cX7_look : ByteArray := prog_9_method_2_code
def yX7_look : MethodName := ⟨RX7, "look", "(II)V"⟩
abbrev cX7_lookAtRules : ByteArray := prog_9_method_3_code
def yX7_lookAtRules : MethodName := ⟨RX7, "lookAtRules", "(I)V"⟩
abbrev cX7_lookWhere : ByteArray := prog_9_method_4_code
def yX7_lookWhere : MethodName := ⟨RX7, "lookWhere", "(I)V"⟩
abbrev cX7_lookAtWalls : ByteArray := prog_9_method_5_code
def yX7_lookAtWalls : MethodName := ⟨RX7, "lookAtWalls", "()V"⟩
abbrev cX7_giveSet : ByteArray := prog_9_method_6_code
def yX7_giveSet : MethodName := ⟨RX7, "giveSet", "(II)V"⟩
abbrev cX7_stepsTo : ByteArray := prog_9_method_7_code
def yX7_stepsTo : MethodName := ⟨RX7, "stepsTo", "(III)I"⟩
abbrev cX7_weightOf : ByteArray := prog_9_method_8_code
def yX7_weightOf : MethodName := ⟨RX7, "weightOf", "(II)I"⟩
abbrev cX7_weighGrants : ByteArray := prog_9_method_9_code
def yX7_weighGrants : MethodName := ⟨RX7, "weighGrants", "()V"⟩
abbrev cX7_isByRight : ByteArray := prog_9_method_10_code
def yX7_isByRight : MethodName := ⟨RX7, "isByRight", "(I)Z"⟩
abbrev cX7_isPassedOn : ByteArray := prog_9_method_11_code
def yX7_isPassedOn : MethodName := ⟨RX7, "isPassedOn", "(I)Z"⟩
abbrev cX7_matching : ByteArray := prog_9_method_12_code
def yX7_matching : MethodName := ⟨RX7, "matching", "(III)I"⟩
abbrev cX7_deciding : ByteArray := prog_9_method_13_code
def yX7_deciding : MethodName := ⟨RX7, "deciding", "(II)I"⟩
abbrev cX7_ruled : ByteArray := prog_9_method_14_code
def yX7_ruled : MethodName := ⟨RX7, "ruled", "(III)I"⟩
abbrev cX7_isAgainstLabel : ByteArray := prog_9_method_15_code
def yX7_isAgainstLabel : MethodName := ⟨RX7, "isAgainstLabel", "(III)Z"⟩
abbrev cX7_isWalledOff : ByteArray := prog_9_method_16_code
def yX7_isWalledOff : MethodName := ⟨RX7, "isWalledOff", "(II)Z"⟩
abbrev cX7_grantFor : ByteArray := prog_9_method_17_code
def yX7_grantFor : MethodName := ⟨RX7, "grantFor", "(III)I"⟩
abbrev cX7_decided : ByteArray := prog_9_method_18_code
def yX7_decided : MethodName := ⟨RX7, "decided", "(III)I"⟩
abbrev cX7_isAllowed : ByteArray := prog_9_method_19_code
def yX7_isAllowed : MethodName := ⟨RX7, "isAllowed", "(III)Z"⟩
abbrev cX7_reason : ByteArray := prog_9_method_20_code
def yX7_reason : MethodName := ⟨RX7, "reason", "(III)I"⟩
abbrev cX7_allowedTo : ByteArray := prog_9_method_21_code
def yX7_allowedTo : MethodName := ⟨RX7, "allowedTo", "(II)I"⟩
abbrev cX7_differences : ByteArray := prog_9_method_22_code
def yX7_differences : MethodName := ⟨RX7, "differences", "(LPolicyGate$View;)I"⟩
abbrev cX7_opposedPairs : ByteArray := prog_9_method_23_code
def yX7_opposedPairs : MethodName := ⟨RX7, "opposedPairs", "()I"⟩
abbrev cX7_oppose : ByteArray := prog_9_method_24_code
def yX7_oppose : MethodName := ⟨RX7, "oppose", "(I)V"⟩
def RX8 : String := "PolicyGate"
def TX8 : u_T := fun k => match k with
  | 0 => ("PolicyGate", "told", "LPolicyGate$Told;", true)
  | 1 => ("PolicyGate", "now", "LPolicyGate$View;", true)
  | 2 => ("PolicyGate", "would", "LPolicyGate$View;", true)
  | _ => ("PolicyGate", "counts", "LPolicyGate$Row;", true)
def tyX8 : Nat → FieldType := fun k => match k with
  | 0 => .object "PolicyGate$Told"
  | 1 => .object "PolicyGate$View"
  | 2 => .object "PolicyGate$View"
  | _ => .object "PolicyGate$Row"
abbrev wsX80 : List Cond := u_ws RX8 TX8 4
theorem nmX8 : ∀ a, a < 4 → ∀ b, b < 4 → a ≠ b → (TX8 a).2.1 ≠ (TX8 b).2.1 := by decide +kernel
theorem tyX8_ok : ∀ k, k < 4 → parseFieldDescriptor (TX8 k).2.2.1 = some (tyX8 k) := by decide +kernel
abbrev cX8_init : ByteArray := prog_1_method_1_code
def yX8_init : MethodName := ⟨RX8, "<init>", "()V"⟩
abbrev cX8_addUser : ByteArray := prog_1_method_2_code
def yX8_addUser : MethodName := ⟨RX8, "addUser", "(II)I"⟩
abbrev cX8_addRole : ByteArray := prog_1_method_3_code
def yX8_addRole : MethodName := ⟨RX8, "addRole", "()I"⟩
abbrev cX8_addResource : ByteArray := prog_1_method_4_code
def yX8_addResource : MethodName := ⟨RX8, "addResource", "(I)I"⟩
abbrev cX8_setRole : ByteArray := prog_1_method_5_code
def yX8_setRole : MethodName := ⟨RX8, "setRole", "(IIZ)Z"⟩
abbrev cX8_setHolds : ByteArray := prog_1_method_6_code
def yX8_setHolds : MethodName := ⟨RX8, "setHolds", "(IIZ)Z"⟩
abbrev cX8_setApart : ByteArray := prog_1_method_7_code
def yX8_setApart : MethodName := ⟨RX8, "setApart", "(II)I"⟩
abbrev cX8_setLabel : ByteArray := prog_1_method_9_code
def yX8_setLabel : MethodName := ⟨RX8, "setLabel", "(II)I"⟩
abbrev cX8_setWall : ByteArray := prog_1_method_10_code
def yX8_setWall : MethodName := ⟨RX8, "setWall", "(III)Z"⟩
abbrev cX8_users : ByteArray := prog_1_method_11_code
def yX8_users : MethodName := ⟨RX8, "users", "()I"⟩
abbrev cX8_roles : ByteArray := prog_1_method_12_code
def yX8_roles : MethodName := ⟨RX8, "roles", "()I"⟩
abbrev cX8_resources : ByteArray := prog_1_method_13_code
def yX8_resources : MethodName := ⟨RX8, "resources", "()I"⟩
abbrev cX8_near : ByteArray := prog_1_method_14_code
def yX8_near : MethodName := ⟨RX8, "near", "(II)I"⟩
abbrev cX8_far : ByteArray := prog_1_method_15_code
def yX8_far : MethodName := ⟨RX8, "far", "(II)I"⟩
abbrev cX8_addRule : ByteArray := prog_1_method_16_code
def yX8_addRule : MethodName := ⟨RX8, "addRule", "(ZIII)I"⟩
abbrev cX8_setRule : ByteArray := prog_1_method_17_code
def yX8_setRule : MethodName := ⟨RX8, "setRule", "(IZI)I"⟩
abbrev cX8_setTerms : ByteArray := prog_1_method_18_code
def yX8_setTerms : MethodName := ⟨RX8, "setTerms", "(IIII)I"⟩
abbrev cX8_dropRule : ByteArray := prog_1_method_19_code
def yX8_dropRule : MethodName := ⟨RX8, "dropRule", "(I)I"⟩
abbrev cX8_setWeighing : ByteArray := prog_1_method_21_code
def yX8_setWeighing : MethodName := ⟨RX8, "setWeighing", "(I)I"⟩
abbrev cX8_matches : ByteArray := prog_1_method_22_code
def yX8_matches : MethodName := ⟨RX8, "matches", "(IIII)Z"⟩
abbrev cX8_goOn : ByteArray := prog_1_method_23_code
def yX8_goOn : MethodName := ⟨RX8, "goOn", "(I)I"⟩
abbrev cX8_grant : ByteArray := prog_1_method_25_code
def yX8_grant : MethodName := ⟨RX8, "grant", "(IIIIII)I"⟩
abbrev cX8_isGood : ByteArray := prog_1_method_28_code
def yX8_isGood : MethodName := ⟨RX8, "isGood", "(I)Z"⟩
abbrev cX8_decide : ByteArray := prog_1_method_29_code
def yX8_decide : MethodName := ⟨RX8, "decide", "(III)I"⟩
abbrev cX8_why : ByteArray := prog_1_method_30_code
def yX8_why : MethodName := ⟨RX8, "why", "(III)I"⟩
abbrev cX8_access : ByteArray := prog_1_method_31_code
def yX8_access : MethodName := ⟨RX8, "access", "(III)I"⟩
abbrev cX8_done : ByteArray := prog_1_method_33_code
def yX8_done : MethodName := ⟨RX8, "done", "(II)I"⟩
abbrev cX8_who : ByteArray := prog_1_method_34_code
def yX8_who : MethodName := ⟨RX8, "who", "(II)I"⟩
abbrev cX8_reach : ByteArray := prog_1_method_35_code
def yX8_reach : MethodName := ⟨RX8, "reach", "(II)I"⟩
abbrev cX8_rolesNeeded : ByteArray := prog_1_method_36_code
def yX8_rolesNeeded : MethodName := ⟨RX8, "rolesNeeded", "(III)I"⟩
abbrev cX8_isIdle : ByteArray := prog_1_method_38_code
def yX8_isIdle : MethodName := ⟨RX8, "isIdle", "(I)Z"⟩
abbrev cX8_openness : ByteArray := prog_1_method_41_code
def yX8_openness : MethodName := ⟨RX8, "openness", "()D"⟩
abbrev cX8_digest : ByteArray := prog_1_method_42_code
def yX8_digest : MethodName := ⟨RX8, "digest", "()J"⟩
abbrev cX8_withNumbers : ByteArray := prog_1_method_43_code
def yX8_withNumbers : MethodName := ⟨RX8, "withNumbers", "(J)J"⟩
abbrev cX8_withNear : ByteArray := prog_1_method_44_code
def yX8_withNear : MethodName := ⟨RX8, "withNear", "(J)J"⟩
abbrev cX8_withDecisions : ByteArray := prog_1_method_45_code
def yX8_withDecisions : MethodName := ⟨RX8, "withDecisions", "(J)J"⟩
abbrev cX8_withReasons : ByteArray := prog_1_method_46_code
def yX8_withReasons : MethodName := ⟨RX8, "withReasons", "(J)J"⟩
abbrev cX8_withDone : ByteArray := prog_1_method_47_code
def yX8_withDone : MethodName := ⟨RX8, "withDone", "(J)J"⟩
abbrev cX8_wouldBeAllowed : ByteArray := prog_1_method_48_code
def yX8_wouldBeAllowed : MethodName := ⟨RX8, "wouldBeAllowed", "(IIII)Z"⟩
abbrev cX8_wouldSplitSomeone : ByteArray := prog_1_method_49_code
def yX8_wouldSplitSomeone : MethodName := ⟨RX8, "wouldSplitSomeone", "(II)Z"⟩
abbrev cX8_isAnyoneWith : ByteArray := prog_1_method_50_code
def yX8_isAnyoneWith : MethodName := ⟨RX8, "isAnyoneWith", "(II)Z"⟩
abbrev cX8_isUser : ByteArray := prog_1_method_51_code
def yX8_isUser : MethodName := ⟨RX8, "isUser", "(I)Z"⟩
abbrev cX8_isRole : ByteArray := prog_1_method_52_code
def yX8_isRole : MethodName := ⟨RX8, "isRole", "(I)Z"⟩
abbrev cX8_isResource : ByteArray := prog_1_method_53_code
def yX8_isResource : MethodName := ⟨RX8, "isResource", "(I)Z"⟩
abbrev cX8_isRule : ByteArray := prog_1_method_54_code
def yX8_isRule : MethodName := ⟨RX8, "isRule", "(I)Z"⟩
abbrev cX8_isGrant : ByteArray := prog_1_method_55_code
def yX8_isGrant : MethodName := ⟨RX8, "isGrant", "(I)Z"⟩
abbrev cX8_isAction : ByteArray := prog_1_method_56_code
def yX8_isAction : MethodName := ⟨RX8, "isAction", "(I)Z"⟩
abbrev cX8_isUpTo : ByteArray := prog_1_method_57_code
def yX8_isUpTo : MethodName := ⟨RX8, "isUpTo", "(II)Z"⟩
abbrev cX8_isIn : ByteArray := prog_1_method_58_code
def yX8_isIn : MethodName := ⟨RX8, "isIn", "(II)Z"⟩
abbrev cX8_checkAsked : ByteArray := prog_1_method_59_code
def yX8_checkAsked : MethodName := ⟨RX8, "checkAsked", "(III)V"⟩
abbrev cX8_checkThere : ByteArray := prog_1_method_60_code
def yX8_checkThere : MethodName := ⟨RX8, "checkThere", "(Z)V"⟩
abbrev cX8_checkArguments : ByteArray := prog_1_method_61_code
def yX8_checkArguments : MethodName := ⟨RX8, "checkArguments", "(Z)V"⟩
abbrev cX8_checkState : ByteArray := prog_1_method_62_code
def yX8_checkState : MethodName := ⟨RX8, "checkState", "(Z)V"⟩
def RX9 : String := "PolicyGateLaw$Gate"
def TX9 : u_T := fun k => match k with
  | 0 => ("PolicyGateLaw$Gate", "m", "LPolicyGate;", true)
  | 1 => ("PolicyGateLaw$Gate", "s", "[I", true)
  | 2 => ("PolicyGateLaw$Gate", "draws", "I", false)
  | 3 => ("PolicyGateLaw$Gate", "clock", "I", false)
  | 4 => ("PolicyGateLaw$Gate", "way", "I", false)
  | 5 => ("PolicyGateLaw$Gate", "users", "I", false)
  | 6 => ("PolicyGateLaw$Gate", "has", "[[Z", true)
  | 7 => ("PolicyGateLaw$Gate", "clearance", "[I", true)
  | 8 => ("PolicyGateLaw$Gate", "traits", "[I", true)
  | 9 => ("PolicyGateLaw$Gate", "roles", "I", false)
  | 10 => ("PolicyGateLaw$Gate", "holds", "[[Z", true)
  | 11 => ("PolicyGateLaw$Gate", "isApart", "[[Z", true)
  | 12 => ("PolicyGateLaw$Gate", "resources", "I", false)
  | 13 => ("PolicyGateLaw$Gate", "parent", "[I", true)
  | 14 => ("PolicyGateLaw$Gate", "label", "[I", true)
  | 15 => ("PolicyGateLaw$Gate", "wall", "[I", true)
  | 16 => ("PolicyGateLaw$Gate", "house", "[I", true)
  | 17 => ("PolicyGateLaw$Gate", "rules", "I", false)
  | 18 => ("PolicyGateLaw$Gate", "rule", "[[I", false)
  | 19 => ("PolicyGateLaw$Gate", "grants", "I", false)
  | 20 => ("PolicyGateLaw$Gate", "grant", "[[I", true)
  | _ => ("PolicyGateLaw$Gate", "done", "[[I", true)
def tyX9 : Nat → FieldType := fun k => match k with
  | 0 => .object "PolicyGate"
  | 1 => .array .int
  | 2 => .int
  | 3 => .int
  | 4 => .int
  | 5 => .int
  | 6 => .array (.array .boolean)
  | 7 => .array .int
  | 8 => .array .int
  | 9 => .int
  | 10 => .array (.array .boolean)
  | 11 => .array (.array .boolean)
  | 12 => .int
  | 13 => .array .int
  | 14 => .array .int
  | 15 => .array .int
  | 16 => .array .int
  | 17 => .int
  | 18 => .array (.array .int)
  | 19 => .int
  | 20 => .array (.array .int)
  | _ => .array (.array .int)
abbrev wsX90 : List Cond := u_ws RX9 TX9 22
theorem nmX9 : ∀ a, a < 22 → ∀ b, b < 22 → a ≠ b → (TX9 a).2.1 ≠ (TX9 b).2.1 := by decide +kernel
theorem tyX9_ok : ∀ k, k < 22 → parseFieldDescriptor (TX9 k).2.2.1 = some (tyX9 k) := by decide +kernel
abbrev cX9_init : ByteArray := prog_11_method_1_code
def yX9_init : MethodName := ⟨RX9, "<init>", "([II)V"⟩
abbrev cX9_draw : ByteArray := prog_11_method_2_code
def yX9_draw : MethodName := ⟨RX9, "draw", "(I)I"⟩
abbrev cX9_make : ByteArray := prog_11_method_3_code
def yX9_make : MethodName := ⟨RX9, "make", "()Z"⟩
abbrev cX9_near : ByteArray := prog_11_method_4_code
def yX9_near : MethodName := ⟨RX9, "near", "([ZII)I"⟩
abbrev cX9_isHeld : ByteArray := prog_11_method_5_code
def yX9_isHeld : MethodName := ⟨RX9, "isHeld", "(III)Z"⟩
abbrev cX9_hasApart : ByteArray := prog_11_method_6_code
def yX9_hasApart : MethodName := ⟨RX9, "hasApart", "([Z)Z"⟩
abbrev cX9_anyApart : ByteArray := prog_11_method_7_code
def yX9_anyApart : MethodName := ⟨RX9, "anyApart", "()Z"⟩
abbrev cX9_bind : ByteArray := prog_11_method_8_code
def yX9_bind : MethodName := ⟨RX9, "bind", "()Z"⟩
abbrev cX9_addRule : ByteArray := prog_11_method_9_code
def yX9_addRule : MethodName := ⟨RX9, "addRule", "()Z"⟩
abbrev cX9_addGrant : ByteArray := prog_11_method_19_code
def yX9_addGrant : MethodName := ⟨RX9, "addGrant", "()Z"⟩
def RX10 : String := "PolicyGateModel"
def TX10 : u_T := fun k => match k with
  | _ => ("", "", "", false)
def tyX10 : Nat → FieldType := fun k => match k with
  | _ => .int
abbrev wsX100 : List Cond := u_ws RX10 TX10 0
theorem nmX10 : ∀ a, a < 0 → ∀ b, b < 0 → a ≠ b → (TX10 a).2.1 ≠ (TX10 b).2.1 := by decide +kernel
theorem tyX10_ok : ∀ k, k < 0 → parseFieldDescriptor (TX10 k).2.2.1 = some (tyX10 k) := by decide +kernel
def RJx145de : String := "java/io/Serializable"
def RJ6 : String := "java/lang/Integer"
abbrev cJ6_bitCount_0f7a4 : ByteArray := prog_17_method_49_code
def yJ6_bitCount_0f7a4 : MethodName := ⟨RJ6, "bitCount", "(I)I"⟩
def RJ9 : String := "java/lang/Math"
abbrev cJ9_max_7cf53 : ByteArray := prog_18_method_65_code
def yJ9_max_7cf53 : MethodName := ⟨RJ9, "max", "(II)I"⟩
abbrev cJ9_min_7cf53 : ByteArray := prog_18_method_69_code
def yJ9_min_7cf53 : MethodName := ⟨RJ9, "min", "(II)I"⟩
def RJ0 : String := "java/lang/String"
def RJ7 : String := "java/util/Arrays"
abbrev cJ7_fill_53178 : ByteArray := prog_22_method_103_code
def yJ7_fill_53178 : MethodName := ⟨RJ7, "fill", "([II)V"⟩
def RL : String := "PolicyGateLaw"
abbrev cL_below : ByteArray := method_2_code
def yL_below : MethodName := ⟨RL, "below", "(II)I"⟩
abbrev cL_cell : ByteArray := method_3_code
def yL_cell : MethodName := ⟨RL, "cell", "([II)I"⟩
abbrev cL_law : ByteArray := code
def yL_law : MethodName := ⟨RL, "law", "([I)Z"⟩
abbrev cL_table : ByteArray := method_5_code
def yL_table : MethodName := ⟨RL, "table", "(LPolicyGateLaw$Gate;)[I"⟩
abbrev cL_isByOne : ByteArray := method_6_code
def yL_isByOne : MethodName := ⟨RL, "isByOne", "(LPolicyGateLaw$Gate;III)Z"⟩
abbrev vwCl : List vw_C := [(RX0, TX0, 7), (RX1, TX1, 4), (RX2, TX2, 1), (RX3, TX3, 10), (RX4, TX4, 7), (RX5, TX5, 6), (RX6, TX6, 5), (RX7, TX7, 11), (RX8, TX8, 4), (RX9, TX9, 22)]
/-- every word of the tables that a method may rest on -/
def gk_BG : List Cond := lw_tbl.filter goodWord
theorem gk_bg {w : Cond} (i : Nat) (h : lw_tbl[i]? = some w) (g : goodWord w = true) : w ∈ gk_BG := List.mem_filter.mpr ⟨List.mem_of_getElem? h, g⟩
theorem gk_bgood {w : Cond} (h : w ∈ gk_BG) : (w.onTables && w.keeps) = true ∨ ∃ ty, w = .arrayClass ty := good_of_word (List.mem_filter.mp h).2
def gk_isN (w : Cond) : Bool := match w with | .fieldLinkNest .. => true | .methodLinkNest .. => true | _ => false
def gk_NG : List Cond := lw_tbl.filter gk_isN
theorem gk_ng {w : Cond} (i : Nat) (h : lw_tbl[i]? = some w) (g : gk_isN w = true) : w ∈ gk_NG := List.mem_filter.mpr ⟨List.mem_of_getElem? h, g⟩
theorem gk_gV {own C : String} {idx : Nat} {y : MethodName} {w : Cond} (h1 : Cond.methodLink own idx y ∈ gk_BG) (h2 : Cond.instanceMethod y ∈ gk_BG) (h3 : Cond.selects C y y ∈ gk_BG) (h4 : Cond.initialized C ∈ gk_BG) (h5 : w ∈ gk_BG) : GoodIn gk_BG (wsV own idx C y (w :: gk_BG)) := by
  intro z hz
  have : z ∈ gk_BG := by
    unfold wsV at hz
    simp only [List.cons_append, List.nil_append, List.mem_cons] at hz
    rcases hz with rfl | rfl | rfl | rfl | rfl | hz
    all_goals assumption
  exact ⟨this, gk_bgood this⟩
theorem gk_gS {own : String} {idx : Nat} {y : MethodName} {w : Cond} (h1 : Cond.methodLink own idx y ∈ gk_BG) (h2 : Cond.static y ∈ gk_BG) (h4 : Cond.initialized y.cls ∈ gk_BG) (h5 : w ∈ gk_BG) : GoodIn gk_BG (va_wsS own idx y (w :: gk_BG)) := by
  intro z hz
  have : z ∈ gk_BG := by
    unfold va_wsS at hz
    simp only [List.cons_append, List.nil_append, List.mem_cons] at hz
    rcases hz with rfl | rfl | rfl | rfl | hz
    all_goals assumption
  exact ⟨this, gk_bgood this⟩
theorem gk_gI {w : Cond} (h5 : w ∈ gk_BG) : GoodIn gk_BG (w :: gk_BG) := by
  intro z hz
  have : z ∈ gk_BG := by
    rcases List.mem_cons.mp hz with rfl | hz
    all_goals assumption
  exact ⟨this, gk_bgood this⟩
set_option maxRecDepth 20000 in
theorem im_X0_init : Cond.instanceMethod yX0_init ∈ gk_BG := gk_bg 641 (by decide +kernel) (by decide +kernel)
set_option maxRecDepth 20000 in
theorem co_X0_init : Cond.code yX0_init cX0_init 1 none ∈ gk_BG := gk_bg 642 (by decide +kernel) (by decide +kernel)
abbrev wsX0_init : List Cond := Cond.code yX0_init cX0_init 1 none :: gk_BG
set_option maxRecDepth 20000 in
theorem im_X0_add : Cond.instanceMethod yX0_add ∈ gk_BG := gk_bg 1007 (by decide +kernel) (by decide +kernel)
set_option maxRecDepth 20000 in
theorem se_X0_add : Cond.selects RX0 yX0_add yX0_add ∈ gk_BG := gk_bg 1008 (by decide +kernel) (by decide +kernel)
set_option maxRecDepth 20000 in
theorem co_X0_add : Cond.code yX0_add cX0_add 8 (some .int) ∈ gk_BG := gk_bg 1009 (by decide +kernel) (by decide +kernel)
abbrev wsX0_add : List Cond := Cond.code yX0_add cX0_add 8 (some .int) :: gk_BG
set_option maxRecDepth 20000 in
theorem im_X1_init : Cond.instanceMethod yX1_init ∈ gk_BG := gk_bg 527 (by decide +kernel) (by decide +kernel)
set_option maxRecDepth 20000 in
theorem co_X1_init : Cond.code yX1_init cX1_init 1 none ∈ gk_BG := gk_bg 528 (by decide +kernel) (by decide +kernel)
abbrev wsX1_init : List Cond := Cond.code yX1_init cX1_init 1 none :: gk_BG
set_option maxRecDepth 20000 in
theorem im_X1_add : Cond.instanceMethod yX1_add ∈ gk_BG := gk_bg 899 (by decide +kernel) (by decide +kernel)
set_option maxRecDepth 20000 in
theorem se_X1_add : Cond.selects RX1 yX1_add yX1_add ∈ gk_BG := gk_bg 900 (by decide +kernel) (by decide +kernel)
set_option maxRecDepth 20000 in
theorem co_X1_add : Cond.code yX1_add cX1_add 2 (some .int) ∈ gk_BG := gk_bg 901 (by decide +kernel) (by decide +kernel)
abbrev wsX1_add : List Cond := Cond.code yX1_add cX1_add 2 (some .int) :: gk_BG
set_option maxRecDepth 20000 in
theorem im_X1_part : Cond.instanceMethod yX1_part ∈ gk_BG := gk_bg 973 (by decide +kernel) (by decide +kernel)
set_option maxRecDepth 20000 in
theorem se_X1_part : Cond.selects RX1 yX1_part yX1_part ∈ gk_BG := gk_bg 974 (by decide +kernel) (by decide +kernel)
set_option maxRecDepth 20000 in
theorem co_X1_part : Cond.code yX1_part cX1_part 3 (some .int) ∈ gk_BG := gk_bg 975 (by decide +kernel) (by decide +kernel)
abbrev wsX1_part : List Cond := Cond.code yX1_part cX1_part 3 (some .int) :: gk_BG
set_option maxRecDepth 20000 in
theorem im_X1_heldBy : Cond.instanceMethod yX1_heldBy ∈ gk_BG := gk_bg 178 (by decide +kernel) (by decide +kernel)
set_option maxRecDepth 20000 in
theorem se_X1_heldBy : Cond.selects RX1 yX1_heldBy yX1_heldBy ∈ gk_BG := gk_bg 179 (by decide +kernel) (by decide +kernel)
set_option maxRecDepth 20000 in
theorem co_X1_heldBy : Cond.code yX1_heldBy cX1_heldBy 4 (some .int) ∈ gk_BG := gk_bg 180 (by decide +kernel) (by decide +kernel)
abbrev wsX1_heldBy : List Cond := Cond.code yX1_heldBy cX1_heldBy 4 (some .int) :: gk_BG
set_option maxRecDepth 20000 in
theorem im_X1_hadWith : Cond.instanceMethod yX1_hadWith ∈ gk_BG := gk_bg 410 (by decide +kernel) (by decide +kernel)
set_option maxRecDepth 20000 in
theorem se_X1_hadWith : Cond.selects RX1 yX1_hadWith yX1_hadWith ∈ gk_BG := gk_bg 411 (by decide +kernel) (by decide +kernel)
set_option maxRecDepth 20000 in
theorem co_X1_hadWith : Cond.code yX1_hadWith cX1_hadWith 5 (some .int) ∈ gk_BG := gk_bg 412 (by decide +kernel) (by decide +kernel)
abbrev wsX1_hadWith : List Cond := Cond.code yX1_hadWith cX1_hadWith 5 (some .int) :: gk_BG
set_option maxRecDepth 20000 in
theorem im_X1_nearBy : Cond.instanceMethod yX1_nearBy ∈ gk_BG := gk_bg 171 (by decide +kernel) (by decide +kernel)
set_option maxRecDepth 20000 in
theorem se_X1_nearBy : Cond.selects RX1 yX1_nearBy yX1_nearBy ∈ gk_BG := gk_bg 172 (by decide +kernel) (by decide +kernel)
set_option maxRecDepth 20000 in
theorem co_X1_nearBy : Cond.code yX1_nearBy cX1_nearBy 5 (some .int) ∈ gk_BG := gk_bg 173 (by decide +kernel) (by decide +kernel)
abbrev wsX1_nearBy : List Cond := Cond.code yX1_nearBy cX1_nearBy 5 (some .int) :: gk_BG
set_option maxRecDepth 20000 in
theorem im_X1_isSplit : Cond.instanceMethod yX1_isSplit ∈ gk_BG := gk_bg 414 (by decide +kernel) (by decide +kernel)
set_option maxRecDepth 20000 in
theorem se_X1_isSplit : Cond.selects RX1 yX1_isSplit yX1_isSplit ∈ gk_BG := gk_bg 415 (by decide +kernel) (by decide +kernel)
set_option maxRecDepth 20000 in
theorem co_X1_isSplit : Cond.code yX1_isSplit cX1_isSplit 3 (some .boolean) ∈ gk_BG := gk_bg 416 (by decide +kernel) (by decide +kernel)
abbrev wsX1_isSplit : List Cond := Cond.code yX1_isSplit cX1_isSplit 3 (some .boolean) :: gk_BG
set_option maxRecDepth 20000 in
theorem im_X2_init : Cond.instanceMethod yX2_init ∈ gk_BG := gk_bg 494 (by decide +kernel) (by decide +kernel)
set_option maxRecDepth 20000 in
theorem co_X2_init : Cond.code yX2_init cX2_init 3 none ∈ gk_BG := gk_bg 495 (by decide +kernel) (by decide +kernel)
abbrev wsX2_init : List Cond := Cond.code yX2_init cX2_init 3 none :: gk_BG
set_option maxRecDepth 20000 in
theorem im_X2_at : Cond.instanceMethod yX2_at ∈ gk_BG := gk_bg 151 (by decide +kernel) (by decide +kernel)
set_option maxRecDepth 20000 in
theorem se_X2_at : Cond.selects RX2 yX2_at yX2_at ∈ gk_BG := gk_bg 152 (by decide +kernel) (by decide +kernel)
set_option maxRecDepth 20000 in
theorem co_X2_at : Cond.code yX2_at cX2_at 2 (some .int) ∈ gk_BG := gk_bg 153 (by decide +kernel) (by decide +kernel)
abbrev wsX2_at : List Cond := Cond.code yX2_at cX2_at 2 (some .int) :: gk_BG
set_option maxRecDepth 20000 in
theorem im_X2_put : Cond.instanceMethod yX2_put ∈ gk_BG := gk_bg 155 (by decide +kernel) (by decide +kernel)
set_option maxRecDepth 20000 in
theorem se_X2_put : Cond.selects RX2 yX2_put yX2_put ∈ gk_BG := gk_bg 156 (by decide +kernel) (by decide +kernel)
set_option maxRecDepth 20000 in
theorem co_X2_put : Cond.code yX2_put cX2_put 3 none ∈ gk_BG := gk_bg 157 (by decide +kernel) (by decide +kernel)
abbrev wsX2_put : List Cond := Cond.code yX2_put cX2_put 3 none :: gk_BG
set_option maxRecDepth 20000 in
theorem im_X2_takeOut : Cond.instanceMethod yX2_takeOut ∈ gk_BG := gk_bg 209 (by decide +kernel) (by decide +kernel)
set_option maxRecDepth 20000 in
theorem se_X2_takeOut : Cond.selects RX2 yX2_takeOut yX2_takeOut ∈ gk_BG := gk_bg 210 (by decide +kernel) (by decide +kernel)
set_option maxRecDepth 20000 in
theorem co_X2_takeOut : Cond.code yX2_takeOut cX2_takeOut 3 none ∈ gk_BG := gk_bg 211 (by decide +kernel) (by decide +kernel)
abbrev wsX2_takeOut : List Cond := Cond.code yX2_takeOut cX2_takeOut 3 none :: gk_BG
set_option maxRecDepth 20000 in
theorem im_X2_clear : Cond.instanceMethod yX2_clear ∈ gk_BG := gk_bg 240 (by decide +kernel) (by decide +kernel)
set_option maxRecDepth 20000 in
theorem se_X2_clear : Cond.selects RX2 yX2_clear yX2_clear ∈ gk_BG := gk_bg 241 (by decide +kernel) (by decide +kernel)
set_option maxRecDepth 20000 in
theorem co_X2_clear : Cond.code yX2_clear cX2_clear 1 none ∈ gk_BG := gk_bg 242 (by decide +kernel) (by decide +kernel)
abbrev wsX2_clear : List Cond := Cond.code yX2_clear cX2_clear 1 none :: gk_BG
set_option maxRecDepth 20000 in
theorem im_X3_init : Cond.instanceMethod yX3_init ∈ gk_BG := gk_bg 588 (by decide +kernel) (by decide +kernel)
set_option maxRecDepth 20000 in
theorem co_X3_init : Cond.code yX3_init cX3_init 1 none ∈ gk_BG := gk_bg 589 (by decide +kernel) (by decide +kernel)
abbrev wsX3_init : List Cond := Cond.code yX3_init cX3_init 1 none :: gk_BG
set_option maxRecDepth 20000 in
theorem im_X3_add : Cond.instanceMethod yX3_add ∈ gk_BG := gk_bg 986 (by decide +kernel) (by decide +kernel)
set_option maxRecDepth 20000 in
theorem se_X3_add : Cond.selects RX3 yX3_add yX3_add ∈ gk_BG := gk_bg 987 (by decide +kernel) (by decide +kernel)
set_option maxRecDepth 20000 in
theorem co_X3_add : Cond.code yX3_add cX3_add 6 (some .int) ∈ gk_BG := gk_bg 988 (by decide +kernel) (by decide +kernel)
abbrev wsX3_add : List Cond := Cond.code yX3_add cX3_add 6 (some .int) :: gk_BG
set_option maxRecDepth 20000 in
theorem im_X3_drop : Cond.instanceMethod yX3_drop ∈ gk_BG := gk_bg 205 (by decide +kernel) (by decide +kernel)
set_option maxRecDepth 20000 in
theorem se_X3_drop : Cond.selects RX3 yX3_drop yX3_drop ∈ gk_BG := gk_bg 206 (by decide +kernel) (by decide +kernel)
set_option maxRecDepth 20000 in
theorem co_X3_drop : Cond.code yX3_drop cX3_drop 2 (some .int) ∈ gk_BG := gk_bg 207 (by decide +kernel) (by decide +kernel)
abbrev wsX3_drop : List Cond := Cond.code yX3_drop cX3_drop 2 (some .int) :: gk_BG
set_option maxRecDepth 20000 in
theorem im_X3_holdsIn : Cond.instanceMethod yX3_holdsIn ∈ gk_BG := gk_bg 252 (by decide +kernel) (by decide +kernel)
set_option maxRecDepth 20000 in
theorem se_X3_holdsIn : Cond.selects RX3 yX3_holdsIn yX3_holdsIn ∈ gk_BG := gk_bg 253 (by decide +kernel) (by decide +kernel)
set_option maxRecDepth 20000 in
theorem co_X3_holdsIn : Cond.code yX3_holdsIn cX3_holdsIn 5 (some .boolean) ∈ gk_BG := gk_bg 254 (by decide +kernel) (by decide +kernel)
abbrev wsX3_holdsIn : List Cond := Cond.code yX3_holdsIn cX3_holdsIn 5 (some .boolean) :: gk_BG
set_option maxRecDepth 20000 in
theorem im_X4_init : Cond.instanceMethod yX4_init ∈ gk_BG := gk_bg 482 (by decide +kernel) (by decide +kernel)
set_option maxRecDepth 20000 in
theorem co_X4_init : Cond.code yX4_init cX4_init 1 none ∈ gk_BG := gk_bg 483 (by decide +kernel) (by decide +kernel)
abbrev wsX4_init : List Cond := Cond.code yX4_init cX4_init 1 none :: gk_BG
set_option maxRecDepth 20000 in
theorem im_X4_hour : Cond.instanceMethod yX4_hour ∈ gk_BG := gk_bg 247 (by decide +kernel) (by decide +kernel)
set_option maxRecDepth 20000 in
theorem se_X4_hour : Cond.selects RX4 yX4_hour yX4_hour ∈ gk_BG := gk_bg 248 (by decide +kernel) (by decide +kernel)
set_option maxRecDepth 20000 in
theorem co_X4_hour : Cond.code yX4_hour cX4_hour 1 (some .int) ∈ gk_BG := gk_bg 249 (by decide +kernel) (by decide +kernel)
abbrev wsX4_hour : List Cond := Cond.code yX4_hour cX4_hour 1 (some .int) :: gk_BG
set_option maxRecDepth 20000 in
theorem im_X4_isThere : Cond.instanceMethod yX4_isThere ∈ gk_BG := gk_bg 290 (by decide +kernel) (by decide +kernel)
set_option maxRecDepth 20000 in
theorem se_X4_isThere : Cond.selects RX4 yX4_isThere yX4_isThere ∈ gk_BG := gk_bg 291 (by decide +kernel) (by decide +kernel)
set_option maxRecDepth 20000 in
theorem co_X4_isThere : Cond.code yX4_isThere cX4_isThere 2 (some .boolean) ∈ gk_BG := gk_bg 292 (by decide +kernel) (by decide +kernel)
abbrev wsX4_isThere : List Cond := Cond.code yX4_isThere cX4_isThere 2 (some .boolean) :: gk_BG
set_option maxRecDepth 20000 in
theorem im_X4_isGiven : Cond.instanceMethod yX4_isGiven ∈ gk_BG := gk_bg 323 (by decide +kernel) (by decide +kernel)
set_option maxRecDepth 20000 in
theorem se_X4_isGiven : Cond.selects RX4 yX4_isGiven yX4_isGiven ∈ gk_BG := gk_bg 324 (by decide +kernel) (by decide +kernel)
set_option maxRecDepth 20000 in
theorem co_X4_isGiven : Cond.code yX4_isGiven cX4_isGiven 5 (some .boolean) ∈ gk_BG := gk_bg 325 (by decide +kernel) (by decide +kernel)
abbrev wsX4_isGiven : List Cond := Cond.code yX4_isGiven cX4_isGiven 5 (some .boolean) :: gk_BG
set_option maxRecDepth 20000 in
theorem im_X5_init : Cond.instanceMethod yX5_init ∈ gk_BG := gk_bg 552 (by decide +kernel) (by decide +kernel)
set_option maxRecDepth 20000 in
theorem co_X5_init : Cond.code yX5_init cX5_init 1 none ∈ gk_BG := gk_bg 553 (by decide +kernel) (by decide +kernel)
abbrev wsX5_init : List Cond := Cond.code yX5_init cX5_init 1 none :: gk_BG
set_option maxRecDepth 20000 in
theorem im_X5_add : Cond.instanceMethod yX5_add ∈ gk_BG := gk_bg 907 (by decide +kernel) (by decide +kernel)
set_option maxRecDepth 20000 in
theorem se_X5_add : Cond.selects RX5 yX5_add yX5_add ∈ gk_BG := gk_bg 908 (by decide +kernel) (by decide +kernel)
set_option maxRecDepth 20000 in
theorem co_X5_add : Cond.code yX5_add cX5_add 3 (some .int) ∈ gk_BG := gk_bg 909 (by decide +kernel) (by decide +kernel)
abbrev wsX5_add : List Cond := Cond.code yX5_add cX5_add 3 (some .int) :: gk_BG
set_option maxRecDepth 20000 in
theorem im_X5_isBeneath : Cond.instanceMethod yX5_isBeneath ∈ gk_BG := gk_bg 191 (by decide +kernel) (by decide +kernel)
set_option maxRecDepth 20000 in
theorem se_X5_isBeneath : Cond.selects RX5 yX5_isBeneath yX5_isBeneath ∈ gk_BG := gk_bg 192 (by decide +kernel) (by decide +kernel)
set_option maxRecDepth 20000 in
theorem co_X5_isBeneath : Cond.code yX5_isBeneath cX5_isBeneath 3 (some .boolean) ∈ gk_BG := gk_bg 193 (by decide +kernel) (by decide +kernel)
abbrev wsX5_isBeneath : List Cond := Cond.code yX5_isBeneath cX5_isBeneath 3 (some .boolean) :: gk_BG
set_option maxRecDepth 20000 in
theorem im_X5_farUp : Cond.instanceMethod yX5_farUp ∈ gk_BG := gk_bg 187 (by decide +kernel) (by decide +kernel)
set_option maxRecDepth 20000 in
theorem se_X5_farUp : Cond.selects RX5 yX5_farUp yX5_farUp ∈ gk_BG := gk_bg 188 (by decide +kernel) (by decide +kernel)
set_option maxRecDepth 20000 in
theorem co_X5_farUp : Cond.code yX5_farUp cX5_farUp 3 (some .int) ∈ gk_BG := gk_bg 189 (by decide +kernel) (by decide +kernel)
abbrev wsX5_farUp : List Cond := Cond.code yX5_farUp cX5_farUp 3 (some .int) :: gk_BG
set_option maxRecDepth 20000 in
theorem im_X6_init : Cond.instanceMethod yX6_init ∈ gk_BG := gk_bg 488 (by decide +kernel) (by decide +kernel)
set_option maxRecDepth 20000 in
theorem co_X6_init : Cond.code yX6_init cX6_init 1 none ∈ gk_BG := gk_bg 489 (by decide +kernel) (by decide +kernel)
abbrev wsX6_init : List Cond := Cond.code yX6_init cX6_init 1 none :: gk_BG
set_option maxRecDepth 20000 in
theorem im_X6_add : Cond.instanceMethod yX6_add ∈ gk_BG := gk_bg 891 (by decide +kernel) (by decide +kernel)
set_option maxRecDepth 20000 in
theorem se_X6_add : Cond.selects RX6 yX6_add yX6_add ∈ gk_BG := gk_bg 892 (by decide +kernel) (by decide +kernel)
set_option maxRecDepth 20000 in
theorem co_X6_add : Cond.code yX6_add cX6_add 4 (some .int) ∈ gk_BG := gk_bg 893 (by decide +kernel) (by decide +kernel)
abbrev wsX6_add : List Cond := Cond.code yX6_add cX6_add 4 (some .int) :: gk_BG
set_option maxRecDepth 20000 in
theorem im_X6_doneOn : Cond.instanceMethod yX6_doneOn ∈ gk_BG := gk_bg 268 (by decide +kernel) (by decide +kernel)
set_option maxRecDepth 20000 in
theorem se_X6_doneOn : Cond.selects RX6 yX6_doneOn yX6_doneOn ∈ gk_BG := gk_bg 269 (by decide +kernel) (by decide +kernel)
set_option maxRecDepth 20000 in
theorem co_X6_doneOn : Cond.code yX6_doneOn cX6_doneOn 3 (some .int) ∈ gk_BG := gk_bg 270 (by decide +kernel) (by decide +kernel)
abbrev wsX6_doneOn : List Cond := Cond.code yX6_doneOn cX6_doneOn 3 (some .int) :: gk_BG
set_option maxRecDepth 20000 in
theorem im_X6_note : Cond.instanceMethod yX6_note ∈ gk_BG := gk_bg 367 (by decide +kernel) (by decide +kernel)
set_option maxRecDepth 20000 in
theorem se_X6_note : Cond.selects RX6 yX6_note yX6_note ∈ gk_BG := gk_bg 368 (by decide +kernel) (by decide +kernel)
set_option maxRecDepth 20000 in
theorem co_X6_note : Cond.code yX6_note cX6_note 4 none ∈ gk_BG := gk_bg 369 (by decide +kernel) (by decide +kernel)
abbrev wsX6_note : List Cond := Cond.code yX6_note cX6_note 4 none :: gk_BG
set_option maxRecDepth 20000 in
theorem im_X7_init : Cond.instanceMethod yX7_init ∈ gk_BG := gk_bg 713 (by decide +kernel) (by decide +kernel)
set_option maxRecDepth 20000 in
theorem co_X7_init : Cond.code yX7_init cX7_init 2 none ∈ gk_BG := gk_bg 714 (by decide +kernel) (by decide +kernel)
abbrev wsX7_init : List Cond := Cond.code yX7_init cX7_init 2 none :: gk_BG
set_option maxRecDepth 20000 in
theorem im_X7_look : Cond.instanceMethod yX7_look ∈ gk_BG := gk_bg 231 (by decide +kernel) (by decide +kernel)
set_option maxRecDepth 20000 in
theorem se_X7_look : Cond.selects RX7 yX7_look yX7_look ∈ gk_BG := gk_bg 232 (by decide +kernel) (by decide +kernel)
set_option maxRecDepth 20000 in
theorem co_X7_look : Cond.code yX7_look cX7_look 4 none ∈ gk_BG := gk_bg 233 (by decide +kernel) (by decide +kernel)
abbrev wsX7_look : List Cond := Cond.code yX7_look cX7_look 4 none :: gk_BG
set_option maxRecDepth 20000 in
theorem im_X7_lookAtRules : Cond.instanceMethod yX7_lookAtRules ∈ gk_BG := gk_bg 236 (by decide +kernel) (by decide +kernel)
set_option maxRecDepth 20000 in
theorem se_X7_lookAtRules : Cond.selects RX7 yX7_lookAtRules yX7_lookAtRules ∈ gk_BG := gk_bg 6 (by decide +kernel) (by decide +kernel)
set_option maxRecDepth 20000 in
theorem co_X7_lookAtRules : Cond.code yX7_lookAtRules cX7_lookAtRules 4 none ∈ gk_BG := gk_bg 238 (by decide +kernel) (by decide +kernel)
abbrev wsX7_lookAtRules : List Cond := Cond.code yX7_lookAtRules cX7_lookAtRules 4 none :: gk_BG
set_option maxRecDepth 20000 in
theorem im_X7_lookWhere : Cond.instanceMethod yX7_lookWhere ∈ gk_BG := gk_bg 259 (by decide +kernel) (by decide +kernel)
set_option maxRecDepth 20000 in
theorem se_X7_lookWhere : Cond.selects RX7 yX7_lookWhere yX7_lookWhere ∈ gk_BG := gk_bg 7 (by decide +kernel) (by decide +kernel)
set_option maxRecDepth 20000 in
theorem co_X7_lookWhere : Cond.code yX7_lookWhere cX7_lookWhere 6 none ∈ gk_BG := gk_bg 260 (by decide +kernel) (by decide +kernel)
abbrev wsX7_lookWhere : List Cond := Cond.code yX7_lookWhere cX7_lookWhere 6 none :: gk_BG
set_option maxRecDepth 20000 in
theorem im_X7_lookAtWalls : Cond.instanceMethod yX7_lookAtWalls ∈ gk_BG := gk_bg 265 (by decide +kernel) (by decide +kernel)
set_option maxRecDepth 20000 in
theorem se_X7_lookAtWalls : Cond.selects RX7 yX7_lookAtWalls yX7_lookAtWalls ∈ gk_BG := gk_bg 8 (by decide +kernel) (by decide +kernel)
set_option maxRecDepth 20000 in
theorem co_X7_lookAtWalls : Cond.code yX7_lookAtWalls cX7_lookAtWalls 5 none ∈ gk_BG := gk_bg 266 (by decide +kernel) (by decide +kernel)
abbrev wsX7_lookAtWalls : List Cond := Cond.code yX7_lookAtWalls cX7_lookAtWalls 5 none :: gk_BG
set_option maxRecDepth 20000 in
theorem im_X7_giveSet : Cond.instanceMethod yX7_giveSet ∈ gk_BG := gk_bg 273 (by decide +kernel) (by decide +kernel)
set_option maxRecDepth 20000 in
theorem se_X7_giveSet : Cond.selects RX7 yX7_giveSet yX7_giveSet ∈ gk_BG := gk_bg 274 (by decide +kernel) (by decide +kernel)
set_option maxRecDepth 20000 in
theorem co_X7_giveSet : Cond.code yX7_giveSet cX7_giveSet 8 none ∈ gk_BG := gk_bg 275 (by decide +kernel) (by decide +kernel)
abbrev wsX7_giveSet : List Cond := Cond.code yX7_giveSet cX7_giveSet 8 none :: gk_BG
set_option maxRecDepth 20000 in
theorem im_X7_stepsTo : Cond.instanceMethod yX7_stepsTo ∈ gk_BG := gk_bg 278 (by decide +kernel) (by decide +kernel)
set_option maxRecDepth 20000 in
theorem se_X7_stepsTo : Cond.selects RX7 yX7_stepsTo yX7_stepsTo ∈ gk_BG := gk_bg 9 (by decide +kernel) (by decide +kernel)
set_option maxRecDepth 20000 in
theorem co_X7_stepsTo : Cond.code yX7_stepsTo cX7_stepsTo 5 (some .int) ∈ gk_BG := gk_bg 279 (by decide +kernel) (by decide +kernel)
abbrev wsX7_stepsTo : List Cond := Cond.code yX7_stepsTo cX7_stepsTo 5 (some .int) :: gk_BG
set_option maxRecDepth 20000 in
theorem im_X7_weightOf : Cond.instanceMethod yX7_weightOf ∈ gk_BG := gk_bg 283 (by decide +kernel) (by decide +kernel)
set_option maxRecDepth 20000 in
theorem se_X7_weightOf : Cond.selects RX7 yX7_weightOf yX7_weightOf ∈ gk_BG := gk_bg 10 (by decide +kernel) (by decide +kernel)
set_option maxRecDepth 20000 in
theorem co_X7_weightOf : Cond.code yX7_weightOf cX7_weightOf 5 (some .int) ∈ gk_BG := gk_bg 284 (by decide +kernel) (by decide +kernel)
abbrev wsX7_weightOf : List Cond := Cond.code yX7_weightOf cX7_weightOf 5 (some .int) :: gk_BG
set_option maxRecDepth 20000 in
theorem im_X7_weighGrants : Cond.instanceMethod yX7_weighGrants ∈ gk_BG := gk_bg 286 (by decide +kernel) (by decide +kernel)
set_option maxRecDepth 20000 in
theorem se_X7_weighGrants : Cond.selects RX7 yX7_weighGrants yX7_weighGrants ∈ gk_BG := gk_bg 287 (by decide +kernel) (by decide +kernel)
set_option maxRecDepth 20000 in
theorem co_X7_weighGrants : Cond.code yX7_weighGrants cX7_weighGrants 2 none ∈ gk_BG := gk_bg 288 (by decide +kernel) (by decide +kernel)
abbrev wsX7_weighGrants : List Cond := Cond.code yX7_weighGrants cX7_weighGrants 2 none :: gk_BG
set_option maxRecDepth 20000 in
theorem im_X7_isByRight : Cond.instanceMethod yX7_isByRight ∈ gk_BG := gk_bg 296 (by decide +kernel) (by decide +kernel)
set_option maxRecDepth 20000 in
theorem se_X7_isByRight : Cond.selects RX7 yX7_isByRight yX7_isByRight ∈ gk_BG := gk_bg 11 (by decide +kernel) (by decide +kernel)
set_option maxRecDepth 20000 in
theorem co_X7_isByRight : Cond.code yX7_isByRight cX7_isByRight 4 (some .boolean) ∈ gk_BG := gk_bg 297 (by decide +kernel) (by decide +kernel)
abbrev wsX7_isByRight : List Cond := Cond.code yX7_isByRight cX7_isByRight 4 (some .boolean) :: gk_BG
set_option maxRecDepth 20000 in
theorem im_X7_isPassedOn : Cond.instanceMethod yX7_isPassedOn ∈ gk_BG := gk_bg 320 (by decide +kernel) (by decide +kernel)
set_option maxRecDepth 20000 in
theorem se_X7_isPassedOn : Cond.selects RX7 yX7_isPassedOn yX7_isPassedOn ∈ gk_BG := gk_bg 15 (by decide +kernel) (by decide +kernel)
set_option maxRecDepth 20000 in
theorem co_X7_isPassedOn : Cond.code yX7_isPassedOn cX7_isPassedOn 6 (some .boolean) ∈ gk_BG := gk_bg 321 (by decide +kernel) (by decide +kernel)
abbrev wsX7_isPassedOn : List Cond := Cond.code yX7_isPassedOn cX7_isPassedOn 6 (some .boolean) :: gk_BG
set_option maxRecDepth 20000 in
theorem im_X7_matching : Cond.instanceMethod yX7_matching ∈ gk_BG := gk_bg 311 (by decide +kernel) (by decide +kernel)
set_option maxRecDepth 20000 in
theorem se_X7_matching : Cond.selects RX7 yX7_matching yX7_matching ∈ gk_BG := gk_bg 312 (by decide +kernel) (by decide +kernel)
set_option maxRecDepth 20000 in
theorem co_X7_matching : Cond.code yX7_matching cX7_matching 4 (some .int) ∈ gk_BG := gk_bg 313 (by decide +kernel) (by decide +kernel)
abbrev wsX7_matching : List Cond := Cond.code yX7_matching cX7_matching 4 (some .int) :: gk_BG
set_option maxRecDepth 20000 in
theorem im_X7_deciding : Cond.instanceMethod yX7_deciding ∈ gk_BG := gk_bg 316 (by decide +kernel) (by decide +kernel)
set_option maxRecDepth 20000 in
theorem se_X7_deciding : Cond.selects RX7 yX7_deciding yX7_deciding ∈ gk_BG := gk_bg 14 (by decide +kernel) (by decide +kernel)
set_option maxRecDepth 20000 in
theorem co_X7_deciding : Cond.code yX7_deciding cX7_deciding 7 (some .int) ∈ gk_BG := gk_bg 317 (by decide +kernel) (by decide +kernel)
abbrev wsX7_deciding : List Cond := Cond.code yX7_deciding cX7_deciding 7 (some .int) :: gk_BG
set_option maxRecDepth 20000 in
theorem im_X7_ruled : Cond.instanceMethod yX7_ruled ∈ gk_BG := gk_bg 299 (by decide +kernel) (by decide +kernel)
set_option maxRecDepth 20000 in
theorem se_X7_ruled : Cond.selects RX7 yX7_ruled yX7_ruled ∈ gk_BG := gk_bg 300 (by decide +kernel) (by decide +kernel)
set_option maxRecDepth 20000 in
theorem co_X7_ruled : Cond.code yX7_ruled cX7_ruled 5 (some .int) ∈ gk_BG := gk_bg 301 (by decide +kernel) (by decide +kernel)
abbrev wsX7_ruled : List Cond := Cond.code yX7_ruled cX7_ruled 5 (some .int) :: gk_BG
set_option maxRecDepth 20000 in
theorem im_X7_isAgainstLabel : Cond.instanceMethod yX7_isAgainstLabel ∈ gk_BG := gk_bg 304 (by decide +kernel) (by decide +kernel)
set_option maxRecDepth 20000 in
theorem se_X7_isAgainstLabel : Cond.selects RX7 yX7_isAgainstLabel yX7_isAgainstLabel ∈ gk_BG := gk_bg 12 (by decide +kernel) (by decide +kernel)
set_option maxRecDepth 20000 in
theorem co_X7_isAgainstLabel : Cond.code yX7_isAgainstLabel cX7_isAgainstLabel 6 (some .boolean) ∈ gk_BG := gk_bg 305 (by decide +kernel) (by decide +kernel)
abbrev wsX7_isAgainstLabel : List Cond := Cond.code yX7_isAgainstLabel cX7_isAgainstLabel 6 (some .boolean) :: gk_BG
set_option maxRecDepth 20000 in
theorem im_X7_isWalledOff : Cond.instanceMethod yX7_isWalledOff ∈ gk_BG := gk_bg 308 (by decide +kernel) (by decide +kernel)
set_option maxRecDepth 20000 in
theorem se_X7_isWalledOff : Cond.selects RX7 yX7_isWalledOff yX7_isWalledOff ∈ gk_BG := gk_bg 13 (by decide +kernel) (by decide +kernel)
set_option maxRecDepth 20000 in
theorem co_X7_isWalledOff : Cond.code yX7_isWalledOff cX7_isWalledOff 5 (some .boolean) ∈ gk_BG := gk_bg 309 (by decide +kernel) (by decide +kernel)
abbrev wsX7_isWalledOff : List Cond := Cond.code yX7_isWalledOff cX7_isWalledOff 5 (some .boolean) :: gk_BG
set_option maxRecDepth 20000 in
theorem im_X7_grantFor : Cond.instanceMethod yX7_grantFor ∈ gk_BG := gk_bg 351 (by decide +kernel) (by decide +kernel)
set_option maxRecDepth 20000 in
theorem se_X7_grantFor : Cond.selects RX7 yX7_grantFor yX7_grantFor ∈ gk_BG := gk_bg 352 (by decide +kernel) (by decide +kernel)
set_option maxRecDepth 20000 in
theorem co_X7_grantFor : Cond.code yX7_grantFor cX7_grantFor 5 (some .int) ∈ gk_BG := gk_bg 353 (by decide +kernel) (by decide +kernel)
abbrev wsX7_grantFor : List Cond := Cond.code yX7_grantFor cX7_grantFor 5 (some .int) :: gk_BG
set_option maxRecDepth 20000 in
theorem im_X7_decided : Cond.instanceMethod yX7_decided ∈ gk_BG := gk_bg 347 (by decide +kernel) (by decide +kernel)
set_option maxRecDepth 20000 in
theorem se_X7_decided : Cond.selects RX7 yX7_decided yX7_decided ∈ gk_BG := gk_bg 348 (by decide +kernel) (by decide +kernel)
set_option maxRecDepth 20000 in
theorem co_X7_decided : Cond.code yX7_decided cX7_decided 5 (some .int) ∈ gk_BG := gk_bg 349 (by decide +kernel) (by decide +kernel)
abbrev wsX7_decided : List Cond := Cond.code yX7_decided cX7_decided 5 (some .int) :: gk_BG
set_option maxRecDepth 20000 in
theorem im_X7_isAllowed : Cond.instanceMethod yX7_isAllowed ∈ gk_BG := gk_bg 382 (by decide +kernel) (by decide +kernel)
set_option maxRecDepth 20000 in
theorem se_X7_isAllowed : Cond.selects RX7 yX7_isAllowed yX7_isAllowed ∈ gk_BG := gk_bg 383 (by decide +kernel) (by decide +kernel)
set_option maxRecDepth 20000 in
theorem co_X7_isAllowed : Cond.code yX7_isAllowed cX7_isAllowed 5 (some .boolean) ∈ gk_BG := gk_bg 384 (by decide +kernel) (by decide +kernel)
abbrev wsX7_isAllowed : List Cond := Cond.code yX7_isAllowed cX7_isAllowed 5 (some .boolean) :: gk_BG
set_option maxRecDepth 20000 in
theorem im_X7_reason : Cond.instanceMethod yX7_reason ∈ gk_BG := gk_bg 359 (by decide +kernel) (by decide +kernel)
set_option maxRecDepth 20000 in
theorem se_X7_reason : Cond.selects RX7 yX7_reason yX7_reason ∈ gk_BG := gk_bg 360 (by decide +kernel) (by decide +kernel)
set_option maxRecDepth 20000 in
theorem co_X7_reason : Cond.code yX7_reason cX7_reason 5 (some .int) ∈ gk_BG := gk_bg 361 (by decide +kernel) (by decide +kernel)
abbrev wsX7_reason : List Cond := Cond.code yX7_reason cX7_reason 5 (some .int) :: gk_BG
set_option maxRecDepth 20000 in
theorem im_X7_allowedTo : Cond.instanceMethod yX7_allowedTo ∈ gk_BG := gk_bg 391 (by decide +kernel) (by decide +kernel)
set_option maxRecDepth 20000 in
theorem se_X7_allowedTo : Cond.selects RX7 yX7_allowedTo yX7_allowedTo ∈ gk_BG := gk_bg 392 (by decide +kernel) (by decide +kernel)
set_option maxRecDepth 20000 in
theorem co_X7_allowedTo : Cond.code yX7_allowedTo cX7_allowedTo 5 (some .int) ∈ gk_BG := gk_bg 393 (by decide +kernel) (by decide +kernel)
abbrev wsX7_allowedTo : List Cond := Cond.code yX7_allowedTo cX7_allowedTo 5 (some .int) :: gk_BG
set_option maxRecDepth 20000 in
theorem im_X7_differences : Cond.instanceMethod yX7_differences ∈ gk_BG := gk_bg 426 (by decide +kernel) (by decide +kernel)
set_option maxRecDepth 20000 in
theorem se_X7_differences : Cond.selects RX7 yX7_differences yX7_differences ∈ gk_BG := gk_bg 427 (by decide +kernel) (by decide +kernel)
set_option maxRecDepth 20000 in
theorem co_X7_differences : Cond.code yX7_differences cX7_differences 6 (some .int) ∈ gk_BG := gk_bg 428 (by decide +kernel) (by decide +kernel)
abbrev wsX7_differences : List Cond := Cond.code yX7_differences cX7_differences 6 (some .int) :: gk_BG
set_option maxRecDepth 20000 in
theorem im_X7_opposedPairs : Cond.instanceMethod yX7_opposedPairs ∈ gk_BG := gk_bg 460 (by decide +kernel) (by decide +kernel)
set_option maxRecDepth 20000 in
theorem se_X7_opposedPairs : Cond.selects RX7 yX7_opposedPairs yX7_opposedPairs ∈ gk_BG := gk_bg 461 (by decide +kernel) (by decide +kernel)
set_option maxRecDepth 20000 in
theorem co_X7_opposedPairs : Cond.code yX7_opposedPairs cX7_opposedPairs 4 (some .int) ∈ gk_BG := gk_bg 462 (by decide +kernel) (by decide +kernel)
abbrev wsX7_opposedPairs : List Cond := Cond.code yX7_opposedPairs cX7_opposedPairs 4 (some .int) :: gk_BG
set_option maxRecDepth 20000 in
theorem im_X7_oppose : Cond.instanceMethod yX7_oppose ∈ gk_BG := gk_bg 465 (by decide +kernel) (by decide +kernel)
set_option maxRecDepth 20000 in
theorem se_X7_oppose : Cond.selects RX7 yX7_oppose yX7_oppose ∈ gk_BG := gk_bg 23 (by decide +kernel) (by decide +kernel)
set_option maxRecDepth 20000 in
theorem co_X7_oppose : Cond.code yX7_oppose cX7_oppose 4 none ∈ gk_BG := gk_bg 466 (by decide +kernel) (by decide +kernel)
abbrev wsX7_oppose : List Cond := Cond.code yX7_oppose cX7_oppose 4 none :: gk_BG
set_option maxRecDepth 20000 in
theorem im_X8_init : Cond.instanceMethod yX8_init ∈ gk_BG := gk_bg 476 (by decide +kernel) (by decide +kernel)
set_option maxRecDepth 20000 in
theorem co_X8_init : Cond.code yX8_init cX8_init 2 none ∈ gk_BG := gk_bg 477 (by decide +kernel) (by decide +kernel)
abbrev wsX8_init : List Cond := Cond.code yX8_init cX8_init 2 none :: gk_BG
set_option maxRecDepth 20000 in
theorem im_X8_addUser : Cond.instanceMethod yX8_addUser ∈ gk_BG := gk_bg 868 (by decide +kernel) (by decide +kernel)
set_option maxRecDepth 20000 in
theorem se_X8_addUser : Cond.selects RX8 yX8_addUser yX8_addUser ∈ gk_BG := gk_bg 869 (by decide +kernel) (by decide +kernel)
set_option maxRecDepth 20000 in
theorem co_X8_addUser : Cond.code yX8_addUser cX8_addUser 3 (some .int) ∈ gk_BG := gk_bg 870 (by decide +kernel) (by decide +kernel)
abbrev wsX8_addUser : List Cond := Cond.code yX8_addUser cX8_addUser 3 (some .int) :: gk_BG
set_option maxRecDepth 20000 in
theorem im_X8_addRole : Cond.instanceMethod yX8_addRole ∈ gk_BG := gk_bg 895 (by decide +kernel) (by decide +kernel)
set_option maxRecDepth 20000 in
theorem se_X8_addRole : Cond.selects RX8 yX8_addRole yX8_addRole ∈ gk_BG := gk_bg 896 (by decide +kernel) (by decide +kernel)
set_option maxRecDepth 20000 in
theorem co_X8_addRole : Cond.code yX8_addRole cX8_addRole 1 (some .int) ∈ gk_BG := gk_bg 897 (by decide +kernel) (by decide +kernel)
abbrev wsX8_addRole : List Cond := Cond.code yX8_addRole cX8_addRole 1 (some .int) :: gk_BG
set_option maxRecDepth 20000 in
theorem im_X8_addResource : Cond.instanceMethod yX8_addResource ∈ gk_BG := gk_bg 903 (by decide +kernel) (by decide +kernel)
set_option maxRecDepth 20000 in
theorem se_X8_addResource : Cond.selects RX8 yX8_addResource yX8_addResource ∈ gk_BG := gk_bg 904 (by decide +kernel) (by decide +kernel)
set_option maxRecDepth 20000 in
theorem co_X8_addResource : Cond.code yX8_addResource cX8_addResource 2 (some .int) ∈ gk_BG := gk_bg 905 (by decide +kernel) (by decide +kernel)
abbrev wsX8_addResource : List Cond := Cond.code yX8_addResource cX8_addResource 2 (some .int) :: gk_BG
set_option maxRecDepth 20000 in
theorem im_X8_setRole : Cond.instanceMethod yX8_setRole ∈ gk_BG := gk_bg 945 (by decide +kernel) (by decide +kernel)
set_option maxRecDepth 20000 in
theorem se_X8_setRole : Cond.selects RX8 yX8_setRole yX8_setRole ∈ gk_BG := gk_bg 946 (by decide +kernel) (by decide +kernel)
set_option maxRecDepth 20000 in
theorem co_X8_setRole : Cond.code yX8_setRole cX8_setRole 6 (some .boolean) ∈ gk_BG := gk_bg 947 (by decide +kernel) (by decide +kernel)
abbrev wsX8_setRole : List Cond := Cond.code yX8_setRole cX8_setRole 6 (some .boolean) :: gk_BG
set_option maxRecDepth 20000 in
theorem im_X8_setHolds : Cond.instanceMethod yX8_setHolds ∈ gk_BG := gk_bg 957 (by decide +kernel) (by decide +kernel)
set_option maxRecDepth 20000 in
theorem se_X8_setHolds : Cond.selects RX8 yX8_setHolds yX8_setHolds ∈ gk_BG := gk_bg 958 (by decide +kernel) (by decide +kernel)
set_option maxRecDepth 20000 in
theorem co_X8_setHolds : Cond.code yX8_setHolds cX8_setHolds 5 (some .boolean) ∈ gk_BG := gk_bg 959 (by decide +kernel) (by decide +kernel)
abbrev wsX8_setHolds : List Cond := Cond.code yX8_setHolds cX8_setHolds 5 (some .boolean) :: gk_BG
set_option maxRecDepth 20000 in
theorem im_X8_setApart : Cond.instanceMethod yX8_setApart ∈ gk_BG := gk_bg 965 (by decide +kernel) (by decide +kernel)
set_option maxRecDepth 20000 in
theorem se_X8_setApart : Cond.selects RX8 yX8_setApart yX8_setApart ∈ gk_BG := gk_bg 966 (by decide +kernel) (by decide +kernel)
set_option maxRecDepth 20000 in
theorem co_X8_setApart : Cond.code yX8_setApart cX8_setApart 3 (some .int) ∈ gk_BG := gk_bg 967 (by decide +kernel) (by decide +kernel)
abbrev wsX8_setApart : List Cond := Cond.code yX8_setApart cX8_setApart 3 (some .int) :: gk_BG
set_option maxRecDepth 20000 in
theorem im_X8_setLabel : Cond.instanceMethod yX8_setLabel ∈ gk_BG := gk_bg 912 (by decide +kernel) (by decide +kernel)
set_option maxRecDepth 20000 in
theorem se_X8_setLabel : Cond.selects RX8 yX8_setLabel yX8_setLabel ∈ gk_BG := gk_bg 913 (by decide +kernel) (by decide +kernel)
set_option maxRecDepth 20000 in
theorem co_X8_setLabel : Cond.code yX8_setLabel cX8_setLabel 4 (some .int) ∈ gk_BG := gk_bg 914 (by decide +kernel) (by decide +kernel)
abbrev wsX8_setLabel : List Cond := Cond.code yX8_setLabel cX8_setLabel 4 (some .int) :: gk_BG
set_option maxRecDepth 20000 in
theorem im_X8_setWall : Cond.instanceMethod yX8_setWall ∈ gk_BG := gk_bg 47 (by decide +kernel) (by decide +kernel)
set_option maxRecDepth 20000 in
theorem se_X8_setWall : Cond.selects RX8 yX8_setWall yX8_setWall ∈ gk_BG := gk_bg 48 (by decide +kernel) (by decide +kernel)
set_option maxRecDepth 20000 in
theorem co_X8_setWall : Cond.code yX8_setWall cX8_setWall 5 (some .boolean) ∈ gk_BG := gk_bg 49 (by decide +kernel) (by decide +kernel)
abbrev wsX8_setWall : List Cond := Cond.code yX8_setWall cX8_setWall 5 (some .boolean) :: gk_BG
set_option maxRecDepth 20000 in
theorem im_X8_users : Cond.instanceMethod yX8_users ∈ gk_BG := gk_bg 916 (by decide +kernel) (by decide +kernel)
set_option maxRecDepth 20000 in
theorem se_X8_users : Cond.selects RX8 yX8_users yX8_users ∈ gk_BG := gk_bg 917 (by decide +kernel) (by decide +kernel)
set_option maxRecDepth 20000 in
theorem co_X8_users : Cond.code yX8_users cX8_users 1 (some .int) ∈ gk_BG := gk_bg 918 (by decide +kernel) (by decide +kernel)
abbrev wsX8_users : List Cond := Cond.code yX8_users cX8_users 1 (some .int) :: gk_BG
set_option maxRecDepth 20000 in
theorem im_X8_roles : Cond.instanceMethod yX8_roles ∈ gk_BG := gk_bg 920 (by decide +kernel) (by decide +kernel)
set_option maxRecDepth 20000 in
theorem se_X8_roles : Cond.selects RX8 yX8_roles yX8_roles ∈ gk_BG := gk_bg 921 (by decide +kernel) (by decide +kernel)
set_option maxRecDepth 20000 in
theorem co_X8_roles : Cond.code yX8_roles cX8_roles 1 (some .int) ∈ gk_BG := gk_bg 922 (by decide +kernel) (by decide +kernel)
abbrev wsX8_roles : List Cond := Cond.code yX8_roles cX8_roles 1 (some .int) :: gk_BG
set_option maxRecDepth 20000 in
theorem im_X8_resources : Cond.instanceMethod yX8_resources ∈ gk_BG := gk_bg 924 (by decide +kernel) (by decide +kernel)
set_option maxRecDepth 20000 in
theorem se_X8_resources : Cond.selects RX8 yX8_resources yX8_resources ∈ gk_BG := gk_bg 925 (by decide +kernel) (by decide +kernel)
set_option maxRecDepth 20000 in
theorem co_X8_resources : Cond.code yX8_resources cX8_resources 1 (some .int) ∈ gk_BG := gk_bg 926 (by decide +kernel) (by decide +kernel)
abbrev wsX8_resources : List Cond := Cond.code yX8_resources cX8_resources 1 (some .int) :: gk_BG
set_option maxRecDepth 20000 in
theorem im_X8_near : Cond.instanceMethod yX8_near ∈ gk_BG := gk_bg 159 (by decide +kernel) (by decide +kernel)
set_option maxRecDepth 20000 in
theorem se_X8_near : Cond.selects RX8 yX8_near yX8_near ∈ gk_BG := gk_bg 160 (by decide +kernel) (by decide +kernel)
set_option maxRecDepth 20000 in
theorem co_X8_near : Cond.code yX8_near cX8_near 3 (some .int) ∈ gk_BG := gk_bg 161 (by decide +kernel) (by decide +kernel)
abbrev wsX8_near : List Cond := Cond.code yX8_near cX8_near 3 (some .int) :: gk_BG
set_option maxRecDepth 20000 in
theorem im_X8_far : Cond.instanceMethod yX8_far ∈ gk_BG := gk_bg 183 (by decide +kernel) (by decide +kernel)
set_option maxRecDepth 20000 in
theorem se_X8_far : Cond.selects RX8 yX8_far yX8_far ∈ gk_BG := gk_bg 184 (by decide +kernel) (by decide +kernel)
set_option maxRecDepth 20000 in
theorem co_X8_far : Cond.code yX8_far cX8_far 3 (some .int) ∈ gk_BG := gk_bg 185 (by decide +kernel) (by decide +kernel)
abbrev wsX8_far : List Cond := Cond.code yX8_far cX8_far 3 (some .int) :: gk_BG
set_option maxRecDepth 20000 in
theorem im_X8_addRule : Cond.instanceMethod yX8_addRule ∈ gk_BG := gk_bg 982 (by decide +kernel) (by decide +kernel)
set_option maxRecDepth 20000 in
theorem se_X8_addRule : Cond.selects RX8 yX8_addRule yX8_addRule ∈ gk_BG := gk_bg 983 (by decide +kernel) (by decide +kernel)
set_option maxRecDepth 20000 in
theorem co_X8_addRule : Cond.code yX8_addRule cX8_addRule 5 (some .int) ∈ gk_BG := gk_bg 984 (by decide +kernel) (by decide +kernel)
abbrev wsX8_addRule : List Cond := Cond.code yX8_addRule cX8_addRule 5 (some .int) :: gk_BG
set_option maxRecDepth 20000 in
theorem im_X8_setRule : Cond.instanceMethod yX8_setRule ∈ gk_BG := gk_bg 991 (by decide +kernel) (by decide +kernel)
set_option maxRecDepth 20000 in
theorem se_X8_setRule : Cond.selects RX8 yX8_setRule yX8_setRule ∈ gk_BG := gk_bg 992 (by decide +kernel) (by decide +kernel)
set_option maxRecDepth 20000 in
theorem co_X8_setRule : Cond.code yX8_setRule cX8_setRule 5 (some .int) ∈ gk_BG := gk_bg 993 (by decide +kernel) (by decide +kernel)
abbrev wsX8_setRule : List Cond := Cond.code yX8_setRule cX8_setRule 5 (some .int) :: gk_BG
set_option maxRecDepth 20000 in
theorem im_X8_setTerms : Cond.instanceMethod yX8_setTerms ∈ gk_BG := gk_bg 995 (by decide +kernel) (by decide +kernel)
set_option maxRecDepth 20000 in
theorem se_X8_setTerms : Cond.selects RX8 yX8_setTerms yX8_setTerms ∈ gk_BG := gk_bg 996 (by decide +kernel) (by decide +kernel)
set_option maxRecDepth 20000 in
theorem co_X8_setTerms : Cond.code yX8_setTerms cX8_setTerms 6 (some .int) ∈ gk_BG := gk_bg 997 (by decide +kernel) (by decide +kernel)
abbrev wsX8_setTerms : List Cond := Cond.code yX8_setTerms cX8_setTerms 6 (some .int) :: gk_BG
set_option maxRecDepth 20000 in
theorem im_X8_dropRule : Cond.instanceMethod yX8_dropRule ∈ gk_BG := gk_bg 197 (by decide +kernel) (by decide +kernel)
set_option maxRecDepth 20000 in
theorem se_X8_dropRule : Cond.selects RX8 yX8_dropRule yX8_dropRule ∈ gk_BG := gk_bg 198 (by decide +kernel) (by decide +kernel)
set_option maxRecDepth 20000 in
theorem co_X8_dropRule : Cond.code yX8_dropRule cX8_dropRule 2 (some .int) ∈ gk_BG := gk_bg 199 (by decide +kernel) (by decide +kernel)
abbrev wsX8_dropRule : List Cond := Cond.code yX8_dropRule cX8_dropRule 2 (some .int) :: gk_BG
set_option maxRecDepth 20000 in
theorem im_X8_setWeighing : Cond.instanceMethod yX8_setWeighing ∈ gk_BG := gk_bg 216 (by decide +kernel) (by decide +kernel)
set_option maxRecDepth 20000 in
theorem se_X8_setWeighing : Cond.selects RX8 yX8_setWeighing yX8_setWeighing ∈ gk_BG := gk_bg 217 (by decide +kernel) (by decide +kernel)
set_option maxRecDepth 20000 in
theorem co_X8_setWeighing : Cond.code yX8_setWeighing cX8_setWeighing 3 (some .int) ∈ gk_BG := gk_bg 218 (by decide +kernel) (by decide +kernel)
abbrev wsX8_setWeighing : List Cond := Cond.code yX8_setWeighing cX8_setWeighing 3 (some .int) :: gk_BG
set_option maxRecDepth 20000 in
theorem im_X8_matches : Cond.instanceMethod yX8_matches ∈ gk_BG := gk_bg 220 (by decide +kernel) (by decide +kernel)
set_option maxRecDepth 20000 in
theorem se_X8_matches : Cond.selects RX8 yX8_matches yX8_matches ∈ gk_BG := gk_bg 221 (by decide +kernel) (by decide +kernel)
set_option maxRecDepth 20000 in
theorem co_X8_matches : Cond.code yX8_matches cX8_matches 5 (some .boolean) ∈ gk_BG := gk_bg 222 (by decide +kernel) (by decide +kernel)
abbrev wsX8_matches : List Cond := Cond.code yX8_matches cX8_matches 5 (some .boolean) :: gk_BG
set_option maxRecDepth 20000 in
theorem im_X8_goOn : Cond.instanceMethod yX8_goOn ∈ gk_BG := gk_bg 330 (by decide +kernel) (by decide +kernel)
set_option maxRecDepth 20000 in
theorem se_X8_goOn : Cond.selects RX8 yX8_goOn yX8_goOn ∈ gk_BG := gk_bg 331 (by decide +kernel) (by decide +kernel)
set_option maxRecDepth 20000 in
theorem co_X8_goOn : Cond.code yX8_goOn cX8_goOn 2 (some .int) ∈ gk_BG := gk_bg 332 (by decide +kernel) (by decide +kernel)
abbrev wsX8_goOn : List Cond := Cond.code yX8_goOn cX8_goOn 2 (some .int) :: gk_BG
set_option maxRecDepth 20000 in
theorem im_X8_grant : Cond.instanceMethod yX8_grant ∈ gk_BG := gk_bg 1003 (by decide +kernel) (by decide +kernel)
set_option maxRecDepth 20000 in
theorem se_X8_grant : Cond.selects RX8 yX8_grant yX8_grant ∈ gk_BG := gk_bg 1004 (by decide +kernel) (by decide +kernel)
set_option maxRecDepth 20000 in
theorem co_X8_grant : Cond.code yX8_grant cX8_grant 7 (some .int) ∈ gk_BG := gk_bg 1005 (by decide +kernel) (by decide +kernel)
abbrev wsX8_grant : List Cond := Cond.code yX8_grant cX8_grant 7 (some .int) :: gk_BG
set_option maxRecDepth 20000 in
theorem im_X8_isGood : Cond.instanceMethod yX8_isGood ∈ gk_BG := gk_bg 335 (by decide +kernel) (by decide +kernel)
set_option maxRecDepth 20000 in
theorem se_X8_isGood : Cond.selects RX8 yX8_isGood yX8_isGood ∈ gk_BG := gk_bg 336 (by decide +kernel) (by decide +kernel)
set_option maxRecDepth 20000 in
theorem co_X8_isGood : Cond.code yX8_isGood cX8_isGood 2 (some .boolean) ∈ gk_BG := gk_bg 337 (by decide +kernel) (by decide +kernel)
abbrev wsX8_isGood : List Cond := Cond.code yX8_isGood cX8_isGood 2 (some .boolean) :: gk_BG
set_option maxRecDepth 20000 in
theorem im_X8_decide : Cond.instanceMethod yX8_decide ∈ gk_BG := gk_bg 343 (by decide +kernel) (by decide +kernel)
set_option maxRecDepth 20000 in
theorem se_X8_decide : Cond.selects RX8 yX8_decide yX8_decide ∈ gk_BG := gk_bg 344 (by decide +kernel) (by decide +kernel)
set_option maxRecDepth 20000 in
theorem co_X8_decide : Cond.code yX8_decide cX8_decide 4 (some .int) ∈ gk_BG := gk_bg 345 (by decide +kernel) (by decide +kernel)
abbrev wsX8_decide : List Cond := Cond.code yX8_decide cX8_decide 4 (some .int) :: gk_BG
set_option maxRecDepth 20000 in
theorem im_X8_why : Cond.instanceMethod yX8_why ∈ gk_BG := gk_bg 355 (by decide +kernel) (by decide +kernel)
set_option maxRecDepth 20000 in
theorem se_X8_why : Cond.selects RX8 yX8_why yX8_why ∈ gk_BG := gk_bg 356 (by decide +kernel) (by decide +kernel)
set_option maxRecDepth 20000 in
theorem co_X8_why : Cond.code yX8_why cX8_why 4 (some .int) ∈ gk_BG := gk_bg 357 (by decide +kernel) (by decide +kernel)
abbrev wsX8_why : List Cond := Cond.code yX8_why cX8_why 4 (some .int) :: gk_BG
set_option maxRecDepth 20000 in
theorem im_X8_access : Cond.instanceMethod yX8_access ∈ gk_BG := gk_bg 363 (by decide +kernel) (by decide +kernel)
set_option maxRecDepth 20000 in
theorem se_X8_access : Cond.selects RX8 yX8_access yX8_access ∈ gk_BG := gk_bg 364 (by decide +kernel) (by decide +kernel)
set_option maxRecDepth 20000 in
theorem co_X8_access : Cond.code yX8_access cX8_access 5 (some .int) ∈ gk_BG := gk_bg 365 (by decide +kernel) (by decide +kernel)
abbrev wsX8_access : List Cond := Cond.code yX8_access cX8_access 5 (some .int) :: gk_BG
set_option maxRecDepth 20000 in
theorem im_X8_done : Cond.instanceMethod yX8_done ∈ gk_BG := gk_bg 373 (by decide +kernel) (by decide +kernel)
set_option maxRecDepth 20000 in
theorem se_X8_done : Cond.selects RX8 yX8_done yX8_done ∈ gk_BG := gk_bg 374 (by decide +kernel) (by decide +kernel)
set_option maxRecDepth 20000 in
theorem co_X8_done : Cond.code yX8_done cX8_done 3 (some .int) ∈ gk_BG := gk_bg 375 (by decide +kernel) (by decide +kernel)
abbrev wsX8_done : List Cond := Cond.code yX8_done cX8_done 3 (some .int) :: gk_BG
set_option maxRecDepth 20000 in
theorem im_X8_who : Cond.instanceMethod yX8_who ∈ gk_BG := gk_bg 378 (by decide +kernel) (by decide +kernel)
set_option maxRecDepth 20000 in
theorem se_X8_who : Cond.selects RX8 yX8_who yX8_who ∈ gk_BG := gk_bg 379 (by decide +kernel) (by decide +kernel)
set_option maxRecDepth 20000 in
theorem co_X8_who : Cond.code yX8_who cX8_who 5 (some .int) ∈ gk_BG := gk_bg 380 (by decide +kernel) (by decide +kernel)
abbrev wsX8_who : List Cond := Cond.code yX8_who cX8_who 5 (some .int) :: gk_BG
set_option maxRecDepth 20000 in
theorem im_X8_reach : Cond.instanceMethod yX8_reach ∈ gk_BG := gk_bg 387 (by decide +kernel) (by decide +kernel)
set_option maxRecDepth 20000 in
theorem se_X8_reach : Cond.selects RX8 yX8_reach yX8_reach ∈ gk_BG := gk_bg 388 (by decide +kernel) (by decide +kernel)
set_option maxRecDepth 20000 in
theorem co_X8_reach : Cond.code yX8_reach cX8_reach 3 (some .int) ∈ gk_BG := gk_bg 389 (by decide +kernel) (by decide +kernel)
abbrev wsX8_reach : List Cond := Cond.code yX8_reach cX8_reach 3 (some .int) :: gk_BG
set_option maxRecDepth 20000 in
theorem im_X8_rolesNeeded : Cond.instanceMethod yX8_rolesNeeded ∈ gk_BG := gk_bg 396 (by decide +kernel) (by decide +kernel)
set_option maxRecDepth 20000 in
theorem se_X8_rolesNeeded : Cond.selects RX8 yX8_rolesNeeded yX8_rolesNeeded ∈ gk_BG := gk_bg 397 (by decide +kernel) (by decide +kernel)
set_option maxRecDepth 20000 in
theorem co_X8_rolesNeeded : Cond.code yX8_rolesNeeded cX8_rolesNeeded 11 (some .int) ∈ gk_BG := gk_bg 398 (by decide +kernel) (by decide +kernel)
abbrev wsX8_rolesNeeded : List Cond := Cond.code yX8_rolesNeeded cX8_rolesNeeded 11 (some .int) :: gk_BG
set_option maxRecDepth 20000 in
theorem im_X8_isIdle : Cond.instanceMethod yX8_isIdle ∈ gk_BG := gk_bg 422 (by decide +kernel) (by decide +kernel)
set_option maxRecDepth 20000 in
theorem se_X8_isIdle : Cond.selects RX8 yX8_isIdle yX8_isIdle ∈ gk_BG := gk_bg 423 (by decide +kernel) (by decide +kernel)
set_option maxRecDepth 20000 in
theorem co_X8_isIdle : Cond.code yX8_isIdle cX8_isIdle 2 (some .boolean) ∈ gk_BG := gk_bg 424 (by decide +kernel) (by decide +kernel)
abbrev wsX8_isIdle : List Cond := Cond.code yX8_isIdle cX8_isIdle 2 (some .boolean) :: gk_BG
set_option maxRecDepth 20000 in
theorem im_X8_openness : Cond.instanceMethod yX8_openness ∈ gk_BG := gk_bg 430 (by decide +kernel) (by decide +kernel)
set_option maxRecDepth 20000 in
theorem se_X8_openness : Cond.selects RX8 yX8_openness yX8_openness ∈ gk_BG := gk_bg 431 (by decide +kernel) (by decide +kernel)
set_option maxRecDepth 20000 in
theorem co_X8_openness : Cond.code yX8_openness cX8_openness 5 (some .double) ∈ gk_BG := gk_bg 432 (by decide +kernel) (by decide +kernel)
abbrev wsX8_openness : List Cond := Cond.code yX8_openness cX8_openness 5 (some .double) :: gk_BG
set_option maxRecDepth 20000 in
theorem im_X8_digest : Cond.instanceMethod yX8_digest ∈ gk_BG := gk_bg 434 (by decide +kernel) (by decide +kernel)
set_option maxRecDepth 20000 in
theorem se_X8_digest : Cond.selects RX8 yX8_digest yX8_digest ∈ gk_BG := gk_bg 435 (by decide +kernel) (by decide +kernel)
set_option maxRecDepth 20000 in
theorem co_X8_digest : Cond.code yX8_digest cX8_digest 4 (some .long) ∈ gk_BG := gk_bg 436 (by decide +kernel) (by decide +kernel)
abbrev wsX8_digest : List Cond := Cond.code yX8_digest cX8_digest 4 (some .long) :: gk_BG
set_option maxRecDepth 20000 in
theorem im_X8_withNumbers : Cond.instanceMethod yX8_withNumbers ∈ gk_BG := gk_bg 440 (by decide +kernel) (by decide +kernel)
set_option maxRecDepth 20000 in
theorem se_X8_withNumbers : Cond.selects RX8 yX8_withNumbers yX8_withNumbers ∈ gk_BG := gk_bg 18 (by decide +kernel) (by decide +kernel)
set_option maxRecDepth 20000 in
theorem co_X8_withNumbers : Cond.code yX8_withNumbers cX8_withNumbers 5 (some .long) ∈ gk_BG := gk_bg 441 (by decide +kernel) (by decide +kernel)
abbrev wsX8_withNumbers : List Cond := Cond.code yX8_withNumbers cX8_withNumbers 5 (some .long) :: gk_BG
set_option maxRecDepth 20000 in
theorem im_X8_withNear : Cond.instanceMethod yX8_withNear ∈ gk_BG := gk_bg 445 (by decide +kernel) (by decide +kernel)
set_option maxRecDepth 20000 in
theorem se_X8_withNear : Cond.selects RX8 yX8_withNear yX8_withNear ∈ gk_BG := gk_bg 19 (by decide +kernel) (by decide +kernel)
set_option maxRecDepth 20000 in
theorem co_X8_withNear : Cond.code yX8_withNear cX8_withNear 7 (some .long) ∈ gk_BG := gk_bg 446 (by decide +kernel) (by decide +kernel)
abbrev wsX8_withNear : List Cond := Cond.code yX8_withNear cX8_withNear 7 (some .long) :: gk_BG
set_option maxRecDepth 20000 in
theorem im_X8_withDecisions : Cond.instanceMethod yX8_withDecisions ∈ gk_BG := gk_bg 449 (by decide +kernel) (by decide +kernel)
set_option maxRecDepth 20000 in
theorem se_X8_withDecisions : Cond.selects RX8 yX8_withDecisions yX8_withDecisions ∈ gk_BG := gk_bg 20 (by decide +kernel) (by decide +kernel)
set_option maxRecDepth 20000 in
theorem co_X8_withDecisions : Cond.code yX8_withDecisions cX8_withDecisions 8 (some .long) ∈ gk_BG := gk_bg 450 (by decide +kernel) (by decide +kernel)
abbrev wsX8_withDecisions : List Cond := Cond.code yX8_withDecisions cX8_withDecisions 8 (some .long) :: gk_BG
set_option maxRecDepth 20000 in
theorem im_X8_withReasons : Cond.instanceMethod yX8_withReasons ∈ gk_BG := gk_bg 453 (by decide +kernel) (by decide +kernel)
set_option maxRecDepth 20000 in
theorem se_X8_withReasons : Cond.selects RX8 yX8_withReasons yX8_withReasons ∈ gk_BG := gk_bg 21 (by decide +kernel) (by decide +kernel)
set_option maxRecDepth 20000 in
theorem co_X8_withReasons : Cond.code yX8_withReasons cX8_withReasons 8 (some .long) ∈ gk_BG := gk_bg 454 (by decide +kernel) (by decide +kernel)
abbrev wsX8_withReasons : List Cond := Cond.code yX8_withReasons cX8_withReasons 8 (some .long) :: gk_BG
set_option maxRecDepth 20000 in
theorem im_X8_withDone : Cond.instanceMethod yX8_withDone ∈ gk_BG := gk_bg 457 (by decide +kernel) (by decide +kernel)
set_option maxRecDepth 20000 in
theorem se_X8_withDone : Cond.selects RX8 yX8_withDone yX8_withDone ∈ gk_BG := gk_bg 22 (by decide +kernel) (by decide +kernel)
set_option maxRecDepth 20000 in
theorem co_X8_withDone : Cond.code yX8_withDone cX8_withDone 7 (some .long) ∈ gk_BG := gk_bg 458 (by decide +kernel) (by decide +kernel)
abbrev wsX8_withDone : List Cond := Cond.code yX8_withDone cX8_withDone 7 (some .long) :: gk_BG
set_option maxRecDepth 20000 in
theorem im_X8_wouldBeAllowed : Cond.instanceMethod yX8_wouldBeAllowed ∈ gk_BG := gk_bg 407 (by decide +kernel) (by decide +kernel)
set_option maxRecDepth 20000 in
theorem se_X8_wouldBeAllowed : Cond.selects RX8 yX8_wouldBeAllowed yX8_wouldBeAllowed ∈ gk_BG := gk_bg 17 (by decide +kernel) (by decide +kernel)
set_option maxRecDepth 20000 in
theorem co_X8_wouldBeAllowed : Cond.code yX8_wouldBeAllowed cX8_wouldBeAllowed 6 (some .boolean) ∈ gk_BG := gk_bg 408 (by decide +kernel) (by decide +kernel)
abbrev wsX8_wouldBeAllowed : List Cond := Cond.code yX8_wouldBeAllowed cX8_wouldBeAllowed 6 (some .boolean) :: gk_BG
set_option maxRecDepth 20000 in
theorem im_X8_wouldSplitSomeone : Cond.instanceMethod yX8_wouldSplitSomeone ∈ gk_BG := gk_bg 962 (by decide +kernel) (by decide +kernel)
set_option maxRecDepth 20000 in
theorem se_X8_wouldSplitSomeone : Cond.selects RX8 yX8_wouldSplitSomeone yX8_wouldSplitSomeone ∈ gk_BG := gk_bg 24 (by decide +kernel) (by decide +kernel)
set_option maxRecDepth 20000 in
theorem co_X8_wouldSplitSomeone : Cond.code yX8_wouldSplitSomeone cX8_wouldSplitSomeone 6 (some .boolean) ∈ gk_BG := gk_bg 963 (by decide +kernel) (by decide +kernel)
abbrev wsX8_wouldSplitSomeone : List Cond := Cond.code yX8_wouldSplitSomeone cX8_wouldSplitSomeone 6 (some .boolean) :: gk_BG
set_option maxRecDepth 20000 in
theorem im_X8_isAnyoneWith : Cond.instanceMethod yX8_isAnyoneWith ∈ gk_BG := gk_bg 970 (by decide +kernel) (by decide +kernel)
set_option maxRecDepth 20000 in
theorem se_X8_isAnyoneWith : Cond.selects RX8 yX8_isAnyoneWith yX8_isAnyoneWith ∈ gk_BG := gk_bg 25 (by decide +kernel) (by decide +kernel)
set_option maxRecDepth 20000 in
theorem co_X8_isAnyoneWith : Cond.code yX8_isAnyoneWith cX8_isAnyoneWith 5 (some .boolean) ∈ gk_BG := gk_bg 971 (by decide +kernel) (by decide +kernel)
abbrev wsX8_isAnyoneWith : List Cond := Cond.code yX8_isAnyoneWith cX8_isAnyoneWith 5 (some .boolean) :: gk_BG
set_option maxRecDepth 20000 in
theorem im_X8_isUser : Cond.instanceMethod yX8_isUser ∈ gk_BG := gk_bg 164 (by decide +kernel) (by decide +kernel)
set_option maxRecDepth 20000 in
theorem se_X8_isUser : Cond.selects RX8 yX8_isUser yX8_isUser ∈ gk_BG := gk_bg 2 (by decide +kernel) (by decide +kernel)
set_option maxRecDepth 20000 in
theorem co_X8_isUser : Cond.code yX8_isUser cX8_isUser 2 (some .boolean) ∈ gk_BG := gk_bg 165 (by decide +kernel) (by decide +kernel)
abbrev wsX8_isUser : List Cond := Cond.code yX8_isUser cX8_isUser 2 (some .boolean) :: gk_BG
set_option maxRecDepth 20000 in
theorem im_X8_isRole : Cond.instanceMethod yX8_isRole ∈ gk_BG := gk_bg 168 (by decide +kernel) (by decide +kernel)
set_option maxRecDepth 20000 in
theorem se_X8_isRole : Cond.selects RX8 yX8_isRole yX8_isRole ∈ gk_BG := gk_bg 3 (by decide +kernel) (by decide +kernel)
set_option maxRecDepth 20000 in
theorem co_X8_isRole : Cond.code yX8_isRole cX8_isRole 2 (some .boolean) ∈ gk_BG := gk_bg 169 (by decide +kernel) (by decide +kernel)
abbrev wsX8_isRole : List Cond := Cond.code yX8_isRole cX8_isRole 2 (some .boolean) :: gk_BG
set_option maxRecDepth 20000 in
theorem im_X8_isResource : Cond.instanceMethod yX8_isResource ∈ gk_BG := gk_bg 52 (by decide +kernel) (by decide +kernel)
set_option maxRecDepth 20000 in
theorem se_X8_isResource : Cond.selects RX8 yX8_isResource yX8_isResource ∈ gk_BG := gk_bg 0 (by decide +kernel) (by decide +kernel)
set_option maxRecDepth 20000 in
theorem co_X8_isResource : Cond.code yX8_isResource cX8_isResource 2 (some .boolean) ∈ gk_BG := gk_bg 54 (by decide +kernel) (by decide +kernel)
abbrev wsX8_isResource : List Cond := Cond.code yX8_isResource cX8_isResource 2 (some .boolean) :: gk_BG
set_option maxRecDepth 20000 in
theorem im_X8_isRule : Cond.instanceMethod yX8_isRule ∈ gk_BG := gk_bg 202 (by decide +kernel) (by decide +kernel)
set_option maxRecDepth 20000 in
theorem se_X8_isRule : Cond.selects RX8 yX8_isRule yX8_isRule ∈ gk_BG := gk_bg 4 (by decide +kernel) (by decide +kernel)
set_option maxRecDepth 20000 in
theorem co_X8_isRule : Cond.code yX8_isRule cX8_isRule 2 (some .boolean) ∈ gk_BG := gk_bg 203 (by decide +kernel) (by decide +kernel)
abbrev wsX8_isRule : List Cond := Cond.code yX8_isRule cX8_isRule 2 (some .boolean) :: gk_BG
set_option maxRecDepth 20000 in
theorem im_X8_isGrant : Cond.instanceMethod yX8_isGrant ∈ gk_BG := gk_bg 340 (by decide +kernel) (by decide +kernel)
set_option maxRecDepth 20000 in
theorem se_X8_isGrant : Cond.selects RX8 yX8_isGrant yX8_isGrant ∈ gk_BG := gk_bg 16 (by decide +kernel) (by decide +kernel)
set_option maxRecDepth 20000 in
theorem co_X8_isGrant : Cond.code yX8_isGrant cX8_isGrant 2 (some .boolean) ∈ gk_BG := gk_bg 341 (by decide +kernel) (by decide +kernel)
abbrev wsX8_isGrant : List Cond := Cond.code yX8_isGrant cX8_isGrant 2 (some .boolean) :: gk_BG
set_option maxRecDepth 20000 in
theorem st_X8_isAction : Cond.static yX8_isAction ∈ gk_BG := gk_bg 228 (by decide +kernel) (by decide +kernel)
set_option maxRecDepth 20000 in
theorem co_X8_isAction : Cond.code yX8_isAction cX8_isAction 1 (some .boolean) ∈ gk_BG := gk_bg 229 (by decide +kernel) (by decide +kernel)
abbrev wsX8_isAction : List Cond := Cond.code yX8_isAction cX8_isAction 1 (some .boolean) :: gk_BG
set_option maxRecDepth 20000 in
theorem st_X8_isUpTo : Cond.static yX8_isUpTo ∈ gk_BG := gk_bg 129 (by decide +kernel) (by decide +kernel)
set_option maxRecDepth 20000 in
theorem co_X8_isUpTo : Cond.code yX8_isUpTo cX8_isUpTo 2 (some .boolean) ∈ gk_BG := gk_bg 130 (by decide +kernel) (by decide +kernel)
abbrev wsX8_isUpTo : List Cond := Cond.code yX8_isUpTo cX8_isUpTo 2 (some .boolean) :: gk_BG
set_option maxRecDepth 20000 in
theorem st_X8_isIn : Cond.static yX8_isIn ∈ gk_BG := gk_bg 175 (by decide +kernel) (by decide +kernel)
set_option maxRecDepth 20000 in
theorem co_X8_isIn : Cond.code yX8_isIn cX8_isIn 2 (some .boolean) ∈ gk_BG := gk_bg 176 (by decide +kernel) (by decide +kernel)
abbrev wsX8_isIn : List Cond := Cond.code yX8_isIn cX8_isIn 2 (some .boolean) :: gk_BG
set_option maxRecDepth 20000 in
theorem im_X8_checkAsked : Cond.instanceMethod yX8_checkAsked ∈ gk_BG := gk_bg 225 (by decide +kernel) (by decide +kernel)
set_option maxRecDepth 20000 in
theorem se_X8_checkAsked : Cond.selects RX8 yX8_checkAsked yX8_checkAsked ∈ gk_BG := gk_bg 5 (by decide +kernel) (by decide +kernel)
set_option maxRecDepth 20000 in
theorem co_X8_checkAsked : Cond.code yX8_checkAsked cX8_checkAsked 4 none ∈ gk_BG := gk_bg 226 (by decide +kernel) (by decide +kernel)
abbrev wsX8_checkAsked : List Cond := Cond.code yX8_checkAsked cX8_checkAsked 4 none :: gk_BG
set_option maxRecDepth 20000 in
theorem st_X8_checkThere : Cond.static yX8_checkThere ∈ gk_BG := gk_bg 56 (by decide +kernel) (by decide +kernel)
set_option maxRecDepth 20000 in
theorem co_X8_checkThere : Cond.code yX8_checkThere cX8_checkThere 1 none ∈ gk_BG := gk_bg 57 (by decide +kernel) (by decide +kernel)
abbrev wsX8_checkThere : List Cond := Cond.code yX8_checkThere cX8_checkThere 1 none :: gk_BG
set_option maxRecDepth 20000 in
theorem st_X8_checkArguments : Cond.static yX8_checkArguments ∈ gk_BG := gk_bg 132 (by decide +kernel) (by decide +kernel)
set_option maxRecDepth 20000 in
theorem co_X8_checkArguments : Cond.code yX8_checkArguments cX8_checkArguments 1 none ∈ gk_BG := gk_bg 133 (by decide +kernel) (by decide +kernel)
abbrev wsX8_checkArguments : List Cond := Cond.code yX8_checkArguments cX8_checkArguments 1 none :: gk_BG
set_option maxRecDepth 20000 in
theorem st_X8_checkState : Cond.static yX8_checkState ∈ gk_BG := gk_bg 872 (by decide +kernel) (by decide +kernel)
set_option maxRecDepth 20000 in
theorem co_X8_checkState : Cond.code yX8_checkState cX8_checkState 1 none ∈ gk_BG := gk_bg 873 (by decide +kernel) (by decide +kernel)
abbrev wsX8_checkState : List Cond := Cond.code yX8_checkState cX8_checkState 1 none :: gk_BG
set_option maxRecDepth 20000 in
theorem im_X9_init : Cond.instanceMethod yX9_init ∈ gk_BG := gk_bg 471 (by decide +kernel) (by decide +kernel)
set_option maxRecDepth 20000 in
theorem co_X9_init : Cond.code yX9_init cX9_init 4 none ∈ gk_BG := gk_bg 472 (by decide +kernel) (by decide +kernel)
abbrev wsX9_init : List Cond := Cond.code yX9_init cX9_init 4 none :: gk_BG
set_option maxRecDepth 20000 in
theorem im_X9_draw : Cond.instanceMethod yX9_draw ∈ gk_BG := gk_bg 851 (by decide +kernel) (by decide +kernel)
set_option maxRecDepth 20000 in
theorem se_X9_draw : Cond.selects RX9 yX9_draw yX9_draw ∈ gk_BG := gk_bg 852 (by decide +kernel) (by decide +kernel)
set_option maxRecDepth 20000 in
theorem co_X9_draw : Cond.code yX9_draw cX9_draw 3 (some .int) ∈ gk_BG := gk_bg 853 (by decide +kernel) (by decide +kernel)
abbrev wsX9_draw : List Cond := Cond.code yX9_draw cX9_draw 3 (some .int) :: gk_BG
set_option maxRecDepth 20000 in
theorem im_X9_make : Cond.instanceMethod yX9_make ∈ gk_BG := gk_bg 863 (by decide +kernel) (by decide +kernel)
set_option maxRecDepth 20000 in
theorem se_X9_make : Cond.selects RX9 yX9_make yX9_make ∈ gk_BG := gk_bg 864 (by decide +kernel) (by decide +kernel)
set_option maxRecDepth 20000 in
theorem co_X9_make : Cond.code yX9_make cX9_make 3 (some .boolean) ∈ gk_BG := gk_bg 865 (by decide +kernel) (by decide +kernel)
abbrev wsX9_make : List Cond := Cond.code yX9_make cX9_make 3 (some .boolean) :: gk_BG
set_option maxRecDepth 20000 in
theorem im_X9_near : Cond.instanceMethod yX9_near ∈ gk_BG := gk_bg 938 (by decide +kernel) (by decide +kernel)
set_option maxRecDepth 20000 in
theorem se_X9_near : Cond.selects RX9 yX9_near yX9_near ∈ gk_BG := gk_bg 939 (by decide +kernel) (by decide +kernel)
set_option maxRecDepth 20000 in
theorem co_X9_near : Cond.code yX9_near cX9_near 6 (some .int) ∈ gk_BG := gk_bg 940 (by decide +kernel) (by decide +kernel)
abbrev wsX9_near : List Cond := Cond.code yX9_near cX9_near 6 (some .int) :: gk_BG
set_option maxRecDepth 20000 in
theorem im_X9_isHeld : Cond.instanceMethod yX9_isHeld ∈ gk_BG := gk_bg 949 (by decide +kernel) (by decide +kernel)
set_option maxRecDepth 20000 in
theorem se_X9_isHeld : Cond.selects RX9 yX9_isHeld yX9_isHeld ∈ gk_BG := gk_bg 950 (by decide +kernel) (by decide +kernel)
set_option maxRecDepth 20000 in
theorem co_X9_isHeld : Cond.code yX9_isHeld cX9_isHeld 5 (some .boolean) ∈ gk_BG := gk_bg 951 (by decide +kernel) (by decide +kernel)
abbrev wsX9_isHeld : List Cond := Cond.code yX9_isHeld cX9_isHeld 5 (some .boolean) :: gk_BG
set_option maxRecDepth 20000 in
theorem im_X9_hasApart : Cond.instanceMethod yX9_hasApart ∈ gk_BG := gk_bg 934 (by decide +kernel) (by decide +kernel)
set_option maxRecDepth 20000 in
theorem se_X9_hasApart : Cond.selects RX9 yX9_hasApart yX9_hasApart ∈ gk_BG := gk_bg 935 (by decide +kernel) (by decide +kernel)
set_option maxRecDepth 20000 in
theorem co_X9_hasApart : Cond.code yX9_hasApart cX9_hasApart 4 (some .boolean) ∈ gk_BG := gk_bg 936 (by decide +kernel) (by decide +kernel)
abbrev wsX9_hasApart : List Cond := Cond.code yX9_hasApart cX9_hasApart 4 (some .boolean) :: gk_BG
set_option maxRecDepth 20000 in
theorem im_X9_anyApart : Cond.instanceMethod yX9_anyApart ∈ gk_BG := gk_bg 953 (by decide +kernel) (by decide +kernel)
set_option maxRecDepth 20000 in
theorem se_X9_anyApart : Cond.selects RX9 yX9_anyApart yX9_anyApart ∈ gk_BG := gk_bg 954 (by decide +kernel) (by decide +kernel)
set_option maxRecDepth 20000 in
theorem co_X9_anyApart : Cond.code yX9_anyApart cX9_anyApart 2 (some .boolean) ∈ gk_BG := gk_bg 955 (by decide +kernel) (by decide +kernel)
abbrev wsX9_anyApart : List Cond := Cond.code yX9_anyApart cX9_anyApart 2 (some .boolean) :: gk_BG
set_option maxRecDepth 20000 in
theorem im_X9_bind : Cond.instanceMethod yX9_bind ∈ gk_BG := gk_bg 928 (by decide +kernel) (by decide +kernel)
set_option maxRecDepth 20000 in
theorem se_X9_bind : Cond.selects RX9 yX9_bind yX9_bind ∈ gk_BG := gk_bg 929 (by decide +kernel) (by decide +kernel)
set_option maxRecDepth 20000 in
theorem co_X9_bind : Cond.codeWith yX9_bind cX9_bind 11 (some .boolean) [(56, 148, 464, 138), (149, 278, 464, 138), (279, 463, 464, 138), (56, 148, 469, 140), (149, 278, 469, 140), (279, 463, 469, 140)] ∈ gk_BG := gk_bg 930 (by decide +kernel) (by decide +kernel)
abbrev wsX9_bind : List Cond := Cond.codeWith yX9_bind cX9_bind 11 (some .boolean) [(56, 148, 464, 138), (149, 278, 464, 138), (279, 463, 464, 138), (56, 148, 469, 140), (149, 278, 469, 140), (279, 463, 469, 140)] :: gk_BG
set_option maxRecDepth 20000 in
theorem im_X9_addRule : Cond.instanceMethod yX9_addRule ∈ gk_BG := gk_bg 978 (by decide +kernel) (by decide +kernel)
set_option maxRecDepth 20000 in
theorem se_X9_addRule : Cond.selects RX9 yX9_addRule yX9_addRule ∈ gk_BG := gk_bg 979 (by decide +kernel) (by decide +kernel)
set_option maxRecDepth 20000 in
theorem co_X9_addRule : Cond.code yX9_addRule cX9_addRule 2 (some .boolean) ∈ gk_BG := gk_bg 980 (by decide +kernel) (by decide +kernel)
abbrev wsX9_addRule : List Cond := Cond.code yX9_addRule cX9_addRule 2 (some .boolean) :: gk_BG
set_option maxRecDepth 20000 in
theorem im_X9_addGrant : Cond.instanceMethod yX9_addGrant ∈ gk_BG := gk_bg 999 (by decide +kernel) (by decide +kernel)
set_option maxRecDepth 20000 in
theorem se_X9_addGrant : Cond.selects RX9 yX9_addGrant yX9_addGrant ∈ gk_BG := gk_bg 1000 (by decide +kernel) (by decide +kernel)
set_option maxRecDepth 20000 in
theorem co_X9_addGrant : Cond.code yX9_addGrant cX9_addGrant 3 (some .boolean) ∈ gk_BG := gk_bg 1001 (by decide +kernel) (by decide +kernel)
abbrev wsX9_addGrant : List Cond := Cond.code yX9_addGrant cX9_addGrant 3 (some .boolean) :: gk_BG
set_option maxRecDepth 20000 in
theorem st_J6_bitCount_0f7a4 : Cond.static yJ6_bitCount_0f7a4 ∈ gk_BG := gk_bg 400 (by decide +kernel) (by decide +kernel)
set_option maxRecDepth 20000 in
theorem co_J6_bitCount_0f7a4 : Cond.code yJ6_bitCount_0f7a4 cJ6_bitCount_0f7a4 1 (some .int) ∈ gk_BG := gk_bg 401 (by decide +kernel) (by decide +kernel)
abbrev wsJ6_bitCount_0f7a4 : List Cond := Cond.code yJ6_bitCount_0f7a4 cJ6_bitCount_0f7a4 1 (some .int) :: gk_BG
set_option maxRecDepth 20000 in
theorem st_J9_max_7cf53 : Cond.static yJ9_max_7cf53 ∈ gk_BG := gk_bg 213 (by decide +kernel) (by decide +kernel)
set_option maxRecDepth 20000 in
theorem co_J9_max_7cf53 : Cond.code yJ9_max_7cf53 cJ9_max_7cf53 2 (some .int) ∈ gk_BG := gk_bg 214 (by decide +kernel) (by decide +kernel)
abbrev wsJ9_max_7cf53 : List Cond := Cond.code yJ9_max_7cf53 cJ9_max_7cf53 2 (some .int) :: gk_BG
set_option maxRecDepth 20000 in
theorem st_J9_min_7cf53 : Cond.static yJ9_min_7cf53 ∈ gk_BG := gk_bg 942 (by decide +kernel) (by decide +kernel)
set_option maxRecDepth 20000 in
theorem co_J9_min_7cf53 : Cond.code yJ9_min_7cf53 cJ9_min_7cf53 2 (some .int) ∈ gk_BG := gk_bg 943 (by decide +kernel) (by decide +kernel)
abbrev wsJ9_min_7cf53 : List Cond := Cond.code yJ9_min_7cf53 cJ9_min_7cf53 2 (some .int) :: gk_BG
set_option maxRecDepth 20000 in
theorem st_J7_fill_53178 : Cond.static yJ7_fill_53178 ∈ gk_BG := gk_bg 244 (by decide +kernel) (by decide +kernel)
set_option maxRecDepth 20000 in
theorem co_J7_fill_53178 : Cond.code yJ7_fill_53178 cJ7_fill_53178 4 none ∈ gk_BG := gk_bg 245 (by decide +kernel) (by decide +kernel)
abbrev wsJ7_fill_53178 : List Cond := Cond.code yJ7_fill_53178 cJ7_fill_53178 4 none :: gk_BG
set_option maxRecDepth 20000 in
theorem st_L_below : Cond.static yL_below ∈ gk_BG := gk_bg 859 (by decide +kernel) (by decide +kernel)
set_option maxRecDepth 20000 in
theorem co_L_below : Cond.code yL_below cL_below 2 (some .int) ∈ gk_BG := gk_bg 860 (by decide +kernel) (by decide +kernel)
abbrev wsL_below : List Cond := Cond.code yL_below cL_below 2 (some .int) :: gk_BG
set_option maxRecDepth 20000 in
theorem st_L_cell : Cond.static yL_cell ∈ gk_BG := gk_bg 855 (by decide +kernel) (by decide +kernel)
set_option maxRecDepth 20000 in
theorem co_L_cell : Cond.code yL_cell cL_cell 2 (some .int) ∈ gk_BG := gk_bg 856 (by decide +kernel) (by decide +kernel)
abbrev wsL_cell : List Cond := Cond.code yL_cell cL_cell 2 (some .int) :: gk_BG
set_option maxRecDepth 20000 in
theorem st_L_table : Cond.static yL_table ∈ gk_BG := gk_bg 1012 (by decide +kernel) (by decide +kernel)
set_option maxRecDepth 20000 in
theorem co_L_table : Cond.code yL_table cL_table 3 (some (.array .int)) ∈ gk_BG := gk_bg 1013 (by decide +kernel) (by decide +kernel)
abbrev wsL_table : List Cond := Cond.code yL_table cL_table 3 (some (.array .int)) :: gk_BG
set_option maxRecDepth 20000 in
theorem st_L_isByOne : Cond.static yL_isByOne ∈ gk_BG := gk_bg 1015 (by decide +kernel) (by decide +kernel)
set_option maxRecDepth 20000 in
theorem co_L_isByOne : Cond.codeWith yL_isByOne cL_isByOne 7 (some .boolean) [(30, 88, 91, 142)] ∈ gk_BG := gk_bg 1016 (by decide +kernel) (by decide +kernel)
abbrev wsL_isByOne : List Cond := Cond.codeWith yL_isByOne cL_isByOne 7 (some .boolean) [(30, 88, 91, 142)] :: gk_BG
set_option maxRecDepth 20000 in
theorem in_X0 : Cond.initialized RX0 ∈ gk_BG := gk_bg 37 (by decide +kernel) (by decide +kernel)
set_option maxRecDepth 20000 in
theorem in_X1 : Cond.initialized RX1 ∈ gk_BG := gk_bg 34 (by decide +kernel) (by decide +kernel)
set_option maxRecDepth 20000 in
theorem in_X2 : Cond.initialized RX2 ∈ gk_BG := gk_bg 31 (by decide +kernel) (by decide +kernel)
set_option maxRecDepth 20000 in
theorem in_X3 : Cond.initialized RX3 ∈ gk_BG := gk_bg 36 (by decide +kernel) (by decide +kernel)
set_option maxRecDepth 20000 in
theorem in_X4 : Cond.initialized RX4 ∈ gk_BG := gk_bg 29 (by decide +kernel) (by decide +kernel)
set_option maxRecDepth 20000 in
theorem in_X5 : Cond.initialized RX5 ∈ gk_BG := gk_bg 35 (by decide +kernel) (by decide +kernel)
set_option maxRecDepth 20000 in
theorem in_X6 : Cond.initialized RX6 ∈ gk_BG := gk_bg 30 (by decide +kernel) (by decide +kernel)
set_option maxRecDepth 20000 in
theorem in_X7 : Cond.initialized RX7 ∈ gk_BG := gk_bg 38 (by decide +kernel) (by decide +kernel)
set_option maxRecDepth 20000 in
theorem in_X8 : Cond.initialized RX8 ∈ gk_BG := gk_bg 28 (by decide +kernel) (by decide +kernel)
set_option maxRecDepth 20000 in
theorem in_X9 : Cond.initialized RX9 ∈ gk_BG := gk_bg 27 (by decide +kernel) (by decide +kernel)
set_option maxRecDepth 20000 in
theorem in_J6 : Cond.initialized RJ6 ∈ gk_BG := gk_bg 45 (by decide +kernel) (by decide +kernel)
set_option maxRecDepth 20000 in
theorem in_J9 : Cond.initialized RJ9 ∈ gk_BG := gk_bg 32 (by decide +kernel) (by decide +kernel)
set_option maxRecDepth 20000 in
theorem in_J7 : Cond.initialized RJ7 ∈ gk_BG := gk_bg 33 (by decide +kernel) (by decide +kernel)
set_option maxRecDepth 20000 in
theorem in_L : Cond.initialized RL ∈ gk_BG := gk_bg 26 (by decide +kernel) (by decide +kernel)
set_option maxRecDepth 20000 in
theorem ml_L_50 : Cond.methodLink RL 50 yX8_setWall ∈ gk_BG := gk_bg 46 (by decide +kernel) (by decide +kernel)
set_option maxRecDepth 20000 in
theorem ml_X8_72 : Cond.methodLink RX8 72 yX8_isResource ∈ gk_BG := gk_bg 50 (by decide +kernel) (by decide +kernel)
set_option maxRecDepth 20000 in
theorem it_X8 : Cond.instantiable RX8 4 ∈ gk_BG := gk_bg 53 (by decide +kernel) (by decide +kernel)
set_option maxRecDepth 20000 in
theorem ml_X8_76 : Cond.methodLink RX8 76 yX8_checkThere ∈ gk_BG := gk_bg 55 (by decide +kernel) (by decide +kernel)
set_option maxRecDepth 20000 in
theorem cl_X8_293 : Cond.classLink RX8 293 "java/lang/IndexOutOfBoundsException" ∈ gk_BG := gk_bg 58 (by decide +kernel) (by decide +kernel)
set_option maxRecDepth 20000 in
theorem ml_X8_37 : Cond.methodLink RX8 37 yX8_isUpTo ∈ gk_BG := gk_bg 128 (by decide +kernel) (by decide +kernel)
set_option maxRecDepth 20000 in
theorem ml_X8_41 : Cond.methodLink RX8 41 yX8_checkArguments ∈ gk_BG := gk_bg 131 (by decide +kernel) (by decide +kernel)
set_option maxRecDepth 20000 in
theorem cl_X8_300 : Cond.classLink RX8 300 "java/lang/IllegalArgumentException" ∈ gk_BG := gk_bg 134 (by decide +kernel) (by decide +kernel)
set_option maxRecDepth 20000 in
theorem ml_X8_98 : Cond.methodLink RX8 98 yX2_at ∈ gk_BG := gk_bg 150 (by decide +kernel) (by decide +kernel)
set_option maxRecDepth 20000 in
theorem ml_X8_107 : Cond.methodLink RX8 107 yX2_put ∈ gk_BG := gk_bg 154 (by decide +kernel) (by decide +kernel)
set_option maxRecDepth 20000 in
theorem ml_L_79 : Cond.methodLink RL 79 yX8_near ∈ gk_BG := gk_bg 158 (by decide +kernel) (by decide +kernel)
set_option maxRecDepth 20000 in
theorem ml_X8_89 : Cond.methodLink RX8 89 yX8_isUser ∈ gk_BG := gk_bg 162 (by decide +kernel) (by decide +kernel)
set_option maxRecDepth 20000 in
theorem ml_X8_92 : Cond.methodLink RX8 92 yX8_isRole ∈ gk_BG := gk_bg 166 (by decide +kernel) (by decide +kernel)
set_option maxRecDepth 20000 in
theorem ml_X8_146 : Cond.methodLink RX8 146 yX1_nearBy ∈ gk_BG := gk_bg 170 (by decide +kernel) (by decide +kernel)
set_option maxRecDepth 20000 in
theorem nm_X1_37 : Cond.methodLinkNest RX1 37 yX8_isIn "PolicyGate" ∈ gk_NG := gk_ng 174 (by decide +kernel) (by decide +kernel)
set_option maxRecDepth 20000 in
theorem ml_X1_41 : Cond.methodLink RX1 41 yX1_heldBy ∈ gk_BG := gk_bg 177 (by decide +kernel) (by decide +kernel)
set_option maxRecDepth 20000 in
theorem ml_X1_27 : Cond.methodLink RX1 27 yX2_at ∈ gk_BG := gk_bg 181 (by decide +kernel) (by decide +kernel)
set_option maxRecDepth 20000 in
theorem ml_L_106 : Cond.methodLink RL 106 yX8_far ∈ gk_BG := gk_bg 182 (by decide +kernel) (by decide +kernel)
set_option maxRecDepth 20000 in
theorem ml_X8_149 : Cond.methodLink RX8 149 yX5_farUp ∈ gk_BG := gk_bg 186 (by decide +kernel) (by decide +kernel)
set_option maxRecDepth 20000 in
theorem ml_X5_47 : Cond.methodLink RX5 47 yX5_isBeneath ∈ gk_BG := gk_bg 190 (by decide +kernel) (by decide +kernel)
set_option maxRecDepth 20000 in
theorem ml_X5_36 : Cond.methodLink RX5 36 yX2_at ∈ gk_BG := gk_bg 194 (by decide +kernel) (by decide +kernel)
set_option maxRecDepth 20000 in
theorem nm_X5_43 : Cond.methodLinkNest RX5 43 yX8_isIn "PolicyGate" ∈ gk_NG := gk_ng 195 (by decide +kernel) (by decide +kernel)
set_option maxRecDepth 20000 in
theorem ml_L_129 : Cond.methodLink RL 129 yX8_dropRule ∈ gk_BG := gk_bg 196 (by decide +kernel) (by decide +kernel)
set_option maxRecDepth 20000 in
theorem ml_X8_162 : Cond.methodLink RX8 162 yX8_isRule ∈ gk_BG := gk_bg 200 (by decide +kernel) (by decide +kernel)
set_option maxRecDepth 20000 in
theorem ml_X8_178 : Cond.methodLink RX8 178 yX3_drop ∈ gk_BG := gk_bg 204 (by decide +kernel) (by decide +kernel)
set_option maxRecDepth 20000 in
theorem ml_X3_51 : Cond.methodLink RX3 51 yX2_takeOut ∈ gk_BG := gk_bg 208 (by decide +kernel) (by decide +kernel)
set_option maxRecDepth 20000 in
theorem ml_X2_7 : Cond.methodLink RX2 7 yJ9_max_7cf53 ∈ gk_BG := gk_bg 212 (by decide +kernel) (by decide +kernel)
set_option maxRecDepth 20000 in
theorem ml_L_132 : Cond.methodLink RL 132 yX8_setWeighing ∈ gk_BG := gk_bg 215 (by decide +kernel) (by decide +kernel)
set_option maxRecDepth 20000 in
theorem ml_L_91 : Cond.methodLink RL 91 yX8_matches ∈ gk_BG := gk_bg 219 (by decide +kernel) (by decide +kernel)
set_option maxRecDepth 20000 in
theorem ml_X8_184 : Cond.methodLink RX8 184 yX8_checkAsked ∈ gk_BG := gk_bg 223 (by decide +kernel) (by decide +kernel)
set_option maxRecDepth 20000 in
theorem ml_X8_201 : Cond.methodLink RX8 201 yX8_isAction ∈ gk_BG := gk_bg 227 (by decide +kernel) (by decide +kernel)
set_option maxRecDepth 20000 in
theorem ml_X8_188 : Cond.methodLink RX8 188 yX7_look ∈ gk_BG := gk_bg 230 (by decide +kernel) (by decide +kernel)
set_option maxRecDepth 20000 in
theorem ml_X7_43 : Cond.methodLink RX7 43 yX7_lookAtRules ∈ gk_BG := gk_bg 234 (by decide +kernel) (by decide +kernel)
set_option maxRecDepth 20000 in
theorem it_X7 : Cond.instantiable RX7 11 ∈ gk_BG := gk_bg 237 (by decide +kernel) (by decide +kernel)
set_option maxRecDepth 20000 in
theorem ml_X7_74 : Cond.methodLink RX7 74 yX2_clear ∈ gk_BG := gk_bg 239 (by decide +kernel) (by decide +kernel)
set_option maxRecDepth 20000 in
theorem ml_X2_19 : Cond.methodLink RX2 19 yJ7_fill_53178 ∈ gk_BG := gk_bg 243 (by decide +kernel) (by decide +kernel)
set_option maxRecDepth 20000 in
theorem ml_X7_83 : Cond.methodLink RX7 83 yX4_hour ∈ gk_BG := gk_bg 246 (by decide +kernel) (by decide +kernel)
set_option maxRecDepth 20000 in
theorem nm_X7_94 : Cond.methodLinkNest RX7 94 yX8_isIn "PolicyGate" ∈ gk_NG := gk_ng 250 (by decide +kernel) (by decide +kernel)
set_option maxRecDepth 20000 in
theorem ml_X7_98 : Cond.methodLink RX7 98 yX3_holdsIn ∈ gk_BG := gk_bg 251 (by decide +kernel) (by decide +kernel)
set_option maxRecDepth 20000 in
theorem ml_X3_55 : Cond.methodLink RX3 55 yX2_at ∈ gk_BG := gk_bg 255 (by decide +kernel) (by decide +kernel)
set_option maxRecDepth 20000 in
theorem ml_X7_64 : Cond.methodLink RX7 64 yX2_at ∈ gk_BG := gk_bg 256 (by decide +kernel) (by decide +kernel)
set_option maxRecDepth 20000 in
theorem ml_X7_104 : Cond.methodLink RX7 104 yX7_lookWhere ∈ gk_BG := gk_bg 257 (by decide +kernel) (by decide +kernel)
set_option maxRecDepth 20000 in
theorem ml_X7_110 : Cond.methodLink RX7 110 yX2_put ∈ gk_BG := gk_bg 261 (by decide +kernel) (by decide +kernel)
set_option maxRecDepth 20000 in
theorem ml_X7_126 : Cond.methodLink RX7 126 yX5_isBeneath ∈ gk_BG := gk_bg 262 (by decide +kernel) (by decide +kernel)
set_option maxRecDepth 20000 in
theorem ml_X7_47 : Cond.methodLink RX7 47 yX7_lookAtWalls ∈ gk_BG := gk_bg 263 (by decide +kernel) (by decide +kernel)
set_option maxRecDepth 20000 in
theorem ml_X7_132 : Cond.methodLink RX7 132 yX6_doneOn ∈ gk_BG := gk_bg 267 (by decide +kernel) (by decide +kernel)
set_option maxRecDepth 20000 in
theorem ml_X6_36 : Cond.methodLink RX6 36 yX2_at ∈ gk_BG := gk_bg 271 (by decide +kernel) (by decide +kernel)
set_option maxRecDepth 20000 in
theorem ml_X7_68 : Cond.methodLink RX7 68 yX7_giveSet ∈ gk_BG := gk_bg 272 (by decide +kernel) (by decide +kernel)
set_option maxRecDepth 20000 in
theorem ml_X7_143 : Cond.methodLink RX7 143 yX7_stepsTo ∈ gk_BG := gk_bg 276 (by decide +kernel) (by decide +kernel)
set_option maxRecDepth 20000 in
theorem ml_X7_157 : Cond.methodLink RX7 157 yX1_nearBy ∈ gk_BG := gk_bg 280 (by decide +kernel) (by decide +kernel)
set_option maxRecDepth 20000 in
theorem ml_X7_147 : Cond.methodLink RX7 147 yX7_weightOf ∈ gk_BG := gk_bg 281 (by decide +kernel) (by decide +kernel)
set_option maxRecDepth 20000 in
theorem ml_X7_71 : Cond.methodLink RX7 71 yX7_weighGrants ∈ gk_BG := gk_bg 285 (by decide +kernel) (by decide +kernel)
set_option maxRecDepth 20000 in
theorem ml_X7_178 : Cond.methodLink RX7 178 yX4_isThere ∈ gk_BG := gk_bg 289 (by decide +kernel) (by decide +kernel)
set_option maxRecDepth 20000 in
theorem ml_X4_52 : Cond.methodLink RX4 52 yX2_at ∈ gk_BG := gk_bg 293 (by decide +kernel) (by decide +kernel)
set_option maxRecDepth 20000 in
theorem ml_X7_182 : Cond.methodLink RX7 182 yX7_isByRight ∈ gk_BG := gk_bg 294 (by decide +kernel) (by decide +kernel)
set_option maxRecDepth 20000 in
theorem ml_X7_195 : Cond.methodLink RX7 195 yX7_ruled ∈ gk_BG := gk_bg 298 (by decide +kernel) (by decide +kernel)
set_option maxRecDepth 20000 in
theorem ml_X7_205 : Cond.methodLink RX7 205 yX7_isAgainstLabel ∈ gk_BG := gk_bg 302 (by decide +kernel) (by decide +kernel)
set_option maxRecDepth 20000 in
theorem ml_X7_209 : Cond.methodLink RX7 209 yX7_isWalledOff ∈ gk_BG := gk_bg 306 (by decide +kernel) (by decide +kernel)
set_option maxRecDepth 20000 in
theorem ml_X7_212 : Cond.methodLink RX7 212 yX7_matching ∈ gk_BG := gk_bg 310 (by decide +kernel) (by decide +kernel)
set_option maxRecDepth 20000 in
theorem ml_X7_215 : Cond.methodLink RX7 215 yX7_deciding ∈ gk_BG := gk_bg 314 (by decide +kernel) (by decide +kernel)
set_option maxRecDepth 20000 in
theorem ml_X7_185 : Cond.methodLink RX7 185 yX7_isPassedOn ∈ gk_BG := gk_bg 318 (by decide +kernel) (by decide +kernel)
set_option maxRecDepth 20000 in
theorem ml_X7_198 : Cond.methodLink RX7 198 yX4_isGiven ∈ gk_BG := gk_bg 322 (by decide +kernel) (by decide +kernel)
set_option maxRecDepth 20000 in
theorem ml_X4_67 : Cond.methodLink RX4 67 yX5_isBeneath ∈ gk_BG := gk_bg 326 (by decide +kernel) (by decide +kernel)
set_option maxRecDepth 20000 in
theorem ml_X8_191 : Cond.methodLink RX8 191 yX7_matching ∈ gk_BG := gk_bg 327 (by decide +kernel) (by decide +kernel)
set_option maxRecDepth 20000 in
theorem ml_X8_110 : Cond.methodLink RX8 110 yX8_isIn ∈ gk_BG := gk_bg 328 (by decide +kernel) (by decide +kernel)
set_option maxRecDepth 20000 in
theorem ml_L_45 : Cond.methodLink RL 45 yX8_goOn ∈ gk_BG := gk_bg 329 (by decide +kernel) (by decide +kernel)
set_option maxRecDepth 20000 in
theorem ml_X8_198 : Cond.methodLink RX8 198 yX4_hour ∈ gk_BG := gk_bg 333 (by decide +kernel) (by decide +kernel)
set_option maxRecDepth 20000 in
theorem ml_L_99 : Cond.methodLink RL 99 yX8_isGood ∈ gk_BG := gk_bg 334 (by decide +kernel) (by decide +kernel)
set_option maxRecDepth 20000 in
theorem ml_X8_214 : Cond.methodLink RX8 214 yX8_isGrant ∈ gk_BG := gk_bg 338 (by decide +kernel) (by decide +kernel)
set_option maxRecDepth 20000 in
theorem ml_L_54 : Cond.methodLink RL 54 yX8_decide ∈ gk_BG := gk_bg 342 (by decide +kernel) (by decide +kernel)
set_option maxRecDepth 20000 in
theorem ml_X8_226 : Cond.methodLink RX8 226 yX7_decided ∈ gk_BG := gk_bg 346 (by decide +kernel) (by decide +kernel)
set_option maxRecDepth 20000 in
theorem ml_X7_224 : Cond.methodLink RX7 224 yX7_grantFor ∈ gk_BG := gk_bg 350 (by decide +kernel) (by decide +kernel)
set_option maxRecDepth 20000 in
theorem ml_L_85 : Cond.methodLink RL 85 yX8_why ∈ gk_BG := gk_bg 354 (by decide +kernel) (by decide +kernel)
set_option maxRecDepth 20000 in
theorem ml_X8_229 : Cond.methodLink RX8 229 yX7_reason ∈ gk_BG := gk_bg 358 (by decide +kernel) (by decide +kernel)
set_option maxRecDepth 20000 in
theorem ml_L_62 : Cond.methodLink RL 62 yX8_access ∈ gk_BG := gk_bg 362 (by decide +kernel) (by decide +kernel)
set_option maxRecDepth 20000 in
theorem ml_X8_232 : Cond.methodLink RX8 232 yX6_note ∈ gk_BG := gk_bg 366 (by decide +kernel) (by decide +kernel)
set_option maxRecDepth 20000 in
theorem ml_X6_40 : Cond.methodLink RX6 40 yX6_doneOn ∈ gk_BG := gk_bg 370 (by decide +kernel) (by decide +kernel)
set_option maxRecDepth 20000 in
theorem ml_X6_33 : Cond.methodLink RX6 33 yX2_put ∈ gk_BG := gk_bg 371 (by decide +kernel) (by decide +kernel)
set_option maxRecDepth 20000 in
theorem ml_L_58 : Cond.methodLink RL 58 yX8_done ∈ gk_BG := gk_bg 372 (by decide +kernel) (by decide +kernel)
set_option maxRecDepth 20000 in
theorem ml_X8_235 : Cond.methodLink RX8 235 yX6_doneOn ∈ gk_BG := gk_bg 376 (by decide +kernel) (by decide +kernel)
set_option maxRecDepth 20000 in
theorem ml_L_88 : Cond.methodLink RL 88 yX8_who ∈ gk_BG := gk_bg 377 (by decide +kernel) (by decide +kernel)
set_option maxRecDepth 20000 in
theorem ml_X8_238 : Cond.methodLink RX8 238 yX7_isAllowed ∈ gk_BG := gk_bg 381 (by decide +kernel) (by decide +kernel)
set_option maxRecDepth 20000 in
theorem ml_X7_227 : Cond.methodLink RX7 227 yX7_decided ∈ gk_BG := gk_bg 385 (by decide +kernel) (by decide +kernel)
set_option maxRecDepth 20000 in
theorem ml_L_82 : Cond.methodLink RL 82 yX8_reach ∈ gk_BG := gk_bg 386 (by decide +kernel) (by decide +kernel)
set_option maxRecDepth 20000 in
theorem ml_X8_242 : Cond.methodLink RX8 242 yX7_allowedTo ∈ gk_BG := gk_bg 390 (by decide +kernel) (by decide +kernel)
set_option maxRecDepth 20000 in
theorem ml_X7_230 : Cond.methodLink RX7 230 yX7_isAllowed ∈ gk_BG := gk_bg 394 (by decide +kernel) (by decide +kernel)
set_option maxRecDepth 20000 in
theorem ml_L_69 : Cond.methodLink RL 69 yX8_rolesNeeded ∈ gk_BG := gk_bg 395 (by decide +kernel) (by decide +kernel)
set_option maxRecDepth 20000 in
theorem ml_X8_245 : Cond.methodLink RX8 245 yJ6_bitCount_0f7a4 ∈ gk_BG := gk_bg 399 (by decide +kernel) (by decide +kernel)
set_option maxRecDepth 20000 in
theorem k_J6_265 : Cond.constant RJ6 265 (1431655765) ∈ gk_BG := gk_bg 402 (by decide +kernel) (by decide +kernel)
set_option maxRecDepth 20000 in
theorem k_J6_266 : Cond.constant RJ6 266 (858993459) ∈ gk_BG := gk_bg 403 (by decide +kernel) (by decide +kernel)
set_option maxRecDepth 20000 in
theorem k_J6_267 : Cond.constant RJ6 267 (252645135) ∈ gk_BG := gk_bg 404 (by decide +kernel) (by decide +kernel)
set_option maxRecDepth 20000 in
theorem ml_X8_250 : Cond.methodLink RX8 250 yX8_wouldBeAllowed ∈ gk_BG := gk_bg 405 (by decide +kernel) (by decide +kernel)
set_option maxRecDepth 20000 in
theorem ml_X8_101 : Cond.methodLink RX8 101 yX1_hadWith ∈ gk_BG := gk_bg 409 (by decide +kernel) (by decide +kernel)
set_option maxRecDepth 20000 in
theorem ml_X8_104 : Cond.methodLink RX8 104 yX1_isSplit ∈ gk_BG := gk_bg 413 (by decide +kernel) (by decide +kernel)
set_option maxRecDepth 20000 in
theorem ml_X8_261 : Cond.methodLink RX8 261 yX7_giveSet ∈ gk_BG := gk_bg 417 (by decide +kernel) (by decide +kernel)
set_option maxRecDepth 20000 in
theorem ml_X8_287 : Cond.methodLink RX8 287 yX7_ruled ∈ gk_BG := gk_bg 418 (by decide +kernel) (by decide +kernel)
set_option maxRecDepth 20000 in
theorem ml_X8_264 : Cond.methodLink RX8 264 yX7_weighGrants ∈ gk_BG := gk_bg 419 (by decide +kernel) (by decide +kernel)
set_option maxRecDepth 20000 in
theorem ml_X8_290 : Cond.methodLink RX8 290 yX7_grantFor ∈ gk_BG := gk_bg 420 (by decide +kernel) (by decide +kernel)
set_option maxRecDepth 20000 in
theorem ml_L_122 : Cond.methodLink RL 122 yX8_isIdle ∈ gk_BG := gk_bg 421 (by decide +kernel) (by decide +kernel)
set_option maxRecDepth 20000 in
theorem ml_X8_257 : Cond.methodLink RX8 257 yX7_differences ∈ gk_BG := gk_bg 425 (by decide +kernel) (by decide +kernel)
set_option maxRecDepth 20000 in
theorem ml_L_109 : Cond.methodLink RL 109 yX8_openness ∈ gk_BG := gk_bg 429 (by decide +kernel) (by decide +kernel)
set_option maxRecDepth 20000 in
theorem ml_L_65 : Cond.methodLink RL 65 yX8_digest ∈ gk_BG := gk_bg 433 (by decide +kernel) (by decide +kernel)
set_option maxRecDepth 20000 in
theorem k_X8_267 : Cond.constantLong RX8 267 (2579) ∈ gk_BG := gk_bg 437 (by decide +kernel) (by decide +kernel)
set_option maxRecDepth 20000 in
theorem ml_X8_269 : Cond.methodLink RX8 269 yX8_withNumbers ∈ gk_BG := gk_bg 438 (by decide +kernel) (by decide +kernel)
set_option maxRecDepth 20000 in
theorem k_X8_276 : Cond.constantLong RX8 276 (31) ∈ gk_BG := gk_bg 442 (by decide +kernel) (by decide +kernel)
set_option maxRecDepth 20000 in
theorem ml_X8_273 : Cond.methodLink RX8 273 yX8_withNear ∈ gk_BG := gk_bg 443 (by decide +kernel) (by decide +kernel)
set_option maxRecDepth 20000 in
theorem ml_X8_278 : Cond.methodLink RX8 278 yX8_withDecisions ∈ gk_BG := gk_bg 447 (by decide +kernel) (by decide +kernel)
set_option maxRecDepth 20000 in
theorem ml_X8_281 : Cond.methodLink RX8 281 yX8_withReasons ∈ gk_BG := gk_bg 451 (by decide +kernel) (by decide +kernel)
set_option maxRecDepth 20000 in
theorem ml_X8_284 : Cond.methodLink RX8 284 yX8_withDone ∈ gk_BG := gk_bg 455 (by decide +kernel) (by decide +kernel)
set_option maxRecDepth 20000 in
theorem ml_X8_254 : Cond.methodLink RX8 254 yX7_opposedPairs ∈ gk_BG := gk_bg 459 (by decide +kernel) (by decide +kernel)
set_option maxRecDepth 20000 in
theorem ml_X7_233 : Cond.methodLink RX7 233 yX7_oppose ∈ gk_BG := gk_bg 463 (by decide +kernel) (by decide +kernel)
set_option maxRecDepth 20000 in
theorem ml_X7_236 : Cond.methodLink RX7 236 yJ6_bitCount_0f7a4 ∈ gk_BG := gk_bg 467 (by decide +kernel) (by decide +kernel)
set_option maxRecDepth 20000 in
theorem cl_L_9 : Cond.classLink RL 9 "PolicyGateLaw$Gate" ∈ gk_BG := gk_bg 468 (by decide +kernel) (by decide +kernel)
set_option maxRecDepth 20000 in
theorem it_X9 : Cond.instantiable RX9 22 ∈ gk_BG := gk_bg 469 (by decide +kernel) (by decide +kernel)
set_option maxRecDepth 20000 in
theorem ml_L_11 : Cond.methodLink RL 11 yX9_init ∈ gk_BG := gk_bg 470 (by decide +kernel) (by decide +kernel)
set_option maxRecDepth 20000 in
theorem cl_X9_7 : Cond.classLink RX9 7 "PolicyGate" ∈ gk_BG := gk_bg 474 (by decide +kernel) (by decide +kernel)
set_option maxRecDepth 20000 in
theorem ml_X9_9 : Cond.methodLink RX9 9 yX8_init ∈ gk_BG := gk_bg 475 (by decide +kernel) (by decide +kernel)
set_option maxRecDepth 20000 in
theorem cl_X8_7 : Cond.classLink RX8 7 "PolicyGate$Told" ∈ gk_BG := gk_bg 479 (by decide +kernel) (by decide +kernel)
set_option maxRecDepth 20000 in
theorem it_X4 : Cond.instantiable RX4 7 ∈ gk_BG := gk_bg 480 (by decide +kernel) (by decide +kernel)
set_option maxRecDepth 20000 in
theorem nm_X8_9 : Cond.methodLinkNest RX8 9 yX4_init "PolicyGate" ∈ gk_NG := gk_ng 481 (by decide +kernel) (by decide +kernel)
set_option maxRecDepth 20000 in
theorem cl_X4_7 : Cond.classLink RX4 7 "PolicyGate$Users" ∈ gk_BG := gk_bg 485 (by decide +kernel) (by decide +kernel)
set_option maxRecDepth 20000 in
theorem it_X6 : Cond.instantiable RX6 5 ∈ gk_BG := gk_bg 486 (by decide +kernel) (by decide +kernel)
set_option maxRecDepth 20000 in
theorem nm_X4_9 : Cond.methodLinkNest RX4 9 yX6_init "PolicyGate" ∈ gk_NG := gk_ng 487 (by decide +kernel) (by decide +kernel)
set_option maxRecDepth 20000 in
theorem cl_X6_9 : Cond.classLink RX6 9 "PolicyGate$Row" ∈ gk_BG := gk_bg 491 (by decide +kernel) (by decide +kernel)
set_option maxRecDepth 20000 in
theorem it_X2 : Cond.instantiable RX2 1 ∈ gk_BG := gk_bg 492 (by decide +kernel) (by decide +kernel)
set_option maxRecDepth 20000 in
theorem ml_X6_11 : Cond.methodLink RX6 11 yX2_init ∈ gk_BG := gk_bg 493 (by decide +kernel) (by decide +kernel)
set_option maxRecDepth 20000 in
theorem fl_X2_13 : Cond.fieldLink RX2 13 "PolicyGate$Row" "cells" "[I" ∈ gk_BG := gk_bg 497 (by decide +kernel) (by decide +kernel)
set_option maxRecDepth 20000 in
theorem fl_X6_29 : Cond.fieldLink RX6 29 "PolicyGate$Users" "count" "I" ∈ gk_BG := gk_bg 502 (by decide +kernel) (by decide +kernel)
set_option maxRecDepth 20000 in
theorem nf_X7_56 : Cond.fieldLinkNest RX7 56 "PolicyGate$Users" "count" "I" "PolicyGate" ∈ gk_NG := gk_ng 503 (by decide +kernel) (by decide +kernel)
set_option maxRecDepth 20000 in
theorem nf_X8_49 : Cond.fieldLinkNest RX8 49 "PolicyGate$Users" "count" "I" "PolicyGate" ∈ gk_NG := gk_ng 504 (by decide +kernel) (by decide +kernel)
set_option maxRecDepth 20000 in
theorem fl_X6_14 : Cond.fieldLink RX6 14 "PolicyGate$Users" "clearance" "LPolicyGate$Row;" ∈ gk_BG := gk_bg 505 (by decide +kernel) (by decide +kernel)
set_option maxRecDepth 20000 in
theorem nf_X7_221 : Cond.fieldLinkNest RX7 221 "PolicyGate$Users" "clearance" "LPolicyGate$Row;" "PolicyGate" ∈ gk_NG := gk_ng 506 (by decide +kernel) (by decide +kernel)
set_option maxRecDepth 20000 in
theorem fl_X6_20 : Cond.fieldLink RX6 20 "PolicyGate$Users" "traits" "LPolicyGate$Row;" ∈ gk_BG := gk_bg 507 (by decide +kernel) (by decide +kernel)
set_option maxRecDepth 20000 in
theorem nf_X7_139 : Cond.fieldLinkNest RX7 139 "PolicyGate$Users" "traits" "LPolicyGate$Row;" "PolicyGate" ∈ gk_NG := gk_ng 508 (by decide +kernel) (by decide +kernel)
set_option maxRecDepth 20000 in
theorem fl_X6_23 : Cond.fieldLink RX6 23 "PolicyGate$Users" "sets" "LPolicyGate$Row;" ∈ gk_BG := gk_bg 509 (by decide +kernel) (by decide +kernel)
set_option maxRecDepth 20000 in
theorem nf_X7_61 : Cond.fieldLinkNest RX7 61 "PolicyGate$Users" "sets" "LPolicyGate$Row;" "PolicyGate" ∈ gk_NG := gk_ng 510 (by decide +kernel) (by decide +kernel)
set_option maxRecDepth 20000 in
theorem nf_X8_95 : Cond.fieldLinkNest RX8 95 "PolicyGate$Users" "sets" "LPolicyGate$Row;" "PolicyGate" ∈ gk_NG := gk_ng 511 (by decide +kernel) (by decide +kernel)
set_option maxRecDepth 20000 in
theorem fl_X6_26 : Cond.fieldLink RX6 26 "PolicyGate$Users" "doneSets" "LPolicyGate$Row;" ∈ gk_BG := gk_bg 512 (by decide +kernel) (by decide +kernel)
set_option maxRecDepth 20000 in
theorem cl_X4_16 : Cond.classLink RX4 16 "PolicyGate$Roles" ∈ gk_BG := gk_bg 524 (by decide +kernel) (by decide +kernel)
set_option maxRecDepth 20000 in
theorem it_X1 : Cond.instantiable RX1 4 ∈ gk_BG := gk_bg 525 (by decide +kernel) (by decide +kernel)
set_option maxRecDepth 20000 in
theorem nm_X4_18 : Cond.methodLinkNest RX4 18 yX1_init "PolicyGate" ∈ gk_NG := gk_ng 526 (by decide +kernel) (by decide +kernel)
set_option maxRecDepth 20000 in
theorem cl_X1_9 : Cond.classLink RX1 9 "PolicyGate$Row" ∈ gk_BG := gk_bg 530 (by decide +kernel) (by decide +kernel)
set_option maxRecDepth 20000 in
theorem ml_X1_11 : Cond.methodLink RX1 11 yX2_init ∈ gk_BG := gk_bg 531 (by decide +kernel) (by decide +kernel)
set_option maxRecDepth 20000 in
theorem fl_X1_23 : Cond.fieldLink RX1 23 "PolicyGate$Roles" "count" "I" ∈ gk_BG := gk_bg 532 (by decide +kernel) (by decide +kernel)
set_option maxRecDepth 20000 in
theorem nf_X8_66 : Cond.fieldLinkNest RX8 66 "PolicyGate$Roles" "count" "I" "PolicyGate" ∈ gk_NG := gk_ng 533 (by decide +kernel) (by decide +kernel)
set_option maxRecDepth 20000 in
theorem fl_X1_34 : Cond.fieldLink RX1 34 "PolicyGate$Roles" "pairs" "I" ∈ gk_BG := gk_bg 534 (by decide +kernel) (by decide +kernel)
set_option maxRecDepth 20000 in
theorem nf_X8_122 : Cond.fieldLinkNest RX8 122 "PolicyGate$Roles" "pairs" "I" "PolicyGate" ∈ gk_NG := gk_ng 535 (by decide +kernel) (by decide +kernel)
set_option maxRecDepth 20000 in
theorem fl_X1_14 : Cond.fieldLink RX1 14 "PolicyGate$Roles" "holds" "LPolicyGate$Row;" ∈ gk_BG := gk_bg 536 (by decide +kernel) (by decide +kernel)
set_option maxRecDepth 20000 in
theorem nf_X8_116 : Cond.fieldLinkNest RX8 116 "PolicyGate$Roles" "holds" "LPolicyGate$Row;" "PolicyGate" ∈ gk_NG := gk_ng 537 (by decide +kernel) (by decide +kernel)
set_option maxRecDepth 20000 in
theorem fl_X1_20 : Cond.fieldLink RX1 20 "PolicyGate$Roles" "apart" "LPolicyGate$Row;" ∈ gk_BG := gk_bg 538 (by decide +kernel) (by decide +kernel)
set_option maxRecDepth 20000 in
theorem nf_X8_119 : Cond.fieldLinkNest RX8 119 "PolicyGate$Roles" "apart" "LPolicyGate$Row;" "PolicyGate" ∈ gk_NG := gk_ng 539 (by decide +kernel) (by decide +kernel)
set_option maxRecDepth 20000 in
theorem cl_X4_23 : Cond.classLink RX4 23 "PolicyGate$Tree" ∈ gk_BG := gk_bg 549 (by decide +kernel) (by decide +kernel)
set_option maxRecDepth 20000 in
theorem it_X5 : Cond.instantiable RX5 6 ∈ gk_BG := gk_bg 550 (by decide +kernel) (by decide +kernel)
set_option maxRecDepth 20000 in
theorem nm_X4_25 : Cond.methodLinkNest RX4 25 yX5_init "PolicyGate" ∈ gk_NG := gk_ng 551 (by decide +kernel) (by decide +kernel)
set_option maxRecDepth 20000 in
theorem cl_X5_15 : Cond.classLink RX5 15 "PolicyGate$Row" ∈ gk_BG := gk_bg 555 (by decide +kernel) (by decide +kernel)
set_option maxRecDepth 20000 in
theorem ml_X5_17 : Cond.methodLink RX5 17 yX2_init ∈ gk_BG := gk_bg 556 (by decide +kernel) (by decide +kernel)
set_option maxRecDepth 20000 in
theorem fl_X5_9 : Cond.fieldLink RX5 9 "PolicyGate$Tree" "count" "I" ∈ gk_BG := gk_bg 557 (by decide +kernel) (by decide +kernel)
set_option maxRecDepth 20000 in
theorem nf_X8_83 : Cond.fieldLinkNest RX8 83 "PolicyGate$Tree" "count" "I" "PolicyGate" ∈ gk_NG := gk_ng 558 (by decide +kernel) (by decide +kernel)
set_option maxRecDepth 20000 in
theorem nf_X7_123 : Cond.fieldLinkNest RX7 123 "PolicyGate$Tree" "count" "I" "PolicyGate" ∈ gk_NG := gk_ng 559 (by decide +kernel) (by decide +kernel)
set_option maxRecDepth 20000 in
theorem fl_X5_20 : Cond.fieldLink RX5 20 "PolicyGate$Tree" "depth" "LPolicyGate$Row;" ∈ gk_BG := gk_bg 560 (by decide +kernel) (by decide +kernel)
set_option maxRecDepth 20000 in
theorem nf_X7_162 : Cond.fieldLinkNest RX7 162 "PolicyGate$Tree" "depth" "LPolicyGate$Row;" "PolicyGate" ∈ gk_NG := gk_ng 561 (by decide +kernel) (by decide +kernel)
set_option maxRecDepth 20000 in
theorem fl_X5_24 : Cond.fieldLink RX5 24 "PolicyGate$Tree" "above" "LPolicyGate$Row;" ∈ gk_BG := gk_bg 562 (by decide +kernel) (by decide +kernel)
set_option maxRecDepth 20000 in
theorem fl_X5_27 : Cond.fieldLink RX5 27 "PolicyGate$Tree" "label" "LPolicyGate$Row;" ∈ gk_BG := gk_bg 563 (by decide +kernel) (by decide +kernel)
set_option maxRecDepth 20000 in
theorem nf_X8_137 : Cond.fieldLinkNest RX8 137 "PolicyGate$Tree" "label" "LPolicyGate$Row;" "PolicyGate" ∈ gk_NG := gk_ng 564 (by decide +kernel) (by decide +kernel)
set_option maxRecDepth 20000 in
theorem nf_X7_218 : Cond.fieldLinkNest RX7 218 "PolicyGate$Tree" "label" "LPolicyGate$Row;" "PolicyGate" ∈ gk_NG := gk_ng 565 (by decide +kernel) (by decide +kernel)
set_option maxRecDepth 20000 in
theorem fl_X5_30 : Cond.fieldLink RX5 30 "PolicyGate$Tree" "itsClass" "LPolicyGate$Row;" ∈ gk_BG := gk_bg 566 (by decide +kernel) (by decide +kernel)
set_option maxRecDepth 20000 in
theorem nf_X7_129 : Cond.fieldLinkNest RX7 129 "PolicyGate$Tree" "itsClass" "LPolicyGate$Row;" "PolicyGate" ∈ gk_NG := gk_ng 567 (by decide +kernel) (by decide +kernel)
set_option maxRecDepth 20000 in
theorem nf_X8_140 : Cond.fieldLinkNest RX8 140 "PolicyGate$Tree" "itsClass" "LPolicyGate$Row;" "PolicyGate" ∈ gk_NG := gk_ng 568 (by decide +kernel) (by decide +kernel)
set_option maxRecDepth 20000 in
theorem fl_X5_33 : Cond.fieldLink RX5 33 "PolicyGate$Tree" "house" "LPolicyGate$Row;" ∈ gk_BG := gk_bg 569 (by decide +kernel) (by decide +kernel)
set_option maxRecDepth 20000 in
theorem nf_X7_136 : Cond.fieldLinkNest RX7 136 "PolicyGate$Tree" "house" "LPolicyGate$Row;" "PolicyGate" ∈ gk_NG := gk_ng 570 (by decide +kernel) (by decide +kernel)
set_option maxRecDepth 20000 in
theorem nf_X8_143 : Cond.fieldLinkNest RX8 143 "PolicyGate$Tree" "house" "LPolicyGate$Row;" "PolicyGate" ∈ gk_NG := gk_ng 571 (by decide +kernel) (by decide +kernel)
set_option maxRecDepth 20000 in
theorem cl_X4_30 : Cond.classLink RX4 30 "PolicyGate$Rules" ∈ gk_BG := gk_bg 585 (by decide +kernel) (by decide +kernel)
set_option maxRecDepth 20000 in
theorem it_X3 : Cond.instantiable RX3 10 ∈ gk_BG := gk_bg 586 (by decide +kernel) (by decide +kernel)
set_option maxRecDepth 20000 in
theorem nm_X4_32 : Cond.methodLinkNest RX4 32 yX3_init "PolicyGate" ∈ gk_NG := gk_ng 587 (by decide +kernel) (by decide +kernel)
set_option maxRecDepth 20000 in
theorem cl_X3_9 : Cond.classLink RX3 9 "PolicyGate$Row" ∈ gk_BG := gk_bg 591 (by decide +kernel) (by decide +kernel)
set_option maxRecDepth 20000 in
theorem ml_X3_11 : Cond.methodLink RX3 11 yX2_init ∈ gk_BG := gk_bg 592 (by decide +kernel) (by decide +kernel)
set_option maxRecDepth 20000 in
theorem fl_X3_44 : Cond.fieldLink RX3 44 "PolicyGate$Rules" "count" "I" ∈ gk_BG := gk_bg 593 (by decide +kernel) (by decide +kernel)
set_option maxRecDepth 20000 in
theorem nf_X7_91 : Cond.fieldLinkNest RX7 91 "PolicyGate$Rules" "count" "I" "PolicyGate" ∈ gk_NG := gk_ng 594 (by decide +kernel) (by decide +kernel)
set_option maxRecDepth 20000 in
theorem nf_X8_156 : Cond.fieldLinkNest RX8 156 "PolicyGate$Rules" "count" "I" "PolicyGate" ∈ gk_NG := gk_ng 595 (by decide +kernel) (by decide +kernel)
set_option maxRecDepth 20000 in
theorem fl_X3_14 : Cond.fieldLink RX3 14 "PolicyGate$Rules" "allows" "LPolicyGate$Row;" ∈ gk_BG := gk_bg 596 (by decide +kernel) (by decide +kernel)
set_option maxRecDepth 20000 in
theorem nf_X7_101 : Cond.fieldLinkNest RX7 101 "PolicyGate$Rules" "allows" "LPolicyGate$Row;" "PolicyGate" ∈ gk_NG := gk_ng 597 (by decide +kernel) (by decide +kernel)
set_option maxRecDepth 20000 in
theorem fl_X3_20 : Cond.fieldLink RX3 20 "PolicyGate$Rules" "forWhom" "LPolicyGate$Row;" ∈ gk_BG := gk_bg 598 (by decide +kernel) (by decide +kernel)
set_option maxRecDepth 20000 in
theorem nf_X7_150 : Cond.fieldLinkNest RX7 150 "PolicyGate$Rules" "forWhom" "LPolicyGate$Row;" "PolicyGate" ∈ gk_NG := gk_ng 599 (by decide +kernel) (by decide +kernel)
set_option maxRecDepth 20000 in
theorem fl_X3_23 : Cond.fieldLink RX3 23 "PolicyGate$Rules" "actions" "LPolicyGate$Row;" ∈ gk_BG := gk_bg 600 (by decide +kernel) (by decide +kernel)
set_option maxRecDepth 20000 in
theorem nf_X7_107 : Cond.fieldLinkNest RX7 107 "PolicyGate$Rules" "actions" "LPolicyGate$Row;" "PolicyGate" ∈ gk_NG := gk_ng 601 (by decide +kernel) (by decide +kernel)
set_option maxRecDepth 20000 in
theorem fl_X3_26 : Cond.fieldLink RX3 26 "PolicyGate$Rules" "resource" "LPolicyGate$Row;" ∈ gk_BG := gk_bg 602 (by decide +kernel) (by decide +kernel)
set_option maxRecDepth 20000 in
theorem nf_X7_113 : Cond.fieldLinkNest RX7 113 "PolicyGate$Rules" "resource" "LPolicyGate$Row;" "PolicyGate" ∈ gk_NG := gk_ng 603 (by decide +kernel) (by decide +kernel)
set_option maxRecDepth 20000 in
theorem fl_X3_29 : Cond.fieldLink RX3 29 "PolicyGate$Rules" "deep" "LPolicyGate$Row;" ∈ gk_BG := gk_bg 604 (by decide +kernel) (by decide +kernel)
set_option maxRecDepth 20000 in
theorem nf_X7_116 : Cond.fieldLinkNest RX7 116 "PolicyGate$Rules" "deep" "LPolicyGate$Row;" "PolicyGate" ∈ gk_NG := gk_ng 605 (by decide +kernel) (by decide +kernel)
set_option maxRecDepth 20000 in
theorem nf_X8_168 : Cond.fieldLinkNest RX8 168 "PolicyGate$Rules" "deep" "LPolicyGate$Row;" "PolicyGate" ∈ gk_NG := gk_ng 606 (by decide +kernel) (by decide +kernel)
set_option maxRecDepth 20000 in
theorem fl_X3_32 : Cond.fieldLink RX3 32 "PolicyGate$Rules" "rank" "LPolicyGate$Row;" ∈ gk_BG := gk_bg 607 (by decide +kernel) (by decide +kernel)
set_option maxRecDepth 20000 in
theorem nf_X7_165 : Cond.fieldLinkNest RX7 165 "PolicyGate$Rules" "rank" "LPolicyGate$Row;" "PolicyGate" ∈ gk_NG := gk_ng 608 (by decide +kernel) (by decide +kernel)
set_option maxRecDepth 20000 in
theorem nf_X8_165 : Cond.fieldLinkNest RX8 165 "PolicyGate$Rules" "rank" "LPolicyGate$Row;" "PolicyGate" ∈ gk_NG := gk_ng 609 (by decide +kernel) (by decide +kernel)
set_option maxRecDepth 20000 in
theorem fl_X3_35 : Cond.fieldLink RX3 35 "PolicyGate$Rules" "traits" "LPolicyGate$Row;" ∈ gk_BG := gk_bg 610 (by decide +kernel) (by decide +kernel)
set_option maxRecDepth 20000 in
theorem nf_X7_142 : Cond.fieldLinkNest RX7 142 "PolicyGate$Rules" "traits" "LPolicyGate$Row;" "PolicyGate" ∈ gk_NG := gk_ng 611 (by decide +kernel) (by decide +kernel)
set_option maxRecDepth 20000 in
theorem nf_X8_171 : Cond.fieldLinkNest RX8 171 "PolicyGate$Rules" "traits" "LPolicyGate$Row;" "PolicyGate" ∈ gk_NG := gk_ng 612 (by decide +kernel) (by decide +kernel)
set_option maxRecDepth 20000 in
theorem fl_X3_38 : Cond.fieldLink RX3 38 "PolicyGate$Rules" "first" "LPolicyGate$Row;" ∈ gk_BG := gk_bg 613 (by decide +kernel) (by decide +kernel)
set_option maxRecDepth 20000 in
theorem nf_X8_172 : Cond.fieldLinkNest RX8 172 "PolicyGate$Rules" "first" "LPolicyGate$Row;" "PolicyGate" ∈ gk_NG := gk_ng 614 (by decide +kernel) (by decide +kernel)
set_option maxRecDepth 20000 in
theorem fl_X3_41 : Cond.fieldLink RX3 41 "PolicyGate$Rules" "last" "LPolicyGate$Row;" ∈ gk_BG := gk_bg 615 (by decide +kernel) (by decide +kernel)
set_option maxRecDepth 20000 in
theorem nf_X8_175 : Cond.fieldLinkNest RX8 175 "PolicyGate$Rules" "last" "LPolicyGate$Row;" "PolicyGate" ∈ gk_NG := gk_ng 616 (by decide +kernel) (by decide +kernel)
set_option maxRecDepth 20000 in
theorem cl_X4_37 : Cond.classLink RX4 37 "PolicyGate$Grants" ∈ gk_BG := gk_bg 638 (by decide +kernel) (by decide +kernel)
set_option maxRecDepth 20000 in
theorem it_X0 : Cond.instantiable RX0 7 ∈ gk_BG := gk_bg 639 (by decide +kernel) (by decide +kernel)
set_option maxRecDepth 20000 in
theorem nm_X4_39 : Cond.methodLinkNest RX4 39 yX0_init "PolicyGate" ∈ gk_NG := gk_ng 640 (by decide +kernel) (by decide +kernel)
set_option maxRecDepth 20000 in
theorem cl_X0_9 : Cond.classLink RX0 9 "PolicyGate$Row" ∈ gk_BG := gk_bg 644 (by decide +kernel) (by decide +kernel)
set_option maxRecDepth 20000 in
theorem ml_X0_11 : Cond.methodLink RX0 11 yX2_init ∈ gk_BG := gk_bg 645 (by decide +kernel) (by decide +kernel)
set_option maxRecDepth 20000 in
theorem fl_X0_35 : Cond.fieldLink RX0 35 "PolicyGate$Grants" "count" "I" ∈ gk_BG := gk_bg 646 (by decide +kernel) (by decide +kernel)
set_option maxRecDepth 20000 in
theorem nf_X7_175 : Cond.fieldLinkNest RX7 175 "PolicyGate$Grants" "count" "I" "PolicyGate" ∈ gk_NG := gk_ng 647 (by decide +kernel) (by decide +kernel)
set_option maxRecDepth 20000 in
theorem nf_X8_208 : Cond.fieldLinkNest RX8 208 "PolicyGate$Grants" "count" "I" "PolicyGate" ∈ gk_NG := gk_ng 648 (by decide +kernel) (by decide +kernel)
set_option maxRecDepth 20000 in
theorem fl_X0_14 : Cond.fieldLink RX0 14 "PolicyGate$Grants" "from" "LPolicyGate$Row;" ∈ gk_BG := gk_bg 649 (by decide +kernel) (by decide +kernel)
set_option maxRecDepth 20000 in
theorem nf_X7_188 : Cond.fieldLinkNest RX7 188 "PolicyGate$Grants" "from" "LPolicyGate$Row;" "PolicyGate" ∈ gk_NG := gk_ng 650 (by decide +kernel) (by decide +kernel)
set_option maxRecDepth 20000 in
theorem fl_X0_20 : Cond.fieldLink RX0 20 "PolicyGate$Grants" "to" "LPolicyGate$Row;" ∈ gk_BG := gk_bg 651 (by decide +kernel) (by decide +kernel)
set_option maxRecDepth 20000 in
theorem nf_X4_58 : Cond.fieldLinkNest RX4 58 "PolicyGate$Grants" "to" "LPolicyGate$Row;" "PolicyGate" ∈ gk_NG := gk_ng 652 (by decide +kernel) (by decide +kernel)
set_option maxRecDepth 20000 in
theorem fl_X0_23 : Cond.fieldLink RX0 23 "PolicyGate$Grants" "action" "LPolicyGate$Row;" ∈ gk_BG := gk_bg 653 (by decide +kernel) (by decide +kernel)
set_option maxRecDepth 20000 in
theorem nf_X4_61 : Cond.fieldLinkNest RX4 61 "PolicyGate$Grants" "action" "LPolicyGate$Row;" "PolicyGate" ∈ gk_NG := gk_ng 654 (by decide +kernel) (by decide +kernel)
set_option maxRecDepth 20000 in
theorem nf_X7_192 : Cond.fieldLinkNest RX7 192 "PolicyGate$Grants" "action" "LPolicyGate$Row;" "PolicyGate" ∈ gk_NG := gk_ng 655 (by decide +kernel) (by decide +kernel)
set_option maxRecDepth 20000 in
theorem fl_X0_26 : Cond.fieldLink RX0 26 "PolicyGate$Grants" "resource" "LPolicyGate$Row;" ∈ gk_BG := gk_bg 656 (by decide +kernel) (by decide +kernel)
set_option maxRecDepth 20000 in
theorem nf_X4_64 : Cond.fieldLinkNest RX4 64 "PolicyGate$Grants" "resource" "LPolicyGate$Row;" "PolicyGate" ∈ gk_NG := gk_ng 657 (by decide +kernel) (by decide +kernel)
set_option maxRecDepth 20000 in
theorem nf_X7_191 : Cond.fieldLinkNest RX7 191 "PolicyGate$Grants" "resource" "LPolicyGate$Row;" "PolicyGate" ∈ gk_NG := gk_ng 658 (by decide +kernel) (by decide +kernel)
set_option maxRecDepth 20000 in
theorem fl_X0_29 : Cond.fieldLink RX0 29 "PolicyGate$Grants" "hands" "LPolicyGate$Row;" ∈ gk_BG := gk_bg 659 (by decide +kernel) (by decide +kernel)
set_option maxRecDepth 20000 in
theorem nf_X7_202 : Cond.fieldLinkNest RX7 202 "PolicyGate$Grants" "hands" "LPolicyGate$Row;" "PolicyGate" ∈ gk_NG := gk_ng 660 (by decide +kernel) (by decide +kernel)
set_option maxRecDepth 20000 in
theorem fl_X0_32 : Cond.fieldLink RX0 32 "PolicyGate$Grants" "end" "LPolicyGate$Row;" ∈ gk_BG := gk_bg 661 (by decide +kernel) (by decide +kernel)
set_option maxRecDepth 20000 in
theorem nf_X4_48 : Cond.fieldLinkNest RX4 48 "PolicyGate$Grants" "end" "LPolicyGate$Row;" "PolicyGate" ∈ gk_NG := gk_ng 662 (by decide +kernel) (by decide +kernel)
set_option maxRecDepth 20000 in
theorem fl_X4_10 : Cond.fieldLink RX4 10 "PolicyGate$Told" "users" "LPolicyGate$Users;" ∈ gk_BG := gk_bg 678 (by decide +kernel) (by decide +kernel)
set_option maxRecDepth 20000 in
theorem nf_X7_50 : Cond.fieldLinkNest RX7 50 "PolicyGate$Told" "users" "LPolicyGate$Users;" "PolicyGate" ∈ gk_NG := gk_ng 679 (by decide +kernel) (by decide +kernel)
set_option maxRecDepth 20000 in
theorem nf_X8_45 : Cond.fieldLinkNest RX8 45 "PolicyGate$Told" "users" "LPolicyGate$Users;" "PolicyGate" ∈ gk_NG := gk_ng 680 (by decide +kernel) (by decide +kernel)
set_option maxRecDepth 20000 in
theorem fl_X4_19 : Cond.fieldLink RX4 19 "PolicyGate$Told" "roles" "LPolicyGate$Roles;" ∈ gk_BG := gk_bg 681 (by decide +kernel) (by decide +kernel)
set_option maxRecDepth 20000 in
theorem nf_X8_62 : Cond.fieldLinkNest RX8 62 "PolicyGate$Told" "roles" "LPolicyGate$Roles;" "PolicyGate" ∈ gk_NG := gk_ng 682 (by decide +kernel) (by decide +kernel)
set_option maxRecDepth 20000 in
theorem nf_X7_153 : Cond.fieldLinkNest RX7 153 "PolicyGate$Told" "roles" "LPolicyGate$Roles;" "PolicyGate" ∈ gk_NG := gk_ng 683 (by decide +kernel) (by decide +kernel)
set_option maxRecDepth 20000 in
theorem fl_X4_26 : Cond.fieldLink RX4 26 "PolicyGate$Told" "tree" "LPolicyGate$Tree;" ∈ gk_BG := gk_bg 684 (by decide +kernel) (by decide +kernel)
set_option maxRecDepth 20000 in
theorem nf_X8_79 : Cond.fieldLinkNest RX8 79 "PolicyGate$Told" "tree" "LPolicyGate$Tree;" "PolicyGate" ∈ gk_NG := gk_ng 685 (by decide +kernel) (by decide +kernel)
set_option maxRecDepth 20000 in
theorem nf_X7_119 : Cond.fieldLinkNest RX7 119 "PolicyGate$Told" "tree" "LPolicyGate$Tree;" "PolicyGate" ∈ gk_NG := gk_ng 686 (by decide +kernel) (by decide +kernel)
set_option maxRecDepth 20000 in
theorem fl_X4_33 : Cond.fieldLink RX4 33 "PolicyGate$Told" "rules" "LPolicyGate$Rules;" ∈ gk_BG := gk_bg 687 (by decide +kernel) (by decide +kernel)
set_option maxRecDepth 20000 in
theorem nf_X7_87 : Cond.fieldLinkNest RX7 87 "PolicyGate$Told" "rules" "LPolicyGate$Rules;" "PolicyGate" ∈ gk_NG := gk_ng 688 (by decide +kernel) (by decide +kernel)
set_option maxRecDepth 20000 in
theorem nf_X8_152 : Cond.fieldLinkNest RX8 152 "PolicyGate$Told" "rules" "LPolicyGate$Rules;" "PolicyGate" ∈ gk_NG := gk_ng 689 (by decide +kernel) (by decide +kernel)
set_option maxRecDepth 20000 in
theorem fl_X4_40 : Cond.fieldLink RX4 40 "PolicyGate$Told" "grants" "LPolicyGate$Grants;" ∈ gk_BG := gk_bg 690 (by decide +kernel) (by decide +kernel)
set_option maxRecDepth 20000 in
theorem nf_X7_171 : Cond.fieldLinkNest RX7 171 "PolicyGate$Told" "grants" "LPolicyGate$Grants;" "PolicyGate" ∈ gk_NG := gk_ng 691 (by decide +kernel) (by decide +kernel)
set_option maxRecDepth 20000 in
theorem nf_X8_204 : Cond.fieldLinkNest RX8 204 "PolicyGate$Told" "grants" "LPolicyGate$Grants;" "PolicyGate" ∈ gk_NG := gk_ng 692 (by decide +kernel) (by decide +kernel)
set_option maxRecDepth 20000 in
theorem nf_X8_181 : Cond.fieldLinkNest RX8 181 "PolicyGate$Told" "weighing" "I" "PolicyGate" ∈ gk_NG := gk_ng 693 (by decide +kernel) (by decide +kernel)
set_option maxRecDepth 20000 in
theorem fl_X4_44 : Cond.fieldLink RX4 44 "PolicyGate$Told" "clock" "I" ∈ gk_BG := gk_bg 694 (by decide +kernel) (by decide +kernel)
set_option maxRecDepth 20000 in
theorem nf_X8_195 : Cond.fieldLinkNest RX8 195 "PolicyGate$Told" "clock" "I" "PolicyGate" ∈ gk_NG := gk_ng 695 (by decide +kernel) (by decide +kernel)
set_option maxRecDepth 20000 in
theorem cl_X8_16 : Cond.classLink RX8 16 "PolicyGate$View" ∈ gk_BG := gk_bg 711 (by decide +kernel) (by decide +kernel)
set_option maxRecDepth 20000 in
theorem ml_X8_18 : Cond.methodLink RX8 18 yX7_init ∈ gk_BG := gk_bg 712 (by decide +kernel) (by decide +kernel)
set_option maxRecDepth 20000 in
theorem cl_X7_9 : Cond.classLink RX7 9 "PolicyGate$Row" ∈ gk_BG := gk_bg 716 (by decide +kernel) (by decide +kernel)
set_option maxRecDepth 20000 in
theorem ml_X7_11 : Cond.methodLink RX7 11 yX2_init ∈ gk_BG := gk_bg 717 (by decide +kernel) (by decide +kernel)
set_option maxRecDepth 20000 in
theorem fl_X7_35 : Cond.fieldLink RX7 35 "PolicyGate$View" "told" "LPolicyGate$Told;" ∈ gk_BG := gk_bg 718 (by decide +kernel) (by decide +kernel)
set_option maxRecDepth 20000 in
theorem fl_X7_14 : Cond.fieldLink RX7 14 "PolicyGate$View" "onAction" "LPolicyGate$Row;" ∈ gk_BG := gk_bg 719 (by decide +kernel) (by decide +kernel)
set_option maxRecDepth 20000 in
theorem fl_X7_20 : Cond.fieldLink RX7 20 "PolicyGate$View" "onResource" "LPolicyGate$Row;" ∈ gk_BG := gk_bg 720 (by decide +kernel) (by decide +kernel)
set_option maxRecDepth 20000 in
theorem fl_X7_23 : Cond.fieldLink RX7 23 "PolicyGate$View" "forUser" "LPolicyGate$Row;" ∈ gk_BG := gk_bg 721 (by decide +kernel) (by decide +kernel)
set_option maxRecDepth 20000 in
theorem fl_X7_26 : Cond.fieldLink RX7 26 "PolicyGate$View" "weights" "LPolicyGate$Row;" ∈ gk_BG := gk_bg 722 (by decide +kernel) (by decide +kernel)
set_option maxRecDepth 20000 in
theorem fl_X7_29 : Cond.fieldLink RX7 29 "PolicyGate$View" "houses" "LPolicyGate$Row;" ∈ gk_BG := gk_bg 723 (by decide +kernel) (by decide +kernel)
set_option maxRecDepth 20000 in
theorem fl_X7_32 : Cond.fieldLink RX7 32 "PolicyGate$View" "opposed" "LPolicyGate$Row;" ∈ gk_BG := gk_bg 724 (by decide +kernel) (by decide +kernel)
set_option maxRecDepth 20000 in
theorem fl_X7_39 : Cond.fieldLink RX7 39 "PolicyGate$View" "weighing" "I" ∈ gk_BG := gk_bg 725 (by decide +kernel) (by decide +kernel)
set_option maxRecDepth 20000 in
theorem fl_X7_77 : Cond.fieldLink RX7 77 "PolicyGate$View" "live" "I" ∈ gk_BG := gk_bg 726 (by decide +kernel) (by decide +kernel)
set_option maxRecDepth 20000 in
theorem fl_X7_80 : Cond.fieldLink RX7 80 "PolicyGate$View" "allowing" "I" ∈ gk_BG := gk_bg 727 (by decide +kernel) (by decide +kernel)
set_option maxRecDepth 20000 in
theorem fl_X7_168 : Cond.fieldLink RX7 168 "PolicyGate$View" "good" "I" ∈ gk_BG := gk_bg 728 (by decide +kernel) (by decide +kernel)
set_option maxRecDepth 20000 in
theorem nf_X8_223 : Cond.fieldLinkNest RX8 223 "PolicyGate$View" "good" "I" "PolicyGate" ∈ gk_NG := gk_ng 729 (by decide +kernel) (by decide +kernel)
set_option maxRecDepth 20000 in
theorem cl_X8_28 : Cond.classLink RX8 28 "PolicyGate$Row" ∈ gk_BG := gk_bg 753 (by decide +kernel) (by decide +kernel)
set_option maxRecDepth 20000 in
theorem ml_X8_30 : Cond.methodLink RX8 30 yX2_init ∈ gk_BG := gk_bg 754 (by decide +kernel) (by decide +kernel)
set_option maxRecDepth 20000 in
theorem fl_X8_10 : Cond.fieldLink RX8 10 "PolicyGate" "told" "LPolicyGate$Told;" ∈ gk_BG := gk_bg 755 (by decide +kernel) (by decide +kernel)
set_option maxRecDepth 20000 in
theorem fl_X8_21 : Cond.fieldLink RX8 21 "PolicyGate" "now" "LPolicyGate$View;" ∈ gk_BG := gk_bg 756 (by decide +kernel) (by decide +kernel)
set_option maxRecDepth 20000 in
theorem fl_X8_25 : Cond.fieldLink RX8 25 "PolicyGate" "would" "LPolicyGate$View;" ∈ gk_BG := gk_bg 757 (by decide +kernel) (by decide +kernel)
set_option maxRecDepth 20000 in
theorem fl_X8_33 : Cond.fieldLink RX8 33 "PolicyGate" "counts" "LPolicyGate$Row;" ∈ gk_BG := gk_bg 758 (by decide +kernel) (by decide +kernel)
set_option maxRecDepth 20000 in
theorem cl_X9_16 : Cond.classLink RX9 16 "[[Z" ∈ gk_BG := gk_bg 768 (by decide +kernel) (by decide +kernel)
set_option maxRecDepth 20000 in
theorem cl_X9_50 : Cond.classLink RX9 50 "[I" ∈ gk_BG := gk_bg 770 (by decide +kernel) (by decide +kernel)
set_option maxRecDepth 20000 in
theorem cl_X9_58 : Cond.classLink RX9 58 "[[I" ∈ gk_BG := gk_bg 772 (by decide +kernel) (by decide +kernel)
set_option maxRecDepth 20000 in
theorem fl_X9_10 : Cond.fieldLink RX9 10 "PolicyGateLaw$Gate" "m" "LPolicyGate;" ∈ gk_BG := gk_bg 773 (by decide +kernel) (by decide +kernel)
set_option maxRecDepth 20000 in
theorem fl_L_14 : Cond.fieldLink RL 14 "PolicyGateLaw$Gate" "m" "LPolicyGate;" ∈ gk_BG := gk_bg 774 (by decide +kernel) (by decide +kernel)
set_option maxRecDepth 20000 in
theorem fl_X9_62 : Cond.fieldLink RX9 62 "PolicyGateLaw$Gate" "s" "[I" ∈ gk_BG := gk_bg 775 (by decide +kernel) (by decide +kernel)
set_option maxRecDepth 20000 in
theorem fl_X9_65 : Cond.fieldLink RX9 65 "PolicyGateLaw$Gate" "draws" "I" ∈ gk_BG := gk_bg 776 (by decide +kernel) (by decide +kernel)
set_option maxRecDepth 20000 in
theorem fl_L_42 : Cond.fieldLink RL 42 "PolicyGateLaw$Gate" "clock" "I" ∈ gk_BG := gk_bg 777 (by decide +kernel) (by decide +kernel)
set_option maxRecDepth 20000 in
theorem fl_X9_163 : Cond.fieldLink RX9 163 "PolicyGateLaw$Gate" "clock" "I" ∈ gk_BG := gk_bg 778 (by decide +kernel) (by decide +kernel)
set_option maxRecDepth 20000 in
theorem fl_X9_82 : Cond.fieldLink RX9 82 "PolicyGateLaw$Gate" "users" "I" ∈ gk_BG := gk_bg 779 (by decide +kernel) (by decide +kernel)
set_option maxRecDepth 20000 in
theorem fl_L_31 : Cond.fieldLink RL 31 "PolicyGateLaw$Gate" "users" "I" ∈ gk_BG := gk_bg 780 (by decide +kernel) (by decide +kernel)
set_option maxRecDepth 20000 in
theorem fl_X9_18 : Cond.fieldLink RX9 18 "PolicyGateLaw$Gate" "has" "[[Z" ∈ gk_BG := gk_bg 781 (by decide +kernel) (by decide +kernel)
set_option maxRecDepth 20000 in
theorem fl_L_135 : Cond.fieldLink RL 135 "PolicyGateLaw$Gate" "has" "[[Z" ∈ gk_BG := gk_bg 782 (by decide +kernel) (by decide +kernel)
set_option maxRecDepth 20000 in
theorem fl_X9_21 : Cond.fieldLink RX9 21 "PolicyGateLaw$Gate" "clearance" "[I" ∈ gk_BG := gk_bg 783 (by decide +kernel) (by decide +kernel)
set_option maxRecDepth 20000 in
theorem fl_X9_25 : Cond.fieldLink RX9 25 "PolicyGateLaw$Gate" "traits" "[I" ∈ gk_BG := gk_bg 784 (by decide +kernel) (by decide +kernel)
set_option maxRecDepth 20000 in
theorem fl_X9_92 : Cond.fieldLink RX9 92 "PolicyGateLaw$Gate" "roles" "I" ∈ gk_BG := gk_bg 785 (by decide +kernel) (by decide +kernel)
set_option maxRecDepth 20000 in
theorem fl_L_72 : Cond.fieldLink RL 72 "PolicyGateLaw$Gate" "roles" "I" ∈ gk_BG := gk_bg 786 (by decide +kernel) (by decide +kernel)
set_option maxRecDepth 20000 in
theorem fl_X9_28 : Cond.fieldLink RX9 28 "PolicyGateLaw$Gate" "holds" "[[Z" ∈ gk_BG := gk_bg 787 (by decide +kernel) (by decide +kernel)
set_option maxRecDepth 20000 in
theorem fl_X9_31 : Cond.fieldLink RX9 31 "PolicyGateLaw$Gate" "isApart" "[[Z" ∈ gk_BG := gk_bg 788 (by decide +kernel) (by decide +kernel)
set_option maxRecDepth 20000 in
theorem fl_L_75 : Cond.fieldLink RL 75 "PolicyGateLaw$Gate" "isApart" "[[Z" ∈ gk_BG := gk_bg 789 (by decide +kernel) (by decide +kernel)
set_option maxRecDepth 20000 in
theorem fl_X9_34 : Cond.fieldLink RX9 34 "PolicyGateLaw$Gate" "resources" "I" ∈ gk_BG := gk_bg 790 (by decide +kernel) (by decide +kernel)
set_option maxRecDepth 20000 in
theorem fl_L_39 : Cond.fieldLink RL 39 "PolicyGateLaw$Gate" "resources" "I" ∈ gk_BG := gk_bg 791 (by decide +kernel) (by decide +kernel)
set_option maxRecDepth 20000 in
theorem fl_X9_38 : Cond.fieldLink RX9 38 "PolicyGateLaw$Gate" "parent" "[I" ∈ gk_BG := gk_bg 792 (by decide +kernel) (by decide +kernel)
set_option maxRecDepth 20000 in
theorem fl_X9_41 : Cond.fieldLink RX9 41 "PolicyGateLaw$Gate" "label" "[I" ∈ gk_BG := gk_bg 793 (by decide +kernel) (by decide +kernel)
set_option maxRecDepth 20000 in
theorem fl_X9_44 : Cond.fieldLink RX9 44 "PolicyGateLaw$Gate" "wall" "[I" ∈ gk_BG := gk_bg 794 (by decide +kernel) (by decide +kernel)
set_option maxRecDepth 20000 in
theorem fl_X9_47 : Cond.fieldLink RX9 47 "PolicyGateLaw$Gate" "house" "[I" ∈ gk_BG := gk_bg 795 (by decide +kernel) (by decide +kernel)
set_option maxRecDepth 20000 in
theorem fl_L_119 : Cond.fieldLink RL 119 "PolicyGateLaw$Gate" "rules" "I" ∈ gk_BG := gk_bg 796 (by decide +kernel) (by decide +kernel)
set_option maxRecDepth 20000 in
theorem fl_X9_142 : Cond.fieldLink RX9 142 "PolicyGateLaw$Gate" "rules" "I" ∈ gk_BG := gk_bg 797 (by decide +kernel) (by decide +kernel)
set_option maxRecDepth 20000 in
theorem fl_X9_51 : Cond.fieldLink RX9 51 "PolicyGateLaw$Gate" "rule" "[[I" ∈ gk_BG := gk_bg 798 (by decide +kernel) (by decide +kernel)
set_option maxRecDepth 20000 in
theorem fl_L_95 : Cond.fieldLink RL 95 "PolicyGateLaw$Gate" "rule" "[[I" ∈ gk_BG := gk_bg 799 (by decide +kernel) (by decide +kernel)
set_option maxRecDepth 20000 in
theorem fl_X9_184 : Cond.fieldLink RX9 184 "PolicyGateLaw$Gate" "grants" "I" ∈ gk_BG := gk_bg 800 (by decide +kernel) (by decide +kernel)
set_option maxRecDepth 20000 in
theorem fl_X9_55 : Cond.fieldLink RX9 55 "PolicyGateLaw$Gate" "grant" "[[I" ∈ gk_BG := gk_bg 801 (by decide +kernel) (by decide +kernel)
set_option maxRecDepth 20000 in
theorem fl_L_103 : Cond.fieldLink RL 103 "PolicyGateLaw$Gate" "grant" "[[I" ∈ gk_BG := gk_bg 802 (by decide +kernel) (by decide +kernel)
set_option maxRecDepth 20000 in
theorem fl_X9_59 : Cond.fieldLink RX9 59 "PolicyGateLaw$Gate" "done" "[[I" ∈ gk_BG := gk_bg 803 (by decide +kernel) (by decide +kernel)
set_option maxRecDepth 20000 in
theorem ml_L_35 : Cond.methodLink RL 35 yX9_draw ∈ gk_BG := gk_bg 850 (by decide +kernel) (by decide +kernel)
set_option maxRecDepth 20000 in
theorem nm_X9_68 : Cond.methodLinkNest RX9 68 yL_cell "PolicyGateLaw" ∈ gk_NG := gk_ng 854 (by decide +kernel) (by decide +kernel)
set_option maxRecDepth 20000 in
theorem k_L_8 : Cond.constant RL 8 (790386105) ∈ gk_BG := gk_bg 857 (by decide +kernel) (by decide +kernel)
set_option maxRecDepth 20000 in
theorem nm_X9_74 : Cond.methodLinkNest RX9 74 yL_below "PolicyGateLaw" ∈ gk_NG := gk_ng 858 (by decide +kernel) (by decide +kernel)
set_option maxRecDepth 20000 in
theorem k_L_7 : Cond.constant RL 7 (2147483647) ∈ gk_BG := gk_bg 861 (by decide +kernel) (by decide +kernel)
set_option maxRecDepth 20000 in
theorem ml_L_18 : Cond.methodLink RL 18 yX9_make ∈ gk_BG := gk_bg 862 (by decide +kernel) (by decide +kernel)
set_option maxRecDepth 20000 in
theorem ml_X9_78 : Cond.methodLink RX9 78 yX9_draw ∈ gk_BG := gk_bg 866 (by decide +kernel) (by decide +kernel)
set_option maxRecDepth 20000 in
theorem ml_X9_85 : Cond.methodLink RX9 85 yX8_addUser ∈ gk_BG := gk_bg 867 (by decide +kernel) (by decide +kernel)
set_option maxRecDepth 20000 in
theorem ml_X8_55 : Cond.methodLink RX8 55 yX8_checkState ∈ gk_BG := gk_bg 871 (by decide +kernel) (by decide +kernel)
set_option maxRecDepth 20000 in
theorem cl_X8_305 : Cond.classLink RX8 305 "java/lang/IllegalStateException" ∈ gk_BG := gk_bg 874 (by decide +kernel) (by decide +kernel)
set_option maxRecDepth 20000 in
theorem ml_X8_58 : Cond.methodLink RX8 58 yX6_add ∈ gk_BG := gk_bg 890 (by decide +kernel) (by decide +kernel)
set_option maxRecDepth 20000 in
theorem ml_X9_88 : Cond.methodLink RX9 88 yX8_addRole ∈ gk_BG := gk_bg 894 (by decide +kernel) (by decide +kernel)
set_option maxRecDepth 20000 in
theorem ml_X8_69 : Cond.methodLink RX8 69 yX1_add ∈ gk_BG := gk_bg 898 (by decide +kernel) (by decide +kernel)
set_option maxRecDepth 20000 in
theorem ml_X9_95 : Cond.methodLink RX9 95 yX8_addResource ∈ gk_BG := gk_bg 902 (by decide +kernel) (by decide +kernel)
set_option maxRecDepth 20000 in
theorem ml_X8_86 : Cond.methodLink RX8 86 yX5_add ∈ gk_BG := gk_bg 906 (by decide +kernel) (by decide +kernel)
set_option maxRecDepth 20000 in
theorem ml_X5_40 : Cond.methodLink RX5 40 yX2_put ∈ gk_BG := gk_bg 910 (by decide +kernel) (by decide +kernel)
set_option maxRecDepth 20000 in
theorem ml_X9_98 : Cond.methodLink RX9 98 yX8_setLabel ∈ gk_BG := gk_bg 911 (by decide +kernel) (by decide +kernel)
set_option maxRecDepth 20000 in
theorem ml_X9_101 : Cond.methodLink RX9 101 yX8_users ∈ gk_BG := gk_bg 915 (by decide +kernel) (by decide +kernel)
set_option maxRecDepth 20000 in
theorem ml_X9_103 : Cond.methodLink RX9 103 yX8_roles ∈ gk_BG := gk_bg 919 (by decide +kernel) (by decide +kernel)
set_option maxRecDepth 20000 in
theorem ml_X9_105 : Cond.methodLink RX9 105 yX8_resources ∈ gk_BG := gk_bg 923 (by decide +kernel) (by decide +kernel)
set_option maxRecDepth 20000 in
theorem ml_L_22 : Cond.methodLink RL 22 yX9_bind ∈ gk_BG := gk_bg 927 (by decide +kernel) (by decide +kernel)
set_option maxRecDepth 20000 in
theorem cl_X9_138 : Cond.classLink RX9 138 "java/lang/IllegalArgumentException" ∈ gk_BG := gk_bg 931 (by decide +kernel) (by decide +kernel)
set_option maxRecDepth 20000 in
theorem cl_X9_140 : Cond.classLink RX9 140 "java/lang/IllegalStateException" ∈ gk_BG := gk_bg 932 (by decide +kernel) (by decide +kernel)
set_option maxRecDepth 20000 in
theorem ml_X9_120 : Cond.methodLink RX9 120 yX9_hasApart ∈ gk_BG := gk_bg 933 (by decide +kernel) (by decide +kernel)
set_option maxRecDepth 20000 in
theorem ml_X9_107 : Cond.methodLink RX9 107 yX9_near ∈ gk_BG := gk_bg 937 (by decide +kernel) (by decide +kernel)
set_option maxRecDepth 20000 in
theorem ml_X9_111 : Cond.methodLink RX9 111 yJ9_min_7cf53 ∈ gk_BG := gk_bg 941 (by decide +kernel) (by decide +kernel)
set_option maxRecDepth 20000 in
theorem ml_X9_124 : Cond.methodLink RX9 124 yX8_setRole ∈ gk_BG := gk_bg 944 (by decide +kernel) (by decide +kernel)
set_option maxRecDepth 20000 in
theorem ml_X9_116 : Cond.methodLink RX9 116 yX9_isHeld ∈ gk_BG := gk_bg 948 (by decide +kernel) (by decide +kernel)
set_option maxRecDepth 20000 in
theorem ml_X9_128 : Cond.methodLink RX9 128 yX9_anyApart ∈ gk_BG := gk_bg 952 (by decide +kernel) (by decide +kernel)
set_option maxRecDepth 20000 in
theorem ml_X9_132 : Cond.methodLink RX9 132 yX8_setHolds ∈ gk_BG := gk_bg 956 (by decide +kernel) (by decide +kernel)
set_option maxRecDepth 20000 in
theorem ml_X8_113 : Cond.methodLink RX8 113 yX8_wouldSplitSomeone ∈ gk_BG := gk_bg 960 (by decide +kernel) (by decide +kernel)
set_option maxRecDepth 20000 in
theorem ml_X9_135 : Cond.methodLink RX9 135 yX8_setApart ∈ gk_BG := gk_bg 964 (by decide +kernel) (by decide +kernel)
set_option maxRecDepth 20000 in
theorem ml_X8_125 : Cond.methodLink RX8 125 yX8_isAnyoneWith ∈ gk_BG := gk_bg 968 (by decide +kernel) (by decide +kernel)
set_option maxRecDepth 20000 in
theorem ml_X8_128 : Cond.methodLink RX8 128 yX1_part ∈ gk_BG := gk_bg 972 (by decide +kernel) (by decide +kernel)
set_option maxRecDepth 20000 in
theorem ml_X1_31 : Cond.methodLink RX1 31 yX2_put ∈ gk_BG := gk_bg 976 (by decide +kernel) (by decide +kernel)
set_option maxRecDepth 20000 in
theorem ml_L_25 : Cond.methodLink RL 25 yX9_addRule ∈ gk_BG := gk_bg 977 (by decide +kernel) (by decide +kernel)
set_option maxRecDepth 20000 in
theorem ml_X9_145 : Cond.methodLink RX9 145 yX8_addRule ∈ gk_BG := gk_bg 981 (by decide +kernel) (by decide +kernel)
set_option maxRecDepth 20000 in
theorem ml_X8_159 : Cond.methodLink RX8 159 yX3_add ∈ gk_BG := gk_bg 985 (by decide +kernel) (by decide +kernel)
set_option maxRecDepth 20000 in
theorem ml_X3_48 : Cond.methodLink RX3 48 yX2_put ∈ gk_BG := gk_bg 989 (by decide +kernel) (by decide +kernel)
set_option maxRecDepth 20000 in
theorem ml_X9_149 : Cond.methodLink RX9 149 yX8_setRule ∈ gk_BG := gk_bg 990 (by decide +kernel) (by decide +kernel)
set_option maxRecDepth 20000 in
theorem ml_X9_153 : Cond.methodLink RX9 153 yX8_setTerms ∈ gk_BG := gk_bg 994 (by decide +kernel) (by decide +kernel)
set_option maxRecDepth 20000 in
theorem ml_L_28 : Cond.methodLink RL 28 yX9_addGrant ∈ gk_BG := gk_bg 998 (by decide +kernel) (by decide +kernel)
set_option maxRecDepth 20000 in
theorem ml_X9_193 : Cond.methodLink RX9 193 yX8_grant ∈ gk_BG := gk_bg 1002 (by decide +kernel) (by decide +kernel)
set_option maxRecDepth 20000 in
theorem ml_X8_211 : Cond.methodLink RX8 211 yX0_add ∈ gk_BG := gk_bg 1006 (by decide +kernel) (by decide +kernel)
set_option maxRecDepth 20000 in
theorem ml_X0_39 : Cond.methodLink RX0 39 yX2_put ∈ gk_BG := gk_bg 1010 (by decide +kernel) (by decide +kernel)
set_option maxRecDepth 20000 in
theorem ml_L_125 : Cond.methodLink RL 125 yL_table ∈ gk_BG := gk_bg 1011 (by decide +kernel) (by decide +kernel)
set_option maxRecDepth 20000 in
theorem ml_L_113 : Cond.methodLink RL 113 yL_isByOne ∈ gk_BG := gk_bg 1014 (by decide +kernel) (by decide +kernel)
set_option maxRecDepth 20000 in
theorem cl_L_142 : Cond.classLink RL 142 "java/lang/IllegalStateException" ∈ gk_BG := gk_bg 1017 (by decide +kernel) (by decide +kernel)
set_option maxRecDepth 20000 in
theorem ml_L_138 : Cond.methodLink RL 138 yX8_setRole ∈ gk_BG := gk_bg 1018 (by decide +kernel) (by decide +kernel)
set_option maxRecDepth 20000 in
theorem iwX0 : ∀ w ∈ wsX00, w ∈ gk_BG := by decide +kernel
set_option maxRecDepth 20000 in
theorem iwX1 : ∀ w ∈ wsX10, w ∈ gk_BG := by decide +kernel
set_option maxRecDepth 20000 in
theorem iwX2 : ∀ w ∈ wsX20, w ∈ gk_BG := by decide +kernel
set_option maxRecDepth 20000 in
theorem iwX3 : ∀ w ∈ wsX30, w ∈ gk_BG := by decide +kernel
set_option maxRecDepth 20000 in
theorem iwX4 : ∀ w ∈ wsX40, w ∈ gk_BG := by decide +kernel
set_option maxRecDepth 20000 in
theorem iwX5 : ∀ w ∈ wsX50, w ∈ gk_BG := by decide +kernel
set_option maxRecDepth 20000 in
theorem iwX6 : ∀ w ∈ wsX60, w ∈ gk_BG := by decide +kernel
set_option maxRecDepth 20000 in
theorem iwX7 : ∀ w ∈ wsX70, w ∈ gk_BG := by decide +kernel
set_option maxRecDepth 20000 in
theorem iwX8 : ∀ w ∈ wsX80, w ∈ gk_BG := by decide +kernel
set_option maxRecDepth 20000 in
theorem iwX9 : ∀ w ∈ wsX90, w ∈ gk_BG := by decide +kernel
