def RX0 : String := "PolicyGate$Grants"
def TX0 : u_T := fun k => match k with
  | 0 => ("PolicyGate$Grants", "count", "I", false)
  | 1 => ("PolicyGate$Grants", "from", "LPolicyGate$Row;", true)
  | 2 => ("PolicyGate$Grants", "to", "LPolicyGate$Row;", true)
  | 3 => ("PolicyGate$Grants", "action", "LPolicyGate$Row;", true)
  | 4 => ("PolicyGate$Grants", "resource", "LPolicyGate$Row;", true)
  | 5 => ("PolicyGate$Grants", "hands", "LPolicyGate$Row;", true)
  | _ => ("PolicyGate$Grants", "end", "LPolicyGate$Row;", true)
def tyX0 : Nat → FieldType := fun k => match k with
  | 0 => .int
  | 1 => .object "PolicyGate$Row"
  | 2 => .object "PolicyGate$Row"
  | 3 => .object "PolicyGate$Row"
  | 4 => .object "PolicyGate$Row"
  | 5 => .object "PolicyGate$Row"
  | _ => .object "PolicyGate$Row"
abbrev wsX00 : List Cond := u_ws RX0 TX0 7
theorem nmX0 : ∀ a, a < 7 → ∀ b, b < 7 → a ≠ b → (TX0 a).2.1 ≠ (TX0 b).2.1 := by decide +kernel
theorem tyX0_ok : ∀ k, k < 7 → parseFieldDescriptor (TX0 k).2.2.1 = some (tyX0 k) := by decide +kernel
abbrev cX0_init : ByteArray := prog_2_method_1_code
def yX0_init : MethodName := ⟨RX0, "<init>", "()V"⟩
abbrev cX0_add : ByteArray := prog_2_method_2_code
def yX0_add : MethodName := ⟨RX0, "add", "(IIIIII)I"⟩
def RX1 : String := "PolicyGate$Roles"
def TX1 : u_T := fun k => match k with
  | 0 => ("PolicyGate$Roles", "count", "I", false)
  | 1 => ("PolicyGate$Roles", "pairs", "I", false)
  | 2 => ("PolicyGate$Roles", "holds", "LPolicyGate$Row;", true)
  | _ => ("PolicyGate$Roles", "apart", "LPolicyGate$Row;", true)
def tyX1 : Nat → FieldType := fun k => match k with
  | 0 => .int
  | 1 => .int
  | 2 => .object "PolicyGate$Row"
  | _ => .object "PolicyGate$Row"
abbrev wsX10 : List Cond := u_ws RX1 TX1 4
theorem nmX1 : ∀ a, a < 4 → ∀ b, b < 4 → a ≠ b → (TX1 a).2.1 ≠ (TX1 b).2.1 := by decide +kernel
theorem tyX1_ok : ∀ k, k < 4 → parseFieldDescriptor (TX1 k).2.2.1 = some (tyX1 k) := by decide +kernel
abbrev cX1_init : ByteArray := prog_3_method_1_code
def yX1_init : MethodName := ⟨RX1, "<init>", "()V"⟩
abbrev cX1_add : ByteArray := prog_3_method_2_code
def yX1_add : MethodName := ⟨RX1, "add", "()I"⟩
abbrev cX1_part : ByteArray := prog_3_method_3_code
def yX1_part : MethodName := ⟨RX1, "part", "(II)I"⟩
abbrev cX1_heldBy : ByteArray := prog_3_method_4_code
def yX1_heldBy : MethodName := ⟨RX1, "heldBy", "(I)I"⟩
abbrev cX1_hadWith : ByteArray := prog_3_method_5_code
def yX1_hadWith : MethodName := ⟨RX1, "hadWith", "(I)I"⟩
abbrev cX1_nearBy : ByteArray := prog_3_method_6_code
def yX1_nearBy : MethodName := ⟨RX1, "nearBy", "(II)I"⟩
abbrev cX1_isSplit : ByteArray := prog_3_method_7_code
def yX1_isSplit : MethodName := ⟨RX1, "isSplit", "(I)Z"⟩
def RX2 : String := "PolicyGate$Row"
def TX2 : u_T := fun k => match k with
  | _ => ("PolicyGate$Row", "cells", "[I", true)
def tyX2 : Nat → FieldType := fun k => match k with
  | _ => .array .int
abbrev wsX20 : List Cond := u_ws RX2 TX2 1
theorem nmX2 : ∀ a, a < 1 → ∀ b, b < 1 → a ≠ b → (TX2 a).2.1 ≠ (TX2 b).2.1 := by decide +kernel
theorem tyX2_ok : ∀ k, k < 1 → parseFieldDescriptor (TX2 k).2.2.1 = some (tyX2 k) := by decide +kernel
abbrev cX2_init : ByteArray := prog_4_method_1_code
def yX2_init : MethodName := ⟨RX2, "<init>", "(II)V"⟩
abbrev cX2_at : ByteArray := prog_4_method_2_code
def yX2_at : MethodName := ⟨RX2, "at", "(I)I"⟩
abbrev cX2_put : ByteArray := prog_4_method_3_code
def yX2_put : MethodName := ⟨RX2, "put", "(II)V"⟩
abbrev cX2_takeOut : ByteArray := prog_4_method_4_code
def yX2_takeOut : MethodName := ⟨RX2, "takeOut", "(I)V"⟩
abbrev cX2_clear : ByteArray := prog_4_method_5_code
def yX2_clear : MethodName := ⟨RX2, "clear", "()V"⟩
def RX3 : String := "PolicyGate$Rules"
def TX3 : u_T := fun k => match k with
  | 0 => ("PolicyGate$Rules", "count", "I", false)
  | 1 => ("PolicyGate$Rules", "allows", "LPolicyGate$Row;", true)
  | 2 => ("PolicyGate$Rules", "forWhom", "LPolicyGate$Row;", true)
  | 3 => ("PolicyGate$Rules", "actions", "LPolicyGate$Row;", true)
  | 4 => ("PolicyGate$Rules", "resource", "LPolicyGate$Row;", true)
  | 5 => ("PolicyGate$Rules", "deep", "LPolicyGate$Row;", true)
  | 6 => ("PolicyGate$Rules", "rank", "LPolicyGate$Row;", true)
  | 7 => ("PolicyGate$Rules", "traits", "LPolicyGate$Row;", true)
  | 8 => ("PolicyGate$Rules", "first", "LPolicyGate$Row;", true)
  | _ => ("PolicyGate$Rules", "last", "LPolicyGate$Row;", true)
def tyX3 : Nat → FieldType := fun k => match k with
  | 0 => .int
  | 1 => .object "PolicyGate$Row"
  | 2 => .object "PolicyGate$Row"
  | 3 => .object "PolicyGate$Row"
  | 4 => .object "PolicyGate$Row"
  | 5 => .object "PolicyGate$Row"
  | 6 => .object "PolicyGate$Row"
  | 7 => .object "PolicyGate$Row"
  | 8 => .object "PolicyGate$Row"
  | _ => .object "PolicyGate$Row"
abbrev wsX30 : List Cond := u_ws RX3 TX3 10
theorem nmX3 : ∀ a, a < 10 → ∀ b, b < 10 → a ≠ b → (TX3 a).2.1 ≠ (TX3 b).2.1 := by decide +kernel
theorem tyX3_ok : ∀ k, k < 10 → parseFieldDescriptor (TX3 k).2.2.1 = some (tyX3 k) := by decide +kernel
abbrev cX3_init : ByteArray := prog_5_method_1_code
def yX3_init : MethodName := ⟨RX3, "<init>", "()V"⟩
abbrev cX3_add : ByteArray := prog_5_method_2_code
def yX3_add : MethodName := ⟨RX3, "add", "(ZIII)I"⟩
abbrev cX3_drop : ByteArray := prog_5_method_3_code
def yX3_drop : MethodName := ⟨RX3, "drop", "(I)I"⟩
abbrev cX3_holdsIn : ByteArray := prog_5_method_4_code
def yX3_holdsIn : MethodName := ⟨RX3, "holdsIn", "(II)Z"⟩
def RX4 : String := "PolicyGate$Told"
def TX4 : u_T := fun k => match k with
  | 0 => ("PolicyGate$Told", "users", "LPolicyGate$Users;", true)
  | 1 => ("PolicyGate$Told", "roles", "LPolicyGate$Roles;", true)
  | 2 => ("PolicyGate$Told", "tree", "LPolicyGate$Tree;", true)
  | 3 => ("PolicyGate$Told", "rules", "LPolicyGate$Rules;", true)
  | 4 => ("PolicyGate$Told", "grants", "LPolicyGate$Grants;", true)
  | 5 => ("PolicyGate$Told", "weighing", "I", false)
  | _ => ("PolicyGate$Told", "clock", "I", false)
def tyX4 : Nat → FieldType := fun k => match k with
  | 0 => .object "PolicyGate$Users"
  | 1 => .object "PolicyGate$Roles"
  | 2 => .object "PolicyGate$Tree"
  | 3 => .object "PolicyGate$Rules"
  | 4 => .object "PolicyGate$Grants"
  | 5 => .int
  | _ => .int
abbrev wsX40 : List Cond := u_ws RX4 TX4 7
theorem nmX4 : ∀ a, a < 7 → ∀ b, b < 7 → a ≠ b → (TX4 a).2.1 ≠ (TX4 b).2.1 := by decide +kernel
theorem tyX4_ok : ∀ k, k < 7 → parseFieldDescriptor (TX4 k).2.2.1 = some (tyX4 k) := by decide +kernel
abbrev cX4_init : ByteArray := prog_6_method_1_code
def yX4_init : MethodName := ⟨RX4, "<init>", "()V"⟩
abbrev cX4_hour : ByteArray := prog_6_method_2_code
def yX4_hour : MethodName := ⟨RX4, "hour", "()I"⟩
abbrev cX4_isThere : ByteArray := prog_6_method_3_code
def yX4_isThere : MethodName := ⟨RX4, "isThere", "(I)Z"⟩
abbrev cX4_isGiven : ByteArray := prog_6_method_4_code
def yX4_isGiven : MethodName := ⟨RX4, "isGiven", "(IIII)Z"⟩
def RX5 : String := "PolicyGate$Tree"
def TX5 : u_T := fun k => match k with
  | 0 => ("PolicyGate$Tree", "count", "I", false)
  | 1 => ("PolicyGate$Tree", "depth", "LPolicyGate$Row;", true)
  | 2 => ("PolicyGate$Tree", "above", "LPolicyGate$Row;", true)
  | 3 => ("PolicyGate$Tree", "label", "LPolicyGate$Row;", true)
  | 4 => ("PolicyGate$Tree", "itsClass", "LPolicyGate$Row;", true)
  | _ => ("PolicyGate$Tree", "house", "LPolicyGate$Row;", true)
def tyX5 : Nat → FieldType := fun k => match k with
  | 0 => .int
  | 1 => .object "PolicyGate$Row"
  | 2 => .object "PolicyGate$Row"
  | 3 => .object "PolicyGate$Row"
  | 4 => .object "PolicyGate$Row"
  | _ => .object "PolicyGate$Row"
abbrev wsX50 : List Cond := u_ws RX5 TX5 6
theorem nmX5 : ∀ a, a < 6 → ∀ b, b < 6 → a ≠ b → (TX5 a).2.1 ≠ (TX5 b).2.1 := by decide +kernel
theorem tyX5_ok : ∀ k, k < 6 → parseFieldDescriptor (TX5 k).2.2.1 = some (tyX5 k) := by decide +kernel
abbrev cX5_init : ByteArray := prog_7_method_1_code
def yX5_init : MethodName := ⟨RX5, "<init>", "()V"⟩
abbrev cX5_add : ByteArray := prog_7_method_2_code
def yX5_add : MethodName := ⟨RX5, "add", "(I)I"⟩
abbrev cX5_isBeneath : ByteArray := prog_7_method_3_code
def yX5_isBeneath : MethodName := ⟨RX5, "isBeneath", "(II)Z"⟩
abbrev cX5_farUp : ByteArray := prog_7_method_4_code
def yX5_farUp : MethodName := ⟨RX5, "farUp", "(II)I"⟩
def RX6 : String := "PolicyGate$Users"
def TX6 : u_T := fun k => match k with
  | 0 => ("PolicyGate$Users", "count", "I", false)
  | 1 => ("PolicyGate$Users", "clearance", "LPolicyGate$Row;", true)
  | 2 => ("PolicyGate$Users", "traits", "LPolicyGate$Row;", true)
  | 3 => ("PolicyGate$Users", "sets", "LPolicyGate$Row;", true)
  | _ => ("PolicyGate$Users", "doneSets", "LPolicyGate$Row;", true)
def tyX6 : Nat → FieldType := fun k => match k with
  | 0 => .int
  | 1 => .object "PolicyGate$Row"
  | 2 => .object "PolicyGate$Row"
  | 3 => .object "PolicyGate$Row"
  | _ => .object "PolicyGate$Row"
abbrev wsX60 : List Cond := u_ws RX6 TX6 5
theorem nmX6 : ∀ a, a < 5 → ∀ b, b < 5 → a ≠ b → (TX6 a).2.1 ≠ (TX6 b).2.1 := by decide +kernel
theorem tyX6_ok : ∀ k, k < 5 → parseFieldDescriptor (TX6 k).2.2.1 = some (tyX6 k) := by decide +kernel
abbrev cX6_init : ByteArray := prog_8_method_1_code
def yX6_init : MethodName := ⟨RX6, "<init>", "()V"⟩
abbrev cX6_add : ByteArray := prog_8_method_2_code
def yX6_add : MethodName := ⟨RX6, "add", "(II)I"⟩
abbrev cX6_doneOn : ByteArray := prog_8_method_3_code
def yX6_doneOn : MethodName := ⟨RX6, "doneOn", "(II)I"⟩
abbrev cX6_note : ByteArray := prog_8_method_4_code
def yX6_note : MethodName := ⟨RX6, "note", "(III)V"⟩
def RX7 : String := "PolicyGate$View"
def TX7 : u_T := fun k => match k with
  | 0 => ("PolicyGate$View", "told", "LPolicyGate$Told;", true)
  | 1 => ("PolicyGate$View", "onAction", "LPolicyGate$Row;", true)
  | 2 => ("PolicyGate$View", "onResource", "LPolicyGate$Row;", true)
  | 3 => ("PolicyGate$View", "forUser", "LPolicyGate$Row;", true)
  | 4 => ("PolicyGate$View", "weights", "LPolicyGate$Row;", true)
  | 5 => ("PolicyGate$View", "houses", "LPolicyGate$Row;", true)
  | 6 => ("PolicyGate$View", "opposed", "LPolicyGate$Row;", true)
  | 7 => ("PolicyGate$View", "weighing", "I", false)
  | 8 => ("PolicyGate$View", "live", "I", false)
  | 9 => ("PolicyGate$View", "allowing", "I", false)
  | _ => ("PolicyGate$View", "good", "I", false)
def tyX7 : Nat → FieldType := fun k => match k with
  | 0 => .object "PolicyGate$Told"
  | 1 => .object "PolicyGate$Row"
  | 2 => .object "PolicyGate$Row"
  | 3 => .object "PolicyGate$Row"
  | 4 => .object "PolicyGate$Row"
  | 5 => .object "PolicyGate$Row"
  | 6 => .object "PolicyGate$Row"
  | 7 => .int
  | 8 => .int
  | 9 => .int
  | _ => .int
abbrev wsX70 : List Cond := u_ws RX7 TX7 11
theorem nmX7 : ∀ a, a < 11 → ∀ b, b < 11 → a ≠ b → (TX7 a).2.1 ≠ (TX7 b).2.1 := by decide +kernel
theorem tyX7_ok : ∀ k, k < 11 → parseFieldDescriptor (TX7 k).2.2.1 = some (tyX7 k) := by decide +kernel
abbrev cX7_init : ByteArray := prog_9_method_1_code
def yX7_init : MethodName := ⟨RX7, "<init>", "(LPolicyGate$Told;)V"⟩
abbrev cX7_look : ByteArray := prog_9_method_2_code
def yX7_look : MethodName := ⟨RX7, "look", "(II)V"⟩
abbrev cX7_lookAtRules : ByteArray := prog_9_method_3_code
def yX7_lookAtRules : MethodName := ⟨RX7, "lookAtRules", "(I)V"⟩
abbrev cX7_lookWhere : ByteArray := prog_9_method_4_code
def yX7_lookWhere : MethodName := ⟨RX7, "lookWhere", "(I)V"⟩
abbrev cX7_lookAtWalls : ByteArray := prog_9_method_5_code
def yX7_lookAtWalls : MethodName := ⟨RX7, "lookAtWalls", "()V"⟩
abbrev cX7_giveSet : ByteArray := prog_9_method_6_code
def yX7_giveSet : MethodName := ⟨RX7, "giveSet", "(II)V"⟩
abbrev cX7_stepsTo : ByteArray := prog_9_method_7_code
def yX7_stepsTo : MethodName := ⟨RX7, "stepsTo", "(III)I"⟩
abbrev cX7_weightOf : ByteArray := prog_9_method_8_code
def yX7_weightOf : MethodName := ⟨RX7, "weightOf", "(II)I"⟩
abbrev cX7_weighGrants : ByteArray := prog_9_method_9_code
def yX7_weighGrants : MethodName := ⟨RX7, "weighGrants", "()V"⟩
abbrev cX7_isByRight : ByteArray := prog_9_method_10_code
def yX7_isByRight : MethodName := ⟨RX7, "isByRight", "(I)Z"⟩
abbrev cX7_isPassedOn : ByteArray := prog_9_method_11_code
def yX7_isPassedOn : MethodName := ⟨RX7, "isPassedOn", "(I)Z"⟩
abbrev cX7_matching : ByteArray := prog_9_method_12_code
def yX7_matching : MethodName := ⟨RX7, "matching", "(III)I"⟩
abbrev cX7_deciding : ByteArray := prog_9_method_13_code
def yX7_deciding : MethodName := ⟨RX7, "deciding", "(II)I"⟩
abbrev cX7_ruled : ByteArray := prog_9_method_14_code
def yX7_ruled : MethodName := ⟨RX7, "ruled", "(III)I"⟩
abbrev cX7_isAgainstLabel : ByteArray := prog_9_method_15_code
def yX7_isAgainstLabel : MethodName := ⟨RX7, "isAgainstLabel", "(III)Z"⟩
abbrev cX7_isWalledOff : ByteArray := prog_9_method_16_code
def yX7_isWalledOff : MethodName := ⟨RX7, "isWalledOff", "(II)Z"⟩
abbrev cX7_grantFor : ByteArray := prog_9_method_17_code
def yX7_grantFor : MethodName := ⟨RX7, "grantFor", "(III)I"⟩
abbrev cX7_decided : ByteArray := prog_9_method_18_code
def yX7_decided : MethodName := ⟨RX7, "decided", "(III)I"⟩
abbrev cX7_isAllowed : ByteArray := prog_9_method_19_code
def yX7_isAllowed : MethodName := ⟨RX7, "isAllowed", "(III)Z"⟩
abbrev cX7_reason : ByteArray := prog_9_method_20_code
def yX7_reason : MethodName := ⟨RX7, "reason", "(III)I"⟩
abbrev cX7_allowedTo : ByteArray := prog_9_method_21_code
def yX7_allowedTo : MethodName := ⟨RX7, "allowedTo", "(II)I"⟩
abbrev cX7_differences : ByteArray := prog_9_method_22_code
def yX7_differences : MethodName := ⟨RX7, "differences", "(LPolicyGate$View;)I"⟩
abbrev cX7_opposedPairs : ByteArray := prog_9_method_23_code
def yX7_opposedPairs : MethodName := ⟨RX7, "opposedPairs", "()I"⟩
abbrev cX7_oppose : ByteArray := prog_9_method_24_code
def yX7_oppose : MethodName := ⟨RX7, "oppose", "(I)V"⟩
def RX8 : String := "PolicyGate"
def TX8 : u_T := fun k => match k with
  | 0 => ("PolicyGate", "told", "LPolicyGate$Told;", true)
  | 1 => ("PolicyGate", "now", "LPolicyGate$View;", true)
  | 2 => ("PolicyGate", "would", "LPolicyGate$View;", true)
  | _ => ("PolicyGate", "counts", "LPolicyGate$Row;", true)
def tyX8 : Nat → FieldType := fun k => match k with
  | 0 => .object "PolicyGate$Told"
  | 1 => .object "PolicyGate$View"
  | 2 => .object "PolicyGate$View"
  | _ => .object "PolicyGate$Row"
abbrev wsX80 : List Cond := u_ws RX8 TX8 4
theorem nmX8 : ∀ a, a < 4 → ∀ b, b < 4 → a ≠ b → (TX8 a).2.1 ≠ (TX8 b).2.1 := by decide +kernel
theorem tyX8_ok : ∀ k, k < 4 → parseFieldDescriptor (TX8 k).2.2.1 = some (tyX8 k) := by decide +kernel
abbrev cX8_init : ByteArray := prog_1_method_1_code
def yX8_init : MethodName := ⟨RX8, "<init>", "()V"⟩
abbrev cX8_addUser : ByteArray := prog_1_method_2_code
def yX8_addUser : MethodName := ⟨RX8, "addUser", "(II)I"⟩
abbrev cX8_addRole : ByteArray := prog_1_method_3_code
def yX8_addRole : MethodName := ⟨RX8, "addRole", "()I"⟩
abbrev cX8_addResource : ByteArray := prog_1_method_4_code
def yX8_addResource : MethodName := ⟨RX8, "addResource", "(I)I"⟩
abbrev cX8_setRole : ByteArray := prog_1_method_5_code
def yX8_setRole : MethodName := ⟨RX8, "setRole", "(IIZ)Z"⟩
abbrev cX8_setHolds : ByteArray := prog_1_method_6_code
def yX8_setHolds : MethodName := ⟨RX8, "setHolds", "(IIZ)Z"⟩
abbrev cX8_setApart : ByteArray := prog_1_method_7_code
def yX8_setApart : MethodName := ⟨RX8, "setApart", "(II)I"⟩
abbrev cX8_setUser : ByteArray := prog_1_method_8_code
def yX8_setUser : MethodName := ⟨RX8, "setUser", "(III)I"⟩
abbrev cX8_setLabel : ByteArray := prog_1_method_9_code
def yX8_setLabel : MethodName := ⟨RX8, "setLabel", "(II)I"⟩
abbrev cX8_setWall : ByteArray := prog_1_method_10_code
def yX8_setWall : MethodName := ⟨RX8, "setWall", "(III)Z"⟩
abbrev cX8_users : ByteArray := prog_1_method_11_code
def yX8_users : MethodName := ⟨RX8, "users", "()I"⟩
abbrev cX8_roles : ByteArray := prog_1_method_12_code
def yX8_roles : MethodName := ⟨RX8, "roles", "()I"⟩
abbrev cX8_resources : ByteArray := prog_1_method_13_code
def yX8_resources : MethodName := ⟨RX8, "resources", "()I"⟩
abbrev cX8_near : ByteArray := prog_1_method_14_code
def yX8_near : MethodName := ⟨RX8, "near", "(II)I"⟩
abbrev cX8_far : ByteArray := prog_1_method_15_code
def yX8_far : MethodName := ⟨RX8, "far", "(II)I"⟩
abbrev cX8_addRule : ByteArray := prog_1_method_16_code
def yX8_addRule : MethodName := ⟨RX8, "addRule", "(ZIII)I"⟩
abbrev cX8_setRule : ByteArray := prog_1_method_17_code
def yX8_setRule : MethodName := ⟨RX8, "setRule", "(IZI)I"⟩
abbrev cX8_setTerms : ByteArray := prog_1_method_18_code
def yX8_setTerms : MethodName := ⟨RX8, "setTerms", "(IIII)I"⟩
abbrev cX8_dropRule : ByteArray := prog_1_method_19_code
def yX8_dropRule : MethodName := ⟨RX8, "dropRule", "(I)I"⟩
abbrev cX8_rules : ByteArray := prog_1_method_20_code
def yX8_rules : MethodName := ⟨RX8, "rules", "()I"⟩
abbrev cX8_setWeighing : ByteArray := prog_1_method_21_code
def yX8_setWeighing : MethodName := ⟨RX8, "setWeighing", "(I)I"⟩
abbrev cX8_matches : ByteArray := prog_1_method_22_code
def yX8_matches : MethodName := ⟨RX8, "matches", "(IIII)Z"⟩
abbrev cX8_goOn : ByteArray := prog_1_method_23_code
def yX8_goOn : MethodName := ⟨RX8, "goOn", "(I)I"⟩
abbrev cX8_clock : ByteArray := prog_1_method_24_code
def yX8_clock : MethodName := ⟨RX8, "clock", "()I"⟩
abbrev cX8_grant : ByteArray := prog_1_method_25_code
def yX8_grant : MethodName := ⟨RX8, "grant", "(IIIIII)I"⟩
abbrev cX8_revoke : ByteArray := prog_1_method_26_code
def yX8_revoke : MethodName := ⟨RX8, "revoke", "(I)Z"⟩
abbrev cX8_grants : ByteArray := prog_1_method_27_code
def yX8_grants : MethodName := ⟨RX8, "grants", "()I"⟩
abbrev cX8_isGood : ByteArray := prog_1_method_28_code
def yX8_isGood : MethodName := ⟨RX8, "isGood", "(I)Z"⟩
abbrev cX8_decide : ByteArray := prog_1_method_29_code
def yX8_decide : MethodName := ⟨RX8, "decide", "(III)I"⟩
abbrev cX8_why : ByteArray := prog_1_method_30_code
def yX8_why : MethodName := ⟨RX8, "why", "(III)I"⟩
abbrev cX8_access : ByteArray := prog_1_method_31_code
def yX8_access : MethodName := ⟨RX8, "access", "(III)I"⟩
abbrev cX8_counted : ByteArray := prog_1_method_32_code
def yX8_counted : MethodName := ⟨RX8, "counted", "(I)I"⟩
abbrev cX8_done : ByteArray := prog_1_method_33_code
def yX8_done : MethodName := ⟨RX8, "done", "(II)I"⟩
abbrev cX8_who : ByteArray := prog_1_method_34_code
def yX8_who : MethodName := ⟨RX8, "who", "(II)I"⟩
abbrev cX8_reach : ByteArray := prog_1_method_35_code
def yX8_reach : MethodName := ⟨RX8, "reach", "(II)I"⟩
abbrev cX8_rolesNeeded : ByteArray := prog_1_method_36_code
def yX8_rolesNeeded : MethodName := ⟨RX8, "rolesNeeded", "(III)I"⟩
abbrev cX8_contradictions : ByteArray := prog_1_method_37_code
def yX8_contradictions : MethodName := ⟨RX8, "contradictions", "()I"⟩
abbrev cX8_isIdle : ByteArray := prog_1_method_38_code
def yX8_isIdle : MethodName := ⟨RX8, "isIdle", "(I)Z"⟩
abbrev cX8_wouldDiffer : ByteArray := prog_1_method_39_code
def yX8_wouldDiffer : MethodName := ⟨RX8, "wouldDiffer", "(I)I"⟩
abbrev cX8_wouldGain : ByteArray := prog_1_method_40_code
def yX8_wouldGain : MethodName := ⟨RX8, "wouldGain", "(II)I"⟩
abbrev cX8_openness : ByteArray := prog_1_method_41_code
def yX8_openness : MethodName := ⟨RX8, "openness", "()D"⟩
abbrev cX8_digest : ByteArray := prog_1_method_42_code
def yX8_digest : MethodName := ⟨RX8, "digest", "()J"⟩
abbrev cX8_withNumbers : ByteArray := prog_1_method_43_code
def yX8_withNumbers : MethodName := ⟨RX8, "withNumbers", "(J)J"⟩
abbrev cX8_withNear : ByteArray := prog_1_method_44_code
def yX8_withNear : MethodName := ⟨RX8, "withNear", "(J)J"⟩
abbrev cX8_withDecisions : ByteArray := prog_1_method_45_code
def yX8_withDecisions : MethodName := ⟨RX8, "withDecisions", "(J)J"⟩
abbrev cX8_withReasons : ByteArray := prog_1_method_46_code
def yX8_withReasons : MethodName := ⟨RX8, "withReasons", "(J)J"⟩
abbrev cX8_withDone : ByteArray := prog_1_method_47_code
def yX8_withDone : MethodName := ⟨RX8, "withDone", "(J)J"⟩
abbrev cX8_wouldBeAllowed : ByteArray := prog_1_method_48_code
def yX8_wouldBeAllowed : MethodName := ⟨RX8, "wouldBeAllowed", "(IIII)Z"⟩
abbrev cX8_wouldSplitSomeone : ByteArray := prog_1_method_49_code
def yX8_wouldSplitSomeone : MethodName := ⟨RX8, "wouldSplitSomeone", "(II)Z"⟩
abbrev cX8_isAnyoneWith : ByteArray := prog_1_method_50_code
def yX8_isAnyoneWith : MethodName := ⟨RX8, "isAnyoneWith", "(II)Z"⟩
abbrev cX8_isUser : ByteArray := prog_1_method_51_code
def yX8_isUser : MethodName := ⟨RX8, "isUser", "(I)Z"⟩
abbrev cX8_isRole : ByteArray := prog_1_method_52_code
def yX8_isRole : MethodName := ⟨RX8, "isRole", "(I)Z"⟩
abbrev cX8_isResource : ByteArray := prog_1_method_53_code
def yX8_isResource : MethodName := ⟨RX8, "isResource", "(I)Z"⟩
abbrev cX8_isRule : ByteArray := prog_1_method_54_code
def yX8_isRule : MethodName := ⟨RX8, "isRule", "(I)Z"⟩
abbrev cX8_isGrant : ByteArray := prog_1_method_55_code
def yX8_isGrant : MethodName := ⟨RX8, "isGrant", "(I)Z"⟩
abbrev cX8_isAction : ByteArray := prog_1_method_56_code
def yX8_isAction : MethodName := ⟨RX8, "isAction", "(I)Z"⟩
abbrev cX8_isUpTo : ByteArray := prog_1_method_57_code
def yX8_isUpTo : MethodName := ⟨RX8, "isUpTo", "(II)Z"⟩
abbrev cX8_isIn : ByteArray := prog_1_method_58_code
def yX8_isIn : MethodName := ⟨RX8, "isIn", "(II)Z"⟩
abbrev cX8_checkAsked : ByteArray := prog_1_method_59_code
def yX8_checkAsked : MethodName := ⟨RX8, "checkAsked", "(III)V"⟩
abbrev cX8_checkThere : ByteArray := prog_1_method_60_code
def yX8_checkThere : MethodName := ⟨RX8, "checkThere", "(Z)V"⟩
abbrev cX8_checkArguments : ByteArray := prog_1_method_61_code
def yX8_checkArguments : MethodName := ⟨RX8, "checkArguments", "(Z)V"⟩
abbrev cX8_checkState : ByteArray := prog_1_method_62_code
def yX8_checkState : MethodName := ⟨RX8, "checkState", "(Z)V"⟩
def RX9 : String := "PolicyGateModel"
def TX9 : u_T := fun k => match k with
  | 0 => ("PolicyGateModel", "thrown", "I", false)
  | 1 => ("PolicyGateModel", "clock", "I", false)
  | 2 => ("PolicyGateModel", "weighing", "I", false)
  | 3 => ("PolicyGateModel", "users", "I", false)
  | 4 => ("PolicyGateModel", "set", "[I", true)
  | 5 => ("PolicyGateModel", "clearance", "[I", true)
  | 6 => ("PolicyGateModel", "traits", "[I", true)
  | 7 => ("PolicyGateModel", "roles", "I", false)
  | 8 => ("PolicyGateModel", "holds", "[I", true)
  | 9 => ("PolicyGateModel", "pairs", "I", false)
  | 10 => ("PolicyGateModel", "pair", "[I", true)
  | 11 => ("PolicyGateModel", "resources", "I", false)
  | 12 => ("PolicyGateModel", "parent", "[I", true)
  | 13 => ("PolicyGateModel", "label", "[I", true)
  | 14 => ("PolicyGateModel", "wall", "[I", true)
  | 15 => ("PolicyGateModel", "house", "[I", true)
  | 16 => ("PolicyGateModel", "rules", "I", false)
  | 17 => ("PolicyGateModel", "allows", "[Z", true)
  | 18 => ("PolicyGateModel", "isDeep", "[Z", true)
  | 19 => ("PolicyGateModel", "whom", "[I", true)
  | 20 => ("PolicyGateModel", "actions", "[I", true)
  | 21 => ("PolicyGateModel", "about", "[I", true)
  | 22 => ("PolicyGateModel", "rank", "[I", true)
  | 23 => ("PolicyGateModel", "needs", "[I", true)
  | 24 => ("PolicyGateModel", "firstHour", "[I", true)
  | 25 => ("PolicyGateModel", "lastHour", "[I", true)
  | 26 => ("PolicyGateModel", "grants", "I", false)
  | 27 => ("PolicyGateModel", "from", "[I", true)
  | 28 => ("PolicyGateModel", "to", "[I", true)
  | 29 => ("PolicyGateModel", "action", "[I", true)
  | 30 => ("PolicyGateModel", "on", "[I", true)
  | 31 => ("PolicyGateModel", "hands", "[I", true)
  | 32 => ("PolicyGateModel", "end", "[I", true)
  | 33 => ("PolicyGateModel", "counted", "[I", true)
  | 34 => ("PolicyGateModel", "done", "[I", true)
  | 35 => ("PolicyGateModel", "without", "I", false)
  | 36 => ("PolicyGateModel", "hadNear", "[I", true)
  | _ => ("PolicyGateModel", "numbers", "[I", true)
def tyX9 : Nat → FieldType := fun k => match k with
  | 0 => .int
  | 1 => .int
  | 2 => .int
  | 3 => .int
  | 4 => .array .int
  | 5 => .array .int
  | 6 => .array .int
  | 7 => .int
  | 8 => .array .int
  | 9 => .int
  | 10 => .array .int
  | 11 => .int
  | 12 => .array .int
  | 13 => .array .int
  | 14 => .array .int
  | 15 => .array .int
  | 16 => .int
  | 17 => .array .boolean
  | 18 => .array .boolean
  | 19 => .array .int
  | 20 => .array .int
  | 21 => .array .int
  | 22 => .array .int
  | 23 => .array .int
  | 24 => .array .int
  | 25 => .array .int
  | 26 => .int
  | 27 => .array .int
  | 28 => .array .int
  | 29 => .array .int
  | 30 => .array .int
  | 31 => .array .int
  | 32 => .array .int
  | 33 => .array .int
  | 34 => .array .int
  | 35 => .int
  | 36 => .array .int
  | _ => .array .int
abbrev wsX90 : List Cond := u_ws RX9 TX9 38
theorem nmX9 : ∀ a, a < 38 → ∀ b, b < 38 → a ≠ b → (TX9 a).2.1 ≠ (TX9 b).2.1 := by decide +kernel
theorem tyX9_ok : ∀ k, k < 38 → parseFieldDescriptor (TX9 k).2.2.1 = some (tyX9 k) := by decide +kernel
abbrev cX9_init : ByteArray := prog_11_method_1_code
def yX9_init : MethodName := ⟨RX9, "<init>", "()V"⟩
abbrev cX9_thrown : ByteArray := prog_11_method_2_code
def yX9_thrown : MethodName := ⟨RX9, "thrown", "()I"⟩
abbrev cX9_no : ByteArray := prog_11_method_3_code
def yX9_no : MethodName := ⟨RX9, "no", "(I)I"⟩
abbrev cX9_isNot : ByteArray := prog_11_method_4_code
def yX9_isNot : MethodName := ⟨RX9, "isNot", "(I)Z"⟩
abbrev cX9_ok : ByteArray := prog_11_method_5_code
def yX9_ok : MethodName := ⟨RX9, "ok", "(I)I"⟩
abbrev cX9_isIn : ByteArray := prog_11_method_6_code
def yX9_isIn : MethodName := ⟨RX9, "isIn", "(III)Z"⟩
abbrev cX9_isUser : ByteArray := prog_11_method_7_code
def yX9_isUser : MethodName := ⟨RX9, "isUser", "(I)Z"⟩
abbrev cX9_isRole : ByteArray := prog_11_method_8_code
def yX9_isRole : MethodName := ⟨RX9, "isRole", "(I)Z"⟩
abbrev cX9_isResource : ByteArray := prog_11_method_9_code
def yX9_isResource : MethodName := ⟨RX9, "isResource", "(I)Z"⟩
abbrev cX9_isAction : ByteArray := prog_11_method_10_code
def yX9_isAction : MethodName := ⟨RX9, "isAction", "(I)Z"⟩
abbrev cX9_isQuestion : ByteArray := prog_11_method_11_code
def yX9_isQuestion : MethodName := ⟨RX9, "isQuestion", "(III)Z"⟩
abbrev cX9_nears : ByteArray := prog_11_method_12_code
def yX9_nears : MethodName := ⟨RX9, "nears", "(I)[I"⟩
abbrev cX9_nears_ : ByteArray := prog_11_method_13_code
def yX9_nears_ : MethodName := ⟨RX9, "nears", "(I[I)[I"⟩
abbrev cX9_had : ByteArray := prog_11_method_14_code
def yX9_had : MethodName := ⟨RX9, "had", "(I)I"⟩
abbrev cX9_hasApart : ByteArray := prog_11_method_15_code
def yX9_hasApart : MethodName := ⟨RX9, "hasApart", "(I)Z"⟩
abbrev cX9_areAllRight : ByteArray := prog_11_method_16_code
def yX9_areAllRight : MethodName := ⟨RX9, "areAllRight", "()Z"⟩
abbrev cX9_addUser : ByteArray := prog_11_method_17_code
def yX9_addUser : MethodName := ⟨RX9, "addUser", "(II)I"⟩
abbrev cX9_addRole : ByteArray := prog_11_method_18_code
def yX9_addRole : MethodName := ⟨RX9, "addRole", "()I"⟩
abbrev cX9_addResource : ByteArray := prog_11_method_19_code
def yX9_addResource : MethodName := ⟨RX9, "addResource", "(I)I"⟩
abbrev cX9_setRole : ByteArray := prog_11_method_20_code
def yX9_setRole : MethodName := ⟨RX9, "setRole", "(IIZ)Z"⟩
abbrev cX9_setHolds : ByteArray := prog_11_method_21_code
def yX9_setHolds : MethodName := ⟨RX9, "setHolds", "(IIZ)Z"⟩
abbrev cX9_setApart : ByteArray := prog_11_method_22_code
def yX9_setApart : MethodName := ⟨RX9, "setApart", "(II)I"⟩
abbrev cX9_setUser : ByteArray := prog_11_method_23_code
def yX9_setUser : MethodName := ⟨RX9, "setUser", "(III)I"⟩
abbrev cX9_setLabel : ByteArray := prog_11_method_24_code
def yX9_setLabel : MethodName := ⟨RX9, "setLabel", "(II)I"⟩
abbrev cX9_setWall : ByteArray := prog_11_method_25_code
def yX9_setWall : MethodName := ⟨RX9, "setWall", "(III)Z"⟩
abbrev cX9_users : ByteArray := prog_11_method_26_code
def yX9_users : MethodName := ⟨RX9, "users", "()I"⟩
abbrev cX9_roles : ByteArray := prog_11_method_27_code
def yX9_roles : MethodName := ⟨RX9, "roles", "()I"⟩
abbrev cX9_resources : ByteArray := prog_11_method_28_code
def yX9_resources : MethodName := ⟨RX9, "resources", "()I"⟩
abbrev cX9_orNone : ByteArray := prog_11_method_29_code
def yX9_orNone : MethodName := ⟨RX9, "orNone", "(I)I"⟩
abbrev cX9_near : ByteArray := prog_11_method_30_code
def yX9_near : MethodName := ⟨RX9, "near", "(II)I"⟩
abbrev cX9_farNow : ByteArray := prog_11_method_31_code
def yX9_farNow : MethodName := ⟨RX9, "farNow", "(II)I"⟩
abbrev cX9_far : ByteArray := prog_11_method_32_code
def yX9_far : MethodName := ⟨RX9, "far", "(II)I"⟩
abbrev cX9_addRule : ByteArray := prog_11_method_33_code
def yX9_addRule : MethodName := ⟨RX9, "addRule", "(ZIII)I"⟩
abbrev cX9_isRule : ByteArray := prog_11_method_34_code
def yX9_isRule : MethodName := ⟨RX9, "isRule", "(I)Z"⟩
abbrev cX9_setRule : ByteArray := prog_11_method_35_code
def yX9_setRule : MethodName := ⟨RX9, "setRule", "(IZI)I"⟩
abbrev cX9_setTerms : ByteArray := prog_11_method_36_code
def yX9_setTerms : MethodName := ⟨RX9, "setTerms", "(IIII)I"⟩
abbrev cX9_dropRule : ByteArray := prog_11_method_37_code
def yX9_dropRule : MethodName := ⟨RX9, "dropRule", "(I)I"⟩
abbrev cX9_rules : ByteArray := prog_11_method_38_code
def yX9_rules : MethodName := ⟨RX9, "rules", "()I"⟩
abbrev cX9_setWeighing : ByteArray := prog_11_method_39_code
def yX9_setWeighing : MethodName := ⟨RX9, "setWeighing", "(I)I"⟩
abbrev cX9_hour : ByteArray := prog_11_method_40_code
def yX9_hour : MethodName := ⟨RX9, "hour", "()I"⟩
abbrev cX9_isNow : ByteArray := prog_11_method_41_code
def yX9_isNow : MethodName := ⟨RX9, "isNow", "(I)Z"⟩
abbrev cX9_isFor : ByteArray := prog_11_method_42_code
def yX9_isFor : MethodName := ⟨RX9, "isFor", "(II[I)Z"⟩
abbrev cX9_fitting : ByteArray := prog_11_method_43_code
def yX9_fitting : MethodName := ⟨RX9, "fitting", "(III)I"⟩
abbrev cX9_own : ByteArray := prog_11_method_44_code
def yX9_own : MethodName := ⟨RX9, "own", "(II[I)I"⟩
abbrev cX9_matching : ByteArray := prog_11_method_45_code
def yX9_matching : MethodName := ⟨RX9, "matching", "(I[III)I"⟩
abbrev cX9_matches : ByteArray := prog_11_method_46_code
def yX9_matches : MethodName := ⟨RX9, "matches", "(IIII)Z"⟩
abbrev cX9_goOn : ByteArray := prog_11_method_47_code
def yX9_goOn : MethodName := ⟨RX9, "goOn", "(I)I"⟩
abbrev cX9_clock : ByteArray := prog_11_method_48_code
def yX9_clock : MethodName := ⟨RX9, "clock", "()I"⟩
abbrev cX9_firstOf : ByteArray := prog_11_method_49_code
def yX9_firstOf : MethodName := ⟨RX9, "firstOf", "(IZ)I"⟩
abbrev cX9_leastOf : ByteArray := prog_11_method_50_code
def yX9_leastOf : MethodName := ⟨RX9, "leastOf", "(I)I"⟩
abbrev cX9_weigh : ByteArray := prog_11_method_51_code
def yX9_weigh : MethodName := ⟨RX9, "weigh", "(I[III)I"⟩
abbrev cX9_deciding : ByteArray := prog_11_method_52_code
def yX9_deciding : MethodName := ⟨RX9, "deciding", "(I[IIII)I"⟩
abbrev cX9_isWalled : ByteArray := prog_11_method_53_code
def yX9_isWalled : MethodName := ⟨RX9, "isWalled", "(II)Z"⟩
abbrev cX9_barred : ByteArray := prog_11_method_54_code
def yX9_barred : MethodName := ⟨RX9, "barred", "(III)I"⟩
abbrev cX9_byRules : ByteArray := prog_11_method_55_code
def yX9_byRules : MethodName := ⟨RX9, "byRules", "(I[IIII)I"⟩
abbrev cX9_allNears : ByteArray := prog_11_method_56_code
def yX9_allNears : MethodName := ⟨RX9, "allNears", "()[[I"⟩
abbrev cX9_isByRules : ByteArray := prog_11_method_57_code
def yX9_isByRules : MethodName := ⟨RX9, "isByRules", "(I[II)Z"⟩
abbrev cX9_leaning : ByteArray := prog_11_method_58_code
def yX9_leaning : MethodName := ⟨RX9, "leaning", "(I)I"⟩
abbrev cX9_good : ByteArray := prog_11_method_59_code
def yX9_good : MethodName := ⟨RX9, "good", "([[II)I"⟩
abbrev cX9_granting : ByteArray := prog_11_method_60_code
def yX9_granting : MethodName := ⟨RX9, "granting", "(IIII)I"⟩
abbrev cX9_decided : ByteArray := prog_11_method_61_code
def yX9_decided : MethodName := ⟨RX9, "decided", "(III[[III)I"⟩
abbrev cX9_decideNow : ByteArray := prog_11_method_62_code
def yX9_decideNow : MethodName := ⟨RX9, "decideNow", "(III)I"⟩
abbrev cX9_isAllowed : ByteArray := prog_11_method_63_code
def yX9_isAllowed : MethodName := ⟨RX9, "isAllowed", "(I)Z"⟩
abbrev cX9_table : ByteArray := prog_11_method_64_code
def yX9_table : MethodName := ⟨RX9, "table", "([[II)[I"⟩
abbrev cX9_differences : ByteArray := prog_11_method_65_code
def yX9_differences : MethodName := ⟨RX9, "differences", "([I[I)I"⟩
abbrev cX9_grant : ByteArray := prog_11_method_66_code
def yX9_grant : MethodName := ⟨RX9, "grant", "(IIIIII)I"⟩
abbrev cX9_isGrant : ByteArray := prog_11_method_67_code
def yX9_isGrant : MethodName := ⟨RX9, "isGrant", "(I)Z"⟩
abbrev cX9_revoke : ByteArray := prog_11_method_68_code
def yX9_revoke : MethodName := ⟨RX9, "revoke", "(I)Z"⟩
abbrev cX9_grants : ByteArray := prog_11_method_69_code
def yX9_grants : MethodName := ⟨RX9, "grants", "()I"⟩
abbrev cX9_isGood : ByteArray := prog_11_method_70_code
def yX9_isGood : MethodName := ⟨RX9, "isGood", "(I)Z"⟩
abbrev cX9_decide : ByteArray := prog_11_method_71_code
def yX9_decide : MethodName := ⟨RX9, "decide", "(III)I"⟩
abbrev cX9_whyNow : ByteArray := prog_11_method_72_code
def yX9_whyNow : MethodName := ⟨RX9, "whyNow", "(III[[II)I"⟩
abbrev cX9_why : ByteArray := prog_11_method_73_code
def yX9_why : MethodName := ⟨RX9, "why", "(III)I"⟩
abbrev cX9_access : ByteArray := prog_11_method_74_code
def yX9_access : MethodName := ⟨RX9, "access", "(III)I"⟩
abbrev cX9_counted : ByteArray := prog_11_method_75_code
def yX9_counted : MethodName := ⟨RX9, "counted", "(I)I"⟩
abbrev cX9_done : ByteArray := prog_11_method_76_code
def yX9_done : MethodName := ⟨RX9, "done", "(II)I"⟩
abbrev cX9_who : ByteArray := prog_11_method_77_code
def yX9_who : MethodName := ⟨RX9, "who", "(II)I"⟩
abbrev cX9_reach : ByteArray := prog_11_method_78_code
def yX9_reach : MethodName := ⟨RX9, "reach", "(II)I"⟩
abbrev cX9_many : ByteArray := prog_11_method_79_code
def yX9_many : MethodName := ⟨RX9, "many", "(I)I"⟩
abbrev cX9_rolesNeeded : ByteArray := prog_11_method_80_code
def yX9_rolesNeeded : MethodName := ⟨RX9, "rolesNeeded", "(III)I"⟩
abbrev cX9_isGranted : ByteArray := prog_11_method_81_code
def yX9_isGranted : MethodName := ⟨RX9, "isGranted", "(IIII[I[I[I)Z"⟩
abbrev cX9_isAllowing : ByteArray := prog_11_method_82_code
def yX9_isAllowing : MethodName := ⟨RX9, "isAllowing", "(II[II)Z"⟩
abbrev cX9_contradictionsNow : ByteArray := prog_11_method_83_code
def yX9_contradictionsNow : MethodName := ⟨RX9, "contradictionsNow", "()I"⟩
abbrev cX9_contradictions : ByteArray := prog_11_method_84_code
def yX9_contradictions : MethodName := ⟨RX9, "contradictions", "()I"⟩
abbrev cX9_isIdle : ByteArray := prog_11_method_85_code
def yX9_isIdle : MethodName := ⟨RX9, "isIdle", "(I)Z"⟩
abbrev cX9_wouldDiffer : ByteArray := prog_11_method_86_code
def yX9_wouldDiffer : MethodName := ⟨RX9, "wouldDiffer", "(I)I"⟩
abbrev cX9_wouldGain : ByteArray := prog_11_method_87_code
def yX9_wouldGain : MethodName := ⟨RX9, "wouldGain", "(II)I"⟩
abbrev cX9_openness : ByteArray := prog_11_method_88_code
def yX9_openness : MethodName := ⟨RX9, "openness", "()D"⟩
abbrev cX9_digest : ByteArray := prog_11_method_89_code
def yX9_digest : MethodName := ⟨RX9, "digest", "()J"⟩
def RJx145de : String := "java/io/Serializable"
def RJ6 : String := "java/lang/Integer"
abbrev cJ6_bitCount_0f7a4 : ByteArray := prog_16_method_49_code
def yJ6_bitCount_0f7a4 : MethodName := ⟨RJ6, "bitCount", "(I)I"⟩
def RJ9 : String := "java/lang/Math"
abbrev cJ9_max_7cf53 : ByteArray := prog_17_method_65_code
def yJ9_max_7cf53 : MethodName := ⟨RJ9, "max", "(II)I"⟩
abbrev cJ9_min_7cf53 : ByteArray := prog_17_method_69_code
def yJ9_min_7cf53 : MethodName := ⟨RJ9, "min", "(II)I"⟩
def RJ0 : String := "java/lang/String"
def RJ7 : String := "java/util/Arrays"
abbrev cJ7_fill_53178 : ByteArray := prog_21_method_103_code
def yJ7_fill_53178 : MethodName := ⟨RJ7, "fill", "([II)V"⟩
def RL : String := "PolicyGateLaw"
abbrev cL_addUser : ByteArray := method_3_code
def yL_addUser : MethodName := ⟨RL, "addUser", "(LPolicyGate;II[J)I"⟩
abbrev cL_addRole : ByteArray := method_4_code
def yL_addRole : MethodName := ⟨RL, "addRole", "(LPolicyGate;[J)I"⟩
abbrev cL_addResource : ByteArray := method_5_code
def yL_addResource : MethodName := ⟨RL, "addResource", "(LPolicyGate;I[J)I"⟩
abbrev cL_setRole : ByteArray := method_6_code
def yL_setRole : MethodName := ⟨RL, "setRole", "(LPolicyGate;IIZ[J)I"⟩
abbrev cL_setHolds : ByteArray := method_7_code
def yL_setHolds : MethodName := ⟨RL, "setHolds", "(LPolicyGate;IIZ[J)I"⟩
abbrev cL_setApart : ByteArray := method_8_code
def yL_setApart : MethodName := ⟨RL, "setApart", "(LPolicyGate;II[J)I"⟩
abbrev cL_setUser : ByteArray := method_9_code
def yL_setUser : MethodName := ⟨RL, "setUser", "(LPolicyGate;III[J)I"⟩
abbrev cL_setLabel : ByteArray := method_10_code
def yL_setLabel : MethodName := ⟨RL, "setLabel", "(LPolicyGate;II[J)I"⟩
abbrev cL_setWall : ByteArray := method_11_code
def yL_setWall : MethodName := ⟨RL, "setWall", "(LPolicyGate;III[J)I"⟩
abbrev cL_near : ByteArray := method_12_code
def yL_near : MethodName := ⟨RL, "near", "(LPolicyGate;II[J)I"⟩
abbrev cL_far : ByteArray := method_13_code
def yL_far : MethodName := ⟨RL, "far", "(LPolicyGate;II[J)I"⟩
abbrev cL_addRule : ByteArray := method_14_code
def yL_addRule : MethodName := ⟨RL, "addRule", "(LPolicyGate;ZIII[J)I"⟩
abbrev cL_setRule : ByteArray := method_15_code
def yL_setRule : MethodName := ⟨RL, "setRule", "(LPolicyGate;IZI[J)I"⟩
abbrev cL_setTerms : ByteArray := method_16_code
def yL_setTerms : MethodName := ⟨RL, "setTerms", "(LPolicyGate;IIII[J)I"⟩
abbrev cL_dropRule : ByteArray := method_17_code
def yL_dropRule : MethodName := ⟨RL, "dropRule", "(LPolicyGate;I[J)I"⟩
abbrev cL_setWeighing : ByteArray := method_18_code
def yL_setWeighing : MethodName := ⟨RL, "setWeighing", "(LPolicyGate;I[J)I"⟩
abbrev cL_matches : ByteArray := method_19_code
def yL_matches : MethodName := ⟨RL, "matches", "(LPolicyGate;IIII[J)I"⟩
abbrev cL_goOn : ByteArray := method_20_code
def yL_goOn : MethodName := ⟨RL, "goOn", "(LPolicyGate;I[J)I"⟩
abbrev cL_grant : ByteArray := method_21_code
def yL_grant : MethodName := ⟨RL, "grant", "(LPolicyGate;IIIIII[J)I"⟩
abbrev cL_revoke : ByteArray := method_22_code
def yL_revoke : MethodName := ⟨RL, "revoke", "(LPolicyGate;I[J)I"⟩
abbrev cL_isGood : ByteArray := method_23_code
def yL_isGood : MethodName := ⟨RL, "isGood", "(LPolicyGate;I[J)I"⟩
abbrev cL_decide : ByteArray := method_24_code
def yL_decide : MethodName := ⟨RL, "decide", "(LPolicyGate;III[J)I"⟩
abbrev cL_why : ByteArray := method_25_code
def yL_why : MethodName := ⟨RL, "why", "(LPolicyGate;III[J)I"⟩
abbrev cL_access : ByteArray := method_26_code
def yL_access : MethodName := ⟨RL, "access", "(LPolicyGate;III[J)I"⟩
abbrev cL_counted : ByteArray := method_27_code
def yL_counted : MethodName := ⟨RL, "counted", "(LPolicyGate;I[J)I"⟩
abbrev cL_done : ByteArray := method_28_code
def yL_done : MethodName := ⟨RL, "done", "(LPolicyGate;II[J)I"⟩
abbrev cL_who : ByteArray := method_29_code
def yL_who : MethodName := ⟨RL, "who", "(LPolicyGate;II[J)I"⟩
abbrev cL_reach : ByteArray := method_30_code
def yL_reach : MethodName := ⟨RL, "reach", "(LPolicyGate;II[J)I"⟩
abbrev cL_rolesNeeded : ByteArray := method_31_code
def yL_rolesNeeded : MethodName := ⟨RL, "rolesNeeded", "(LPolicyGate;III[J)I"⟩
abbrev cL_isIdle : ByteArray := method_32_code
def yL_isIdle : MethodName := ⟨RL, "isIdle", "(LPolicyGate;I[J)I"⟩
abbrev cL_wouldDiffer : ByteArray := method_33_code
def yL_wouldDiffer : MethodName := ⟨RL, "wouldDiffer", "(LPolicyGate;I[J)I"⟩
abbrev cL_wouldGain : ByteArray := method_34_code
def yL_wouldGain : MethodName := ⟨RL, "wouldGain", "(LPolicyGate;II[J)I"⟩
abbrev cL_law : ByteArray := code
def yL_law : MethodName := ⟨RL, "law", "([I)Z"⟩
abbrev vwCl : List vw_C := [(RX0, TX0, 7), (RX1, TX1, 4), (RX2, TX2, 1), (RX3, TX3, 10), (RX4, TX4, 7), (RX5, TX5, 6), (RX6, TX6, 5), (RX7, TX7, 11), (RX8, TX8, 4), (RX9, TX9, 38)]
/-- every word of the tables that a method may rest on -/
def gk_BG : List Cond := lw_tbl.filter goodWord
theorem gk_bg {w : Cond} (i : Nat) (h : lw_tbl[i]? = some w) (g : goodWord w = true) : w ∈ gk_BG := List.mem_filter.mpr ⟨List.mem_of_getElem? h, g⟩
theorem gk_bgood {w : Cond} (h : w ∈ gk_BG) : (w.onTables && w.keeps) = true ∨ ∃ ty, w = .arrayClass ty := good_of_word (List.mem_filter.mp h).2
def gk_isN (w : Cond) : Bool := match w with | .fieldLinkNest .. => true | .methodLinkNest .. => true | _ => false
def gk_NG : List Cond := lw_tbl.filter gk_isN
theorem gk_ng {w : Cond} (i : Nat) (h : lw_tbl[i]? = some w) (g : gk_isN w = true) : w ∈ gk_NG := List.mem_filter.mpr ⟨List.mem_of_getElem? h, g⟩
theorem gk_gV {own C : String} {idx : Nat} {y : MethodName} {w : Cond} (h1 : Cond.methodLink own idx y ∈ gk_BG) (h2 : Cond.instanceMethod y ∈ gk_BG) (h3 : Cond.selects C y y ∈ gk_BG) (h4 : Cond.initialized C ∈ gk_BG) (h5 : w ∈ gk_BG) : GoodIn gk_BG (wsV own idx C y (w :: gk_BG)) := by
  intro z hz
  have : z ∈ gk_BG := by
    unfold wsV at hz
    simp only [List.cons_append, List.nil_append, List.mem_cons] at hz
    rcases hz with rfl | rfl | rfl | rfl | rfl | hz
    all_goals assumption
  exact ⟨this, gk_bgood this⟩
theorem gk_gS {own : String} {idx : Nat} {y : MethodName} {w : Cond} (h1 : Cond.methodLink own idx y ∈ gk_BG) (h2 : Cond.static y ∈ gk_BG) (h4 : Cond.initialized y.cls ∈ gk_BG) (h5 : w ∈ gk_BG) : GoodIn gk_BG (va_wsS own idx y (w :: gk_BG)) := by
  intro z hz
  have : z ∈ gk_BG := by
    unfold va_wsS at hz
    simp only [List.cons_append, List.nil_append, List.mem_cons] at hz
    rcases hz with rfl | rfl | rfl | rfl | hz
    all_goals assumption
  exact ⟨this, gk_bgood this⟩
theorem gk_gI {w : Cond} (h5 : w ∈ gk_BG) : GoodIn gk_BG (w :: gk_BG) := by
  intro z hz
  have : z ∈ gk_BG := by
    rcases List.mem_cons.mp hz with rfl | hz
    all_goals assumption
  exact ⟨this, gk_bgood this⟩
set_option maxRecDepth 20000 in
theorem im_X0_init : Cond.instanceMethod yX0_init ∈ gk_BG := gk_bg 264 (by decide +kernel) (by decide +kernel)
set_option maxRecDepth 20000 in
theorem co_X0_init : Cond.code yX0_init cX0_init 1 none ∈ gk_BG := gk_bg 265 (by decide +kernel) (by decide +kernel)
abbrev wsX0_init : List Cond := Cond.code yX0_init cX0_init 1 none :: gk_BG
set_option maxRecDepth 20000 in
theorem im_X0_add : Cond.instanceMethod yX0_add ∈ gk_BG := gk_bg 933 (by decide +kernel) (by decide +kernel)
set_option maxRecDepth 20000 in
theorem se_X0_add : Cond.selects RX0 yX0_add yX0_add ∈ gk_BG := gk_bg 934 (by decide +kernel) (by decide +kernel)
set_option maxRecDepth 20000 in
theorem co_X0_add : Cond.code yX0_add cX0_add 8 (some .int) ∈ gk_BG := gk_bg 935 (by decide +kernel) (by decide +kernel)
abbrev wsX0_add : List Cond := Cond.code yX0_add cX0_add 8 (some .int) :: gk_BG
set_option maxRecDepth 20000 in
theorem im_X1_init : Cond.instanceMethod yX1_init ∈ gk_BG := gk_bg 150 (by decide +kernel) (by decide +kernel)
set_option maxRecDepth 20000 in
theorem co_X1_init : Cond.code yX1_init cX1_init 1 none ∈ gk_BG := gk_bg 151 (by decide +kernel) (by decide +kernel)
abbrev wsX1_init : List Cond := Cond.code yX1_init cX1_init 1 none :: gk_BG
set_option maxRecDepth 20000 in
theorem im_X1_add : Cond.instanceMethod yX1_add ∈ gk_BG := gk_bg 725 (by decide +kernel) (by decide +kernel)
set_option maxRecDepth 20000 in
theorem se_X1_add : Cond.selects RX1 yX1_add yX1_add ∈ gk_BG := gk_bg 726 (by decide +kernel) (by decide +kernel)
set_option maxRecDepth 20000 in
theorem co_X1_add : Cond.code yX1_add cX1_add 2 (some .int) ∈ gk_BG := gk_bg 727 (by decide +kernel) (by decide +kernel)
abbrev wsX1_add : List Cond := Cond.code yX1_add cX1_add 2 (some .int) :: gk_BG
set_option maxRecDepth 20000 in
theorem im_X1_part : Cond.instanceMethod yX1_part ∈ gk_BG := gk_bg 811 (by decide +kernel) (by decide +kernel)
set_option maxRecDepth 20000 in
theorem se_X1_part : Cond.selects RX1 yX1_part yX1_part ∈ gk_BG := gk_bg 812 (by decide +kernel) (by decide +kernel)
set_option maxRecDepth 20000 in
theorem co_X1_part : Cond.code yX1_part cX1_part 3 (some .int) ∈ gk_BG := gk_bg 813 (by decide +kernel) (by decide +kernel)
abbrev wsX1_part : List Cond := Cond.code yX1_part cX1_part 3 (some .int) :: gk_BG
set_option maxRecDepth 20000 in
theorem im_X1_heldBy : Cond.instanceMethod yX1_heldBy ∈ gk_BG := gk_bg 486 (by decide +kernel) (by decide +kernel)
set_option maxRecDepth 20000 in
theorem se_X1_heldBy : Cond.selects RX1 yX1_heldBy yX1_heldBy ∈ gk_BG := gk_bg 487 (by decide +kernel) (by decide +kernel)
set_option maxRecDepth 20000 in
theorem co_X1_heldBy : Cond.code yX1_heldBy cX1_heldBy 4 (some .int) ∈ gk_BG := gk_bg 488 (by decide +kernel) (by decide +kernel)
abbrev wsX1_heldBy : List Cond := Cond.code yX1_heldBy cX1_heldBy 4 (some .int) :: gk_BG
set_option maxRecDepth 20000 in
theorem im_X1_hadWith : Cond.instanceMethod yX1_hadWith ∈ gk_BG := gk_bg 780 (by decide +kernel) (by decide +kernel)
set_option maxRecDepth 20000 in
theorem se_X1_hadWith : Cond.selects RX1 yX1_hadWith yX1_hadWith ∈ gk_BG := gk_bg 781 (by decide +kernel) (by decide +kernel)
set_option maxRecDepth 20000 in
theorem co_X1_hadWith : Cond.code yX1_hadWith cX1_hadWith 5 (some .int) ∈ gk_BG := gk_bg 782 (by decide +kernel) (by decide +kernel)
abbrev wsX1_hadWith : List Cond := Cond.code yX1_hadWith cX1_hadWith 5 (some .int) :: gk_BG
set_option maxRecDepth 20000 in
theorem im_X1_nearBy : Cond.instanceMethod yX1_nearBy ∈ gk_BG := gk_bg 481 (by decide +kernel) (by decide +kernel)
set_option maxRecDepth 20000 in
theorem se_X1_nearBy : Cond.selects RX1 yX1_nearBy yX1_nearBy ∈ gk_BG := gk_bg 482 (by decide +kernel) (by decide +kernel)
set_option maxRecDepth 20000 in
theorem co_X1_nearBy : Cond.code yX1_nearBy cX1_nearBy 5 (some .int) ∈ gk_BG := gk_bg 483 (by decide +kernel) (by decide +kernel)
abbrev wsX1_nearBy : List Cond := Cond.code yX1_nearBy cX1_nearBy 5 (some .int) :: gk_BG
set_option maxRecDepth 20000 in
theorem im_X1_isSplit : Cond.instanceMethod yX1_isSplit ∈ gk_BG := gk_bg 784 (by decide +kernel) (by decide +kernel)
set_option maxRecDepth 20000 in
theorem se_X1_isSplit : Cond.selects RX1 yX1_isSplit yX1_isSplit ∈ gk_BG := gk_bg 785 (by decide +kernel) (by decide +kernel)
set_option maxRecDepth 20000 in
theorem co_X1_isSplit : Cond.code yX1_isSplit cX1_isSplit 3 (some .boolean) ∈ gk_BG := gk_bg 786 (by decide +kernel) (by decide +kernel)
abbrev wsX1_isSplit : List Cond := Cond.code yX1_isSplit cX1_isSplit 3 (some .boolean) :: gk_BG
set_option maxRecDepth 20000 in
theorem im_X2_init : Cond.instanceMethod yX2_init ∈ gk_BG := gk_bg 109 (by decide +kernel) (by decide +kernel)
set_option maxRecDepth 20000 in
theorem co_X2_init : Cond.code yX2_init cX2_init 3 none ∈ gk_BG := gk_bg 110 (by decide +kernel) (by decide +kernel)
abbrev wsX2_init : List Cond := Cond.code yX2_init cX2_init 3 none :: gk_BG
set_option maxRecDepth 20000 in
theorem im_X2_at : Cond.instanceMethod yX2_at ∈ gk_BG := gk_bg 445 (by decide +kernel) (by decide +kernel)
set_option maxRecDepth 20000 in
theorem se_X2_at : Cond.selects RX2 yX2_at yX2_at ∈ gk_BG := gk_bg 446 (by decide +kernel) (by decide +kernel)
set_option maxRecDepth 20000 in
theorem co_X2_at : Cond.code yX2_at cX2_at 2 (some .int) ∈ gk_BG := gk_bg 447 (by decide +kernel) (by decide +kernel)
abbrev wsX2_at : List Cond := Cond.code yX2_at cX2_at 2 (some .int) :: gk_BG
set_option maxRecDepth 20000 in
theorem im_X2_put : Cond.instanceMethod yX2_put ∈ gk_BG := gk_bg 454 (by decide +kernel) (by decide +kernel)
set_option maxRecDepth 20000 in
theorem se_X2_put : Cond.selects RX2 yX2_put yX2_put ∈ gk_BG := gk_bg 455 (by decide +kernel) (by decide +kernel)
set_option maxRecDepth 20000 in
theorem co_X2_put : Cond.code yX2_put cX2_put 3 none ∈ gk_BG := gk_bg 456 (by decide +kernel) (by decide +kernel)
abbrev wsX2_put : List Cond := Cond.code yX2_put cX2_put 3 none :: gk_BG
set_option maxRecDepth 20000 in
theorem im_X2_takeOut : Cond.instanceMethod yX2_takeOut ∈ gk_BG := gk_bg 892 (by decide +kernel) (by decide +kernel)
set_option maxRecDepth 20000 in
theorem se_X2_takeOut : Cond.selects RX2 yX2_takeOut yX2_takeOut ∈ gk_BG := gk_bg 893 (by decide +kernel) (by decide +kernel)
set_option maxRecDepth 20000 in
theorem co_X2_takeOut : Cond.code yX2_takeOut cX2_takeOut 3 none ∈ gk_BG := gk_bg 894 (by decide +kernel) (by decide +kernel)
abbrev wsX2_takeOut : List Cond := Cond.code yX2_takeOut cX2_takeOut 3 none :: gk_BG
set_option maxRecDepth 20000 in
theorem im_X2_clear : Cond.instanceMethod yX2_clear ∈ gk_BG := gk_bg 430 (by decide +kernel) (by decide +kernel)
set_option maxRecDepth 20000 in
theorem se_X2_clear : Cond.selects RX2 yX2_clear yX2_clear ∈ gk_BG := gk_bg 431 (by decide +kernel) (by decide +kernel)
set_option maxRecDepth 20000 in
theorem co_X2_clear : Cond.code yX2_clear cX2_clear 1 none ∈ gk_BG := gk_bg 432 (by decide +kernel) (by decide +kernel)
abbrev wsX2_clear : List Cond := Cond.code yX2_clear cX2_clear 1 none :: gk_BG
set_option maxRecDepth 20000 in
theorem im_X3_init : Cond.instanceMethod yX3_init ∈ gk_BG := gk_bg 211 (by decide +kernel) (by decide +kernel)
set_option maxRecDepth 20000 in
theorem co_X3_init : Cond.code yX3_init cX3_init 1 none ∈ gk_BG := gk_bg 212 (by decide +kernel) (by decide +kernel)
abbrev wsX3_init : List Cond := Cond.code yX3_init cX3_init 1 none :: gk_BG
set_option maxRecDepth 20000 in
theorem im_X3_add : Cond.instanceMethod yX3_add ∈ gk_BG := gk_bg 858 (by decide +kernel) (by decide +kernel)
set_option maxRecDepth 20000 in
theorem se_X3_add : Cond.selects RX3 yX3_add yX3_add ∈ gk_BG := gk_bg 859 (by decide +kernel) (by decide +kernel)
set_option maxRecDepth 20000 in
theorem co_X3_add : Cond.code yX3_add cX3_add 6 (some .int) ∈ gk_BG := gk_bg 860 (by decide +kernel) (by decide +kernel)
abbrev wsX3_add : List Cond := Cond.code yX3_add cX3_add 6 (some .int) :: gk_BG
set_option maxRecDepth 20000 in
theorem im_X3_drop : Cond.instanceMethod yX3_drop ∈ gk_BG := gk_bg 888 (by decide +kernel) (by decide +kernel)
set_option maxRecDepth 20000 in
theorem se_X3_drop : Cond.selects RX3 yX3_drop yX3_drop ∈ gk_BG := gk_bg 889 (by decide +kernel) (by decide +kernel)
set_option maxRecDepth 20000 in
theorem co_X3_drop : Cond.code yX3_drop cX3_drop 2 (some .int) ∈ gk_BG := gk_bg 890 (by decide +kernel) (by decide +kernel)
abbrev wsX3_drop : List Cond := Cond.code yX3_drop cX3_drop 2 (some .int) :: gk_BG
set_option maxRecDepth 20000 in
theorem im_X3_holdsIn : Cond.instanceMethod yX3_holdsIn ∈ gk_BG := gk_bg 441 (by decide +kernel) (by decide +kernel)
set_option maxRecDepth 20000 in
theorem se_X3_holdsIn : Cond.selects RX3 yX3_holdsIn yX3_holdsIn ∈ gk_BG := gk_bg 442 (by decide +kernel) (by decide +kernel)
set_option maxRecDepth 20000 in
theorem co_X3_holdsIn : Cond.code yX3_holdsIn cX3_holdsIn 5 (some .boolean) ∈ gk_BG := gk_bg 443 (by decide +kernel) (by decide +kernel)
abbrev wsX3_holdsIn : List Cond := Cond.code yX3_holdsIn cX3_holdsIn 5 (some .boolean) :: gk_BG
set_option maxRecDepth 20000 in
theorem im_X4_init : Cond.instanceMethod yX4_init ∈ gk_BG := gk_bg 97 (by decide +kernel) (by decide +kernel)
set_option maxRecDepth 20000 in
theorem co_X4_init : Cond.code yX4_init cX4_init 1 none ∈ gk_BG := gk_bg 98 (by decide +kernel) (by decide +kernel)
abbrev wsX4_init : List Cond := Cond.code yX4_init cX4_init 1 none :: gk_BG
set_option maxRecDepth 20000 in
theorem im_X4_hour : Cond.instanceMethod yX4_hour ∈ gk_BG := gk_bg 434 (by decide +kernel) (by decide +kernel)
set_option maxRecDepth 20000 in
theorem se_X4_hour : Cond.selects RX4 yX4_hour yX4_hour ∈ gk_BG := gk_bg 435 (by decide +kernel) (by decide +kernel)
set_option maxRecDepth 20000 in
theorem co_X4_hour : Cond.code yX4_hour cX4_hour 1 (some .int) ∈ gk_BG := gk_bg 436 (by decide +kernel) (by decide +kernel)
abbrev wsX4_hour : List Cond := Cond.code yX4_hour cX4_hour 1 (some .int) :: gk_BG
set_option maxRecDepth 20000 in
theorem im_X4_isThere : Cond.instanceMethod yX4_isThere ∈ gk_BG := gk_bg 499 (by decide +kernel) (by decide +kernel)
set_option maxRecDepth 20000 in
theorem se_X4_isThere : Cond.selects RX4 yX4_isThere yX4_isThere ∈ gk_BG := gk_bg 500 (by decide +kernel) (by decide +kernel)
set_option maxRecDepth 20000 in
theorem co_X4_isThere : Cond.code yX4_isThere cX4_isThere 2 (some .boolean) ∈ gk_BG := gk_bg 501 (by decide +kernel) (by decide +kernel)
abbrev wsX4_isThere : List Cond := Cond.code yX4_isThere cX4_isThere 2 (some .boolean) :: gk_BG
set_option maxRecDepth 20000 in
theorem im_X4_isGiven : Cond.instanceMethod yX4_isGiven ∈ gk_BG := gk_bg 532 (by decide +kernel) (by decide +kernel)
set_option maxRecDepth 20000 in
theorem se_X4_isGiven : Cond.selects RX4 yX4_isGiven yX4_isGiven ∈ gk_BG := gk_bg 533 (by decide +kernel) (by decide +kernel)
set_option maxRecDepth 20000 in
theorem co_X4_isGiven : Cond.code yX4_isGiven cX4_isGiven 5 (some .boolean) ∈ gk_BG := gk_bg 534 (by decide +kernel) (by decide +kernel)
abbrev wsX4_isGiven : List Cond := Cond.code yX4_isGiven cX4_isGiven 5 (some .boolean) :: gk_BG
set_option maxRecDepth 20000 in
theorem im_X5_init : Cond.instanceMethod yX5_init ∈ gk_BG := gk_bg 175 (by decide +kernel) (by decide +kernel)
set_option maxRecDepth 20000 in
theorem co_X5_init : Cond.code yX5_init cX5_init 1 none ∈ gk_BG := gk_bg 176 (by decide +kernel) (by decide +kernel)
abbrev wsX5_init : List Cond := Cond.code yX5_init cX5_init 1 none :: gk_BG
set_option maxRecDepth 20000 in
theorem im_X5_add : Cond.instanceMethod yX5_add ∈ gk_BG := gk_bg 760 (by decide +kernel) (by decide +kernel)
set_option maxRecDepth 20000 in
theorem se_X5_add : Cond.selects RX5 yX5_add yX5_add ∈ gk_BG := gk_bg 761 (by decide +kernel) (by decide +kernel)
set_option maxRecDepth 20000 in
theorem co_X5_add : Cond.code yX5_add cX5_add 3 (some .int) ∈ gk_BG := gk_bg 762 (by decide +kernel) (by decide +kernel)
abbrev wsX5_add : List Cond := Cond.code yX5_add cX5_add 3 (some .int) :: gk_BG
set_option maxRecDepth 20000 in
theorem im_X5_isBeneath : Cond.instanceMethod yX5_isBeneath ∈ gk_BG := gk_bg 458 (by decide +kernel) (by decide +kernel)
set_option maxRecDepth 20000 in
theorem se_X5_isBeneath : Cond.selects RX5 yX5_isBeneath yX5_isBeneath ∈ gk_BG := gk_bg 459 (by decide +kernel) (by decide +kernel)
set_option maxRecDepth 20000 in
theorem co_X5_isBeneath : Cond.code yX5_isBeneath cX5_isBeneath 3 (some .boolean) ∈ gk_BG := gk_bg 460 (by decide +kernel) (by decide +kernel)
abbrev wsX5_isBeneath : List Cond := Cond.code yX5_isBeneath cX5_isBeneath 3 (some .boolean) :: gk_BG
set_option maxRecDepth 20000 in
theorem im_X5_farUp : Cond.instanceMethod yX5_farUp ∈ gk_BG := gk_bg 587 (by decide +kernel) (by decide +kernel)
set_option maxRecDepth 20000 in
theorem se_X5_farUp : Cond.selects RX5 yX5_farUp yX5_farUp ∈ gk_BG := gk_bg 588 (by decide +kernel) (by decide +kernel)
set_option maxRecDepth 20000 in
theorem co_X5_farUp : Cond.code yX5_farUp cX5_farUp 3 (some .int) ∈ gk_BG := gk_bg 589 (by decide +kernel) (by decide +kernel)
abbrev wsX5_farUp : List Cond := Cond.code yX5_farUp cX5_farUp 3 (some .int) :: gk_BG
set_option maxRecDepth 20000 in
theorem im_X6_init : Cond.instanceMethod yX6_init ∈ gk_BG := gk_bg 103 (by decide +kernel) (by decide +kernel)
set_option maxRecDepth 20000 in
theorem co_X6_init : Cond.code yX6_init cX6_init 1 none ∈ gk_BG := gk_bg 104 (by decide +kernel) (by decide +kernel)
abbrev wsX6_init : List Cond := Cond.code yX6_init cX6_init 1 none :: gk_BG
set_option maxRecDepth 20000 in
theorem im_X6_add : Cond.instanceMethod yX6_add ∈ gk_BG := gk_bg 713 (by decide +kernel) (by decide +kernel)
set_option maxRecDepth 20000 in
theorem se_X6_add : Cond.selects RX6 yX6_add yX6_add ∈ gk_BG := gk_bg 714 (by decide +kernel) (by decide +kernel)
set_option maxRecDepth 20000 in
theorem co_X6_add : Cond.code yX6_add cX6_add 4 (some .int) ∈ gk_BG := gk_bg 715 (by decide +kernel) (by decide +kernel)
abbrev wsX6_add : List Cond := Cond.code yX6_add cX6_add 4 (some .int) :: gk_BG
set_option maxRecDepth 20000 in
theorem im_X6_doneOn : Cond.instanceMethod yX6_doneOn ∈ gk_BG := gk_bg 468 (by decide +kernel) (by decide +kernel)
set_option maxRecDepth 20000 in
theorem se_X6_doneOn : Cond.selects RX6 yX6_doneOn yX6_doneOn ∈ gk_BG := gk_bg 469 (by decide +kernel) (by decide +kernel)
set_option maxRecDepth 20000 in
theorem co_X6_doneOn : Cond.code yX6_doneOn cX6_doneOn 3 (some .int) ∈ gk_BG := gk_bg 470 (by decide +kernel) (by decide +kernel)
abbrev wsX6_doneOn : List Cond := Cond.code yX6_doneOn cX6_doneOn 3 (some .int) :: gk_BG
set_option maxRecDepth 20000 in
theorem im_X6_note : Cond.instanceMethod yX6_note ∈ gk_BG := gk_bg 978 (by decide +kernel) (by decide +kernel)
set_option maxRecDepth 20000 in
theorem se_X6_note : Cond.selects RX6 yX6_note yX6_note ∈ gk_BG := gk_bg 979 (by decide +kernel) (by decide +kernel)
set_option maxRecDepth 20000 in
theorem co_X6_note : Cond.code yX6_note cX6_note 4 none ∈ gk_BG := gk_bg 980 (by decide +kernel) (by decide +kernel)
abbrev wsX6_note : List Cond := Cond.code yX6_note cX6_note 4 none :: gk_BG
set_option maxRecDepth 20000 in
theorem im_X7_init : Cond.instanceMethod yX7_init ∈ gk_BG := gk_bg 338 (by decide +kernel) (by decide +kernel)
set_option maxRecDepth 20000 in
theorem co_X7_init : Cond.code yX7_init cX7_init 2 none ∈ gk_BG := gk_bg 339 (by decide +kernel) (by decide +kernel)
abbrev wsX7_init : List Cond := Cond.code yX7_init cX7_init 2 none :: gk_BG
set_option maxRecDepth 20000 in
theorem im_X7_look : Cond.instanceMethod yX7_look ∈ gk_BG := gk_bg 422 (by decide +kernel) (by decide +kernel)
set_option maxRecDepth 20000 in
theorem se_X7_look : Cond.selects RX7 yX7_look yX7_look ∈ gk_BG := gk_bg 423 (by decide +kernel) (by decide +kernel)
set_option maxRecDepth 20000 in
theorem co_X7_look : Cond.code yX7_look cX7_look 4 none ∈ gk_BG := gk_bg 424 (by decide +kernel) (by decide +kernel)
abbrev wsX7_look : List Cond := Cond.code yX7_look cX7_look 4 none :: gk_BG
set_option maxRecDepth 20000 in
theorem im_X7_lookAtRules : Cond.instanceMethod yX7_lookAtRules ∈ gk_BG := gk_bg 427 (by decide +kernel) (by decide +kernel)
set_option maxRecDepth 20000 in
theorem se_X7_lookAtRules : Cond.selects RX7 yX7_lookAtRules yX7_lookAtRules ∈ gk_BG := gk_bg 0 (by decide +kernel) (by decide +kernel)
set_option maxRecDepth 20000 in
theorem co_X7_lookAtRules : Cond.code yX7_lookAtRules cX7_lookAtRules 4 none ∈ gk_BG := gk_bg 428 (by decide +kernel) (by decide +kernel)
abbrev wsX7_lookAtRules : List Cond := Cond.code yX7_lookAtRules cX7_lookAtRules 4 none :: gk_BG
set_option maxRecDepth 20000 in
theorem im_X7_lookWhere : Cond.instanceMethod yX7_lookWhere ∈ gk_BG := gk_bg 451 (by decide +kernel) (by decide +kernel)
set_option maxRecDepth 20000 in
theorem se_X7_lookWhere : Cond.selects RX7 yX7_lookWhere yX7_lookWhere ∈ gk_BG := gk_bg 1 (by decide +kernel) (by decide +kernel)
set_option maxRecDepth 20000 in
theorem co_X7_lookWhere : Cond.code yX7_lookWhere cX7_lookWhere 6 none ∈ gk_BG := gk_bg 452 (by decide +kernel) (by decide +kernel)
abbrev wsX7_lookWhere : List Cond := Cond.code yX7_lookWhere cX7_lookWhere 6 none :: gk_BG
set_option maxRecDepth 20000 in
theorem im_X7_lookAtWalls : Cond.instanceMethod yX7_lookAtWalls ∈ gk_BG := gk_bg 465 (by decide +kernel) (by decide +kernel)
set_option maxRecDepth 20000 in
theorem se_X7_lookAtWalls : Cond.selects RX7 yX7_lookAtWalls yX7_lookAtWalls ∈ gk_BG := gk_bg 2 (by decide +kernel) (by decide +kernel)
set_option maxRecDepth 20000 in
theorem co_X7_lookAtWalls : Cond.code yX7_lookAtWalls cX7_lookAtWalls 5 none ∈ gk_BG := gk_bg 466 (by decide +kernel) (by decide +kernel)
abbrev wsX7_lookAtWalls : List Cond := Cond.code yX7_lookAtWalls cX7_lookAtWalls 5 none :: gk_BG
set_option maxRecDepth 20000 in
theorem im_X7_giveSet : Cond.instanceMethod yX7_giveSet ∈ gk_BG := gk_bg 473 (by decide +kernel) (by decide +kernel)
set_option maxRecDepth 20000 in
theorem se_X7_giveSet : Cond.selects RX7 yX7_giveSet yX7_giveSet ∈ gk_BG := gk_bg 474 (by decide +kernel) (by decide +kernel)
set_option maxRecDepth 20000 in
theorem co_X7_giveSet : Cond.code yX7_giveSet cX7_giveSet 8 none ∈ gk_BG := gk_bg 475 (by decide +kernel) (by decide +kernel)
abbrev wsX7_giveSet : List Cond := Cond.code yX7_giveSet cX7_giveSet 8 none :: gk_BG
set_option maxRecDepth 20000 in
theorem im_X7_stepsTo : Cond.instanceMethod yX7_stepsTo ∈ gk_BG := gk_bg 478 (by decide +kernel) (by decide +kernel)
set_option maxRecDepth 20000 in
theorem se_X7_stepsTo : Cond.selects RX7 yX7_stepsTo yX7_stepsTo ∈ gk_BG := gk_bg 3 (by decide +kernel) (by decide +kernel)
set_option maxRecDepth 20000 in
theorem co_X7_stepsTo : Cond.code yX7_stepsTo cX7_stepsTo 5 (some .int) ∈ gk_BG := gk_bg 479 (by decide +kernel) (by decide +kernel)
abbrev wsX7_stepsTo : List Cond := Cond.code yX7_stepsTo cX7_stepsTo 5 (some .int) :: gk_BG
set_option maxRecDepth 20000 in
theorem im_X7_weightOf : Cond.instanceMethod yX7_weightOf ∈ gk_BG := gk_bg 492 (by decide +kernel) (by decide +kernel)
set_option maxRecDepth 20000 in
theorem se_X7_weightOf : Cond.selects RX7 yX7_weightOf yX7_weightOf ∈ gk_BG := gk_bg 4 (by decide +kernel) (by decide +kernel)
set_option maxRecDepth 20000 in
theorem co_X7_weightOf : Cond.code yX7_weightOf cX7_weightOf 5 (some .int) ∈ gk_BG := gk_bg 493 (by decide +kernel) (by decide +kernel)
abbrev wsX7_weightOf : List Cond := Cond.code yX7_weightOf cX7_weightOf 5 (some .int) :: gk_BG
set_option maxRecDepth 20000 in
theorem im_X7_weighGrants : Cond.instanceMethod yX7_weighGrants ∈ gk_BG := gk_bg 495 (by decide +kernel) (by decide +kernel)
set_option maxRecDepth 20000 in
theorem se_X7_weighGrants : Cond.selects RX7 yX7_weighGrants yX7_weighGrants ∈ gk_BG := gk_bg 496 (by decide +kernel) (by decide +kernel)
set_option maxRecDepth 20000 in
theorem co_X7_weighGrants : Cond.code yX7_weighGrants cX7_weighGrants 2 none ∈ gk_BG := gk_bg 497 (by decide +kernel) (by decide +kernel)
abbrev wsX7_weighGrants : List Cond := Cond.code yX7_weighGrants cX7_weighGrants 2 none :: gk_BG
set_option maxRecDepth 20000 in
theorem im_X7_isByRight : Cond.instanceMethod yX7_isByRight ∈ gk_BG := gk_bg 505 (by decide +kernel) (by decide +kernel)
set_option maxRecDepth 20000 in
theorem se_X7_isByRight : Cond.selects RX7 yX7_isByRight yX7_isByRight ∈ gk_BG := gk_bg 5 (by decide +kernel) (by decide +kernel)
set_option maxRecDepth 20000 in
theorem co_X7_isByRight : Cond.code yX7_isByRight cX7_isByRight 4 (some .boolean) ∈ gk_BG := gk_bg 506 (by decide +kernel) (by decide +kernel)
abbrev wsX7_isByRight : List Cond := Cond.code yX7_isByRight cX7_isByRight 4 (some .boolean) :: gk_BG
set_option maxRecDepth 20000 in
theorem im_X7_isPassedOn : Cond.instanceMethod yX7_isPassedOn ∈ gk_BG := gk_bg 529 (by decide +kernel) (by decide +kernel)
set_option maxRecDepth 20000 in
theorem se_X7_isPassedOn : Cond.selects RX7 yX7_isPassedOn yX7_isPassedOn ∈ gk_BG := gk_bg 9 (by decide +kernel) (by decide +kernel)
set_option maxRecDepth 20000 in
theorem co_X7_isPassedOn : Cond.code yX7_isPassedOn cX7_isPassedOn 6 (some .boolean) ∈ gk_BG := gk_bg 530 (by decide +kernel) (by decide +kernel)
abbrev wsX7_isPassedOn : List Cond := Cond.code yX7_isPassedOn cX7_isPassedOn 6 (some .boolean) :: gk_BG
set_option maxRecDepth 20000 in
theorem im_X7_matching : Cond.instanceMethod yX7_matching ∈ gk_BG := gk_bg 520 (by decide +kernel) (by decide +kernel)
set_option maxRecDepth 20000 in
theorem se_X7_matching : Cond.selects RX7 yX7_matching yX7_matching ∈ gk_BG := gk_bg 521 (by decide +kernel) (by decide +kernel)
set_option maxRecDepth 20000 in
theorem co_X7_matching : Cond.code yX7_matching cX7_matching 4 (some .int) ∈ gk_BG := gk_bg 522 (by decide +kernel) (by decide +kernel)
abbrev wsX7_matching : List Cond := Cond.code yX7_matching cX7_matching 4 (some .int) :: gk_BG
set_option maxRecDepth 20000 in
theorem im_X7_deciding : Cond.instanceMethod yX7_deciding ∈ gk_BG := gk_bg 525 (by decide +kernel) (by decide +kernel)
set_option maxRecDepth 20000 in
theorem se_X7_deciding : Cond.selects RX7 yX7_deciding yX7_deciding ∈ gk_BG := gk_bg 8 (by decide +kernel) (by decide +kernel)
set_option maxRecDepth 20000 in
theorem co_X7_deciding : Cond.code yX7_deciding cX7_deciding 7 (some .int) ∈ gk_BG := gk_bg 526 (by decide +kernel) (by decide +kernel)
abbrev wsX7_deciding : List Cond := Cond.code yX7_deciding cX7_deciding 7 (some .int) :: gk_BG
set_option maxRecDepth 20000 in
theorem im_X7_ruled : Cond.instanceMethod yX7_ruled ∈ gk_BG := gk_bg 508 (by decide +kernel) (by decide +kernel)
set_option maxRecDepth 20000 in
theorem se_X7_ruled : Cond.selects RX7 yX7_ruled yX7_ruled ∈ gk_BG := gk_bg 509 (by decide +kernel) (by decide +kernel)
set_option maxRecDepth 20000 in
theorem co_X7_ruled : Cond.code yX7_ruled cX7_ruled 5 (some .int) ∈ gk_BG := gk_bg 510 (by decide +kernel) (by decide +kernel)
abbrev wsX7_ruled : List Cond := Cond.code yX7_ruled cX7_ruled 5 (some .int) :: gk_BG
set_option maxRecDepth 20000 in
theorem im_X7_isAgainstLabel : Cond.instanceMethod yX7_isAgainstLabel ∈ gk_BG := gk_bg 513 (by decide +kernel) (by decide +kernel)
set_option maxRecDepth 20000 in
theorem se_X7_isAgainstLabel : Cond.selects RX7 yX7_isAgainstLabel yX7_isAgainstLabel ∈ gk_BG := gk_bg 6 (by decide +kernel) (by decide +kernel)
set_option maxRecDepth 20000 in
theorem co_X7_isAgainstLabel : Cond.code yX7_isAgainstLabel cX7_isAgainstLabel 6 (some .boolean) ∈ gk_BG := gk_bg 514 (by decide +kernel) (by decide +kernel)
abbrev wsX7_isAgainstLabel : List Cond := Cond.code yX7_isAgainstLabel cX7_isAgainstLabel 6 (some .boolean) :: gk_BG
set_option maxRecDepth 20000 in
theorem im_X7_isWalledOff : Cond.instanceMethod yX7_isWalledOff ∈ gk_BG := gk_bg 517 (by decide +kernel) (by decide +kernel)
set_option maxRecDepth 20000 in
theorem se_X7_isWalledOff : Cond.selects RX7 yX7_isWalledOff yX7_isWalledOff ∈ gk_BG := gk_bg 7 (by decide +kernel) (by decide +kernel)
set_option maxRecDepth 20000 in
theorem co_X7_isWalledOff : Cond.code yX7_isWalledOff cX7_isWalledOff 5 (some .boolean) ∈ gk_BG := gk_bg 518 (by decide +kernel) (by decide +kernel)
abbrev wsX7_isWalledOff : List Cond := Cond.code yX7_isWalledOff cX7_isWalledOff 5 (some .boolean) :: gk_BG
set_option maxRecDepth 20000 in
theorem im_X7_grantFor : Cond.instanceMethod yX7_grantFor ∈ gk_BG := gk_bg 567 (by decide +kernel) (by decide +kernel)
set_option maxRecDepth 20000 in
theorem se_X7_grantFor : Cond.selects RX7 yX7_grantFor yX7_grantFor ∈ gk_BG := gk_bg 568 (by decide +kernel) (by decide +kernel)
set_option maxRecDepth 20000 in
theorem co_X7_grantFor : Cond.code yX7_grantFor cX7_grantFor 5 (some .int) ∈ gk_BG := gk_bg 569 (by decide +kernel) (by decide +kernel)
abbrev wsX7_grantFor : List Cond := Cond.code yX7_grantFor cX7_grantFor 5 (some .int) :: gk_BG
set_option maxRecDepth 20000 in
theorem im_X7_decided : Cond.instanceMethod yX7_decided ∈ gk_BG := gk_bg 563 (by decide +kernel) (by decide +kernel)
set_option maxRecDepth 20000 in
theorem se_X7_decided : Cond.selects RX7 yX7_decided yX7_decided ∈ gk_BG := gk_bg 564 (by decide +kernel) (by decide +kernel)
set_option maxRecDepth 20000 in
theorem co_X7_decided : Cond.code yX7_decided cX7_decided 5 (some .int) ∈ gk_BG := gk_bg 565 (by decide +kernel) (by decide +kernel)
abbrev wsX7_decided : List Cond := Cond.code yX7_decided cX7_decided 5 (some .int) :: gk_BG
set_option maxRecDepth 20000 in
theorem im_X7_isAllowed : Cond.instanceMethod yX7_isAllowed ∈ gk_BG := gk_bg 559 (by decide +kernel) (by decide +kernel)
set_option maxRecDepth 20000 in
theorem se_X7_isAllowed : Cond.selects RX7 yX7_isAllowed yX7_isAllowed ∈ gk_BG := gk_bg 560 (by decide +kernel) (by decide +kernel)
set_option maxRecDepth 20000 in
theorem co_X7_isAllowed : Cond.code yX7_isAllowed cX7_isAllowed 5 (some .boolean) ∈ gk_BG := gk_bg 561 (by decide +kernel) (by decide +kernel)
abbrev wsX7_isAllowed : List Cond := Cond.code yX7_isAllowed cX7_isAllowed 5 (some .boolean) :: gk_BG
set_option maxRecDepth 20000 in
theorem im_X7_reason : Cond.instanceMethod yX7_reason ∈ gk_BG := gk_bg 602 (by decide +kernel) (by decide +kernel)
set_option maxRecDepth 20000 in
theorem se_X7_reason : Cond.selects RX7 yX7_reason yX7_reason ∈ gk_BG := gk_bg 603 (by decide +kernel) (by decide +kernel)
set_option maxRecDepth 20000 in
theorem co_X7_reason : Cond.code yX7_reason cX7_reason 5 (some .int) ∈ gk_BG := gk_bg 604 (by decide +kernel) (by decide +kernel)
abbrev wsX7_reason : List Cond := Cond.code yX7_reason cX7_reason 5 (some .int) :: gk_BG
set_option maxRecDepth 20000 in
theorem im_X7_allowedTo : Cond.instanceMethod yX7_allowedTo ∈ gk_BG := gk_bg 555 (by decide +kernel) (by decide +kernel)
set_option maxRecDepth 20000 in
theorem se_X7_allowedTo : Cond.selects RX7 yX7_allowedTo yX7_allowedTo ∈ gk_BG := gk_bg 556 (by decide +kernel) (by decide +kernel)
set_option maxRecDepth 20000 in
theorem co_X7_allowedTo : Cond.code yX7_allowedTo cX7_allowedTo 5 (some .int) ∈ gk_BG := gk_bg 557 (by decide +kernel) (by decide +kernel)
abbrev wsX7_allowedTo : List Cond := Cond.code yX7_allowedTo cX7_allowedTo 5 (some .int) :: gk_BG
set_option maxRecDepth 20000 in
theorem im_X7_differences : Cond.instanceMethod yX7_differences ∈ gk_BG := gk_bg 1035 (by decide +kernel) (by decide +kernel)
set_option maxRecDepth 20000 in
theorem se_X7_differences : Cond.selects RX7 yX7_differences yX7_differences ∈ gk_BG := gk_bg 1036 (by decide +kernel) (by decide +kernel)
set_option maxRecDepth 20000 in
theorem co_X7_differences : Cond.code yX7_differences cX7_differences 6 (some .int) ∈ gk_BG := gk_bg 1037 (by decide +kernel) (by decide +kernel)
abbrev wsX7_differences : List Cond := Cond.code yX7_differences cX7_differences 6 (some .int) :: gk_BG
set_option maxRecDepth 20000 in
theorem im_X7_opposedPairs : Cond.instanceMethod yX7_opposedPairs ∈ gk_BG := gk_bg 537 (by decide +kernel) (by decide +kernel)
set_option maxRecDepth 20000 in
theorem se_X7_opposedPairs : Cond.selects RX7 yX7_opposedPairs yX7_opposedPairs ∈ gk_BG := gk_bg 538 (by decide +kernel) (by decide +kernel)
set_option maxRecDepth 20000 in
theorem co_X7_opposedPairs : Cond.code yX7_opposedPairs cX7_opposedPairs 4 (some .int) ∈ gk_BG := gk_bg 539 (by decide +kernel) (by decide +kernel)
abbrev wsX7_opposedPairs : List Cond := Cond.code yX7_opposedPairs cX7_opposedPairs 4 (some .int) :: gk_BG
set_option maxRecDepth 20000 in
theorem im_X7_oppose : Cond.instanceMethod yX7_oppose ∈ gk_BG := gk_bg 542 (by decide +kernel) (by decide +kernel)
set_option maxRecDepth 20000 in
theorem se_X7_oppose : Cond.selects RX7 yX7_oppose yX7_oppose ∈ gk_BG := gk_bg 10 (by decide +kernel) (by decide +kernel)
set_option maxRecDepth 20000 in
theorem co_X7_oppose : Cond.code yX7_oppose cX7_oppose 4 none ∈ gk_BG := gk_bg 543 (by decide +kernel) (by decide +kernel)
abbrev wsX7_oppose : List Cond := Cond.code yX7_oppose cX7_oppose 4 none :: gk_BG
set_option maxRecDepth 20000 in
theorem im_X8_init : Cond.instanceMethod yX8_init ∈ gk_BG := gk_bg 89 (by decide +kernel) (by decide +kernel)
set_option maxRecDepth 20000 in
theorem co_X8_init : Cond.code yX8_init cX8_init 2 none ∈ gk_BG := gk_bg 90 (by decide +kernel) (by decide +kernel)
abbrev wsX8_init : List Cond := Cond.code yX8_init cX8_init 2 none :: gk_BG
set_option maxRecDepth 20000 in
theorem im_X8_addUser : Cond.instanceMethod yX8_addUser ∈ gk_BG := gk_bg 616 (by decide +kernel) (by decide +kernel)
set_option maxRecDepth 20000 in
theorem se_X8_addUser : Cond.selects RX8 yX8_addUser yX8_addUser ∈ gk_BG := gk_bg 617 (by decide +kernel) (by decide +kernel)
set_option maxRecDepth 20000 in
theorem co_X8_addUser : Cond.code yX8_addUser cX8_addUser 3 (some .int) ∈ gk_BG := gk_bg 618 (by decide +kernel) (by decide +kernel)
abbrev wsX8_addUser : List Cond := Cond.code yX8_addUser cX8_addUser 3 (some .int) :: gk_BG
set_option maxRecDepth 20000 in
theorem im_X8_addRole : Cond.instanceMethod yX8_addRole ∈ gk_BG := gk_bg 721 (by decide +kernel) (by decide +kernel)
set_option maxRecDepth 20000 in
theorem se_X8_addRole : Cond.selects RX8 yX8_addRole yX8_addRole ∈ gk_BG := gk_bg 722 (by decide +kernel) (by decide +kernel)
set_option maxRecDepth 20000 in
theorem co_X8_addRole : Cond.code yX8_addRole cX8_addRole 1 (some .int) ∈ gk_BG := gk_bg 723 (by decide +kernel) (by decide +kernel)
abbrev wsX8_addRole : List Cond := Cond.code yX8_addRole cX8_addRole 1 (some .int) :: gk_BG
set_option maxRecDepth 20000 in
theorem im_X8_addResource : Cond.instanceMethod yX8_addResource ∈ gk_BG := gk_bg 733 (by decide +kernel) (by decide +kernel)
set_option maxRecDepth 20000 in
theorem se_X8_addResource : Cond.selects RX8 yX8_addResource yX8_addResource ∈ gk_BG := gk_bg 734 (by decide +kernel) (by decide +kernel)
set_option maxRecDepth 20000 in
theorem co_X8_addResource : Cond.code yX8_addResource cX8_addResource 2 (some .int) ∈ gk_BG := gk_bg 735 (by decide +kernel) (by decide +kernel)
abbrev wsX8_addResource : List Cond := Cond.code yX8_addResource cX8_addResource 2 (some .int) :: gk_BG
set_option maxRecDepth 20000 in
theorem im_X8_setRole : Cond.instanceMethod yX8_setRole ∈ gk_BG := gk_bg 768 (by decide +kernel) (by decide +kernel)
set_option maxRecDepth 20000 in
theorem se_X8_setRole : Cond.selects RX8 yX8_setRole yX8_setRole ∈ gk_BG := gk_bg 769 (by decide +kernel) (by decide +kernel)
set_option maxRecDepth 20000 in
theorem co_X8_setRole : Cond.code yX8_setRole cX8_setRole 6 (some .boolean) ∈ gk_BG := gk_bg 770 (by decide +kernel) (by decide +kernel)
abbrev wsX8_setRole : List Cond := Cond.code yX8_setRole cX8_setRole 6 (some .boolean) :: gk_BG
set_option maxRecDepth 20000 in
theorem im_X8_setHolds : Cond.instanceMethod yX8_setHolds ∈ gk_BG := gk_bg 792 (by decide +kernel) (by decide +kernel)
set_option maxRecDepth 20000 in
theorem se_X8_setHolds : Cond.selects RX8 yX8_setHolds yX8_setHolds ∈ gk_BG := gk_bg 793 (by decide +kernel) (by decide +kernel)
set_option maxRecDepth 20000 in
theorem co_X8_setHolds : Cond.code yX8_setHolds cX8_setHolds 5 (some .boolean) ∈ gk_BG := gk_bg 794 (by decide +kernel) (by decide +kernel)
abbrev wsX8_setHolds : List Cond := Cond.code yX8_setHolds cX8_setHolds 5 (some .boolean) :: gk_BG
set_option maxRecDepth 20000 in
theorem im_X8_setApart : Cond.instanceMethod yX8_setApart ∈ gk_BG := gk_bg 803 (by decide +kernel) (by decide +kernel)
set_option maxRecDepth 20000 in
theorem se_X8_setApart : Cond.selects RX8 yX8_setApart yX8_setApart ∈ gk_BG := gk_bg 804 (by decide +kernel) (by decide +kernel)
set_option maxRecDepth 20000 in
theorem co_X8_setApart : Cond.code yX8_setApart cX8_setApart 3 (some .int) ∈ gk_BG := gk_bg 805 (by decide +kernel) (by decide +kernel)
abbrev wsX8_setApart : List Cond := Cond.code yX8_setApart cX8_setApart 3 (some .int) :: gk_BG
set_option maxRecDepth 20000 in
theorem im_X8_setUser : Cond.instanceMethod yX8_setUser ∈ gk_BG := gk_bg 819 (by decide +kernel) (by decide +kernel)
set_option maxRecDepth 20000 in
theorem se_X8_setUser : Cond.selects RX8 yX8_setUser yX8_setUser ∈ gk_BG := gk_bg 820 (by decide +kernel) (by decide +kernel)
set_option maxRecDepth 20000 in
theorem co_X8_setUser : Cond.code yX8_setUser cX8_setUser 5 (some .int) ∈ gk_BG := gk_bg 821 (by decide +kernel) (by decide +kernel)
abbrev wsX8_setUser : List Cond := Cond.code yX8_setUser cX8_setUser 5 (some .int) :: gk_BG
set_option maxRecDepth 20000 in
theorem im_X8_setLabel : Cond.instanceMethod yX8_setLabel ∈ gk_BG := gk_bg 826 (by decide +kernel) (by decide +kernel)
set_option maxRecDepth 20000 in
theorem se_X8_setLabel : Cond.selects RX8 yX8_setLabel yX8_setLabel ∈ gk_BG := gk_bg 827 (by decide +kernel) (by decide +kernel)
set_option maxRecDepth 20000 in
theorem co_X8_setLabel : Cond.code yX8_setLabel cX8_setLabel 4 (some .int) ∈ gk_BG := gk_bg 828 (by decide +kernel) (by decide +kernel)
abbrev wsX8_setLabel : List Cond := Cond.code yX8_setLabel cX8_setLabel 4 (some .int) :: gk_BG
set_option maxRecDepth 20000 in
theorem im_X8_setWall : Cond.instanceMethod yX8_setWall ∈ gk_BG := gk_bg 833 (by decide +kernel) (by decide +kernel)
set_option maxRecDepth 20000 in
theorem se_X8_setWall : Cond.selects RX8 yX8_setWall yX8_setWall ∈ gk_BG := gk_bg 834 (by decide +kernel) (by decide +kernel)
set_option maxRecDepth 20000 in
theorem co_X8_setWall : Cond.code yX8_setWall cX8_setWall 5 (some .boolean) ∈ gk_BG := gk_bg 835 (by decide +kernel) (by decide +kernel)
abbrev wsX8_setWall : List Cond := Cond.code yX8_setWall cX8_setWall 5 (some .boolean) :: gk_BG
set_option maxRecDepth 20000 in
theorem im_X8_users : Cond.instanceMethod yX8_users ∈ gk_BG := gk_bg 394 (by decide +kernel) (by decide +kernel)
set_option maxRecDepth 20000 in
theorem se_X8_users : Cond.selects RX8 yX8_users yX8_users ∈ gk_BG := gk_bg 395 (by decide +kernel) (by decide +kernel)
set_option maxRecDepth 20000 in
theorem co_X8_users : Cond.code yX8_users cX8_users 1 (some .int) ∈ gk_BG := gk_bg 396 (by decide +kernel) (by decide +kernel)
abbrev wsX8_users : List Cond := Cond.code yX8_users cX8_users 1 (some .int) :: gk_BG
set_option maxRecDepth 20000 in
theorem im_X8_roles : Cond.instanceMethod yX8_roles ∈ gk_BG := gk_bg 398 (by decide +kernel) (by decide +kernel)
set_option maxRecDepth 20000 in
theorem se_X8_roles : Cond.selects RX8 yX8_roles yX8_roles ∈ gk_BG := gk_bg 399 (by decide +kernel) (by decide +kernel)
set_option maxRecDepth 20000 in
theorem co_X8_roles : Cond.code yX8_roles cX8_roles 1 (some .int) ∈ gk_BG := gk_bg 400 (by decide +kernel) (by decide +kernel)
abbrev wsX8_roles : List Cond := Cond.code yX8_roles cX8_roles 1 (some .int) :: gk_BG
set_option maxRecDepth 20000 in
theorem im_X8_resources : Cond.instanceMethod yX8_resources ∈ gk_BG := gk_bg 402 (by decide +kernel) (by decide +kernel)
set_option maxRecDepth 20000 in
theorem se_X8_resources : Cond.selects RX8 yX8_resources yX8_resources ∈ gk_BG := gk_bg 403 (by decide +kernel) (by decide +kernel)
set_option maxRecDepth 20000 in
theorem co_X8_resources : Cond.code yX8_resources cX8_resources 1 (some .int) ∈ gk_BG := gk_bg 404 (by decide +kernel) (by decide +kernel)
abbrev wsX8_resources : List Cond := Cond.code yX8_resources cX8_resources 1 (some .int) :: gk_BG
set_option maxRecDepth 20000 in
theorem im_X8_near : Cond.instanceMethod yX8_near ∈ gk_BG := gk_bg 840 (by decide +kernel) (by decide +kernel)
set_option maxRecDepth 20000 in
theorem se_X8_near : Cond.selects RX8 yX8_near yX8_near ∈ gk_BG := gk_bg 841 (by decide +kernel) (by decide +kernel)
set_option maxRecDepth 20000 in
theorem co_X8_near : Cond.code yX8_near cX8_near 3 (some .int) ∈ gk_BG := gk_bg 842 (by decide +kernel) (by decide +kernel)
abbrev wsX8_near : List Cond := Cond.code yX8_near cX8_near 3 (some .int) :: gk_BG
set_option maxRecDepth 20000 in
theorem im_X8_far : Cond.instanceMethod yX8_far ∈ gk_BG := gk_bg 847 (by decide +kernel) (by decide +kernel)
set_option maxRecDepth 20000 in
theorem se_X8_far : Cond.selects RX8 yX8_far yX8_far ∈ gk_BG := gk_bg 848 (by decide +kernel) (by decide +kernel)
set_option maxRecDepth 20000 in
theorem co_X8_far : Cond.code yX8_far cX8_far 3 (some .int) ∈ gk_BG := gk_bg 849 (by decide +kernel) (by decide +kernel)
abbrev wsX8_far : List Cond := Cond.code yX8_far cX8_far 3 (some .int) :: gk_BG
set_option maxRecDepth 20000 in
theorem im_X8_addRule : Cond.instanceMethod yX8_addRule ∈ gk_BG := gk_bg 854 (by decide +kernel) (by decide +kernel)
set_option maxRecDepth 20000 in
theorem se_X8_addRule : Cond.selects RX8 yX8_addRule yX8_addRule ∈ gk_BG := gk_bg 855 (by decide +kernel) (by decide +kernel)
set_option maxRecDepth 20000 in
theorem co_X8_addRule : Cond.code yX8_addRule cX8_addRule 5 (some .int) ∈ gk_BG := gk_bg 856 (by decide +kernel) (by decide +kernel)
abbrev wsX8_addRule : List Cond := Cond.code yX8_addRule cX8_addRule 5 (some .int) :: gk_BG
set_option maxRecDepth 20000 in
theorem im_X8_setRule : Cond.instanceMethod yX8_setRule ∈ gk_BG := gk_bg 866 (by decide +kernel) (by decide +kernel)
set_option maxRecDepth 20000 in
theorem se_X8_setRule : Cond.selects RX8 yX8_setRule yX8_setRule ∈ gk_BG := gk_bg 867 (by decide +kernel) (by decide +kernel)
set_option maxRecDepth 20000 in
theorem co_X8_setRule : Cond.code yX8_setRule cX8_setRule 5 (some .int) ∈ gk_BG := gk_bg 868 (by decide +kernel) (by decide +kernel)
abbrev wsX8_setRule : List Cond := Cond.code yX8_setRule cX8_setRule 5 (some .int) :: gk_BG
set_option maxRecDepth 20000 in
theorem im_X8_setTerms : Cond.instanceMethod yX8_setTerms ∈ gk_BG := gk_bg 877 (by decide +kernel) (by decide +kernel)
set_option maxRecDepth 20000 in
theorem se_X8_setTerms : Cond.selects RX8 yX8_setTerms yX8_setTerms ∈ gk_BG := gk_bg 878 (by decide +kernel) (by decide +kernel)
set_option maxRecDepth 20000 in
theorem co_X8_setTerms : Cond.code yX8_setTerms cX8_setTerms 6 (some .int) ∈ gk_BG := gk_bg 879 (by decide +kernel) (by decide +kernel)
abbrev wsX8_setTerms : List Cond := Cond.code yX8_setTerms cX8_setTerms 6 (some .int) :: gk_BG
set_option maxRecDepth 20000 in
theorem im_X8_dropRule : Cond.instanceMethod yX8_dropRule ∈ gk_BG := gk_bg 884 (by decide +kernel) (by decide +kernel)
set_option maxRecDepth 20000 in
theorem se_X8_dropRule : Cond.selects RX8 yX8_dropRule yX8_dropRule ∈ gk_BG := gk_bg 885 (by decide +kernel) (by decide +kernel)
set_option maxRecDepth 20000 in
theorem co_X8_dropRule : Cond.code yX8_dropRule cX8_dropRule 2 (some .int) ∈ gk_BG := gk_bg 886 (by decide +kernel) (by decide +kernel)
abbrev wsX8_dropRule : List Cond := Cond.code yX8_dropRule cX8_dropRule 2 (some .int) :: gk_BG
set_option maxRecDepth 20000 in
theorem im_X8_rules : Cond.instanceMethod yX8_rules ∈ gk_BG := gk_bg 406 (by decide +kernel) (by decide +kernel)
set_option maxRecDepth 20000 in
theorem se_X8_rules : Cond.selects RX8 yX8_rules yX8_rules ∈ gk_BG := gk_bg 407 (by decide +kernel) (by decide +kernel)
set_option maxRecDepth 20000 in
theorem co_X8_rules : Cond.code yX8_rules cX8_rules 1 (some .int) ∈ gk_BG := gk_bg 408 (by decide +kernel) (by decide +kernel)
abbrev wsX8_rules : List Cond := Cond.code yX8_rules cX8_rules 1 (some .int) :: gk_BG
set_option maxRecDepth 20000 in
theorem im_X8_setWeighing : Cond.instanceMethod yX8_setWeighing ∈ gk_BG := gk_bg 899 (by decide +kernel) (by decide +kernel)
set_option maxRecDepth 20000 in
theorem se_X8_setWeighing : Cond.selects RX8 yX8_setWeighing yX8_setWeighing ∈ gk_BG := gk_bg 900 (by decide +kernel) (by decide +kernel)
set_option maxRecDepth 20000 in
theorem co_X8_setWeighing : Cond.code yX8_setWeighing cX8_setWeighing 3 (some .int) ∈ gk_BG := gk_bg 901 (by decide +kernel) (by decide +kernel)
abbrev wsX8_setWeighing : List Cond := Cond.code yX8_setWeighing cX8_setWeighing 3 (some .int) :: gk_BG
set_option maxRecDepth 20000 in
theorem im_X8_matches : Cond.instanceMethod yX8_matches ∈ gk_BG := gk_bg 906 (by decide +kernel) (by decide +kernel)
set_option maxRecDepth 20000 in
theorem se_X8_matches : Cond.selects RX8 yX8_matches yX8_matches ∈ gk_BG := gk_bg 907 (by decide +kernel) (by decide +kernel)
set_option maxRecDepth 20000 in
theorem co_X8_matches : Cond.code yX8_matches cX8_matches 5 (some .boolean) ∈ gk_BG := gk_bg 908 (by decide +kernel) (by decide +kernel)
abbrev wsX8_matches : List Cond := Cond.code yX8_matches cX8_matches 5 (some .boolean) :: gk_BG
set_option maxRecDepth 20000 in
theorem im_X8_goOn : Cond.instanceMethod yX8_goOn ∈ gk_BG := gk_bg 921 (by decide +kernel) (by decide +kernel)
set_option maxRecDepth 20000 in
theorem se_X8_goOn : Cond.selects RX8 yX8_goOn yX8_goOn ∈ gk_BG := gk_bg 922 (by decide +kernel) (by decide +kernel)
set_option maxRecDepth 20000 in
theorem co_X8_goOn : Cond.code yX8_goOn cX8_goOn 2 (some .int) ∈ gk_BG := gk_bg 923 (by decide +kernel) (by decide +kernel)
abbrev wsX8_goOn : List Cond := Cond.code yX8_goOn cX8_goOn 2 (some .int) :: gk_BG
set_option maxRecDepth 20000 in
theorem im_X8_clock : Cond.instanceMethod yX8_clock ∈ gk_BG := gk_bg 410 (by decide +kernel) (by decide +kernel)
set_option maxRecDepth 20000 in
theorem se_X8_clock : Cond.selects RX8 yX8_clock yX8_clock ∈ gk_BG := gk_bg 411 (by decide +kernel) (by decide +kernel)
set_option maxRecDepth 20000 in
theorem co_X8_clock : Cond.code yX8_clock cX8_clock 1 (some .int) ∈ gk_BG := gk_bg 412 (by decide +kernel) (by decide +kernel)
abbrev wsX8_clock : List Cond := Cond.code yX8_clock cX8_clock 1 (some .int) :: gk_BG
set_option maxRecDepth 20000 in
theorem im_X8_grant : Cond.instanceMethod yX8_grant ∈ gk_BG := gk_bg 929 (by decide +kernel) (by decide +kernel)
set_option maxRecDepth 20000 in
theorem se_X8_grant : Cond.selects RX8 yX8_grant yX8_grant ∈ gk_BG := gk_bg 930 (by decide +kernel) (by decide +kernel)
set_option maxRecDepth 20000 in
theorem co_X8_grant : Cond.code yX8_grant cX8_grant 7 (some .int) ∈ gk_BG := gk_bg 931 (by decide +kernel) (by decide +kernel)
abbrev wsX8_grant : List Cond := Cond.code yX8_grant cX8_grant 7 (some .int) :: gk_BG
set_option maxRecDepth 20000 in
theorem im_X8_revoke : Cond.instanceMethod yX8_revoke ∈ gk_BG := gk_bg 941 (by decide +kernel) (by decide +kernel)
set_option maxRecDepth 20000 in
theorem se_X8_revoke : Cond.selects RX8 yX8_revoke yX8_revoke ∈ gk_BG := gk_bg 942 (by decide +kernel) (by decide +kernel)
set_option maxRecDepth 20000 in
theorem co_X8_revoke : Cond.code yX8_revoke cX8_revoke 3 (some .boolean) ∈ gk_BG := gk_bg 943 (by decide +kernel) (by decide +kernel)
abbrev wsX8_revoke : List Cond := Cond.code yX8_revoke cX8_revoke 3 (some .boolean) :: gk_BG
set_option maxRecDepth 20000 in
theorem im_X8_grants : Cond.instanceMethod yX8_grants ∈ gk_BG := gk_bg 414 (by decide +kernel) (by decide +kernel)
set_option maxRecDepth 20000 in
theorem se_X8_grants : Cond.selects RX8 yX8_grants yX8_grants ∈ gk_BG := gk_bg 415 (by decide +kernel) (by decide +kernel)
set_option maxRecDepth 20000 in
theorem co_X8_grants : Cond.code yX8_grants cX8_grants 1 (some .int) ∈ gk_BG := gk_bg 416 (by decide +kernel) (by decide +kernel)
abbrev wsX8_grants : List Cond := Cond.code yX8_grants cX8_grants 1 (some .int) :: gk_BG
set_option maxRecDepth 20000 in
theorem im_X8_isGood : Cond.instanceMethod yX8_isGood ∈ gk_BG := gk_bg 953 (by decide +kernel) (by decide +kernel)
set_option maxRecDepth 20000 in
theorem se_X8_isGood : Cond.selects RX8 yX8_isGood yX8_isGood ∈ gk_BG := gk_bg 954 (by decide +kernel) (by decide +kernel)
set_option maxRecDepth 20000 in
theorem co_X8_isGood : Cond.code yX8_isGood cX8_isGood 2 (some .boolean) ∈ gk_BG := gk_bg 955 (by decide +kernel) (by decide +kernel)
abbrev wsX8_isGood : List Cond := Cond.code yX8_isGood cX8_isGood 2 (some .boolean) :: gk_BG
set_option maxRecDepth 20000 in
theorem im_X8_decide : Cond.instanceMethod yX8_decide ∈ gk_BG := gk_bg 960 (by decide +kernel) (by decide +kernel)
set_option maxRecDepth 20000 in
theorem se_X8_decide : Cond.selects RX8 yX8_decide yX8_decide ∈ gk_BG := gk_bg 961 (by decide +kernel) (by decide +kernel)
set_option maxRecDepth 20000 in
theorem co_X8_decide : Cond.code yX8_decide cX8_decide 4 (some .int) ∈ gk_BG := gk_bg 962 (by decide +kernel) (by decide +kernel)
abbrev wsX8_decide : List Cond := Cond.code yX8_decide cX8_decide 4 (some .int) :: gk_BG
set_option maxRecDepth 20000 in
theorem im_X8_why : Cond.instanceMethod yX8_why ∈ gk_BG := gk_bg 967 (by decide +kernel) (by decide +kernel)
set_option maxRecDepth 20000 in
theorem se_X8_why : Cond.selects RX8 yX8_why yX8_why ∈ gk_BG := gk_bg 968 (by decide +kernel) (by decide +kernel)
set_option maxRecDepth 20000 in
theorem co_X8_why : Cond.code yX8_why cX8_why 4 (some .int) ∈ gk_BG := gk_bg 969 (by decide +kernel) (by decide +kernel)
abbrev wsX8_why : List Cond := Cond.code yX8_why cX8_why 4 (some .int) :: gk_BG
set_option maxRecDepth 20000 in
theorem im_X8_access : Cond.instanceMethod yX8_access ∈ gk_BG := gk_bg 974 (by decide +kernel) (by decide +kernel)
set_option maxRecDepth 20000 in
theorem se_X8_access : Cond.selects RX8 yX8_access yX8_access ∈ gk_BG := gk_bg 975 (by decide +kernel) (by decide +kernel)
set_option maxRecDepth 20000 in
theorem co_X8_access : Cond.code yX8_access cX8_access 5 (some .int) ∈ gk_BG := gk_bg 976 (by decide +kernel) (by decide +kernel)
abbrev wsX8_access : List Cond := Cond.code yX8_access cX8_access 5 (some .int) :: gk_BG
set_option maxRecDepth 20000 in
theorem im_X8_counted : Cond.instanceMethod yX8_counted ∈ gk_BG := gk_bg 986 (by decide +kernel) (by decide +kernel)
set_option maxRecDepth 20000 in
theorem se_X8_counted : Cond.selects RX8 yX8_counted yX8_counted ∈ gk_BG := gk_bg 987 (by decide +kernel) (by decide +kernel)
set_option maxRecDepth 20000 in
theorem co_X8_counted : Cond.code yX8_counted cX8_counted 2 (some .int) ∈ gk_BG := gk_bg 988 (by decide +kernel) (by decide +kernel)
abbrev wsX8_counted : List Cond := Cond.code yX8_counted cX8_counted 2 (some .int) :: gk_BG
set_option maxRecDepth 20000 in
theorem im_X8_done : Cond.instanceMethod yX8_done ∈ gk_BG := gk_bg 993 (by decide +kernel) (by decide +kernel)
set_option maxRecDepth 20000 in
theorem se_X8_done : Cond.selects RX8 yX8_done yX8_done ∈ gk_BG := gk_bg 994 (by decide +kernel) (by decide +kernel)
set_option maxRecDepth 20000 in
theorem co_X8_done : Cond.code yX8_done cX8_done 3 (some .int) ∈ gk_BG := gk_bg 995 (by decide +kernel) (by decide +kernel)
abbrev wsX8_done : List Cond := Cond.code yX8_done cX8_done 3 (some .int) :: gk_BG
set_option maxRecDepth 20000 in
theorem im_X8_who : Cond.instanceMethod yX8_who ∈ gk_BG := gk_bg 1000 (by decide +kernel) (by decide +kernel)
set_option maxRecDepth 20000 in
theorem se_X8_who : Cond.selects RX8 yX8_who yX8_who ∈ gk_BG := gk_bg 1001 (by decide +kernel) (by decide +kernel)
set_option maxRecDepth 20000 in
theorem co_X8_who : Cond.code yX8_who cX8_who 5 (some .int) ∈ gk_BG := gk_bg 1002 (by decide +kernel) (by decide +kernel)
abbrev wsX8_who : List Cond := Cond.code yX8_who cX8_who 5 (some .int) :: gk_BG
set_option maxRecDepth 20000 in
theorem im_X8_reach : Cond.instanceMethod yX8_reach ∈ gk_BG := gk_bg 1008 (by decide +kernel) (by decide +kernel)
set_option maxRecDepth 20000 in
theorem se_X8_reach : Cond.selects RX8 yX8_reach yX8_reach ∈ gk_BG := gk_bg 1009 (by decide +kernel) (by decide +kernel)
set_option maxRecDepth 20000 in
theorem co_X8_reach : Cond.code yX8_reach cX8_reach 3 (some .int) ∈ gk_BG := gk_bg 1010 (by decide +kernel) (by decide +kernel)
abbrev wsX8_reach : List Cond := Cond.code yX8_reach cX8_reach 3 (some .int) :: gk_BG
set_option maxRecDepth 20000 in
theorem im_X8_rolesNeeded : Cond.instanceMethod yX8_rolesNeeded ∈ gk_BG := gk_bg 1015 (by decide +kernel) (by decide +kernel)
set_option maxRecDepth 20000 in
theorem se_X8_rolesNeeded : Cond.selects RX8 yX8_rolesNeeded yX8_rolesNeeded ∈ gk_BG := gk_bg 1016 (by decide +kernel) (by decide +kernel)
set_option maxRecDepth 20000 in
theorem co_X8_rolesNeeded : Cond.code yX8_rolesNeeded cX8_rolesNeeded 11 (some .int) ∈ gk_BG := gk_bg 1017 (by decide +kernel) (by decide +kernel)
abbrev wsX8_rolesNeeded : List Cond := Cond.code yX8_rolesNeeded cX8_rolesNeeded 11 (some .int) :: gk_BG
set_option maxRecDepth 20000 in
theorem im_X8_contradictions : Cond.instanceMethod yX8_contradictions ∈ gk_BG := gk_bg 418 (by decide +kernel) (by decide +kernel)
set_option maxRecDepth 20000 in
theorem se_X8_contradictions : Cond.selects RX8 yX8_contradictions yX8_contradictions ∈ gk_BG := gk_bg 419 (by decide +kernel) (by decide +kernel)
set_option maxRecDepth 20000 in
theorem co_X8_contradictions : Cond.code yX8_contradictions cX8_contradictions 1 (some .int) ∈ gk_BG := gk_bg 420 (by decide +kernel) (by decide +kernel)
abbrev wsX8_contradictions : List Cond := Cond.code yX8_contradictions cX8_contradictions 1 (some .int) :: gk_BG
set_option maxRecDepth 20000 in
theorem im_X8_isIdle : Cond.instanceMethod yX8_isIdle ∈ gk_BG := gk_bg 1031 (by decide +kernel) (by decide +kernel)
set_option maxRecDepth 20000 in
theorem se_X8_isIdle : Cond.selects RX8 yX8_isIdle yX8_isIdle ∈ gk_BG := gk_bg 1032 (by decide +kernel) (by decide +kernel)
set_option maxRecDepth 20000 in
theorem co_X8_isIdle : Cond.code yX8_isIdle cX8_isIdle 2 (some .boolean) ∈ gk_BG := gk_bg 1033 (by decide +kernel) (by decide +kernel)
abbrev wsX8_isIdle : List Cond := Cond.code yX8_isIdle cX8_isIdle 2 (some .boolean) :: gk_BG
set_option maxRecDepth 20000 in
theorem im_X8_wouldDiffer : Cond.instanceMethod yX8_wouldDiffer ∈ gk_BG := gk_bg 1042 (by decide +kernel) (by decide +kernel)
set_option maxRecDepth 20000 in
theorem se_X8_wouldDiffer : Cond.selects RX8 yX8_wouldDiffer yX8_wouldDiffer ∈ gk_BG := gk_bg 1043 (by decide +kernel) (by decide +kernel)
set_option maxRecDepth 20000 in
theorem co_X8_wouldDiffer : Cond.code yX8_wouldDiffer cX8_wouldDiffer 2 (some .int) ∈ gk_BG := gk_bg 1044 (by decide +kernel) (by decide +kernel)
abbrev wsX8_wouldDiffer : List Cond := Cond.code yX8_wouldDiffer cX8_wouldDiffer 2 (some .int) :: gk_BG
set_option maxRecDepth 20000 in
theorem im_X8_wouldGain : Cond.instanceMethod yX8_wouldGain ∈ gk_BG := gk_bg 1049 (by decide +kernel) (by decide +kernel)
set_option maxRecDepth 20000 in
theorem se_X8_wouldGain : Cond.selects RX8 yX8_wouldGain yX8_wouldGain ∈ gk_BG := gk_bg 1050 (by decide +kernel) (by decide +kernel)
set_option maxRecDepth 20000 in
theorem co_X8_wouldGain : Cond.code yX8_wouldGain cX8_wouldGain 6 (some .int) ∈ gk_BG := gk_bg 1051 (by decide +kernel) (by decide +kernel)
abbrev wsX8_wouldGain : List Cond := Cond.code yX8_wouldGain cX8_wouldGain 6 (some .int) :: gk_BG
set_option maxRecDepth 20000 in
theorem im_X8_openness : Cond.instanceMethod yX8_openness ∈ gk_BG := gk_bg 551 (by decide +kernel) (by decide +kernel)
set_option maxRecDepth 20000 in
theorem se_X8_openness : Cond.selects RX8 yX8_openness yX8_openness ∈ gk_BG := gk_bg 552 (by decide +kernel) (by decide +kernel)
set_option maxRecDepth 20000 in
theorem co_X8_openness : Cond.code yX8_openness cX8_openness 5 (some .double) ∈ gk_BG := gk_bg 553 (by decide +kernel) (by decide +kernel)
abbrev wsX8_openness : List Cond := Cond.code yX8_openness cX8_openness 5 (some .double) :: gk_BG
set_option maxRecDepth 20000 in
theorem im_X8_digest : Cond.instanceMethod yX8_digest ∈ gk_BG := gk_bg 571 (by decide +kernel) (by decide +kernel)
set_option maxRecDepth 20000 in
theorem se_X8_digest : Cond.selects RX8 yX8_digest yX8_digest ∈ gk_BG := gk_bg 572 (by decide +kernel) (by decide +kernel)
set_option maxRecDepth 20000 in
theorem co_X8_digest : Cond.code yX8_digest cX8_digest 4 (some .long) ∈ gk_BG := gk_bg 573 (by decide +kernel) (by decide +kernel)
abbrev wsX8_digest : List Cond := Cond.code yX8_digest cX8_digest 4 (some .long) :: gk_BG
set_option maxRecDepth 20000 in
theorem im_X8_withNumbers : Cond.instanceMethod yX8_withNumbers ∈ gk_BG := gk_bg 577 (by decide +kernel) (by decide +kernel)
set_option maxRecDepth 20000 in
theorem se_X8_withNumbers : Cond.selects RX8 yX8_withNumbers yX8_withNumbers ∈ gk_BG := gk_bg 11 (by decide +kernel) (by decide +kernel)
set_option maxRecDepth 20000 in
theorem co_X8_withNumbers : Cond.code yX8_withNumbers cX8_withNumbers 5 (some .long) ∈ gk_BG := gk_bg 578 (by decide +kernel) (by decide +kernel)
abbrev wsX8_withNumbers : List Cond := Cond.code yX8_withNumbers cX8_withNumbers 5 (some .long) :: gk_BG
set_option maxRecDepth 20000 in
theorem im_X8_withNear : Cond.instanceMethod yX8_withNear ∈ gk_BG := gk_bg 582 (by decide +kernel) (by decide +kernel)
set_option maxRecDepth 20000 in
theorem se_X8_withNear : Cond.selects RX8 yX8_withNear yX8_withNear ∈ gk_BG := gk_bg 12 (by decide +kernel) (by decide +kernel)
set_option maxRecDepth 20000 in
theorem co_X8_withNear : Cond.code yX8_withNear cX8_withNear 7 (some .long) ∈ gk_BG := gk_bg 583 (by decide +kernel) (by decide +kernel)
abbrev wsX8_withNear : List Cond := Cond.code yX8_withNear cX8_withNear 7 (some .long) :: gk_BG
set_option maxRecDepth 20000 in
theorem im_X8_withDecisions : Cond.instanceMethod yX8_withDecisions ∈ gk_BG := gk_bg 594 (by decide +kernel) (by decide +kernel)
set_option maxRecDepth 20000 in
theorem se_X8_withDecisions : Cond.selects RX8 yX8_withDecisions yX8_withDecisions ∈ gk_BG := gk_bg 13 (by decide +kernel) (by decide +kernel)
set_option maxRecDepth 20000 in
theorem co_X8_withDecisions : Cond.code yX8_withDecisions cX8_withDecisions 8 (some .long) ∈ gk_BG := gk_bg 595 (by decide +kernel) (by decide +kernel)
abbrev wsX8_withDecisions : List Cond := Cond.code yX8_withDecisions cX8_withDecisions 8 (some .long) :: gk_BG
set_option maxRecDepth 20000 in
theorem im_X8_withReasons : Cond.instanceMethod yX8_withReasons ∈ gk_BG := gk_bg 599 (by decide +kernel) (by decide +kernel)
set_option maxRecDepth 20000 in
theorem se_X8_withReasons : Cond.selects RX8 yX8_withReasons yX8_withReasons ∈ gk_BG := gk_bg 14 (by decide +kernel) (by decide +kernel)
set_option maxRecDepth 20000 in
theorem co_X8_withReasons : Cond.code yX8_withReasons cX8_withReasons 8 (some .long) ∈ gk_BG := gk_bg 600 (by decide +kernel) (by decide +kernel)
abbrev wsX8_withReasons : List Cond := Cond.code yX8_withReasons cX8_withReasons 8 (some .long) :: gk_BG
set_option maxRecDepth 20000 in
theorem im_X8_withDone : Cond.instanceMethod yX8_withDone ∈ gk_BG := gk_bg 607 (by decide +kernel) (by decide +kernel)
set_option maxRecDepth 20000 in
theorem se_X8_withDone : Cond.selects RX8 yX8_withDone yX8_withDone ∈ gk_BG := gk_bg 15 (by decide +kernel) (by decide +kernel)
set_option maxRecDepth 20000 in
theorem co_X8_withDone : Cond.code yX8_withDone cX8_withDone 7 (some .long) ∈ gk_BG := gk_bg 608 (by decide +kernel) (by decide +kernel)
abbrev wsX8_withDone : List Cond := Cond.code yX8_withDone cX8_withDone 7 (some .long) :: gk_BG
set_option maxRecDepth 20000 in
theorem im_X8_wouldBeAllowed : Cond.instanceMethod yX8_wouldBeAllowed ∈ gk_BG := gk_bg 1021 (by decide +kernel) (by decide +kernel)
set_option maxRecDepth 20000 in
theorem se_X8_wouldBeAllowed : Cond.selects RX8 yX8_wouldBeAllowed yX8_wouldBeAllowed ∈ gk_BG := gk_bg 25 (by decide +kernel) (by decide +kernel)
set_option maxRecDepth 20000 in
theorem co_X8_wouldBeAllowed : Cond.code yX8_wouldBeAllowed cX8_wouldBeAllowed 6 (some .boolean) ∈ gk_BG := gk_bg 1022 (by decide +kernel) (by decide +kernel)
abbrev wsX8_wouldBeAllowed : List Cond := Cond.code yX8_wouldBeAllowed cX8_wouldBeAllowed 6 (some .boolean) :: gk_BG
set_option maxRecDepth 20000 in
theorem im_X8_wouldSplitSomeone : Cond.instanceMethod yX8_wouldSplitSomeone ∈ gk_BG := gk_bg 797 (by decide +kernel) (by decide +kernel)
set_option maxRecDepth 20000 in
theorem se_X8_wouldSplitSomeone : Cond.selects RX8 yX8_wouldSplitSomeone yX8_wouldSplitSomeone ∈ gk_BG := gk_bg 20 (by decide +kernel) (by decide +kernel)
set_option maxRecDepth 20000 in
theorem co_X8_wouldSplitSomeone : Cond.code yX8_wouldSplitSomeone cX8_wouldSplitSomeone 6 (some .boolean) ∈ gk_BG := gk_bg 798 (by decide +kernel) (by decide +kernel)
abbrev wsX8_wouldSplitSomeone : List Cond := Cond.code yX8_wouldSplitSomeone cX8_wouldSplitSomeone 6 (some .boolean) :: gk_BG
set_option maxRecDepth 20000 in
theorem im_X8_isAnyoneWith : Cond.instanceMethod yX8_isAnyoneWith ∈ gk_BG := gk_bg 808 (by decide +kernel) (by decide +kernel)
set_option maxRecDepth 20000 in
theorem se_X8_isAnyoneWith : Cond.selects RX8 yX8_isAnyoneWith yX8_isAnyoneWith ∈ gk_BG := gk_bg 21 (by decide +kernel) (by decide +kernel)
set_option maxRecDepth 20000 in
theorem co_X8_isAnyoneWith : Cond.code yX8_isAnyoneWith cX8_isAnyoneWith 5 (some .boolean) ∈ gk_BG := gk_bg 809 (by decide +kernel) (by decide +kernel)
abbrev wsX8_isAnyoneWith : List Cond := Cond.code yX8_isAnyoneWith cX8_isAnyoneWith 5 (some .boolean) :: gk_BG
set_option maxRecDepth 20000 in
theorem im_X8_isUser : Cond.instanceMethod yX8_isUser ∈ gk_BG := gk_bg 773 (by decide +kernel) (by decide +kernel)
set_option maxRecDepth 20000 in
theorem se_X8_isUser : Cond.selects RX8 yX8_isUser yX8_isUser ∈ gk_BG := gk_bg 18 (by decide +kernel) (by decide +kernel)
set_option maxRecDepth 20000 in
theorem co_X8_isUser : Cond.code yX8_isUser cX8_isUser 2 (some .boolean) ∈ gk_BG := gk_bg 774 (by decide +kernel) (by decide +kernel)
abbrev wsX8_isUser : List Cond := Cond.code yX8_isUser cX8_isUser 2 (some .boolean) :: gk_BG
set_option maxRecDepth 20000 in
theorem im_X8_isRole : Cond.instanceMethod yX8_isRole ∈ gk_BG := gk_bg 777 (by decide +kernel) (by decide +kernel)
set_option maxRecDepth 20000 in
theorem se_X8_isRole : Cond.selects RX8 yX8_isRole yX8_isRole ∈ gk_BG := gk_bg 19 (by decide +kernel) (by decide +kernel)
set_option maxRecDepth 20000 in
theorem co_X8_isRole : Cond.code yX8_isRole cX8_isRole 2 (some .boolean) ∈ gk_BG := gk_bg 778 (by decide +kernel) (by decide +kernel)
abbrev wsX8_isRole : List Cond := Cond.code yX8_isRole cX8_isRole 2 (some .boolean) :: gk_BG
set_option maxRecDepth 20000 in
theorem im_X8_isResource : Cond.instanceMethod yX8_isResource ∈ gk_BG := gk_bg 738 (by decide +kernel) (by decide +kernel)
set_option maxRecDepth 20000 in
theorem se_X8_isResource : Cond.selects RX8 yX8_isResource yX8_isResource ∈ gk_BG := gk_bg 17 (by decide +kernel) (by decide +kernel)
set_option maxRecDepth 20000 in
theorem co_X8_isResource : Cond.code yX8_isResource cX8_isResource 2 (some .boolean) ∈ gk_BG := gk_bg 739 (by decide +kernel) (by decide +kernel)
abbrev wsX8_isResource : List Cond := Cond.code yX8_isResource cX8_isResource 2 (some .boolean) :: gk_BG
set_option maxRecDepth 20000 in
theorem im_X8_isRule : Cond.instanceMethod yX8_isRule ∈ gk_BG := gk_bg 871 (by decide +kernel) (by decide +kernel)
set_option maxRecDepth 20000 in
theorem se_X8_isRule : Cond.selects RX8 yX8_isRule yX8_isRule ∈ gk_BG := gk_bg 22 (by decide +kernel) (by decide +kernel)
set_option maxRecDepth 20000 in
theorem co_X8_isRule : Cond.code yX8_isRule cX8_isRule 2 (some .boolean) ∈ gk_BG := gk_bg 872 (by decide +kernel) (by decide +kernel)
abbrev wsX8_isRule : List Cond := Cond.code yX8_isRule cX8_isRule 2 (some .boolean) :: gk_BG
set_option maxRecDepth 20000 in
theorem im_X8_isGrant : Cond.instanceMethod yX8_isGrant ∈ gk_BG := gk_bg 946 (by decide +kernel) (by decide +kernel)
set_option maxRecDepth 20000 in
theorem se_X8_isGrant : Cond.selects RX8 yX8_isGrant yX8_isGrant ∈ gk_BG := gk_bg 24 (by decide +kernel) (by decide +kernel)
set_option maxRecDepth 20000 in
theorem co_X8_isGrant : Cond.code yX8_isGrant cX8_isGrant 2 (some .boolean) ∈ gk_BG := gk_bg 947 (by decide +kernel) (by decide +kernel)
abbrev wsX8_isGrant : List Cond := Cond.code yX8_isGrant cX8_isGrant 2 (some .boolean) :: gk_BG
set_option maxRecDepth 20000 in
theorem st_X8_isAction : Cond.static yX8_isAction ∈ gk_BG := gk_bg 914 (by decide +kernel) (by decide +kernel)
set_option maxRecDepth 20000 in
theorem co_X8_isAction : Cond.code yX8_isAction cX8_isAction 1 (some .boolean) ∈ gk_BG := gk_bg 915 (by decide +kernel) (by decide +kernel)
abbrev wsX8_isAction : List Cond := Cond.code yX8_isAction cX8_isAction 1 (some .boolean) :: gk_BG
set_option maxRecDepth 20000 in
theorem st_X8_isUpTo : Cond.static yX8_isUpTo ∈ gk_BG := gk_bg 620 (by decide +kernel) (by decide +kernel)
set_option maxRecDepth 20000 in
theorem co_X8_isUpTo : Cond.code yX8_isUpTo cX8_isUpTo 2 (some .boolean) ∈ gk_BG := gk_bg 621 (by decide +kernel) (by decide +kernel)
abbrev wsX8_isUpTo : List Cond := Cond.code yX8_isUpTo cX8_isUpTo 2 (some .boolean) :: gk_BG
set_option maxRecDepth 20000 in
theorem st_X8_isIn : Cond.static yX8_isIn ∈ gk_BG := gk_bg 438 (by decide +kernel) (by decide +kernel)
set_option maxRecDepth 20000 in
theorem co_X8_isIn : Cond.code yX8_isIn cX8_isIn 2 (some .boolean) ∈ gk_BG := gk_bg 439 (by decide +kernel) (by decide +kernel)
abbrev wsX8_isIn : List Cond := Cond.code yX8_isIn cX8_isIn 2 (some .boolean) :: gk_BG
set_option maxRecDepth 20000 in
theorem im_X8_checkAsked : Cond.instanceMethod yX8_checkAsked ∈ gk_BG := gk_bg 911 (by decide +kernel) (by decide +kernel)
set_option maxRecDepth 20000 in
theorem se_X8_checkAsked : Cond.selects RX8 yX8_checkAsked yX8_checkAsked ∈ gk_BG := gk_bg 23 (by decide +kernel) (by decide +kernel)
set_option maxRecDepth 20000 in
theorem co_X8_checkAsked : Cond.code yX8_checkAsked cX8_checkAsked 4 none ∈ gk_BG := gk_bg 912 (by decide +kernel) (by decide +kernel)
abbrev wsX8_checkAsked : List Cond := Cond.code yX8_checkAsked cX8_checkAsked 4 none :: gk_BG
set_option maxRecDepth 20000 in
theorem st_X8_checkThere : Cond.static yX8_checkThere ∈ gk_BG := gk_bg 741 (by decide +kernel) (by decide +kernel)
set_option maxRecDepth 20000 in
theorem co_X8_checkThere : Cond.code yX8_checkThere cX8_checkThere 1 none ∈ gk_BG := gk_bg 742 (by decide +kernel) (by decide +kernel)
abbrev wsX8_checkThere : List Cond := Cond.code yX8_checkThere cX8_checkThere 1 none :: gk_BG
set_option maxRecDepth 20000 in
theorem st_X8_checkArguments : Cond.static yX8_checkArguments ∈ gk_BG := gk_bg 623 (by decide +kernel) (by decide +kernel)
set_option maxRecDepth 20000 in
theorem co_X8_checkArguments : Cond.code yX8_checkArguments cX8_checkArguments 1 none ∈ gk_BG := gk_bg 624 (by decide +kernel) (by decide +kernel)
abbrev wsX8_checkArguments : List Cond := Cond.code yX8_checkArguments cX8_checkArguments 1 none :: gk_BG
set_option maxRecDepth 20000 in
theorem st_X8_checkState : Cond.static yX8_checkState ∈ gk_BG := gk_bg 694 (by decide +kernel) (by decide +kernel)
set_option maxRecDepth 20000 in
theorem co_X8_checkState : Cond.code yX8_checkState cX8_checkState 1 none ∈ gk_BG := gk_bg 695 (by decide +kernel) (by decide +kernel)
abbrev wsX8_checkState : List Cond := Cond.code yX8_checkState cX8_checkState 1 none :: gk_BG
set_option maxRecDepth 20000 in
theorem im_X9_init : Cond.instanceMethod yX9_init ∈ gk_BG := gk_bg 1055 (by decide +kernel) (by decide +kernel)
set_option maxRecDepth 20000 in
theorem co_X9_init : Cond.code yX9_init cX9_init 2 none ∈ gk_BG := gk_bg 1056 (by decide +kernel) (by decide +kernel)
abbrev wsX9_init : List Cond := Cond.code yX9_init cX9_init 2 none :: gk_BG
set_option maxRecDepth 20000 in
theorem im_X9_thrown : Cond.instanceMethod yX9_thrown ∈ gk_BG := gk_bg 1175 (by decide +kernel) (by decide +kernel)
set_option maxRecDepth 20000 in
theorem se_X9_thrown : Cond.selects RX9 yX9_thrown yX9_thrown ∈ gk_BG := gk_bg 1176 (by decide +kernel) (by decide +kernel)
set_option maxRecDepth 20000 in
theorem co_X9_thrown : Cond.code yX9_thrown cX9_thrown 1 (some .int) ∈ gk_BG := gk_bg 1177 (by decide +kernel) (by decide +kernel)
abbrev wsX9_thrown : List Cond := Cond.code yX9_thrown cX9_thrown 1 (some .int) :: gk_BG
set_option maxRecDepth 20000 in
theorem im_X9_no : Cond.instanceMethod yX9_no ∈ gk_BG := gk_bg 1187 (by decide +kernel) (by decide +kernel)
set_option maxRecDepth 20000 in
theorem se_X9_no : Cond.selects RX9 yX9_no yX9_no ∈ gk_BG := gk_bg 26 (by decide +kernel) (by decide +kernel)
set_option maxRecDepth 20000 in
theorem co_X9_no : Cond.code yX9_no cX9_no 2 (some .int) ∈ gk_BG := gk_bg 1188 (by decide +kernel) (by decide +kernel)
abbrev wsX9_no : List Cond := Cond.code yX9_no cX9_no 2 (some .int) :: gk_BG
set_option maxRecDepth 20000 in
theorem im_X9_isNot : Cond.instanceMethod yX9_isNot ∈ gk_BG := gk_bg 1215 (by decide +kernel) (by decide +kernel)
set_option maxRecDepth 20000 in
theorem se_X9_isNot : Cond.selects RX9 yX9_isNot yX9_isNot ∈ gk_BG := gk_bg 30 (by decide +kernel) (by decide +kernel)
set_option maxRecDepth 20000 in
theorem co_X9_isNot : Cond.code yX9_isNot cX9_isNot 2 (some .boolean) ∈ gk_BG := gk_bg 1216 (by decide +kernel) (by decide +kernel)
abbrev wsX9_isNot : List Cond := Cond.code yX9_isNot cX9_isNot 2 (some .boolean) :: gk_BG
set_option maxRecDepth 20000 in
theorem im_X9_ok : Cond.instanceMethod yX9_ok ∈ gk_BG := gk_bg 1259 (by decide +kernel) (by decide +kernel)
set_option maxRecDepth 20000 in
theorem se_X9_ok : Cond.selects RX9 yX9_ok yX9_ok ∈ gk_BG := gk_bg 35 (by decide +kernel) (by decide +kernel)
set_option maxRecDepth 20000 in
theorem co_X9_ok : Cond.code yX9_ok cX9_ok 2 (some .int) ∈ gk_BG := gk_bg 1260 (by decide +kernel) (by decide +kernel)
abbrev wsX9_ok : List Cond := Cond.code yX9_ok cX9_ok 2 (some .int) :: gk_BG
set_option maxRecDepth 20000 in
theorem st_X9_isIn : Cond.static yX9_isIn ∈ gk_BG := gk_bg 1183 (by decide +kernel) (by decide +kernel)
set_option maxRecDepth 20000 in
theorem co_X9_isIn : Cond.code yX9_isIn cX9_isIn 3 (some .boolean) ∈ gk_BG := gk_bg 1184 (by decide +kernel) (by decide +kernel)
abbrev wsX9_isIn : List Cond := Cond.code yX9_isIn cX9_isIn 3 (some .boolean) :: gk_BG
set_option maxRecDepth 20000 in
theorem im_X9_isUser : Cond.instanceMethod yX9_isUser ∈ gk_BG := gk_bg 1207 (by decide +kernel) (by decide +kernel)
set_option maxRecDepth 20000 in
theorem se_X9_isUser : Cond.selects RX9 yX9_isUser yX9_isUser ∈ gk_BG := gk_bg 28 (by decide +kernel) (by decide +kernel)
set_option maxRecDepth 20000 in
theorem co_X9_isUser : Cond.code yX9_isUser cX9_isUser 2 (some .boolean) ∈ gk_BG := gk_bg 1208 (by decide +kernel) (by decide +kernel)
abbrev wsX9_isUser : List Cond := Cond.code yX9_isUser cX9_isUser 2 (some .boolean) :: gk_BG
set_option maxRecDepth 20000 in
theorem im_X9_isRole : Cond.instanceMethod yX9_isRole ∈ gk_BG := gk_bg 1211 (by decide +kernel) (by decide +kernel)
set_option maxRecDepth 20000 in
theorem se_X9_isRole : Cond.selects RX9 yX9_isRole yX9_isRole ∈ gk_BG := gk_bg 29 (by decide +kernel) (by decide +kernel)
set_option maxRecDepth 20000 in
theorem co_X9_isRole : Cond.code yX9_isRole cX9_isRole 2 (some .boolean) ∈ gk_BG := gk_bg 1212 (by decide +kernel) (by decide +kernel)
abbrev wsX9_isRole : List Cond := Cond.code yX9_isRole cX9_isRole 2 (some .boolean) :: gk_BG
set_option maxRecDepth 20000 in
theorem im_X9_isResource : Cond.instanceMethod yX9_isResource ∈ gk_BG := gk_bg 1199 (by decide +kernel) (by decide +kernel)
set_option maxRecDepth 20000 in
theorem se_X9_isResource : Cond.selects RX9 yX9_isResource yX9_isResource ∈ gk_BG := gk_bg 27 (by decide +kernel) (by decide +kernel)
set_option maxRecDepth 20000 in
theorem co_X9_isResource : Cond.code yX9_isResource cX9_isResource 2 (some .boolean) ∈ gk_BG := gk_bg 1200 (by decide +kernel) (by decide +kernel)
abbrev wsX9_isResource : List Cond := Cond.code yX9_isResource cX9_isResource 2 (some .boolean) :: gk_BG
set_option maxRecDepth 20000 in
theorem st_X9_isAction : Cond.static yX9_isAction ∈ gk_BG := gk_bg 1325 (by decide +kernel) (by decide +kernel)
set_option maxRecDepth 20000 in
theorem co_X9_isAction : Cond.code yX9_isAction cX9_isAction 1 (some .boolean) ∈ gk_BG := gk_bg 1326 (by decide +kernel) (by decide +kernel)
abbrev wsX9_isAction : List Cond := Cond.code yX9_isAction cX9_isAction 1 (some .boolean) :: gk_BG
set_option maxRecDepth 20000 in
theorem im_X9_isQuestion : Cond.instanceMethod yX9_isQuestion ∈ gk_BG := gk_bg 1322 (by decide +kernel) (by decide +kernel)
set_option maxRecDepth 20000 in
theorem se_X9_isQuestion : Cond.selects RX9 yX9_isQuestion yX9_isQuestion ∈ gk_BG := gk_bg 39 (by decide +kernel) (by decide +kernel)
set_option maxRecDepth 20000 in
theorem co_X9_isQuestion : Cond.code yX9_isQuestion cX9_isQuestion 4 (some .boolean) ∈ gk_BG := gk_bg 1323 (by decide +kernel) (by decide +kernel)
abbrev wsX9_isQuestion : List Cond := Cond.code yX9_isQuestion cX9_isQuestion 4 (some .boolean) :: gk_BG
set_option maxRecDepth 20000 in
theorem im_X9_nears : Cond.instanceMethod yX9_nears ∈ gk_BG := gk_bg 1275 (by decide +kernel) (by decide +kernel)
set_option maxRecDepth 20000 in
theorem se_X9_nears : Cond.selects RX9 yX9_nears yX9_nears ∈ gk_BG := gk_bg 36 (by decide +kernel) (by decide +kernel)
set_option maxRecDepth 20000 in
theorem co_X9_nears : Cond.code yX9_nears cX9_nears 2 (some (.array .int)) ∈ gk_BG := gk_bg 1276 (by decide +kernel) (by decide +kernel)
abbrev wsX9_nears : List Cond := Cond.code yX9_nears cX9_nears 2 (some (.array .int)) :: gk_BG
set_option maxRecDepth 20000 in
theorem im_X9_nears_ : Cond.instanceMethod yX9_nears_ ∈ gk_BG := gk_bg 1227 (by decide +kernel) (by decide +kernel)
set_option maxRecDepth 20000 in
theorem se_X9_nears_ : Cond.selects RX9 yX9_nears_ yX9_nears_ ∈ gk_BG := gk_bg 33 (by decide +kernel) (by decide +kernel)
set_option maxRecDepth 20000 in
theorem co_X9_nears_ : Cond.code yX9_nears_ cX9_nears_ 8 (some (.array .int)) ∈ gk_BG := gk_bg 1228 (by decide +kernel) (by decide +kernel)
abbrev wsX9_nears_ : List Cond := Cond.code yX9_nears_ cX9_nears_ 8 (some (.array .int)) :: gk_BG
set_option maxRecDepth 20000 in
theorem im_X9_had : Cond.instanceMethod yX9_had ∈ gk_BG := gk_bg 1223 (by decide +kernel) (by decide +kernel)
set_option maxRecDepth 20000 in
theorem se_X9_had : Cond.selects RX9 yX9_had yX9_had ∈ gk_BG := gk_bg 32 (by decide +kernel) (by decide +kernel)
set_option maxRecDepth 20000 in
theorem co_X9_had : Cond.code yX9_had cX9_had 5 (some .int) ∈ gk_BG := gk_bg 1224 (by decide +kernel) (by decide +kernel)
abbrev wsX9_had : List Cond := Cond.code yX9_had cX9_had 5 (some .int) :: gk_BG
set_option maxRecDepth 20000 in
theorem im_X9_hasApart : Cond.instanceMethod yX9_hasApart ∈ gk_BG := gk_bg 1219 (by decide +kernel) (by decide +kernel)
set_option maxRecDepth 20000 in
theorem se_X9_hasApart : Cond.selects RX9 yX9_hasApart yX9_hasApart ∈ gk_BG := gk_bg 31 (by decide +kernel) (by decide +kernel)
set_option maxRecDepth 20000 in
theorem co_X9_hasApart : Cond.code yX9_hasApart cX9_hasApart 4 (some .boolean) ∈ gk_BG := gk_bg 1220 (by decide +kernel) (by decide +kernel)
abbrev wsX9_hasApart : List Cond := Cond.code yX9_hasApart cX9_hasApart 4 (some .boolean) :: gk_BG
set_option maxRecDepth 20000 in
theorem im_X9_areAllRight : Cond.instanceMethod yX9_areAllRight ∈ gk_BG := gk_bg 1235 (by decide +kernel) (by decide +kernel)
set_option maxRecDepth 20000 in
theorem se_X9_areAllRight : Cond.selects RX9 yX9_areAllRight yX9_areAllRight ∈ gk_BG := gk_bg 34 (by decide +kernel) (by decide +kernel)
set_option maxRecDepth 20000 in
theorem co_X9_areAllRight : Cond.code yX9_areAllRight cX9_areAllRight 2 (some .boolean) ∈ gk_BG := gk_bg 1236 (by decide +kernel) (by decide +kernel)
abbrev wsX9_areAllRight : List Cond := Cond.code yX9_areAllRight cX9_areAllRight 2 (some .boolean) :: gk_BG
set_option maxRecDepth 20000 in
theorem im_X9_addUser : Cond.instanceMethod yX9_addUser ∈ gk_BG := gk_bg 1179 (by decide +kernel) (by decide +kernel)
set_option maxRecDepth 20000 in
theorem se_X9_addUser : Cond.selects RX9 yX9_addUser yX9_addUser ∈ gk_BG := gk_bg 1180 (by decide +kernel) (by decide +kernel)
set_option maxRecDepth 20000 in
theorem co_X9_addUser : Cond.code yX9_addUser cX9_addUser 3 (some .int) ∈ gk_BG := gk_bg 1181 (by decide +kernel) (by decide +kernel)
abbrev wsX9_addUser : List Cond := Cond.code yX9_addUser cX9_addUser 3 (some .int) :: gk_BG
set_option maxRecDepth 20000 in
theorem im_X9_addRole : Cond.instanceMethod yX9_addRole ∈ gk_BG := gk_bg 1190 (by decide +kernel) (by decide +kernel)
set_option maxRecDepth 20000 in
theorem se_X9_addRole : Cond.selects RX9 yX9_addRole yX9_addRole ∈ gk_BG := gk_bg 1191 (by decide +kernel) (by decide +kernel)
set_option maxRecDepth 20000 in
theorem co_X9_addRole : Cond.code yX9_addRole cX9_addRole 1 (some .int) ∈ gk_BG := gk_bg 1192 (by decide +kernel) (by decide +kernel)
abbrev wsX9_addRole : List Cond := Cond.code yX9_addRole cX9_addRole 1 (some .int) :: gk_BG
set_option maxRecDepth 20000 in
theorem im_X9_addResource : Cond.instanceMethod yX9_addResource ∈ gk_BG := gk_bg 1194 (by decide +kernel) (by decide +kernel)
set_option maxRecDepth 20000 in
theorem se_X9_addResource : Cond.selects RX9 yX9_addResource yX9_addResource ∈ gk_BG := gk_bg 1195 (by decide +kernel) (by decide +kernel)
set_option maxRecDepth 20000 in
theorem co_X9_addResource : Cond.code yX9_addResource cX9_addResource 2 (some .int) ∈ gk_BG := gk_bg 1196 (by decide +kernel) (by decide +kernel)
abbrev wsX9_addResource : List Cond := Cond.code yX9_addResource cX9_addResource 2 (some .int) :: gk_BG
set_option maxRecDepth 20000 in
theorem im_X9_setRole : Cond.instanceMethod yX9_setRole ∈ gk_BG := gk_bg 1202 (by decide +kernel) (by decide +kernel)
set_option maxRecDepth 20000 in
theorem se_X9_setRole : Cond.selects RX9 yX9_setRole yX9_setRole ∈ gk_BG := gk_bg 1203 (by decide +kernel) (by decide +kernel)
set_option maxRecDepth 20000 in
theorem co_X9_setRole : Cond.code yX9_setRole cX9_setRole 6 (some .boolean) ∈ gk_BG := gk_bg 1204 (by decide +kernel) (by decide +kernel)
abbrev wsX9_setRole : List Cond := Cond.code yX9_setRole cX9_setRole 6 (some .boolean) :: gk_BG
set_option maxRecDepth 20000 in
theorem im_X9_setHolds : Cond.instanceMethod yX9_setHolds ∈ gk_BG := gk_bg 1230 (by decide +kernel) (by decide +kernel)
set_option maxRecDepth 20000 in
theorem se_X9_setHolds : Cond.selects RX9 yX9_setHolds yX9_setHolds ∈ gk_BG := gk_bg 1231 (by decide +kernel) (by decide +kernel)
set_option maxRecDepth 20000 in
theorem co_X9_setHolds : Cond.code yX9_setHolds cX9_setHolds 6 (some .boolean) ∈ gk_BG := gk_bg 1232 (by decide +kernel) (by decide +kernel)
abbrev wsX9_setHolds : List Cond := Cond.code yX9_setHolds cX9_setHolds 6 (some .boolean) :: gk_BG
set_option maxRecDepth 20000 in
theorem im_X9_setApart : Cond.instanceMethod yX9_setApart ∈ gk_BG := gk_bg 1238 (by decide +kernel) (by decide +kernel)
set_option maxRecDepth 20000 in
theorem se_X9_setApart : Cond.selects RX9 yX9_setApart yX9_setApart ∈ gk_BG := gk_bg 1239 (by decide +kernel) (by decide +kernel)
set_option maxRecDepth 20000 in
theorem co_X9_setApart : Cond.code yX9_setApart cX9_setApart 6 (some .int) ∈ gk_BG := gk_bg 1240 (by decide +kernel) (by decide +kernel)
abbrev wsX9_setApart : List Cond := Cond.code yX9_setApart cX9_setApart 6 (some .int) :: gk_BG
set_option maxRecDepth 20000 in
theorem im_X9_setUser : Cond.instanceMethod yX9_setUser ∈ gk_BG := gk_bg 1242 (by decide +kernel) (by decide +kernel)
set_option maxRecDepth 20000 in
theorem se_X9_setUser : Cond.selects RX9 yX9_setUser yX9_setUser ∈ gk_BG := gk_bg 1243 (by decide +kernel) (by decide +kernel)
set_option maxRecDepth 20000 in
theorem co_X9_setUser : Cond.code yX9_setUser cX9_setUser 5 (some .int) ∈ gk_BG := gk_bg 1244 (by decide +kernel) (by decide +kernel)
abbrev wsX9_setUser : List Cond := Cond.code yX9_setUser cX9_setUser 5 (some .int) :: gk_BG
set_option maxRecDepth 20000 in
theorem im_X9_setLabel : Cond.instanceMethod yX9_setLabel ∈ gk_BG := gk_bg 1246 (by decide +kernel) (by decide +kernel)
set_option maxRecDepth 20000 in
theorem se_X9_setLabel : Cond.selects RX9 yX9_setLabel yX9_setLabel ∈ gk_BG := gk_bg 1247 (by decide +kernel) (by decide +kernel)
set_option maxRecDepth 20000 in
theorem co_X9_setLabel : Cond.code yX9_setLabel cX9_setLabel 4 (some .int) ∈ gk_BG := gk_bg 1248 (by decide +kernel) (by decide +kernel)
abbrev wsX9_setLabel : List Cond := Cond.code yX9_setLabel cX9_setLabel 4 (some .int) :: gk_BG
set_option maxRecDepth 20000 in
theorem im_X9_setWall : Cond.instanceMethod yX9_setWall ∈ gk_BG := gk_bg 1250 (by decide +kernel) (by decide +kernel)
set_option maxRecDepth 20000 in
theorem se_X9_setWall : Cond.selects RX9 yX9_setWall yX9_setWall ∈ gk_BG := gk_bg 1251 (by decide +kernel) (by decide +kernel)
set_option maxRecDepth 20000 in
theorem co_X9_setWall : Cond.code yX9_setWall cX9_setWall 5 (some .boolean) ∈ gk_BG := gk_bg 1252 (by decide +kernel) (by decide +kernel)
abbrev wsX9_setWall : List Cond := Cond.code yX9_setWall cX9_setWall 5 (some .boolean) :: gk_BG
set_option maxRecDepth 20000 in
theorem im_X9_users : Cond.instanceMethod yX9_users ∈ gk_BG := gk_bg 1254 (by decide +kernel) (by decide +kernel)
set_option maxRecDepth 20000 in
theorem se_X9_users : Cond.selects RX9 yX9_users yX9_users ∈ gk_BG := gk_bg 1255 (by decide +kernel) (by decide +kernel)
set_option maxRecDepth 20000 in
theorem co_X9_users : Cond.code yX9_users cX9_users 1 (some .int) ∈ gk_BG := gk_bg 1256 (by decide +kernel) (by decide +kernel)
abbrev wsX9_users : List Cond := Cond.code yX9_users cX9_users 1 (some .int) :: gk_BG
set_option maxRecDepth 20000 in
theorem im_X9_roles : Cond.instanceMethod yX9_roles ∈ gk_BG := gk_bg 1262 (by decide +kernel) (by decide +kernel)
set_option maxRecDepth 20000 in
theorem se_X9_roles : Cond.selects RX9 yX9_roles yX9_roles ∈ gk_BG := gk_bg 1263 (by decide +kernel) (by decide +kernel)
set_option maxRecDepth 20000 in
theorem co_X9_roles : Cond.code yX9_roles cX9_roles 1 (some .int) ∈ gk_BG := gk_bg 1264 (by decide +kernel) (by decide +kernel)
abbrev wsX9_roles : List Cond := Cond.code yX9_roles cX9_roles 1 (some .int) :: gk_BG
set_option maxRecDepth 20000 in
theorem im_X9_resources : Cond.instanceMethod yX9_resources ∈ gk_BG := gk_bg 1266 (by decide +kernel) (by decide +kernel)
set_option maxRecDepth 20000 in
theorem se_X9_resources : Cond.selects RX9 yX9_resources yX9_resources ∈ gk_BG := gk_bg 1267 (by decide +kernel) (by decide +kernel)
set_option maxRecDepth 20000 in
theorem co_X9_resources : Cond.code yX9_resources cX9_resources 1 (some .int) ∈ gk_BG := gk_bg 1268 (by decide +kernel) (by decide +kernel)
abbrev wsX9_resources : List Cond := Cond.code yX9_resources cX9_resources 1 (some .int) :: gk_BG
set_option maxRecDepth 20000 in
theorem st_X9_orNone : Cond.static yX9_orNone ∈ gk_BG := gk_bg 1278 (by decide +kernel) (by decide +kernel)
set_option maxRecDepth 20000 in
theorem co_X9_orNone : Cond.code yX9_orNone cX9_orNone 1 (some .int) ∈ gk_BG := gk_bg 1279 (by decide +kernel) (by decide +kernel)
abbrev wsX9_orNone : List Cond := Cond.code yX9_orNone cX9_orNone 1 (some .int) :: gk_BG
set_option maxRecDepth 20000 in
theorem im_X9_near : Cond.instanceMethod yX9_near ∈ gk_BG := gk_bg 1270 (by decide +kernel) (by decide +kernel)
set_option maxRecDepth 20000 in
theorem se_X9_near : Cond.selects RX9 yX9_near yX9_near ∈ gk_BG := gk_bg 1271 (by decide +kernel) (by decide +kernel)
set_option maxRecDepth 20000 in
theorem co_X9_near : Cond.code yX9_near cX9_near 3 (some .int) ∈ gk_BG := gk_bg 1272 (by decide +kernel) (by decide +kernel)
abbrev wsX9_near : List Cond := Cond.code yX9_near cX9_near 3 (some .int) :: gk_BG
set_option maxRecDepth 20000 in
theorem im_X9_farNow : Cond.instanceMethod yX9_farNow ∈ gk_BG := gk_bg 1286 (by decide +kernel) (by decide +kernel)
set_option maxRecDepth 20000 in
theorem se_X9_farNow : Cond.selects RX9 yX9_farNow yX9_farNow ∈ gk_BG := gk_bg 37 (by decide +kernel) (by decide +kernel)
set_option maxRecDepth 20000 in
theorem co_X9_farNow : Cond.code yX9_farNow cX9_farNow 5 (some .int) ∈ gk_BG := gk_bg 1287 (by decide +kernel) (by decide +kernel)
abbrev wsX9_farNow : List Cond := Cond.code yX9_farNow cX9_farNow 5 (some .int) :: gk_BG
set_option maxRecDepth 20000 in
theorem im_X9_far : Cond.instanceMethod yX9_far ∈ gk_BG := gk_bg 1281 (by decide +kernel) (by decide +kernel)
set_option maxRecDepth 20000 in
theorem se_X9_far : Cond.selects RX9 yX9_far yX9_far ∈ gk_BG := gk_bg 1282 (by decide +kernel) (by decide +kernel)
set_option maxRecDepth 20000 in
theorem co_X9_far : Cond.code yX9_far cX9_far 3 (some .int) ∈ gk_BG := gk_bg 1283 (by decide +kernel) (by decide +kernel)
abbrev wsX9_far : List Cond := Cond.code yX9_far cX9_far 3 (some .int) :: gk_BG
set_option maxRecDepth 20000 in
theorem im_X9_addRule : Cond.instanceMethod yX9_addRule ∈ gk_BG := gk_bg 1289 (by decide +kernel) (by decide +kernel)
set_option maxRecDepth 20000 in
theorem se_X9_addRule : Cond.selects RX9 yX9_addRule yX9_addRule ∈ gk_BG := gk_bg 1290 (by decide +kernel) (by decide +kernel)
set_option maxRecDepth 20000 in
theorem co_X9_addRule : Cond.code yX9_addRule cX9_addRule 6 (some .int) ∈ gk_BG := gk_bg 1291 (by decide +kernel) (by decide +kernel)
abbrev wsX9_addRule : List Cond := Cond.code yX9_addRule cX9_addRule 6 (some .int) :: gk_BG
set_option maxRecDepth 20000 in
theorem im_X9_isRule : Cond.instanceMethod yX9_isRule ∈ gk_BG := gk_bg 1298 (by decide +kernel) (by decide +kernel)
set_option maxRecDepth 20000 in
theorem se_X9_isRule : Cond.selects RX9 yX9_isRule yX9_isRule ∈ gk_BG := gk_bg 38 (by decide +kernel) (by decide +kernel)
set_option maxRecDepth 20000 in
theorem co_X9_isRule : Cond.code yX9_isRule cX9_isRule 2 (some .boolean) ∈ gk_BG := gk_bg 1299 (by decide +kernel) (by decide +kernel)
abbrev wsX9_isRule : List Cond := Cond.code yX9_isRule cX9_isRule 2 (some .boolean) :: gk_BG
set_option maxRecDepth 20000 in
theorem im_X9_setRule : Cond.instanceMethod yX9_setRule ∈ gk_BG := gk_bg 1293 (by decide +kernel) (by decide +kernel)
set_option maxRecDepth 20000 in
theorem se_X9_setRule : Cond.selects RX9 yX9_setRule yX9_setRule ∈ gk_BG := gk_bg 1294 (by decide +kernel) (by decide +kernel)
set_option maxRecDepth 20000 in
theorem co_X9_setRule : Cond.code yX9_setRule cX9_setRule 5 (some .int) ∈ gk_BG := gk_bg 1295 (by decide +kernel) (by decide +kernel)
abbrev wsX9_setRule : List Cond := Cond.code yX9_setRule cX9_setRule 5 (some .int) :: gk_BG
set_option maxRecDepth 20000 in
theorem im_X9_setTerms : Cond.instanceMethod yX9_setTerms ∈ gk_BG := gk_bg 1301 (by decide +kernel) (by decide +kernel)
set_option maxRecDepth 20000 in
theorem se_X9_setTerms : Cond.selects RX9 yX9_setTerms yX9_setTerms ∈ gk_BG := gk_bg 1302 (by decide +kernel) (by decide +kernel)
set_option maxRecDepth 20000 in
theorem co_X9_setTerms : Cond.code yX9_setTerms cX9_setTerms 6 (some .int) ∈ gk_BG := gk_bg 1303 (by decide +kernel) (by decide +kernel)
abbrev wsX9_setTerms : List Cond := Cond.code yX9_setTerms cX9_setTerms 6 (some .int) :: gk_BG
set_option maxRecDepth 20000 in
theorem im_X9_dropRule : Cond.instanceMethod yX9_dropRule ∈ gk_BG := gk_bg 1305 (by decide +kernel) (by decide +kernel)
set_option maxRecDepth 20000 in
theorem se_X9_dropRule : Cond.selects RX9 yX9_dropRule yX9_dropRule ∈ gk_BG := gk_bg 1306 (by decide +kernel) (by decide +kernel)
set_option maxRecDepth 20000 in
theorem co_X9_dropRule : Cond.code yX9_dropRule cX9_dropRule 3 (some .int) ∈ gk_BG := gk_bg 1307 (by decide +kernel) (by decide +kernel)
abbrev wsX9_dropRule : List Cond := Cond.code yX9_dropRule cX9_dropRule 3 (some .int) :: gk_BG
set_option maxRecDepth 20000 in
theorem im_X9_rules : Cond.instanceMethod yX9_rules ∈ gk_BG := gk_bg 1309 (by decide +kernel) (by decide +kernel)
set_option maxRecDepth 20000 in
theorem se_X9_rules : Cond.selects RX9 yX9_rules yX9_rules ∈ gk_BG := gk_bg 1310 (by decide +kernel) (by decide +kernel)
set_option maxRecDepth 20000 in
theorem co_X9_rules : Cond.code yX9_rules cX9_rules 1 (some .int) ∈ gk_BG := gk_bg 1311 (by decide +kernel) (by decide +kernel)
abbrev wsX9_rules : List Cond := Cond.code yX9_rules cX9_rules 1 (some .int) :: gk_BG
set_option maxRecDepth 20000 in
theorem im_X9_setWeighing : Cond.instanceMethod yX9_setWeighing ∈ gk_BG := gk_bg 1313 (by decide +kernel) (by decide +kernel)
set_option maxRecDepth 20000 in
theorem se_X9_setWeighing : Cond.selects RX9 yX9_setWeighing yX9_setWeighing ∈ gk_BG := gk_bg 1314 (by decide +kernel) (by decide +kernel)
set_option maxRecDepth 20000 in
theorem co_X9_setWeighing : Cond.code yX9_setWeighing cX9_setWeighing 3 (some .int) ∈ gk_BG := gk_bg 1315 (by decide +kernel) (by decide +kernel)
abbrev wsX9_setWeighing : List Cond := Cond.code yX9_setWeighing cX9_setWeighing 3 (some .int) :: gk_BG
set_option maxRecDepth 20000 in
theorem im_X9_hour : Cond.instanceMethod yX9_hour ∈ gk_BG := gk_bg 1341 (by decide +kernel) (by decide +kernel)
set_option maxRecDepth 20000 in
theorem se_X9_hour : Cond.selects RX9 yX9_hour yX9_hour ∈ gk_BG := gk_bg 43 (by decide +kernel) (by decide +kernel)
set_option maxRecDepth 20000 in
theorem co_X9_hour : Cond.code yX9_hour cX9_hour 1 (some .int) ∈ gk_BG := gk_bg 1342 (by decide +kernel) (by decide +kernel)
abbrev wsX9_hour : List Cond := Cond.code yX9_hour cX9_hour 1 (some .int) :: gk_BG
set_option maxRecDepth 20000 in
theorem im_X9_isNow : Cond.instanceMethod yX9_isNow ∈ gk_BG := gk_bg 1337 (by decide +kernel) (by decide +kernel)
set_option maxRecDepth 20000 in
theorem se_X9_isNow : Cond.selects RX9 yX9_isNow yX9_isNow ∈ gk_BG := gk_bg 42 (by decide +kernel) (by decide +kernel)
set_option maxRecDepth 20000 in
theorem co_X9_isNow : Cond.code yX9_isNow cX9_isNow 3 (some .boolean) ∈ gk_BG := gk_bg 1338 (by decide +kernel) (by decide +kernel)
abbrev wsX9_isNow : List Cond := Cond.code yX9_isNow cX9_isNow 3 (some .boolean) :: gk_BG
set_option maxRecDepth 20000 in
theorem im_X9_isFor : Cond.instanceMethod yX9_isFor ∈ gk_BG := gk_bg 1349 (by decide +kernel) (by decide +kernel)
set_option maxRecDepth 20000 in
theorem se_X9_isFor : Cond.selects RX9 yX9_isFor yX9_isFor ∈ gk_BG := gk_bg 45 (by decide +kernel) (by decide +kernel)
set_option maxRecDepth 20000 in
theorem co_X9_isFor : Cond.code yX9_isFor cX9_isFor 4 (some .boolean) ∈ gk_BG := gk_bg 1350 (by decide +kernel) (by decide +kernel)
abbrev wsX9_isFor : List Cond := Cond.code yX9_isFor cX9_isFor 4 (some .boolean) :: gk_BG
set_option maxRecDepth 20000 in
theorem im_X9_fitting : Cond.instanceMethod yX9_fitting ∈ gk_BG := gk_bg 1333 (by decide +kernel) (by decide +kernel)
set_option maxRecDepth 20000 in
theorem se_X9_fitting : Cond.selects RX9 yX9_fitting yX9_fitting ∈ gk_BG := gk_bg 41 (by decide +kernel) (by decide +kernel)
set_option maxRecDepth 20000 in
theorem co_X9_fitting : Cond.code yX9_fitting cX9_fitting 7 (some .int) ∈ gk_BG := gk_bg 1334 (by decide +kernel) (by decide +kernel)
abbrev wsX9_fitting : List Cond := Cond.code yX9_fitting cX9_fitting 7 (some .int) :: gk_BG
set_option maxRecDepth 20000 in
theorem im_X9_own : Cond.instanceMethod yX9_own ∈ gk_BG := gk_bg 1345 (by decide +kernel) (by decide +kernel)
set_option maxRecDepth 20000 in
theorem se_X9_own : Cond.selects RX9 yX9_own yX9_own ∈ gk_BG := gk_bg 44 (by decide +kernel) (by decide +kernel)
set_option maxRecDepth 20000 in
theorem co_X9_own : Cond.code yX9_own cX9_own 6 (some .int) ∈ gk_BG := gk_bg 1346 (by decide +kernel) (by decide +kernel)
abbrev wsX9_own : List Cond := Cond.code yX9_own cX9_own 6 (some .int) :: gk_BG
set_option maxRecDepth 20000 in
theorem im_X9_matching : Cond.instanceMethod yX9_matching ∈ gk_BG := gk_bg 1329 (by decide +kernel) (by decide +kernel)
set_option maxRecDepth 20000 in
theorem se_X9_matching : Cond.selects RX9 yX9_matching yX9_matching ∈ gk_BG := gk_bg 40 (by decide +kernel) (by decide +kernel)
set_option maxRecDepth 20000 in
theorem co_X9_matching : Cond.code yX9_matching cX9_matching 5 (some .int) ∈ gk_BG := gk_bg 1330 (by decide +kernel) (by decide +kernel)
abbrev wsX9_matching : List Cond := Cond.code yX9_matching cX9_matching 5 (some .int) :: gk_BG
set_option maxRecDepth 20000 in
theorem im_X9_matches : Cond.instanceMethod yX9_matches ∈ gk_BG := gk_bg 1317 (by decide +kernel) (by decide +kernel)
set_option maxRecDepth 20000 in
theorem se_X9_matches : Cond.selects RX9 yX9_matches yX9_matches ∈ gk_BG := gk_bg 1318 (by decide +kernel) (by decide +kernel)
set_option maxRecDepth 20000 in
theorem co_X9_matches : Cond.code yX9_matches cX9_matches 5 (some .boolean) ∈ gk_BG := gk_bg 1319 (by decide +kernel) (by decide +kernel)
abbrev wsX9_matches : List Cond := Cond.code yX9_matches cX9_matches 5 (some .boolean) :: gk_BG
set_option maxRecDepth 20000 in
theorem im_X9_goOn : Cond.instanceMethod yX9_goOn ∈ gk_BG := gk_bg 1352 (by decide +kernel) (by decide +kernel)
set_option maxRecDepth 20000 in
theorem se_X9_goOn : Cond.selects RX9 yX9_goOn yX9_goOn ∈ gk_BG := gk_bg 1353 (by decide +kernel) (by decide +kernel)
set_option maxRecDepth 20000 in
theorem co_X9_goOn : Cond.code yX9_goOn cX9_goOn 2 (some .int) ∈ gk_BG := gk_bg 1354 (by decide +kernel) (by decide +kernel)
abbrev wsX9_goOn : List Cond := Cond.code yX9_goOn cX9_goOn 2 (some .int) :: gk_BG
set_option maxRecDepth 20000 in
theorem im_X9_clock : Cond.instanceMethod yX9_clock ∈ gk_BG := gk_bg 1356 (by decide +kernel) (by decide +kernel)
set_option maxRecDepth 20000 in
theorem se_X9_clock : Cond.selects RX9 yX9_clock yX9_clock ∈ gk_BG := gk_bg 1357 (by decide +kernel) (by decide +kernel)
set_option maxRecDepth 20000 in
theorem co_X9_clock : Cond.code yX9_clock cX9_clock 1 (some .int) ∈ gk_BG := gk_bg 1358 (by decide +kernel) (by decide +kernel)
abbrev wsX9_clock : List Cond := Cond.code yX9_clock cX9_clock 1 (some .int) :: gk_BG
set_option maxRecDepth 20000 in
theorem im_X9_firstOf : Cond.instanceMethod yX9_firstOf ∈ gk_BG := gk_bg 1415 (by decide +kernel) (by decide +kernel)
set_option maxRecDepth 20000 in
theorem se_X9_firstOf : Cond.selects RX9 yX9_firstOf yX9_firstOf ∈ gk_BG := gk_bg 55 (by decide +kernel) (by decide +kernel)
set_option maxRecDepth 20000 in
theorem co_X9_firstOf : Cond.code yX9_firstOf cX9_firstOf 5 (some .int) ∈ gk_BG := gk_bg 1416 (by decide +kernel) (by decide +kernel)
abbrev wsX9_firstOf : List Cond := Cond.code yX9_firstOf cX9_firstOf 5 (some .int) :: gk_BG
set_option maxRecDepth 20000 in
theorem im_X9_leastOf : Cond.instanceMethod yX9_leastOf ∈ gk_BG := gk_bg 1419 (by decide +kernel) (by decide +kernel)
set_option maxRecDepth 20000 in
theorem se_X9_leastOf : Cond.selects RX9 yX9_leastOf yX9_leastOf ∈ gk_BG := gk_bg 56 (by decide +kernel) (by decide +kernel)
set_option maxRecDepth 20000 in
theorem co_X9_leastOf : Cond.code yX9_leastOf cX9_leastOf 5 (some .int) ∈ gk_BG := gk_bg 1420 (by decide +kernel) (by decide +kernel)
abbrev wsX9_leastOf : List Cond := Cond.code yX9_leastOf cX9_leastOf 5 (some .int) :: gk_BG
set_option maxRecDepth 20000 in
theorem im_X9_weigh : Cond.instanceMethod yX9_weigh ∈ gk_BG := gk_bg 1411 (by decide +kernel) (by decide +kernel)
set_option maxRecDepth 20000 in
theorem se_X9_weigh : Cond.selects RX9 yX9_weigh yX9_weigh ∈ gk_BG := gk_bg 54 (by decide +kernel) (by decide +kernel)
set_option maxRecDepth 20000 in
theorem co_X9_weigh : Cond.code yX9_weigh cX9_weigh 7 (some .int) ∈ gk_BG := gk_bg 1412 (by decide +kernel) (by decide +kernel)
abbrev wsX9_weigh : List Cond := Cond.code yX9_weigh cX9_weigh 7 (some .int) :: gk_BG
set_option maxRecDepth 20000 in
theorem im_X9_deciding : Cond.instanceMethod yX9_deciding ∈ gk_BG := gk_bg 1407 (by decide +kernel) (by decide +kernel)
set_option maxRecDepth 20000 in
theorem se_X9_deciding : Cond.selects RX9 yX9_deciding yX9_deciding ∈ gk_BG := gk_bg 53 (by decide +kernel) (by decide +kernel)
set_option maxRecDepth 20000 in
theorem co_X9_deciding : Cond.code yX9_deciding cX9_deciding 6 (some .int) ∈ gk_BG := gk_bg 1408 (by decide +kernel) (by decide +kernel)
abbrev wsX9_deciding : List Cond := Cond.code yX9_deciding cX9_deciding 6 (some .int) :: gk_BG
set_option maxRecDepth 20000 in
theorem im_X9_isWalled : Cond.instanceMethod yX9_isWalled ∈ gk_BG := gk_bg 1403 (by decide +kernel) (by decide +kernel)
set_option maxRecDepth 20000 in
theorem se_X9_isWalled : Cond.selects RX9 yX9_isWalled yX9_isWalled ∈ gk_BG := gk_bg 52 (by decide +kernel) (by decide +kernel)
set_option maxRecDepth 20000 in
theorem co_X9_isWalled : Cond.code yX9_isWalled cX9_isWalled 4 (some .boolean) ∈ gk_BG := gk_bg 1404 (by decide +kernel) (by decide +kernel)
abbrev wsX9_isWalled : List Cond := Cond.code yX9_isWalled cX9_isWalled 4 (some .boolean) :: gk_BG
set_option maxRecDepth 20000 in
theorem im_X9_barred : Cond.instanceMethod yX9_barred ∈ gk_BG := gk_bg 1399 (by decide +kernel) (by decide +kernel)
set_option maxRecDepth 20000 in
theorem se_X9_barred : Cond.selects RX9 yX9_barred yX9_barred ∈ gk_BG := gk_bg 51 (by decide +kernel) (by decide +kernel)
set_option maxRecDepth 20000 in
theorem co_X9_barred : Cond.code yX9_barred cX9_barred 4 (some .int) ∈ gk_BG := gk_bg 1400 (by decide +kernel) (by decide +kernel)
abbrev wsX9_barred : List Cond := Cond.code yX9_barred cX9_barred 4 (some .int) :: gk_BG
set_option maxRecDepth 20000 in
theorem im_X9_byRules : Cond.instanceMethod yX9_byRules ∈ gk_BG := gk_bg 1395 (by decide +kernel) (by decide +kernel)
set_option maxRecDepth 20000 in
theorem se_X9_byRules : Cond.selects RX9 yX9_byRules yX9_byRules ∈ gk_BG := gk_bg 50 (by decide +kernel) (by decide +kernel)
set_option maxRecDepth 20000 in
theorem co_X9_byRules : Cond.code yX9_byRules cX9_byRules 8 (some .int) ∈ gk_BG := gk_bg 1396 (by decide +kernel) (by decide +kernel)
abbrev wsX9_byRules : List Cond := Cond.code yX9_byRules cX9_byRules 8 (some .int) :: gk_BG
set_option maxRecDepth 20000 in
theorem im_X9_allNears : Cond.instanceMethod yX9_allNears ∈ gk_BG := gk_bg 1381 (by decide +kernel) (by decide +kernel)
set_option maxRecDepth 20000 in
theorem se_X9_allNears : Cond.selects RX9 yX9_allNears yX9_allNears ∈ gk_BG := gk_bg 47 (by decide +kernel) (by decide +kernel)
set_option maxRecDepth 20000 in
theorem co_X9_allNears : Cond.code yX9_allNears cX9_allNears 3 (some (.array (.array .int))) ∈ gk_BG := gk_bg 1382 (by decide +kernel) (by decide +kernel)
abbrev wsX9_allNears : List Cond := Cond.code yX9_allNears cX9_allNears 3 (some (.array (.array .int))) :: gk_BG
set_option maxRecDepth 20000 in
theorem im_X9_isByRules : Cond.instanceMethod yX9_isByRules ∈ gk_BG := gk_bg 1391 (by decide +kernel) (by decide +kernel)
set_option maxRecDepth 20000 in
theorem se_X9_isByRules : Cond.selects RX9 yX9_isByRules yX9_isByRules ∈ gk_BG := gk_bg 49 (by decide +kernel) (by decide +kernel)
set_option maxRecDepth 20000 in
theorem co_X9_isByRules : Cond.code yX9_isByRules cX9_isByRules 4 (some .boolean) ∈ gk_BG := gk_bg 1392 (by decide +kernel) (by decide +kernel)
abbrev wsX9_isByRules : List Cond := Cond.code yX9_isByRules cX9_isByRules 4 (some .boolean) :: gk_BG
set_option maxRecDepth 20000 in
theorem im_X9_leaning : Cond.instanceMethod yX9_leaning ∈ gk_BG := gk_bg 1426 (by decide +kernel) (by decide +kernel)
set_option maxRecDepth 20000 in
theorem se_X9_leaning : Cond.selects RX9 yX9_leaning yX9_leaning ∈ gk_BG := gk_bg 57 (by decide +kernel) (by decide +kernel)
set_option maxRecDepth 20000 in
theorem co_X9_leaning : Cond.code yX9_leaning cX9_leaning 6 (some .int) ∈ gk_BG := gk_bg 1427 (by decide +kernel) (by decide +kernel)
abbrev wsX9_leaning : List Cond := Cond.code yX9_leaning cX9_leaning 6 (some .int) :: gk_BG
set_option maxRecDepth 20000 in
theorem im_X9_good : Cond.instanceMethod yX9_good ∈ gk_BG := gk_bg 1387 (by decide +kernel) (by decide +kernel)
set_option maxRecDepth 20000 in
theorem se_X9_good : Cond.selects RX9 yX9_good yX9_good ∈ gk_BG := gk_bg 48 (by decide +kernel) (by decide +kernel)
set_option maxRecDepth 20000 in
theorem co_X9_good : Cond.code yX9_good cX9_good 5 (some .int) ∈ gk_BG := gk_bg 1388 (by decide +kernel) (by decide +kernel)
abbrev wsX9_good : List Cond := Cond.code yX9_good cX9_good 5 (some .int) :: gk_BG
set_option maxRecDepth 20000 in
theorem im_X9_granting : Cond.instanceMethod yX9_granting ∈ gk_BG := gk_bg 1442 (by decide +kernel) (by decide +kernel)
set_option maxRecDepth 20000 in
theorem se_X9_granting : Cond.selects RX9 yX9_granting yX9_granting ∈ gk_BG := gk_bg 60 (by decide +kernel) (by decide +kernel)
set_option maxRecDepth 20000 in
theorem co_X9_granting : Cond.code yX9_granting cX9_granting 6 (some .int) ∈ gk_BG := gk_bg 1443 (by decide +kernel) (by decide +kernel)
abbrev wsX9_granting : List Cond := Cond.code yX9_granting cX9_granting 6 (some .int) :: gk_BG
set_option maxRecDepth 20000 in
theorem im_X9_decided : Cond.instanceMethod yX9_decided ∈ gk_BG := gk_bg 1438 (by decide +kernel) (by decide +kernel)
set_option maxRecDepth 20000 in
theorem se_X9_decided : Cond.selects RX9 yX9_decided yX9_decided ∈ gk_BG := gk_bg 59 (by decide +kernel) (by decide +kernel)
set_option maxRecDepth 20000 in
theorem co_X9_decided : Cond.code yX9_decided cX9_decided 8 (some .int) ∈ gk_BG := gk_bg 1439 (by decide +kernel) (by decide +kernel)
abbrev wsX9_decided : List Cond := Cond.code yX9_decided cX9_decided 8 (some .int) :: gk_BG
set_option maxRecDepth 20000 in
theorem im_X9_decideNow : Cond.instanceMethod yX9_decideNow ∈ gk_BG := gk_bg 1434 (by decide +kernel) (by decide +kernel)
set_option maxRecDepth 20000 in
theorem se_X9_decideNow : Cond.selects RX9 yX9_decideNow yX9_decideNow ∈ gk_BG := gk_bg 58 (by decide +kernel) (by decide +kernel)
set_option maxRecDepth 20000 in
theorem co_X9_decideNow : Cond.code yX9_decideNow cX9_decideNow 5 (some .int) ∈ gk_BG := gk_bg 1435 (by decide +kernel) (by decide +kernel)
abbrev wsX9_decideNow : List Cond := Cond.code yX9_decideNow cX9_decideNow 5 (some .int) :: gk_BG
set_option maxRecDepth 20000 in
theorem st_X9_isAllowed : Cond.static yX9_isAllowed ∈ gk_BG := gk_bg 1457 (by decide +kernel) (by decide +kernel)
set_option maxRecDepth 20000 in
theorem co_X9_isAllowed : Cond.code yX9_isAllowed cX9_isAllowed 1 (some .boolean) ∈ gk_BG := gk_bg 1458 (by decide +kernel) (by decide +kernel)
abbrev wsX9_isAllowed : List Cond := Cond.code yX9_isAllowed cX9_isAllowed 1 (some .boolean) :: gk_BG
set_option maxRecDepth 20000 in
theorem im_X9_table : Cond.instanceMethod yX9_table ∈ gk_BG := gk_bg 1504 (by decide +kernel) (by decide +kernel)
set_option maxRecDepth 20000 in
theorem se_X9_table : Cond.selects RX9 yX9_table yX9_table ∈ gk_BG := gk_bg 65 (by decide +kernel) (by decide +kernel)
set_option maxRecDepth 20000 in
theorem co_X9_table : Cond.code yX9_table cX9_table 9 (some (.array .int)) ∈ gk_BG := gk_bg 1505 (by decide +kernel) (by decide +kernel)
abbrev wsX9_table : List Cond := Cond.code yX9_table cX9_table 9 (some (.array .int)) :: gk_BG
set_option maxRecDepth 20000 in
theorem st_X9_differences : Cond.static yX9_differences ∈ gk_BG := gk_bg 1507 (by decide +kernel) (by decide +kernel)
set_option maxRecDepth 20000 in
theorem co_X9_differences : Cond.code yX9_differences cX9_differences 4 (some .int) ∈ gk_BG := gk_bg 1508 (by decide +kernel) (by decide +kernel)
abbrev wsX9_differences : List Cond := Cond.code yX9_differences cX9_differences 4 (some .int) :: gk_BG
set_option maxRecDepth 20000 in
theorem im_X9_grant : Cond.instanceMethod yX9_grant ∈ gk_BG := gk_bg 1360 (by decide +kernel) (by decide +kernel)
set_option maxRecDepth 20000 in
theorem se_X9_grant : Cond.selects RX9 yX9_grant yX9_grant ∈ gk_BG := gk_bg 1361 (by decide +kernel) (by decide +kernel)
set_option maxRecDepth 20000 in
theorem co_X9_grant : Cond.code yX9_grant cX9_grant 7 (some .int) ∈ gk_BG := gk_bg 1362 (by decide +kernel) (by decide +kernel)
abbrev wsX9_grant : List Cond := Cond.code yX9_grant cX9_grant 7 (some .int) :: gk_BG
set_option maxRecDepth 20000 in
theorem im_X9_isGrant : Cond.instanceMethod yX9_isGrant ∈ gk_BG := gk_bg 1369 (by decide +kernel) (by decide +kernel)
set_option maxRecDepth 20000 in
theorem se_X9_isGrant : Cond.selects RX9 yX9_isGrant yX9_isGrant ∈ gk_BG := gk_bg 46 (by decide +kernel) (by decide +kernel)
set_option maxRecDepth 20000 in
theorem co_X9_isGrant : Cond.code yX9_isGrant cX9_isGrant 2 (some .boolean) ∈ gk_BG := gk_bg 1370 (by decide +kernel) (by decide +kernel)
abbrev wsX9_isGrant : List Cond := Cond.code yX9_isGrant cX9_isGrant 2 (some .boolean) :: gk_BG
set_option maxRecDepth 20000 in
theorem im_X9_revoke : Cond.instanceMethod yX9_revoke ∈ gk_BG := gk_bg 1364 (by decide +kernel) (by decide +kernel)
set_option maxRecDepth 20000 in
theorem se_X9_revoke : Cond.selects RX9 yX9_revoke yX9_revoke ∈ gk_BG := gk_bg 1365 (by decide +kernel) (by decide +kernel)
set_option maxRecDepth 20000 in
theorem co_X9_revoke : Cond.code yX9_revoke cX9_revoke 3 (some .boolean) ∈ gk_BG := gk_bg 1366 (by decide +kernel) (by decide +kernel)
abbrev wsX9_revoke : List Cond := Cond.code yX9_revoke cX9_revoke 3 (some .boolean) :: gk_BG
set_option maxRecDepth 20000 in
theorem im_X9_grants : Cond.instanceMethod yX9_grants ∈ gk_BG := gk_bg 1372 (by decide +kernel) (by decide +kernel)
set_option maxRecDepth 20000 in
theorem se_X9_grants : Cond.selects RX9 yX9_grants yX9_grants ∈ gk_BG := gk_bg 1373 (by decide +kernel) (by decide +kernel)
set_option maxRecDepth 20000 in
theorem co_X9_grants : Cond.code yX9_grants cX9_grants 1 (some .int) ∈ gk_BG := gk_bg 1374 (by decide +kernel) (by decide +kernel)
abbrev wsX9_grants : List Cond := Cond.code yX9_grants cX9_grants 1 (some .int) :: gk_BG
set_option maxRecDepth 20000 in
theorem im_X9_isGood : Cond.instanceMethod yX9_isGood ∈ gk_BG := gk_bg 1376 (by decide +kernel) (by decide +kernel)
set_option maxRecDepth 20000 in
theorem se_X9_isGood : Cond.selects RX9 yX9_isGood yX9_isGood ∈ gk_BG := gk_bg 1377 (by decide +kernel) (by decide +kernel)
set_option maxRecDepth 20000 in
theorem co_X9_isGood : Cond.code yX9_isGood cX9_isGood 2 (some .boolean) ∈ gk_BG := gk_bg 1378 (by decide +kernel) (by decide +kernel)
abbrev wsX9_isGood : List Cond := Cond.code yX9_isGood cX9_isGood 2 (some .boolean) :: gk_BG
set_option maxRecDepth 20000 in
theorem im_X9_decide : Cond.instanceMethod yX9_decide ∈ gk_BG := gk_bg 1429 (by decide +kernel) (by decide +kernel)
set_option maxRecDepth 20000 in
theorem se_X9_decide : Cond.selects RX9 yX9_decide yX9_decide ∈ gk_BG := gk_bg 1430 (by decide +kernel) (by decide +kernel)
set_option maxRecDepth 20000 in
theorem co_X9_decide : Cond.code yX9_decide cX9_decide 4 (some .int) ∈ gk_BG := gk_bg 1431 (by decide +kernel) (by decide +kernel)
abbrev wsX9_decide : List Cond := Cond.code yX9_decide cX9_decide 4 (some .int) :: gk_BG
set_option maxRecDepth 20000 in
theorem im_X9_whyNow : Cond.instanceMethod yX9_whyNow ∈ gk_BG := gk_bg 1450 (by decide +kernel) (by decide +kernel)
set_option maxRecDepth 20000 in
theorem se_X9_whyNow : Cond.selects RX9 yX9_whyNow yX9_whyNow ∈ gk_BG := gk_bg 61 (by decide +kernel) (by decide +kernel)
set_option maxRecDepth 20000 in
theorem co_X9_whyNow : Cond.code yX9_whyNow cX9_whyNow 7 (some .int) ∈ gk_BG := gk_bg 1451 (by decide +kernel) (by decide +kernel)
abbrev wsX9_whyNow : List Cond := Cond.code yX9_whyNow cX9_whyNow 7 (some .int) :: gk_BG
set_option maxRecDepth 20000 in
theorem im_X9_why : Cond.instanceMethod yX9_why ∈ gk_BG := gk_bg 1445 (by decide +kernel) (by decide +kernel)
set_option maxRecDepth 20000 in
theorem se_X9_why : Cond.selects RX9 yX9_why yX9_why ∈ gk_BG := gk_bg 1446 (by decide +kernel) (by decide +kernel)
set_option maxRecDepth 20000 in
theorem co_X9_why : Cond.code yX9_why cX9_why 5 (some .int) ∈ gk_BG := gk_bg 1447 (by decide +kernel) (by decide +kernel)
abbrev wsX9_why : List Cond := Cond.code yX9_why cX9_why 5 (some .int) :: gk_BG
set_option maxRecDepth 20000 in
theorem im_X9_access : Cond.instanceMethod yX9_access ∈ gk_BG := gk_bg 1453 (by decide +kernel) (by decide +kernel)
set_option maxRecDepth 20000 in
theorem se_X9_access : Cond.selects RX9 yX9_access yX9_access ∈ gk_BG := gk_bg 1454 (by decide +kernel) (by decide +kernel)
set_option maxRecDepth 20000 in
theorem co_X9_access : Cond.code yX9_access cX9_access 5 (some .int) ∈ gk_BG := gk_bg 1455 (by decide +kernel) (by decide +kernel)
abbrev wsX9_access : List Cond := Cond.code yX9_access cX9_access 5 (some .int) :: gk_BG
set_option maxRecDepth 20000 in
theorem im_X9_counted : Cond.instanceMethod yX9_counted ∈ gk_BG := gk_bg 1460 (by decide +kernel) (by decide +kernel)
set_option maxRecDepth 20000 in
theorem se_X9_counted : Cond.selects RX9 yX9_counted yX9_counted ∈ gk_BG := gk_bg 1461 (by decide +kernel) (by decide +kernel)
set_option maxRecDepth 20000 in
theorem co_X9_counted : Cond.code yX9_counted cX9_counted 2 (some .int) ∈ gk_BG := gk_bg 1462 (by decide +kernel) (by decide +kernel)
abbrev wsX9_counted : List Cond := Cond.code yX9_counted cX9_counted 2 (some .int) :: gk_BG
set_option maxRecDepth 20000 in
theorem im_X9_done : Cond.instanceMethod yX9_done ∈ gk_BG := gk_bg 1464 (by decide +kernel) (by decide +kernel)
set_option maxRecDepth 20000 in
theorem se_X9_done : Cond.selects RX9 yX9_done yX9_done ∈ gk_BG := gk_bg 1465 (by decide +kernel) (by decide +kernel)
set_option maxRecDepth 20000 in
theorem co_X9_done : Cond.code yX9_done cX9_done 3 (some .int) ∈ gk_BG := gk_bg 1466 (by decide +kernel) (by decide +kernel)
abbrev wsX9_done : List Cond := Cond.code yX9_done cX9_done 3 (some .int) :: gk_BG
set_option maxRecDepth 20000 in
theorem im_X9_who : Cond.instanceMethod yX9_who ∈ gk_BG := gk_bg 1468 (by decide +kernel) (by decide +kernel)
set_option maxRecDepth 20000 in
theorem se_X9_who : Cond.selects RX9 yX9_who yX9_who ∈ gk_BG := gk_bg 1469 (by decide +kernel) (by decide +kernel)
set_option maxRecDepth 20000 in
theorem co_X9_who : Cond.code yX9_who cX9_who 7 (some .int) ∈ gk_BG := gk_bg 1470 (by decide +kernel) (by decide +kernel)
abbrev wsX9_who : List Cond := Cond.code yX9_who cX9_who 7 (some .int) :: gk_BG
set_option maxRecDepth 20000 in
theorem im_X9_reach : Cond.instanceMethod yX9_reach ∈ gk_BG := gk_bg 1472 (by decide +kernel) (by decide +kernel)
set_option maxRecDepth 20000 in
theorem se_X9_reach : Cond.selects RX9 yX9_reach yX9_reach ∈ gk_BG := gk_bg 1473 (by decide +kernel) (by decide +kernel)
set_option maxRecDepth 20000 in
theorem co_X9_reach : Cond.code yX9_reach cX9_reach 7 (some .int) ∈ gk_BG := gk_bg 1474 (by decide +kernel) (by decide +kernel)
abbrev wsX9_reach : List Cond := Cond.code yX9_reach cX9_reach 7 (some .int) :: gk_BG
set_option maxRecDepth 20000 in
theorem st_X9_many : Cond.static yX9_many ∈ gk_BG := gk_bg 1480 (by decide +kernel) (by decide +kernel)
set_option maxRecDepth 20000 in
theorem co_X9_many : Cond.code yX9_many cX9_many 3 (some .int) ∈ gk_BG := gk_bg 1481 (by decide +kernel) (by decide +kernel)
abbrev wsX9_many : List Cond := Cond.code yX9_many cX9_many 3 (some .int) :: gk_BG
set_option maxRecDepth 20000 in
theorem im_X9_rolesNeeded : Cond.instanceMethod yX9_rolesNeeded ∈ gk_BG := gk_bg 1476 (by decide +kernel) (by decide +kernel)
set_option maxRecDepth 20000 in
theorem se_X9_rolesNeeded : Cond.selects RX9 yX9_rolesNeeded yX9_rolesNeeded ∈ gk_BG := gk_bg 1477 (by decide +kernel) (by decide +kernel)
set_option maxRecDepth 20000 in
theorem co_X9_rolesNeeded : Cond.code yX9_rolesNeeded cX9_rolesNeeded 13 (some .int) ∈ gk_BG := gk_bg 1478 (by decide +kernel) (by decide +kernel)
abbrev wsX9_rolesNeeded : List Cond := Cond.code yX9_rolesNeeded cX9_rolesNeeded 13 (some .int) :: gk_BG
set_option maxRecDepth 20000 in
theorem im_X9_isGranted : Cond.instanceMethod yX9_isGranted ∈ gk_BG := gk_bg 1484 (by decide +kernel) (by decide +kernel)
set_option maxRecDepth 20000 in
theorem se_X9_isGranted : Cond.selects RX9 yX9_isGranted yX9_isGranted ∈ gk_BG := gk_bg 62 (by decide +kernel) (by decide +kernel)
set_option maxRecDepth 20000 in
theorem co_X9_isGranted : Cond.code yX9_isGranted cX9_isGranted 10 (some .boolean) ∈ gk_BG := gk_bg 1485 (by decide +kernel) (by decide +kernel)
abbrev wsX9_isGranted : List Cond := Cond.code yX9_isGranted cX9_isGranted 10 (some .boolean) :: gk_BG
set_option maxRecDepth 20000 in
theorem im_X9_isAllowing : Cond.instanceMethod yX9_isAllowing ∈ gk_BG := gk_bg 1488 (by decide +kernel) (by decide +kernel)
set_option maxRecDepth 20000 in
theorem se_X9_isAllowing : Cond.selects RX9 yX9_isAllowing yX9_isAllowing ∈ gk_BG := gk_bg 63 (by decide +kernel) (by decide +kernel)
set_option maxRecDepth 20000 in
theorem co_X9_isAllowing : Cond.code yX9_isAllowing cX9_isAllowing 6 (some .boolean) ∈ gk_BG := gk_bg 1489 (by decide +kernel) (by decide +kernel)
abbrev wsX9_isAllowing : List Cond := Cond.code yX9_isAllowing cX9_isAllowing 6 (some .boolean) :: gk_BG
set_option maxRecDepth 20000 in
theorem im_X9_contradictionsNow : Cond.instanceMethod yX9_contradictionsNow ∈ gk_BG := gk_bg 1496 (by decide +kernel) (by decide +kernel)
set_option maxRecDepth 20000 in
theorem se_X9_contradictionsNow : Cond.selects RX9 yX9_contradictionsNow yX9_contradictionsNow ∈ gk_BG := gk_bg 64 (by decide +kernel) (by decide +kernel)
set_option maxRecDepth 20000 in
theorem co_X9_contradictionsNow : Cond.code yX9_contradictionsNow cX9_contradictionsNow 8 (some .int) ∈ gk_BG := gk_bg 1497 (by decide +kernel) (by decide +kernel)
abbrev wsX9_contradictionsNow : List Cond := Cond.code yX9_contradictionsNow cX9_contradictionsNow 8 (some .int) :: gk_BG
set_option maxRecDepth 20000 in
theorem im_X9_contradictions : Cond.instanceMethod yX9_contradictions ∈ gk_BG := gk_bg 1491 (by decide +kernel) (by decide +kernel)
set_option maxRecDepth 20000 in
theorem se_X9_contradictions : Cond.selects RX9 yX9_contradictions yX9_contradictions ∈ gk_BG := gk_bg 1492 (by decide +kernel) (by decide +kernel)
set_option maxRecDepth 20000 in
theorem co_X9_contradictions : Cond.code yX9_contradictions cX9_contradictions 1 (some .int) ∈ gk_BG := gk_bg 1493 (by decide +kernel) (by decide +kernel)
abbrev wsX9_contradictions : List Cond := Cond.code yX9_contradictions cX9_contradictions 1 (some .int) :: gk_BG
set_option maxRecDepth 20000 in
theorem im_X9_isIdle : Cond.instanceMethod yX9_isIdle ∈ gk_BG := gk_bg 1499 (by decide +kernel) (by decide +kernel)
set_option maxRecDepth 20000 in
theorem se_X9_isIdle : Cond.selects RX9 yX9_isIdle yX9_isIdle ∈ gk_BG := gk_bg 1500 (by decide +kernel) (by decide +kernel)
set_option maxRecDepth 20000 in
theorem co_X9_isIdle : Cond.code yX9_isIdle cX9_isIdle 5 (some .boolean) ∈ gk_BG := gk_bg 1501 (by decide +kernel) (by decide +kernel)
abbrev wsX9_isIdle : List Cond := Cond.code yX9_isIdle cX9_isIdle 5 (some .boolean) :: gk_BG
set_option maxRecDepth 20000 in
theorem im_X9_wouldDiffer : Cond.instanceMethod yX9_wouldDiffer ∈ gk_BG := gk_bg 1510 (by decide +kernel) (by decide +kernel)
set_option maxRecDepth 20000 in
theorem se_X9_wouldDiffer : Cond.selects RX9 yX9_wouldDiffer yX9_wouldDiffer ∈ gk_BG := gk_bg 1511 (by decide +kernel) (by decide +kernel)
set_option maxRecDepth 20000 in
theorem co_X9_wouldDiffer : Cond.code yX9_wouldDiffer cX9_wouldDiffer 3 (some .int) ∈ gk_BG := gk_bg 1512 (by decide +kernel) (by decide +kernel)
abbrev wsX9_wouldDiffer : List Cond := Cond.code yX9_wouldDiffer cX9_wouldDiffer 3 (some .int) :: gk_BG
set_option maxRecDepth 20000 in
theorem im_X9_wouldGain : Cond.instanceMethod yX9_wouldGain ∈ gk_BG := gk_bg 1514 (by decide +kernel) (by decide +kernel)
set_option maxRecDepth 20000 in
theorem se_X9_wouldGain : Cond.selects RX9 yX9_wouldGain yX9_wouldGain ∈ gk_BG := gk_bg 1515 (by decide +kernel) (by decide +kernel)
set_option maxRecDepth 20000 in
theorem co_X9_wouldGain : Cond.code yX9_wouldGain cX9_wouldGain 8 (some .int) ∈ gk_BG := gk_bg 1516 (by decide +kernel) (by decide +kernel)
abbrev wsX9_wouldGain : List Cond := Cond.code yX9_wouldGain cX9_wouldGain 8 (some .int) :: gk_BG
set_option maxRecDepth 20000 in
theorem im_X9_openness : Cond.instanceMethod yX9_openness ∈ gk_BG := gk_bg 1518 (by decide +kernel) (by decide +kernel)
set_option maxRecDepth 20000 in
theorem se_X9_openness : Cond.selects RX9 yX9_openness yX9_openness ∈ gk_BG := gk_bg 1519 (by decide +kernel) (by decide +kernel)
set_option maxRecDepth 20000 in
theorem co_X9_openness : Cond.code yX9_openness cX9_openness 7 (some .double) ∈ gk_BG := gk_bg 1520 (by decide +kernel) (by decide +kernel)
abbrev wsX9_openness : List Cond := Cond.code yX9_openness cX9_openness 7 (some .double) :: gk_BG
set_option maxRecDepth 20000 in
theorem im_X9_digest : Cond.instanceMethod yX9_digest ∈ gk_BG := gk_bg 1522 (by decide +kernel) (by decide +kernel)
set_option maxRecDepth 20000 in
theorem se_X9_digest : Cond.selects RX9 yX9_digest yX9_digest ∈ gk_BG := gk_bg 1523 (by decide +kernel) (by decide +kernel)
set_option maxRecDepth 20000 in
theorem co_X9_digest : Cond.code yX9_digest cX9_digest 10 (some .long) ∈ gk_BG := gk_bg 1524 (by decide +kernel) (by decide +kernel)
abbrev wsX9_digest : List Cond := Cond.code yX9_digest cX9_digest 10 (some .long) :: gk_BG
set_option maxRecDepth 20000 in
theorem st_J6_bitCount_0f7a4 : Cond.static yJ6_bitCount_0f7a4 ∈ gk_BG := gk_bg 545 (by decide +kernel) (by decide +kernel)
set_option maxRecDepth 20000 in
theorem co_J6_bitCount_0f7a4 : Cond.code yJ6_bitCount_0f7a4 cJ6_bitCount_0f7a4 1 (some .int) ∈ gk_BG := gk_bg 546 (by decide +kernel) (by decide +kernel)
abbrev wsJ6_bitCount_0f7a4 : List Cond := Cond.code yJ6_bitCount_0f7a4 cJ6_bitCount_0f7a4 1 (some .int) :: gk_BG
set_option maxRecDepth 20000 in
theorem st_J9_max_7cf53 : Cond.static yJ9_max_7cf53 ∈ gk_BG := gk_bg 113 (by decide +kernel) (by decide +kernel)
set_option maxRecDepth 20000 in
theorem co_J9_max_7cf53 : Cond.code yJ9_max_7cf53 cJ9_max_7cf53 2 (some .int) ∈ gk_BG := gk_bg 114 (by decide +kernel) (by decide +kernel)
abbrev wsJ9_max_7cf53 : List Cond := Cond.code yJ9_max_7cf53 cJ9_max_7cf53 2 (some .int) :: gk_BG
set_option maxRecDepth 20000 in
theorem st_J9_min_7cf53 : Cond.static yJ9_min_7cf53 ∈ gk_BG := gk_bg 1422 (by decide +kernel) (by decide +kernel)
set_option maxRecDepth 20000 in
theorem co_J9_min_7cf53 : Cond.code yJ9_min_7cf53 cJ9_min_7cf53 2 (some .int) ∈ gk_BG := gk_bg 1423 (by decide +kernel) (by decide +kernel)
abbrev wsJ9_min_7cf53 : List Cond := Cond.code yJ9_min_7cf53 cJ9_min_7cf53 2 (some .int) :: gk_BG
set_option maxRecDepth 20000 in
theorem st_J7_fill_53178 : Cond.static yJ7_fill_53178 ∈ gk_BG := gk_bg 116 (by decide +kernel) (by decide +kernel)
set_option maxRecDepth 20000 in
theorem co_J7_fill_53178 : Cond.code yJ7_fill_53178 cJ7_fill_53178 4 none ∈ gk_BG := gk_bg 117 (by decide +kernel) (by decide +kernel)
abbrev wsJ7_fill_53178 : List Cond := Cond.code yJ7_fill_53178 cJ7_fill_53178 4 none :: gk_BG
set_option maxRecDepth 20000 in
theorem st_L_addUser : Cond.static yL_addUser ∈ gk_BG := gk_bg 611 (by decide +kernel) (by decide +kernel)
set_option maxRecDepth 20000 in
theorem co_L_addUser : Cond.codeWith yL_addUser cL_addUser 5 (some .int) [(0, 10, 13, 13), (0, 10, 17, 15)] ∈ gk_BG := gk_bg 612 (by decide +kernel) (by decide +kernel)
abbrev wsL_addUser : List Cond := Cond.codeWith yL_addUser cL_addUser 5 (some .int) [(0, 10, 13, 13), (0, 10, 17, 15)] :: gk_BG
set_option maxRecDepth 20000 in
theorem st_L_addRole : Cond.static yL_addRole ∈ gk_BG := gk_bg 718 (by decide +kernel) (by decide +kernel)
set_option maxRecDepth 20000 in
theorem co_L_addRole : Cond.codeWith yL_addRole cL_addRole 3 (some .int) [(0, 8, 11, 15)] ∈ gk_BG := gk_bg 719 (by decide +kernel) (by decide +kernel)
abbrev wsL_addRole : List Cond := Cond.codeWith yL_addRole cL_addRole 3 (some .int) [(0, 8, 11, 15)] :: gk_BG
set_option maxRecDepth 20000 in
theorem st_L_addResource : Cond.static yL_addResource ∈ gk_BG := gk_bg 729 (by decide +kernel) (by decide +kernel)
set_option maxRecDepth 20000 in
theorem co_L_addResource : Cond.codeWith yL_addResource cL_addResource 4 (some .int) [(0, 9, 12, 25), (0, 9, 15, 15)] ∈ gk_BG := gk_bg 730 (by decide +kernel) (by decide +kernel)
abbrev wsL_addResource : List Cond := Cond.codeWith yL_addResource cL_addResource 4 (some .int) [(0, 9, 12, 25), (0, 9, 15, 15)] :: gk_BG
set_option maxRecDepth 20000 in
theorem st_L_setRole : Cond.static yL_setRole ∈ gk_BG := gk_bg 765 (by decide +kernel) (by decide +kernel)
set_option maxRecDepth 20000 in
theorem co_L_setRole : Cond.codeWith yL_setRole cL_setRole 6 (some .int) [(0, 19, 22, 25), (0, 19, 26, 15)] ∈ gk_BG := gk_bg 766 (by decide +kernel) (by decide +kernel)
abbrev wsL_setRole : List Cond := Cond.codeWith yL_setRole cL_setRole 6 (some .int) [(0, 19, 22, 25), (0, 19, 26, 15)] :: gk_BG
set_option maxRecDepth 20000 in
theorem st_L_setHolds : Cond.static yL_setHolds ∈ gk_BG := gk_bg 789 (by decide +kernel) (by decide +kernel)
set_option maxRecDepth 20000 in
theorem co_L_setHolds : Cond.codeWith yL_setHolds cL_setHolds 6 (some .int) [(0, 19, 22, 25), (0, 19, 26, 13), (0, 19, 30, 15)] ∈ gk_BG := gk_bg 790 (by decide +kernel) (by decide +kernel)
abbrev wsL_setHolds : List Cond := Cond.codeWith yL_setHolds cL_setHolds 6 (some .int) [(0, 19, 22, 25), (0, 19, 26, 13), (0, 19, 30, 15)] :: gk_BG
set_option maxRecDepth 20000 in
theorem st_L_setApart : Cond.static yL_setApart ∈ gk_BG := gk_bg 800 (by decide +kernel) (by decide +kernel)
set_option maxRecDepth 20000 in
theorem co_L_setApart : Cond.codeWith yL_setApart cL_setApart 5 (some .int) [(0, 10, 13, 25), (0, 10, 17, 13), (0, 10, 21, 15)] ∈ gk_BG := gk_bg 801 (by decide +kernel) (by decide +kernel)
abbrev wsL_setApart : List Cond := Cond.codeWith yL_setApart cL_setApart 5 (some .int) [(0, 10, 13, 25), (0, 10, 17, 13), (0, 10, 21, 15)] :: gk_BG
set_option maxRecDepth 20000 in
theorem st_L_setUser : Cond.static yL_setUser ∈ gk_BG := gk_bg 816 (by decide +kernel) (by decide +kernel)
set_option maxRecDepth 20000 in
theorem co_L_setUser : Cond.codeWith yL_setUser cL_setUser 6 (some .int) [(0, 12, 15, 25), (0, 12, 19, 13)] ∈ gk_BG := gk_bg 817 (by decide +kernel) (by decide +kernel)
abbrev wsL_setUser : List Cond := Cond.codeWith yL_setUser cL_setUser 6 (some .int) [(0, 12, 15, 25), (0, 12, 19, 13)] :: gk_BG
set_option maxRecDepth 20000 in
theorem st_L_setLabel : Cond.static yL_setLabel ∈ gk_BG := gk_bg 823 (by decide +kernel) (by decide +kernel)
set_option maxRecDepth 20000 in
theorem co_L_setLabel : Cond.codeWith yL_setLabel cL_setLabel 5 (some .int) [(0, 10, 13, 25), (0, 10, 17, 13)] ∈ gk_BG := gk_bg 824 (by decide +kernel) (by decide +kernel)
abbrev wsL_setLabel : List Cond := Cond.codeWith yL_setLabel cL_setLabel 5 (some .int) [(0, 10, 13, 25), (0, 10, 17, 13)] :: gk_BG
set_option maxRecDepth 20000 in
theorem st_L_setWall : Cond.static yL_setWall ∈ gk_BG := gk_bg 830 (by decide +kernel) (by decide +kernel)
set_option maxRecDepth 20000 in
theorem co_L_setWall : Cond.codeWith yL_setWall cL_setWall 6 (some .int) [(0, 19, 22, 25), (0, 19, 26, 13)] ∈ gk_BG := gk_bg 831 (by decide +kernel) (by decide +kernel)
abbrev wsL_setWall : List Cond := Cond.codeWith yL_setWall cL_setWall 6 (some .int) [(0, 19, 22, 25), (0, 19, 26, 13)] :: gk_BG
set_option maxRecDepth 20000 in
theorem st_L_near : Cond.static yL_near ∈ gk_BG := gk_bg 837 (by decide +kernel) (by decide +kernel)
set_option maxRecDepth 20000 in
theorem co_L_near : Cond.codeWith yL_near cL_near 5 (some .int) [(0, 10, 13, 25)] ∈ gk_BG := gk_bg 838 (by decide +kernel) (by decide +kernel)
abbrev wsL_near : List Cond := Cond.codeWith yL_near cL_near 5 (some .int) [(0, 10, 13, 25)] :: gk_BG
set_option maxRecDepth 20000 in
theorem st_L_far : Cond.static yL_far ∈ gk_BG := gk_bg 844 (by decide +kernel) (by decide +kernel)
set_option maxRecDepth 20000 in
theorem co_L_far : Cond.codeWith yL_far cL_far 5 (some .int) [(0, 10, 13, 25)] ∈ gk_BG := gk_bg 845 (by decide +kernel) (by decide +kernel)
abbrev wsL_far : List Cond := Cond.codeWith yL_far cL_far 5 (some .int) [(0, 10, 13, 25)] :: gk_BG
set_option maxRecDepth 20000 in
theorem st_L_addRule : Cond.static yL_addRule ∈ gk_BG := gk_bg 851 (by decide +kernel) (by decide +kernel)
set_option maxRecDepth 20000 in
theorem co_L_addRule : Cond.codeWith yL_addRule cL_addRule 7 (some .int) [(0, 14, 17, 25), (0, 14, 21, 13), (0, 14, 25, 15)] ∈ gk_BG := gk_bg 852 (by decide +kernel) (by decide +kernel)
abbrev wsL_addRule : List Cond := Cond.codeWith yL_addRule cL_addRule 7 (some .int) [(0, 14, 17, 25), (0, 14, 21, 13), (0, 14, 25, 15)] :: gk_BG
set_option maxRecDepth 20000 in
theorem st_L_setRule : Cond.static yL_setRule ∈ gk_BG := gk_bg 863 (by decide +kernel) (by decide +kernel)
set_option maxRecDepth 20000 in
theorem co_L_setRule : Cond.codeWith yL_setRule cL_setRule 6 (some .int) [(0, 12, 15, 25), (0, 12, 19, 13)] ∈ gk_BG := gk_bg 864 (by decide +kernel) (by decide +kernel)
abbrev wsL_setRule : List Cond := Cond.codeWith yL_setRule cL_setRule 6 (some .int) [(0, 12, 15, 25), (0, 12, 19, 13)] :: gk_BG
set_option maxRecDepth 20000 in
theorem st_L_setTerms : Cond.static yL_setTerms ∈ gk_BG := gk_bg 874 (by decide +kernel) (by decide +kernel)
set_option maxRecDepth 20000 in
theorem co_L_setTerms : Cond.codeWith yL_setTerms cL_setTerms 7 (some .int) [(0, 14, 17, 25), (0, 14, 21, 13)] ∈ gk_BG := gk_bg 875 (by decide +kernel) (by decide +kernel)
abbrev wsL_setTerms : List Cond := Cond.codeWith yL_setTerms cL_setTerms 7 (some .int) [(0, 14, 17, 25), (0, 14, 21, 13)] :: gk_BG
set_option maxRecDepth 20000 in
theorem st_L_dropRule : Cond.static yL_dropRule ∈ gk_BG := gk_bg 881 (by decide +kernel) (by decide +kernel)
set_option maxRecDepth 20000 in
theorem co_L_dropRule : Cond.codeWith yL_dropRule cL_dropRule 4 (some .int) [(0, 9, 12, 25)] ∈ gk_BG := gk_bg 882 (by decide +kernel) (by decide +kernel)
abbrev wsL_dropRule : List Cond := Cond.codeWith yL_dropRule cL_dropRule 4 (some .int) [(0, 9, 12, 25)] :: gk_BG
set_option maxRecDepth 20000 in
theorem st_L_setWeighing : Cond.static yL_setWeighing ∈ gk_BG := gk_bg 896 (by decide +kernel) (by decide +kernel)
set_option maxRecDepth 20000 in
theorem co_L_setWeighing : Cond.codeWith yL_setWeighing cL_setWeighing 4 (some .int) [(0, 9, 12, 13)] ∈ gk_BG := gk_bg 897 (by decide +kernel) (by decide +kernel)
abbrev wsL_setWeighing : List Cond := Cond.codeWith yL_setWeighing cL_setWeighing 4 (some .int) [(0, 9, 12, 13)] :: gk_BG
set_option maxRecDepth 20000 in
theorem st_L_matches : Cond.static yL_matches ∈ gk_BG := gk_bg 903 (by decide +kernel) (by decide +kernel)
set_option maxRecDepth 20000 in
theorem co_L_matches : Cond.codeWith yL_matches cL_matches 7 (some .int) [(0, 21, 24, 25)] ∈ gk_BG := gk_bg 904 (by decide +kernel) (by decide +kernel)
abbrev wsL_matches : List Cond := Cond.codeWith yL_matches cL_matches 7 (some .int) [(0, 21, 24, 25)] :: gk_BG
set_option maxRecDepth 20000 in
theorem st_L_goOn : Cond.static yL_goOn ∈ gk_BG := gk_bg 918 (by decide +kernel) (by decide +kernel)
set_option maxRecDepth 20000 in
theorem co_L_goOn : Cond.codeWith yL_goOn cL_goOn 4 (some .int) [(0, 9, 12, 13)] ∈ gk_BG := gk_bg 919 (by decide +kernel) (by decide +kernel)
abbrev wsL_goOn : List Cond := Cond.codeWith yL_goOn cL_goOn 4 (some .int) [(0, 9, 12, 13)] :: gk_BG
set_option maxRecDepth 20000 in
theorem st_L_grant : Cond.static yL_grant ∈ gk_BG := gk_bg 926 (by decide +kernel) (by decide +kernel)
set_option maxRecDepth 20000 in
theorem co_L_grant : Cond.codeWith yL_grant cL_grant 9 (some .int) [(0, 18, 21, 25), (0, 18, 25, 13), (0, 18, 29, 15)] ∈ gk_BG := gk_bg 927 (by decide +kernel) (by decide +kernel)
abbrev wsL_grant : List Cond := Cond.codeWith yL_grant cL_grant 9 (some .int) [(0, 18, 21, 25), (0, 18, 25, 13), (0, 18, 29, 15)] :: gk_BG
set_option maxRecDepth 20000 in
theorem st_L_revoke : Cond.static yL_revoke ∈ gk_BG := gk_bg 938 (by decide +kernel) (by decide +kernel)
set_option maxRecDepth 20000 in
theorem co_L_revoke : Cond.codeWith yL_revoke cL_revoke 4 (some .int) [(0, 16, 19, 25)] ∈ gk_BG := gk_bg 939 (by decide +kernel) (by decide +kernel)
abbrev wsL_revoke : List Cond := Cond.codeWith yL_revoke cL_revoke 4 (some .int) [(0, 16, 19, 25)] :: gk_BG
set_option maxRecDepth 20000 in
theorem st_L_isGood : Cond.static yL_isGood ∈ gk_BG := gk_bg 950 (by decide +kernel) (by decide +kernel)
set_option maxRecDepth 20000 in
theorem co_L_isGood : Cond.codeWith yL_isGood cL_isGood 4 (some .int) [(0, 16, 19, 25)] ∈ gk_BG := gk_bg 951 (by decide +kernel) (by decide +kernel)
abbrev wsL_isGood : List Cond := Cond.codeWith yL_isGood cL_isGood 4 (some .int) [(0, 16, 19, 25)] :: gk_BG
set_option maxRecDepth 20000 in
theorem st_L_decide : Cond.static yL_decide ∈ gk_BG := gk_bg 957 (by decide +kernel) (by decide +kernel)
set_option maxRecDepth 20000 in
theorem co_L_decide : Cond.codeWith yL_decide cL_decide 6 (some .int) [(0, 12, 15, 25)] ∈ gk_BG := gk_bg 958 (by decide +kernel) (by decide +kernel)
abbrev wsL_decide : List Cond := Cond.codeWith yL_decide cL_decide 6 (some .int) [(0, 12, 15, 25)] :: gk_BG
set_option maxRecDepth 20000 in
theorem st_L_why : Cond.static yL_why ∈ gk_BG := gk_bg 964 (by decide +kernel) (by decide +kernel)
set_option maxRecDepth 20000 in
theorem co_L_why : Cond.codeWith yL_why cL_why 6 (some .int) [(0, 12, 15, 25)] ∈ gk_BG := gk_bg 965 (by decide +kernel) (by decide +kernel)
abbrev wsL_why : List Cond := Cond.codeWith yL_why cL_why 6 (some .int) [(0, 12, 15, 25)] :: gk_BG
set_option maxRecDepth 20000 in
theorem st_L_access : Cond.static yL_access ∈ gk_BG := gk_bg 971 (by decide +kernel) (by decide +kernel)
set_option maxRecDepth 20000 in
theorem co_L_access : Cond.codeWith yL_access cL_access 6 (some .int) [(0, 12, 15, 25)] ∈ gk_BG := gk_bg 972 (by decide +kernel) (by decide +kernel)
abbrev wsL_access : List Cond := Cond.codeWith yL_access cL_access 6 (some .int) [(0, 12, 15, 25)] :: gk_BG
set_option maxRecDepth 20000 in
theorem st_L_counted : Cond.static yL_counted ∈ gk_BG := gk_bg 983 (by decide +kernel) (by decide +kernel)
set_option maxRecDepth 20000 in
theorem co_L_counted : Cond.codeWith yL_counted cL_counted 4 (some .int) [(0, 9, 12, 13)] ∈ gk_BG := gk_bg 984 (by decide +kernel) (by decide +kernel)
abbrev wsL_counted : List Cond := Cond.codeWith yL_counted cL_counted 4 (some .int) [(0, 9, 12, 13)] :: gk_BG
set_option maxRecDepth 20000 in
theorem st_L_done : Cond.static yL_done ∈ gk_BG := gk_bg 990 (by decide +kernel) (by decide +kernel)
set_option maxRecDepth 20000 in
theorem co_L_done : Cond.codeWith yL_done cL_done 5 (some .int) [(0, 10, 13, 25)] ∈ gk_BG := gk_bg 991 (by decide +kernel) (by decide +kernel)
abbrev wsL_done : List Cond := Cond.codeWith yL_done cL_done 5 (some .int) [(0, 10, 13, 25)] :: gk_BG
set_option maxRecDepth 20000 in
theorem st_L_who : Cond.static yL_who ∈ gk_BG := gk_bg 997 (by decide +kernel) (by decide +kernel)
set_option maxRecDepth 20000 in
theorem co_L_who : Cond.codeWith yL_who cL_who 5 (some .int) [(0, 10, 13, 25)] ∈ gk_BG := gk_bg 998 (by decide +kernel) (by decide +kernel)
abbrev wsL_who : List Cond := Cond.codeWith yL_who cL_who 5 (some .int) [(0, 10, 13, 25)] :: gk_BG
set_option maxRecDepth 20000 in
theorem st_L_reach : Cond.static yL_reach ∈ gk_BG := gk_bg 1005 (by decide +kernel) (by decide +kernel)
set_option maxRecDepth 20000 in
theorem co_L_reach : Cond.codeWith yL_reach cL_reach 5 (some .int) [(0, 10, 13, 25)] ∈ gk_BG := gk_bg 1006 (by decide +kernel) (by decide +kernel)
abbrev wsL_reach : List Cond := Cond.codeWith yL_reach cL_reach 5 (some .int) [(0, 10, 13, 25)] :: gk_BG
set_option maxRecDepth 20000 in
theorem st_L_rolesNeeded : Cond.static yL_rolesNeeded ∈ gk_BG := gk_bg 1012 (by decide +kernel) (by decide +kernel)
set_option maxRecDepth 20000 in
theorem co_L_rolesNeeded : Cond.codeWith yL_rolesNeeded cL_rolesNeeded 6 (some .int) [(0, 12, 15, 25)] ∈ gk_BG := gk_bg 1013 (by decide +kernel) (by decide +kernel)
abbrev wsL_rolesNeeded : List Cond := Cond.codeWith yL_rolesNeeded cL_rolesNeeded 6 (some .int) [(0, 12, 15, 25)] :: gk_BG
set_option maxRecDepth 20000 in
theorem st_L_isIdle : Cond.static yL_isIdle ∈ gk_BG := gk_bg 1028 (by decide +kernel) (by decide +kernel)
set_option maxRecDepth 20000 in
theorem co_L_isIdle : Cond.codeWith yL_isIdle cL_isIdle 4 (some .int) [(0, 16, 19, 25)] ∈ gk_BG := gk_bg 1029 (by decide +kernel) (by decide +kernel)
abbrev wsL_isIdle : List Cond := Cond.codeWith yL_isIdle cL_isIdle 4 (some .int) [(0, 16, 19, 25)] :: gk_BG
set_option maxRecDepth 20000 in
theorem st_L_wouldDiffer : Cond.static yL_wouldDiffer ∈ gk_BG := gk_bg 1039 (by decide +kernel) (by decide +kernel)
set_option maxRecDepth 20000 in
theorem co_L_wouldDiffer : Cond.codeWith yL_wouldDiffer cL_wouldDiffer 4 (some .int) [(0, 9, 12, 13)] ∈ gk_BG := gk_bg 1040 (by decide +kernel) (by decide +kernel)
abbrev wsL_wouldDiffer : List Cond := Cond.codeWith yL_wouldDiffer cL_wouldDiffer 4 (some .int) [(0, 9, 12, 13)] :: gk_BG
set_option maxRecDepth 20000 in
theorem st_L_wouldGain : Cond.static yL_wouldGain ∈ gk_BG := gk_bg 1046 (by decide +kernel) (by decide +kernel)
set_option maxRecDepth 20000 in
theorem co_L_wouldGain : Cond.codeWith yL_wouldGain cL_wouldGain 5 (some .int) [(0, 10, 13, 25)] ∈ gk_BG := gk_bg 1047 (by decide +kernel) (by decide +kernel)
abbrev wsL_wouldGain : List Cond := Cond.codeWith yL_wouldGain cL_wouldGain 5 (some .int) [(0, 10, 13, 25)] :: gk_BG
set_option maxRecDepth 20000 in
theorem in_X0 : Cond.initialized RX0 ∈ gk_BG := gk_bg 76 (by decide +kernel) (by decide +kernel)
set_option maxRecDepth 20000 in
theorem in_X1 : Cond.initialized RX1 ∈ gk_BG := gk_bg 73 (by decide +kernel) (by decide +kernel)
set_option maxRecDepth 20000 in
theorem in_X2 : Cond.initialized RX2 ∈ gk_BG := gk_bg 70 (by decide +kernel) (by decide +kernel)
set_option maxRecDepth 20000 in
theorem in_X3 : Cond.initialized RX3 ∈ gk_BG := gk_bg 75 (by decide +kernel) (by decide +kernel)
set_option maxRecDepth 20000 in
theorem in_X4 : Cond.initialized RX4 ∈ gk_BG := gk_bg 68 (by decide +kernel) (by decide +kernel)
set_option maxRecDepth 20000 in
theorem in_X5 : Cond.initialized RX5 ∈ gk_BG := gk_bg 74 (by decide +kernel) (by decide +kernel)
set_option maxRecDepth 20000 in
theorem in_X6 : Cond.initialized RX6 ∈ gk_BG := gk_bg 69 (by decide +kernel) (by decide +kernel)
set_option maxRecDepth 20000 in
theorem in_X7 : Cond.initialized RX7 ∈ gk_BG := gk_bg 77 (by decide +kernel) (by decide +kernel)
set_option maxRecDepth 20000 in
theorem in_X8 : Cond.initialized RX8 ∈ gk_BG := gk_bg 67 (by decide +kernel) (by decide +kernel)
set_option maxRecDepth 20000 in
theorem in_X9 : Cond.initialized RX9 ∈ gk_BG := gk_bg 78 (by decide +kernel) (by decide +kernel)
set_option maxRecDepth 20000 in
theorem in_J6 : Cond.initialized RJ6 ∈ gk_BG := gk_bg 85 (by decide +kernel) (by decide +kernel)
set_option maxRecDepth 20000 in
theorem in_J9 : Cond.initialized RJ9 ∈ gk_BG := gk_bg 71 (by decide +kernel) (by decide +kernel)
set_option maxRecDepth 20000 in
theorem in_J7 : Cond.initialized RJ7 ∈ gk_BG := gk_bg 72 (by decide +kernel) (by decide +kernel)
set_option maxRecDepth 20000 in
theorem in_L : Cond.initialized RL ∈ gk_BG := gk_bg 66 (by decide +kernel) (by decide +kernel)
set_option maxRecDepth 20000 in
theorem cl_L_8 : Cond.classLink RL 8 "PolicyGate" ∈ gk_BG := gk_bg 86 (by decide +kernel) (by decide +kernel)
set_option maxRecDepth 20000 in
theorem it_X8 : Cond.instantiable RX8 4 ∈ gk_BG := gk_bg 87 (by decide +kernel) (by decide +kernel)
set_option maxRecDepth 20000 in
theorem ml_L_123 : Cond.methodLink RL 123 yX8_init ∈ gk_BG := gk_bg 88 (by decide +kernel) (by decide +kernel)
set_option maxRecDepth 20000 in
theorem cl_X8_7 : Cond.classLink RX8 7 "PolicyGate$Told" ∈ gk_BG := gk_bg 94 (by decide +kernel) (by decide +kernel)
set_option maxRecDepth 20000 in
theorem it_X4 : Cond.instantiable RX4 7 ∈ gk_BG := gk_bg 95 (by decide +kernel) (by decide +kernel)
set_option maxRecDepth 20000 in
theorem nm_X8_9 : Cond.methodLinkNest RX8 9 yX4_init "PolicyGate" ∈ gk_NG := gk_ng 96 (by decide +kernel) (by decide +kernel)
set_option maxRecDepth 20000 in
theorem cl_X4_7 : Cond.classLink RX4 7 "PolicyGate$Users" ∈ gk_BG := gk_bg 100 (by decide +kernel) (by decide +kernel)
set_option maxRecDepth 20000 in
theorem it_X6 : Cond.instantiable RX6 5 ∈ gk_BG := gk_bg 101 (by decide +kernel) (by decide +kernel)
set_option maxRecDepth 20000 in
theorem nm_X4_9 : Cond.methodLinkNest RX4 9 yX6_init "PolicyGate" ∈ gk_NG := gk_ng 102 (by decide +kernel) (by decide +kernel)
set_option maxRecDepth 20000 in
theorem cl_X6_9 : Cond.classLink RX6 9 "PolicyGate$Row" ∈ gk_BG := gk_bg 106 (by decide +kernel) (by decide +kernel)
set_option maxRecDepth 20000 in
theorem it_X2 : Cond.instantiable RX2 1 ∈ gk_BG := gk_bg 107 (by decide +kernel) (by decide +kernel)
set_option maxRecDepth 20000 in
theorem ml_X6_11 : Cond.methodLink RX6 11 yX2_init ∈ gk_BG := gk_bg 108 (by decide +kernel) (by decide +kernel)
set_option maxRecDepth 20000 in
theorem ml_X2_7 : Cond.methodLink RX2 7 yJ9_max_7cf53 ∈ gk_BG := gk_bg 112 (by decide +kernel) (by decide +kernel)
set_option maxRecDepth 20000 in
theorem ml_X2_19 : Cond.methodLink RX2 19 yJ7_fill_53178 ∈ gk_BG := gk_bg 115 (by decide +kernel) (by decide +kernel)
set_option maxRecDepth 20000 in
theorem fl_X2_13 : Cond.fieldLink RX2 13 "PolicyGate$Row" "cells" "[I" ∈ gk_BG := gk_bg 118 (by decide +kernel) (by decide +kernel)
set_option maxRecDepth 20000 in
theorem fl_X6_29 : Cond.fieldLink RX6 29 "PolicyGate$Users" "count" "I" ∈ gk_BG := gk_bg 123 (by decide +kernel) (by decide +kernel)
set_option maxRecDepth 20000 in
theorem nf_X7_56 : Cond.fieldLinkNest RX7 56 "PolicyGate$Users" "count" "I" "PolicyGate" ∈ gk_NG := gk_ng 124 (by decide +kernel) (by decide +kernel)
set_option maxRecDepth 20000 in
theorem nf_X8_49 : Cond.fieldLinkNest RX8 49 "PolicyGate$Users" "count" "I" "PolicyGate" ∈ gk_NG := gk_ng 125 (by decide +kernel) (by decide +kernel)
set_option maxRecDepth 20000 in
theorem fl_X6_14 : Cond.fieldLink RX6 14 "PolicyGate$Users" "clearance" "LPolicyGate$Row;" ∈ gk_BG := gk_bg 126 (by decide +kernel) (by decide +kernel)
set_option maxRecDepth 20000 in
theorem nf_X8_134 : Cond.fieldLinkNest RX8 134 "PolicyGate$Users" "clearance" "LPolicyGate$Row;" "PolicyGate" ∈ gk_NG := gk_ng 127 (by decide +kernel) (by decide +kernel)
set_option maxRecDepth 20000 in
theorem nf_X7_221 : Cond.fieldLinkNest RX7 221 "PolicyGate$Users" "clearance" "LPolicyGate$Row;" "PolicyGate" ∈ gk_NG := gk_ng 128 (by decide +kernel) (by decide +kernel)
set_option maxRecDepth 20000 in
theorem fl_X6_20 : Cond.fieldLink RX6 20 "PolicyGate$Users" "traits" "LPolicyGate$Row;" ∈ gk_BG := gk_bg 129 (by decide +kernel) (by decide +kernel)
set_option maxRecDepth 20000 in
theorem nf_X7_139 : Cond.fieldLinkNest RX7 139 "PolicyGate$Users" "traits" "LPolicyGate$Row;" "PolicyGate" ∈ gk_NG := gk_ng 130 (by decide +kernel) (by decide +kernel)
set_option maxRecDepth 20000 in
theorem nf_X8_131 : Cond.fieldLinkNest RX8 131 "PolicyGate$Users" "traits" "LPolicyGate$Row;" "PolicyGate" ∈ gk_NG := gk_ng 131 (by decide +kernel) (by decide +kernel)
set_option maxRecDepth 20000 in
theorem fl_X6_23 : Cond.fieldLink RX6 23 "PolicyGate$Users" "sets" "LPolicyGate$Row;" ∈ gk_BG := gk_bg 132 (by decide +kernel) (by decide +kernel)
set_option maxRecDepth 20000 in
theorem nf_X7_61 : Cond.fieldLinkNest RX7 61 "PolicyGate$Users" "sets" "LPolicyGate$Row;" "PolicyGate" ∈ gk_NG := gk_ng 133 (by decide +kernel) (by decide +kernel)
set_option maxRecDepth 20000 in
theorem nf_X8_95 : Cond.fieldLinkNest RX8 95 "PolicyGate$Users" "sets" "LPolicyGate$Row;" "PolicyGate" ∈ gk_NG := gk_ng 134 (by decide +kernel) (by decide +kernel)
set_option maxRecDepth 20000 in
theorem fl_X6_26 : Cond.fieldLink RX6 26 "PolicyGate$Users" "doneSets" "LPolicyGate$Row;" ∈ gk_BG := gk_bg 135 (by decide +kernel) (by decide +kernel)
set_option maxRecDepth 20000 in
theorem cl_X4_16 : Cond.classLink RX4 16 "PolicyGate$Roles" ∈ gk_BG := gk_bg 147 (by decide +kernel) (by decide +kernel)
set_option maxRecDepth 20000 in
theorem it_X1 : Cond.instantiable RX1 4 ∈ gk_BG := gk_bg 148 (by decide +kernel) (by decide +kernel)
set_option maxRecDepth 20000 in
theorem nm_X4_18 : Cond.methodLinkNest RX4 18 yX1_init "PolicyGate" ∈ gk_NG := gk_ng 149 (by decide +kernel) (by decide +kernel)
set_option maxRecDepth 20000 in
theorem cl_X1_9 : Cond.classLink RX1 9 "PolicyGate$Row" ∈ gk_BG := gk_bg 153 (by decide +kernel) (by decide +kernel)
set_option maxRecDepth 20000 in
theorem ml_X1_11 : Cond.methodLink RX1 11 yX2_init ∈ gk_BG := gk_bg 154 (by decide +kernel) (by decide +kernel)
set_option maxRecDepth 20000 in
theorem fl_X1_23 : Cond.fieldLink RX1 23 "PolicyGate$Roles" "count" "I" ∈ gk_BG := gk_bg 155 (by decide +kernel) (by decide +kernel)
set_option maxRecDepth 20000 in
theorem nf_X8_66 : Cond.fieldLinkNest RX8 66 "PolicyGate$Roles" "count" "I" "PolicyGate" ∈ gk_NG := gk_ng 156 (by decide +kernel) (by decide +kernel)
set_option maxRecDepth 20000 in
theorem fl_X1_34 : Cond.fieldLink RX1 34 "PolicyGate$Roles" "pairs" "I" ∈ gk_BG := gk_bg 157 (by decide +kernel) (by decide +kernel)
set_option maxRecDepth 20000 in
theorem nf_X8_122 : Cond.fieldLinkNest RX8 122 "PolicyGate$Roles" "pairs" "I" "PolicyGate" ∈ gk_NG := gk_ng 158 (by decide +kernel) (by decide +kernel)
set_option maxRecDepth 20000 in
theorem fl_X1_14 : Cond.fieldLink RX1 14 "PolicyGate$Roles" "holds" "LPolicyGate$Row;" ∈ gk_BG := gk_bg 159 (by decide +kernel) (by decide +kernel)
set_option maxRecDepth 20000 in
theorem nf_X8_116 : Cond.fieldLinkNest RX8 116 "PolicyGate$Roles" "holds" "LPolicyGate$Row;" "PolicyGate" ∈ gk_NG := gk_ng 160 (by decide +kernel) (by decide +kernel)
set_option maxRecDepth 20000 in
theorem fl_X1_20 : Cond.fieldLink RX1 20 "PolicyGate$Roles" "apart" "LPolicyGate$Row;" ∈ gk_BG := gk_bg 161 (by decide +kernel) (by decide +kernel)
set_option maxRecDepth 20000 in
theorem nf_X8_119 : Cond.fieldLinkNest RX8 119 "PolicyGate$Roles" "apart" "LPolicyGate$Row;" "PolicyGate" ∈ gk_NG := gk_ng 162 (by decide +kernel) (by decide +kernel)
set_option maxRecDepth 20000 in
theorem cl_X4_23 : Cond.classLink RX4 23 "PolicyGate$Tree" ∈ gk_BG := gk_bg 172 (by decide +kernel) (by decide +kernel)
set_option maxRecDepth 20000 in
theorem it_X5 : Cond.instantiable RX5 6 ∈ gk_BG := gk_bg 173 (by decide +kernel) (by decide +kernel)
set_option maxRecDepth 20000 in
theorem nm_X4_25 : Cond.methodLinkNest RX4 25 yX5_init "PolicyGate" ∈ gk_NG := gk_ng 174 (by decide +kernel) (by decide +kernel)
set_option maxRecDepth 20000 in
theorem cl_X5_15 : Cond.classLink RX5 15 "PolicyGate$Row" ∈ gk_BG := gk_bg 178 (by decide +kernel) (by decide +kernel)
set_option maxRecDepth 20000 in
theorem ml_X5_17 : Cond.methodLink RX5 17 yX2_init ∈ gk_BG := gk_bg 179 (by decide +kernel) (by decide +kernel)
set_option maxRecDepth 20000 in
theorem fl_X5_9 : Cond.fieldLink RX5 9 "PolicyGate$Tree" "count" "I" ∈ gk_BG := gk_bg 180 (by decide +kernel) (by decide +kernel)
set_option maxRecDepth 20000 in
theorem nf_X8_83 : Cond.fieldLinkNest RX8 83 "PolicyGate$Tree" "count" "I" "PolicyGate" ∈ gk_NG := gk_ng 181 (by decide +kernel) (by decide +kernel)
set_option maxRecDepth 20000 in
theorem nf_X7_123 : Cond.fieldLinkNest RX7 123 "PolicyGate$Tree" "count" "I" "PolicyGate" ∈ gk_NG := gk_ng 182 (by decide +kernel) (by decide +kernel)
set_option maxRecDepth 20000 in
theorem fl_X5_20 : Cond.fieldLink RX5 20 "PolicyGate$Tree" "depth" "LPolicyGate$Row;" ∈ gk_BG := gk_bg 183 (by decide +kernel) (by decide +kernel)
set_option maxRecDepth 20000 in
theorem nf_X7_162 : Cond.fieldLinkNest RX7 162 "PolicyGate$Tree" "depth" "LPolicyGate$Row;" "PolicyGate" ∈ gk_NG := gk_ng 184 (by decide +kernel) (by decide +kernel)
set_option maxRecDepth 20000 in
theorem fl_X5_24 : Cond.fieldLink RX5 24 "PolicyGate$Tree" "above" "LPolicyGate$Row;" ∈ gk_BG := gk_bg 185 (by decide +kernel) (by decide +kernel)
set_option maxRecDepth 20000 in
theorem fl_X5_27 : Cond.fieldLink RX5 27 "PolicyGate$Tree" "label" "LPolicyGate$Row;" ∈ gk_BG := gk_bg 186 (by decide +kernel) (by decide +kernel)
set_option maxRecDepth 20000 in
theorem nf_X8_137 : Cond.fieldLinkNest RX8 137 "PolicyGate$Tree" "label" "LPolicyGate$Row;" "PolicyGate" ∈ gk_NG := gk_ng 187 (by decide +kernel) (by decide +kernel)
set_option maxRecDepth 20000 in
theorem nf_X7_218 : Cond.fieldLinkNest RX7 218 "PolicyGate$Tree" "label" "LPolicyGate$Row;" "PolicyGate" ∈ gk_NG := gk_ng 188 (by decide +kernel) (by decide +kernel)
set_option maxRecDepth 20000 in
theorem fl_X5_30 : Cond.fieldLink RX5 30 "PolicyGate$Tree" "itsClass" "LPolicyGate$Row;" ∈ gk_BG := gk_bg 189 (by decide +kernel) (by decide +kernel)
set_option maxRecDepth 20000 in
theorem nf_X7_129 : Cond.fieldLinkNest RX7 129 "PolicyGate$Tree" "itsClass" "LPolicyGate$Row;" "PolicyGate" ∈ gk_NG := gk_ng 190 (by decide +kernel) (by decide +kernel)
set_option maxRecDepth 20000 in
theorem nf_X8_140 : Cond.fieldLinkNest RX8 140 "PolicyGate$Tree" "itsClass" "LPolicyGate$Row;" "PolicyGate" ∈ gk_NG := gk_ng 191 (by decide +kernel) (by decide +kernel)
set_option maxRecDepth 20000 in
theorem fl_X5_33 : Cond.fieldLink RX5 33 "PolicyGate$Tree" "house" "LPolicyGate$Row;" ∈ gk_BG := gk_bg 192 (by decide +kernel) (by decide +kernel)
set_option maxRecDepth 20000 in
theorem nf_X7_136 : Cond.fieldLinkNest RX7 136 "PolicyGate$Tree" "house" "LPolicyGate$Row;" "PolicyGate" ∈ gk_NG := gk_ng 193 (by decide +kernel) (by decide +kernel)
set_option maxRecDepth 20000 in
theorem nf_X8_143 : Cond.fieldLinkNest RX8 143 "PolicyGate$Tree" "house" "LPolicyGate$Row;" "PolicyGate" ∈ gk_NG := gk_ng 194 (by decide +kernel) (by decide +kernel)
set_option maxRecDepth 20000 in
theorem cl_X4_30 : Cond.classLink RX4 30 "PolicyGate$Rules" ∈ gk_BG := gk_bg 208 (by decide +kernel) (by decide +kernel)
set_option maxRecDepth 20000 in
theorem it_X3 : Cond.instantiable RX3 10 ∈ gk_BG := gk_bg 209 (by decide +kernel) (by decide +kernel)
set_option maxRecDepth 20000 in
theorem nm_X4_32 : Cond.methodLinkNest RX4 32 yX3_init "PolicyGate" ∈ gk_NG := gk_ng 210 (by decide +kernel) (by decide +kernel)
set_option maxRecDepth 20000 in
theorem cl_X3_9 : Cond.classLink RX3 9 "PolicyGate$Row" ∈ gk_BG := gk_bg 214 (by decide +kernel) (by decide +kernel)
set_option maxRecDepth 20000 in
theorem ml_X3_11 : Cond.methodLink RX3 11 yX2_init ∈ gk_BG := gk_bg 215 (by decide +kernel) (by decide +kernel)
set_option maxRecDepth 20000 in
theorem fl_X3_44 : Cond.fieldLink RX3 44 "PolicyGate$Rules" "count" "I" ∈ gk_BG := gk_bg 216 (by decide +kernel) (by decide +kernel)
set_option maxRecDepth 20000 in
theorem nf_X7_91 : Cond.fieldLinkNest RX7 91 "PolicyGate$Rules" "count" "I" "PolicyGate" ∈ gk_NG := gk_ng 217 (by decide +kernel) (by decide +kernel)
set_option maxRecDepth 20000 in
theorem nf_X8_156 : Cond.fieldLinkNest RX8 156 "PolicyGate$Rules" "count" "I" "PolicyGate" ∈ gk_NG := gk_ng 218 (by decide +kernel) (by decide +kernel)
set_option maxRecDepth 20000 in
theorem fl_X3_14 : Cond.fieldLink RX3 14 "PolicyGate$Rules" "allows" "LPolicyGate$Row;" ∈ gk_BG := gk_bg 219 (by decide +kernel) (by decide +kernel)
set_option maxRecDepth 20000 in
theorem nf_X7_101 : Cond.fieldLinkNest RX7 101 "PolicyGate$Rules" "allows" "LPolicyGate$Row;" "PolicyGate" ∈ gk_NG := gk_ng 220 (by decide +kernel) (by decide +kernel)
set_option maxRecDepth 20000 in
theorem fl_X3_20 : Cond.fieldLink RX3 20 "PolicyGate$Rules" "forWhom" "LPolicyGate$Row;" ∈ gk_BG := gk_bg 221 (by decide +kernel) (by decide +kernel)
set_option maxRecDepth 20000 in
theorem nf_X7_150 : Cond.fieldLinkNest RX7 150 "PolicyGate$Rules" "forWhom" "LPolicyGate$Row;" "PolicyGate" ∈ gk_NG := gk_ng 222 (by decide +kernel) (by decide +kernel)
set_option maxRecDepth 20000 in
theorem fl_X3_23 : Cond.fieldLink RX3 23 "PolicyGate$Rules" "actions" "LPolicyGate$Row;" ∈ gk_BG := gk_bg 223 (by decide +kernel) (by decide +kernel)
set_option maxRecDepth 20000 in
theorem nf_X7_107 : Cond.fieldLinkNest RX7 107 "PolicyGate$Rules" "actions" "LPolicyGate$Row;" "PolicyGate" ∈ gk_NG := gk_ng 224 (by decide +kernel) (by decide +kernel)
set_option maxRecDepth 20000 in
theorem fl_X3_26 : Cond.fieldLink RX3 26 "PolicyGate$Rules" "resource" "LPolicyGate$Row;" ∈ gk_BG := gk_bg 225 (by decide +kernel) (by decide +kernel)
set_option maxRecDepth 20000 in
theorem nf_X7_113 : Cond.fieldLinkNest RX7 113 "PolicyGate$Rules" "resource" "LPolicyGate$Row;" "PolicyGate" ∈ gk_NG := gk_ng 226 (by decide +kernel) (by decide +kernel)
set_option maxRecDepth 20000 in
theorem fl_X3_29 : Cond.fieldLink RX3 29 "PolicyGate$Rules" "deep" "LPolicyGate$Row;" ∈ gk_BG := gk_bg 227 (by decide +kernel) (by decide +kernel)
set_option maxRecDepth 20000 in
theorem nf_X7_116 : Cond.fieldLinkNest RX7 116 "PolicyGate$Rules" "deep" "LPolicyGate$Row;" "PolicyGate" ∈ gk_NG := gk_ng 228 (by decide +kernel) (by decide +kernel)
set_option maxRecDepth 20000 in
theorem nf_X8_168 : Cond.fieldLinkNest RX8 168 "PolicyGate$Rules" "deep" "LPolicyGate$Row;" "PolicyGate" ∈ gk_NG := gk_ng 229 (by decide +kernel) (by decide +kernel)
set_option maxRecDepth 20000 in
theorem fl_X3_32 : Cond.fieldLink RX3 32 "PolicyGate$Rules" "rank" "LPolicyGate$Row;" ∈ gk_BG := gk_bg 230 (by decide +kernel) (by decide +kernel)
set_option maxRecDepth 20000 in
theorem nf_X7_165 : Cond.fieldLinkNest RX7 165 "PolicyGate$Rules" "rank" "LPolicyGate$Row;" "PolicyGate" ∈ gk_NG := gk_ng 231 (by decide +kernel) (by decide +kernel)
set_option maxRecDepth 20000 in
theorem nf_X8_165 : Cond.fieldLinkNest RX8 165 "PolicyGate$Rules" "rank" "LPolicyGate$Row;" "PolicyGate" ∈ gk_NG := gk_ng 232 (by decide +kernel) (by decide +kernel)
set_option maxRecDepth 20000 in
theorem fl_X3_35 : Cond.fieldLink RX3 35 "PolicyGate$Rules" "traits" "LPolicyGate$Row;" ∈ gk_BG := gk_bg 233 (by decide +kernel) (by decide +kernel)
set_option maxRecDepth 20000 in
theorem nf_X7_142 : Cond.fieldLinkNest RX7 142 "PolicyGate$Rules" "traits" "LPolicyGate$Row;" "PolicyGate" ∈ gk_NG := gk_ng 234 (by decide +kernel) (by decide +kernel)
set_option maxRecDepth 20000 in
theorem nf_X8_171 : Cond.fieldLinkNest RX8 171 "PolicyGate$Rules" "traits" "LPolicyGate$Row;" "PolicyGate" ∈ gk_NG := gk_ng 235 (by decide +kernel) (by decide +kernel)
set_option maxRecDepth 20000 in
theorem fl_X3_38 : Cond.fieldLink RX3 38 "PolicyGate$Rules" "first" "LPolicyGate$Row;" ∈ gk_BG := gk_bg 236 (by decide +kernel) (by decide +kernel)
set_option maxRecDepth 20000 in
theorem nf_X8_172 : Cond.fieldLinkNest RX8 172 "PolicyGate$Rules" "first" "LPolicyGate$Row;" "PolicyGate" ∈ gk_NG := gk_ng 237 (by decide +kernel) (by decide +kernel)
set_option maxRecDepth 20000 in
theorem fl_X3_41 : Cond.fieldLink RX3 41 "PolicyGate$Rules" "last" "LPolicyGate$Row;" ∈ gk_BG := gk_bg 238 (by decide +kernel) (by decide +kernel)
set_option maxRecDepth 20000 in
theorem nf_X8_175 : Cond.fieldLinkNest RX8 175 "PolicyGate$Rules" "last" "LPolicyGate$Row;" "PolicyGate" ∈ gk_NG := gk_ng 239 (by decide +kernel) (by decide +kernel)
set_option maxRecDepth 20000 in
theorem cl_X4_37 : Cond.classLink RX4 37 "PolicyGate$Grants" ∈ gk_BG := gk_bg 261 (by decide +kernel) (by decide +kernel)
set_option maxRecDepth 20000 in
theorem it_X0 : Cond.instantiable RX0 7 ∈ gk_BG := gk_bg 262 (by decide +kernel) (by decide +kernel)
set_option maxRecDepth 20000 in
theorem nm_X4_39 : Cond.methodLinkNest RX4 39 yX0_init "PolicyGate" ∈ gk_NG := gk_ng 263 (by decide +kernel) (by decide +kernel)
set_option maxRecDepth 20000 in
theorem cl_X0_9 : Cond.classLink RX0 9 "PolicyGate$Row" ∈ gk_BG := gk_bg 267 (by decide +kernel) (by decide +kernel)
set_option maxRecDepth 20000 in
theorem ml_X0_11 : Cond.methodLink RX0 11 yX2_init ∈ gk_BG := gk_bg 268 (by decide +kernel) (by decide +kernel)
set_option maxRecDepth 20000 in
theorem fl_X0_35 : Cond.fieldLink RX0 35 "PolicyGate$Grants" "count" "I" ∈ gk_BG := gk_bg 269 (by decide +kernel) (by decide +kernel)
set_option maxRecDepth 20000 in
theorem nf_X7_175 : Cond.fieldLinkNest RX7 175 "PolicyGate$Grants" "count" "I" "PolicyGate" ∈ gk_NG := gk_ng 270 (by decide +kernel) (by decide +kernel)
set_option maxRecDepth 20000 in
theorem nf_X8_208 : Cond.fieldLinkNest RX8 208 "PolicyGate$Grants" "count" "I" "PolicyGate" ∈ gk_NG := gk_ng 271 (by decide +kernel) (by decide +kernel)
set_option maxRecDepth 20000 in
theorem fl_X0_14 : Cond.fieldLink RX0 14 "PolicyGate$Grants" "from" "LPolicyGate$Row;" ∈ gk_BG := gk_bg 272 (by decide +kernel) (by decide +kernel)
set_option maxRecDepth 20000 in
theorem nf_X7_188 : Cond.fieldLinkNest RX7 188 "PolicyGate$Grants" "from" "LPolicyGate$Row;" "PolicyGate" ∈ gk_NG := gk_ng 273 (by decide +kernel) (by decide +kernel)
set_option maxRecDepth 20000 in
theorem fl_X0_20 : Cond.fieldLink RX0 20 "PolicyGate$Grants" "to" "LPolicyGate$Row;" ∈ gk_BG := gk_bg 274 (by decide +kernel) (by decide +kernel)
set_option maxRecDepth 20000 in
theorem nf_X4_58 : Cond.fieldLinkNest RX4 58 "PolicyGate$Grants" "to" "LPolicyGate$Row;" "PolicyGate" ∈ gk_NG := gk_ng 275 (by decide +kernel) (by decide +kernel)
set_option maxRecDepth 20000 in
theorem fl_X0_23 : Cond.fieldLink RX0 23 "PolicyGate$Grants" "action" "LPolicyGate$Row;" ∈ gk_BG := gk_bg 276 (by decide +kernel) (by decide +kernel)
set_option maxRecDepth 20000 in
theorem nf_X4_61 : Cond.fieldLinkNest RX4 61 "PolicyGate$Grants" "action" "LPolicyGate$Row;" "PolicyGate" ∈ gk_NG := gk_ng 277 (by decide +kernel) (by decide +kernel)
set_option maxRecDepth 20000 in
theorem nf_X7_192 : Cond.fieldLinkNest RX7 192 "PolicyGate$Grants" "action" "LPolicyGate$Row;" "PolicyGate" ∈ gk_NG := gk_ng 278 (by decide +kernel) (by decide +kernel)
set_option maxRecDepth 20000 in
theorem fl_X0_26 : Cond.fieldLink RX0 26 "PolicyGate$Grants" "resource" "LPolicyGate$Row;" ∈ gk_BG := gk_bg 279 (by decide +kernel) (by decide +kernel)
set_option maxRecDepth 20000 in
theorem nf_X4_64 : Cond.fieldLinkNest RX4 64 "PolicyGate$Grants" "resource" "LPolicyGate$Row;" "PolicyGate" ∈ gk_NG := gk_ng 280 (by decide +kernel) (by decide +kernel)
set_option maxRecDepth 20000 in
theorem nf_X7_191 : Cond.fieldLinkNest RX7 191 "PolicyGate$Grants" "resource" "LPolicyGate$Row;" "PolicyGate" ∈ gk_NG := gk_ng 281 (by decide +kernel) (by decide +kernel)
set_option maxRecDepth 20000 in
theorem fl_X0_29 : Cond.fieldLink RX0 29 "PolicyGate$Grants" "hands" "LPolicyGate$Row;" ∈ gk_BG := gk_bg 282 (by decide +kernel) (by decide +kernel)
set_option maxRecDepth 20000 in
theorem nf_X7_202 : Cond.fieldLinkNest RX7 202 "PolicyGate$Grants" "hands" "LPolicyGate$Row;" "PolicyGate" ∈ gk_NG := gk_ng 283 (by decide +kernel) (by decide +kernel)
set_option maxRecDepth 20000 in
theorem fl_X0_32 : Cond.fieldLink RX0 32 "PolicyGate$Grants" "end" "LPolicyGate$Row;" ∈ gk_BG := gk_bg 284 (by decide +kernel) (by decide +kernel)
set_option maxRecDepth 20000 in
theorem nf_X4_48 : Cond.fieldLinkNest RX4 48 "PolicyGate$Grants" "end" "LPolicyGate$Row;" "PolicyGate" ∈ gk_NG := gk_ng 285 (by decide +kernel) (by decide +kernel)
set_option maxRecDepth 20000 in
theorem nf_X8_220 : Cond.fieldLinkNest RX8 220 "PolicyGate$Grants" "end" "LPolicyGate$Row;" "PolicyGate" ∈ gk_NG := gk_ng 286 (by decide +kernel) (by decide +kernel)
set_option maxRecDepth 20000 in
theorem fl_X4_10 : Cond.fieldLink RX4 10 "PolicyGate$Told" "users" "LPolicyGate$Users;" ∈ gk_BG := gk_bg 302 (by decide +kernel) (by decide +kernel)
set_option maxRecDepth 20000 in
theorem nf_X7_50 : Cond.fieldLinkNest RX7 50 "PolicyGate$Told" "users" "LPolicyGate$Users;" "PolicyGate" ∈ gk_NG := gk_ng 303 (by decide +kernel) (by decide +kernel)
set_option maxRecDepth 20000 in
theorem nf_X8_45 : Cond.fieldLinkNest RX8 45 "PolicyGate$Told" "users" "LPolicyGate$Users;" "PolicyGate" ∈ gk_NG := gk_ng 304 (by decide +kernel) (by decide +kernel)
set_option maxRecDepth 20000 in
theorem fl_X4_19 : Cond.fieldLink RX4 19 "PolicyGate$Told" "roles" "LPolicyGate$Roles;" ∈ gk_BG := gk_bg 305 (by decide +kernel) (by decide +kernel)
set_option maxRecDepth 20000 in
theorem nf_X8_62 : Cond.fieldLinkNest RX8 62 "PolicyGate$Told" "roles" "LPolicyGate$Roles;" "PolicyGate" ∈ gk_NG := gk_ng 306 (by decide +kernel) (by decide +kernel)
set_option maxRecDepth 20000 in
theorem nf_X7_153 : Cond.fieldLinkNest RX7 153 "PolicyGate$Told" "roles" "LPolicyGate$Roles;" "PolicyGate" ∈ gk_NG := gk_ng 307 (by decide +kernel) (by decide +kernel)
set_option maxRecDepth 20000 in
theorem fl_X4_26 : Cond.fieldLink RX4 26 "PolicyGate$Told" "tree" "LPolicyGate$Tree;" ∈ gk_BG := gk_bg 308 (by decide +kernel) (by decide +kernel)
set_option maxRecDepth 20000 in
theorem nf_X8_79 : Cond.fieldLinkNest RX8 79 "PolicyGate$Told" "tree" "LPolicyGate$Tree;" "PolicyGate" ∈ gk_NG := gk_ng 309 (by decide +kernel) (by decide +kernel)
set_option maxRecDepth 20000 in
theorem nf_X7_119 : Cond.fieldLinkNest RX7 119 "PolicyGate$Told" "tree" "LPolicyGate$Tree;" "PolicyGate" ∈ gk_NG := gk_ng 310 (by decide +kernel) (by decide +kernel)
set_option maxRecDepth 20000 in
theorem fl_X4_33 : Cond.fieldLink RX4 33 "PolicyGate$Told" "rules" "LPolicyGate$Rules;" ∈ gk_BG := gk_bg 311 (by decide +kernel) (by decide +kernel)
set_option maxRecDepth 20000 in
theorem nf_X7_87 : Cond.fieldLinkNest RX7 87 "PolicyGate$Told" "rules" "LPolicyGate$Rules;" "PolicyGate" ∈ gk_NG := gk_ng 312 (by decide +kernel) (by decide +kernel)
set_option maxRecDepth 20000 in
theorem nf_X8_152 : Cond.fieldLinkNest RX8 152 "PolicyGate$Told" "rules" "LPolicyGate$Rules;" "PolicyGate" ∈ gk_NG := gk_ng 313 (by decide +kernel) (by decide +kernel)
set_option maxRecDepth 20000 in
theorem fl_X4_40 : Cond.fieldLink RX4 40 "PolicyGate$Told" "grants" "LPolicyGate$Grants;" ∈ gk_BG := gk_bg 314 (by decide +kernel) (by decide +kernel)
set_option maxRecDepth 20000 in
theorem nf_X7_171 : Cond.fieldLinkNest RX7 171 "PolicyGate$Told" "grants" "LPolicyGate$Grants;" "PolicyGate" ∈ gk_NG := gk_ng 315 (by decide +kernel) (by decide +kernel)
set_option maxRecDepth 20000 in
theorem nf_X8_204 : Cond.fieldLinkNest RX8 204 "PolicyGate$Told" "grants" "LPolicyGate$Grants;" "PolicyGate" ∈ gk_NG := gk_ng 316 (by decide +kernel) (by decide +kernel)
set_option maxRecDepth 20000 in
theorem nf_X8_181 : Cond.fieldLinkNest RX8 181 "PolicyGate$Told" "weighing" "I" "PolicyGate" ∈ gk_NG := gk_ng 317 (by decide +kernel) (by decide +kernel)
set_option maxRecDepth 20000 in
theorem fl_X4_44 : Cond.fieldLink RX4 44 "PolicyGate$Told" "clock" "I" ∈ gk_BG := gk_bg 318 (by decide +kernel) (by decide +kernel)
set_option maxRecDepth 20000 in
theorem nf_X8_195 : Cond.fieldLinkNest RX8 195 "PolicyGate$Told" "clock" "I" "PolicyGate" ∈ gk_NG := gk_ng 319 (by decide +kernel) (by decide +kernel)
set_option maxRecDepth 20000 in
theorem cl_X8_16 : Cond.classLink RX8 16 "PolicyGate$View" ∈ gk_BG := gk_bg 335 (by decide +kernel) (by decide +kernel)
set_option maxRecDepth 20000 in
theorem it_X7 : Cond.instantiable RX7 11 ∈ gk_BG := gk_bg 336 (by decide +kernel) (by decide +kernel)
set_option maxRecDepth 20000 in
theorem ml_X8_18 : Cond.methodLink RX8 18 yX7_init ∈ gk_BG := gk_bg 337 (by decide +kernel) (by decide +kernel)
set_option maxRecDepth 20000 in
theorem cl_X7_9 : Cond.classLink RX7 9 "PolicyGate$Row" ∈ gk_BG := gk_bg 341 (by decide +kernel) (by decide +kernel)
set_option maxRecDepth 20000 in
theorem ml_X7_11 : Cond.methodLink RX7 11 yX2_init ∈ gk_BG := gk_bg 342 (by decide +kernel) (by decide +kernel)
set_option maxRecDepth 20000 in
theorem fl_X7_35 : Cond.fieldLink RX7 35 "PolicyGate$View" "told" "LPolicyGate$Told;" ∈ gk_BG := gk_bg 343 (by decide +kernel) (by decide +kernel)
set_option maxRecDepth 20000 in
theorem fl_X7_14 : Cond.fieldLink RX7 14 "PolicyGate$View" "onAction" "LPolicyGate$Row;" ∈ gk_BG := gk_bg 344 (by decide +kernel) (by decide +kernel)
set_option maxRecDepth 20000 in
theorem fl_X7_20 : Cond.fieldLink RX7 20 "PolicyGate$View" "onResource" "LPolicyGate$Row;" ∈ gk_BG := gk_bg 345 (by decide +kernel) (by decide +kernel)
set_option maxRecDepth 20000 in
theorem fl_X7_23 : Cond.fieldLink RX7 23 "PolicyGate$View" "forUser" "LPolicyGate$Row;" ∈ gk_BG := gk_bg 346 (by decide +kernel) (by decide +kernel)
set_option maxRecDepth 20000 in
theorem fl_X7_26 : Cond.fieldLink RX7 26 "PolicyGate$View" "weights" "LPolicyGate$Row;" ∈ gk_BG := gk_bg 347 (by decide +kernel) (by decide +kernel)
set_option maxRecDepth 20000 in
theorem fl_X7_29 : Cond.fieldLink RX7 29 "PolicyGate$View" "houses" "LPolicyGate$Row;" ∈ gk_BG := gk_bg 348 (by decide +kernel) (by decide +kernel)
set_option maxRecDepth 20000 in
theorem fl_X7_32 : Cond.fieldLink RX7 32 "PolicyGate$View" "opposed" "LPolicyGate$Row;" ∈ gk_BG := gk_bg 349 (by decide +kernel) (by decide +kernel)
set_option maxRecDepth 20000 in
theorem fl_X7_39 : Cond.fieldLink RX7 39 "PolicyGate$View" "weighing" "I" ∈ gk_BG := gk_bg 350 (by decide +kernel) (by decide +kernel)
set_option maxRecDepth 20000 in
theorem fl_X7_77 : Cond.fieldLink RX7 77 "PolicyGate$View" "live" "I" ∈ gk_BG := gk_bg 351 (by decide +kernel) (by decide +kernel)
set_option maxRecDepth 20000 in
theorem fl_X7_80 : Cond.fieldLink RX7 80 "PolicyGate$View" "allowing" "I" ∈ gk_BG := gk_bg 352 (by decide +kernel) (by decide +kernel)
set_option maxRecDepth 20000 in
theorem fl_X7_168 : Cond.fieldLink RX7 168 "PolicyGate$View" "good" "I" ∈ gk_BG := gk_bg 353 (by decide +kernel) (by decide +kernel)
set_option maxRecDepth 20000 in
theorem nf_X8_223 : Cond.fieldLinkNest RX8 223 "PolicyGate$View" "good" "I" "PolicyGate" ∈ gk_NG := gk_ng 354 (by decide +kernel) (by decide +kernel)
set_option maxRecDepth 20000 in
theorem cl_X8_28 : Cond.classLink RX8 28 "PolicyGate$Row" ∈ gk_BG := gk_bg 378 (by decide +kernel) (by decide +kernel)
set_option maxRecDepth 20000 in
theorem ml_X8_30 : Cond.methodLink RX8 30 yX2_init ∈ gk_BG := gk_bg 379 (by decide +kernel) (by decide +kernel)
set_option maxRecDepth 20000 in
theorem fl_X8_10 : Cond.fieldLink RX8 10 "PolicyGate" "told" "LPolicyGate$Told;" ∈ gk_BG := gk_bg 380 (by decide +kernel) (by decide +kernel)
set_option maxRecDepth 20000 in
theorem fl_X8_21 : Cond.fieldLink RX8 21 "PolicyGate" "now" "LPolicyGate$View;" ∈ gk_BG := gk_bg 381 (by decide +kernel) (by decide +kernel)
set_option maxRecDepth 20000 in
theorem fl_X8_25 : Cond.fieldLink RX8 25 "PolicyGate" "would" "LPolicyGate$View;" ∈ gk_BG := gk_bg 382 (by decide +kernel) (by decide +kernel)
set_option maxRecDepth 20000 in
theorem fl_X8_33 : Cond.fieldLink RX8 33 "PolicyGate" "counts" "LPolicyGate$Row;" ∈ gk_BG := gk_bg 383 (by decide +kernel) (by decide +kernel)
set_option maxRecDepth 20000 in
theorem ml_L_164 : Cond.methodLink RL 164 yX8_users ∈ gk_BG := gk_bg 393 (by decide +kernel) (by decide +kernel)
set_option maxRecDepth 20000 in
theorem ml_L_168 : Cond.methodLink RL 168 yX8_roles ∈ gk_BG := gk_bg 397 (by decide +kernel) (by decide +kernel)
set_option maxRecDepth 20000 in
theorem ml_L_172 : Cond.methodLink RL 172 yX8_resources ∈ gk_BG := gk_bg 401 (by decide +kernel) (by decide +kernel)
set_option maxRecDepth 20000 in
theorem ml_L_197 : Cond.methodLink RL 197 yX8_rules ∈ gk_BG := gk_bg 405 (by decide +kernel) (by decide +kernel)
set_option maxRecDepth 20000 in
theorem ml_L_210 : Cond.methodLink RL 210 yX8_clock ∈ gk_BG := gk_bg 409 (by decide +kernel) (by decide +kernel)
set_option maxRecDepth 20000 in
theorem ml_L_221 : Cond.methodLink RL 221 yX8_grants ∈ gk_BG := gk_bg 413 (by decide +kernel) (by decide +kernel)
set_option maxRecDepth 20000 in
theorem ml_L_252 : Cond.methodLink RL 252 yX8_contradictions ∈ gk_BG := gk_bg 417 (by decide +kernel) (by decide +kernel)
set_option maxRecDepth 20000 in
theorem ml_X8_188 : Cond.methodLink RX8 188 yX7_look ∈ gk_BG := gk_bg 421 (by decide +kernel) (by decide +kernel)
set_option maxRecDepth 20000 in
theorem ml_X7_43 : Cond.methodLink RX7 43 yX7_lookAtRules ∈ gk_BG := gk_bg 425 (by decide +kernel) (by decide +kernel)
set_option maxRecDepth 20000 in
theorem ml_X7_74 : Cond.methodLink RX7 74 yX2_clear ∈ gk_BG := gk_bg 429 (by decide +kernel) (by decide +kernel)
set_option maxRecDepth 20000 in
theorem ml_X7_83 : Cond.methodLink RX7 83 yX4_hour ∈ gk_BG := gk_bg 433 (by decide +kernel) (by decide +kernel)
set_option maxRecDepth 20000 in
theorem nm_X7_94 : Cond.methodLinkNest RX7 94 yX8_isIn "PolicyGate" ∈ gk_NG := gk_ng 437 (by decide +kernel) (by decide +kernel)
set_option maxRecDepth 20000 in
theorem ml_X7_98 : Cond.methodLink RX7 98 yX3_holdsIn ∈ gk_BG := gk_bg 440 (by decide +kernel) (by decide +kernel)
set_option maxRecDepth 20000 in
theorem ml_X3_55 : Cond.methodLink RX3 55 yX2_at ∈ gk_BG := gk_bg 444 (by decide +kernel) (by decide +kernel)
set_option maxRecDepth 20000 in
theorem ml_X7_64 : Cond.methodLink RX7 64 yX2_at ∈ gk_BG := gk_bg 448 (by decide +kernel) (by decide +kernel)
set_option maxRecDepth 20000 in
theorem ml_X7_104 : Cond.methodLink RX7 104 yX7_lookWhere ∈ gk_BG := gk_bg 449 (by decide +kernel) (by decide +kernel)
set_option maxRecDepth 20000 in
theorem ml_X7_110 : Cond.methodLink RX7 110 yX2_put ∈ gk_BG := gk_bg 453 (by decide +kernel) (by decide +kernel)
set_option maxRecDepth 20000 in
theorem ml_X7_126 : Cond.methodLink RX7 126 yX5_isBeneath ∈ gk_BG := gk_bg 457 (by decide +kernel) (by decide +kernel)
set_option maxRecDepth 20000 in
theorem ml_X5_36 : Cond.methodLink RX5 36 yX2_at ∈ gk_BG := gk_bg 461 (by decide +kernel) (by decide +kernel)
set_option maxRecDepth 20000 in
theorem nm_X5_43 : Cond.methodLinkNest RX5 43 yX8_isIn "PolicyGate" ∈ gk_NG := gk_ng 462 (by decide +kernel) (by decide +kernel)
set_option maxRecDepth 20000 in
theorem ml_X7_47 : Cond.methodLink RX7 47 yX7_lookAtWalls ∈ gk_BG := gk_bg 463 (by decide +kernel) (by decide +kernel)
set_option maxRecDepth 20000 in
theorem ml_X7_132 : Cond.methodLink RX7 132 yX6_doneOn ∈ gk_BG := gk_bg 467 (by decide +kernel) (by decide +kernel)
set_option maxRecDepth 20000 in
theorem ml_X6_36 : Cond.methodLink RX6 36 yX2_at ∈ gk_BG := gk_bg 471 (by decide +kernel) (by decide +kernel)
set_option maxRecDepth 20000 in
theorem ml_X7_68 : Cond.methodLink RX7 68 yX7_giveSet ∈ gk_BG := gk_bg 472 (by decide +kernel) (by decide +kernel)
set_option maxRecDepth 20000 in
theorem ml_X7_143 : Cond.methodLink RX7 143 yX7_stepsTo ∈ gk_BG := gk_bg 476 (by decide +kernel) (by decide +kernel)
set_option maxRecDepth 20000 in
theorem ml_X7_157 : Cond.methodLink RX7 157 yX1_nearBy ∈ gk_BG := gk_bg 480 (by decide +kernel) (by decide +kernel)
set_option maxRecDepth 20000 in
theorem nm_X1_37 : Cond.methodLinkNest RX1 37 yX8_isIn "PolicyGate" ∈ gk_NG := gk_ng 484 (by decide +kernel) (by decide +kernel)
set_option maxRecDepth 20000 in
theorem ml_X1_41 : Cond.methodLink RX1 41 yX1_heldBy ∈ gk_BG := gk_bg 485 (by decide +kernel) (by decide +kernel)
set_option maxRecDepth 20000 in
theorem ml_X1_27 : Cond.methodLink RX1 27 yX2_at ∈ gk_BG := gk_bg 489 (by decide +kernel) (by decide +kernel)
set_option maxRecDepth 20000 in
theorem ml_X7_147 : Cond.methodLink RX7 147 yX7_weightOf ∈ gk_BG := gk_bg 490 (by decide +kernel) (by decide +kernel)
set_option maxRecDepth 20000 in
theorem ml_X7_71 : Cond.methodLink RX7 71 yX7_weighGrants ∈ gk_BG := gk_bg 494 (by decide +kernel) (by decide +kernel)
set_option maxRecDepth 20000 in
theorem ml_X7_178 : Cond.methodLink RX7 178 yX4_isThere ∈ gk_BG := gk_bg 498 (by decide +kernel) (by decide +kernel)
set_option maxRecDepth 20000 in
theorem ml_X4_52 : Cond.methodLink RX4 52 yX2_at ∈ gk_BG := gk_bg 502 (by decide +kernel) (by decide +kernel)
set_option maxRecDepth 20000 in
theorem ml_X7_182 : Cond.methodLink RX7 182 yX7_isByRight ∈ gk_BG := gk_bg 503 (by decide +kernel) (by decide +kernel)
set_option maxRecDepth 20000 in
theorem ml_X7_195 : Cond.methodLink RX7 195 yX7_ruled ∈ gk_BG := gk_bg 507 (by decide +kernel) (by decide +kernel)
set_option maxRecDepth 20000 in
theorem ml_X7_205 : Cond.methodLink RX7 205 yX7_isAgainstLabel ∈ gk_BG := gk_bg 511 (by decide +kernel) (by decide +kernel)
set_option maxRecDepth 20000 in
theorem ml_X7_209 : Cond.methodLink RX7 209 yX7_isWalledOff ∈ gk_BG := gk_bg 515 (by decide +kernel) (by decide +kernel)
set_option maxRecDepth 20000 in
theorem ml_X7_212 : Cond.methodLink RX7 212 yX7_matching ∈ gk_BG := gk_bg 519 (by decide +kernel) (by decide +kernel)
set_option maxRecDepth 20000 in
theorem ml_X7_215 : Cond.methodLink RX7 215 yX7_deciding ∈ gk_BG := gk_bg 523 (by decide +kernel) (by decide +kernel)
set_option maxRecDepth 20000 in
theorem ml_X7_185 : Cond.methodLink RX7 185 yX7_isPassedOn ∈ gk_BG := gk_bg 527 (by decide +kernel) (by decide +kernel)
set_option maxRecDepth 20000 in
theorem ml_X7_198 : Cond.methodLink RX7 198 yX4_isGiven ∈ gk_BG := gk_bg 531 (by decide +kernel) (by decide +kernel)
set_option maxRecDepth 20000 in
theorem ml_X4_67 : Cond.methodLink RX4 67 yX5_isBeneath ∈ gk_BG := gk_bg 535 (by decide +kernel) (by decide +kernel)
set_option maxRecDepth 20000 in
theorem ml_X8_254 : Cond.methodLink RX8 254 yX7_opposedPairs ∈ gk_BG := gk_bg 536 (by decide +kernel) (by decide +kernel)
set_option maxRecDepth 20000 in
theorem ml_X7_233 : Cond.methodLink RX7 233 yX7_oppose ∈ gk_BG := gk_bg 540 (by decide +kernel) (by decide +kernel)
set_option maxRecDepth 20000 in
theorem ml_X7_236 : Cond.methodLink RX7 236 yJ6_bitCount_0f7a4 ∈ gk_BG := gk_bg 544 (by decide +kernel) (by decide +kernel)
set_option maxRecDepth 20000 in
theorem k_J6_265 : Cond.constant RJ6 265 (1431655765) ∈ gk_BG := gk_bg 547 (by decide +kernel) (by decide +kernel)
set_option maxRecDepth 20000 in
theorem k_J6_266 : Cond.constant RJ6 266 (858993459) ∈ gk_BG := gk_bg 548 (by decide +kernel) (by decide +kernel)
set_option maxRecDepth 20000 in
theorem k_J6_267 : Cond.constant RJ6 267 (252645135) ∈ gk_BG := gk_bg 549 (by decide +kernel) (by decide +kernel)
set_option maxRecDepth 20000 in
theorem ml_L_265 : Cond.methodLink RL 265 yX8_openness ∈ gk_BG := gk_bg 550 (by decide +kernel) (by decide +kernel)
set_option maxRecDepth 20000 in
theorem ml_X8_242 : Cond.methodLink RX8 242 yX7_allowedTo ∈ gk_BG := gk_bg 554 (by decide +kernel) (by decide +kernel)
set_option maxRecDepth 20000 in
theorem ml_X7_230 : Cond.methodLink RX7 230 yX7_isAllowed ∈ gk_BG := gk_bg 558 (by decide +kernel) (by decide +kernel)
set_option maxRecDepth 20000 in
theorem ml_X7_227 : Cond.methodLink RX7 227 yX7_decided ∈ gk_BG := gk_bg 562 (by decide +kernel) (by decide +kernel)
set_option maxRecDepth 20000 in
theorem ml_X7_224 : Cond.methodLink RX7 224 yX7_grantFor ∈ gk_BG := gk_bg 566 (by decide +kernel) (by decide +kernel)
set_option maxRecDepth 20000 in
theorem ml_L_270 : Cond.methodLink RL 270 yX8_digest ∈ gk_BG := gk_bg 570 (by decide +kernel) (by decide +kernel)
set_option maxRecDepth 20000 in
theorem k_X8_267 : Cond.constantLong RX8 267 (2579) ∈ gk_BG := gk_bg 574 (by decide +kernel) (by decide +kernel)
set_option maxRecDepth 20000 in
theorem ml_X8_269 : Cond.methodLink RX8 269 yX8_withNumbers ∈ gk_BG := gk_bg 575 (by decide +kernel) (by decide +kernel)
set_option maxRecDepth 20000 in
theorem k_X8_276 : Cond.constantLong RX8 276 (31) ∈ gk_BG := gk_bg 579 (by decide +kernel) (by decide +kernel)
set_option maxRecDepth 20000 in
theorem ml_X8_273 : Cond.methodLink RX8 273 yX8_withNear ∈ gk_BG := gk_bg 580 (by decide +kernel) (by decide +kernel)
set_option maxRecDepth 20000 in
theorem ml_X8_98 : Cond.methodLink RX8 98 yX2_at ∈ gk_BG := gk_bg 584 (by decide +kernel) (by decide +kernel)
set_option maxRecDepth 20000 in
theorem ml_X8_146 : Cond.methodLink RX8 146 yX1_nearBy ∈ gk_BG := gk_bg 585 (by decide +kernel) (by decide +kernel)
set_option maxRecDepth 20000 in
theorem ml_X8_149 : Cond.methodLink RX8 149 yX5_farUp ∈ gk_BG := gk_bg 586 (by decide +kernel) (by decide +kernel)
set_option maxRecDepth 20000 in
theorem ml_X5_47 : Cond.methodLink RX5 47 yX5_isBeneath ∈ gk_BG := gk_bg 590 (by decide +kernel) (by decide +kernel)
set_option maxRecDepth 20000 in
theorem ml_X8_110 : Cond.methodLink RX8 110 yX8_isIn ∈ gk_BG := gk_bg 591 (by decide +kernel) (by decide +kernel)
set_option maxRecDepth 20000 in
theorem ml_X8_278 : Cond.methodLink RX8 278 yX8_withDecisions ∈ gk_BG := gk_bg 592 (by decide +kernel) (by decide +kernel)
set_option maxRecDepth 20000 in
theorem ml_X8_226 : Cond.methodLink RX8 226 yX7_decided ∈ gk_BG := gk_bg 596 (by decide +kernel) (by decide +kernel)
set_option maxRecDepth 20000 in
theorem ml_X8_281 : Cond.methodLink RX8 281 yX8_withReasons ∈ gk_BG := gk_bg 597 (by decide +kernel) (by decide +kernel)
set_option maxRecDepth 20000 in
theorem ml_X8_229 : Cond.methodLink RX8 229 yX7_reason ∈ gk_BG := gk_bg 601 (by decide +kernel) (by decide +kernel)
set_option maxRecDepth 20000 in
theorem ml_X8_284 : Cond.methodLink RX8 284 yX8_withDone ∈ gk_BG := gk_bg 605 (by decide +kernel) (by decide +kernel)
set_option maxRecDepth 20000 in
theorem ml_X8_235 : Cond.methodLink RX8 235 yX6_doneOn ∈ gk_BG := gk_bg 609 (by decide +kernel) (by decide +kernel)
set_option maxRecDepth 20000 in
theorem ml_L_127 : Cond.methodLink RL 127 yL_addUser ∈ gk_BG := gk_bg 610 (by decide +kernel) (by decide +kernel)
set_option maxRecDepth 20000 in
theorem cl_L_13 : Cond.classLink RL 13 "java/lang/IllegalArgumentException" ∈ gk_BG := gk_bg 613 (by decide +kernel) (by decide +kernel)
set_option maxRecDepth 20000 in
theorem cl_L_15 : Cond.classLink RL 15 "java/lang/IllegalStateException" ∈ gk_BG := gk_bg 614 (by decide +kernel) (by decide +kernel)
set_option maxRecDepth 20000 in
theorem ml_L_7 : Cond.methodLink RL 7 yX8_addUser ∈ gk_BG := gk_bg 615 (by decide +kernel) (by decide +kernel)
set_option maxRecDepth 20000 in
theorem ml_X8_37 : Cond.methodLink RX8 37 yX8_isUpTo ∈ gk_BG := gk_bg 619 (by decide +kernel) (by decide +kernel)
set_option maxRecDepth 20000 in
theorem ml_X8_41 : Cond.methodLink RX8 41 yX8_checkArguments ∈ gk_BG := gk_bg 622 (by decide +kernel) (by decide +kernel)
set_option maxRecDepth 20000 in
theorem cl_X8_300 : Cond.classLink RX8 300 "java/lang/IllegalArgumentException" ∈ gk_BG := gk_bg 625 (by decide +kernel) (by decide +kernel)
set_option maxRecDepth 20000 in
theorem ml_X8_55 : Cond.methodLink RX8 55 yX8_checkState ∈ gk_BG := gk_bg 693 (by decide +kernel) (by decide +kernel)
set_option maxRecDepth 20000 in
theorem cl_X8_305 : Cond.classLink RX8 305 "java/lang/IllegalStateException" ∈ gk_BG := gk_bg 696 (by decide +kernel) (by decide +kernel)
set_option maxRecDepth 20000 in
theorem ml_X8_58 : Cond.methodLink RX8 58 yX6_add ∈ gk_BG := gk_bg 712 (by decide +kernel) (by decide +kernel)
set_option maxRecDepth 20000 in
theorem ml_X6_33 : Cond.methodLink RX6 33 yX2_put ∈ gk_BG := gk_bg 716 (by decide +kernel) (by decide +kernel)
set_option maxRecDepth 20000 in
theorem ml_L_136 : Cond.methodLink RL 136 yL_addRole ∈ gk_BG := gk_bg 717 (by decide +kernel) (by decide +kernel)
set_option maxRecDepth 20000 in
theorem ml_L_17 : Cond.methodLink RL 17 yX8_addRole ∈ gk_BG := gk_bg 720 (by decide +kernel) (by decide +kernel)
set_option maxRecDepth 20000 in
theorem ml_X8_69 : Cond.methodLink RX8 69 yX1_add ∈ gk_BG := gk_bg 724 (by decide +kernel) (by decide +kernel)
set_option maxRecDepth 20000 in
theorem ml_L_140 : Cond.methodLink RL 140 yL_addResource ∈ gk_BG := gk_bg 728 (by decide +kernel) (by decide +kernel)
set_option maxRecDepth 20000 in
theorem cl_L_25 : Cond.classLink RL 25 "java/lang/IndexOutOfBoundsException" ∈ gk_BG := gk_bg 731 (by decide +kernel) (by decide +kernel)
set_option maxRecDepth 20000 in
theorem ml_L_21 : Cond.methodLink RL 21 yX8_addResource ∈ gk_BG := gk_bg 732 (by decide +kernel) (by decide +kernel)
set_option maxRecDepth 20000 in
theorem ml_X8_72 : Cond.methodLink RX8 72 yX8_isResource ∈ gk_BG := gk_bg 736 (by decide +kernel) (by decide +kernel)
set_option maxRecDepth 20000 in
theorem ml_X8_76 : Cond.methodLink RX8 76 yX8_checkThere ∈ gk_BG := gk_bg 740 (by decide +kernel) (by decide +kernel)
set_option maxRecDepth 20000 in
theorem cl_X8_293 : Cond.classLink RX8 293 "java/lang/IndexOutOfBoundsException" ∈ gk_BG := gk_bg 743 (by decide +kernel) (by decide +kernel)
set_option maxRecDepth 20000 in
theorem ml_X8_86 : Cond.methodLink RX8 86 yX5_add ∈ gk_BG := gk_bg 759 (by decide +kernel) (by decide +kernel)
set_option maxRecDepth 20000 in
theorem ml_X5_40 : Cond.methodLink RX5 40 yX2_put ∈ gk_BG := gk_bg 763 (by decide +kernel) (by decide +kernel)
set_option maxRecDepth 20000 in
theorem ml_L_144 : Cond.methodLink RL 144 yL_setRole ∈ gk_BG := gk_bg 764 (by decide +kernel) (by decide +kernel)
set_option maxRecDepth 20000 in
theorem ml_L_27 : Cond.methodLink RL 27 yX8_setRole ∈ gk_BG := gk_bg 767 (by decide +kernel) (by decide +kernel)
set_option maxRecDepth 20000 in
theorem ml_X8_89 : Cond.methodLink RX8 89 yX8_isUser ∈ gk_BG := gk_bg 771 (by decide +kernel) (by decide +kernel)
set_option maxRecDepth 20000 in
theorem ml_X8_92 : Cond.methodLink RX8 92 yX8_isRole ∈ gk_BG := gk_bg 775 (by decide +kernel) (by decide +kernel)
set_option maxRecDepth 20000 in
theorem ml_X8_101 : Cond.methodLink RX8 101 yX1_hadWith ∈ gk_BG := gk_bg 779 (by decide +kernel) (by decide +kernel)
set_option maxRecDepth 20000 in
theorem ml_X8_104 : Cond.methodLink RX8 104 yX1_isSplit ∈ gk_BG := gk_bg 783 (by decide +kernel) (by decide +kernel)
set_option maxRecDepth 20000 in
theorem ml_X8_107 : Cond.methodLink RX8 107 yX2_put ∈ gk_BG := gk_bg 787 (by decide +kernel) (by decide +kernel)
set_option maxRecDepth 20000 in
theorem ml_L_148 : Cond.methodLink RL 148 yL_setHolds ∈ gk_BG := gk_bg 788 (by decide +kernel) (by decide +kernel)
set_option maxRecDepth 20000 in
theorem ml_L_31 : Cond.methodLink RL 31 yX8_setHolds ∈ gk_BG := gk_bg 791 (by decide +kernel) (by decide +kernel)
set_option maxRecDepth 20000 in
theorem ml_X8_113 : Cond.methodLink RX8 113 yX8_wouldSplitSomeone ∈ gk_BG := gk_bg 795 (by decide +kernel) (by decide +kernel)
set_option maxRecDepth 20000 in
theorem ml_L_151 : Cond.methodLink RL 151 yL_setApart ∈ gk_BG := gk_bg 799 (by decide +kernel) (by decide +kernel)
set_option maxRecDepth 20000 in
theorem ml_L_34 : Cond.methodLink RL 34 yX8_setApart ∈ gk_BG := gk_bg 802 (by decide +kernel) (by decide +kernel)
set_option maxRecDepth 20000 in
theorem ml_X8_125 : Cond.methodLink RX8 125 yX8_isAnyoneWith ∈ gk_BG := gk_bg 806 (by decide +kernel) (by decide +kernel)
set_option maxRecDepth 20000 in
theorem ml_X8_128 : Cond.methodLink RX8 128 yX1_part ∈ gk_BG := gk_bg 810 (by decide +kernel) (by decide +kernel)
set_option maxRecDepth 20000 in
theorem ml_X1_31 : Cond.methodLink RX1 31 yX2_put ∈ gk_BG := gk_bg 814 (by decide +kernel) (by decide +kernel)
set_option maxRecDepth 20000 in
theorem ml_L_154 : Cond.methodLink RL 154 yL_setUser ∈ gk_BG := gk_bg 815 (by decide +kernel) (by decide +kernel)
set_option maxRecDepth 20000 in
theorem ml_L_37 : Cond.methodLink RL 37 yX8_setUser ∈ gk_BG := gk_bg 818 (by decide +kernel) (by decide +kernel)
set_option maxRecDepth 20000 in
theorem ml_L_158 : Cond.methodLink RL 158 yL_setLabel ∈ gk_BG := gk_bg 822 (by decide +kernel) (by decide +kernel)
set_option maxRecDepth 20000 in
theorem ml_L_41 : Cond.methodLink RL 41 yX8_setLabel ∈ gk_BG := gk_bg 825 (by decide +kernel) (by decide +kernel)
set_option maxRecDepth 20000 in
theorem ml_L_161 : Cond.methodLink RL 161 yL_setWall ∈ gk_BG := gk_bg 829 (by decide +kernel) (by decide +kernel)
set_option maxRecDepth 20000 in
theorem ml_L_44 : Cond.methodLink RL 44 yX8_setWall ∈ gk_BG := gk_bg 832 (by decide +kernel) (by decide +kernel)
set_option maxRecDepth 20000 in
theorem ml_L_176 : Cond.methodLink RL 176 yL_near ∈ gk_BG := gk_bg 836 (by decide +kernel) (by decide +kernel)
set_option maxRecDepth 20000 in
theorem ml_L_48 : Cond.methodLink RL 48 yX8_near ∈ gk_BG := gk_bg 839 (by decide +kernel) (by decide +kernel)
set_option maxRecDepth 20000 in
theorem ml_L_179 : Cond.methodLink RL 179 yL_far ∈ gk_BG := gk_bg 843 (by decide +kernel) (by decide +kernel)
set_option maxRecDepth 20000 in
theorem ml_L_51 : Cond.methodLink RL 51 yX8_far ∈ gk_BG := gk_bg 846 (by decide +kernel) (by decide +kernel)
set_option maxRecDepth 20000 in
theorem ml_L_182 : Cond.methodLink RL 182 yL_addRule ∈ gk_BG := gk_bg 850 (by decide +kernel) (by decide +kernel)
set_option maxRecDepth 20000 in
theorem ml_L_54 : Cond.methodLink RL 54 yX8_addRule ∈ gk_BG := gk_bg 853 (by decide +kernel) (by decide +kernel)
set_option maxRecDepth 20000 in
theorem ml_X8_159 : Cond.methodLink RX8 159 yX3_add ∈ gk_BG := gk_bg 857 (by decide +kernel) (by decide +kernel)
set_option maxRecDepth 20000 in
theorem ml_X3_48 : Cond.methodLink RX3 48 yX2_put ∈ gk_BG := gk_bg 861 (by decide +kernel) (by decide +kernel)
set_option maxRecDepth 20000 in
theorem ml_L_186 : Cond.methodLink RL 186 yL_setRule ∈ gk_BG := gk_bg 862 (by decide +kernel) (by decide +kernel)
set_option maxRecDepth 20000 in
theorem ml_L_58 : Cond.methodLink RL 58 yX8_setRule ∈ gk_BG := gk_bg 865 (by decide +kernel) (by decide +kernel)
set_option maxRecDepth 20000 in
theorem ml_X8_162 : Cond.methodLink RX8 162 yX8_isRule ∈ gk_BG := gk_bg 869 (by decide +kernel) (by decide +kernel)
set_option maxRecDepth 20000 in
theorem ml_L_190 : Cond.methodLink RL 190 yL_setTerms ∈ gk_BG := gk_bg 873 (by decide +kernel) (by decide +kernel)
set_option maxRecDepth 20000 in
theorem ml_L_62 : Cond.methodLink RL 62 yX8_setTerms ∈ gk_BG := gk_bg 876 (by decide +kernel) (by decide +kernel)
set_option maxRecDepth 20000 in
theorem ml_L_194 : Cond.methodLink RL 194 yL_dropRule ∈ gk_BG := gk_bg 880 (by decide +kernel) (by decide +kernel)
set_option maxRecDepth 20000 in
theorem ml_L_66 : Cond.methodLink RL 66 yX8_dropRule ∈ gk_BG := gk_bg 883 (by decide +kernel) (by decide +kernel)
set_option maxRecDepth 20000 in
theorem ml_X8_178 : Cond.methodLink RX8 178 yX3_drop ∈ gk_BG := gk_bg 887 (by decide +kernel) (by decide +kernel)
set_option maxRecDepth 20000 in
theorem ml_X3_51 : Cond.methodLink RX3 51 yX2_takeOut ∈ gk_BG := gk_bg 891 (by decide +kernel) (by decide +kernel)
set_option maxRecDepth 20000 in
theorem ml_L_201 : Cond.methodLink RL 201 yL_setWeighing ∈ gk_BG := gk_bg 895 (by decide +kernel) (by decide +kernel)
set_option maxRecDepth 20000 in
theorem ml_L_69 : Cond.methodLink RL 69 yX8_setWeighing ∈ gk_BG := gk_bg 898 (by decide +kernel) (by decide +kernel)
set_option maxRecDepth 20000 in
theorem ml_L_204 : Cond.methodLink RL 204 yL_matches ∈ gk_BG := gk_bg 902 (by decide +kernel) (by decide +kernel)
set_option maxRecDepth 20000 in
theorem ml_L_72 : Cond.methodLink RL 72 yX8_matches ∈ gk_BG := gk_bg 905 (by decide +kernel) (by decide +kernel)
set_option maxRecDepth 20000 in
theorem ml_X8_184 : Cond.methodLink RX8 184 yX8_checkAsked ∈ gk_BG := gk_bg 909 (by decide +kernel) (by decide +kernel)
set_option maxRecDepth 20000 in
theorem ml_X8_201 : Cond.methodLink RX8 201 yX8_isAction ∈ gk_BG := gk_bg 913 (by decide +kernel) (by decide +kernel)
set_option maxRecDepth 20000 in
theorem ml_X8_191 : Cond.methodLink RX8 191 yX7_matching ∈ gk_BG := gk_bg 916 (by decide +kernel) (by decide +kernel)
set_option maxRecDepth 20000 in
theorem ml_L_207 : Cond.methodLink RL 207 yL_goOn ∈ gk_BG := gk_bg 917 (by decide +kernel) (by decide +kernel)
set_option maxRecDepth 20000 in
theorem ml_L_76 : Cond.methodLink RL 76 yX8_goOn ∈ gk_BG := gk_bg 920 (by decide +kernel) (by decide +kernel)
set_option maxRecDepth 20000 in
theorem ml_X8_198 : Cond.methodLink RX8 198 yX4_hour ∈ gk_BG := gk_bg 924 (by decide +kernel) (by decide +kernel)
set_option maxRecDepth 20000 in
theorem ml_L_214 : Cond.methodLink RL 214 yL_grant ∈ gk_BG := gk_bg 925 (by decide +kernel) (by decide +kernel)
set_option maxRecDepth 20000 in
theorem ml_L_79 : Cond.methodLink RL 79 yX8_grant ∈ gk_BG := gk_bg 928 (by decide +kernel) (by decide +kernel)
set_option maxRecDepth 20000 in
theorem ml_X8_211 : Cond.methodLink RX8 211 yX0_add ∈ gk_BG := gk_bg 932 (by decide +kernel) (by decide +kernel)
set_option maxRecDepth 20000 in
theorem ml_X0_39 : Cond.methodLink RX0 39 yX2_put ∈ gk_BG := gk_bg 936 (by decide +kernel) (by decide +kernel)
set_option maxRecDepth 20000 in
theorem ml_L_218 : Cond.methodLink RL 218 yL_revoke ∈ gk_BG := gk_bg 937 (by decide +kernel) (by decide +kernel)
set_option maxRecDepth 20000 in
theorem ml_L_83 : Cond.methodLink RL 83 yX8_revoke ∈ gk_BG := gk_bg 940 (by decide +kernel) (by decide +kernel)
set_option maxRecDepth 20000 in
theorem ml_X8_214 : Cond.methodLink RX8 214 yX8_isGrant ∈ gk_BG := gk_bg 944 (by decide +kernel) (by decide +kernel)
set_option maxRecDepth 20000 in
theorem ml_X8_217 : Cond.methodLink RX8 217 yX4_isThere ∈ gk_BG := gk_bg 948 (by decide +kernel) (by decide +kernel)
set_option maxRecDepth 20000 in
theorem ml_L_225 : Cond.methodLink RL 225 yL_isGood ∈ gk_BG := gk_bg 949 (by decide +kernel) (by decide +kernel)
set_option maxRecDepth 20000 in
theorem ml_L_87 : Cond.methodLink RL 87 yX8_isGood ∈ gk_BG := gk_bg 952 (by decide +kernel) (by decide +kernel)
set_option maxRecDepth 20000 in
theorem ml_L_228 : Cond.methodLink RL 228 yL_decide ∈ gk_BG := gk_bg 956 (by decide +kernel) (by decide +kernel)
set_option maxRecDepth 20000 in
theorem ml_L_90 : Cond.methodLink RL 90 yX8_decide ∈ gk_BG := gk_bg 959 (by decide +kernel) (by decide +kernel)
set_option maxRecDepth 20000 in
theorem ml_L_231 : Cond.methodLink RL 231 yL_why ∈ gk_BG := gk_bg 963 (by decide +kernel) (by decide +kernel)
set_option maxRecDepth 20000 in
theorem ml_L_93 : Cond.methodLink RL 93 yX8_why ∈ gk_BG := gk_bg 966 (by decide +kernel) (by decide +kernel)
set_option maxRecDepth 20000 in
theorem ml_L_234 : Cond.methodLink RL 234 yL_access ∈ gk_BG := gk_bg 970 (by decide +kernel) (by decide +kernel)
set_option maxRecDepth 20000 in
theorem ml_L_96 : Cond.methodLink RL 96 yX8_access ∈ gk_BG := gk_bg 973 (by decide +kernel) (by decide +kernel)
set_option maxRecDepth 20000 in
theorem ml_X8_232 : Cond.methodLink RX8 232 yX6_note ∈ gk_BG := gk_bg 977 (by decide +kernel) (by decide +kernel)
set_option maxRecDepth 20000 in
theorem ml_X6_40 : Cond.methodLink RX6 40 yX6_doneOn ∈ gk_BG := gk_bg 981 (by decide +kernel) (by decide +kernel)
set_option maxRecDepth 20000 in
theorem ml_L_237 : Cond.methodLink RL 237 yL_counted ∈ gk_BG := gk_bg 982 (by decide +kernel) (by decide +kernel)
set_option maxRecDepth 20000 in
theorem ml_L_99 : Cond.methodLink RL 99 yX8_counted ∈ gk_BG := gk_bg 985 (by decide +kernel) (by decide +kernel)
set_option maxRecDepth 20000 in
theorem ml_L_240 : Cond.methodLink RL 240 yL_done ∈ gk_BG := gk_bg 989 (by decide +kernel) (by decide +kernel)
set_option maxRecDepth 20000 in
theorem ml_L_102 : Cond.methodLink RL 102 yX8_done ∈ gk_BG := gk_bg 992 (by decide +kernel) (by decide +kernel)
set_option maxRecDepth 20000 in
theorem ml_L_243 : Cond.methodLink RL 243 yL_who ∈ gk_BG := gk_bg 996 (by decide +kernel) (by decide +kernel)
set_option maxRecDepth 20000 in
theorem ml_L_105 : Cond.methodLink RL 105 yX8_who ∈ gk_BG := gk_bg 999 (by decide +kernel) (by decide +kernel)
set_option maxRecDepth 20000 in
theorem ml_X8_238 : Cond.methodLink RX8 238 yX7_isAllowed ∈ gk_BG := gk_bg 1003 (by decide +kernel) (by decide +kernel)
set_option maxRecDepth 20000 in
theorem ml_L_246 : Cond.methodLink RL 246 yL_reach ∈ gk_BG := gk_bg 1004 (by decide +kernel) (by decide +kernel)
set_option maxRecDepth 20000 in
theorem ml_L_108 : Cond.methodLink RL 108 yX8_reach ∈ gk_BG := gk_bg 1007 (by decide +kernel) (by decide +kernel)
set_option maxRecDepth 20000 in
theorem ml_L_249 : Cond.methodLink RL 249 yL_rolesNeeded ∈ gk_BG := gk_bg 1011 (by decide +kernel) (by decide +kernel)
set_option maxRecDepth 20000 in
theorem ml_L_111 : Cond.methodLink RL 111 yX8_rolesNeeded ∈ gk_BG := gk_bg 1014 (by decide +kernel) (by decide +kernel)
set_option maxRecDepth 20000 in
theorem ml_X8_245 : Cond.methodLink RX8 245 yJ6_bitCount_0f7a4 ∈ gk_BG := gk_bg 1018 (by decide +kernel) (by decide +kernel)
set_option maxRecDepth 20000 in
theorem ml_X8_250 : Cond.methodLink RX8 250 yX8_wouldBeAllowed ∈ gk_BG := gk_bg 1019 (by decide +kernel) (by decide +kernel)
set_option maxRecDepth 20000 in
theorem ml_X8_261 : Cond.methodLink RX8 261 yX7_giveSet ∈ gk_BG := gk_bg 1023 (by decide +kernel) (by decide +kernel)
set_option maxRecDepth 20000 in
theorem ml_X8_287 : Cond.methodLink RX8 287 yX7_ruled ∈ gk_BG := gk_bg 1024 (by decide +kernel) (by decide +kernel)
set_option maxRecDepth 20000 in
theorem ml_X8_264 : Cond.methodLink RX8 264 yX7_weighGrants ∈ gk_BG := gk_bg 1025 (by decide +kernel) (by decide +kernel)
set_option maxRecDepth 20000 in
theorem ml_X8_290 : Cond.methodLink RX8 290 yX7_grantFor ∈ gk_BG := gk_bg 1026 (by decide +kernel) (by decide +kernel)
set_option maxRecDepth 20000 in
theorem ml_L_256 : Cond.methodLink RL 256 yL_isIdle ∈ gk_BG := gk_bg 1027 (by decide +kernel) (by decide +kernel)
set_option maxRecDepth 20000 in
theorem ml_L_114 : Cond.methodLink RL 114 yX8_isIdle ∈ gk_BG := gk_bg 1030 (by decide +kernel) (by decide +kernel)
set_option maxRecDepth 20000 in
theorem ml_X8_257 : Cond.methodLink RX8 257 yX7_differences ∈ gk_BG := gk_bg 1034 (by decide +kernel) (by decide +kernel)
set_option maxRecDepth 20000 in
theorem ml_L_259 : Cond.methodLink RL 259 yL_wouldDiffer ∈ gk_BG := gk_bg 1038 (by decide +kernel) (by decide +kernel)
set_option maxRecDepth 20000 in
theorem ml_L_117 : Cond.methodLink RL 117 yX8_wouldDiffer ∈ gk_BG := gk_bg 1041 (by decide +kernel) (by decide +kernel)
set_option maxRecDepth 20000 in
theorem ml_L_262 : Cond.methodLink RL 262 yL_wouldGain ∈ gk_BG := gk_bg 1045 (by decide +kernel) (by decide +kernel)
set_option maxRecDepth 20000 in
theorem ml_L_120 : Cond.methodLink RL 120 yX8_wouldGain ∈ gk_BG := gk_bg 1048 (by decide +kernel) (by decide +kernel)
set_option maxRecDepth 20000 in
theorem cl_L_124 : Cond.classLink RL 124 "PolicyGateModel" ∈ gk_BG := gk_bg 1052 (by decide +kernel) (by decide +kernel)
set_option maxRecDepth 20000 in
theorem it_X9 : Cond.instantiable RX9 38 ∈ gk_BG := gk_bg 1053 (by decide +kernel) (by decide +kernel)
set_option maxRecDepth 20000 in
theorem ml_L_126 : Cond.methodLink RL 126 yX9_init ∈ gk_BG := gk_bg 1054 (by decide +kernel) (by decide +kernel)
set_option maxRecDepth 20000 in
theorem fl_X9_102 : Cond.fieldLink RX9 102 "PolicyGateModel" "thrown" "I" ∈ gk_BG := gk_bg 1058 (by decide +kernel) (by decide +kernel)
set_option maxRecDepth 20000 in
theorem fl_X9_174 : Cond.fieldLink RX9 174 "PolicyGateModel" "clock" "I" ∈ gk_BG := gk_bg 1059 (by decide +kernel) (by decide +kernel)
set_option maxRecDepth 20000 in
theorem fl_X9_171 : Cond.fieldLink RX9 171 "PolicyGateModel" "weighing" "I" ∈ gk_BG := gk_bg 1060 (by decide +kernel) (by decide +kernel)
set_option maxRecDepth 20000 in
theorem fl_X9_105 : Cond.fieldLink RX9 105 "PolicyGateModel" "users" "I" ∈ gk_BG := gk_bg 1061 (by decide +kernel) (by decide +kernel)
set_option maxRecDepth 20000 in
theorem fl_X9_9 : Cond.fieldLink RX9 9 "PolicyGateModel" "set" "[I" ∈ gk_BG := gk_bg 1062 (by decide +kernel) (by decide +kernel)
set_option maxRecDepth 20000 in
theorem fl_X9_13 : Cond.fieldLink RX9 13 "PolicyGateModel" "clearance" "[I" ∈ gk_BG := gk_bg 1063 (by decide +kernel) (by decide +kernel)
set_option maxRecDepth 20000 in
theorem fl_X9_16 : Cond.fieldLink RX9 16 "PolicyGateModel" "traits" "[I" ∈ gk_BG := gk_bg 1064 (by decide +kernel) (by decide +kernel)
set_option maxRecDepth 20000 in
theorem fl_X9_112 : Cond.fieldLink RX9 112 "PolicyGateModel" "roles" "I" ∈ gk_BG := gk_bg 1065 (by decide +kernel) (by decide +kernel)
set_option maxRecDepth 20000 in
theorem fl_X9_19 : Cond.fieldLink RX9 19 "PolicyGateModel" "holds" "[I" ∈ gk_BG := gk_bg 1066 (by decide +kernel) (by decide +kernel)
set_option maxRecDepth 20000 in
theorem fl_X9_133 : Cond.fieldLink RX9 133 "PolicyGateModel" "pairs" "I" ∈ gk_BG := gk_bg 1067 (by decide +kernel) (by decide +kernel)
set_option maxRecDepth 20000 in
theorem fl_X9_22 : Cond.fieldLink RX9 22 "PolicyGateModel" "pair" "[I" ∈ gk_BG := gk_bg 1068 (by decide +kernel) (by decide +kernel)
set_option maxRecDepth 20000 in
theorem fl_X9_25 : Cond.fieldLink RX9 25 "PolicyGateModel" "resources" "I" ∈ gk_BG := gk_bg 1069 (by decide +kernel) (by decide +kernel)
set_option maxRecDepth 20000 in
theorem fl_X9_29 : Cond.fieldLink RX9 29 "PolicyGateModel" "parent" "[I" ∈ gk_BG := gk_bg 1070 (by decide +kernel) (by decide +kernel)
set_option maxRecDepth 20000 in
theorem fl_X9_32 : Cond.fieldLink RX9 32 "PolicyGateModel" "label" "[I" ∈ gk_BG := gk_bg 1071 (by decide +kernel) (by decide +kernel)
set_option maxRecDepth 20000 in
theorem fl_X9_35 : Cond.fieldLink RX9 35 "PolicyGateModel" "wall" "[I" ∈ gk_BG := gk_bg 1072 (by decide +kernel) (by decide +kernel)
set_option maxRecDepth 20000 in
theorem fl_X9_38 : Cond.fieldLink RX9 38 "PolicyGateModel" "house" "[I" ∈ gk_BG := gk_bg 1073 (by decide +kernel) (by decide +kernel)
set_option maxRecDepth 20000 in
theorem fl_X9_165 : Cond.fieldLink RX9 165 "PolicyGateModel" "rules" "I" ∈ gk_BG := gk_bg 1074 (by decide +kernel) (by decide +kernel)
set_option maxRecDepth 20000 in
theorem fl_X9_41 : Cond.fieldLink RX9 41 "PolicyGateModel" "allows" "[Z" ∈ gk_BG := gk_bg 1075 (by decide +kernel) (by decide +kernel)
set_option maxRecDepth 20000 in
theorem fl_X9_45 : Cond.fieldLink RX9 45 "PolicyGateModel" "isDeep" "[Z" ∈ gk_BG := gk_bg 1076 (by decide +kernel) (by decide +kernel)
set_option maxRecDepth 20000 in
theorem fl_X9_48 : Cond.fieldLink RX9 48 "PolicyGateModel" "whom" "[I" ∈ gk_BG := gk_bg 1077 (by decide +kernel) (by decide +kernel)
set_option maxRecDepth 20000 in
theorem fl_X9_51 : Cond.fieldLink RX9 51 "PolicyGateModel" "actions" "[I" ∈ gk_BG := gk_bg 1078 (by decide +kernel) (by decide +kernel)
set_option maxRecDepth 20000 in
theorem fl_X9_54 : Cond.fieldLink RX9 54 "PolicyGateModel" "about" "[I" ∈ gk_BG := gk_bg 1079 (by decide +kernel) (by decide +kernel)
set_option maxRecDepth 20000 in
theorem fl_X9_57 : Cond.fieldLink RX9 57 "PolicyGateModel" "rank" "[I" ∈ gk_BG := gk_bg 1080 (by decide +kernel) (by decide +kernel)
set_option maxRecDepth 20000 in
theorem fl_X9_60 : Cond.fieldLink RX9 60 "PolicyGateModel" "needs" "[I" ∈ gk_BG := gk_bg 1081 (by decide +kernel) (by decide +kernel)
set_option maxRecDepth 20000 in
theorem fl_X9_63 : Cond.fieldLink RX9 63 "PolicyGateModel" "firstHour" "[I" ∈ gk_BG := gk_bg 1082 (by decide +kernel) (by decide +kernel)
set_option maxRecDepth 20000 in
theorem fl_X9_66 : Cond.fieldLink RX9 66 "PolicyGateModel" "lastHour" "[I" ∈ gk_BG := gk_bg 1083 (by decide +kernel) (by decide +kernel)
set_option maxRecDepth 20000 in
theorem fl_X9_233 : Cond.fieldLink RX9 233 "PolicyGateModel" "grants" "I" ∈ gk_BG := gk_bg 1084 (by decide +kernel) (by decide +kernel)
set_option maxRecDepth 20000 in
theorem fl_X9_69 : Cond.fieldLink RX9 69 "PolicyGateModel" "from" "[I" ∈ gk_BG := gk_bg 1085 (by decide +kernel) (by decide +kernel)
set_option maxRecDepth 20000 in
theorem fl_X9_72 : Cond.fieldLink RX9 72 "PolicyGateModel" "to" "[I" ∈ gk_BG := gk_bg 1086 (by decide +kernel) (by decide +kernel)
set_option maxRecDepth 20000 in
theorem fl_X9_75 : Cond.fieldLink RX9 75 "PolicyGateModel" "action" "[I" ∈ gk_BG := gk_bg 1087 (by decide +kernel) (by decide +kernel)
set_option maxRecDepth 20000 in
theorem fl_X9_78 : Cond.fieldLink RX9 78 "PolicyGateModel" "on" "[I" ∈ gk_BG := gk_bg 1088 (by decide +kernel) (by decide +kernel)
set_option maxRecDepth 20000 in
theorem fl_X9_81 : Cond.fieldLink RX9 81 "PolicyGateModel" "hands" "[I" ∈ gk_BG := gk_bg 1089 (by decide +kernel) (by decide +kernel)
set_option maxRecDepth 20000 in
theorem fl_X9_84 : Cond.fieldLink RX9 84 "PolicyGateModel" "end" "[I" ∈ gk_BG := gk_bg 1090 (by decide +kernel) (by decide +kernel)
set_option maxRecDepth 20000 in
theorem fl_X9_87 : Cond.fieldLink RX9 87 "PolicyGateModel" "counted" "[I" ∈ gk_BG := gk_bg 1091 (by decide +kernel) (by decide +kernel)
set_option maxRecDepth 20000 in
theorem fl_X9_90 : Cond.fieldLink RX9 90 "PolicyGateModel" "done" "[I" ∈ gk_BG := gk_bg 1092 (by decide +kernel) (by decide +kernel)
set_option maxRecDepth 20000 in
theorem fl_X9_93 : Cond.fieldLink RX9 93 "PolicyGateModel" "without" "I" ∈ gk_BG := gk_bg 1093 (by decide +kernel) (by decide +kernel)
set_option maxRecDepth 20000 in
theorem fl_X9_96 : Cond.fieldLink RX9 96 "PolicyGateModel" "hadNear" "[I" ∈ gk_BG := gk_bg 1094 (by decide +kernel) (by decide +kernel)
set_option maxRecDepth 20000 in
theorem fl_X9_99 : Cond.fieldLink RX9 99 "PolicyGateModel" "numbers" "[I" ∈ gk_BG := gk_bg 1095 (by decide +kernel) (by decide +kernel)
set_option maxRecDepth 20000 in
theorem ml_L_133 : Cond.methodLink RL 133 yX9_thrown ∈ gk_BG := gk_bg 1174 (by decide +kernel) (by decide +kernel)
set_option maxRecDepth 20000 in
theorem ml_L_132 : Cond.methodLink RL 132 yX9_addUser ∈ gk_BG := gk_bg 1178 (by decide +kernel) (by decide +kernel)
set_option maxRecDepth 20000 in
theorem ml_X9_108 : Cond.methodLink RX9 108 yX9_isIn ∈ gk_BG := gk_bg 1182 (by decide +kernel) (by decide +kernel)
set_option maxRecDepth 20000 in
theorem ml_X9_139 : Cond.methodLink RX9 139 yX9_no ∈ gk_BG := gk_bg 1185 (by decide +kernel) (by decide +kernel)
set_option maxRecDepth 20000 in
theorem ml_L_139 : Cond.methodLink RL 139 yX9_addRole ∈ gk_BG := gk_bg 1189 (by decide +kernel) (by decide +kernel)
set_option maxRecDepth 20000 in
theorem ml_L_143 : Cond.methodLink RL 143 yX9_addResource ∈ gk_BG := gk_bg 1193 (by decide +kernel) (by decide +kernel)
set_option maxRecDepth 20000 in
theorem ml_X9_122 : Cond.methodLink RX9 122 yX9_isResource ∈ gk_BG := gk_bg 1197 (by decide +kernel) (by decide +kernel)
set_option maxRecDepth 20000 in
theorem ml_L_147 : Cond.methodLink RL 147 yX9_setRole ∈ gk_BG := gk_bg 1201 (by decide +kernel) (by decide +kernel)
set_option maxRecDepth 20000 in
theorem ml_X9_115 : Cond.methodLink RX9 115 yX9_isUser ∈ gk_BG := gk_bg 1205 (by decide +kernel) (by decide +kernel)
set_option maxRecDepth 20000 in
theorem ml_X9_142 : Cond.methodLink RX9 142 yX9_isRole ∈ gk_BG := gk_bg 1209 (by decide +kernel) (by decide +kernel)
set_option maxRecDepth 20000 in
theorem ml_X9_145 : Cond.methodLink RX9 145 yX9_isNot ∈ gk_BG := gk_bg 1213 (by decide +kernel) (by decide +kernel)
set_option maxRecDepth 20000 in
theorem ml_X9_136 : Cond.methodLink RX9 136 yX9_hasApart ∈ gk_BG := gk_bg 1217 (by decide +kernel) (by decide +kernel)
set_option maxRecDepth 20000 in
theorem ml_X9_129 : Cond.methodLink RX9 129 yX9_had ∈ gk_BG := gk_bg 1221 (by decide +kernel) (by decide +kernel)
set_option maxRecDepth 20000 in
theorem ml_X9_125 : Cond.methodLink RX9 125 yX9_nears_ ∈ gk_BG := gk_bg 1225 (by decide +kernel) (by decide +kernel)
set_option maxRecDepth 20000 in
theorem ml_L_150 : Cond.methodLink RL 150 yX9_setHolds ∈ gk_BG := gk_bg 1229 (by decide +kernel) (by decide +kernel)
set_option maxRecDepth 20000 in
theorem ml_X9_148 : Cond.methodLink RX9 148 yX9_areAllRight ∈ gk_BG := gk_bg 1233 (by decide +kernel) (by decide +kernel)
set_option maxRecDepth 20000 in
theorem ml_L_153 : Cond.methodLink RL 153 yX9_setApart ∈ gk_BG := gk_bg 1237 (by decide +kernel) (by decide +kernel)
set_option maxRecDepth 20000 in
theorem ml_L_157 : Cond.methodLink RL 157 yX9_setUser ∈ gk_BG := gk_bg 1241 (by decide +kernel) (by decide +kernel)
set_option maxRecDepth 20000 in
theorem ml_L_160 : Cond.methodLink RL 160 yX9_setLabel ∈ gk_BG := gk_bg 1245 (by decide +kernel) (by decide +kernel)
set_option maxRecDepth 20000 in
theorem ml_L_163 : Cond.methodLink RL 163 yX9_setWall ∈ gk_BG := gk_bg 1249 (by decide +kernel) (by decide +kernel)
set_option maxRecDepth 20000 in
theorem ml_L_167 : Cond.methodLink RL 167 yX9_users ∈ gk_BG := gk_bg 1253 (by decide +kernel) (by decide +kernel)
set_option maxRecDepth 20000 in
theorem ml_X9_152 : Cond.methodLink RX9 152 yX9_ok ∈ gk_BG := gk_bg 1257 (by decide +kernel) (by decide +kernel)
set_option maxRecDepth 20000 in
theorem ml_L_171 : Cond.methodLink RL 171 yX9_roles ∈ gk_BG := gk_bg 1261 (by decide +kernel) (by decide +kernel)
set_option maxRecDepth 20000 in
theorem ml_L_175 : Cond.methodLink RL 175 yX9_resources ∈ gk_BG := gk_bg 1265 (by decide +kernel) (by decide +kernel)
set_option maxRecDepth 20000 in
theorem ml_L_178 : Cond.methodLink RL 178 yX9_near ∈ gk_BG := gk_bg 1269 (by decide +kernel) (by decide +kernel)
set_option maxRecDepth 20000 in
theorem ml_X9_155 : Cond.methodLink RX9 155 yX9_nears ∈ gk_BG := gk_bg 1273 (by decide +kernel) (by decide +kernel)
set_option maxRecDepth 20000 in
theorem ml_X9_158 : Cond.methodLink RX9 158 yX9_orNone ∈ gk_BG := gk_bg 1277 (by decide +kernel) (by decide +kernel)
set_option maxRecDepth 20000 in
theorem ml_L_181 : Cond.methodLink RL 181 yX9_far ∈ gk_BG := gk_bg 1280 (by decide +kernel) (by decide +kernel)
set_option maxRecDepth 20000 in
theorem ml_X9_161 : Cond.methodLink RX9 161 yX9_farNow ∈ gk_BG := gk_bg 1284 (by decide +kernel) (by decide +kernel)
set_option maxRecDepth 20000 in
theorem ml_L_185 : Cond.methodLink RL 185 yX9_addRule ∈ gk_BG := gk_bg 1288 (by decide +kernel) (by decide +kernel)
set_option maxRecDepth 20000 in
theorem ml_L_189 : Cond.methodLink RL 189 yX9_setRule ∈ gk_BG := gk_bg 1292 (by decide +kernel) (by decide +kernel)
set_option maxRecDepth 20000 in
theorem ml_X9_168 : Cond.methodLink RX9 168 yX9_isRule ∈ gk_BG := gk_bg 1296 (by decide +kernel) (by decide +kernel)
set_option maxRecDepth 20000 in
theorem ml_L_193 : Cond.methodLink RL 193 yX9_setTerms ∈ gk_BG := gk_bg 1300 (by decide +kernel) (by decide +kernel)
set_option maxRecDepth 20000 in
theorem ml_L_196 : Cond.methodLink RL 196 yX9_dropRule ∈ gk_BG := gk_bg 1304 (by decide +kernel) (by decide +kernel)
set_option maxRecDepth 20000 in
theorem ml_L_200 : Cond.methodLink RL 200 yX9_rules ∈ gk_BG := gk_bg 1308 (by decide +kernel) (by decide +kernel)
set_option maxRecDepth 20000 in
theorem ml_L_203 : Cond.methodLink RL 203 yX9_setWeighing ∈ gk_BG := gk_bg 1312 (by decide +kernel) (by decide +kernel)
set_option maxRecDepth 20000 in
theorem ml_L_206 : Cond.methodLink RL 206 yX9_matches ∈ gk_BG := gk_bg 1316 (by decide +kernel) (by decide +kernel)
set_option maxRecDepth 20000 in
theorem ml_X9_196 : Cond.methodLink RX9 196 yX9_isQuestion ∈ gk_BG := gk_bg 1320 (by decide +kernel) (by decide +kernel)
set_option maxRecDepth 20000 in
theorem ml_X9_119 : Cond.methodLink RX9 119 yX9_isAction ∈ gk_BG := gk_bg 1324 (by decide +kernel) (by decide +kernel)
set_option maxRecDepth 20000 in
theorem ml_X9_199 : Cond.methodLink RX9 199 yX9_matching ∈ gk_BG := gk_bg 1327 (by decide +kernel) (by decide +kernel)
set_option maxRecDepth 20000 in
theorem ml_X9_188 : Cond.methodLink RX9 188 yX9_fitting ∈ gk_BG := gk_bg 1331 (by decide +kernel) (by decide +kernel)
set_option maxRecDepth 20000 in
theorem ml_X9_181 : Cond.methodLink RX9 181 yX9_isNow ∈ gk_BG := gk_bg 1335 (by decide +kernel) (by decide +kernel)
set_option maxRecDepth 20000 in
theorem ml_X9_177 : Cond.methodLink RX9 177 yX9_hour ∈ gk_BG := gk_bg 1339 (by decide +kernel) (by decide +kernel)
set_option maxRecDepth 20000 in
theorem ml_X9_192 : Cond.methodLink RX9 192 yX9_own ∈ gk_BG := gk_bg 1343 (by decide +kernel) (by decide +kernel)
set_option maxRecDepth 20000 in
theorem ml_X9_184 : Cond.methodLink RX9 184 yX9_isFor ∈ gk_BG := gk_bg 1347 (by decide +kernel) (by decide +kernel)
set_option maxRecDepth 20000 in
theorem ml_L_209 : Cond.methodLink RL 209 yX9_goOn ∈ gk_BG := gk_bg 1351 (by decide +kernel) (by decide +kernel)
set_option maxRecDepth 20000 in
theorem ml_L_213 : Cond.methodLink RL 213 yX9_clock ∈ gk_BG := gk_bg 1355 (by decide +kernel) (by decide +kernel)
set_option maxRecDepth 20000 in
theorem ml_L_217 : Cond.methodLink RL 217 yX9_grant ∈ gk_BG := gk_bg 1359 (by decide +kernel) (by decide +kernel)
set_option maxRecDepth 20000 in
theorem ml_L_220 : Cond.methodLink RL 220 yX9_revoke ∈ gk_BG := gk_bg 1363 (by decide +kernel) (by decide +kernel)
set_option maxRecDepth 20000 in
theorem ml_X9_259 : Cond.methodLink RX9 259 yX9_isGrant ∈ gk_BG := gk_bg 1367 (by decide +kernel) (by decide +kernel)
set_option maxRecDepth 20000 in
theorem ml_L_224 : Cond.methodLink RL 224 yX9_grants ∈ gk_BG := gk_bg 1371 (by decide +kernel) (by decide +kernel)
set_option maxRecDepth 20000 in
theorem ml_L_227 : Cond.methodLink RL 227 yX9_isGood ∈ gk_BG := gk_bg 1375 (by decide +kernel) (by decide +kernel)
set_option maxRecDepth 20000 in
theorem ml_X9_247 : Cond.methodLink RX9 247 yX9_allNears ∈ gk_BG := gk_bg 1379 (by decide +kernel) (by decide +kernel)
set_option maxRecDepth 20000 in
theorem cl_X9_229 : Cond.classLink RX9 229 "[I" ∈ gk_BG := gk_bg 1383 (by decide +kernel) (by decide +kernel)
set_option maxRecDepth 20000 in
theorem ml_X9_251 : Cond.methodLink RX9 251 yX9_good ∈ gk_BG := gk_bg 1385 (by decide +kernel) (by decide +kernel)
set_option maxRecDepth 20000 in
theorem ml_X9_236 : Cond.methodLink RX9 236 yX9_isByRules ∈ gk_BG := gk_bg 1389 (by decide +kernel) (by decide +kernel)
set_option maxRecDepth 20000 in
theorem ml_X9_230 : Cond.methodLink RX9 230 yX9_byRules ∈ gk_BG := gk_bg 1393 (by decide +kernel) (by decide +kernel)
set_option maxRecDepth 20000 in
theorem ml_X9_222 : Cond.methodLink RX9 222 yX9_barred ∈ gk_BG := gk_bg 1397 (by decide +kernel) (by decide +kernel)
set_option maxRecDepth 20000 in
theorem ml_X9_218 : Cond.methodLink RX9 218 yX9_isWalled ∈ gk_BG := gk_bg 1401 (by decide +kernel) (by decide +kernel)
set_option maxRecDepth 20000 in
theorem ml_X9_225 : Cond.methodLink RX9 225 yX9_deciding ∈ gk_BG := gk_bg 1405 (by decide +kernel) (by decide +kernel)
set_option maxRecDepth 20000 in
theorem ml_X9_215 : Cond.methodLink RX9 215 yX9_weigh ∈ gk_BG := gk_bg 1409 (by decide +kernel) (by decide +kernel)
set_option maxRecDepth 20000 in
theorem ml_X9_208 : Cond.methodLink RX9 208 yX9_firstOf ∈ gk_BG := gk_bg 1413 (by decide +kernel) (by decide +kernel)
set_option maxRecDepth 20000 in
theorem ml_X9_212 : Cond.methodLink RX9 212 yX9_leastOf ∈ gk_BG := gk_bg 1417 (by decide +kernel) (by decide +kernel)
set_option maxRecDepth 20000 in
theorem ml_X9_203 : Cond.methodLink RX9 203 yJ9_min_7cf53 ∈ gk_BG := gk_bg 1421 (by decide +kernel) (by decide +kernel)
set_option maxRecDepth 20000 in
theorem ml_X9_240 : Cond.methodLink RX9 240 yX9_leaning ∈ gk_BG := gk_bg 1424 (by decide +kernel) (by decide +kernel)
set_option maxRecDepth 20000 in
theorem ml_L_230 : Cond.methodLink RL 230 yX9_decide ∈ gk_BG := gk_bg 1428 (by decide +kernel) (by decide +kernel)
set_option maxRecDepth 20000 in
theorem ml_X9_262 : Cond.methodLink RX9 262 yX9_decideNow ∈ gk_BG := gk_bg 1432 (by decide +kernel) (by decide +kernel)
set_option maxRecDepth 20000 in
theorem ml_X9_255 : Cond.methodLink RX9 255 yX9_decided ∈ gk_BG := gk_bg 1436 (by decide +kernel) (by decide +kernel)
set_option maxRecDepth 20000 in
theorem ml_X9_243 : Cond.methodLink RX9 243 yX9_granting ∈ gk_BG := gk_bg 1440 (by decide +kernel) (by decide +kernel)
set_option maxRecDepth 20000 in
theorem ml_L_233 : Cond.methodLink RL 233 yX9_why ∈ gk_BG := gk_bg 1444 (by decide +kernel) (by decide +kernel)
set_option maxRecDepth 20000 in
theorem ml_X9_265 : Cond.methodLink RX9 265 yX9_whyNow ∈ gk_BG := gk_bg 1448 (by decide +kernel) (by decide +kernel)
set_option maxRecDepth 20000 in
theorem ml_L_236 : Cond.methodLink RL 236 yX9_access ∈ gk_BG := gk_bg 1452 (by decide +kernel) (by decide +kernel)
set_option maxRecDepth 20000 in
theorem ml_X9_269 : Cond.methodLink RX9 269 yX9_isAllowed ∈ gk_BG := gk_bg 1456 (by decide +kernel) (by decide +kernel)
set_option maxRecDepth 20000 in
theorem ml_L_239 : Cond.methodLink RL 239 yX9_counted ∈ gk_BG := gk_bg 1459 (by decide +kernel) (by decide +kernel)
set_option maxRecDepth 20000 in
theorem ml_L_242 : Cond.methodLink RL 242 yX9_done ∈ gk_BG := gk_bg 1463 (by decide +kernel) (by decide +kernel)
set_option maxRecDepth 20000 in
theorem ml_L_245 : Cond.methodLink RL 245 yX9_who ∈ gk_BG := gk_bg 1467 (by decide +kernel) (by decide +kernel)
set_option maxRecDepth 20000 in
theorem ml_L_248 : Cond.methodLink RL 248 yX9_reach ∈ gk_BG := gk_bg 1471 (by decide +kernel) (by decide +kernel)
set_option maxRecDepth 20000 in
theorem ml_L_251 : Cond.methodLink RL 251 yX9_rolesNeeded ∈ gk_BG := gk_bg 1475 (by decide +kernel) (by decide +kernel)
set_option maxRecDepth 20000 in
theorem ml_X9_272 : Cond.methodLink RX9 272 yX9_many ∈ gk_BG := gk_bg 1479 (by decide +kernel) (by decide +kernel)
set_option maxRecDepth 20000 in
theorem ml_X9_275 : Cond.methodLink RX9 275 yX9_isGranted ∈ gk_BG := gk_bg 1482 (by decide +kernel) (by decide +kernel)
set_option maxRecDepth 20000 in
theorem ml_X9_279 : Cond.methodLink RX9 279 yX9_isAllowing ∈ gk_BG := gk_bg 1486 (by decide +kernel) (by decide +kernel)
set_option maxRecDepth 20000 in
theorem ml_L_255 : Cond.methodLink RL 255 yX9_contradictions ∈ gk_BG := gk_bg 1490 (by decide +kernel) (by decide +kernel)
set_option maxRecDepth 20000 in
theorem ml_X9_283 : Cond.methodLink RX9 283 yX9_contradictionsNow ∈ gk_BG := gk_bg 1494 (by decide +kernel) (by decide +kernel)
set_option maxRecDepth 20000 in
theorem ml_L_258 : Cond.methodLink RL 258 yX9_isIdle ∈ gk_BG := gk_bg 1498 (by decide +kernel) (by decide +kernel)
set_option maxRecDepth 20000 in
theorem ml_X9_286 : Cond.methodLink RX9 286 yX9_table ∈ gk_BG := gk_bg 1502 (by decide +kernel) (by decide +kernel)
set_option maxRecDepth 20000 in
theorem ml_X9_290 : Cond.methodLink RX9 290 yX9_differences ∈ gk_BG := gk_bg 1506 (by decide +kernel) (by decide +kernel)
set_option maxRecDepth 20000 in
theorem ml_L_261 : Cond.methodLink RL 261 yX9_wouldDiffer ∈ gk_BG := gk_bg 1509 (by decide +kernel) (by decide +kernel)
set_option maxRecDepth 20000 in
theorem ml_L_264 : Cond.methodLink RL 264 yX9_wouldGain ∈ gk_BG := gk_bg 1513 (by decide +kernel) (by decide +kernel)
set_option maxRecDepth 20000 in
theorem ml_L_269 : Cond.methodLink RL 269 yX9_openness ∈ gk_BG := gk_bg 1517 (by decide +kernel) (by decide +kernel)
set_option maxRecDepth 20000 in
theorem ml_L_274 : Cond.methodLink RL 274 yX9_digest ∈ gk_BG := gk_bg 1521 (by decide +kernel) (by decide +kernel)
set_option maxRecDepth 20000 in
theorem k_X9_294 : Cond.constantLong RX9 294 (79949) ∈ gk_BG := gk_bg 1525 (by decide +kernel) (by decide +kernel)
set_option maxRecDepth 20000 in
theorem k_X9_296 : Cond.constantLong RX9 296 (31) ∈ gk_BG := gk_bg 1526 (by decide +kernel) (by decide +kernel)
set_option maxRecDepth 20000 in
theorem iwX0 : ∀ w ∈ wsX00, w ∈ gk_BG := by decide +kernel
set_option maxRecDepth 20000 in
theorem iwX1 : ∀ w ∈ wsX10, w ∈ gk_BG := by decide +kernel
set_option maxRecDepth 20000 in
theorem iwX2 : ∀ w ∈ wsX20, w ∈ gk_BG := by decide +kernel
set_option maxRecDepth 20000 in
theorem iwX3 : ∀ w ∈ wsX30, w ∈ gk_BG := by decide +kernel
set_option maxRecDepth 20000 in
theorem iwX4 : ∀ w ∈ wsX40, w ∈ gk_BG := by decide +kernel
set_option maxRecDepth 20000 in
theorem iwX5 : ∀ w ∈ wsX50, w ∈ gk_BG := by decide +kernel
set_option maxRecDepth 20000 in
theorem iwX6 : ∀ w ∈ wsX60, w ∈ gk_BG := by decide +kernel
set_option maxRecDepth 20000 in
theorem iwX7 : ∀ w ∈ wsX70, w ∈ gk_BG := by decide +kernel
set_option maxRecDepth 20000 in
theorem iwX8 : ∀ w ∈ wsX80, w ∈ gk_BG := by decide +kernel
set_option maxRecDepth 20000 in
theorem iwX9 : ∀ w ∈ wsX90, w ∈ gk_BG := by decide +kernel
