/-! ===== BEGIN printed: names, fields, word lists, decode rows ===== -/
def RX0 : String := "ChannelWinter$Breaker"
def TX0 : u_T := fun k => match k with
  | 0 => ("ChannelWinter$Breaker", "route", "LChannelWinter$Route;", true)
  | 1 => ("ChannelWinter$Breaker", "cell", "I", false)
  | 2 => ("ChannelWinter$Breaker", "fuel", "I", false)
  | 3 => ("ChannelWinter$Breaker", "stuck", "I", false)
  | _ => ("ChannelWinter$Breaker", "left", "I", false)
def tyX0 : Nat → FieldType := fun k => match k with
  | 0 => .object "ChannelWinter$Route"
  | 1 => .int
  | 2 => .int
  | 3 => .int
  | _ => .int
abbrev wsX00 : List Cond := u_ws RX0 TX0 5
theorem nmX0 : ∀ a, a < 5 → ∀ b, b < 5 → a ≠ b → (TX0 a).2.1 ≠ (TX0 b).2.1 := by decide +kernel
theorem tyX0_ok : ∀ k, k < 5 → parseFieldDescriptor (TX0 k).2.2.1 = some (tyX0 k) := by decide +kernel
abbrev cX0_init : ByteArray := prog_2_method_1_code
def yX0_init : MethodName := ⟨RX0, "<init>", "()V"⟩
abbrev cX0_enter : ByteArray := prog_2_method_2_code
def yX0_enter : MethodName := ⟨RX0, "enter", "(II)V"⟩
abbrev cX0_copyFrom : ByteArray := prog_2_method_3_code
def yX0_copyFrom : MethodName := ⟨RX0, "copyFrom", "(LChannelWinter$Breaker;)V"⟩
def RX1 : String := "ChannelWinter$Cell"
def TX1 : u_T := fun k => match k with
  | 0 => ("ChannelWinter$Cell", "ice", "I", false)
  | 1 => ("ChannelWinter$Cell", "press", "I", false)
  | 2 => ("ChannelWinter$Cell", "channel", "I", false)
  | 3 => ("ChannelWinter$Cell", "land", "Z", false)
  | _ => ("ChannelWinter$Cell", "gain", "I", false)
def tyX1 : Nat → FieldType := fun k => match k with
  | 0 => .int
  | 1 => .int
  | 2 => .int
  | 3 => .boolean
  | _ => .int
abbrev wsX10 : List Cond := u_ws RX1 TX1 5
theorem nmX1 : ∀ a, a < 5 → ∀ b, b < 5 → a ≠ b → (TX1 a).2.1 ≠ (TX1 b).2.1 := by decide +kernel
theorem tyX1_ok : ∀ k, k < 5 → parseFieldDescriptor (TX1 k).2.2.1 = some (tyX1 k) := by decide +kernel
abbrev cX1_init : ByteArray := prog_3_method_1_code
def yX1_init : MethodName := ⟨RX1, "<init>", "()V"⟩
abbrev cX1_worth : ByteArray := prog_3_method_2_code
def yX1_worth : MethodName := ⟨RX1, "worth", "()I"⟩
abbrev cX1_worthInChannel : ByteArray := prog_3_method_3_code
def yX1_worthInChannel : MethodName := ⟨RX1, "worthInChannel", "()I"⟩
abbrev cX1_worthUnbroken : ByteArray := prog_3_method_4_code
def yX1_worthUnbroken : MethodName := ⟨RX1, "worthUnbroken", "()I"⟩
abbrev cX1_giveTenthTo : ByteArray := prog_3_method_6_code
def yX1_giveTenthTo : MethodName := ⟨RX1, "giveTenthTo", "(LChannelWinter$Cell;)V"⟩
abbrev cX1_settleDrift : ByteArray := prog_3_method_7_code
def yX1_settleDrift : MethodName := ⟨RX1, "settleDrift", "()V"⟩
abbrev cX1_freeze : ByteArray := prog_3_method_8_code
def yX1_freeze : MethodName := ⟨RX1, "freeze", "(I)I"⟩
abbrev cX1_closeChannel : ByteArray := prog_3_method_9_code
def yX1_closeChannel : MethodName := ⟨RX1, "closeChannel", "()V"⟩
abbrev cX1_copyFrom : ByteArray := prog_3_method_10_code
def yX1_copyFrom : MethodName := ⟨RX1, "copyFrom", "(LChannelWinter$Cell;)V"⟩
def RX2 : String := "ChannelWinter$Chart"
def TX2 : u_T := fun k => match k with
  | 0 => ("ChannelWinter$Chart", "prices", "[I", true)
  | _ => ("ChannelWinter$Chart", "costs", "[I", true)
def tyX2 : Nat → FieldType := fun k => match k with
  | 0 => .array .int
  | _ => .array .int
abbrev wsX20 : List Cond := u_ws RX2 TX2 2
theorem nmX2 : ∀ a, a < 2 → ∀ b, b < 2 → a ≠ b → (TX2 a).2.1 ≠ (TX2 b).2.1 := by decide +kernel
theorem tyX2_ok : ∀ k, k < 2 → parseFieldDescriptor (TX2 k).2.2.1 = some (tyX2 k) := by decide +kernel
abbrev cX2_init : ByteArray := prog_4_method_1_code
def yX2_init : MethodName := ⟨RX2, "<init>", "()V"⟩
abbrev cX2_setPrice : ByteArray := prog_4_method_2_code
def yX2_setPrice : MethodName := ⟨RX2, "setPrice", "(II)V"⟩
abbrev cX2_cheapest : ByteArray := prog_4_method_3_code
def yX2_cheapest : MethodName := ⟨RX2, "cheapest", "(II)I"⟩
abbrev cX2_relax : ByteArray := prog_4_method_4_code
def yX2_relax : MethodName := ⟨RX2, "relax", "()Z"⟩
abbrev cX2_cheapestNeighbour : ByteArray := prog_4_method_5_code
def yX2_cheapestNeighbour : MethodName := ⟨RX2, "cheapestNeighbour", "(I)I"⟩
abbrev cX2_costAt : ByteArray := prog_4_method_6_code
def yX2_costAt : MethodName := ⟨RX2, "costAt", "(I)I"⟩
def RX3 : String := "ChannelWinter$Port"
def TX3 : u_T := fun k => match k with
  | 0 => ("ChannelWinter$Port", "leasts", "[I", true)
  | 1 => ("ChannelWinter$Port", "hours", "[I", true)
  | 2 => ("ChannelWinter$Port", "exempts", "[Z", true)
  | 3 => ("ChannelWinter$Port", "rules", "I", false)
  | _ => ("ChannelWinter$Port", "cell", "I", false)
def tyX3 : Nat → FieldType := fun k => match k with
  | 0 => .array .int
  | 1 => .array .int
  | 2 => .array .boolean
  | 3 => .int
  | _ => .int
abbrev wsX30 : List Cond := u_ws RX3 TX3 5
theorem nmX3 : ∀ a, a < 5 → ∀ b, b < 5 → a ≠ b → (TX3 a).2.1 ≠ (TX3 b).2.1 := by decide +kernel
theorem tyX3_ok : ∀ k, k < 5 → parseFieldDescriptor (TX3 k).2.2.1 = some (tyX3 k) := by decide +kernel
abbrev cX3_init : ByteArray := prog_5_method_1_code
def yX3_init : MethodName := ⟨RX3, "<init>", "()V"⟩
abbrev cX3_addRule : ByteArray := prog_5_method_2_code
def yX3_addRule : MethodName := ⟨RX3, "addRule", "(II)V"⟩
abbrev cX3_leastAt : ByteArray := prog_5_method_3_code
def yX3_leastAt : MethodName := ⟨RX3, "leastAt", "(I)I"⟩
abbrev cX3_isExempt : ByteArray := prog_5_method_5_code
def yX3_isExempt : MethodName := ⟨RX3, "isExempt", "(I)Z"⟩
abbrev cX3_letsIn : ByteArray := prog_5_method_6_code
def yX3_letsIn : MethodName := ⟨RX3, "letsIn", "(III)Z"⟩
def RX4 : String := "ChannelWinter$Ports"
def TX4 : u_T := fun k => match k with
  | 0 => ("ChannelWinter$Ports", "all", "[LChannelWinter$Port;", true)
  | _ => ("ChannelWinter$Ports", "count", "I", false)
def tyX4 : Nat → FieldType := fun k => match k with
  | 0 => .array (.object "ChannelWinter$Port")
  | _ => .int
abbrev wsX40 : List Cond := u_ws RX4 TX4 2
theorem nmX4 : ∀ a, a < 2 → ∀ b, b < 2 → a ≠ b → (TX4 a).2.1 ≠ (TX4 b).2.1 := by decide +kernel
theorem tyX4_ok : ∀ k, k < 2 → parseFieldDescriptor (TX4 k).2.2.1 = some (tyX4 k) := by decide +kernel
abbrev cX4_init : ByteArray := prog_6_method_1_code
def yX4_init : MethodName := ⟨RX4, "<init>", "()V"⟩
abbrev cX4_portAt : ByteArray := prog_6_method_2_code
def yX4_portAt : MethodName := ⟨RX4, "portAt", "(I)LChannelWinter$Port;"⟩
abbrev cX4_found : ByteArray := prog_6_method_3_code
def yX4_found : MethodName := ⟨RX4, "found", "(I)I"⟩
abbrev cX4_isPort : ByteArray := prog_6_method_4_code
def yX4_isPort : MethodName := ⟨RX4, "isPort", "(I)Z"⟩
def RX5 : String := "ChannelWinter$Route"
def TX5 : u_T := fun k => match k with
  | 0 => ("ChannelWinter$Route", "cells", "[I", true)
  | _ => ("ChannelWinter$Route", "size", "I", false)
def tyX5 : Nat → FieldType := fun k => match k with
  | 0 => .array .int
  | _ => .int
abbrev wsX50 : List Cond := u_ws RX5 TX5 2
theorem nmX5 : ∀ a, a < 2 → ∀ b, b < 2 → a ≠ b → (TX5 a).2.1 ≠ (TX5 b).2.1 := by decide +kernel
theorem tyX5_ok : ∀ k, k < 2 → parseFieldDescriptor (TX5 k).2.2.1 = some (tyX5 k) := by decide +kernel
abbrev cX5_init : ByteArray := prog_7_method_1_code
def yX5_init : MethodName := ⟨RX5, "<init>", "()V"⟩
abbrev cX5_isFull : ByteArray := prog_7_method_2_code
def yX5_isFull : MethodName := ⟨RX5, "isFull", "()Z"⟩
abbrev cX5_add : ByteArray := prog_7_method_3_code
def yX5_add : MethodName := ⟨RX5, "add", "(I)I"⟩
abbrev cX5_first : ByteArray := prog_7_method_4_code
def yX5_first : MethodName := ⟨RX5, "first", "()I"⟩
abbrev cX5_takeFirst : ByteArray := prog_7_method_5_code
def yX5_takeFirst : MethodName := ⟨RX5, "takeFirst", "()V"⟩
abbrev cX5_drop : ByteArray := prog_7_method_6_code
def yX5_drop : MethodName := ⟨RX5, "drop", "()I"⟩
abbrev cX5_copyFrom : ByteArray := prog_7_method_7_code
def yX5_copyFrom : MethodName := ⟨RX5, "copyFrom", "(LChannelWinter$Route;)V"⟩
def RX6 : String := "ChannelWinter$Sea"
def TX6 : u_T := fun k => match k with
  | 0 => ("ChannelWinter$Sea", "cells", "[LChannelWinter$Cell;", true)
  | 1 => ("ChannelWinter$Sea", "breakers", "[LChannelWinter$Breaker;", true)
  | 2 => ("ChannelWinter$Sea", "ships", "[LChannelWinter$Ship;", true)
  | 3 => ("ChannelWinter$Sea", "breakerCount", "I", false)
  | 4 => ("ChannelWinter$Sea", "shipCount", "I", false)
  | 5 => ("ChannelWinter$Sea", "now", "I", false)
  | _ => ("ChannelWinter$Sea", "frozen", "I", false)
def tyX6 : Nat → FieldType := fun k => match k with
  | 0 => .array (.object "ChannelWinter$Cell")
  | 1 => .array (.object "ChannelWinter$Breaker")
  | 2 => .array (.object "ChannelWinter$Ship")
  | 3 => .int
  | 4 => .int
  | 5 => .int
  | _ => .int
abbrev wsX60 : List Cond := u_ws RX6 TX6 7
theorem nmX6 : ∀ a, a < 7 → ∀ b, b < 7 → a ≠ b → (TX6 a).2.1 ≠ (TX6 b).2.1 := by decide +kernel
theorem tyX6_ok : ∀ k, k < 7 → parseFieldDescriptor (TX6 k).2.2.1 = some (tyX6 k) := by decide +kernel
abbrev cX6_init : ByteArray := prog_8_method_1_code
def yX6_init : MethodName := ⟨RX6, "<init>", "()V"⟩
abbrev cX6_cellAt : ByteArray := prog_8_method_2_code
def yX6_cellAt : MethodName := ⟨RX6, "cellAt", "(I)LChannelWinter$Cell;"⟩
abbrev cX6_breakerAt : ByteArray := prog_8_method_3_code
def yX6_breakerAt : MethodName := ⟨RX6, "breakerAt", "(I)LChannelWinter$Breaker;"⟩
abbrev cX6_shipAt : ByteArray := prog_8_method_4_code
def yX6_shipAt : MethodName := ⟨RX6, "shipAt", "(I)LChannelWinter$Ship;"⟩
abbrev cX6_addBreaker : ByteArray := prog_8_method_5_code
def yX6_addBreaker : MethodName := ⟨RX6, "addBreaker", "(II)I"⟩
abbrev cX6_addShip : ByteArray := prog_8_method_6_code
def yX6_addShip : MethodName := ⟨RX6, "addShip", "(IIII)I"⟩
abbrev cX6_passHour : ByteArray := prog_8_method_7_code
def yX6_passHour : MethodName := ⟨RX6, "passHour", "(LChannelWinter$Ports;II)I"⟩
abbrev cX6_drift : ByteArray := prog_8_method_8_code
def yX6_drift : MethodName := ⟨RX6, "drift", "(I)V"⟩
abbrev cX6_moveBreaker : ByteArray := prog_8_method_9_code
def yX6_moveBreaker : MethodName := ⟨RX6, "moveBreaker", "(LChannelWinter$Breaker;)V"⟩
abbrev cX6_moveShip : ByteArray := prog_8_method_10_code
def yX6_moveShip : MethodName := ⟨RX6, "moveShip", "(ILChannelWinter$Ports;)Z"⟩
abbrev cX6_goFree : ByteArray := prog_8_method_11_code
def yX6_goFree : MethodName := ⟨RX6, "goFree", "(LChannelWinter$Ship;)I"⟩
abbrev cX6_goBound : ByteArray := prog_8_method_12_code
def yX6_goBound : MethodName := ⟨RX6, "goBound", "(LChannelWinter$Ship;)I"⟩
abbrev cX6_countShipsIn : ByteArray := prog_8_method_14_code
def yX6_countShipsIn : MethodName := ⟨RX6, "countShipsIn", "(I)I"⟩
abbrev cX6_countLed : ByteArray := prog_8_method_15_code
def yX6_countLed : MethodName := ⟨RX6, "countLed", "(I)I"⟩
abbrev cX6_towedBy : ByteArray := prog_8_method_16_code
def yX6_towedBy : MethodName := ⟨RX6, "towedBy", "(I)I"⟩
abbrev cX6_countArrived : ByteArray := prog_8_method_17_code
def yX6_countArrived : MethodName := ⟨RX6, "countArrived", "()I"⟩
abbrev cX6_allWaits : ByteArray := prog_8_method_18_code
def yX6_allWaits : MethodName := ⟨RX6, "allWaits", "()I"⟩
abbrev cX6_allDues : ByteArray := prog_8_method_19_code
def yX6_allDues : MethodName := ⟨RX6, "allDues", "()I"⟩
abbrev cX6_allDamage : ByteArray := prog_8_method_20_code
def yX6_allDamage : MethodName := ⟨RX6, "allDamage", "()I"⟩
abbrev cX6_allIce : ByteArray := prog_8_method_21_code
def yX6_allIce : MethodName := ⟨RX6, "allIce", "()I"⟩
abbrev cX6_countChannels : ByteArray := prog_8_method_22_code
def yX6_countChannels : MethodName := ⟨RX6, "countChannels", "()I"⟩
abbrev cX6_copyFrom : ByteArray := prog_8_method_24_code
def yX6_copyFrom : MethodName := ⟨RX6, "copyFrom", "(LChannelWinter$Sea;)V"⟩
def RX7 : String := "ChannelWinter$Ship"
def TX7 : u_T := fun k => match k with
  | 0 => ("ChannelWinter$Ship", "route", "LChannelWinter$Route;", true)
  | 1 => ("ChannelWinter$Ship", "waits", "[I", true)
  | 2 => ("ChannelWinter$Ship", "cell", "I", false)
  | 3 => ("ChannelWinter$Ship", "rank", "I", false)
  | 4 => ("ChannelWinter$Ship", "bears", "I", false)
  | 5 => ("ChannelWinter$Ship", "power", "I", false)
  | 6 => ("ChannelWinter$Ship", "port", "I", false)
  | 7 => ("ChannelWinter$Ship", "status", "I", false)
  | 8 => ("ChannelWinter$Ship", "breaker", "I", false)
  | 9 => ("ChannelWinter$Ship", "damage", "I", false)
  | 10 => ("ChannelWinter$Ship", "dues", "I", false)
  | _ => ("ChannelWinter$Ship", "arrivedAt", "I", false)
def tyX7 : Nat → FieldType := fun k => match k with
  | 0 => .object "ChannelWinter$Route"
  | 1 => .array .int
  | 2 => .int
  | 3 => .int
  | 4 => .int
  | 5 => .int
  | 6 => .int
  | 7 => .int
  | 8 => .int
  | 9 => .int
  | 10 => .int
  | _ => .int
abbrev wsX70 : List Cond := u_ws RX7 TX7 12
theorem nmX7 : ∀ a, a < 12 → ∀ b, b < 12 → a ≠ b → (TX7 a).2.1 ≠ (TX7 b).2.1 := by decide +kernel
theorem tyX7_ok : ∀ k, k < 12 → parseFieldDescriptor (TX7 k).2.2.1 = some (tyX7 k) := by decide +kernel
abbrev cX7_init : ByteArray := prog_9_method_1_code
def yX7_init : MethodName := ⟨RX7, "<init>", "()V"⟩
abbrev cX7_setClass : ByteArray := prog_9_method_2_code
def yX7_setClass : MethodName := ⟨RX7, "setClass", "(I)V"⟩
abbrev cX7_hindrance : ByteArray := prog_9_method_3_code
def yX7_hindrance : MethodName := ⟨RX7, "hindrance", "(IZ)I"⟩
abbrev cX7_isBound : ByteArray := prog_9_method_4_code
def yX7_isBound : MethodName := ⟨RX7, "isBound", "(II)Z"⟩
abbrev cX7_bind : ByteArray := prog_9_method_5_code
def yX7_bind : MethodName := ⟨RX7, "bind", "(II)V"⟩
abbrev cX7_setFree : ByteArray := prog_9_method_6_code
def yX7_setFree : MethodName := ⟨RX7, "setFree", "()V"⟩
abbrev cX7_follow : ByteArray := prog_9_method_7_code
def yX7_follow : MethodName := ⟨RX7, "follow", "(II)I"⟩
abbrev cX7_arrive : ByteArray := prog_9_method_8_code
def yX7_arrive : MethodName := ⟨RX7, "arrive", "(I)V"⟩
abbrev cX7_countWait : ByteArray := prog_9_method_9_code
def yX7_countWait : MethodName := ⟨RX7, "countWait", "(I)V"⟩
abbrev cX7_waitsBy : ByteArray := prog_9_method_10_code
def yX7_waitsBy : MethodName := ⟨RX7, "waitsBy", "(I)I"⟩
abbrev cX7_allWaits : ByteArray := prog_9_method_11_code
def yX7_allWaits : MethodName := ⟨RX7, "allWaits", "()I"⟩
abbrev cX7_copyFrom : ByteArray := prog_9_method_12_code
def yX7_copyFrom : MethodName := ⟨RX7, "copyFrom", "(LChannelWinter$Ship;)V"⟩
def RX8 : String := "ChannelWinter"
def TX8 : u_T := fun k => match k with
  | 0 => ("ChannelWinter", "ports", "LChannelWinter$Ports;", true)
  | 1 => ("ChannelWinter", "sea", "LChannelWinter$Sea;", true)
  | 2 => ("ChannelWinter", "trial", "LChannelWinter$Sea;", true)
  | _ => ("ChannelWinter", "chart", "LChannelWinter$Chart;", true)
def tyX8 : Nat → FieldType := fun k => match k with
  | 0 => .object "ChannelWinter$Ports"
  | 1 => .object "ChannelWinter$Sea"
  | 2 => .object "ChannelWinter$Sea"
  | _ => .object "ChannelWinter$Chart"
abbrev wsX80 : List Cond := u_ws RX8 TX8 4
theorem nmX8 : ∀ a, a < 4 → ∀ b, b < 4 → a ≠ b → (TX8 a).2.1 ≠ (TX8 b).2.1 := by decide +kernel
theorem tyX8_ok : ∀ k, k < 4 → parseFieldDescriptor (TX8 k).2.2.1 = some (tyX8 k) := by decide +kernel
abbrev cX8_init : ByteArray := prog_1_method_1_code
def yX8_init : MethodName := ⟨RX8, "<init>", "()V"⟩
abbrev cX8_ice : ByteArray := prog_1_method_2_code
def yX8_ice : MethodName := ⟨RX8, "ice", "(II)I"⟩
abbrev cX8_port : ByteArray := prog_1_method_4_code
def yX8_port : MethodName := ⟨RX8, "port", "(I)I"⟩
abbrev cX8_rule : ByteArray := prog_1_method_5_code
def yX8_rule : MethodName := ⟨RX8, "rule", "(III)I"⟩
abbrev cX8_breaker : ByteArray := prog_1_method_7_code
def yX8_breaker : MethodName := ⟨RX8, "breaker", "(II)I"⟩
abbrev cX8_ship : ByteArray := prog_1_method_8_code
def yX8_ship : MethodName := ⟨RX8, "ship", "(IIII)I"⟩
abbrev cX8_steer : ByteArray := prog_1_method_9_code
def yX8_steer : MethodName := ⟨RX8, "steer", "(II)I"⟩
abbrev cX8_sail : ByteArray := prog_1_method_10_code
def yX8_sail : MethodName := ⟨RX8, "sail", "(II)I"⟩
abbrev cX8_lead : ByteArray := prog_1_method_12_code
def yX8_lead : MethodName := ⟨RX8, "lead", "(II)I"⟩
abbrev cX8_tow : ByteArray := prog_1_method_13_code
def yX8_tow : MethodName := ⟨RX8, "tow", "(II)I"⟩
abbrev cX8_pass : ByteArray := prog_1_method_15_code
def yX8_pass : MethodName := ⟨RX8, "pass", "(III)I"⟩
abbrev cX8_ofCell : ByteArray := prog_1_method_16_code
def yX8_ofCell : MethodName := ⟨RX8, "ofCell", "(II)I"⟩
abbrev cX8_ofBreaker : ByteArray := prog_1_method_17_code
def yX8_ofBreaker : MethodName := ⟨RX8, "ofBreaker", "(II)I"⟩
abbrev cX8_ofShip : ByteArray := prog_1_method_18_code
def yX8_ofShip : MethodName := ⟨RX8, "ofShip", "(II)I"⟩
abbrev cX8_inForce : ByteArray := prog_1_method_19_code
def yX8_inForce : MethodName := ⟨RX8, "inForce", "(II)I"⟩
abbrev cX8_many : ByteArray := prog_1_method_20_code
def yX8_many : MethodName := ⟨RX8, "many", "(I)I"⟩
abbrev cX8_way : ByteArray := prog_1_method_22_code
def yX8_way : MethodName := ⟨RX8, "way", "(II)I"⟩
abbrev cX8_toBreak : ByteArray := prog_1_method_23_code
def yX8_toBreak : MethodName := ⟨RX8, "toBreak", "(I)I"⟩
abbrev cX8_helpNext : ByteArray := prog_1_method_24_code
def yX8_helpNext : MethodName := ⟨RX8, "helpNext", "(I)I"⟩
abbrev cX8_arriveIn : ByteArray := prog_1_method_25_code
def yX8_arriveIn : MethodName := ⟨RX8, "arriveIn", "(IIII)I"⟩
abbrev cX8_digest : ByteArray := prog_1_method_26_code
def yX8_digest : MethodName := ⟨RX8, "digest", "()J"⟩
abbrev cX8_portCellOf : ByteArray := prog_1_method_27_code
def yX8_portCellOf : MethodName := ⟨RX8, "portCellOf", "(LChannelWinter$Ship;)I"⟩
abbrev cX8_channelsNeeded : ByteArray := prog_1_method_28_code
def yX8_channelsNeeded : MethodName := ⟨RX8, "channelsNeeded", "(LChannelWinter$Ship;)I"⟩
abbrev cX8_breakingPrice : ByteArray := prog_1_method_29_code
def yX8_breakingPrice : MethodName := ⟨RX8, "breakingPrice", "(LChannelWinter$Ship;LChannelWinter$Cell;)I"⟩
abbrev cX8_canEnter : ByteArray := prog_1_method_30_code
def yX8_canEnter : MethodName := ⟨RX8, "canEnter", "(LChannelWinter$Ship;LChannelWinter$Cell;)Z"⟩
abbrev cX8_canTake : ByteArray := prog_1_method_31_code
def yX8_canTake : MethodName := ⟨RX8, "canTake", "(LChannelWinter$Breaker;LChannelWinter$Ship;)Z"⟩
abbrev cX8_isWeather : ByteArray := prog_1_method_32_code
def yX8_isWeather : MethodName := ⟨RX8, "isWeather", "(II)Z"⟩
abbrev cX8_within : ByteArray := prog_1_method_33_code
def yX8_within : MethodName := ⟨RX8, "within", "(III)Z"⟩
abbrev cX8_demandArgument : ByteArray := prog_1_method_34_code
def yX8_demandArgument : MethodName := ⟨RX8, "demandArgument", "(Z)V"⟩
abbrev cX8_demandState : ByteArray := prog_1_method_35_code
def yX8_demandState : MethodName := ⟨RX8, "demandState", "(Z)V"⟩
abbrev cX8_neighbour : ByteArray := prog_1_method_36_code
def yX8_neighbour : MethodName := ⟨RX8, "neighbour", "(II)I"⟩
abbrev cX8_distance : ByteArray := prog_1_method_37_code
def yX8_distance : MethodName := ⟨RX8, "distance", "(II)I"⟩
def RX9 : String := "ChannelWinterModel$Breaker"
def TX9 : u_T := fun k => match k with
  | _ => ("", "", "", false)
def tyX9 : Nat → FieldType := fun k => match k with
  | _ => .int
abbrev wsX90 : List Cond := u_ws RX9 TX9 0
theorem nmX9 : ∀ a, a < 0 → ∀ b, b < 0 → a ≠ b → (TX9 a).2.1 ≠ (TX9 b).2.1 := by decide +kernel
theorem tyX9_ok : ∀ k, k < 0 → parseFieldDescriptor (TX9 k).2.2.1 = some (tyX9 k) := by decide +kernel
def RX10 : String := "ChannelWinterModel$Port"
def TX10 : u_T := fun k => match k with
  | _ => ("", "", "", false)
def tyX10 : Nat → FieldType := fun k => match k with
  | _ => .int
abbrev wsX100 : List Cond := u_ws RX10 TX10 0
theorem nmX10 : ∀ a, a < 0 → ∀ b, b < 0 → a ≠ b → (TX10 a).2.1 ≠ (TX10 b).2.1 := by decide +kernel
theorem tyX10_ok : ∀ k, k < 0 → parseFieldDescriptor (TX10 k).2.2.1 = some (tyX10 k) := by decide +kernel
def RX11 : String := "ChannelWinterModel$Sea"
def TX11 : u_T := fun k => match k with
  | _ => ("", "", "", false)
def tyX11 : Nat → FieldType := fun k => match k with
  | _ => .int
abbrev wsX110 : List Cond := u_ws RX11 TX11 0
theorem nmX11 : ∀ a, a < 0 → ∀ b, b < 0 → a ≠ b → (TX11 a).2.1 ≠ (TX11 b).2.1 := by decide +kernel
theorem tyX11_ok : ∀ k, k < 0 → parseFieldDescriptor (TX11 k).2.2.1 = some (tyX11 k) := by decide +kernel
def RX12 : String := "ChannelWinterModel$Ship"
def TX12 : u_T := fun k => match k with
  | _ => ("", "", "", false)
def tyX12 : Nat → FieldType := fun k => match k with
  | _ => .int
abbrev wsX120 : List Cond := u_ws RX12 TX12 0
theorem nmX12 : ∀ a, a < 0 → ∀ b, b < 0 → a ≠ b → (TX12 a).2.1 ≠ (TX12 b).2.1 := by decide +kernel
theorem tyX12_ok : ∀ k, k < 0 → parseFieldDescriptor (TX12 k).2.2.1 = some (tyX12 k) := by decide +kernel
def RX13 : String := "ChannelWinterModel"
def TX13 : u_T := fun k => match k with
  | _ => ("", "", "", false)
def tyX13 : Nat → FieldType := fun k => match k with
  | _ => .int
abbrev wsX130 : List Cond := u_ws RX13 TX13 0
theorem nmX13 : ∀ a, a < 0 → ∀ b, b < 0 → a ≠ b → (TX13 a).2.1 ≠ (TX13 b).2.1 := by decide +kernel
theorem tyX13_ok : ∀ k, k < 0 → parseFieldDescriptor (TX13 k).2.2.1 = some (tyX13 k) := by decide +kernel
def RJx145de : String := "java/io/Serializable"
def TJx145de : u_T := fun k => match k with
  | _ => ("", "", "", false)
def tyJx145de : Nat → FieldType := fun k => match k with
  | _ => .int
abbrev wsJx145de0 : List Cond := u_ws RJx145de TJx145de 0
theorem nmJx145de : ∀ a, a < 0 → ∀ b, b < 0 → a ≠ b → (TJx145de a).2.1 ≠ (TJx145de b).2.1 := by decide +kernel
theorem tyJx145de_ok : ∀ k, k < 0 → parseFieldDescriptor (TJx145de k).2.2.1 = some (tyJx145de k) := by decide +kernel
def RJ9 : String := "java/lang/Math"
def TJ9 : u_T := fun k => match k with
  | _ => ("", "", "", false)
def tyJ9 : Nat → FieldType := fun k => match k with
  | _ => .int
abbrev wsJ90 : List Cond := u_ws RJ9 TJ9 0
theorem nmJ9 : ∀ a, a < 0 → ∀ b, b < 0 → a ≠ b → (TJ9 a).2.1 ≠ (TJ9 b).2.1 := by decide +kernel
theorem tyJ9_ok : ∀ k, k < 0 → parseFieldDescriptor (TJ9 k).2.2.1 = some (tyJ9 k) := by decide +kernel
abbrev cJ9_abs_0f7a4 : ByteArray := prog_20_method_59_code
def yJ9_abs_0f7a4 : MethodName := ⟨RJ9, "abs", "(I)I"⟩
abbrev cJ9_max_7cf53 : ByteArray := prog_20_method_65_code
def yJ9_max_7cf53 : MethodName := ⟨RJ9, "max", "(II)I"⟩
abbrev cJ9_min_7cf53 : ByteArray := prog_20_method_69_code
def yJ9_min_7cf53 : MethodName := ⟨RJ9, "min", "(II)I"⟩
def RJ0 : String := "java/lang/String"
def TJ0 : u_T := fun k => match k with
  | _ => ("", "", "", false)
def tyJ0 : Nat → FieldType := fun k => match k with
  | _ => .int
abbrev wsJ00 : List Cond := u_ws RJ0 TJ0 0
theorem nmJ0 : ∀ a, a < 0 → ∀ b, b < 0 → a ≠ b → (TJ0 a).2.1 ≠ (TJ0 b).2.1 := by decide +kernel
theorem tyJ0_ok : ∀ k, k < 0 → parseFieldDescriptor (TJ0 k).2.2.1 = some (tyJ0 k) := by decide +kernel
def RL : String := "ChannelWinterLaw"
abbrev cL_below : ByteArray := method_2_code
def yL_below : MethodName := ⟨RL, "below", "(II)I"⟩
abbrev cL_cell : ByteArray := method_3_code
def yL_cell : MethodName := ⟨RL, "cell", "([II)I"⟩
abbrev cL_law : ByteArray := code
def yL_law : MethodName := ⟨RL, "law", "([I)Z"⟩
abbrev cL_isBeside : ByteArray := method_5_code
def yL_isBeside : MethodName := ⟨RL, "isBeside", "(II)Z"⟩
abbrev cL_next : ByteArray := method_6_code
def yL_next : MethodName := ⟨RL, "next", "(II)I"⟩
abbrev cL_waits : ByteArray := method_7_code
def yL_waits : MethodName := ⟨RL, "waits", "(LChannelWinter;I)I"⟩
abbrev cL_isPassed : ByteArray := method_8_code
def yL_isPassed : MethodName := ⟨RL, "isPassed", "(LChannelWinter;II)Z"⟩
abbrev cL_isAhead : ByteArray := method_9_code
def yL_isAhead : MethodName := ⟨RL, "isAhead", "(LChannelWinter;III)Z"⟩
abbrev cL_isSound : ByteArray := method_10_code
def yL_isSound : MethodName := ⟨RL, "isSound", "(LChannelWinter;)Z"⟩
abbrev vwCl : List vw_C := [(RX0, TX0, 5), (RX0, TX0, 5), (RX0, TX0, 5), (RX0, TX0, 5), (RX1, TX1, 5), (RX2, TX2, 2), (RX3, TX3, 5), (RX4, TX4, 2), (RX5, TX5, 2), (RX6, TX6, 7), (RX7, TX7, 12), (RX8, TX8, 4), (RX0, TX0, 5), (RX0, TX0, 5), (RX0, TX0, 5), (RX0, TX0, 5), (RX0, TX0, 5)]
