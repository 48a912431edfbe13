/-! ===== BEGIN printed: names, fields, word lists, decode rows ===== -/
def RX0 : String := "ChannelWinter$Breaker"
def TX0 : u_T := fun k => match k with
  | 0 => ("ChannelWinter$Breaker", "route", "LChannelWinter$Route;", true)
  | 1 => ("ChannelWinter$Breaker", "cell", "I", false)
  | 2 => ("ChannelWinter$Breaker", "fuel", "I", false)
  | 3 => ("ChannelWinter$Breaker", "stuck", "I", false)
  | _ => ("ChannelWinter$Breaker", "left", "I", false)
def tyX0 : Nat → FieldType := fun k => match k with
  | 0 => .object "ChannelWinter$Route"
  | 1 => .int
  | 2 => .int
  | 3 => .int
  | _ => .int
abbrev wsX00 : List Cond := u_ws RX0 TX0 5
theorem nmX0 : ∀ a, a < 5 → ∀ b, b < 5 → a ≠ b → (TX0 a).2.1 ≠ (TX0 b).2.1 := by decide +kernel
theorem tyX0_ok : ∀ k, k < 5 → parseFieldDescriptor (TX0 k).2.2.1 = some (tyX0 k) := by decide +kernel
abbrev cX0_init : ByteArray := prog_2_method_1_code
def yX0_init : MethodName := ⟨RX0, "<init>", "()V"⟩
abbrev cX0_enter : ByteArray := prog_2_method_2_code
def yX0_enter : MethodName := ⟨RX0, "enter", "(II)V"⟩
abbrev cX0_copyFrom : ByteArray := prog_2_method_3_code
def yX0_copyFrom : MethodName := ⟨RX0, "copyFrom", "(LChannelWinter$Breaker;)V"⟩
def RX1 : String := "ChannelWinter$Cell"
def TX1 : u_T := fun k => match k with
  | 0 => ("ChannelWinter$Cell", "ice", "I", false)
  | 1 => ("ChannelWinter$Cell", "press", "I", false)
  | 2 => ("ChannelWinter$Cell", "channel", "I", false)
  | 3 => ("ChannelWinter$Cell", "land", "Z", false)
  | _ => ("ChannelWinter$Cell", "gain", "I", false)
def tyX1 : Nat → FieldType := fun k => match k with
  | 0 => .int
  | 1 => .int
  | 2 => .int
  | 3 => .boolean
  | _ => .int
abbrev wsX10 : List Cond := u_ws RX1 TX1 5
theorem nmX1 : ∀ a, a < 5 → ∀ b, b < 5 → a ≠ b → (TX1 a).2.1 ≠ (TX1 b).2.1 := by decide +kernel
theorem tyX1_ok : ∀ k, k < 5 → parseFieldDescriptor (TX1 k).2.2.1 = some (tyX1 k) := by decide +kernel
abbrev cX1_init : ByteArray := prog_3_method_1_code
def yX1_init : MethodName := ⟨RX1, "<init>", "()V"⟩
abbrev cX1_worth : ByteArray := prog_3_method_2_code
def yX1_worth : MethodName := ⟨RX1, "worth", "()I"⟩
abbrev cX1_worthInChannel : ByteArray := prog_3_method_3_code
def yX1_worthInChannel : MethodName := ⟨RX1, "worthInChannel", "()I"⟩
abbrev cX1_worthUnbroken : ByteArray := prog_3_method_4_code
def yX1_worthUnbroken : MethodName := ⟨RX1, "worthUnbroken", "()I"⟩
abbrev cX1_becomeLand : ByteArray := prog_3_method_5_code
def yX1_becomeLand : MethodName := ⟨RX1, "becomeLand", "()V"⟩
abbrev cX1_giveTenthTo : ByteArray := prog_3_method_6_code
def yX1_giveTenthTo : MethodName := ⟨RX1, "giveTenthTo", "(LChannelWinter$Cell;)V"⟩
abbrev cX1_settleDrift : ByteArray := prog_3_method_7_code
def yX1_settleDrift : MethodName := ⟨RX1, "settleDrift", "()V"⟩
abbrev cX1_freeze : ByteArray := prog_3_method_8_code
def yX1_freeze : MethodName := ⟨RX1, "freeze", "(I)I"⟩
abbrev cX1_closeChannel : ByteArray := prog_3_method_9_code
def yX1_closeChannel : MethodName := ⟨RX1, "closeChannel", "()V"⟩
abbrev cX1_copyFrom : ByteArray := prog_3_method_10_code
def yX1_copyFrom : MethodName := ⟨RX1, "copyFrom", "(LChannelWinter$Cell;)V"⟩
def RX2 : String := "ChannelWinter$Chart"
def TX2 : u_T := fun k => match k with
  | 0 => ("ChannelWinter$Chart", "prices", "[I", true)
  | _ => ("ChannelWinter$Chart", "costs", "[I", true)
def tyX2 : Nat → FieldType := fun k => match k with
  | 0 => .array .int
  | _ => .array .int
abbrev wsX20 : List Cond := u_ws RX2 TX2 2
theorem nmX2 : ∀ a, a < 2 → ∀ b, b < 2 → a ≠ b → (TX2 a).2.1 ≠ (TX2 b).2.1 := by decide +kernel
theorem tyX2_ok : ∀ k, k < 2 → parseFieldDescriptor (TX2 k).2.2.1 = some (tyX2 k) := by decide +kernel
abbrev cX2_init : ByteArray := prog_4_method_1_code
def yX2_init : MethodName := ⟨RX2, "<init>", "()V"⟩
abbrev cX2_setPrice : ByteArray := prog_4_method_2_code
def yX2_setPrice : MethodName := ⟨RX2, "setPrice", "(II)V"⟩
abbrev cX2_cheapest : ByteArray := prog_4_method_3_code
def yX2_cheapest : MethodName := ⟨RX2, "cheapest", "(II)I"⟩
abbrev cX2_relax : ByteArray := prog_4_method_4_code
def yX2_relax : MethodName := ⟨RX2, "relax", "()Z"⟩
abbrev cX2_cheapestNeighbour : ByteArray := prog_4_method_5_code
def yX2_cheapestNeighbour : MethodName := ⟨RX2, "cheapestNeighbour", "(I)I"⟩
abbrev cX2_costAt : ByteArray := prog_4_method_6_code
def yX2_costAt : MethodName := ⟨RX2, "costAt", "(I)I"⟩
def RX3 : String := "ChannelWinter$Port"
def TX3 : u_T := fun k => match k with
  | 0 => ("ChannelWinter$Port", "leasts", "[I", true)
  | 1 => ("ChannelWinter$Port", "hours", "[I", true)
  | 2 => ("ChannelWinter$Port", "exempts", "[Z", true)
  | 3 => ("ChannelWinter$Port", "rules", "I", false)
  | _ => ("ChannelWinter$Port", "cell", "I", false)
def tyX3 : Nat → FieldType := fun k => match k with
  | 0 => .array .int
  | 1 => .array .int
  | 2 => .array .boolean
  | 3 => .int
  | _ => .int
abbrev wsX30 : List Cond := u_ws RX3 TX3 5
theorem nmX3 : ∀ a, a < 5 → ∀ b, b < 5 → a ≠ b → (TX3 a).2.1 ≠ (TX3 b).2.1 := by decide +kernel
theorem tyX3_ok : ∀ k, k < 5 → parseFieldDescriptor (TX3 k).2.2.1 = some (tyX3 k) := by decide +kernel
abbrev cX3_init : ByteArray := prog_5_method_1_code
def yX3_init : MethodName := ⟨RX3, "<init>", "()V"⟩
abbrev cX3_addRule : ByteArray := prog_5_method_2_code
def yX3_addRule : MethodName := ⟨RX3, "addRule", "(II)V"⟩
abbrev cX3_leastAt : ByteArray := prog_5_method_3_code
def yX3_leastAt : MethodName := ⟨RX3, "leastAt", "(I)I"⟩
abbrev cX3_makeExempt : ByteArray := prog_5_method_4_code
def yX3_makeExempt : MethodName := ⟨RX3, "makeExempt", "(I)V"⟩
abbrev cX3_isExempt : ByteArray := prog_5_method_5_code
def yX3_isExempt : MethodName := ⟨RX3, "isExempt", "(I)Z"⟩
abbrev cX3_letsIn : ByteArray := prog_5_method_6_code
def yX3_letsIn : MethodName := ⟨RX3, "letsIn", "(III)Z"⟩
def RX4 : String := "ChannelWinter$Ports"
def TX4 : u_T := fun k => match k with
  | 0 => ("ChannelWinter$Ports", "all", "[LChannelWinter$Port;", true)
  | _ => ("ChannelWinter$Ports", "count", "I", false)
def tyX4 : Nat → FieldType := fun k => match k with
  | 0 => .array (.object "ChannelWinter$Port")
  | _ => .int
abbrev wsX40 : List Cond := u_ws RX4 TX4 2
theorem nmX4 : ∀ a, a < 2 → ∀ b, b < 2 → a ≠ b → (TX4 a).2.1 ≠ (TX4 b).2.1 := by decide +kernel
theorem tyX4_ok : ∀ k, k < 2 → parseFieldDescriptor (TX4 k).2.2.1 = some (tyX4 k) := by decide +kernel
abbrev cX4_init : ByteArray := prog_6_method_1_code
def yX4_init : MethodName := ⟨RX4, "<init>", "()V"⟩
abbrev cX4_portAt : ByteArray := prog_6_method_2_code
def yX4_portAt : MethodName := ⟨RX4, "portAt", "(I)LChannelWinter$Port;"⟩
abbrev cX4_found : ByteArray := prog_6_method_3_code
def yX4_found : MethodName := ⟨RX4, "found", "(I)I"⟩
abbrev cX4_isPort : ByteArray := prog_6_method_4_code
def yX4_isPort : MethodName := ⟨RX4, "isPort", "(I)Z"⟩
def RX5 : String := "ChannelWinter$Route"
def TX5 : u_T := fun k => match k with
  | 0 => ("ChannelWinter$Route", "cells", "[I", true)
  | _ => ("ChannelWinter$Route", "size", "I", false)
def tyX5 : Nat → FieldType := fun k => match k with
  | 0 => .array .int
  | _ => .int
abbrev wsX50 : List Cond := u_ws RX5 TX5 2
theorem nmX5 : ∀ a, a < 2 → ∀ b, b < 2 → a ≠ b → (TX5 a).2.1 ≠ (TX5 b).2.1 := by decide +kernel
theorem tyX5_ok : ∀ k, k < 2 → parseFieldDescriptor (TX5 k).2.2.1 = some (tyX5 k) := by decide +kernel
abbrev cX5_init : ByteArray := prog_7_method_1_code
def yX5_init : MethodName := ⟨RX5, "<init>", "()V"⟩
abbrev cX5_isFull : ByteArray := prog_7_method_2_code
def yX5_isFull : MethodName := ⟨RX5, "isFull", "()Z"⟩
abbrev cX5_add : ByteArray := prog_7_method_3_code
def yX5_add : MethodName := ⟨RX5, "add", "(I)I"⟩
abbrev cX5_first : ByteArray := prog_7_method_4_code
def yX5_first : MethodName := ⟨RX5, "first", "()I"⟩
abbrev cX5_takeFirst : ByteArray := prog_7_method_5_code
def yX5_takeFirst : MethodName := ⟨RX5, "takeFirst", "()V"⟩
abbrev cX5_drop : ByteArray := prog_7_method_6_code
def yX5_drop : MethodName := ⟨RX5, "drop", "()I"⟩
abbrev cX5_copyFrom : ByteArray := prog_7_method_7_code
def yX5_copyFrom : MethodName := ⟨RX5, "copyFrom", "(LChannelWinter$Route;)V"⟩
def RX6 : String := "ChannelWinter$Sea"
def TX6 : u_T := fun k => match k with
  | 0 => ("ChannelWinter$Sea", "cells", "[LChannelWinter$Cell;", true)
  | 1 => ("ChannelWinter$Sea", "breakers", "[LChannelWinter$Breaker;", true)
  | 2 => ("ChannelWinter$Sea", "ships", "[LChannelWinter$Ship;", true)
  | 3 => ("ChannelWinter$Sea", "breakerCount", "I", false)
  | 4 => ("ChannelWinter$Sea", "shipCount", "I", false)
  | 5 => ("ChannelWinter$Sea", "now", "I", false)
  | _ => ("ChannelWinter$Sea", "frozen", "I", false)
def tyX6 : Nat → FieldType := fun k => match k with
  | 0 => .array (.object "ChannelWinter$Cell")
  | 1 => .array (.object "ChannelWinter$Breaker")
  | 2 => .array (.object "ChannelWinter$Ship")
  | 3 => .int
  | 4 => .int
  | 5 => .int
  | _ => .int
abbrev wsX60 : List Cond := u_ws RX6 TX6 7
theorem nmX6 : ∀ a, a < 7 → ∀ b, b < 7 → a ≠ b → (TX6 a).2.1 ≠ (TX6 b).2.1 := by decide +kernel
theorem tyX6_ok : ∀ k, k < 7 → parseFieldDescriptor (TX6 k).2.2.1 = some (tyX6 k) := by decide +kernel
abbrev cX6_init : ByteArray := prog_8_method_1_code
def yX6_init : MethodName := ⟨RX6, "<init>", "()V"⟩
abbrev cX6_cellAt : ByteArray := prog_8_method_2_code
def yX6_cellAt : MethodName := ⟨RX6, "cellAt", "(I)LChannelWinter$Cell;"⟩
abbrev cX6_breakerAt : ByteArray := prog_8_method_3_code
def yX6_breakerAt : MethodName := ⟨RX6, "breakerAt", "(I)LChannelWinter$Breaker;"⟩
abbrev cX6_shipAt : ByteArray := prog_8_method_4_code
def yX6_shipAt : MethodName := ⟨RX6, "shipAt", "(I)LChannelWinter$Ship;"⟩
abbrev cX6_addBreaker : ByteArray := prog_8_method_5_code
def yX6_addBreaker : MethodName := ⟨RX6, "addBreaker", "(II)I"⟩
abbrev cX6_addShip : ByteArray := prog_8_method_6_code
def yX6_addShip : MethodName := ⟨RX6, "addShip", "(IIII)I"⟩
abbrev cX6_passHour : ByteArray := prog_8_method_7_code
def yX6_passHour : MethodName := ⟨RX6, "passHour", "(LChannelWinter$Ports;II)I"⟩
abbrev cX6_drift : ByteArray := prog_8_method_8_code
def yX6_drift : MethodName := ⟨RX6, "drift", "(I)V"⟩
abbrev cX6_moveBreaker : ByteArray := prog_8_method_9_code
def yX6_moveBreaker : MethodName := ⟨RX6, "moveBreaker", "(LChannelWinter$Breaker;)V"⟩
abbrev cX6_moveShip : ByteArray := prog_8_method_10_code
def yX6_moveShip : MethodName := ⟨RX6, "moveShip", "(ILChannelWinter$Ports;)Z"⟩
abbrev cX6_goFree : ByteArray := prog_8_method_11_code
def yX6_goFree : MethodName := ⟨RX6, "goFree", "(LChannelWinter$Ship;)I"⟩
abbrev cX6_goBound : ByteArray := prog_8_method_12_code
def yX6_goBound : MethodName := ⟨RX6, "goBound", "(LChannelWinter$Ship;)I"⟩
abbrev cX6_isTaken : ByteArray := prog_8_method_13_code
def yX6_isTaken : MethodName := ⟨RX6, "isTaken", "(I)Z"⟩
abbrev cX6_countShipsIn : ByteArray := prog_8_method_14_code
def yX6_countShipsIn : MethodName := ⟨RX6, "countShipsIn", "(I)I"⟩
abbrev cX6_countLed : ByteArray := prog_8_method_15_code
def yX6_countLed : MethodName := ⟨RX6, "countLed", "(I)I"⟩
abbrev cX6_towedBy : ByteArray := prog_8_method_16_code
def yX6_towedBy : MethodName := ⟨RX6, "towedBy", "(I)I"⟩
abbrev cX6_countArrived : ByteArray := prog_8_method_17_code
def yX6_countArrived : MethodName := ⟨RX6, "countArrived", "()I"⟩
abbrev cX6_allWaits : ByteArray := prog_8_method_18_code
def yX6_allWaits : MethodName := ⟨RX6, "allWaits", "()I"⟩
abbrev cX6_allDues : ByteArray := prog_8_method_19_code
def yX6_allDues : MethodName := ⟨RX6, "allDues", "()I"⟩
abbrev cX6_allDamage : ByteArray := prog_8_method_20_code
def yX6_allDamage : MethodName := ⟨RX6, "allDamage", "()I"⟩
abbrev cX6_allIce : ByteArray := prog_8_method_21_code
def yX6_allIce : MethodName := ⟨RX6, "allIce", "()I"⟩
abbrev cX6_countChannels : ByteArray := prog_8_method_22_code
def yX6_countChannels : MethodName := ⟨RX6, "countChannels", "()I"⟩
abbrev cX6_countOpen : ByteArray := prog_8_method_23_code
def yX6_countOpen : MethodName := ⟨RX6, "countOpen", "()I"⟩
abbrev cX6_copyFrom : ByteArray := prog_8_method_24_code
def yX6_copyFrom : MethodName := ⟨RX6, "copyFrom", "(LChannelWinter$Sea;)V"⟩
def RX7 : String := "ChannelWinter$Ship"
def TX7 : u_T := fun k => match k with
  | 0 => ("ChannelWinter$Ship", "route", "LChannelWinter$Route;", true)
  | 1 => ("ChannelWinter$Ship", "waits", "[I", true)
  | 2 => ("ChannelWinter$Ship", "cell", "I", false)
  | 3 => ("ChannelWinter$Ship", "rank", "I", false)
  | 4 => ("ChannelWinter$Ship", "bears", "I", false)
  | 5 => ("ChannelWinter$Ship", "power", "I", false)
  | 6 => ("ChannelWinter$Ship", "port", "I", false)
  | 7 => ("ChannelWinter$Ship", "status", "I", false)
  | 8 => ("ChannelWinter$Ship", "breaker", "I", false)
  | 9 => ("ChannelWinter$Ship", "damage", "I", false)
  | 10 => ("ChannelWinter$Ship", "dues", "I", false)
  | _ => ("ChannelWinter$Ship", "arrivedAt", "I", false)
def tyX7 : Nat → FieldType := fun k => match k with
  | 0 => .object "ChannelWinter$Route"
  | 1 => .array .int
  | 2 => .int
  | 3 => .int
  | 4 => .int
  | 5 => .int
  | 6 => .int
  | 7 => .int
  | 8 => .int
  | 9 => .int
  | 10 => .int
  | _ => .int
abbrev wsX70 : List Cond := u_ws RX7 TX7 12
theorem nmX7 : ∀ a, a < 12 → ∀ b, b < 12 → a ≠ b → (TX7 a).2.1 ≠ (TX7 b).2.1 := by decide +kernel
theorem tyX7_ok : ∀ k, k < 12 → parseFieldDescriptor (TX7 k).2.2.1 = some (tyX7 k) := by decide +kernel
abbrev cX7_init : ByteArray := prog_9_method_1_code
def yX7_init : MethodName := ⟨RX7, "<init>", "()V"⟩
abbrev cX7_setClass : ByteArray := prog_9_method_2_code
def yX7_setClass : MethodName := ⟨RX7, "setClass", "(I)V"⟩
abbrev cX7_hindrance : ByteArray := prog_9_method_3_code
def yX7_hindrance : MethodName := ⟨RX7, "hindrance", "(IZ)I"⟩
abbrev cX7_isBound : ByteArray := prog_9_method_4_code
def yX7_isBound : MethodName := ⟨RX7, "isBound", "(II)Z"⟩
abbrev cX7_bind : ByteArray := prog_9_method_5_code
def yX7_bind : MethodName := ⟨RX7, "bind", "(II)V"⟩
abbrev cX7_setFree : ByteArray := prog_9_method_6_code
def yX7_setFree : MethodName := ⟨RX7, "setFree", "()V"⟩
abbrev cX7_follow : ByteArray := prog_9_method_7_code
def yX7_follow : MethodName := ⟨RX7, "follow", "(II)I"⟩
abbrev cX7_arrive : ByteArray := prog_9_method_8_code
def yX7_arrive : MethodName := ⟨RX7, "arrive", "(I)V"⟩
abbrev cX7_countWait : ByteArray := prog_9_method_9_code
def yX7_countWait : MethodName := ⟨RX7, "countWait", "(I)V"⟩
abbrev cX7_waitsBy : ByteArray := prog_9_method_10_code
def yX7_waitsBy : MethodName := ⟨RX7, "waitsBy", "(I)I"⟩
abbrev cX7_allWaits : ByteArray := prog_9_method_11_code
def yX7_allWaits : MethodName := ⟨RX7, "allWaits", "()I"⟩
abbrev cX7_copyFrom : ByteArray := prog_9_method_12_code
def yX7_copyFrom : MethodName := ⟨RX7, "copyFrom", "(LChannelWinter$Ship;)V"⟩
def RX8 : String := "ChannelWinter"
def TX8 : u_T := fun k => match k with
  | 0 => ("ChannelWinter", "ports", "LChannelWinter$Ports;", true)
  | 1 => ("ChannelWinter", "sea", "LChannelWinter$Sea;", true)
  | 2 => ("ChannelWinter", "trial", "LChannelWinter$Sea;", true)
  | _ => ("ChannelWinter", "chart", "LChannelWinter$Chart;", true)
def tyX8 : Nat → FieldType := fun k => match k with
  | 0 => .object "ChannelWinter$Ports"
  | 1 => .object "ChannelWinter$Sea"
  | 2 => .object "ChannelWinter$Sea"
  | _ => .object "ChannelWinter$Chart"
abbrev wsX80 : List Cond := u_ws RX8 TX8 4
theorem nmX8 : ∀ a, a < 4 → ∀ b, b < 4 → a ≠ b → (TX8 a).2.1 ≠ (TX8 b).2.1 := by decide +kernel
theorem tyX8_ok : ∀ k, k < 4 → parseFieldDescriptor (TX8 k).2.2.1 = some (tyX8 k) := by decide +kernel
abbrev cX8_init : ByteArray := prog_1_method_1_code
def yX8_init : MethodName := ⟨RX8, "<init>", "()V"⟩
abbrev cX8_ice : ByteArray := prog_1_method_2_code
def yX8_ice : MethodName := ⟨RX8, "ice", "(II)I"⟩
abbrev cX8_land : ByteArray := prog_1_method_3_code
def yX8_land : MethodName := ⟨RX8, "land", "(I)I"⟩
abbrev cX8_port : ByteArray := prog_1_method_4_code
def yX8_port : MethodName := ⟨RX8, "port", "(I)I"⟩
abbrev cX8_rule : ByteArray := prog_1_method_5_code
def yX8_rule : MethodName := ⟨RX8, "rule", "(III)I"⟩
abbrev cX8_exempt : ByteArray := prog_1_method_6_code
def yX8_exempt : MethodName := ⟨RX8, "exempt", "(II)Z"⟩
abbrev cX8_breaker : ByteArray := prog_1_method_7_code
def yX8_breaker : MethodName := ⟨RX8, "breaker", "(II)I"⟩
abbrev cX8_ship : ByteArray := prog_1_method_8_code
def yX8_ship : MethodName := ⟨RX8, "ship", "(IIII)I"⟩
abbrev cX8_steer : ByteArray := prog_1_method_9_code
def yX8_steer : MethodName := ⟨RX8, "steer", "(II)I"⟩
abbrev cX8_sail : ByteArray := prog_1_method_10_code
def yX8_sail : MethodName := ⟨RX8, "sail", "(II)I"⟩
abbrev cX8_halt : ByteArray := prog_1_method_11_code
def yX8_halt : MethodName := ⟨RX8, "halt", "(I)I"⟩
abbrev cX8_lead : ByteArray := prog_1_method_12_code
def yX8_lead : MethodName := ⟨RX8, "lead", "(II)I"⟩
abbrev cX8_tow : ByteArray := prog_1_method_13_code
def yX8_tow : MethodName := ⟨RX8, "tow", "(II)I"⟩
abbrev cX8_fuel : ByteArray := prog_1_method_14_code
def yX8_fuel : MethodName := ⟨RX8, "fuel", "(II)I"⟩
abbrev cX8_pass : ByteArray := prog_1_method_15_code
def yX8_pass : MethodName := ⟨RX8, "pass", "(III)I"⟩
abbrev cX8_ofCell : ByteArray := prog_1_method_16_code
def yX8_ofCell : MethodName := ⟨RX8, "ofCell", "(II)I"⟩
abbrev cX8_ofBreaker : ByteArray := prog_1_method_17_code
def yX8_ofBreaker : MethodName := ⟨RX8, "ofBreaker", "(II)I"⟩
abbrev cX8_ofShip : ByteArray := prog_1_method_18_code
def yX8_ofShip : MethodName := ⟨RX8, "ofShip", "(II)I"⟩
abbrev cX8_inForce : ByteArray := prog_1_method_19_code
def yX8_inForce : MethodName := ⟨RX8, "inForce", "(II)I"⟩
abbrev cX8_many : ByteArray := prog_1_method_20_code
def yX8_many : MethodName := ⟨RX8, "many", "(I)I"⟩
abbrev cX8_meanIce : ByteArray := prog_1_method_21_code
def yX8_meanIce : MethodName := ⟨RX8, "meanIce", "()D"⟩
abbrev cX8_way : ByteArray := prog_1_method_22_code
def yX8_way : MethodName := ⟨RX8, "way", "(II)I"⟩
abbrev cX8_toBreak : ByteArray := prog_1_method_23_code
def yX8_toBreak : MethodName := ⟨RX8, "toBreak", "(I)I"⟩
abbrev cX8_helpNext : ByteArray := prog_1_method_24_code
def yX8_helpNext : MethodName := ⟨RX8, "helpNext", "(I)I"⟩
abbrev cX8_arriveIn : ByteArray := prog_1_method_25_code
def yX8_arriveIn : MethodName := ⟨RX8, "arriveIn", "(IIII)I"⟩
abbrev cX8_digest : ByteArray := prog_1_method_26_code
def yX8_digest : MethodName := ⟨RX8, "digest", "()J"⟩
abbrev cX8_portCellOf : ByteArray := prog_1_method_27_code
def yX8_portCellOf : MethodName := ⟨RX8, "portCellOf", "(LChannelWinter$Ship;)I"⟩
abbrev cX8_channelsNeeded : ByteArray := prog_1_method_28_code
def yX8_channelsNeeded : MethodName := ⟨RX8, "channelsNeeded", "(LChannelWinter$Ship;)I"⟩
abbrev cX8_breakingPrice : ByteArray := prog_1_method_29_code
def yX8_breakingPrice : MethodName := ⟨RX8, "breakingPrice", "(LChannelWinter$Ship;LChannelWinter$Cell;)I"⟩
abbrev cX8_canEnter : ByteArray := prog_1_method_30_code
def yX8_canEnter : MethodName := ⟨RX8, "canEnter", "(LChannelWinter$Ship;LChannelWinter$Cell;)Z"⟩
abbrev cX8_canTake : ByteArray := prog_1_method_31_code
def yX8_canTake : MethodName := ⟨RX8, "canTake", "(LChannelWinter$Breaker;LChannelWinter$Ship;)Z"⟩
abbrev cX8_isWeather : ByteArray := prog_1_method_32_code
def yX8_isWeather : MethodName := ⟨RX8, "isWeather", "(II)Z"⟩
abbrev cX8_within : ByteArray := prog_1_method_33_code
def yX8_within : MethodName := ⟨RX8, "within", "(III)Z"⟩
abbrev cX8_demandArgument : ByteArray := prog_1_method_34_code
def yX8_demandArgument : MethodName := ⟨RX8, "demandArgument", "(Z)V"⟩
abbrev cX8_demandState : ByteArray := prog_1_method_35_code
def yX8_demandState : MethodName := ⟨RX8, "demandState", "(Z)V"⟩
abbrev cX8_neighbour : ByteArray := prog_1_method_36_code
def yX8_neighbour : MethodName := ⟨RX8, "neighbour", "(II)I"⟩
abbrev cX8_distance : ByteArray := prog_1_method_37_code
def yX8_distance : MethodName := ⟨RX8, "distance", "(II)I"⟩
def RX9 : String := "ChannelWinterModel$Breaker"
def TX9 : u_T := fun k => match k with
  | 0 => ("ChannelWinterModel$Breaker", "cell", "I", false)
  | 1 => ("ChannelWinterModel$Breaker", "fuel", "I", false)
  | 2 => ("ChannelWinterModel$Breaker", "stuck", "I", false)
  | 3 => ("ChannelWinterModel$Breaker", "from", "I", false)
  | 4 => ("ChannelWinterModel$Breaker", "hasGone", "Z", false)
  | _ => ("ChannelWinterModel$Breaker", "route", "Ljava/util/ArrayList;", true)
def tyX9 : Nat → FieldType := fun k => match k with
  | 0 => .int
  | 1 => .int
  | 2 => .int
  | 3 => .int
  | 4 => .boolean
  | _ => .object "java/util/ArrayList"
abbrev wsX90 : List Cond := u_ws RX9 TX9 6
theorem nmX9 : ∀ a, a < 6 → ∀ b, b < 6 → a ≠ b → (TX9 a).2.1 ≠ (TX9 b).2.1 := by decide +kernel
theorem tyX9_ok : ∀ k, k < 6 → parseFieldDescriptor (TX9 k).2.2.1 = some (tyX9 k) := by decide +kernel
abbrev cX9_init : ByteArray := prog_12_method_1_code
def yX9_init : MethodName := ⟨RX9, "<init>", "(II)V"⟩
abbrev cX9_copy : ByteArray := prog_12_method_2_code
def yX9_copy : MethodName := ⟨RX9, "copy", "()LChannelWinterModel$Breaker;"⟩
def RX10 : String := "ChannelWinterModel$Port"
def TX10 : u_T := fun k => match k with
  | 0 => ("ChannelWinterModel$Port", "cell", "I", true)
  | 1 => ("ChannelWinterModel$Port", "rules", "Ljava/util/ArrayList;", true)
  | _ => ("ChannelWinterModel$Port", "isExempt", "[Z", true)
def tyX10 : Nat → FieldType := fun k => match k with
  | 0 => .int
  | 1 => .object "java/util/ArrayList"
  | _ => .array .boolean
abbrev wsX100 : List Cond := u_ws RX10 TX10 3
theorem nmX10 : ∀ a, a < 3 → ∀ b, b < 3 → a ≠ b → (TX10 a).2.1 ≠ (TX10 b).2.1 := by decide +kernel
theorem tyX10_ok : ∀ k, k < 3 → parseFieldDescriptor (TX10 k).2.2.1 = some (tyX10 k) := by decide +kernel
abbrev cX10_init : ByteArray := prog_13_method_1_code
def yX10_init : MethodName := ⟨RX10, "<init>", "(I)V"⟩
abbrev cX10_inForce : ByteArray := prog_13_method_2_code
def yX10_inForce : MethodName := ⟨RX10, "inForce", "(I)I"⟩
def RX11 : String := "ChannelWinterModel$Sea"
def TX11 : u_T := fun k => match k with
  | 0 => ("ChannelWinterModel$Sea", "now", "I", false)
  | 1 => ("ChannelWinterModel$Sea", "froze", "I", false)
  | 2 => ("ChannelWinterModel$Sea", "ice", "[I", true)
  | 3 => ("ChannelWinterModel$Sea", "press", "[I", true)
  | 4 => ("ChannelWinterModel$Sea", "channel", "[I", true)
  | 5 => ("ChannelWinterModel$Sea", "isLand", "[Z", true)
  | 6 => ("ChannelWinterModel$Sea", "breakers", "Ljava/util/ArrayList;", true)
  | 7 => ("ChannelWinterModel$Sea", "ships", "Ljava/util/ArrayList;", true)
  | _ => ("ChannelWinterModel$Sea", "ports", "Ljava/util/ArrayList;", true)
def tyX11 : Nat → FieldType := fun k => match k with
  | 0 => .int
  | 1 => .int
  | 2 => .array .int
  | 3 => .array .int
  | 4 => .array .int
  | 5 => .array .boolean
  | 6 => .object "java/util/ArrayList"
  | 7 => .object "java/util/ArrayList"
  | _ => .object "java/util/ArrayList"
abbrev wsX110 : List Cond := u_ws RX11 TX11 9
theorem nmX11 : ∀ a, a < 9 → ∀ b, b < 9 → a ≠ b → (TX11 a).2.1 ≠ (TX11 b).2.1 := by decide +kernel
theorem tyX11_ok : ∀ k, k < 9 → parseFieldDescriptor (TX11 k).2.2.1 = some (tyX11 k) := by decide +kernel
abbrev cX11_init : ByteArray := prog_14_method_1_code
def yX11_init : MethodName := ⟨RX11, "<init>", "()V"⟩
abbrev cX11_copy : ByteArray := prog_14_method_2_code
def yX11_copy : MethodName := ⟨RX11, "copy", "()LChannelWinterModel$Sea;"⟩
abbrev cX11_worth : ByteArray := prog_14_method_3_code
def yX11_worth : MethodName := ⟨RX11, "worth", "(I)I"⟩
abbrev cX11_isBeside : ByteArray := prog_14_method_4_code
def yX11_isBeside : MethodName := ⟨RX11, "isBeside", "(II)Z"⟩
abbrev cX11_hour : ByteArray := prog_14_method_5_code
def yX11_hour : MethodName := ⟨RX11, "hour", "(II)I"⟩
abbrev cX11_drift : ByteArray := prog_14_method_6_code
def yX11_drift : MethodName := ⟨RX11, "drift", "(I)V"⟩
abbrev cX11_freeze : ByteArray := prog_14_method_7_code
def yX11_freeze : MethodName := ⟨RX11, "freeze", "(I)V"⟩
abbrev cX11_go : ByteArray := prog_14_method_8_code
def yX11_go : MethodName := ⟨RX11, "go", "(LChannelWinterModel$Breaker;)V"⟩
abbrev cX11_why : ByteArray := prog_14_method_9_code
def yX11_why : MethodName := ⟨RX11, "why", "(LChannelWinterModel$Ship;IZ)I"⟩
abbrev cX11_goes : ByteArray := prog_14_method_10_code
def yX11_goes : MethodName := ⟨RX11, "goes", "(I)Z"⟩
abbrev cX11_alone : ByteArray := prog_14_method_11_code
def yX11_alone : MethodName := ⟨RX11, "alone", "(LChannelWinterModel$Ship;)I"⟩
abbrev cX11_escorted : ByteArray := prog_14_method_12_code
def yX11_escorted : MethodName := ⟨RX11, "escorted", "(LChannelWinterModel$Ship;)I"⟩
abbrev cX11_canEnter : ByteArray := prog_14_method_13_code
def yX11_canEnter : MethodName := ⟨RX11, "canEnter", "(LChannelWinterModel$Ship;I)Z"⟩
abbrev cX11_costs : ByteArray := prog_14_method_14_code
def yX11_costs : MethodName := ⟨RX11, "costs", "(LChannelWinterModel$Ship;I)I"⟩
abbrev cX11_least : ByteArray := prog_14_method_15_code
def yX11_least : MethodName := ⟨RX11, "least", "(LChannelWinterModel$Ship;IZ)I"⟩
abbrev cX11_toBreak : ByteArray := prog_14_method_16_code
def yX11_toBreak : MethodName := ⟨RX11, "toBreak", "(I)I"⟩
abbrev cX11_led : ByteArray := prog_14_method_17_code
def yX11_led : MethodName := ⟨RX11, "led", "(II)I"⟩
abbrev cX11_arrivedShips : ByteArray := prog_14_method_18_code
def yX11_arrivedShips : MethodName := ⟨RX11, "arrivedShips", "()I"⟩
def RX12 : String := "ChannelWinterModel$Ship"
def TX12 : u_T := fun k => match k with
  | 0 => ("ChannelWinterModel$Ship", "cell", "I", false)
  | 1 => ("ChannelWinterModel$Ship", "rank", "I", true)
  | 2 => ("ChannelWinterModel$Ship", "power", "I", true)
  | 3 => ("ChannelWinterModel$Ship", "port", "I", true)
  | 4 => ("ChannelWinterModel$Ship", "state", "I", false)
  | 5 => ("ChannelWinterModel$Ship", "breaker", "I", false)
  | 6 => ("ChannelWinterModel$Ship", "damage", "I", false)
  | 7 => ("ChannelWinterModel$Ship", "dues", "I", false)
  | 8 => ("ChannelWinterModel$Ship", "arrived", "I", false)
  | 9 => ("ChannelWinterModel$Ship", "waits", "[I", true)
  | _ => ("ChannelWinterModel$Ship", "route", "Ljava/util/ArrayList;", true)
def tyX12 : Nat → FieldType := fun k => match k with
  | 0 => .int
  | 1 => .int
  | 2 => .int
  | 3 => .int
  | 4 => .int
  | 5 => .int
  | 6 => .int
  | 7 => .int
  | 8 => .int
  | 9 => .array .int
  | _ => .object "java/util/ArrayList"
abbrev wsX120 : List Cond := u_ws RX12 TX12 11
theorem nmX12 : ∀ a, a < 11 → ∀ b, b < 11 → a ≠ b → (TX12 a).2.1 ≠ (TX12 b).2.1 := by decide +kernel
theorem tyX12_ok : ∀ k, k < 11 → parseFieldDescriptor (TX12 k).2.2.1 = some (tyX12 k) := by decide +kernel
abbrev cX12_init : ByteArray := prog_15_method_1_code
def yX12_init : MethodName := ⟨RX12, "<init>", "(IIII)V"⟩
abbrev cX12_copy : ByteArray := prog_15_method_2_code
def yX12_copy : MethodName := ⟨RX12, "copy", "()LChannelWinterModel$Ship;"⟩
abbrev cX12_bears : ByteArray := prog_15_method_3_code
def yX12_bears : MethodName := ⟨RX12, "bears", "()I"⟩
abbrev cX12_free : ByteArray := prog_15_method_4_code
def yX12_free : MethodName := ⟨RX12, "free", "()V"⟩
abbrev cX12_allWaits : ByteArray := prog_15_method_5_code
def yX12_allWaits : MethodName := ⟨RX12, "allWaits", "()I"⟩
def RX13 : String := "ChannelWinterModel"
def TX13 : u_T := fun k => match k with
  | 0 => ("ChannelWinterModel", "thrown", "I", false)
  | _ => ("ChannelWinterModel", "sea", "LChannelWinterModel$Sea;", true)
def tyX13 : Nat → FieldType := fun k => match k with
  | 0 => .int
  | _ => .object "ChannelWinterModel$Sea"
abbrev wsX130 : List Cond := u_ws RX13 TX13 2
theorem nmX13 : ∀ a, a < 2 → ∀ b, b < 2 → a ≠ b → (TX13 a).2.1 ≠ (TX13 b).2.1 := by decide +kernel
theorem tyX13_ok : ∀ k, k < 2 → parseFieldDescriptor (TX13 k).2.2.1 = some (tyX13 k) := by decide +kernel
abbrev cX13_isIn : ByteArray := prog_11_method_1_code
def yX13_isIn : MethodName := ⟨RX13, "isIn", "(III)Z"⟩
abbrev cX13_beside : ByteArray := prog_11_method_2_code
def yX13_beside : MethodName := ⟨RX13, "beside", "(II)I"⟩
abbrev cX13_far : ByteArray := prog_11_method_3_code
def yX13_far : MethodName := ⟨RX13, "far", "(II)I"⟩
abbrev cX13_init : ByteArray := prog_11_method_4_code
def yX13_init : MethodName := ⟨RX13, "<init>", "()V"⟩
abbrev cX13_thrown : ByteArray := prog_11_method_5_code
def yX13_thrown : MethodName := ⟨RX13, "thrown", "()I"⟩
abbrev cX13_refuse : ByteArray := prog_11_method_6_code
def yX13_refuse : MethodName := ⟨RX13, "refuse", "(ZI)Z"⟩
abbrev cX13_start : ByteArray := prog_11_method_7_code
def yX13_start : MethodName := ⟨RX13, "start", "(ZI)Z"⟩
abbrev cX13_isNoCell : ByteArray := prog_11_method_8_code
def yX13_isNoCell : MethodName := ⟨RX13, "isNoCell", "(I)Z"⟩
abbrev cX13_isNoPort : ByteArray := prog_11_method_9_code
def yX13_isNoPort : MethodName := ⟨RX13, "isNoPort", "(I)Z"⟩
abbrev cX13_isNoShip : ByteArray := prog_11_method_10_code
def yX13_isNoShip : MethodName := ⟨RX13, "isNoShip", "(I)Z"⟩
abbrev cX13_isNoBreaker : ByteArray := prog_11_method_11_code
def yX13_isNoBreaker : MethodName := ⟨RX13, "isNoBreaker", "(I)Z"⟩
abbrev cX13_isNoWeather : ByteArray := prog_11_method_12_code
def yX13_isNoWeather : MethodName := ⟨RX13, "isNoWeather", "(III)Z"⟩
abbrev cX13_isPortAt : ByteArray := prog_11_method_13_code
def yX13_isPortAt : MethodName := ⟨RX13, "isPortAt", "(I)Z"⟩
abbrev cX13_shipsAt : ByteArray := prog_11_method_14_code
def yX13_shipsAt : MethodName := ⟨RX13, "shipsAt", "(I)I"⟩
abbrev cX13_isBreakerAt : ByteArray := prog_11_method_15_code
def yX13_isBreakerAt : MethodName := ⟨RX13, "isBreakerAt", "(I)Z"⟩
abbrev cX13_ice : ByteArray := prog_11_method_16_code
def yX13_ice : MethodName := ⟨RX13, "ice", "(II)I"⟩
abbrev cX13_land : ByteArray := prog_11_method_17_code
def yX13_land : MethodName := ⟨RX13, "land", "(I)I"⟩
abbrev cX13_port : ByteArray := prog_11_method_18_code
def yX13_port : MethodName := ⟨RX13, "port", "(I)I"⟩
abbrev cX13_rule : ByteArray := prog_11_method_19_code
def yX13_rule : MethodName := ⟨RX13, "rule", "(III)I"⟩
abbrev cX13_exempt : ByteArray := prog_11_method_20_code
def yX13_exempt : MethodName := ⟨RX13, "exempt", "(II)Z"⟩
abbrev cX13_breaker : ByteArray := prog_11_method_21_code
def yX13_breaker : MethodName := ⟨RX13, "breaker", "(II)I"⟩
abbrev cX13_ship : ByteArray := prog_11_method_22_code
def yX13_ship : MethodName := ⟨RX13, "ship", "(IIII)I"⟩
abbrev cX13_steer : ByteArray := prog_11_method_23_code
def yX13_steer : MethodName := ⟨RX13, "steer", "(II)I"⟩
abbrev cX13_sail : ByteArray := prog_11_method_24_code
def yX13_sail : MethodName := ⟨RX13, "sail", "(II)I"⟩
abbrev cX13_halt : ByteArray := prog_11_method_25_code
def yX13_halt : MethodName := ⟨RX13, "halt", "(I)I"⟩
abbrev cX13_isAway : ByteArray := prog_11_method_26_code
def yX13_isAway : MethodName := ⟨RX13, "isAway", "(II)Z"⟩
abbrev cX13_lead : ByteArray := prog_11_method_27_code
def yX13_lead : MethodName := ⟨RX13, "lead", "(II)I"⟩
abbrev cX13_tow : ByteArray := prog_11_method_28_code
def yX13_tow : MethodName := ⟨RX13, "tow", "(II)I"⟩
abbrev cX13_fuel : ByteArray := prog_11_method_29_code
def yX13_fuel : MethodName := ⟨RX13, "fuel", "(II)I"⟩
abbrev cX13_pass : ByteArray := prog_11_method_30_code
def yX13_pass : MethodName := ⟨RX13, "pass", "(III)I"⟩
abbrev cX13_ofCellNow : ByteArray := prog_11_method_31_code
def yX13_ofCellNow : MethodName := ⟨RX13, "ofCellNow", "(II)I"⟩
abbrev cX13_ofCell : ByteArray := prog_11_method_32_code
def yX13_ofCell : MethodName := ⟨RX13, "ofCell", "(II)I"⟩
abbrev cX13_towedBy : ByteArray := prog_11_method_33_code
def yX13_towedBy : MethodName := ⟨RX13, "towedBy", "(I)I"⟩
abbrev cX13_ofBreakerNow : ByteArray := prog_11_method_34_code
def yX13_ofBreakerNow : MethodName := ⟨RX13, "ofBreakerNow", "(II)I"⟩
abbrev cX13_ofBreaker : ByteArray := prog_11_method_35_code
def yX13_ofBreaker : MethodName := ⟨RX13, "ofBreaker", "(II)I"⟩
abbrev cX13_ofShipNow : ByteArray := prog_11_method_36_code
def yX13_ofShipNow : MethodName := ⟨RX13, "ofShipNow", "(II)I"⟩
abbrev cX13_ofShip : ByteArray := prog_11_method_37_code
def yX13_ofShip : MethodName := ⟨RX13, "ofShip", "(II)I"⟩
abbrev cX13_inForce : ByteArray := prog_11_method_38_code
def yX13_inForce : MethodName := ⟨RX13, "inForce", "(II)I"⟩
abbrev cX13_manyNow : ByteArray := prog_11_method_39_code
def yX13_manyNow : MethodName := ⟨RX13, "manyNow", "(I)I"⟩
abbrev cX13_many : ByteArray := prog_11_method_40_code
def yX13_many : MethodName := ⟨RX13, "many", "(I)I"⟩
abbrev cX13_meanIce : ByteArray := prog_11_method_41_code
def yX13_meanIce : MethodName := ⟨RX13, "meanIce", "()D"⟩
abbrev cX13_way : ByteArray := prog_11_method_42_code
def yX13_way : MethodName := ⟨RX13, "way", "(II)I"⟩
abbrev cX13_toBreak : ByteArray := prog_11_method_43_code
def yX13_toBreak : MethodName := ⟨RX13, "toBreak", "(I)I"⟩
abbrev cX13_helpNextNow : ByteArray := prog_11_method_44_code
def yX13_helpNextNow : MethodName := ⟨RX13, "helpNextNow", "(I)I"⟩
abbrev cX13_helpNext : ByteArray := prog_11_method_45_code
def yX13_helpNext : MethodName := ⟨RX13, "helpNext", "(I)I"⟩
abbrev cX13_arriveInNow : ByteArray := prog_11_method_46_code
def yX13_arriveInNow : MethodName := ⟨RX13, "arriveInNow", "(IIII)I"⟩
abbrev cX13_arriveIn : ByteArray := prog_11_method_47_code
def yX13_arriveIn : MethodName := ⟨RX13, "arriveIn", "(IIII)I"⟩
abbrev cX13_add : ByteArray := prog_11_method_48_code
def yX13_add : MethodName := ⟨RX13, "add", "(JJ)J"⟩
abbrev cX13_digest : ByteArray := prog_11_method_49_code
def yX13_digest : MethodName := ⟨RX13, "digest", "()J"⟩
def RJx145de : String := "java/io/Serializable"
def TJx145de : u_T := fun k => match k with
  | _ => ("", "", "", false)
def tyJx145de : Nat → FieldType := fun k => match k with
  | _ => .int
abbrev wsJx145de0 : List Cond := u_ws RJx145de TJx145de 0
theorem nmJx145de : ∀ a, a < 0 → ∀ b, b < 0 → a ≠ b → (TJx145de a).2.1 ≠ (TJx145de b).2.1 := by decide +kernel
theorem tyJx145de_ok : ∀ k, k < 0 → parseFieldDescriptor (TJx145de k).2.2.1 = some (tyJx145de k) := by decide +kernel
def RJx8e188 : String := "java/lang/Cloneable"
def TJx8e188 : u_T := fun k => match k with
  | _ => ("", "", "", false)
def tyJx8e188 : Nat → FieldType := fun k => match k with
  | _ => .int
abbrev wsJx8e1880 : List Cond := u_ws RJx8e188 TJx8e188 0
theorem nmJx8e188 : ∀ a, a < 0 → ∀ b, b < 0 → a ≠ b → (TJx8e188 a).2.1 ≠ (TJx8e188 b).2.1 := by decide +kernel
theorem tyJx8e188_ok : ∀ k, k < 0 → parseFieldDescriptor (TJx8e188 k).2.2.1 = some (tyJx8e188 k) := by decide +kernel
def RJxb160c : String := "java/lang/Comparable"
def TJxb160c : u_T := fun k => match k with
  | _ => ("", "", "", false)
def tyJxb160c : Nat → FieldType := fun k => match k with
  | _ => .int
abbrev wsJxb160c0 : List Cond := u_ws RJxb160c TJxb160c 0
theorem nmJxb160c : ∀ a, a < 0 → ∀ b, b < 0 → a ≠ b → (TJxb160c a).2.1 ≠ (TJxb160c b).2.1 := by decide +kernel
theorem tyJxb160c_ok : ∀ k, k < 0 → parseFieldDescriptor (TJxb160c k).2.2.1 = some (tyJxb160c k) := by decide +kernel
def RJxabbfe : String := "java/lang/Integer$IntegerCache"
def TJxabbfe : u_T := fun k => match k with
  | _ => ("", "", "", false)
def tyJxabbfe : Nat → FieldType := fun k => match k with
  | _ => .int
abbrev wsJxabbfe0 : List Cond := u_ws RJxabbfe TJxabbfe 0
theorem nmJxabbfe : ∀ a, a < 0 → ∀ b, b < 0 → a ≠ b → (TJxabbfe a).2.1 ≠ (TJxabbfe b).2.1 := by decide +kernel
theorem tyJxabbfe_ok : ∀ k, k < 0 → parseFieldDescriptor (TJxabbfe k).2.2.1 = some (tyJxabbfe k) := by decide +kernel
def RJ6 : String := "java/lang/Integer"
def TJ6 : u_T := fun k => match k with
  | _ => ("java/lang/Integer", "value", "I", true)
def tyJ6 : Nat → FieldType := fun k => match k with
  | _ => .int
abbrev wsJ60 : List Cond := u_ws RJ6 TJ6 1
theorem nmJ6 : ∀ a, a < 1 → ∀ b, b < 1 → a ≠ b → (TJ6 a).2.1 ≠ (TJ6 b).2.1 := by decide +kernel
theorem tyJ6_ok : ∀ k, k < 1 → parseFieldDescriptor (TJ6 k).2.2.1 = some (tyJ6 k) := by decide +kernel
abbrev cJ6_valueOf_2dffe : ByteArray := prog_23_method_22_code
def yJ6_valueOf_2dffe : MethodName := ⟨RJ6, "valueOf", "(I)Ljava/lang/Integer;"⟩
abbrev cJ6_init_d00df : ByteArray := prog_23_method_23_code
def yJ6_init_d00df : MethodName := ⟨RJ6, "<init>", "(I)V"⟩
abbrev cJ6_intValue_8abf5 : ByteArray := prog_23_method_27_code
def yJ6_intValue_8abf5 : MethodName := ⟨RJ6, "intValue", "()I"⟩
def RJxab1ab : String := "java/lang/Iterable"
def TJxab1ab : u_T := fun k => match k with
  | _ => ("", "", "", false)
def tyJxab1ab : Nat → FieldType := fun k => match k with
  | _ => .int
abbrev wsJxab1ab0 : List Cond := u_ws RJxab1ab TJxab1ab 0
theorem nmJxab1ab : ∀ a, a < 0 → ∀ b, b < 0 → a ≠ b → (TJxab1ab a).2.1 ≠ (TJxab1ab b).2.1 := by decide +kernel
theorem tyJxab1ab_ok : ∀ k, k < 0 → parseFieldDescriptor (TJxab1ab k).2.2.1 = some (tyJxab1ab k) := by decide +kernel
def RJ9 : String := "java/lang/Math"
def TJ9 : u_T := fun k => match k with
  | _ => ("", "", "", false)
def tyJ9 : Nat → FieldType := fun k => match k with
  | _ => .int
abbrev wsJ90 : List Cond := u_ws RJ9 TJ9 0
theorem nmJ9 : ∀ a, a < 0 → ∀ b, b < 0 → a ≠ b → (TJ9 a).2.1 ≠ (TJ9 b).2.1 := by decide +kernel
theorem tyJ9_ok : ∀ k, k < 0 → parseFieldDescriptor (TJ9 k).2.2.1 = some (tyJ9 k) := by decide +kernel
abbrev cJ9_abs_0f7a4 : ByteArray := prog_26_method_59_code
def yJ9_abs_0f7a4 : MethodName := ⟨RJ9, "abs", "(I)I"⟩
abbrev cJ9_max_7cf53 : ByteArray := prog_26_method_65_code
def yJ9_max_7cf53 : MethodName := ⟨RJ9, "max", "(II)I"⟩
abbrev cJ9_min_7cf53 : ByteArray := prog_26_method_69_code
def yJ9_min_7cf53 : MethodName := ⟨RJ9, "min", "(II)I"⟩
def RJxd2413 : String := "java/lang/Number"
def TJxd2413 : u_T := fun k => match k with
  | _ => ("", "", "", false)
def tyJxd2413 : Nat → FieldType := fun k => match k with
  | _ => .int
abbrev wsJxd24130 : List Cond := u_ws RJxd2413 TJxd2413 0
theorem nmJxd2413 : ∀ a, a < 0 → ∀ b, b < 0 → a ≠ b → (TJxd2413 a).2.1 ≠ (TJxd2413 b).2.1 := by decide +kernel
theorem tyJxd2413_ok : ∀ k, k < 0 → parseFieldDescriptor (TJxd2413 k).2.2.1 = some (tyJxd2413 k) := by decide +kernel
abbrev cJxd2413_init_da8c8 : ByteArray := prog_27_method_1_code
def yJxd2413_init_da8c8 : MethodName := ⟨RJxd2413, "<init>", "()V"⟩
def RJ0 : String := "java/lang/String"
def TJ0 : u_T := fun k => match k with
  | _ => ("", "", "", false)
def tyJ0 : Nat → FieldType := fun k => match k with
  | _ => .int
abbrev wsJ00 : List Cond := u_ws RJ0 TJ0 0
theorem nmJ0 : ∀ a, a < 0 → ∀ b, b < 0 → a ≠ b → (TJ0 a).2.1 ≠ (TJ0 b).2.1 := by decide +kernel
theorem tyJ0_ok : ∀ k, k < 0 → parseFieldDescriptor (TJ0 k).2.2.1 = some (tyJ0 k) := by decide +kernel
def RJ10 : String := "java/lang/System"
def TJ10 : u_T := fun k => match k with
  | _ => ("", "", "", false)
def tyJ10 : Nat → FieldType := fun k => match k with
  | _ => .int
abbrev wsJ100 : List Cond := u_ws RJ10 TJ10 0
theorem nmJ10 : ∀ a, a < 0 → ∀ b, b < 0 → a ≠ b → (TJ10 a).2.1 ≠ (TJ10 b).2.1 := by decide +kernel
theorem tyJ10_ok : ∀ k, k < 0 → parseFieldDescriptor (TJ10 k).2.2.1 = some (tyJ10 k) := by decide +kernel
def RJxfd54e : String := "java/lang/constant/Constable"
def TJxfd54e : u_T := fun k => match k with
  | _ => ("", "", "", false)
def tyJxfd54e : Nat → FieldType := fun k => match k with
  | _ => .int
abbrev wsJxfd54e0 : List Cond := u_ws RJxfd54e TJxfd54e 0
theorem nmJxfd54e : ∀ a, a < 0 → ∀ b, b < 0 → a ≠ b → (TJxfd54e a).2.1 ≠ (TJxfd54e b).2.1 := by decide +kernel
theorem tyJxfd54e_ok : ∀ k, k < 0 → parseFieldDescriptor (TJxfd54e k).2.2.1 = some (tyJxfd54e k) := by decide +kernel
def RJx3cf43 : String := "java/lang/constant/ConstantDesc"
def TJx3cf43 : u_T := fun k => match k with
  | _ => ("", "", "", false)
def tyJx3cf43 : Nat → FieldType := fun k => match k with
  | _ => .int
abbrev wsJx3cf430 : List Cond := u_ws RJx3cf43 TJx3cf43 0
theorem nmJx3cf43 : ∀ a, a < 0 → ∀ b, b < 0 → a ≠ b → (TJx3cf43 a).2.1 ≠ (TJx3cf43 b).2.1 := by decide +kernel
theorem tyJx3cf43_ok : ∀ k, k < 0 → parseFieldDescriptor (TJx3cf43 k).2.2.1 = some (tyJx3cf43 k) := by decide +kernel
def RJxa1e45 : String := "java/util/AbstractCollection"
def TJxa1e45 : u_T := fun k => match k with
  | _ => ("", "", "", false)
def tyJxa1e45 : Nat → FieldType := fun k => match k with
  | _ => .int
abbrev wsJxa1e450 : List Cond := u_ws RJxa1e45 TJxa1e45 0
theorem nmJxa1e45 : ∀ a, a < 0 → ∀ b, b < 0 → a ≠ b → (TJxa1e45 a).2.1 ≠ (TJxa1e45 b).2.1 := by decide +kernel
theorem tyJxa1e45_ok : ∀ k, k < 0 → parseFieldDescriptor (TJxa1e45 k).2.2.1 = some (tyJxa1e45 k) := by decide +kernel
abbrev cJxa1e45_init_da8c8 : ByteArray := prog_34_method_1_code
def yJxa1e45_init_da8c8 : MethodName := ⟨RJxa1e45, "<init>", "()V"⟩
def RJxc12de : String := "java/util/AbstractList"
def TJxc12de : u_T := fun k => match k with
  | _ => ("", "", "", false)
def tyJxc12de : Nat → FieldType := fun k => match k with
  | _ => .int
abbrev wsJxc12de0 : List Cond := u_ws RJxc12de TJxc12de 0
theorem nmJxc12de : ∀ a, a < 0 → ∀ b, b < 0 → a ≠ b → (TJxc12de a).2.1 ≠ (TJxc12de b).2.1 := by decide +kernel
theorem tyJxc12de_ok : ∀ k, k < 0 → parseFieldDescriptor (TJxc12de k).2.2.1 = some (tyJxc12de k) := by decide +kernel
abbrev cJxc12de_init_da8c8 : ByteArray := prog_35_method_1_code
def yJxc12de_init_da8c8 : MethodName := ⟨RJxc12de, "<init>", "()V"⟩
def RJx35411 : String := "java/util/ArrayList$Itr"
def TJx35411 : u_T := fun k => match k with
  | 0 => ("java/util/ArrayList$Itr", "cursor", "I", false)
  | 1 => ("java/util/ArrayList$Itr", "lastRet", "I", false)
  | 2 => ("java/util/ArrayList$Itr", "expectedModCount", "I", false)
  | _ => ("java/util/ArrayList$Itr", "this$0", "Ljava/util/ArrayList;", true)
def tyJx35411 : Nat → FieldType := fun k => match k with
  | 0 => .int
  | 1 => .int
  | 2 => .int
  | _ => .object "java/util/ArrayList"
abbrev wsJx354110 : List Cond := u_ws RJx35411 TJx35411 4
theorem nmJx35411 : ∀ a, a < 4 → ∀ b, b < 4 → a ≠ b → (TJx35411 a).2.1 ≠ (TJx35411 b).2.1 := by decide +kernel
theorem tyJx35411_ok : ∀ k, k < 4 → parseFieldDescriptor (TJx35411 k).2.2.1 = some (tyJx35411 k) := by decide +kernel
abbrev cJx35411_init_45d68 : ByteArray := prog_37_method_1_code
def yJx35411_init_45d68 : MethodName := ⟨RJx35411, "<init>", "(Ljava/util/ArrayList;)V"⟩
abbrev cJx35411_hasNext_aae02 : ByteArray := prog_37_method_2_code
def yJx35411_hasNext_aae02 : MethodName := ⟨RJx35411, "hasNext", "()Z"⟩
abbrev cJx35411_next_0502b : ByteArray := prog_37_method_3_code
def yJx35411_next_0502b : MethodName := ⟨RJx35411, "next", "()Ljava/lang/Object;"⟩
abbrev cJx35411_checkForComodification_da8c8 : ByteArray := prog_37_method_6_code
def yJx35411_checkForComodification_da8c8 : MethodName := ⟨RJx35411, "checkForComodification", "()V"⟩
def RJx4a65c : String := "java/util/ArrayList"
def TJx4a65c : u_T := fun k => match k with
  | 0 => ("java/util/AbstractList", "modCount", "I", false)
  | 1 => ("java/util/ArrayList", "elementData", "[Ljava/lang/Object;", false)
  | _ => ("java/util/ArrayList", "size", "I", false)
def tyJx4a65c : Nat → FieldType := fun k => match k with
  | 0 => .int
  | 1 => .array (.object "java/lang/Object")
  | _ => .int
abbrev wsJx4a65c0 : List Cond := u_ws RJx4a65c TJx4a65c 3
theorem nmJx4a65c : ∀ a, a < 3 → ∀ b, b < 3 → a ≠ b → (TJx4a65c a).2.1 ≠ (TJx4a65c b).2.1 := by decide +kernel
theorem tyJx4a65c_ok : ∀ k, k < 3 → parseFieldDescriptor (TJx4a65c k).2.2.1 = some (tyJx4a65c k) := by decide +kernel
abbrev cJx4a65c_init_da8c8 : ByteArray := prog_36_method_2_code
def yJx4a65c_init_da8c8 : MethodName := ⟨RJx4a65c, "<init>", "()V"⟩
abbrev cJx4a65c_grow_92f84 : ByteArray := prog_36_method_6_code
def yJx4a65c_grow_92f84 : MethodName := ⟨RJx4a65c, "grow", "(I)[Ljava/lang/Object;"⟩
abbrev cJx4a65c_grow_d5877 : ByteArray := prog_36_method_7_code
def yJx4a65c_grow_d5877 : MethodName := ⟨RJx4a65c, "grow", "()[Ljava/lang/Object;"⟩
abbrev cJx4a65c_size_8abf5 : ByteArray := prog_36_method_8_code
def yJx4a65c_size_8abf5 : MethodName := ⟨RJx4a65c, "size", "()I"⟩
abbrev cJx4a65c_isEmpty_aae02 : ByteArray := prog_36_method_9_code
def yJx4a65c_isEmpty_aae02 : MethodName := ⟨RJx4a65c, "isEmpty", "()Z"⟩
abbrev cJx4a65c_toArray_d5877 : ByteArray := prog_36_method_16_code
def yJx4a65c_toArray_d5877 : MethodName := ⟨RJx4a65c, "toArray", "()[Ljava/lang/Object;"⟩
abbrev cJx4a65c_elementData_915e3 : ByteArray := prog_36_method_18_code
def yJx4a65c_elementData_915e3 : MethodName := ⟨RJx4a65c, "elementData", "(I)Ljava/lang/Object;"⟩
abbrev cJx4a65c_get_915e3 : ByteArray := prog_36_method_20_code
def yJx4a65c_get_915e3 : MethodName := ⟨RJx4a65c, "get", "(I)Ljava/lang/Object;"⟩
abbrev cJx4a65c_add_72be8 : ByteArray := prog_36_method_24_code
def yJx4a65c_add_72be8 : MethodName := ⟨RJx4a65c, "add", "(Ljava/lang/Object;[Ljava/lang/Object;I)V"⟩
abbrev cJx4a65c_add_9ea2d : ByteArray := prog_36_method_25_code
def yJx4a65c_add_9ea2d : MethodName := ⟨RJx4a65c, "add", "(Ljava/lang/Object;)Z"⟩
abbrev cJx4a65c_remove_915e3 : ByteArray := prog_36_method_29_code
def yJx4a65c_remove_915e3 : MethodName := ⟨RJx4a65c, "remove", "(I)Ljava/lang/Object;"⟩
abbrev cJx4a65c_fastRemove_b59b0 : ByteArray := prog_36_method_39_code
def yJx4a65c_fastRemove_b59b0 : MethodName := ⟨RJx4a65c, "fastRemove", "([Ljava/lang/Object;I)V"⟩
abbrev cJx4a65c_clear_da8c8 : ByteArray := prog_36_method_40_code
def yJx4a65c_clear_da8c8 : MethodName := ⟨RJx4a65c, "clear", "()V"⟩
abbrev cJx4a65c_addAll_f0b43 : ByteArray := prog_36_method_41_code
def yJx4a65c_addAll_f0b43 : MethodName := ⟨RJx4a65c, "addAll", "(Ljava/util/Collection;)Z"⟩
abbrev cJx4a65c_iterator_32c93 : ByteArray := prog_36_method_55_code
def yJx4a65c_iterator_32c93 : MethodName := ⟨RJx4a65c, "iterator", "()Ljava/util/Iterator;"⟩
def RJ7 : String := "java/util/Arrays"
def TJ7 : u_T := fun k => match k with
  | _ => ("", "", "", false)
def tyJ7 : Nat → FieldType := fun k => match k with
  | _ => .int
abbrev wsJ70 : List Cond := u_ws RJ7 TJ7 0
theorem nmJ7 : ∀ a, a < 0 → ∀ b, b < 0 → a ≠ b → (TJ7 a).2.1 ≠ (TJ7 b).2.1 := by decide +kernel
theorem tyJ7_ok : ∀ k, k < 0 → parseFieldDescriptor (TJ7 k).2.2.1 = some (tyJ7 k) := by decide +kernel
abbrev cJ7_copyOf_1904c : ByteArray := prog_38_method_119_code
def yJ7_copyOf_1904c : MethodName := ⟨RJ7, "copyOf", "([Ljava/lang/Object;I)[Ljava/lang/Object;"⟩
abbrev cJ7_copyOf_6403c : ByteArray := prog_38_method_120_code
def yJ7_copyOf_6403c : MethodName := ⟨RJ7, "copyOf", "([Ljava/lang/Object;ILjava/lang/Class;)[Ljava/lang/Object;"⟩
def RJx5ef63 : String := "java/util/Collection"
def TJx5ef63 : u_T := fun k => match k with
  | _ => ("", "", "", false)
def tyJx5ef63 : Nat → FieldType := fun k => match k with
  | _ => .int
abbrev wsJx5ef630 : List Cond := u_ws RJx5ef63 TJx5ef63 0
theorem nmJx5ef63 : ∀ a, a < 0 → ∀ b, b < 0 → a ≠ b → (TJx5ef63 a).2.1 ≠ (TJx5ef63 b).2.1 := by decide +kernel
theorem tyJx5ef63_ok : ∀ k, k < 0 → parseFieldDescriptor (TJx5ef63 k).2.2.1 = some (tyJx5ef63 k) := by decide +kernel
def RJx4d0d8 : String := "java/util/Iterator"
def TJx4d0d8 : u_T := fun k => match k with
  | _ => ("", "", "", false)
def tyJx4d0d8 : Nat → FieldType := fun k => match k with
  | _ => .int
abbrev wsJx4d0d80 : List Cond := u_ws RJx4d0d8 TJx4d0d8 0
theorem nmJx4d0d8 : ∀ a, a < 0 → ∀ b, b < 0 → a ≠ b → (TJx4d0d8 a).2.1 ≠ (TJx4d0d8 b).2.1 := by decide +kernel
theorem tyJx4d0d8_ok : ∀ k, k < 0 → parseFieldDescriptor (TJx4d0d8 k).2.2.1 = some (tyJx4d0d8 k) := by decide +kernel
def RJxbd725 : String := "java/util/List"
def TJxbd725 : u_T := fun k => match k with
  | _ => ("", "", "", false)
def tyJxbd725 : Nat → FieldType := fun k => match k with
  | _ => .int
abbrev wsJxbd7250 : List Cond := u_ws RJxbd725 TJxbd725 0
theorem nmJxbd725 : ∀ a, a < 0 → ∀ b, b < 0 → a ≠ b → (TJxbd725 a).2.1 ≠ (TJxbd725 b).2.1 := by decide +kernel
theorem tyJxbd725_ok : ∀ k, k < 0 → parseFieldDescriptor (TJxbd725 k).2.2.1 = some (tyJxbd725 k) := by decide +kernel
def RJ15 : String := "java/util/Objects"
def TJ15 : u_T := fun k => match k with
  | _ => ("", "", "", false)
def tyJ15 : Nat → FieldType := fun k => match k with
  | _ => .int
abbrev wsJ150 : List Cond := u_ws RJ15 TJ15 0
theorem nmJ15 : ∀ a, a < 0 → ∀ b, b < 0 → a ≠ b → (TJ15 a).2.1 ≠ (TJ15 b).2.1 := by decide +kernel
theorem tyJ15_ok : ∀ k, k < 0 → parseFieldDescriptor (TJ15 k).2.2.1 = some (tyJ15 k) := by decide +kernel
abbrev cJ15_checkIndex_7cf53 : ByteArray := prog_42_method_17_code
def yJ15_checkIndex_7cf53 : MethodName := ⟨RJ15, "checkIndex", "(II)I"⟩
def RJxf0a74 : String := "java/util/RandomAccess"
def TJxf0a74 : u_T := fun k => match k with
  | _ => ("", "", "", false)
def tyJxf0a74 : Nat → FieldType := fun k => match k with
  | _ => .int
abbrev wsJxf0a740 : List Cond := u_ws RJxf0a74 TJxf0a74 0
theorem nmJxf0a74 : ∀ a, a < 0 → ∀ b, b < 0 → a ≠ b → (TJxf0a74 a).2.1 ≠ (TJxf0a74 b).2.1 := by decide +kernel
theorem tyJxf0a74_ok : ∀ k, k < 0 → parseFieldDescriptor (TJxf0a74 k).2.2.1 = some (tyJxf0a74 k) := by decide +kernel
def RJxa66e6 : String := "java/util/SequencedCollection"
def TJxa66e6 : u_T := fun k => match k with
  | _ => ("", "", "", false)
def tyJxa66e6 : Nat → FieldType := fun k => match k with
  | _ => .int
abbrev wsJxa66e60 : List Cond := u_ws RJxa66e6 TJxa66e6 0
theorem nmJxa66e6 : ∀ a, a < 0 → ∀ b, b < 0 → a ≠ b → (TJxa66e6 a).2.1 ≠ (TJxa66e6 b).2.1 := by decide +kernel
theorem tyJxa66e6_ok : ∀ k, k < 0 → parseFieldDescriptor (TJxa66e6 k).2.2.1 = some (tyJxa66e6 k) := by decide +kernel
def RJ8 : String := "jdk/internal/util/ArraysSupport"
def TJ8 : u_T := fun k => match k with
  | _ => ("", "", "", false)
def tyJ8 : Nat → FieldType := fun k => match k with
  | _ => .int
abbrev wsJ80 : List Cond := u_ws RJ8 TJ8 0
theorem nmJ8 : ∀ a, a < 0 → ∀ b, b < 0 → a ≠ b → (TJ8 a).2.1 ≠ (TJ8 b).2.1 := by decide +kernel
theorem tyJ8_ok : ∀ k, k < 0 → parseFieldDescriptor (TJ8 k).2.2.1 = some (tyJ8 k) := by decide +kernel
abbrev cJ8_newLength_cabcc : ByteArray := prog_45_method_27_code
def yJ8_newLength_cabcc : MethodName := ⟨RJ8, "newLength", "(III)I"⟩
abbrev cJ8_hugeLength_7cf53 : ByteArray := prog_45_method_28_code
def yJ8_hugeLength_7cf53 : MethodName := ⟨RJ8, "hugeLength", "(II)I"⟩
def RJ3 : String := "jdk/internal/util/Preconditions"
def TJ3 : u_T := fun k => match k with
  | _ => ("", "", "", false)
def tyJ3 : Nat → FieldType := fun k => match k with
  | _ => .int
abbrev wsJ30 : List Cond := u_ws RJ3 TJ3 0
theorem nmJ3 : ∀ a, a < 0 → ∀ b, b < 0 → a ≠ b → (TJ3 a).2.1 ≠ (TJ3 b).2.1 := by decide +kernel
theorem tyJ3_ok : ∀ k, k < 0 → parseFieldDescriptor (TJ3 k).2.2.1 = some (tyJ3 k) := by decide +kernel
abbrev cJ3_checkIndex_8e157 : ByteArray := prog_46_method_11_code
def yJ3_checkIndex_8e157 : MethodName := ⟨RJ3, "checkIndex", "(IILjava/util/function/BiFunction;)I"⟩
def RL : String := "ChannelWinterLaw"
abbrev cL_ice : ByteArray := method_3_code
def yL_ice : MethodName := ⟨RL, "ice", "(LChannelWinter;II[J)I"⟩
abbrev cL_land : ByteArray := method_4_code
def yL_land : MethodName := ⟨RL, "land", "(LChannelWinter;I[J)I"⟩
abbrev cL_port : ByteArray := method_5_code
def yL_port : MethodName := ⟨RL, "port", "(LChannelWinter;I[J)I"⟩
abbrev cL_rule : ByteArray := method_6_code
def yL_rule : MethodName := ⟨RL, "rule", "(LChannelWinter;III[J)I"⟩
abbrev cL_exempt : ByteArray := method_7_code
def yL_exempt : MethodName := ⟨RL, "exempt", "(LChannelWinter;II[J)I"⟩
abbrev cL_breaker : ByteArray := method_8_code
def yL_breaker : MethodName := ⟨RL, "breaker", "(LChannelWinter;II[J)I"⟩
abbrev cL_ship : ByteArray := method_9_code
def yL_ship : MethodName := ⟨RL, "ship", "(LChannelWinter;IIII[J)I"⟩
abbrev cL_steer : ByteArray := method_10_code
def yL_steer : MethodName := ⟨RL, "steer", "(LChannelWinter;II[J)I"⟩
abbrev cL_sail : ByteArray := method_11_code
def yL_sail : MethodName := ⟨RL, "sail", "(LChannelWinter;II[J)I"⟩
abbrev cL_halt : ByteArray := method_12_code
def yL_halt : MethodName := ⟨RL, "halt", "(LChannelWinter;I[J)I"⟩
abbrev cL_lead : ByteArray := method_13_code
def yL_lead : MethodName := ⟨RL, "lead", "(LChannelWinter;II[J)I"⟩
abbrev cL_tow : ByteArray := method_14_code
def yL_tow : MethodName := ⟨RL, "tow", "(LChannelWinter;II[J)I"⟩
abbrev cL_fuel : ByteArray := method_15_code
def yL_fuel : MethodName := ⟨RL, "fuel", "(LChannelWinter;II[J)I"⟩
abbrev cL_pass : ByteArray := method_16_code
def yL_pass : MethodName := ⟨RL, "pass", "(LChannelWinter;III[J)I"⟩
abbrev cL_ofCell : ByteArray := method_17_code
def yL_ofCell : MethodName := ⟨RL, "ofCell", "(LChannelWinter;II[J)I"⟩
abbrev cL_ofBreaker : ByteArray := method_18_code
def yL_ofBreaker : MethodName := ⟨RL, "ofBreaker", "(LChannelWinter;II[J)I"⟩
abbrev cL_ofShip : ByteArray := method_19_code
def yL_ofShip : MethodName := ⟨RL, "ofShip", "(LChannelWinter;II[J)I"⟩
abbrev cL_inForce : ByteArray := method_20_code
def yL_inForce : MethodName := ⟨RL, "inForce", "(LChannelWinter;II[J)I"⟩
abbrev cL_many : ByteArray := method_21_code
def yL_many : MethodName := ⟨RL, "many", "(LChannelWinter;I[J)I"⟩
abbrev cL_way : ByteArray := method_22_code
def yL_way : MethodName := ⟨RL, "way", "(LChannelWinter;II[J)I"⟩
abbrev cL_toBreak : ByteArray := method_23_code
def yL_toBreak : MethodName := ⟨RL, "toBreak", "(LChannelWinter;I[J)I"⟩
abbrev cL_helpNext : ByteArray := method_24_code
def yL_helpNext : MethodName := ⟨RL, "helpNext", "(LChannelWinter;I[J)I"⟩
abbrev cL_arriveIn : ByteArray := method_25_code
def yL_arriveIn : MethodName := ⟨RL, "arriveIn", "(LChannelWinter;IIII[J)I"⟩
abbrev cL_law : ByteArray := code
def yL_law : MethodName := ⟨RL, "law", "([I)Z"⟩
abbrev vwCl : List vw_C := [(RJ6, TJ6, 1), (RJx35411, TJx35411, 4), (RJx4a65c, TJx4a65c, 3), (RX0, TX0, 5), (RX1, TX1, 5), (RX2, TX2, 2), (RX3, TX3, 5), (RX4, TX4, 2), (RX5, TX5, 2), (RX6, TX6, 7), (RX7, TX7, 12), (RX8, TX8, 4), (RX9, TX9, 6), (RX10, TX10, 3), (RX11, TX11, 9), (RX12, TX12, 11), (RX13, TX13, 2)]
