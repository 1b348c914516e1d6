/-! names: the classes, their fields in the order of the slots (the printed names) -/
def RX0 : String := "HerOrders$Deeds"
def TX0 : u_T := fun k => match k with
  | 0 => ("HerOrders$Deeds", "sort", "[I", true)
  | 1 => ("HerOrders$Deeds", "doer", "[I", true)
  | 2 => ("HerOrders$Deeds", "aim", "[I", true)
  | _ => ("HerOrders$Deeds", "size", "I", false)
def tyX0 : Nat → FieldType := fun k => match k with
  | 0 => .array .int
  | 1 => .array .int
  | 2 => .array .int
  | _ => .int
theorem nmX0 : ∀ a, a < 4 → ∀ b, b < 4 → a ≠ b → (TX0 a).2.1 ≠ (TX0 b).2.1 := by decide +kernel
theorem tyX0_ok : ∀ k, k < 4 → parseFieldDescriptor (TX0 k).2.2.1 = some (tyX0 k) := by decide +kernel
def RX1 : String := "HerOrders$House"
def TX1 : u_T := fun k => match k with
  | 0 => ("HerOrders$House", "speakers", "I", false)
  | 1 => ("HerOrders$House", "kind", "[I", true)
  | 2 => ("HerOrders$House", "words", "[I", true)
  | 3 => ("HerOrders$House", "firstRoom", "[I", true)
  | 4 => ("HerOrders$House", "fullBreath", "[I", true)
  | 5 => ("HerOrders$House", "room", "[I", true)
  | 6 => ("HerOrders$House", "breath", "[I", true)
  | 7 => ("HerOrders$House", "hour", "I", false)
  | 8 => ("HerOrders$House", "ended", "I", false)
  | 9 => ("HerOrders$House", "order", "[I", true)
  | 10 => ("HerOrders$House", "teller", "[I", true)
  | 11 => ("HerOrders$House", "size", "I", false)
  | _ => ("HerOrders$House", "deeds", "LHerOrders$Deeds;", true)
def tyX1 : Nat → FieldType := fun k => match k with
  | 0 => .int
  | 1 => .array .int
  | 2 => .array .int
  | 3 => .array .int
  | 4 => .array .int
  | 5 => .array .int
  | 6 => .array .int
  | 7 => .int
  | 8 => .int
  | 9 => .array .int
  | 10 => .array .int
  | 11 => .int
  | _ => .object "HerOrders$Deeds"
theorem nmX1 : ∀ a, a < 13 → ∀ b, b < 13 → a ≠ b → (TX1 a).2.1 ≠ (TX1 b).2.1 := by decide +kernel
theorem tyX1_ok : ∀ k, k < 13 → parseFieldDescriptor (TX1 k).2.2.1 = some (tyX1 k) := by decide +kernel
def RX2 : String := "HerOrders$Row"
def TX2 : u_T := fun k => match k with
  | 0 => ("HerOrders$Row", "places", "[I", true)
  | _ => ("HerOrders$Row", "size", "I", false)
def tyX2 : Nat → FieldType := fun k => match k with
  | 0 => .array .int
  | _ => .int
theorem nmX2 : ∀ a, a < 2 → ∀ b, b < 2 → a ≠ b → (TX2 a).2.1 ≠ (TX2 b).2.1 := by decide +kernel
theorem tyX2_ok : ∀ k, k < 2 → parseFieldDescriptor (TX2 k).2.2.1 = some (tyX2 k) := by decide +kernel
def RX3 : String := "HerOrders$Told"
def TX3 : u_T := fun k => match k with
  | 0 => ("HerOrders$Told", "asked", "I", false)
  | 1 => ("HerOrders$Told", "upper", "J", false)
  | 2 => ("HerOrders$Told", "lower", "J", false)
  | 3 => ("HerOrders$Told", "latest", "I", false)
  | _ => ("HerOrders$Told", "times", "[I", true)
def tyX3 : Nat → FieldType := fun k => match k with
  | 0 => .int
  | 1 => .long
  | 2 => .long
  | 3 => .int
  | _ => .array .int
theorem nmX3 : ∀ a, a < 5 → ∀ b, b < 5 → a ≠ b → (TX3 a).2.1 ≠ (TX3 b).2.1 := by decide +kernel
theorem tyX3_ok : ∀ k, k < 5 → parseFieldDescriptor (TX3 k).2.2.1 = some (tyX3 k) := by decide +kernel
def RX4 : String := "HerOrders$Trials"
def TX4 : u_T := fun k => match k with
  | 0 => ("HerOrders$Trials", "house", "LHerOrders$House;", true)
  | 1 => ("HerOrders$Trials", "words", "[I", true)
  | 2 => ("HerOrders$Trials", "best", "[I", true)
  | 3 => ("HerOrders$Trials", "bestLength", "I", false)
  | _ => ("HerOrders$Trials", "costs", "[I", true)
def tyX4 : Nat → FieldType := fun k => match k with
  | 0 => .object "HerOrders$House"
  | 1 => .array .int
  | 2 => .array .int
  | 3 => .int
  | _ => .array .int
theorem nmX4 : ∀ a, a < 5 → ∀ b, b < 5 → a ≠ b → (TX4 a).2.1 ≠ (TX4 b).2.1 := by decide +kernel
theorem tyX4_ok : ∀ k, k < 5 → parseFieldDescriptor (TX4 k).2.2.1 = some (tyX4 k) := by decide +kernel
def RX5 : String := "HerOrders$Ways"
def TX5 : u_T := fun k => match k with
  | 0 => ("HerOrders$Ways", "house", "LHerOrders$House;", true)
  | 1 => ("HerOrders$Ways", "words", "[I", true)
  | 2 => ("HerOrders$Ways", "rooms", "[I", true)
  | 3 => ("HerOrders$Ways", "length", "I", false)
  | 4 => ("HerOrders$Ways", "way", "[I", true)
  | 5 => ("HerOrders$Ways", "waysOf", "[I", true)
  | 6 => ("HerOrders$Ways", "reach", "[I", true)
  | 7 => ("HerOrders$Ways", "fewestWay", "[I", true)
  | 8 => ("HerOrders$Ways", "fewest", "I", false)
  | 9 => ("HerOrders$Ways", "opener", "I", false)
  | 10 => ("HerOrders$Ways", "all", "I", false)
  | 11 => ("HerOrders$Ways", "any", "I", false)
  | 12 => ("HerOrders$Ways", "guest", "I", false)
  | _ => ("HerOrders$Ways", "guestWords", "I", false)
def tyX5 : Nat → FieldType := fun k => match k with
  | 0 => .object "HerOrders$House"
  | 1 => .array .int
  | 2 => .array .int
  | 3 => .int
  | 4 => .array .int
  | 5 => .array .int
  | 6 => .array .int
  | 7 => .array .int
  | 8 => .int
  | 9 => .int
  | 10 => .int
  | 11 => .int
  | 12 => .int
  | _ => .int
theorem nmX5 : ∀ a, a < 14 → ∀ b, b < 14 → a ≠ b → (TX5 a).2.1 ≠ (TX5 b).2.1 := by decide +kernel
theorem tyX5_ok : ∀ k, k < 14 → parseFieldDescriptor (TX5 k).2.2.1 = some (tyX5 k) := by decide +kernel
def RX6 : String := "HerOrders"
def TX6 : u_T := fun k => match k with
  | 0 => ("HerOrders", "rows", "[LHerOrders$Row;", true)
  | 1 => ("HerOrders", "texts", "[LHerOrders$Row;", true)
  | 2 => ("HerOrders", "home", "LHerOrders$House;", true)
  | 3 => ("HerOrders", "kept", "[LHerOrders$Deeds;", true)
  | 4 => ("HerOrders", "search", "LHerOrders$Ways;", true)
  | 5 => ("HerOrders", "trials", "LHerOrders$Trials;", true)
  | _ => ("HerOrders", "told", "LHerOrders$Told;", true)
def tyX6 : Nat → FieldType := fun k => match k with
  | 0 => .array (.object "HerOrders$Row")
  | 1 => .array (.object "HerOrders$Row")
  | 2 => .object "HerOrders$House"
  | 3 => .array (.object "HerOrders$Deeds")
  | 4 => .object "HerOrders$Ways"
  | 5 => .object "HerOrders$Trials"
  | _ => .object "HerOrders$Told"
theorem nmX6 : ∀ a, a < 7 → ∀ b, b < 7 → a ≠ b → (TX6 a).2.1 ≠ (TX6 b).2.1 := by decide +kernel
theorem tyX6_ok : ∀ k, k < 7 → parseFieldDescriptor (TX6 k).2.2.1 = some (tyX6 k) := by decide +kernel
abbrev vwCl : List vw_C := [(RX0, TX0, 4), (RX1, TX1, 13), (RX2, TX2, 2), (RX3, TX3, 5), (RX4, TX4, 5), (RX5, TX5, 14), (RX6, TX6, 7)]
theorem sm_inL {ws : List Cond} (ps : List Nat) (hp : ws = ps.filterMap (fun i => lw_tbl[i]?)) : ∀ z ∈ ws, z ∈ lw_tbl := by
  intro z hz
  rw [hp] at hz
  obtain ⟨i, -, hi⟩ := List.mem_filterMap.mp hz
  exact List.mem_of_getElem? hi
set_option maxRecDepth 100000 in
theorem sm_inX0 : ∀ z ∈ u_ws RX0 TX0 4, z ∈ lw_tbl := sm_inL [128, 130, 132, 134] (by decide +kernel)
set_option maxRecDepth 100000 in
theorem sm_inX1 : ∀ z ∈ u_ws RX1 TX1 13, z ∈ lw_tbl := sm_inL [171, 173, 175, 177, 179, 181, 183, 185, 187, 189, 191, 193, 195] (by decide +kernel)
set_option maxRecDepth 100000 in
theorem sm_inX2 : ∀ z ∈ u_ws RX2 TX2 2, z ∈ lw_tbl := sm_inL [106, 108] (by decide +kernel)
set_option maxRecDepth 100000 in
theorem sm_inX3 : ∀ z ∈ u_ws RX3 TX3 5, z ∈ lw_tbl := sm_inL [291, 293, 295, 297, 299] (by decide +kernel)
set_option maxRecDepth 100000 in
theorem sm_inX4 : ∀ z ∈ u_ws RX4 TX4 5, z ∈ lw_tbl := sm_inL [267, 269, 271, 273, 275] (by decide +kernel)
set_option maxRecDepth 100000 in
theorem sm_inX5 : ∀ z ∈ u_ws RX5 TX5 14, z ∈ lw_tbl := sm_inL [225, 227, 229, 231, 233, 235, 237, 239, 241, 243, 245, 247, 249, 251] (by decide +kernel)
set_option maxRecDepth 100000 in
theorem sm_inX6 : ∀ z ∈ u_ws RX6 TX6 7, z ∈ lw_tbl := sm_inL [309, 311, 313, 315, 317, 319, 321] (by decide +kernel)
