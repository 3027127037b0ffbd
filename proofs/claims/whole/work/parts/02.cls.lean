def RX0 : String := "WhoseDelay$Contract"
def TX0 : u_T := fun k => match k with
  | 0 => ("WhoseDelay$Contract", "tape", "[B", true)
  | 1 => ("WhoseDelay$Contract", "texts", "[B", true)
  | 2 => ("WhoseDelay$Contract", "size", "[I", true)
  | 3 => ("WhoseDelay$Contract", "uses", "[I", true)
  | 4 => ("WhoseDelay$Contract", "from", "[I", true)
  | 5 => ("WhoseDelay$Contract", "fed", "I", false)
  | _ => ("WhoseDelay$Contract", "count", "I", false)
def tyX0 : Nat → FieldType := fun k => match k with
  | 0 => .array .byte
  | 1 => .array .byte
  | 2 => .array .int
  | 3 => .array .int
  | 4 => .array .int
  | 5 => .int
  | _ => .int
theorem nmX0 : ∀ a, a < 7 → ∀ b, b < 7 → a ≠ b → (TX0 a).2.1 ≠ (TX0 b).2.1 := by decide +kernel
theorem tyX0_ok : ∀ k, k < 7 → parseFieldDescriptor (TX0 k).2.2.1 = some (tyX0 k) := by decide +kernel
def RX1 : String := "WhoseDelay$Days"
def TX1 : u_T := fun k => match k with
  | 0 => ("WhoseDelay$Days", "wet", "[J", true)
  | 1 => ("WhoseDelay$Days", "dry", "[I", true)
  | 2 => ("WhoseDelay$Days", "rainy", "I", false)
  | 3 => ("WhoseDelay$Days", "weekDays", "I", false)
  | _ => ("WhoseDelay$Days", "perWeek", "I", false)
def tyX1 : Nat → FieldType := fun k => match k with
  | 0 => .array .long
  | 1 => .array .int
  | 2 => .int
  | 3 => .int
  | _ => .int
theorem nmX1 : ∀ a, a < 5 → ∀ b, b < 5 → a ≠ b → (TX1 a).2.1 ≠ (TX1 b).2.1 := by decide +kernel
theorem tyX1_ok : ∀ k, k < 5 → parseFieldDescriptor (TX1 k).2.2.1 = some (tyX1 k) := by decide +kernel
def RX2 : String := "WhoseDelay$Events"
def TX2 : u_T := fun k => match k with
  | 0 => ("WhoseDelay$Events", "work", "[I", true)
  | 1 => ("WhoseDelay$Events", "cause", "[I", true)
  | 2 => ("WhoseDelay$Events", "day", "[I", true)
  | 3 => ("WhoseDelay$Events", "more", "[I", true)
  | 4 => ("WhoseDelay$Events", "notice", "[I", true)
  | 5 => ("WhoseDelay$Events", "told", "[I", true)
  | 6 => ("WhoseDelay$Events", "back", "[I", true)
  | _ => ("WhoseDelay$Events", "count", "I", false)
def tyX2 : Nat → FieldType := fun k => match k with
  | 0 => .array .int
  | 1 => .array .int
  | 2 => .array .int
  | 3 => .array .int
  | 4 => .array .int
  | 5 => .array .int
  | 6 => .array .int
  | _ => .int
theorem nmX2 : ∀ a, a < 8 → ∀ b, b < 8 → a ≠ b → (TX2 a).2.1 ≠ (TX2 b).2.1 := by decide +kernel
theorem tyX2_ok : ∀ k, k < 8 → parseFieldDescriptor (TX2 k).2.2.1 = some (tyX2 k) := by decide +kernel
def RX3 : String := "WhoseDelay$Haste"
def TX3 : u_T := fun k => match k with
  | 0 => ("WhoseDelay$Haste", "work", "[I", true)
  | 1 => ("WhoseDelay$Haste", "most", "[I", true)
  | 2 => ("WhoseDelay$Haste", "price", "[I", true)
  | _ => ("WhoseDelay$Haste", "count", "I", false)
def tyX3 : Nat → FieldType := fun k => match k with
  | 0 => .array .int
  | 1 => .array .int
  | 2 => .array .int
  | _ => .int
theorem nmX3 : ∀ a, a < 4 → ∀ b, b < 4 → a ≠ b → (TX3 a).2.1 ≠ (TX3 b).2.1 := by decide +kernel
theorem tyX3_ok : ∀ k, k < 4 → parseFieldDescriptor (TX3 k).2.2.1 = some (tyX3 k) := by decide +kernel
def RX4 : String := "WhoseDelay$Plan"
def TX4 : u_T := fun k => match k with
  | 0 => ("WhoseDelay$Plan", "needs", "[I", true)
  | 1 => ("WhoseDelay$Plan", "ready", "[I", true)
  | _ => ("WhoseDelay$Plan", "ends", "[I", true)
def tyX4 : Nat → FieldType := fun k => match k with
  | 0 => .array .int
  | 1 => .array .int
  | _ => .array .int
theorem nmX4 : ∀ a, a < 3 → ∀ b, b < 3 → a ≠ b → (TX4 a).2.1 ≠ (TX4 b).2.1 := by decide +kernel
theorem tyX4_ok : ∀ k, k < 3 → parseFieldDescriptor (TX4 k).2.2.1 = some (tyX4 k) := by decide +kernel
def RX5 : String := "WhoseDelay$Reader"
def TX5 : u_T := fun k => match k with
  | 0 => ("WhoseDelay$Reader", "names", "[I", true)
  | 1 => ("WhoseDelay$Reader", "bytes", "[B", false)
  | 2 => ("WhoseDelay$Reader", "start", "I", false)
  | 3 => ("WhoseDelay$Reader", "stop", "I", false)
  | 4 => ("WhoseDelay$Reader", "at", "I", false)
  | 5 => ("WhoseDelay$Reader", "open", "I", false)
  | _ => ("WhoseDelay$Reader", "stuck", "Z", false)
def tyX5 : Nat → FieldType := fun k => match k with
  | 0 => .array .int
  | 1 => .array .byte
  | 2 => .int
  | 3 => .int
  | 4 => .int
  | 5 => .int
  | _ => .boolean
theorem nmX5 : ∀ a, a < 7 → ∀ b, b < 7 → a ≠ b → (TX5 a).2.1 ≠ (TX5 b).2.1 := by decide +kernel
theorem tyX5_ok : ∀ k, k < 7 → parseFieldDescriptor (TX5 k).2.2.1 = some (tyX5 k) := by decide +kernel
def RX6 : String := "WhoseDelay$Sheet"
def TX6 : u_T := fun k => match k with
  | 0 => ("WhoseDelay$Sheet", "numbers", "[I", true)
  | 1 => ("WhoseDelay$Sheet", "bits", "I", false)
  | _ => ("WhoseDelay$Sheet", "size", "I", false)
def tyX6 : Nat → FieldType := fun k => match k with
  | 0 => .array .int
  | 1 => .int
  | _ => .int
theorem nmX6 : ∀ a, a < 3 → ∀ b, b < 3 → a ≠ b → (TX6 a).2.1 ≠ (TX6 b).2.1 := by decide +kernel
theorem tyX6_ok : ∀ k, k < 3 → parseFieldDescriptor (TX6 k).2.2.1 = some (tyX6 k) := by decide +kernel
def RX7 : String := "WhoseDelay$Site"
def TX7 : u_T := fun k => match k with
  | 0 => ("WhoseDelay$Site", "days", "LWhoseDelay$Days;", true)
  | 1 => ("WhoseDelay$Site", "works", "LWhoseDelay$Works;", true)
  | 2 => ("WhoseDelay$Site", "events", "LWhoseDelay$Events;", true)
  | 3 => ("WhoseDelay$Site", "contract", "LWhoseDelay$Contract;", true)
  | 4 => ("WhoseDelay$Site", "haste", "LWhoseDelay$Haste;", true)
  | _ => ("WhoseDelay$Site", "today", "I", false)
def tyX7 : Nat → FieldType := fun k => match k with
  | 0 => .object "WhoseDelay$Days"
  | 1 => .object "WhoseDelay$Works"
  | 2 => .object "WhoseDelay$Events"
  | 3 => .object "WhoseDelay$Contract"
  | 4 => .object "WhoseDelay$Haste"
  | _ => .int
theorem nmX7 : ∀ a, a < 6 → ∀ b, b < 6 → a ≠ b → (TX7 a).2.1 ≠ (TX7 b).2.1 := by decide +kernel
theorem tyX7_ok : ∀ k, k < 6 → parseFieldDescriptor (TX7 k).2.2.1 = some (tyX7 k) := by decide +kernel
def RX8 : String := "WhoseDelay$Voices"
def TX8 : u_T := fun k => match k with
  | 0 => ("WhoseDelay$Voices", "bodies", "[I", true)
  | 1 => ("WhoseDelay$Voices", "count", "I", false)
  | 2 => ("WhoseDelay$Voices", "kind", "I", false)
  | 3 => ("WhoseDelay$Voices", "number", "I", false)
  | _ => ("WhoseDelay$Voices", "first", "I", false)
def tyX8 : Nat → FieldType := fun k => match k with
  | 0 => .array .int
  | 1 => .int
  | 2 => .int
  | 3 => .int
  | _ => .int
theorem nmX8 : ∀ a, a < 5 → ∀ b, b < 5 → a ≠ b → (TX8 a).2.1 ≠ (TX8 b).2.1 := by decide +kernel
theorem tyX8_ok : ∀ k, k < 5 → parseFieldDescriptor (TX8 k).2.2.1 = some (tyX8 k) := by decide +kernel
def RX9 : String := "WhoseDelay$Works"
def TX9 : u_T := fun k => match k with
  | 0 => ("WhoseDelay$Works", "kind", "[I", true)
  | 1 => ("WhoseDelay$Works", "length", "[I", true)
  | 2 => ("WhoseDelay$Works", "first", "[I", true)
  | 3 => ("WhoseDelay$Works", "before", "[I", true)
  | 4 => ("WhoseDelay$Works", "lags", "[I", true)
  | 5 => ("WhoseDelay$Works", "order", "[I", true)
  | 6 => ("WhoseDelay$Works", "count", "I", false)
  | _ => ("WhoseDelay$Works", "links", "I", false)
def tyX9 : Nat → FieldType := fun k => match k with
  | 0 => .array .int
  | 1 => .array .int
  | 2 => .array .int
  | 3 => .array .int
  | 4 => .array .int
  | 5 => .array .int
  | 6 => .int
  | _ => .int
theorem nmX9 : ∀ a, a < 8 → ∀ b, b < 8 → a ≠ b → (TX9 a).2.1 ≠ (TX9 b).2.1 := by decide +kernel
theorem tyX9_ok : ∀ k, k < 8 → parseFieldDescriptor (TX9 k).2.2.1 = some (tyX9 k) := by decide +kernel
def RX10 : String := "WhoseDelay"
def TX10 : u_T := fun k => match k with
  | 0 => ("WhoseDelay", "site", "LWhoseDelay$Site;", true)
  | 1 => ("WhoseDelay", "kept", "LWhoseDelay$Site;", true)
  | 2 => ("WhoseDelay", "plan", "LWhoseDelay$Plan;", true)
  | 3 => ("WhoseDelay", "reader", "LWhoseDelay$Reader;", true)
  | 4 => ("WhoseDelay", "voices", "LWhoseDelay$Voices;", true)
  | 5 => ("WhoseDelay", "sheets", "[LWhoseDelay$Sheet;", true)
  | 6 => ("WhoseDelay", "findings", "[I", true)
  | 7 => ("WhoseDelay", "tried", "[I", true)
  | 8 => ("WhoseDelay", "chosen", "[I", true)
  | _ => ("WhoseDelay", "images", "I", false)
def tyX10 : Nat → FieldType := fun k => match k with
  | 0 => .object "WhoseDelay$Site"
  | 1 => .object "WhoseDelay$Site"
  | 2 => .object "WhoseDelay$Plan"
  | 3 => .object "WhoseDelay$Reader"
  | 4 => .object "WhoseDelay$Voices"
  | 5 => .array (.object "WhoseDelay$Sheet")
  | 6 => .array .int
  | 7 => .array .int
  | 8 => .array .int
  | _ => .int
theorem nmX10 : ∀ a, a < 10 → ∀ b, b < 10 → a ≠ b → (TX10 a).2.1 ≠ (TX10 b).2.1 := by decide +kernel
theorem tyX10_ok : ∀ k, k < 10 → parseFieldDescriptor (TX10 k).2.2.1 = some (tyX10 k) := by decide +kernel
def RX11 : String := "WhoseDelayModel"
def TX11 : u_T := fun k => match k with
  | 0 => ("WhoseDelayModel", "now", "[I", true)
  | 1 => ("WhoseDelayModel", "kept", "[I", true)
  | 2 => ("WhoseDelayModel", "images", "I", false)
  | 3 => ("WhoseDelayModel", "found", "[I", true)
  | 4 => ("WhoseDelayModel", "widths", "[I", true)
  | 5 => ("WhoseDelayModel", "sizes", "[I", true)
  | 6 => ("WhoseDelayModel", "numbers", "[I", true)
  | 7 => ("WhoseDelayModel", "trace", "[I", true)
  | 8 => ("WhoseDelayModel", "traced", "I", false)
  | 9 => ("WhoseDelayModel", "more", "[I", true)
  | 10 => ("WhoseDelayModel", "ready", "[I", true)
  | 11 => ("WhoseDelayModel", "ends", "[I", true)
  | 12 => ("WhoseDelayModel", "sorted", "[I", true)
  | 13 => ("WhoseDelayModel", "isSorted", "Z", false)
  | 14 => ("WhoseDelayModel", "floats", "[I", true)
  | 15 => ("WhoseDelayModel", "days", "[I", true)
  | 16 => ("WhoseDelayModel", "at", "I", false)
  | 17 => ("WhoseDelayModel", "open", "I", false)
  | 18 => ("WhoseDelayModel", "isFault", "Z", false)
  | 19 => ("WhoseDelayModel", "code", "[I", true)
  | 20 => ("WhoseDelayModel", "coded", "I", false)
  | 21 => ("WhoseDelayModel", "pile", "[I", true)
  | 22 => ("WhoseDelayModel", "row", "[I", true)
  | 23 => ("WhoseDelayModel", "best", "[I", true)
  | 24 => ("WhoseDelayModel", "speaker", "I", false)
  | _ => ("WhoseDelayModel", "between", "[I", true)
def tyX11 : Nat → FieldType := fun k => match k with
  | 0 => .array .int
  | 1 => .array .int
  | 2 => .int
  | 3 => .array .int
  | 4 => .array .int
  | 5 => .array .int
  | 6 => .array .int
  | 7 => .array .int
  | 8 => .int
  | 9 => .array .int
  | 10 => .array .int
  | 11 => .array .int
  | 12 => .array .int
  | 13 => .boolean
  | 14 => .array .int
  | 15 => .array .int
  | 16 => .int
  | 17 => .int
  | 18 => .boolean
  | 19 => .array .int
  | 20 => .int
  | 21 => .array .int
  | 22 => .array .int
  | 23 => .array .int
  | 24 => .int
  | _ => .array .int
theorem nmX11 : ∀ a, a < 26 → ∀ b, b < 26 → a ≠ b → (TX11 a).2.1 ≠ (TX11 b).2.1 := by decide +kernel
theorem tyX11_ok : ∀ k, k < 26 → parseFieldDescriptor (TX11 k).2.2.1 = some (tyX11 k) := by decide +kernel
abbrev vwCl : List vw_C := [(RX0, TX0, 7), (RX1, TX1, 5), (RX2, TX2, 8), (RX3, TX3, 4), (RX4, TX4, 3), (RX5, TX5, 7), (RX6, TX6, 3), (RX7, TX7, 6), (RX8, TX8, 5), (RX9, TX9, 8), (RX10, TX10, 10), (RX11, TX11, 26)]
def tyC : Nat → Nat → FieldType := fun ci => match ci with
  | 0 => tyX0
  | 1 => tyX1
  | 2 => tyX2
  | 3 => tyX3
  | 4 => tyX4
  | 5 => tyX5
  | 6 => tyX6
  | 7 => tyX7
  | 8 => tyX8
  | 9 => tyX9
  | 10 => tyX10
  | _ => tyX11
def gw : List Cond := lw_tbl.filter goodWord
def isNest (w : Cond) : Bool := match w with
  | .methodLinkNest .. => true
  | .fieldLinkNest .. => true
  | _ => false
def nw : List Cond := lw_tbl.filter isNest
theorem gw_in {w : Cond} (i : Nat) (h : lw_tbl[i]? = some w) (hg : goodWord w = true) : w ∈ gw := List.mem_filter.mpr ⟨List.mem_of_getElem? h, hg⟩
theorem nw_in {w : Cond} (i : Nat) (h : lw_tbl[i]? = some w) (hg : isNest w = true) : w ∈ nw := List.mem_filter.mpr ⟨List.mem_of_getElem? h, hg⟩
theorem gw_tbl {w : Cond} (h : w ∈ gw) : w ∈ lw_tbl := (List.mem_filter.mp h).1
theorem nw_tbl {w : Cond} (h : w ∈ nw) : w ∈ lw_tbl := (List.mem_filter.mp h).1
theorem gw_good {w : Cond} (h : w ∈ gw) : goodWord w = true := (List.mem_filter.mp h).2
theorem inX0 : ∀ w ∈ u_ws RX0 TX0 7, w ∈ gw := by
  intro w hw
  obtain ⟨k, hk, rfl⟩ := List.mem_map.mp hw
  have hk := List.mem_range.mp hk
  match k, hk with
  | 0, _ => exact gw_in 251 (by decide +kernel) (by decide +kernel)
  | 1, _ => exact gw_in 253 (by decide +kernel) (by decide +kernel)
  | 2, _ => exact gw_in 255 (by decide +kernel) (by decide +kernel)
  | 3, _ => exact gw_in 257 (by decide +kernel) (by decide +kernel)
  | 4, _ => exact gw_in 259 (by decide +kernel) (by decide +kernel)
  | 5, _ => exact gw_in 261 (by decide +kernel) (by decide +kernel)
  | 6, _ => exact gw_in 263 (by decide +kernel) (by decide +kernel)
  | k + 7, hk => exact absurd hk (by omega)
theorem inX1 : ∀ w ∈ u_ws RX1 TX1 5, w ∈ gw := by
  intro w hw
  obtain ⟨k, hk, rfl⟩ := List.mem_map.mp hw
  have hk := List.mem_range.mp hk
  match k, hk with
  | 0, _ => exact gw_in 137 (by decide +kernel) (by decide +kernel)
  | 1, _ => exact gw_in 139 (by decide +kernel) (by decide +kernel)
  | 2, _ => exact gw_in 141 (by decide +kernel) (by decide +kernel)
  | 3, _ => exact gw_in 143 (by decide +kernel) (by decide +kernel)
  | 4, _ => exact gw_in 145 (by decide +kernel) (by decide +kernel)
  | k + 5, hk => exact absurd hk (by omega)
theorem inX2 : ∀ w ∈ u_ws RX2 TX2 8, w ∈ gw := by
  intro w hw
  obtain ⟨k, hk, rfl⟩ := List.mem_map.mp hw
  have hk := List.mem_range.mp hk
  match k, hk with
  | 0, _ => exact gw_in 216 (by decide +kernel) (by decide +kernel)
  | 1, _ => exact gw_in 218 (by decide +kernel) (by decide +kernel)
  | 2, _ => exact gw_in 220 (by decide +kernel) (by decide +kernel)
  | 3, _ => exact gw_in 222 (by decide +kernel) (by decide +kernel)
  | 4, _ => exact gw_in 224 (by decide +kernel) (by decide +kernel)
  | 5, _ => exact gw_in 226 (by decide +kernel) (by decide +kernel)
  | 6, _ => exact gw_in 228 (by decide +kernel) (by decide +kernel)
  | 7, _ => exact gw_in 230 (by decide +kernel) (by decide +kernel)
  | k + 8, hk => exact absurd hk (by omega)
theorem inX3 : ∀ w ∈ u_ws RX3 TX3 4, w ∈ gw := by
  intro w hw
  obtain ⟨k, hk, rfl⟩ := List.mem_map.mp hw
  have hk := List.mem_range.mp hk
  match k, hk with
  | 0, _ => exact gw_in 279 (by decide +kernel) (by decide +kernel)
  | 1, _ => exact gw_in 281 (by decide +kernel) (by decide +kernel)
  | 2, _ => exact gw_in 283 (by decide +kernel) (by decide +kernel)
  | 3, _ => exact gw_in 285 (by decide +kernel) (by decide +kernel)
  | k + 4, hk => exact absurd hk (by omega)
theorem inX4 : ∀ w ∈ u_ws RX4 TX4 3, w ∈ gw := by
  intro w hw
  obtain ⟨k, hk, rfl⟩ := List.mem_map.mp hw
  have hk := List.mem_range.mp hk
  match k, hk with
  | 0, _ => exact gw_in 328 (by decide +kernel) (by decide +kernel)
  | 1, _ => exact gw_in 330 (by decide +kernel) (by decide +kernel)
  | 2, _ => exact gw_in 332 (by decide +kernel) (by decide +kernel)
  | k + 3, hk => exact absurd hk (by omega)
theorem inX5 : ∀ w ∈ u_ws RX5 TX5 7, w ∈ gw := by
  intro w hw
  obtain ⟨k, hk, rfl⟩ := List.mem_map.mp hw
  have hk := List.mem_range.mp hk
  match k, hk with
  | 0, _ => exact gw_in 349 (by decide +kernel) (by decide +kernel)
  | 1, _ => exact gw_in 351 (by decide +kernel) (by decide +kernel)
  | 2, _ => exact gw_in 353 (by decide +kernel) (by decide +kernel)
  | 3, _ => exact gw_in 355 (by decide +kernel) (by decide +kernel)
  | 4, _ => exact gw_in 357 (by decide +kernel) (by decide +kernel)
  | 5, _ => exact gw_in 359 (by decide +kernel) (by decide +kernel)
  | 6, _ => exact gw_in 361 (by decide +kernel) (by decide +kernel)
  | k + 7, hk => exact absurd hk (by omega)
theorem inX6 : ∀ w ∈ u_ws RX6 TX6 3, w ∈ gw := by
  intro w hw
  obtain ⟨k, hk, rfl⟩ := List.mem_map.mp hw
  have hk := List.mem_range.mp hk
  match k, hk with
  | 0, _ => exact gw_in 403 (by decide +kernel) (by decide +kernel)
  | 1, _ => exact gw_in 405 (by decide +kernel) (by decide +kernel)
  | 2, _ => exact gw_in 407 (by decide +kernel) (by decide +kernel)
  | k + 3, hk => exact absurd hk (by omega)
theorem inX7 : ∀ w ∈ u_ws RX7 TX7 6, w ∈ gw := by
  intro w hw
  obtain ⟨k, hk, rfl⟩ := List.mem_map.mp hw
  have hk := List.mem_range.mp hk
  match k, hk with
  | 0, _ => exact gw_in 303 (by decide +kernel) (by decide +kernel)
  | 1, _ => exact gw_in 305 (by decide +kernel) (by decide +kernel)
  | 2, _ => exact gw_in 307 (by decide +kernel) (by decide +kernel)
  | 3, _ => exact gw_in 309 (by decide +kernel) (by decide +kernel)
  | 4, _ => exact gw_in 311 (by decide +kernel) (by decide +kernel)
  | 5, _ => exact gw_in 313 (by decide +kernel) (by decide +kernel)
  | k + 6, hk => exact absurd hk (by omega)
theorem inX8 : ∀ w ∈ u_ws RX8 TX8 5, w ∈ gw := by
  intro w hw
  obtain ⟨k, hk, rfl⟩ := List.mem_map.mp hw
  have hk := List.mem_range.mp hk
  match k, hk with
  | 0, _ => exact gw_in 377 (by decide +kernel) (by decide +kernel)
  | 1, _ => exact gw_in 379 (by decide +kernel) (by decide +kernel)
  | 2, _ => exact gw_in 381 (by decide +kernel) (by decide +kernel)
  | 3, _ => exact gw_in 383 (by decide +kernel) (by decide +kernel)
  | 4, _ => exact gw_in 385 (by decide +kernel) (by decide +kernel)
  | k + 5, hk => exact absurd hk (by omega)
theorem inX9 : ∀ w ∈ u_ws RX9 TX9 8, w ∈ gw := by
  intro w hw
  obtain ⟨k, hk, rfl⟩ := List.mem_map.mp hw
  have hk := List.mem_range.mp hk
  match k, hk with
  | 0, _ => exact gw_in 174 (by decide +kernel) (by decide +kernel)
  | 1, _ => exact gw_in 176 (by decide +kernel) (by decide +kernel)
  | 2, _ => exact gw_in 178 (by decide +kernel) (by decide +kernel)
  | 3, _ => exact gw_in 180 (by decide +kernel) (by decide +kernel)
  | 4, _ => exact gw_in 182 (by decide +kernel) (by decide +kernel)
  | 5, _ => exact gw_in 184 (by decide +kernel) (by decide +kernel)
  | 6, _ => exact gw_in 186 (by decide +kernel) (by decide +kernel)
  | 7, _ => exact gw_in 188 (by decide +kernel) (by decide +kernel)
  | k + 8, hk => exact absurd hk (by omega)
theorem inX10 : ∀ w ∈ u_ws RX10 TX10 10, w ∈ gw := by
  intro w hw
  obtain ⟨k, hk, rfl⟩ := List.mem_map.mp hw
  have hk := List.mem_range.mp hk
  match k, hk with
  | 0, _ => exact gw_in 420 (by decide +kernel) (by decide +kernel)
  | 1, _ => exact gw_in 422 (by decide +kernel) (by decide +kernel)
  | 2, _ => exact gw_in 424 (by decide +kernel) (by decide +kernel)
  | 3, _ => exact gw_in 426 (by decide +kernel) (by decide +kernel)
  | 4, _ => exact gw_in 428 (by decide +kernel) (by decide +kernel)
  | 5, _ => exact gw_in 430 (by decide +kernel) (by decide +kernel)
  | 6, _ => exact gw_in 432 (by decide +kernel) (by decide +kernel)
  | 7, _ => exact gw_in 434 (by decide +kernel) (by decide +kernel)
  | 8, _ => exact gw_in 436 (by decide +kernel) (by decide +kernel)
  | 9, _ => exact gw_in 438 (by decide +kernel) (by decide +kernel)
  | k + 10, hk => exact absurd hk (by omega)
theorem inX11 : ∀ w ∈ u_ws RX11 TX11 26, w ∈ gw := by
  intro w hw
  obtain ⟨k, hk, rfl⟩ := List.mem_map.mp hw
  have hk := List.mem_range.mp hk
  match k, hk with
  | 0, _ => exact gw_in 993 (by decide +kernel) (by decide +kernel)
  | 1, _ => exact gw_in 995 (by decide +kernel) (by decide +kernel)
  | 2, _ => exact gw_in 997 (by decide +kernel) (by decide +kernel)
  | 3, _ => exact gw_in 999 (by decide +kernel) (by decide +kernel)
  | 4, _ => exact gw_in 1001 (by decide +kernel) (by decide +kernel)
  | 5, _ => exact gw_in 1003 (by decide +kernel) (by decide +kernel)
  | 6, _ => exact gw_in 1005 (by decide +kernel) (by decide +kernel)
  | 7, _ => exact gw_in 1007 (by decide +kernel) (by decide +kernel)
  | 8, _ => exact gw_in 1009 (by decide +kernel) (by decide +kernel)
  | 9, _ => exact gw_in 1011 (by decide +kernel) (by decide +kernel)
  | 10, _ => exact gw_in 1013 (by decide +kernel) (by decide +kernel)
  | 11, _ => exact gw_in 1015 (by decide +kernel) (by decide +kernel)
  | 12, _ => exact gw_in 1017 (by decide +kernel) (by decide +kernel)
  | 13, _ => exact gw_in 1019 (by decide +kernel) (by decide +kernel)
  | 14, _ => exact gw_in 1021 (by decide +kernel) (by decide +kernel)
  | 15, _ => exact gw_in 1023 (by decide +kernel) (by decide +kernel)
  | 16, _ => exact gw_in 1025 (by decide +kernel) (by decide +kernel)
  | 17, _ => exact gw_in 1027 (by decide +kernel) (by decide +kernel)
  | 18, _ => exact gw_in 1029 (by decide +kernel) (by decide +kernel)
  | 19, _ => exact gw_in 1031 (by decide +kernel) (by decide +kernel)
  | 20, _ => exact gw_in 1033 (by decide +kernel) (by decide +kernel)
  | 21, _ => exact gw_in 1035 (by decide +kernel) (by decide +kernel)
  | 22, _ => exact gw_in 1037 (by decide +kernel) (by decide +kernel)
  | 23, _ => exact gw_in 1039 (by decide +kernel) (by decide +kernel)
  | 24, _ => exact gw_in 1041 (by decide +kernel) (by decide +kernel)
  | 25, _ => exact gw_in 1043 (by decide +kernel) (by decide +kernel)
  | k + 26, hk => exact absurd hk (by omega)
def shT : List (Nat × Nat) := [(10, 10), (7, 6), (1, 5), (21, 15), (20, 901), (9, 8), (20, 16), (20, 16), (20, 16), (20, 16), (20, 256), (20, 16), (2, 8), (20, 20), (20, 20), (20, 20), (20, 20), (20, 20), (20, 20), (20, 20), (0, 7), (22, 60), (22, 600), (20, 10), (20, 10), (20, 10), (3, 4), (20, 5), (20, 5), (20, 5), (7, 6), (1, 5), (21, 15), (20, 901), (9, 8), (20, 16), (20, 16), (20, 16), (20, 16), (20, 256), (20, 16), (2, 8), (20, 20), (20, 20), (20, 20), (20, 20), (20, 20), (20, 20), (20, 20), (0, 7), (22, 60), (22, 600), (20, 10), (20, 10), (20, 10), (3, 4), (20, 5), (20, 5), (20, 5), (4, 3), (20, 16), (20, 16), (20, 16), (5, 7), (20, 6), (22, 0), (8, 5), (20, 40), (23, 4), (20, 6), (20, 5), (20, 5), (6, 3), (20, 24), (6, 3), (20, 24), (6, 3), (20, 24), (6, 3), (20, 24), (11, 26), (20, 1993), (20, 1993), (20, 6), (20, 4), (20, 4), (20, 96), (20, 40), (20, 16), (20, 16), (20, 16), (20, 16), (20, 16), (20, 4), (20, 70), (20, 70), (20, 5), (20, 5), (20, 24)]
def sh (a : Nat) : Nat × Nat := if a = 1001 then (20, 6) else if a = 1002 then (20, 24) else if a = 1000 then (20, 0) else shT.getD a (99, 0)
theorem sh_0 : sh 0 = (10, 10) := by decide +kernel
theorem sh_1 : sh 1 = (7, 6) := by decide +kernel
theorem sh_2 : sh 2 = (1, 5) := by decide +kernel
theorem sh_3 : sh 3 = (21, 15) := by decide +kernel
theorem sh_4 : sh 4 = (20, 901) := by decide +kernel
theorem sh_5 : sh 5 = (9, 8) := by decide +kernel
theorem sh_6 : sh 6 = (20, 16) := by decide +kernel
theorem sh_7 : sh 7 = (20, 16) := by decide +kernel
theorem sh_8 : sh 8 = (20, 16) := by decide +kernel
theorem sh_9 : sh 9 = (20, 16) := by decide +kernel
theorem sh_10 : sh 10 = (20, 256) := by decide +kernel
theorem sh_11 : sh 11 = (20, 16) := by decide +kernel
theorem sh_12 : sh 12 = (2, 8) := by decide +kernel
theorem sh_13 : sh 13 = (20, 20) := by decide +kernel
theorem sh_14 : sh 14 = (20, 20) := by decide +kernel
theorem sh_15 : sh 15 = (20, 20) := by decide +kernel
theorem sh_16 : sh 16 = (20, 20) := by decide +kernel
theorem sh_17 : sh 17 = (20, 20) := by decide +kernel
theorem sh_18 : sh 18 = (20, 20) := by decide +kernel
theorem sh_19 : sh 19 = (20, 20) := by decide +kernel
theorem sh_20 : sh 20 = (0, 7) := by decide +kernel
theorem sh_21 : sh 21 = (22, 60) := by decide +kernel
theorem sh_22 : sh 22 = (22, 600) := by decide +kernel
theorem sh_23 : sh 23 = (20, 10) := by decide +kernel
theorem sh_24 : sh 24 = (20, 10) := by decide +kernel
theorem sh_25 : sh 25 = (20, 10) := by decide +kernel
theorem sh_26 : sh 26 = (3, 4) := by decide +kernel
theorem sh_27 : sh 27 = (20, 5) := by decide +kernel
theorem sh_28 : sh 28 = (20, 5) := by decide +kernel
theorem sh_29 : sh 29 = (20, 5) := by decide +kernel
theorem sh_30 : sh 30 = (7, 6) := by decide +kernel
theorem sh_31 : sh 31 = (1, 5) := by decide +kernel
theorem sh_32 : sh 32 = (21, 15) := by decide +kernel
theorem sh_33 : sh 33 = (20, 901) := by decide +kernel
theorem sh_34 : sh 34 = (9, 8) := by decide +kernel
theorem sh_35 : sh 35 = (20, 16) := by decide +kernel
theorem sh_36 : sh 36 = (20, 16) := by decide +kernel
theorem sh_37 : sh 37 = (20, 16) := by decide +kernel
theorem sh_38 : sh 38 = (20, 16) := by decide +kernel
theorem sh_39 : sh 39 = (20, 256) := by decide +kernel
theorem sh_40 : sh 40 = (20, 16) := by decide +kernel
theorem sh_41 : sh 41 = (2, 8) := by decide +kernel
theorem sh_42 : sh 42 = (20, 20) := by decide +kernel
theorem sh_43 : sh 43 = (20, 20) := by decide +kernel
theorem sh_44 : sh 44 = (20, 20) := by decide +kernel
theorem sh_45 : sh 45 = (20, 20) := by decide +kernel
theorem sh_46 : sh 46 = (20, 20) := by decide +kernel
theorem sh_47 : sh 47 = (20, 20) := by decide +kernel
theorem sh_48 : sh 48 = (20, 20) := by decide +kernel
theorem sh_49 : sh 49 = (0, 7) := by decide +kernel
theorem sh_50 : sh 50 = (22, 60) := by decide +kernel
theorem sh_51 : sh 51 = (22, 600) := by decide +kernel
theorem sh_52 : sh 52 = (20, 10) := by decide +kernel
theorem sh_53 : sh 53 = (20, 10) := by decide +kernel
theorem sh_54 : sh 54 = (20, 10) := by decide +kernel
theorem sh_55 : sh 55 = (3, 4) := by decide +kernel
theorem sh_56 : sh 56 = (20, 5) := by decide +kernel
theorem sh_57 : sh 57 = (20, 5) := by decide +kernel
theorem sh_58 : sh 58 = (20, 5) := by decide +kernel
theorem sh_59 : sh 59 = (4, 3) := by decide +kernel
theorem sh_60 : sh 60 = (20, 16) := by decide +kernel
theorem sh_61 : sh 61 = (20, 16) := by decide +kernel
theorem sh_62 : sh 62 = (20, 16) := by decide +kernel
theorem sh_63 : sh 63 = (5, 7) := by decide +kernel
theorem sh_64 : sh 64 = (20, 6) := by decide +kernel
theorem sh_65 : sh 65 = (22, 0) := by decide +kernel
theorem sh_66 : sh 66 = (8, 5) := by decide +kernel
theorem sh_67 : sh 67 = (20, 40) := by decide +kernel
theorem sh_68 : sh 68 = (23, 4) := by decide +kernel
theorem sh_69 : sh 69 = (20, 6) := by decide +kernel
theorem sh_70 : sh 70 = (20, 5) := by decide +kernel
theorem sh_71 : sh 71 = (20, 5) := by decide +kernel
theorem sh_72 : sh 72 = (6, 3) := by decide +kernel
theorem sh_73 : sh 73 = (20, 24) := by decide +kernel
theorem sh_74 : sh 74 = (6, 3) := by decide +kernel
theorem sh_75 : sh 75 = (20, 24) := by decide +kernel
theorem sh_76 : sh 76 = (6, 3) := by decide +kernel
theorem sh_77 : sh 77 = (20, 24) := by decide +kernel
theorem sh_78 : sh 78 = (6, 3) := by decide +kernel
theorem sh_79 : sh 79 = (20, 24) := by decide +kernel
theorem sh_80 : sh 80 = (11, 26) := by decide +kernel
theorem sh_81 : sh 81 = (20, 1993) := by decide +kernel
theorem sh_82 : sh 82 = (20, 1993) := by decide +kernel
theorem sh_83 : sh 83 = (20, 6) := by decide +kernel
theorem sh_84 : sh 84 = (20, 4) := by decide +kernel
theorem sh_85 : sh 85 = (20, 4) := by decide +kernel
theorem sh_86 : sh 86 = (20, 96) := by decide +kernel
theorem sh_87 : sh 87 = (20, 40) := by decide +kernel
theorem sh_88 : sh 88 = (20, 16) := by decide +kernel
theorem sh_89 : sh 89 = (20, 16) := by decide +kernel
theorem sh_90 : sh 90 = (20, 16) := by decide +kernel
theorem sh_91 : sh 91 = (20, 16) := by decide +kernel
theorem sh_92 : sh 92 = (20, 16) := by decide +kernel
theorem sh_93 : sh 93 = (20, 4) := by decide +kernel
theorem sh_94 : sh 94 = (20, 70) := by decide +kernel
theorem sh_95 : sh 95 = (20, 70) := by decide +kernel
theorem sh_96 : sh 96 = (20, 5) := by decide +kernel
theorem sh_97 : sh 97 = (20, 5) := by decide +kernel
theorem sh_98 : sh 98 = (20, 24) := by decide +kernel
theorem sh_1001 : sh 1001 = (20, 6) := by decide +kernel
theorem sh_1002 : sh 1002 = (20, 24) := by decide +kernel
