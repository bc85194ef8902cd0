def RX0 : String := "ShadowHeirs$Book"
def TX0 : u_T := fun k => match k with
  | 0 => ("ShadowHeirs$Book", "reader", "LShadowHeirs$Reader;", true)
  | 1 => ("ShadowHeirs$Book", "acts", "[I", true)
  | 2 => ("ShadowHeirs$Book", "firsts", "[I", true)
  | 3 => ("ShadowHeirs$Book", "seconds", "[I", true)
  | 4 => ("ShadowHeirs$Book", "lines", "I", false)
  | 5 => ("ShadowHeirs$Book", "judged", "Z", false)
  | 6 => ("ShadowHeirs$Book", "why", "I", false)
  | 7 => ("ShadowHeirs$Book", "right", "I", false)
  | 8 => ("ShadowHeirs$Book", "hourThen", "I", false)
  | _ => ("ShadowHeirs$Book", "wealthThen", "I", false)
def tyX0 : Nat → FieldType := fun k => match k with
  | 0 => .object "ShadowHeirs$Reader"
  | 1 => .array .int
  | 2 => .array .int
  | 3 => .array .int
  | 4 => .int
  | 5 => .boolean
  | 6 => .int
  | 7 => .int
  | 8 => .int
  | _ => .int
theorem nmX0 : ∀ a, a < 10 → ∀ b, b < 10 → a ≠ b → (TX0 a).2.1 ≠ (TX0 b).2.1 := by decide +kernel
theorem tyX0_ok : ∀ k, k < 10 → parseFieldDescriptor (TX0 k).2.2.1 = some (tyX0 k) := by decide +kernel
def RX1 : String := "ShadowHeirs$Draws"
def TX1 : u_T := fun k => match k with
  | _ => ("ShadowHeirs$Draws", "x", "I", false)
def tyX1 : Nat → FieldType := fun k => match k with
  | _ => .int
theorem nmX1 : ∀ a, a < 1 → ∀ b, b < 1 → a ≠ b → (TX1 a).2.1 ≠ (TX1 b).2.1 := by decide +kernel
theorem tyX1_ok : ∀ k, k < 1 → parseFieldDescriptor (TX1 k).2.2.1 = some (tyX1 k) := by decide +kernel
def RX2 : String := "ShadowHeirs$History"
def TX2 : u_T := fun k => match k with
  | 0 => ("ShadowHeirs$History", "kept", "[LShadowHeirs$Scene;", true)
  | 1 => ("ShadowHeirs$History", "next", "I", false)
  | _ => ("ShadowHeirs$History", "size", "I", false)
def tyX2 : Nat → FieldType := fun k => match k with
  | 0 => .array (.object "ShadowHeirs$Scene")
  | 1 => .int
  | _ => .int
theorem nmX2 : ∀ a, a < 3 → ∀ b, b < 3 → a ≠ b → (TX2 a).2.1 ≠ (TX2 b).2.1 := by decide +kernel
theorem tyX2_ok : ∀ k, k < 3 → parseFieldDescriptor (TX2 k).2.2.1 = some (tyX2 k) := by decide +kernel
def RX3 : String := "ShadowHeirs$Island"
def TX3 : u_T := fun k => match k with
  | 0 => ("ShadowHeirs$Island", "plan", "LShadowHeirs$Plan;", true)
  | 1 => ("ShadowHeirs$Island", "scene", "LShadowHeirs$Scene;", true)
  | _ => ("ShadowHeirs$Island", "sentence", "LShadowHeirs$Sentence;", true)
def tyX3 : Nat → FieldType := fun k => match k with
  | 0 => .object "ShadowHeirs$Plan"
  | 1 => .object "ShadowHeirs$Scene"
  | _ => .object "ShadowHeirs$Sentence"
theorem nmX3 : ∀ a, a < 3 → ∀ b, b < 3 → a ≠ b → (TX3 a).2.1 ≠ (TX3 b).2.1 := by decide +kernel
theorem tyX3_ok : ∀ k, k < 3 → parseFieldDescriptor (TX3 k).2.2.1 = some (tyX3 k) := by decide +kernel
def RX4 : String := "ShadowHeirs$IslandText"
def TX4 : u_T := fun k => match k with
  | 0 => ("ShadowHeirs$IslandText", "reader", "LShadowHeirs$Reader;", true)
  | 1 => ("ShadowHeirs$IslandText", "plan", "LShadowHeirs$Plan;", true)
  | 2 => ("ShadowHeirs$IslandText", "scene", "LShadowHeirs$Scene;", true)
  | 3 => ("ShadowHeirs$IslandText", "draft", "LShadowHeirs$Island;", true)
  | 4 => ("ShadowHeirs$IslandText", "isGroundTold", "Z", false)
  | 5 => ("ShadowHeirs$IslandText", "isSpotTold", "Z", false)
  | _ => ("ShadowHeirs$IslandText", "spot", "I", false)
def tyX4 : Nat → FieldType := fun k => match k with
  | 0 => .object "ShadowHeirs$Reader"
  | 1 => .object "ShadowHeirs$Plan"
  | 2 => .object "ShadowHeirs$Scene"
  | 3 => .object "ShadowHeirs$Island"
  | 4 => .boolean
  | 5 => .boolean
  | _ => .int
theorem nmX4 : ∀ a, a < 7 → ∀ b, b < 7 → a ≠ b → (TX4 a).2.1 ≠ (TX4 b).2.1 := by decide +kernel
theorem tyX4_ok : ∀ k, k < 7 → parseFieldDescriptor (TX4 k).2.2.1 = some (tyX4 k) := by decide +kernel
def RX5 : String := "ShadowHeirs$Plan"
def TX5 : u_T := fun k => match k with
  | 0 => ("ShadowHeirs$Plan", "wide", "I", false)
  | 1 => ("ShadowHeirs$Plan", "high", "I", false)
  | 2 => ("ShadowHeirs$Plan", "houses", "I", false)
  | 3 => ("ShadowHeirs$Plan", "persons", "I", false)
  | 4 => ("ShadowHeirs$Plan", "suns", "I", false)
  | 5 => ("ShadowHeirs$Plan", "houseSpot", "[I", true)
  | 6 => ("ShadowHeirs$Plan", "houseHigh", "[I", true)
  | 7 => ("ShadowHeirs$Plan", "houseName", "[J", true)
  | 8 => ("ShadowHeirs$Plan", "personName", "[J", true)
  | 9 => ("ShadowHeirs$Plan", "sunSide", "[I", true)
  | _ => ("ShadowHeirs$Plan", "sunDrop", "[I", true)
def tyX5 : Nat → FieldType := fun k => match k with
  | 0 => .int
  | 1 => .int
  | 2 => .int
  | 3 => .int
  | 4 => .int
  | 5 => .array .int
  | 6 => .array .int
  | 7 => .array .long
  | 8 => .array .long
  | 9 => .array .int
  | _ => .array .int
theorem nmX5 : ∀ a, a < 11 → ∀ b, b < 11 → a ≠ b → (TX5 a).2.1 ≠ (TX5 b).2.1 := by decide +kernel
theorem tyX5_ok : ∀ k, k < 11 → parseFieldDescriptor (TX5 k).2.2.1 = some (tyX5 k) := by decide +kernel
def RX6 : String := "ShadowHeirs$Reader"
def TX6 : u_T := fun k => match k with
  | 0 => ("ShadowHeirs$Reader", "bytes", "[I", true)
  | 1 => ("ShadowHeirs$Reader", "kept", "[J", true)
  | 2 => ("ShadowHeirs$Reader", "size", "I", false)
  | 3 => ("ShadowHeirs$Reader", "mostTold", "I", false)
  | 4 => ("ShadowHeirs$Reader", "next", "I", false)
  | 5 => ("ShadowHeirs$Reader", "place", "I", false)
  | 6 => ("ShadowHeirs$Reader", "kind", "I", false)
  | 7 => ("ShadowHeirs$Reader", "value", "J", false)
  | 8 => ("ShadowHeirs$Reader", "known", "I", false)
  | 9 => ("ShadowHeirs$Reader", "faultKind", "I", false)
  | _ => ("ShadowHeirs$Reader", "faultPlace", "I", false)
def tyX6 : Nat → FieldType := fun k => match k with
  | 0 => .array .int
  | 1 => .array .long
  | 2 => .int
  | 3 => .int
  | 4 => .int
  | 5 => .int
  | 6 => .int
  | 7 => .long
  | 8 => .int
  | 9 => .int
  | _ => .int
theorem nmX6 : ∀ a, a < 11 → ∀ b, b < 11 → a ≠ b → (TX6 a).2.1 ≠ (TX6 b).2.1 := by decide +kernel
theorem tyX6_ok : ∀ k, k < 11 → parseFieldDescriptor (TX6 k).2.2.1 = some (tyX6 k) := by decide +kernel
def RX7 : String := "ShadowHeirs$Scene"
def TX7 : u_T := fun k => match k with
  | 0 => ("ShadowHeirs$Scene", "stones", "[I", true)
  | 1 => ("ShadowHeirs$Scene", "standsAt", "[I", true)
  | 2 => ("ShadowHeirs$Scene", "wealth", "[I", true)
  | 3 => ("ShadowHeirs$Scene", "goods", "[I", true)
  | 4 => ("ShadowHeirs$Scene", "buried", "I", false)
  | 5 => ("ShadowHeirs$Scene", "hour", "I", false)
  | 6 => ("ShadowHeirs$Scene", "sea", "I", false)
  | 7 => ("ShadowHeirs$Scene", "steps", "I", false)
  | _ => ("ShadowHeirs$Scene", "laid", "I", false)
def tyX7 : Nat → FieldType := fun k => match k with
  | 0 => .array .int
  | 1 => .array .int
  | 2 => .array .int
  | 3 => .array .int
  | 4 => .int
  | 5 => .int
  | 6 => .int
  | 7 => .int
  | _ => .int
theorem nmX7 : ∀ a, a < 9 → ∀ b, b < 9 → a ≠ b → (TX7 a).2.1 ≠ (TX7 b).2.1 := by decide +kernel
theorem tyX7_ok : ∀ k, k < 9 → parseFieldDescriptor (TX7 k).2.2.1 = some (tyX7 k) := by decide +kernel
def RX8 : String := "ShadowHeirs$Sentence"
def TX8 : u_T := fun k => match k with
  | 0 => ("ShadowHeirs$Sentence", "parts", "[I", true)
  | 1 => ("ShadowHeirs$Sentence", "details", "[I", true)
  | 2 => ("ShadowHeirs$Sentence", "stack", "[I", true)
  | 3 => ("ShadowHeirs$Sentence", "size", "I", false)
  | _ => ("ShadowHeirs$Sentence", "ones", "I", false)
def tyX8 : Nat → FieldType := fun k => match k with
  | 0 => .array .int
  | 1 => .array .int
  | 2 => .array .int
  | 3 => .int
  | _ => .int
theorem nmX8 : ∀ a, a < 5 → ∀ b, b < 5 → a ≠ b → (TX8 a).2.1 ≠ (TX8 b).2.1 := by decide +kernel
theorem tyX8_ok : ∀ k, k < 5 → parseFieldDescriptor (TX8 k).2.2.1 = some (tyX8 k) := by decide +kernel
def RX9 : String := "ShadowHeirs$Slip"
def TX9 : u_T := fun k => match k with
  | 0 => ("ShadowHeirs$Slip", "bytes", "[I", true)
  | _ => ("ShadowHeirs$Slip", "size", "I", false)
def tyX9 : Nat → FieldType := fun k => match k with
  | 0 => .array .int
  | _ => .int
theorem nmX9 : ∀ a, a < 2 → ∀ b, b < 2 → a ≠ b → (TX9 a).2.1 ≠ (TX9 b).2.1 := by decide +kernel
theorem tyX9_ok : ∀ k, k < 2 → parseFieldDescriptor (TX9 k).2.2.1 = some (tyX9 k) := by decide +kernel
def RX10 : String := "ShadowHeirs$Walk"
def TX10 : u_T := fun k => match k with
  | 0 => ("ShadowHeirs$Walk", "island", "LShadowHeirs$Island;", true)
  | 1 => ("ShadowHeirs$Walk", "stepsTo", "[I", true)
  | 2 => ("ShadowHeirs$Walk", "queue", "[I", true)
  | _ => ("ShadowHeirs$Walk", "canBeTaken", "[Z", true)
def tyX10 : Nat → FieldType := fun k => match k with
  | 0 => .object "ShadowHeirs$Island"
  | 1 => .array .int
  | 2 => .array .int
  | _ => .array .boolean
theorem nmX10 : ∀ a, a < 4 → ∀ b, b < 4 → a ≠ b → (TX10 a).2.1 ≠ (TX10 b).2.1 := by decide +kernel
theorem tyX10_ok : ∀ k, k < 4 → parseFieldDescriptor (TX10 k).2.2.1 = some (tyX10 k) := by decide +kernel
def RX11 : String := "ShadowHeirs"
def TX11 : u_T := fun k => match k with
  | 0 => ("ShadowHeirs", "reader", "LShadowHeirs$Reader;", true)
  | 1 => ("ShadowHeirs", "plan", "LShadowHeirs$Plan;", true)
  | 2 => ("ShadowHeirs", "scene", "LShadowHeirs$Scene;", true)
  | 3 => ("ShadowHeirs", "sentenceNow", "LShadowHeirs$Sentence;", true)
  | 4 => ("ShadowHeirs", "live", "LShadowHeirs$Island;", true)
  | 5 => ("ShadowHeirs", "trial", "LShadowHeirs$Island;", true)
  | 6 => ("ShadowHeirs", "islandText", "LShadowHeirs$IslandText;", true)
  | 7 => ("ShadowHeirs", "bookRead", "LShadowHeirs$Book;", true)
  | 8 => ("ShadowHeirs", "sentenceRead", "LShadowHeirs$Sentence;", true)
  | 9 => ("ShadowHeirs", "history", "LShadowHeirs$History;", true)
  | 10 => ("ShadowHeirs", "images", "[LShadowHeirs$Island;", true)
  | 11 => ("ShadowHeirs", "isImageKept", "[Z", true)
  | 12 => ("ShadowHeirs", "walk", "LShadowHeirs$Walk;", true)
  | 13 => ("ShadowHeirs", "draws", "LShadowHeirs$Draws;", true)
  | 14 => ("ShadowHeirs", "latestSlip", "LShadowHeirs$Slip;", true)
  | 15 => ("ShadowHeirs", "latestFault", "I", false)
  | 16 => ("ShadowHeirs", "spareSpot", "I", false)
  | 17 => ("ShadowHeirs", "askPerson", "I", false)
  | 18 => ("ShadowHeirs", "longestHouse", "I", false)
  | _ => ("ShadowHeirs", "longestHour", "I", false)
def tyX11 : Nat → FieldType := fun k => match k with
  | 0 => .object "ShadowHeirs$Reader"
  | 1 => .object "ShadowHeirs$Plan"
  | 2 => .object "ShadowHeirs$Scene"
  | 3 => .object "ShadowHeirs$Sentence"
  | 4 => .object "ShadowHeirs$Island"
  | 5 => .object "ShadowHeirs$Island"
  | 6 => .object "ShadowHeirs$IslandText"
  | 7 => .object "ShadowHeirs$Book"
  | 8 => .object "ShadowHeirs$Sentence"
  | 9 => .object "ShadowHeirs$History"
  | 10 => .array (.object "ShadowHeirs$Island")
  | 11 => .array .boolean
  | 12 => .object "ShadowHeirs$Walk"
  | 13 => .object "ShadowHeirs$Draws"
  | 14 => .object "ShadowHeirs$Slip"
  | 15 => .int
  | 16 => .int
  | 17 => .int
  | 18 => .int
  | _ => .int
theorem nmX11 : ∀ a, a < 20 → ∀ b, b < 20 → a ≠ b → (TX11 a).2.1 ≠ (TX11 b).2.1 := by decide +kernel
theorem tyX11_ok : ∀ k, k < 20 → parseFieldDescriptor (TX11 k).2.2.1 = some (tyX11 k) := by decide +kernel
def RX12 : String := "ShadowHeirsModel"
def TX12 : u_T := fun k => match k with
  | 0 => ("ShadowHeirsModel", "thrown", "I", false)
  | 1 => ("ShadowHeirsModel", "tape", "[I", true)
  | 2 => ("ShadowHeirsModel", "taped", "I", false)
  | 3 => ("ShadowHeirsModel", "size", "I", false)
  | 4 => ("ShadowHeirsModel", "limit", "I", false)
  | 5 => ("ShadowHeirsModel", "to", "I", false)
  | 6 => ("ShadowHeirsModel", "from", "I", false)
  | 7 => ("ShadowHeirsModel", "kind", "I", false)
  | 8 => ("ShadowHeirsModel", "number", "I", false)
  | 9 => ("ShadowHeirsModel", "sign", "I", false)
  | 10 => ("ShadowHeirsModel", "fault", "I", false)
  | 11 => ("ShadowHeirsModel", "place", "I", false)
  | 12 => ("ShadowHeirsModel", "word", "J", false)
  | 13 => ("ShadowHeirsModel", "told", "I", false)
  | 14 => ("ShadowHeirsModel", "now", "[I", true)
  | 15 => ("ShadowHeirsModel", "read", "[I", true)
  | 16 => ("ShadowHeirsModel", "kept", "[I", true)
  | 17 => ("ShadowHeirsModel", "snaps", "[I", true)
  | 18 => ("ShadowHeirsModel", "aside", "[I", true)
  | 19 => ("ShadowHeirsModel", "name", "[J", true)
  | 20 => ("ShadowHeirsModel", "readName", "[J", true)
  | 21 => ("ShadowHeirsModel", "keptName", "[J", true)
  | 22 => ("ShadowHeirsModel", "isKept", "[Z", true)
  | 23 => ("ShadowHeirsModel", "once", "Z", false)
  | 24 => ("ShadowHeirsModel", "hasCells", "Z", false)
  | 25 => ("ShadowHeirsModel", "snapMany", "I", false)
  | 26 => ("ShadowHeirsModel", "spareAt", "I", false)
  | 27 => ("ShadowHeirsModel", "far", "[I", true)
  | 28 => ("ShadowHeirsModel", "ends", "[I", true)
  | 29 => ("ShadowHeirsModel", "stander", "[I", true)
  | 30 => ("ShadowHeirsModel", "reach", "[J", true)
  | 31 => ("ShadowHeirsModel", "tried", "J", false)
  | 32 => ("ShadowHeirsModel", "asking", "I", false)
  | 33 => ("ShadowHeirsModel", "longHouse", "I", false)
  | 34 => ("ShadowHeirsModel", "longSun", "I", false)
  | 35 => ("ShadowHeirsModel", "text", "[I", true)
  | 36 => ("ShadowHeirsModel", "texts", "I", false)
  | 37 => ("ShadowHeirsModel", "seed", "I", false)
  | 38 => ("ShadowHeirsModel", "line", "[I", true)
  | 39 => ("ShadowHeirsModel", "written", "[I", true)
  | 40 => ("ShadowHeirsModel", "lineMany", "I", false)
  | 41 => ("ShadowHeirsModel", "hasWritten", "Z", false)
  | 42 => ("ShadowHeirsModel", "node", "[I", true)
  | 43 => ("ShadowHeirsModel", "nodes", "I", false)
  | 44 => ("ShadowHeirsModel", "onesMany", "I", false)
  | 45 => ("ShadowHeirsModel", "within", "I", false)
  | _ => ("ShadowHeirsModel", "top", "I", false)
def tyX12 : Nat → FieldType := fun k => match k with
  | 0 => .int
  | 1 => .array .int
  | 2 => .int
  | 3 => .int
  | 4 => .int
  | 5 => .int
  | 6 => .int
  | 7 => .int
  | 8 => .int
  | 9 => .int
  | 10 => .int
  | 11 => .int
  | 12 => .long
  | 13 => .int
  | 14 => .array .int
  | 15 => .array .int
  | 16 => .array .int
  | 17 => .array .int
  | 18 => .array .int
  | 19 => .array .long
  | 20 => .array .long
  | 21 => .array .long
  | 22 => .array .boolean
  | 23 => .boolean
  | 24 => .boolean
  | 25 => .int
  | 26 => .int
  | 27 => .array .int
  | 28 => .array .int
  | 29 => .array .int
  | 30 => .array .long
  | 31 => .long
  | 32 => .int
  | 33 => .int
  | 34 => .int
  | 35 => .array .int
  | 36 => .int
  | 37 => .int
  | 38 => .array .int
  | 39 => .array .int
  | 40 => .int
  | 41 => .boolean
  | 42 => .array .int
  | 43 => .int
  | 44 => .int
  | 45 => .int
  | _ => .int
theorem nmX12 : ∀ a, a < 47 → ∀ b, b < 47 → a ≠ b → (TX12 a).2.1 ≠ (TX12 b).2.1 := by decide +kernel
theorem tyX12_ok : ∀ k, k < 47 → parseFieldDescriptor (TX12 k).2.2.1 = some (tyX12 k) := by decide +kernel
abbrev vwCl : List vw_C := [(RX0, TX0, 10), (RX1, TX1, 1), (RX2, TX2, 3), (RX3, TX3, 3), (RX4, TX4, 7), (RX5, TX5, 11), (RX6, TX6, 11), (RX7, TX7, 9), (RX8, TX8, 5), (RX9, TX9, 2), (RX10, TX10, 4), (RX11, TX11, 20), (RX12, TX12, 47)]
set_option maxRecDepth 20000 in
theorem clw_0 : ∀ w ∈ u_ws RX0 TX0 10, w ∈ gw_tbl := fun w h => gw_t (List.mem_of_getElem? (i := ([390, 392, 394, 396, 398, 400, 402, 404, 406, 408] : List Nat).getD ((u_ws RX0 TX0 10).idxOf w) 0) ((by decide +kernel : ∀ w ∈ u_ws RX0 TX0 10, tables_1[([390, 392, 394, 396, 398, 400, 402, 404, 406, 408] : List Nat).getD ((u_ws RX0 TX0 10).idxOf w) 0]? = some w) w h)) ((by decide +kernel : ∀ w ∈ u_ws RX0 TX0 10, goodWord w = true) w h)
set_option maxRecDepth 20000 in
theorem clw_1 : ∀ w ∈ u_ws RX1 TX1 1, w ∈ gw_tbl := fun w h => gw_t (List.mem_of_getElem? (i := ([459] : List Nat).getD ((u_ws RX1 TX1 1).idxOf w) 0) ((by decide +kernel : ∀ w ∈ u_ws RX1 TX1 1, tables_1[([459] : List Nat).getD ((u_ws RX1 TX1 1).idxOf w) 0]? = some w) w h)) ((by decide +kernel : ∀ w ∈ u_ws RX1 TX1 1, goodWord w = true) w h)
set_option maxRecDepth 20000 in
theorem clw_2 : ∀ w ∈ u_ws RX2 TX2 3, w ∈ gw_tbl := fun w h => gw_t (List.mem_of_getElem? (i := ([424, 426, 428] : List Nat).getD ((u_ws RX2 TX2 3).idxOf w) 0) ((by decide +kernel : ∀ w ∈ u_ws RX2 TX2 3, tables_1[([424, 426, 428] : List Nat).getD ((u_ws RX2 TX2 3).idxOf w) 0]? = some w) w h)) ((by decide +kernel : ∀ w ∈ u_ws RX2 TX2 3, goodWord w = true) w h)
set_option maxRecDepth 20000 in
theorem clw_3 : ∀ w ∈ u_ws RX3 TX3 3, w ∈ gw_tbl := fun w h => gw_t (List.mem_of_getElem? (i := ([325, 327, 329] : List Nat).getD ((u_ws RX3 TX3 3).idxOf w) 0) ((by decide +kernel : ∀ w ∈ u_ws RX3 TX3 3, tables_1[([325, 327, 329] : List Nat).getD ((u_ws RX3 TX3 3).idxOf w) 0]? = some w) w h)) ((by decide +kernel : ∀ w ∈ u_ws RX3 TX3 3, goodWord w = true) w h)
set_option maxRecDepth 20000 in
theorem clw_4 : ∀ w ∈ u_ws RX4 TX4 7, w ∈ gw_tbl := fun w h => gw_t (List.mem_of_getElem? (i := ([354, 356, 358, 360, 362, 364, 366] : List Nat).getD ((u_ws RX4 TX4 7).idxOf w) 0) ((by decide +kernel : ∀ w ∈ u_ws RX4 TX4 7, tables_1[([354, 356, 358, 360, 362, 364, 366] : List Nat).getD ((u_ws RX4 TX4 7).idxOf w) 0]? = some w) w h)) ((by decide +kernel : ∀ w ∈ u_ws RX4 TX4 7, goodWord w = true) w h)
set_option maxRecDepth 20000 in
theorem clw_5 : ∀ w ∈ u_ws RX5 TX5 11, w ∈ gw_tbl := fun w h => gw_t (List.mem_of_getElem? (i := ([196, 198, 200, 202, 204, 206, 208, 210, 212, 214, 216] : List Nat).getD ((u_ws RX5 TX5 11).idxOf w) 0) ((by decide +kernel : ∀ w ∈ u_ws RX5 TX5 11, tables_1[([196, 198, 200, 202, 204, 206, 208, 210, 212, 214, 216] : List Nat).getD ((u_ws RX5 TX5 11).idxOf w) 0]? = some w) w h)) ((by decide +kernel : ∀ w ∈ u_ws RX5 TX5 11, goodWord w = true) w h)
set_option maxRecDepth 20000 in
theorem clw_6 : ∀ w ∈ u_ws RX6 TX6 11, w ∈ gw_tbl := fun w h => gw_t (List.mem_of_getElem? (i := ([118, 120, 122, 124, 126, 128, 130, 132, 134, 136, 138] : List Nat).getD ((u_ws RX6 TX6 11).idxOf w) 0) ((by decide +kernel : ∀ w ∈ u_ws RX6 TX6 11, tables_1[([118, 120, 122, 124, 126, 128, 130, 132, 134, 136, 138] : List Nat).getD ((u_ws RX6 TX6 11).idxOf w) 0]? = some w) w h)) ((by decide +kernel : ∀ w ∈ u_ws RX6 TX6 11, goodWord w = true) w h)
set_option maxRecDepth 20000 in
theorem clw_7 : ∀ w ∈ u_ws RX7 TX7 9, w ∈ gw_tbl := fun w h => gw_t (List.mem_of_getElem? (i := ([263, 265, 267, 269, 271, 273, 275, 277, 279] : List Nat).getD ((u_ws RX7 TX7 9).idxOf w) 0) ((by decide +kernel : ∀ w ∈ u_ws RX7 TX7 9, tables_1[([263, 265, 267, 269, 271, 273, 275, 277, 279] : List Nat).getD ((u_ws RX7 TX7 9).idxOf w) 0]? = some w) w h)) ((by decide +kernel : ∀ w ∈ u_ws RX7 TX7 9, goodWord w = true) w h)
set_option maxRecDepth 20000 in
theorem clw_8 : ∀ w ∈ u_ws RX8 TX8 5, w ∈ gw_tbl := fun w h => gw_t (List.mem_of_getElem? (i := ([294, 296, 298, 300, 302] : List Nat).getD ((u_ws RX8 TX8 5).idxOf w) 0) ((by decide +kernel : ∀ w ∈ u_ws RX8 TX8 5, tables_1[([294, 296, 298, 300, 302] : List Nat).getD ((u_ws RX8 TX8 5).idxOf w) 0]? = some w) w h)) ((by decide +kernel : ∀ w ∈ u_ws RX8 TX8 5, goodWord w = true) w h)
set_option maxRecDepth 20000 in
theorem clw_9 : ∀ w ∈ u_ws RX9 TX9 2, w ∈ gw_tbl := fun w h => gw_t (List.mem_of_getElem? (i := ([471, 473] : List Nat).getD ((u_ws RX9 TX9 2).idxOf w) 0) ((by decide +kernel : ∀ w ∈ u_ws RX9 TX9 2, tables_1[([471, 473] : List Nat).getD ((u_ws RX9 TX9 2).idxOf w) 0]? = some w) w h)) ((by decide +kernel : ∀ w ∈ u_ws RX9 TX9 2, goodWord w = true) w h)
set_option maxRecDepth 20000 in
theorem clw_10 : ∀ w ∈ u_ws RX10 TX10 4, w ∈ gw_tbl := fun w h => gw_t (List.mem_of_getElem? (i := ([442, 444, 446, 448] : List Nat).getD ((u_ws RX10 TX10 4).idxOf w) 0) ((by decide +kernel : ∀ w ∈ u_ws RX10 TX10 4, tables_1[([442, 444, 446, 448] : List Nat).getD ((u_ws RX10 TX10 4).idxOf w) 0]? = some w) w h)) ((by decide +kernel : ∀ w ∈ u_ws RX10 TX10 4, goodWord w = true) w h)
set_option maxRecDepth 20000 in
theorem clw_11 : ∀ w ∈ u_ws RX11 TX11 20, w ∈ gw_tbl := fun w h => gw_t (List.mem_of_getElem? (i := ([496, 498, 500, 502, 504, 506, 508, 510, 512, 514, 516, 518, 520, 522, 524, 526, 528, 530, 532, 534] : List Nat).getD ((u_ws RX11 TX11 20).idxOf w) 0) ((by decide +kernel : ∀ w ∈ u_ws RX11 TX11 20, tables_1[([496, 498, 500, 502, 504, 506, 508, 510, 512, 514, 516, 518, 520, 522, 524, 526, 528, 530, 532, 534] : List Nat).getD ((u_ws RX11 TX11 20).idxOf w) 0]? = some w) w h)) ((by decide +kernel : ∀ w ∈ u_ws RX11 TX11 20, goodWord w = true) w h)
set_option maxRecDepth 20000 in
theorem clw_12 : ∀ w ∈ u_ws RX12 TX12 47, w ∈ gw_tbl := fun w h => gw_t (List.mem_of_getElem? (i := ([1336, 1338, 1340, 1342, 1344, 1346, 1348, 1350, 1352, 1354, 1356, 1358, 1360, 1362, 1364, 1366, 1368, 1370, 1372, 1374, 1376, 1378, 1380, 1382, 1384, 1386, 1388, 1390, 1392, 1394, 1396, 1398, 1400, 1402, 1404, 1406, 1408, 1410, 1412, 1414, 1416, 1418, 1420, 1422, 1424, 1426, 1428] : List Nat).getD ((u_ws RX12 TX12 47).idxOf w) 0) ((by decide +kernel : ∀ w ∈ u_ws RX12 TX12 47, tables_1[([1336, 1338, 1340, 1342, 1344, 1346, 1348, 1350, 1352, 1354, 1356, 1358, 1360, 1362, 1364, 1366, 1368, 1370, 1372, 1374, 1376, 1378, 1380, 1382, 1384, 1386, 1388, 1390, 1392, 1394, 1396, 1398, 1400, 1402, 1404, 1406, 1408, 1410, 1412, 1414, 1416, 1418, 1420, 1422, 1424, 1426, 1428] : List Nat).getD ((u_ws RX12 TX12 47).idxOf w) 0]? = some w) w h)) ((by decide +kernel : ∀ w ∈ u_ws RX12 TX12 47, goodWord w = true) w h)
/-- the objects: kind (class, or 13 int[], 14 long[], 15 boolean[], 16 Island[], 17 Scene[]), length, references, kinds of fields -/
def sKl : List Nat := [11, 6, 13, 14, 5, 13, 13, 14, 14, 13, 13, 7, 13, 13, 13, 13, 8, 13, 13, 13, 3, 3, 7, 13, 13, 13, 13, 4, 5, 13, 13, 14, 14, 13, 13, 7, 13, 13, 13, 13, 3, 8, 13, 13, 13, 0, 13, 13, 13, 8, 13, 13, 13, 2, 17, 7, 13, 13, 13, 13, 7, 13, 13, 13, 13, 7, 13, 13, 13, 13, 7, 13, 13, 13, 13, 7, 13, 13, 13, 13, 7, 13, 13, 13, 13, 7, 13, 13, 13, 13, 7, 13, 13, 13, 13, 16, 15, 10, 13, 13, 15, 1, 9, 13, 3, 5, 13, 13, 14, 14, 13, 13, 7, 13, 13, 13, 13, 8, 13, 13, 13, 3, 5, 13, 13, 14, 14, 13, 13, 7, 13, 13, 13, 13, 8, 13, 13, 13, 12, 13, 13, 13, 13, 13, 13, 14, 14, 14, 15, 13, 13, 13, 14, 13, 13, 13, 13, 14]
def sLl : List Nat := [0, 0, 940, 24, 0, 5, 5, 5, 6, 8, 8, 0, 64, 6, 6, 5, 0, 40, 40, 20, 0, 0, 0, 64, 6, 6, 5, 0, 0, 5, 5, 5, 6, 8, 8, 0, 64, 6, 6, 5, 0, 0, 40, 40, 20, 0, 40, 40, 40, 0, 40, 40, 20, 0, 8, 0, 64, 6, 6, 5, 0, 64, 6, 6, 5, 0, 64, 6, 6, 5, 0, 64, 6, 6, 5, 0, 64, 6, 6, 5, 0, 64, 6, 6, 5, 0, 64, 6, 6, 5, 0, 64, 6, 6, 5, 2, 2, 0, 64, 64, 128, 0, 0, 40, 0, 0, 5, 5, 5, 6, 8, 8, 0, 64, 6, 6, 5, 0, 40, 40, 20, 0, 0, 5, 5, 5, 6, 8, 8, 0, 64, 6, 6, 5, 0, 40, 40, 20, 0, 940, 434, 106, 868, 688, 86, 11, 11, 22, 2, 64, 64, 64, 6, 64, 120, 4, 240, 1]
def sRl : List (List Nat) := [[1, 4, 11, 16, 20, 21, 27, 45, 49, 53, 95, 96, 97, 101, 102, 0, 0, 0, 0, 0], [2, 3, 0, 0, 0, 0, 0, 0, 0, 0, 0], [], [], [0, 0, 0, 0, 0, 5, 6, 7, 8, 9, 10], [], [], [], [], [], [], [12, 13, 14, 15, 0, 0, 0, 0, 0], [], [], [], [], [17, 18, 19, 0, 0], [], [], [], [4, 11, 16], [4, 22, 16], [23, 24, 25, 26, 0, 0, 0, 0, 0], [], [], [], [], [1, 28, 35, 40, 0, 0, 0], [0, 0, 0, 0, 0, 29, 30, 31, 32, 33, 34], [], [], [], [], [], [], [36, 37, 38, 39, 0, 0, 0, 0, 0], [], [], [], [], [28, 35, 41], [42, 43, 44, 0, 0], [], [], [], [1, 46, 47, 48, 0, 0, 0, 0, 0, 0], [], [], [], [50, 51, 52, 0, 0], [], [], [], [54, 0, 0], [55, 60, 65, 70, 75, 80, 85, 90], [56, 57, 58, 59, 0, 0, 0, 0, 0], [], [], [], [], [61, 62, 63, 64, 0, 0, 0, 0, 0], [], [], [], [], [66, 67, 68, 69, 0, 0, 0, 0, 0], [], [], [], [], [71, 72, 73, 74, 0, 0, 0, 0, 0], [], [], [], [], [76, 77, 78, 79, 0, 0, 0, 0, 0], [], [], [], [], [81, 82, 83, 84, 0, 0, 0, 0, 0], [], [], [], [], [86, 87, 88, 89, 0, 0, 0, 0, 0], [], [], [], [], [91, 92, 93, 94, 0, 0, 0, 0, 0], [], [], [], [], [104, 121], [], [20, 98, 99, 100], [], [], [], [0], [103, 0], [], [105, 112, 117], [0, 0, 0, 0, 0, 106, 107, 108, 109, 110, 111], [], [], [], [], [], [], [113, 114, 115, 116, 0, 0, 0, 0, 0], [], [], [], [], [118, 119, 120, 0, 0], [], [], [], [122, 129, 134], [0, 0, 0, 0, 0, 123, 124, 125, 126, 127, 128], [], [], [], [], [], [], [130, 131, 132, 133, 0, 0, 0, 0, 0], [], [], [], [], [135, 136, 137, 0, 0], [], [], [], [0, 139, 0, 0, 0, 0, 0, 0, 0, 0, 0, 0, 0, 0, 140, 141, 142, 143, 144, 145, 146, 147, 148, 0, 0, 0, 0, 149, 150, 151, 152, 0, 0, 0, 0, 153, 0, 0, 154, 155, 0, 0, 156, 0, 0, 0, 0], [], [], [], [], [], [], [], [], [], [], [], [], [], [], [], [], [], [], []]
def sFl : List (List Nat) := [[2, 2, 2, 2, 0, 0, 0, 0, 0, 0], [0], [2, 0, 0], [2, 2, 2], [2, 2, 2, 2, 0, 0, 0], [0, 0, 0, 0, 0, 2, 2, 2, 2, 2, 2], [2, 2, 0, 0, 0, 0, 0, 1, 0, 0, 0], [2, 2, 2, 2, 0, 0, 0, 0, 0], [2, 2, 2, 0, 0], [2, 0], [2, 2, 2, 2], [2, 2, 2, 2, 2, 2, 2, 2, 2, 2, 2, 2, 2, 2, 2, 0, 0, 0, 0, 0], [0, 2, 0, 0, 0, 0, 0, 0, 0, 0, 0, 0, 1, 0, 2, 2, 2, 2, 2, 2, 2, 2, 2, 0, 0, 0, 0, 2, 2, 2, 2, 1, 0, 0, 0, 2, 0, 0, 2, 2, 0, 0, 2, 0, 0, 0, 0]]
def sNl : List Nat := [10, 1, 3, 3, 7, 11, 11, 9, 5, 2, 4, 20, 47]
def sK (q : Nat) : Nat := sKl.getD q 99
def sLen (q : Nat) : Nat := sLl.getD q 0
def sRf (q k : Nat) : Nat := (sRl.getD q []).getD k 0
def sFk (c k : Nat) : Nat := (sFl.getD c []).getD k 0
def sNf (c : Nat) : Nat := sNl.getD c 0
def zk (q c : Nat) : Prop := q < 158 ∧ sK q = c
theorem zt_0_0 {q : Nat} (h : zk q 0) : zk (sRf q 0) 6 := (by decide +kernel : ∀ q, q < 158 → sK q = 0 → (sRf q 0 < 158 ∧ sK (sRf q 0) = 6)) q h.1 h.2
theorem zt_0_1 {q : Nat} (h : zk q 0) : zk (sRf q 1) 13 := (by decide +kernel : ∀ q, q < 158 → sK q = 0 → (sRf q 1 < 158 ∧ sK (sRf q 1) = 13)) q h.1 h.2
theorem zt_0_2 {q : Nat} (h : zk q 0) : zk (sRf q 2) 13 := (by decide +kernel : ∀ q, q < 158 → sK q = 0 → (sRf q 2 < 158 ∧ sK (sRf q 2) = 13)) q h.1 h.2
theorem zt_0_3 {q : Nat} (h : zk q 0) : zk (sRf q 3) 13 := (by decide +kernel : ∀ q, q < 158 → sK q = 0 → (sRf q 3 < 158 ∧ sK (sRf q 3) = 13)) q h.1 h.2
theorem zt_2_0 {q : Nat} (h : zk q 2) : zk (sRf q 0) 17 := (by decide +kernel : ∀ q, q < 158 → sK q = 2 → (sRf q 0 < 158 ∧ sK (sRf q 0) = 17)) q h.1 h.2
theorem zt_3_0 {q : Nat} (h : zk q 3) : zk (sRf q 0) 5 := (by decide +kernel : ∀ q, q < 158 → sK q = 3 → (sRf q 0 < 158 ∧ sK (sRf q 0) = 5)) q h.1 h.2
theorem zt_3_1 {q : Nat} (h : zk q 3) : zk (sRf q 1) 7 := (by decide +kernel : ∀ q, q < 158 → sK q = 3 → (sRf q 1 < 158 ∧ sK (sRf q 1) = 7)) q h.1 h.2
theorem zt_3_2 {q : Nat} (h : zk q 3) : zk (sRf q 2) 8 := (by decide +kernel : ∀ q, q < 158 → sK q = 3 → (sRf q 2 < 158 ∧ sK (sRf q 2) = 8)) q h.1 h.2
theorem zt_4_0 {q : Nat} (h : zk q 4) : zk (sRf q 0) 6 := (by decide +kernel : ∀ q, q < 158 → sK q = 4 → (sRf q 0 < 158 ∧ sK (sRf q 0) = 6)) q h.1 h.2
theorem zt_4_1 {q : Nat} (h : zk q 4) : zk (sRf q 1) 5 := (by decide +kernel : ∀ q, q < 158 → sK q = 4 → (sRf q 1 < 158 ∧ sK (sRf q 1) = 5)) q h.1 h.2
theorem zt_4_2 {q : Nat} (h : zk q 4) : zk (sRf q 2) 7 := (by decide +kernel : ∀ q, q < 158 → sK q = 4 → (sRf q 2 < 158 ∧ sK (sRf q 2) = 7)) q h.1 h.2
theorem zt_4_3 {q : Nat} (h : zk q 4) : zk (sRf q 3) 3 := (by decide +kernel : ∀ q, q < 158 → sK q = 4 → (sRf q 3 < 158 ∧ sK (sRf q 3) = 3)) q h.1 h.2
theorem zt_5_5 {q : Nat} (h : zk q 5) : zk (sRf q 5) 13 := (by decide +kernel : ∀ q, q < 158 → sK q = 5 → (sRf q 5 < 158 ∧ sK (sRf q 5) = 13)) q h.1 h.2
theorem zt_5_6 {q : Nat} (h : zk q 5) : zk (sRf q 6) 13 := (by decide +kernel : ∀ q, q < 158 → sK q = 5 → (sRf q 6 < 158 ∧ sK (sRf q 6) = 13)) q h.1 h.2
theorem zt_5_7 {q : Nat} (h : zk q 5) : zk (sRf q 7) 14 := (by decide +kernel : ∀ q, q < 158 → sK q = 5 → (sRf q 7 < 158 ∧ sK (sRf q 7) = 14)) q h.1 h.2
theorem zt_5_8 {q : Nat} (h : zk q 5) : zk (sRf q 8) 14 := (by decide +kernel : ∀ q, q < 158 → sK q = 5 → (sRf q 8 < 158 ∧ sK (sRf q 8) = 14)) q h.1 h.2
theorem zt_5_9 {q : Nat} (h : zk q 5) : zk (sRf q 9) 13 := (by decide +kernel : ∀ q, q < 158 → sK q = 5 → (sRf q 9 < 158 ∧ sK (sRf q 9) = 13)) q h.1 h.2
theorem zt_5_10 {q : Nat} (h : zk q 5) : zk (sRf q 10) 13 := (by decide +kernel : ∀ q, q < 158 → sK q = 5 → (sRf q 10 < 158 ∧ sK (sRf q 10) = 13)) q h.1 h.2
theorem zt_6_0 {q : Nat} (h : zk q 6) : zk (sRf q 0) 13 := (by decide +kernel : ∀ q, q < 158 → sK q = 6 → (sRf q 0 < 158 ∧ sK (sRf q 0) = 13)) q h.1 h.2
theorem zt_6_1 {q : Nat} (h : zk q 6) : zk (sRf q 1) 14 := (by decide +kernel : ∀ q, q < 158 → sK q = 6 → (sRf q 1 < 158 ∧ sK (sRf q 1) = 14)) q h.1 h.2
theorem zt_7_0 {q : Nat} (h : zk q 7) : zk (sRf q 0) 13 := (by decide +kernel : ∀ q, q < 158 → sK q = 7 → (sRf q 0 < 158 ∧ sK (sRf q 0) = 13)) q h.1 h.2
theorem zt_7_1 {q : Nat} (h : zk q 7) : zk (sRf q 1) 13 := (by decide +kernel : ∀ q, q < 158 → sK q = 7 → (sRf q 1 < 158 ∧ sK (sRf q 1) = 13)) q h.1 h.2
theorem zt_7_2 {q : Nat} (h : zk q 7) : zk (sRf q 2) 13 := (by decide +kernel : ∀ q, q < 158 → sK q = 7 → (sRf q 2 < 158 ∧ sK (sRf q 2) = 13)) q h.1 h.2
theorem zt_7_3 {q : Nat} (h : zk q 7) : zk (sRf q 3) 13 := (by decide +kernel : ∀ q, q < 158 → sK q = 7 → (sRf q 3 < 158 ∧ sK (sRf q 3) = 13)) q h.1 h.2
theorem zt_8_0 {q : Nat} (h : zk q 8) : zk (sRf q 0) 13 := (by decide +kernel : ∀ q, q < 158 → sK q = 8 → (sRf q 0 < 158 ∧ sK (sRf q 0) = 13)) q h.1 h.2
theorem zt_8_1 {q : Nat} (h : zk q 8) : zk (sRf q 1) 13 := (by decide +kernel : ∀ q, q < 158 → sK q = 8 → (sRf q 1 < 158 ∧ sK (sRf q 1) = 13)) q h.1 h.2
theorem zt_8_2 {q : Nat} (h : zk q 8) : zk (sRf q 2) 13 := (by decide +kernel : ∀ q, q < 158 → sK q = 8 → (sRf q 2 < 158 ∧ sK (sRf q 2) = 13)) q h.1 h.2
theorem zt_9_0 {q : Nat} (h : zk q 9) : zk (sRf q 0) 13 := (by decide +kernel : ∀ q, q < 158 → sK q = 9 → (sRf q 0 < 158 ∧ sK (sRf q 0) = 13)) q h.1 h.2
theorem zt_10_0 {q : Nat} (h : zk q 10) : zk (sRf q 0) 3 := (by decide +kernel : ∀ q, q < 158 → sK q = 10 → (sRf q 0 < 158 ∧ sK (sRf q 0) = 3)) q h.1 h.2
theorem zt_10_1 {q : Nat} (h : zk q 10) : zk (sRf q 1) 13 := (by decide +kernel : ∀ q, q < 158 → sK q = 10 → (sRf q 1 < 158 ∧ sK (sRf q 1) = 13)) q h.1 h.2
theorem zt_10_2 {q : Nat} (h : zk q 10) : zk (sRf q 2) 13 := (by decide +kernel : ∀ q, q < 158 → sK q = 10 → (sRf q 2 < 158 ∧ sK (sRf q 2) = 13)) q h.1 h.2
theorem zt_10_3 {q : Nat} (h : zk q 10) : zk (sRf q 3) 15 := (by decide +kernel : ∀ q, q < 158 → sK q = 10 → (sRf q 3 < 158 ∧ sK (sRf q 3) = 15)) q h.1 h.2
theorem zt_11_0 {q : Nat} (h : zk q 11) : zk (sRf q 0) 6 := (by decide +kernel : ∀ q, q < 158 → sK q = 11 → (sRf q 0 < 158 ∧ sK (sRf q 0) = 6)) q h.1 h.2
theorem zt_11_1 {q : Nat} (h : zk q 11) : zk (sRf q 1) 5 := (by decide +kernel : ∀ q, q < 158 → sK q = 11 → (sRf q 1 < 158 ∧ sK (sRf q 1) = 5)) q h.1 h.2
theorem zt_11_2 {q : Nat} (h : zk q 11) : zk (sRf q 2) 7 := (by decide +kernel : ∀ q, q < 158 → sK q = 11 → (sRf q 2 < 158 ∧ sK (sRf q 2) = 7)) q h.1 h.2
theorem zt_11_3 {q : Nat} (h : zk q 11) : zk (sRf q 3) 8 := (by decide +kernel : ∀ q, q < 158 → sK q = 11 → (sRf q 3 < 158 ∧ sK (sRf q 3) = 8)) q h.1 h.2
theorem zt_11_4 {q : Nat} (h : zk q 11) : zk (sRf q 4) 3 := (by decide +kernel : ∀ q, q < 158 → sK q = 11 → (sRf q 4 < 158 ∧ sK (sRf q 4) = 3)) q h.1 h.2
theorem zt_11_5 {q : Nat} (h : zk q 11) : zk (sRf q 5) 3 := (by decide +kernel : ∀ q, q < 158 → sK q = 11 → (sRf q 5 < 158 ∧ sK (sRf q 5) = 3)) q h.1 h.2
theorem zt_11_6 {q : Nat} (h : zk q 11) : zk (sRf q 6) 4 := (by decide +kernel : ∀ q, q < 158 → sK q = 11 → (sRf q 6 < 158 ∧ sK (sRf q 6) = 4)) q h.1 h.2
theorem zt_11_7 {q : Nat} (h : zk q 11) : zk (sRf q 7) 0 := (by decide +kernel : ∀ q, q < 158 → sK q = 11 → (sRf q 7 < 158 ∧ sK (sRf q 7) = 0)) q h.1 h.2
theorem zt_11_8 {q : Nat} (h : zk q 11) : zk (sRf q 8) 8 := (by decide +kernel : ∀ q, q < 158 → sK q = 11 → (sRf q 8 < 158 ∧ sK (sRf q 8) = 8)) q h.1 h.2
theorem zt_11_9 {q : Nat} (h : zk q 11) : zk (sRf q 9) 2 := (by decide +kernel : ∀ q, q < 158 → sK q = 11 → (sRf q 9 < 158 ∧ sK (sRf q 9) = 2)) q h.1 h.2
theorem zt_11_10 {q : Nat} (h : zk q 11) : zk (sRf q 10) 16 := (by decide +kernel : ∀ q, q < 158 → sK q = 11 → (sRf q 10 < 158 ∧ sK (sRf q 10) = 16)) q h.1 h.2
theorem zt_11_11 {q : Nat} (h : zk q 11) : zk (sRf q 11) 15 := (by decide +kernel : ∀ q, q < 158 → sK q = 11 → (sRf q 11 < 158 ∧ sK (sRf q 11) = 15)) q h.1 h.2
theorem zt_11_12 {q : Nat} (h : zk q 11) : zk (sRf q 12) 10 := (by decide +kernel : ∀ q, q < 158 → sK q = 11 → (sRf q 12 < 158 ∧ sK (sRf q 12) = 10)) q h.1 h.2
theorem zt_11_13 {q : Nat} (h : zk q 11) : zk (sRf q 13) 1 := (by decide +kernel : ∀ q, q < 158 → sK q = 11 → (sRf q 13 < 158 ∧ sK (sRf q 13) = 1)) q h.1 h.2
theorem zt_11_14 {q : Nat} (h : zk q 11) : zk (sRf q 14) 9 := (by decide +kernel : ∀ q, q < 158 → sK q = 11 → (sRf q 14 < 158 ∧ sK (sRf q 14) = 9)) q h.1 h.2
theorem zt_12_1 {q : Nat} (h : zk q 12) : zk (sRf q 1) 13 := (by decide +kernel : ∀ q, q < 158 → sK q = 12 → (sRf q 1 < 158 ∧ sK (sRf q 1) = 13)) q h.1 h.2
theorem zt_12_14 {q : Nat} (h : zk q 12) : zk (sRf q 14) 13 := (by decide +kernel : ∀ q, q < 158 → sK q = 12 → (sRf q 14 < 158 ∧ sK (sRf q 14) = 13)) q h.1 h.2
theorem zt_12_15 {q : Nat} (h : zk q 12) : zk (sRf q 15) 13 := (by decide +kernel : ∀ q, q < 158 → sK q = 12 → (sRf q 15 < 158 ∧ sK (sRf q 15) = 13)) q h.1 h.2
theorem zt_12_16 {q : Nat} (h : zk q 12) : zk (sRf q 16) 13 := (by decide +kernel : ∀ q, q < 158 → sK q = 12 → (sRf q 16 < 158 ∧ sK (sRf q 16) = 13)) q h.1 h.2
theorem zt_12_17 {q : Nat} (h : zk q 12) : zk (sRf q 17) 13 := (by decide +kernel : ∀ q, q < 158 → sK q = 12 → (sRf q 17 < 158 ∧ sK (sRf q 17) = 13)) q h.1 h.2
theorem zt_12_18 {q : Nat} (h : zk q 12) : zk (sRf q 18) 13 := (by decide +kernel : ∀ q, q < 158 → sK q = 12 → (sRf q 18 < 158 ∧ sK (sRf q 18) = 13)) q h.1 h.2
theorem zt_12_19 {q : Nat} (h : zk q 12) : zk (sRf q 19) 14 := (by decide +kernel : ∀ q, q < 158 → sK q = 12 → (sRf q 19 < 158 ∧ sK (sRf q 19) = 14)) q h.1 h.2
theorem zt_12_20 {q : Nat} (h : zk q 12) : zk (sRf q 20) 14 := (by decide +kernel : ∀ q, q < 158 → sK q = 12 → (sRf q 20 < 158 ∧ sK (sRf q 20) = 14)) q h.1 h.2
theorem zt_12_21 {q : Nat} (h : zk q 12) : zk (sRf q 21) 14 := (by decide +kernel : ∀ q, q < 158 → sK q = 12 → (sRf q 21 < 158 ∧ sK (sRf q 21) = 14)) q h.1 h.2
theorem zt_12_22 {q : Nat} (h : zk q 12) : zk (sRf q 22) 15 := (by decide +kernel : ∀ q, q < 158 → sK q = 12 → (sRf q 22 < 158 ∧ sK (sRf q 22) = 15)) q h.1 h.2
theorem zt_12_27 {q : Nat} (h : zk q 12) : zk (sRf q 27) 13 := (by decide +kernel : ∀ q, q < 158 → sK q = 12 → (sRf q 27 < 158 ∧ sK (sRf q 27) = 13)) q h.1 h.2
theorem zt_12_28 {q : Nat} (h : zk q 12) : zk (sRf q 28) 13 := (by decide +kernel : ∀ q, q < 158 → sK q = 12 → (sRf q 28 < 158 ∧ sK (sRf q 28) = 13)) q h.1 h.2
theorem zt_12_29 {q : Nat} (h : zk q 12) : zk (sRf q 29) 13 := (by decide +kernel : ∀ q, q < 158 → sK q = 12 → (sRf q 29 < 158 ∧ sK (sRf q 29) = 13)) q h.1 h.2
theorem zt_12_30 {q : Nat} (h : zk q 12) : zk (sRf q 30) 14 := (by decide +kernel : ∀ q, q < 158 → sK q = 12 → (sRf q 30 < 158 ∧ sK (sRf q 30) = 14)) q h.1 h.2
theorem zt_12_35 {q : Nat} (h : zk q 12) : zk (sRf q 35) 13 := (by decide +kernel : ∀ q, q < 158 → sK q = 12 → (sRf q 35 < 158 ∧ sK (sRf q 35) = 13)) q h.1 h.2
theorem zt_12_38 {q : Nat} (h : zk q 12) : zk (sRf q 38) 13 := (by decide +kernel : ∀ q, q < 158 → sK q = 12 → (sRf q 38 < 158 ∧ sK (sRf q 38) = 13)) q h.1 h.2
theorem zt_12_39 {q : Nat} (h : zk q 12) : zk (sRf q 39) 13 := (by decide +kernel : ∀ q, q < 158 → sK q = 12 → (sRf q 39 < 158 ∧ sK (sRf q 39) = 13)) q h.1 h.2
theorem zt_12_42 {q : Nat} (h : zk q 12) : zk (sRf q 42) 13 := (by decide +kernel : ∀ q, q < 158 → sK q = 12 → (sRf q 42 < 158 ∧ sK (sRf q 42) = 13)) q h.1 h.2
theorem zta_16 {q k : Nat} (h : zk q 16) (hk : k < sLen q) : zk (sRf q k) 3 := (by decide +kernel : ∀ q, q < 158 → sK q = 16 → ∀ k, k < sLen q → (sRf q k < 158 ∧ sK (sRf q k) = 3)) q h.1 h.2 k hk
theorem zta_17 {q k : Nat} (h : zk q 17) (hk : k < sLen q) : zk (sRf q k) 7 := (by decide +kernel : ∀ q, q < 158 → sK q = 17 → ∀ k, k < sLen q → (sRf q k < 158 ∧ sK (sRf q k) = 7)) q h.1 h.2 k hk
