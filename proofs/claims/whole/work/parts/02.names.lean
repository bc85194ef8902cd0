theorem tin_1 {w : Cond} (h : w ∈ tables_1_1) : w ∈ tables_1 := List.mem_append_left _ h
theorem tin_2 {w : Cond} (h : w ∈ tables_1_2) : w ∈ tables_1 := List.mem_append_right _ (List.mem_append_left _ h)
theorem tin_3 {w : Cond} (h : w ∈ tables_1_3) : w ∈ tables_1 := List.mem_append_right _ (List.mem_append_right _ (List.mem_append_left _ h))
theorem tin_4 {w : Cond} (h : w ∈ tables_1_4) : w ∈ tables_1 := List.mem_append_right _ (List.mem_append_right _ (List.mem_append_right _ (List.mem_append_left _ h)))
theorem tin_5 {w : Cond} (h : w ∈ tables_1_5) : w ∈ tables_1 := List.mem_append_right _ (List.mem_append_right _ (List.mem_append_right _ (List.mem_append_right _ (List.mem_append_left _ h))))
theorem tin_6 {w : Cond} (h : w ∈ tables_1_6) : w ∈ tables_1 := List.mem_append_right _ (List.mem_append_right _ (List.mem_append_right _ (List.mem_append_right _ (List.mem_append_right _ (List.mem_append_left _ h)))))
theorem tin_7 {w : Cond} (h : w ∈ tables_1_7) : w ∈ tables_1 := List.mem_append_right _ (List.mem_append_right _ (List.mem_append_right _ (List.mem_append_right _ (List.mem_append_right _ (List.mem_append_right _ (List.mem_append_left _ h))))))
theorem tin_8 {w : Cond} (h : w ∈ tables_1_8) : w ∈ tables_1 := List.mem_append_right _ (List.mem_append_right _ (List.mem_append_right _ (List.mem_append_right _ (List.mem_append_right _ (List.mem_append_right _ (List.mem_append_right _ (List.mem_append_left _ h)))))))
theorem tin_9 {w : Cond} (h : w ∈ tables_1_9) : w ∈ tables_1 := List.mem_append_right _ (List.mem_append_right _ (List.mem_append_right _ (List.mem_append_right _ (List.mem_append_right _ (List.mem_append_right _ (List.mem_append_right _ (List.mem_append_right _ (h))))))))
def RX0 : String := "ShadowHeirs$Book"
def TX0 : u_T := fun k => match k with
  | 0 => ("ShadowHeirs$Book", "reader", "LShadowHeirs$Reader;", true)
  | 1 => ("ShadowHeirs$Book", "acts", "[I", true)
  | 2 => ("ShadowHeirs$Book", "firsts", "[I", true)
  | 3 => ("ShadowHeirs$Book", "seconds", "[I", true)
  | 4 => ("ShadowHeirs$Book", "lines", "I", false)
  | 5 => ("ShadowHeirs$Book", "judged", "Z", false)
  | 6 => ("ShadowHeirs$Book", "why", "I", false)
  | 7 => ("ShadowHeirs$Book", "right", "I", false)
  | 8 => ("ShadowHeirs$Book", "hourThen", "I", false)
  | _ => ("ShadowHeirs$Book", "wealthThen", "I", false)
def tyX0 : Nat → FieldType := fun k => match k with
  | 0 => .object "ShadowHeirs$Reader"
  | 1 => .array .int
  | 2 => .array .int
  | 3 => .array .int
  | 4 => .int
  | 5 => .boolean
  | 6 => .int
  | 7 => .int
  | 8 => .int
  | _ => .int
theorem nmX0 : ∀ a, a < 10 → ∀ b, b < 10 → a ≠ b → (TX0 a).2.1 ≠ (TX0 b).2.1 := by decide +kernel
theorem tyX0_ok : ∀ k, k < 10 → parseFieldDescriptor (TX0 k).2.2.1 = some (tyX0 k) := by decide +kernel
def RX1 : String := "ShadowHeirs$Draws"
def TX1 : u_T := fun k => match k with
  | _ => ("ShadowHeirs$Draws", "x", "I", false)
def tyX1 : Nat → FieldType := fun k => match k with
  | _ => .int
theorem nmX1 : ∀ a, a < 1 → ∀ b, b < 1 → a ≠ b → (TX1 a).2.1 ≠ (TX1 b).2.1 := by decide +kernel
theorem tyX1_ok : ∀ k, k < 1 → parseFieldDescriptor (TX1 k).2.2.1 = some (tyX1 k) := by decide +kernel
def RX2 : String := "ShadowHeirs$History"
def TX2 : u_T := fun k => match k with
  | 0 => ("ShadowHeirs$History", "kept", "[LShadowHeirs$Scene;", true)
  | 1 => ("ShadowHeirs$History", "next", "I", false)
  | _ => ("ShadowHeirs$History", "size", "I", false)
def tyX2 : Nat → FieldType := fun k => match k with
  | 0 => .array (.object "ShadowHeirs$Scene")
  | 1 => .int
  | _ => .int
theorem nmX2 : ∀ a, a < 3 → ∀ b, b < 3 → a ≠ b → (TX2 a).2.1 ≠ (TX2 b).2.1 := by decide +kernel
theorem tyX2_ok : ∀ k, k < 3 → parseFieldDescriptor (TX2 k).2.2.1 = some (tyX2 k) := by decide +kernel
def RX3 : String := "ShadowHeirs$Island"
def TX3 : u_T := fun k => match k with
  | 0 => ("ShadowHeirs$Island", "plan", "LShadowHeirs$Plan;", true)
  | 1 => ("ShadowHeirs$Island", "scene", "LShadowHeirs$Scene;", true)
  | _ => ("ShadowHeirs$Island", "sentence", "LShadowHeirs$Sentence;", true)
def tyX3 : Nat → FieldType := fun k => match k with
  | 0 => .object "ShadowHeirs$Plan"
  | 1 => .object "ShadowHeirs$Scene"
  | _ => .object "ShadowHeirs$Sentence"
theorem nmX3 : ∀ a, a < 3 → ∀ b, b < 3 → a ≠ b → (TX3 a).2.1 ≠ (TX3 b).2.1 := by decide +kernel
theorem tyX3_ok : ∀ k, k < 3 → parseFieldDescriptor (TX3 k).2.2.1 = some (tyX3 k) := by decide +kernel
def RX4 : String := "ShadowHeirs$IslandText"
def TX4 : u_T := fun k => match k with
  | 0 => ("ShadowHeirs$IslandText", "reader", "LShadowHeirs$Reader;", true)
  | 1 => ("ShadowHeirs$IslandText", "plan", "LShadowHeirs$Plan;", true)
  | 2 => ("ShadowHeirs$IslandText", "scene", "LShadowHeirs$Scene;", true)
  | 3 => ("ShadowHeirs$IslandText", "draft", "LShadowHeirs$Island;", true)
  | 4 => ("ShadowHeirs$IslandText", "isGroundTold", "Z", false)
  | 5 => ("ShadowHeirs$IslandText", "isSpotTold", "Z", false)
  | _ => ("ShadowHeirs$IslandText", "spot", "I", false)
def tyX4 : Nat → FieldType := fun k => match k with
  | 0 => .object "ShadowHeirs$Reader"
  | 1 => .object "ShadowHeirs$Plan"
  | 2 => .object "ShadowHeirs$Scene"
  | 3 => .object "ShadowHeirs$Island"
  | 4 => .boolean
  | 5 => .boolean
  | _ => .int
theorem nmX4 : ∀ a, a < 7 → ∀ b, b < 7 → a ≠ b → (TX4 a).2.1 ≠ (TX4 b).2.1 := by decide +kernel
theorem tyX4_ok : ∀ k, k < 7 → parseFieldDescriptor (TX4 k).2.2.1 = some (tyX4 k) := by decide +kernel
def RX5 : String := "ShadowHeirs$Plan"
def TX5 : u_T := fun k => match k with
  | 0 => ("ShadowHeirs$Plan", "wide", "I", false)
  | 1 => ("ShadowHeirs$Plan", "high", "I", false)
  | 2 => ("ShadowHeirs$Plan", "houses", "I", false)
  | 3 => ("ShadowHeirs$Plan", "persons", "I", false)
  | 4 => ("ShadowHeirs$Plan", "suns", "I", false)
  | 5 => ("ShadowHeirs$Plan", "houseSpot", "[I", true)
  | 6 => ("ShadowHeirs$Plan", "houseHigh", "[I", true)
  | 7 => ("ShadowHeirs$Plan", "houseName", "[J", true)
  | 8 => ("ShadowHeirs$Plan", "personName", "[J", true)
  | 9 => ("ShadowHeirs$Plan", "sunSide", "[I", true)
  | _ => ("ShadowHeirs$Plan", "sunDrop", "[I", true)
def tyX5 : Nat → FieldType := fun k => match k with
  | 0 => .int
  | 1 => .int
  | 2 => .int
  | 3 => .int
  | 4 => .int
  | 5 => .array .int
  | 6 => .array .int
  | 7 => .array .long
  | 8 => .array .long
  | 9 => .array .int
  | _ => .array .int
theorem nmX5 : ∀ a, a < 11 → ∀ b, b < 11 → a ≠ b → (TX5 a).2.1 ≠ (TX5 b).2.1 := by decide +kernel
theorem tyX5_ok : ∀ k, k < 11 → parseFieldDescriptor (TX5 k).2.2.1 = some (tyX5 k) := by decide +kernel
def RX6 : String := "ShadowHeirs$Reader"
def TX6 : u_T := fun k => match k with
  | 0 => ("ShadowHeirs$Reader", "bytes", "[I", true)
  | 1 => ("ShadowHeirs$Reader", "kept", "[J", true)
  | 2 => ("ShadowHeirs$Reader", "size", "I", false)
  | 3 => ("ShadowHeirs$Reader", "mostTold", "I", false)
  | 4 => ("ShadowHeirs$Reader", "next", "I", false)
  | 5 => ("ShadowHeirs$Reader", "place", "I", false)
  | 6 => ("ShadowHeirs$Reader", "kind", "I", false)
  | 7 => ("ShadowHeirs$Reader", "value", "J", false)
  | 8 => ("ShadowHeirs$Reader", "known", "I", false)
  | 9 => ("ShadowHeirs$Reader", "faultKind", "I", false)
  | _ => ("ShadowHeirs$Reader", "faultPlace", "I", false)
def tyX6 : Nat → FieldType := fun k => match k with
  | 0 => .array .int
  | 1 => .array .long
  | 2 => .int
  | 3 => .int
  | 4 => .int
  | 5 => .int
  | 6 => .int
  | 7 => .long
  | 8 => .int
  | 9 => .int
  | _ => .int
theorem nmX6 : ∀ a, a < 11 → ∀ b, b < 11 → a ≠ b → (TX6 a).2.1 ≠ (TX6 b).2.1 := by decide +kernel
theorem tyX6_ok : ∀ k, k < 11 → parseFieldDescriptor (TX6 k).2.2.1 = some (tyX6 k) := by decide +kernel
def RX7 : String := "ShadowHeirs$Scene"
def TX7 : u_T := fun k => match k with
  | 0 => ("ShadowHeirs$Scene", "stones", "[I", true)
  | 1 => ("ShadowHeirs$Scene", "standsAt", "[I", true)
  | 2 => ("ShadowHeirs$Scene", "wealth", "[I", true)
  | 3 => ("ShadowHeirs$Scene", "goods", "[I", true)
  | 4 => ("ShadowHeirs$Scene", "buried", "I", false)
  | 5 => ("ShadowHeirs$Scene", "hour", "I", false)
  | 6 => ("ShadowHeirs$Scene", "sea", "I", false)
  | 7 => ("ShadowHeirs$Scene", "steps", "I", false)
  | _ => ("ShadowHeirs$Scene", "laid", "I", false)
def tyX7 : Nat → FieldType := fun k => match k with
  | 0 => .array .int
  | 1 => .array .int
  | 2 => .array .int
  | 3 => .array .int
  | 4 => .int
  | 5 => .int
  | 6 => .int
  | 7 => .int
  | _ => .int
theorem nmX7 : ∀ a, a < 9 → ∀ b, b < 9 → a ≠ b → (TX7 a).2.1 ≠ (TX7 b).2.1 := by decide +kernel
theorem tyX7_ok : ∀ k, k < 9 → parseFieldDescriptor (TX7 k).2.2.1 = some (tyX7 k) := by decide +kernel
def RX8 : String := "ShadowHeirs$Sentence"
def TX8 : u_T := fun k => match k with
  | 0 => ("ShadowHeirs$Sentence", "parts", "[I", true)
  | 1 => ("ShadowHeirs$Sentence", "details", "[I", true)
  | 2 => ("ShadowHeirs$Sentence", "stack", "[I", true)
  | 3 => ("ShadowHeirs$Sentence", "size", "I", false)
  | _ => ("ShadowHeirs$Sentence", "ones", "I", false)
def tyX8 : Nat → FieldType := fun k => match k with
  | 0 => .array .int
  | 1 => .array .int
  | 2 => .array .int
  | 3 => .int
  | _ => .int
theorem nmX8 : ∀ a, a < 5 → ∀ b, b < 5 → a ≠ b → (TX8 a).2.1 ≠ (TX8 b).2.1 := by decide +kernel
theorem tyX8_ok : ∀ k, k < 5 → parseFieldDescriptor (TX8 k).2.2.1 = some (tyX8 k) := by decide +kernel
def RX9 : String := "ShadowHeirs$Slip"
def TX9 : u_T := fun k => match k with
  | 0 => ("ShadowHeirs$Slip", "bytes", "[I", true)
  | _ => ("ShadowHeirs$Slip", "size", "I", false)
def tyX9 : Nat → FieldType := fun k => match k with
  | 0 => .array .int
  | _ => .int
theorem nmX9 : ∀ a, a < 2 → ∀ b, b < 2 → a ≠ b → (TX9 a).2.1 ≠ (TX9 b).2.1 := by decide +kernel
theorem tyX9_ok : ∀ k, k < 2 → parseFieldDescriptor (TX9 k).2.2.1 = some (tyX9 k) := by decide +kernel
def RX10 : String := "ShadowHeirs$Walk"
def TX10 : u_T := fun k => match k with
  | 0 => ("ShadowHeirs$Walk", "island", "LShadowHeirs$Island;", true)
  | 1 => ("ShadowHeirs$Walk", "stepsTo", "[I", true)
  | 2 => ("ShadowHeirs$Walk", "queue", "[I", true)
  | _ => ("ShadowHeirs$Walk", "canBeTaken", "[Z", true)
def tyX10 : Nat → FieldType := fun k => match k with
  | 0 => .object "ShadowHeirs$Island"
  | 1 => .array .int
  | 2 => .array .int
  | _ => .array .boolean
theorem nmX10 : ∀ a, a < 4 → ∀ b, b < 4 → a ≠ b → (TX10 a).2.1 ≠ (TX10 b).2.1 := by decide +kernel
theorem tyX10_ok : ∀ k, k < 4 → parseFieldDescriptor (TX10 k).2.2.1 = some (tyX10 k) := by decide +kernel
def RX11 : String := "ShadowHeirs"
def TX11 : u_T := fun k => match k with
  | 0 => ("ShadowHeirs", "reader", "LShadowHeirs$Reader;", true)
  | 1 => ("ShadowHeirs", "plan", "LShadowHeirs$Plan;", true)
  | 2 => ("ShadowHeirs", "scene", "LShadowHeirs$Scene;", true)
  | 3 => ("ShadowHeirs", "sentenceNow", "LShadowHeirs$Sentence;", true)
  | 4 => ("ShadowHeirs", "live", "LShadowHeirs$Island;", true)
  | 5 => ("ShadowHeirs", "trial", "LShadowHeirs$Island;", true)
  | 6 => ("ShadowHeirs", "islandText", "LShadowHeirs$IslandText;", true)
  | 7 => ("ShadowHeirs", "bookRead", "LShadowHeirs$Book;", true)
  | 8 => ("ShadowHeirs", "sentenceRead", "LShadowHeirs$Sentence;", true)
  | 9 => ("ShadowHeirs", "history", "LShadowHeirs$History;", true)
  | 10 => ("ShadowHeirs", "images", "[LShadowHeirs$Island;", true)
  | 11 => ("ShadowHeirs", "isImageKept", "[Z", true)
  | 12 => ("ShadowHeirs", "walk", "LShadowHeirs$Walk;", true)
  | 13 => ("ShadowHeirs", "draws", "LShadowHeirs$Draws;", true)
  | 14 => ("ShadowHeirs", "latestSlip", "LShadowHeirs$Slip;", true)
  | 15 => ("ShadowHeirs", "latestFault", "I", false)
  | 16 => ("ShadowHeirs", "spareSpot", "I", false)
  | 17 => ("ShadowHeirs", "askPerson", "I", false)
  | 18 => ("ShadowHeirs", "longestHouse", "I", false)
  | _ => ("ShadowHeirs", "longestHour", "I", false)
def tyX11 : Nat → FieldType := fun k => match k with
  | 0 => .object "ShadowHeirs$Reader"
  | 1 => .object "ShadowHeirs$Plan"
  | 2 => .object "ShadowHeirs$Scene"
  | 3 => .object "ShadowHeirs$Sentence"
  | 4 => .object "ShadowHeirs$Island"
  | 5 => .object "ShadowHeirs$Island"
  | 6 => .object "ShadowHeirs$IslandText"
  | 7 => .object "ShadowHeirs$Book"
  | 8 => .object "ShadowHeirs$Sentence"
  | 9 => .object "ShadowHeirs$History"
  | 10 => .array (.object "ShadowHeirs$Island")
  | 11 => .array .boolean
  | 12 => .object "ShadowHeirs$Walk"
  | 13 => .object "ShadowHeirs$Draws"
  | 14 => .object "ShadowHeirs$Slip"
  | 15 => .int
  | 16 => .int
  | 17 => .int
  | 18 => .int
  | _ => .int
theorem nmX11 : ∀ a, a < 20 → ∀ b, b < 20 → a ≠ b → (TX11 a).2.1 ≠ (TX11 b).2.1 := by decide +kernel
theorem tyX11_ok : ∀ k, k < 20 → parseFieldDescriptor (TX11 k).2.2.1 = some (tyX11 k) := by decide +kernel
def RX12 : String := "ShadowHeirsModel"
def TX12 : u_T := fun k => match k with
  | 0 => ("ShadowHeirsModel", "thrown", "I", false)
  | 1 => ("ShadowHeirsModel", "tape", "[I", true)
  | 2 => ("ShadowHeirsModel", "taped", "I", false)
  | 3 => ("ShadowHeirsModel", "size", "I", false)
  | 4 => ("ShadowHeirsModel", "limit", "I", false)
  | 5 => ("ShadowHeirsModel", "to", "I", false)
  | 6 => ("ShadowHeirsModel", "from", "I", false)
  | 7 => ("ShadowHeirsModel", "kind", "I", false)
  | 8 => ("ShadowHeirsModel", "number", "I", false)
  | 9 => ("ShadowHeirsModel", "sign", "I", false)
  | 10 => ("ShadowHeirsModel", "fault", "I", false)
  | 11 => ("ShadowHeirsModel", "place", "I", false)
  | 12 => ("ShadowHeirsModel", "word", "J", false)
  | 13 => ("ShadowHeirsModel", "told", "I", false)
  | 14 => ("ShadowHeirsModel", "now", "[I", true)
  | 15 => ("ShadowHeirsModel", "read", "[I", true)
  | 16 => ("ShadowHeirsModel", "kept", "[I", true)
  | 17 => ("ShadowHeirsModel", "snaps", "[I", true)
  | 18 => ("ShadowHeirsModel", "aside", "[I", true)
  | 19 => ("ShadowHeirsModel", "name", "[J", true)
  | 20 => ("ShadowHeirsModel", "readName", "[J", true)
  | 21 => ("ShadowHeirsModel", "keptName", "[J", true)
  | 22 => ("ShadowHeirsModel", "isKept", "[Z", true)
  | 23 => ("ShadowHeirsModel", "once", "Z", false)
  | 24 => ("ShadowHeirsModel", "hasCells", "Z", false)
  | 25 => ("ShadowHeirsModel", "snapMany", "I", false)
  | 26 => ("ShadowHeirsModel", "spareAt", "I", false)
  | 27 => ("ShadowHeirsModel", "far", "[I", true)
  | 28 => ("ShadowHeirsModel", "ends", "[I", true)
  | 29 => ("ShadowHeirsModel", "stander", "[I", true)
  | 30 => ("ShadowHeirsModel", "reach", "[J", true)
  | 31 => ("ShadowHeirsModel", "tried", "J", false)
  | 32 => ("ShadowHeirsModel", "asking", "I", false)
  | 33 => ("ShadowHeirsModel", "longHouse", "I", false)
  | 34 => ("ShadowHeirsModel", "longSun", "I", false)
  | 35 => ("ShadowHeirsModel", "text", "[I", true)
  | 36 => ("ShadowHeirsModel", "texts", "I", false)
  | 37 => ("ShadowHeirsModel", "seed", "I", false)
  | 38 => ("ShadowHeirsModel", "line", "[I", true)
  | 39 => ("ShadowHeirsModel", "written", "[I", true)
  | 40 => ("ShadowHeirsModel", "lineMany", "I", false)
  | 41 => ("ShadowHeirsModel", "hasWritten", "Z", false)
  | 42 => ("ShadowHeirsModel", "node", "[I", true)
  | 43 => ("ShadowHeirsModel", "nodes", "I", false)
  | 44 => ("ShadowHeirsModel", "onesMany", "I", false)
  | 45 => ("ShadowHeirsModel", "within", "I", false)
  | _ => ("ShadowHeirsModel", "top", "I", false)
def tyX12 : Nat → FieldType := fun k => match k with
  | 0 => .int
  | 1 => .array .int
  | 2 => .int
  | 3 => .int
  | 4 => .int
  | 5 => .int
  | 6 => .int
  | 7 => .int
  | 8 => .int
  | 9 => .int
  | 10 => .int
  | 11 => .int
  | 12 => .long
  | 13 => .int
  | 14 => .array .int
  | 15 => .array .int
  | 16 => .array .int
  | 17 => .array .int
  | 18 => .array .int
  | 19 => .array .long
  | 20 => .array .long
  | 21 => .array .long
  | 22 => .array .boolean
  | 23 => .boolean
  | 24 => .boolean
  | 25 => .int
  | 26 => .int
  | 27 => .array .int
  | 28 => .array .int
  | 29 => .array .int
  | 30 => .array .long
  | 31 => .long
  | 32 => .int
  | 33 => .int
  | 34 => .int
  | 35 => .array .int
  | 36 => .int
  | 37 => .int
  | 38 => .array .int
  | 39 => .array .int
  | 40 => .int
  | 41 => .boolean
  | 42 => .array .int
  | 43 => .int
  | 44 => .int
  | 45 => .int
  | _ => .int
theorem nmX12 : ∀ a, a < 47 → ∀ b, b < 47 → a ≠ b → (TX12 a).2.1 ≠ (TX12 b).2.1 := by decide +kernel
theorem tyX12_ok : ∀ k, k < 47 → parseFieldDescriptor (TX12 k).2.2.1 = some (tyX12 k) := by decide +kernel
abbrev vwCl : List vw_C := [(RX0, TX0, 10), (RX1, TX1, 1), (RX2, TX2, 3), (RX3, TX3, 3), (RX4, TX4, 7), (RX5, TX5, 11), (RX6, TX6, 11), (RX7, TX7, 9), (RX8, TX8, 5), (RX9, TX9, 2), (RX10, TX10, 4), (RX11, TX11, 20), (RX12, TX12, 47)]
theorem clw_0_0 : u_lay RX0 TX0 0 ∈ gw_tbl := gw_t (tin_2 (List.mem_of_getElem? (i := 150) (by decide +kernel))) rfl
theorem clw_0_1 : u_lay RX0 TX0 1 ∈ gw_tbl := gw_t (tin_2 (List.mem_of_getElem? (i := 152) (by decide +kernel))) rfl
theorem clw_0_2 : u_lay RX0 TX0 2 ∈ gw_tbl := gw_t (tin_2 (List.mem_of_getElem? (i := 154) (by decide +kernel))) rfl
theorem clw_0_3 : u_lay RX0 TX0 3 ∈ gw_tbl := gw_t (tin_2 (List.mem_of_getElem? (i := 156) (by decide +kernel))) rfl
theorem clw_0_4 : u_lay RX0 TX0 4 ∈ gw_tbl := gw_t (tin_2 (List.mem_of_getElem? (i := 158) (by decide +kernel))) rfl
theorem clw_0_5 : u_lay RX0 TX0 5 ∈ gw_tbl := gw_t (tin_2 (List.mem_of_getElem? (i := 160) (by decide +kernel))) rfl
theorem clw_0_6 : u_lay RX0 TX0 6 ∈ gw_tbl := gw_t (tin_2 (List.mem_of_getElem? (i := 162) (by decide +kernel))) rfl
theorem clw_0_7 : u_lay RX0 TX0 7 ∈ gw_tbl := gw_t (tin_2 (List.mem_of_getElem? (i := 164) (by decide +kernel))) rfl
theorem clw_0_8 : u_lay RX0 TX0 8 ∈ gw_tbl := gw_t (tin_2 (List.mem_of_getElem? (i := 166) (by decide +kernel))) rfl
theorem clw_0_9 : u_lay RX0 TX0 9 ∈ gw_tbl := gw_t (tin_2 (List.mem_of_getElem? (i := 168) (by decide +kernel))) rfl
theorem clw_0 : ∀ w ∈ u_ws RX0 TX0 10, w ∈ gw_tbl := by
  intro w h
  obtain ⟨k, hk, rfl⟩ := List.mem_map.mp h
  have hk := List.mem_range.mp hk
  match k, hk with
  | 0, _ => exact clw_0_0
  | 1, _ => exact clw_0_1
  | 2, _ => exact clw_0_2
  | 3, _ => exact clw_0_3
  | 4, _ => exact clw_0_4
  | 5, _ => exact clw_0_5
  | 6, _ => exact clw_0_6
  | 7, _ => exact clw_0_7
  | 8, _ => exact clw_0_8
  | 9, _ => exact clw_0_9
  | k + 10, hk => exact absurd hk (by omega)
theorem clw_1_0 : u_lay RX1 TX1 0 ∈ gw_tbl := gw_t (tin_2 (List.mem_of_getElem? (i := 219) (by decide +kernel))) rfl
theorem clw_1 : ∀ w ∈ u_ws RX1 TX1 1, w ∈ gw_tbl := by
  intro w h
  obtain ⟨k, hk, rfl⟩ := List.mem_map.mp h
  have hk := List.mem_range.mp hk
  match k, hk with
  | 0, _ => exact clw_1_0
  | k + 1, hk => exact absurd hk (by omega)
theorem clw_2_0 : u_lay RX2 TX2 0 ∈ gw_tbl := gw_t (tin_2 (List.mem_of_getElem? (i := 184) (by decide +kernel))) rfl
theorem clw_2_1 : u_lay RX2 TX2 1 ∈ gw_tbl := gw_t (tin_2 (List.mem_of_getElem? (i := 186) (by decide +kernel))) rfl
theorem clw_2_2 : u_lay RX2 TX2 2 ∈ gw_tbl := gw_t (tin_2 (List.mem_of_getElem? (i := 188) (by decide +kernel))) rfl
theorem clw_2 : ∀ w ∈ u_ws RX2 TX2 3, w ∈ gw_tbl := by
  intro w h
  obtain ⟨k, hk, rfl⟩ := List.mem_map.mp h
  have hk := List.mem_range.mp hk
  match k, hk with
  | 0, _ => exact clw_2_0
  | 1, _ => exact clw_2_1
  | 2, _ => exact clw_2_2
  | k + 3, hk => exact absurd hk (by omega)
theorem clw_3_0 : u_lay RX3 TX3 0 ∈ gw_tbl := gw_t (tin_2 (List.mem_of_getElem? (i := 85) (by decide +kernel))) rfl
theorem clw_3_1 : u_lay RX3 TX3 1 ∈ gw_tbl := gw_t (tin_2 (List.mem_of_getElem? (i := 87) (by decide +kernel))) rfl
theorem clw_3_2 : u_lay RX3 TX3 2 ∈ gw_tbl := gw_t (tin_2 (List.mem_of_getElem? (i := 89) (by decide +kernel))) rfl
theorem clw_3 : ∀ w ∈ u_ws RX3 TX3 3, w ∈ gw_tbl := by
  intro w h
  obtain ⟨k, hk, rfl⟩ := List.mem_map.mp h
  have hk := List.mem_range.mp hk
  match k, hk with
  | 0, _ => exact clw_3_0
  | 1, _ => exact clw_3_1
  | 2, _ => exact clw_3_2
  | k + 3, hk => exact absurd hk (by omega)
theorem clw_4_0 : u_lay RX4 TX4 0 ∈ gw_tbl := gw_t (tin_2 (List.mem_of_getElem? (i := 114) (by decide +kernel))) rfl
theorem clw_4_1 : u_lay RX4 TX4 1 ∈ gw_tbl := gw_t (tin_2 (List.mem_of_getElem? (i := 116) (by decide +kernel))) rfl
theorem clw_4_2 : u_lay RX4 TX4 2 ∈ gw_tbl := gw_t (tin_2 (List.mem_of_getElem? (i := 118) (by decide +kernel))) rfl
theorem clw_4_3 : u_lay RX4 TX4 3 ∈ gw_tbl := gw_t (tin_2 (List.mem_of_getElem? (i := 120) (by decide +kernel))) rfl
theorem clw_4_4 : u_lay RX4 TX4 4 ∈ gw_tbl := gw_t (tin_2 (List.mem_of_getElem? (i := 122) (by decide +kernel))) rfl
theorem clw_4_5 : u_lay RX4 TX4 5 ∈ gw_tbl := gw_t (tin_2 (List.mem_of_getElem? (i := 124) (by decide +kernel))) rfl
theorem clw_4_6 : u_lay RX4 TX4 6 ∈ gw_tbl := gw_t (tin_2 (List.mem_of_getElem? (i := 126) (by decide +kernel))) rfl
theorem clw_4 : ∀ w ∈ u_ws RX4 TX4 7, w ∈ gw_tbl := by
  intro w h
  obtain ⟨k, hk, rfl⟩ := List.mem_map.mp h
  have hk := List.mem_range.mp hk
  match k, hk with
  | 0, _ => exact clw_4_0
  | 1, _ => exact clw_4_1
  | 2, _ => exact clw_4_2
  | 3, _ => exact clw_4_3
  | 4, _ => exact clw_4_4
  | 5, _ => exact clw_4_5
  | 6, _ => exact clw_4_6
  | k + 7, hk => exact absurd hk (by omega)
theorem clw_5_0 : u_lay RX5 TX5 0 ∈ gw_tbl := gw_t (tin_1 (List.mem_of_getElem? (i := 196) (by decide +kernel))) rfl
theorem clw_5_1 : u_lay RX5 TX5 1 ∈ gw_tbl := gw_t (tin_1 (List.mem_of_getElem? (i := 198) (by decide +kernel))) rfl
theorem clw_5_2 : u_lay RX5 TX5 2 ∈ gw_tbl := gw_t (tin_1 (List.mem_of_getElem? (i := 200) (by decide +kernel))) rfl
theorem clw_5_3 : u_lay RX5 TX5 3 ∈ gw_tbl := gw_t (tin_1 (List.mem_of_getElem? (i := 202) (by decide +kernel))) rfl
theorem clw_5_4 : u_lay RX5 TX5 4 ∈ gw_tbl := gw_t (tin_1 (List.mem_of_getElem? (i := 204) (by decide +kernel))) rfl
theorem clw_5_5 : u_lay RX5 TX5 5 ∈ gw_tbl := gw_t (tin_1 (List.mem_of_getElem? (i := 206) (by decide +kernel))) rfl
theorem clw_5_6 : u_lay RX5 TX5 6 ∈ gw_tbl := gw_t (tin_1 (List.mem_of_getElem? (i := 208) (by decide +kernel))) rfl
theorem clw_5_7 : u_lay RX5 TX5 7 ∈ gw_tbl := gw_t (tin_1 (List.mem_of_getElem? (i := 210) (by decide +kernel))) rfl
theorem clw_5_8 : u_lay RX5 TX5 8 ∈ gw_tbl := gw_t (tin_1 (List.mem_of_getElem? (i := 212) (by decide +kernel))) rfl
theorem clw_5_9 : u_lay RX5 TX5 9 ∈ gw_tbl := gw_t (tin_1 (List.mem_of_getElem? (i := 214) (by decide +kernel))) rfl
theorem clw_5_10 : u_lay RX5 TX5 10 ∈ gw_tbl := gw_t (tin_1 (List.mem_of_getElem? (i := 216) (by decide +kernel))) rfl
theorem clw_5 : ∀ w ∈ u_ws RX5 TX5 11, w ∈ gw_tbl := by
  intro w h
  obtain ⟨k, hk, rfl⟩ := List.mem_map.mp h
  have hk := List.mem_range.mp hk
  match k, hk with
  | 0, _ => exact clw_5_0
  | 1, _ => exact clw_5_1
  | 2, _ => exact clw_5_2
  | 3, _ => exact clw_5_3
  | 4, _ => exact clw_5_4
  | 5, _ => exact clw_5_5
  | 6, _ => exact clw_5_6
  | 7, _ => exact clw_5_7
  | 8, _ => exact clw_5_8
  | 9, _ => exact clw_5_9
  | 10, _ => exact clw_5_10
  | k + 11, hk => exact absurd hk (by omega)
theorem clw_6_0 : u_lay RX6 TX6 0 ∈ gw_tbl := gw_t (tin_1 (List.mem_of_getElem? (i := 118) (by decide +kernel))) rfl
theorem clw_6_1 : u_lay RX6 TX6 1 ∈ gw_tbl := gw_t (tin_1 (List.mem_of_getElem? (i := 120) (by decide +kernel))) rfl
theorem clw_6_2 : u_lay RX6 TX6 2 ∈ gw_tbl := gw_t (tin_1 (List.mem_of_getElem? (i := 122) (by decide +kernel))) rfl
theorem clw_6_3 : u_lay RX6 TX6 3 ∈ gw_tbl := gw_t (tin_1 (List.mem_of_getElem? (i := 124) (by decide +kernel))) rfl
theorem clw_6_4 : u_lay RX6 TX6 4 ∈ gw_tbl := gw_t (tin_1 (List.mem_of_getElem? (i := 126) (by decide +kernel))) rfl
theorem clw_6_5 : u_lay RX6 TX6 5 ∈ gw_tbl := gw_t (tin_1 (List.mem_of_getElem? (i := 128) (by decide +kernel))) rfl
theorem clw_6_6 : u_lay RX6 TX6 6 ∈ gw_tbl := gw_t (tin_1 (List.mem_of_getElem? (i := 130) (by decide +kernel))) rfl
theorem clw_6_7 : u_lay RX6 TX6 7 ∈ gw_tbl := gw_t (tin_1 (List.mem_of_getElem? (i := 132) (by decide +kernel))) rfl
theorem clw_6_8 : u_lay RX6 TX6 8 ∈ gw_tbl := gw_t (tin_1 (List.mem_of_getElem? (i := 134) (by decide +kernel))) rfl
theorem clw_6_9 : u_lay RX6 TX6 9 ∈ gw_tbl := gw_t (tin_1 (List.mem_of_getElem? (i := 136) (by decide +kernel))) rfl
theorem clw_6_10 : u_lay RX6 TX6 10 ∈ gw_tbl := gw_t (tin_1 (List.mem_of_getElem? (i := 138) (by decide +kernel))) rfl
theorem clw_6 : ∀ w ∈ u_ws RX6 TX6 11, w ∈ gw_tbl := by
  intro w h
  obtain ⟨k, hk, rfl⟩ := List.mem_map.mp h
  have hk := List.mem_range.mp hk
  match k, hk with
  | 0, _ => exact clw_6_0
  | 1, _ => exact clw_6_1
  | 2, _ => exact clw_6_2
  | 3, _ => exact clw_6_3
  | 4, _ => exact clw_6_4
  | 5, _ => exact clw_6_5
  | 6, _ => exact clw_6_6
  | 7, _ => exact clw_6_7
  | 8, _ => exact clw_6_8
  | 9, _ => exact clw_6_9
  | 10, _ => exact clw_6_10
  | k + 11, hk => exact absurd hk (by omega)
theorem clw_7_0 : u_lay RX7 TX7 0 ∈ gw_tbl := gw_t (tin_2 (List.mem_of_getElem? (i := 23) (by decide +kernel))) rfl
theorem clw_7_1 : u_lay RX7 TX7 1 ∈ gw_tbl := gw_t (tin_2 (List.mem_of_getElem? (i := 25) (by decide +kernel))) rfl
theorem clw_7_2 : u_lay RX7 TX7 2 ∈ gw_tbl := gw_t (tin_2 (List.mem_of_getElem? (i := 27) (by decide +kernel))) rfl
theorem clw_7_3 : u_lay RX7 TX7 3 ∈ gw_tbl := gw_t (tin_2 (List.mem_of_getElem? (i := 29) (by decide +kernel))) rfl
theorem clw_7_4 : u_lay RX7 TX7 4 ∈ gw_tbl := gw_t (tin_2 (List.mem_of_getElem? (i := 31) (by decide +kernel))) rfl
theorem clw_7_5 : u_lay RX7 TX7 5 ∈ gw_tbl := gw_t (tin_2 (List.mem_of_getElem? (i := 33) (by decide +kernel))) rfl
theorem clw_7_6 : u_lay RX7 TX7 6 ∈ gw_tbl := gw_t (tin_2 (List.mem_of_getElem? (i := 35) (by decide +kernel))) rfl
theorem clw_7_7 : u_lay RX7 TX7 7 ∈ gw_tbl := gw_t (tin_2 (List.mem_of_getElem? (i := 37) (by decide +kernel))) rfl
theorem clw_7_8 : u_lay RX7 TX7 8 ∈ gw_tbl := gw_t (tin_2 (List.mem_of_getElem? (i := 39) (by decide +kernel))) rfl
theorem clw_7 : ∀ w ∈ u_ws RX7 TX7 9, w ∈ gw_tbl := by
  intro w h
  obtain ⟨k, hk, rfl⟩ := List.mem_map.mp h
  have hk := List.mem_range.mp hk
  match k, hk with
  | 0, _ => exact clw_7_0
  | 1, _ => exact clw_7_1
  | 2, _ => exact clw_7_2
  | 3, _ => exact clw_7_3
  | 4, _ => exact clw_7_4
  | 5, _ => exact clw_7_5
  | 6, _ => exact clw_7_6
  | 7, _ => exact clw_7_7
  | 8, _ => exact clw_7_8
  | k + 9, hk => exact absurd hk (by omega)
theorem clw_8_0 : u_lay RX8 TX8 0 ∈ gw_tbl := gw_t (tin_2 (List.mem_of_getElem? (i := 54) (by decide +kernel))) rfl
theorem clw_8_1 : u_lay RX8 TX8 1 ∈ gw_tbl := gw_t (tin_2 (List.mem_of_getElem? (i := 56) (by decide +kernel))) rfl
theorem clw_8_2 : u_lay RX8 TX8 2 ∈ gw_tbl := gw_t (tin_2 (List.mem_of_getElem? (i := 58) (by decide +kernel))) rfl
theorem clw_8_3 : u_lay RX8 TX8 3 ∈ gw_tbl := gw_t (tin_2 (List.mem_of_getElem? (i := 60) (by decide +kernel))) rfl
theorem clw_8_4 : u_lay RX8 TX8 4 ∈ gw_tbl := gw_t (tin_2 (List.mem_of_getElem? (i := 62) (by decide +kernel))) rfl
theorem clw_8 : ∀ w ∈ u_ws RX8 TX8 5, w ∈ gw_tbl := by
  intro w h
  obtain ⟨k, hk, rfl⟩ := List.mem_map.mp h
  have hk := List.mem_range.mp hk
  match k, hk with
  | 0, _ => exact clw_8_0
  | 1, _ => exact clw_8_1
  | 2, _ => exact clw_8_2
  | 3, _ => exact clw_8_3
  | 4, _ => exact clw_8_4
  | k + 5, hk => exact absurd hk (by omega)
theorem clw_9_0 : u_lay RX9 TX9 0 ∈ gw_tbl := gw_t (tin_2 (List.mem_of_getElem? (i := 231) (by decide +kernel))) rfl
theorem clw_9_1 : u_lay RX9 TX9 1 ∈ gw_tbl := gw_t (tin_2 (List.mem_of_getElem? (i := 233) (by decide +kernel))) rfl
theorem clw_9 : ∀ w ∈ u_ws RX9 TX9 2, w ∈ gw_tbl := by
  intro w h
  obtain ⟨k, hk, rfl⟩ := List.mem_map.mp h
  have hk := List.mem_range.mp hk
  match k, hk with
  | 0, _ => exact clw_9_0
  | 1, _ => exact clw_9_1
  | k + 2, hk => exact absurd hk (by omega)
theorem clw_10_0 : u_lay RX10 TX10 0 ∈ gw_tbl := gw_t (tin_2 (List.mem_of_getElem? (i := 202) (by decide +kernel))) rfl
theorem clw_10_1 : u_lay RX10 TX10 1 ∈ gw_tbl := gw_t (tin_2 (List.mem_of_getElem? (i := 204) (by decide +kernel))) rfl
theorem clw_10_2 : u_lay RX10 TX10 2 ∈ gw_tbl := gw_t (tin_2 (List.mem_of_getElem? (i := 206) (by decide +kernel))) rfl
theorem clw_10_3 : u_lay RX10 TX10 3 ∈ gw_tbl := gw_t (tin_2 (List.mem_of_getElem? (i := 208) (by decide +kernel))) rfl
theorem clw_10 : ∀ w ∈ u_ws RX10 TX10 4, w ∈ gw_tbl := by
  intro w h
  obtain ⟨k, hk, rfl⟩ := List.mem_map.mp h
  have hk := List.mem_range.mp hk
  match k, hk with
  | 0, _ => exact clw_10_0
  | 1, _ => exact clw_10_1
  | 2, _ => exact clw_10_2
  | 3, _ => exact clw_10_3
  | k + 4, hk => exact absurd hk (by omega)
theorem clw_11_0 : u_lay RX11 TX11 0 ∈ gw_tbl := gw_t (tin_3 (List.mem_of_getElem? (i := 16) (by decide +kernel))) rfl
theorem clw_11_1 : u_lay RX11 TX11 1 ∈ gw_tbl := gw_t (tin_3 (List.mem_of_getElem? (i := 18) (by decide +kernel))) rfl
theorem clw_11_2 : u_lay RX11 TX11 2 ∈ gw_tbl := gw_t (tin_3 (List.mem_of_getElem? (i := 20) (by decide +kernel))) rfl
theorem clw_11_3 : u_lay RX11 TX11 3 ∈ gw_tbl := gw_t (tin_3 (List.mem_of_getElem? (i := 22) (by decide +kernel))) rfl
theorem clw_11_4 : u_lay RX11 TX11 4 ∈ gw_tbl := gw_t (tin_3 (List.mem_of_getElem? (i := 24) (by decide +kernel))) rfl
theorem clw_11_5 : u_lay RX11 TX11 5 ∈ gw_tbl := gw_t (tin_3 (List.mem_of_getElem? (i := 26) (by decide +kernel))) rfl
theorem clw_11_6 : u_lay RX11 TX11 6 ∈ gw_tbl := gw_t (tin_3 (List.mem_of_getElem? (i := 28) (by decide +kernel))) rfl
theorem clw_11_7 : u_lay RX11 TX11 7 ∈ gw_tbl := gw_t (tin_3 (List.mem_of_getElem? (i := 30) (by decide +kernel))) rfl
theorem clw_11_8 : u_lay RX11 TX11 8 ∈ gw_tbl := gw_t (tin_3 (List.mem_of_getElem? (i := 32) (by decide +kernel))) rfl
theorem clw_11_9 : u_lay RX11 TX11 9 ∈ gw_tbl := gw_t (tin_3 (List.mem_of_getElem? (i := 34) (by decide +kernel))) rfl
theorem clw_11_10 : u_lay RX11 TX11 10 ∈ gw_tbl := gw_t (tin_3 (List.mem_of_getElem? (i := 36) (by decide +kernel))) rfl
theorem clw_11_11 : u_lay RX11 TX11 11 ∈ gw_tbl := gw_t (tin_3 (List.mem_of_getElem? (i := 38) (by decide +kernel))) rfl
theorem clw_11_12 : u_lay RX11 TX11 12 ∈ gw_tbl := gw_t (tin_3 (List.mem_of_getElem? (i := 40) (by decide +kernel))) rfl
theorem clw_11_13 : u_lay RX11 TX11 13 ∈ gw_tbl := gw_t (tin_3 (List.mem_of_getElem? (i := 42) (by decide +kernel))) rfl
theorem clw_11_14 : u_lay RX11 TX11 14 ∈ gw_tbl := gw_t (tin_3 (List.mem_of_getElem? (i := 44) (by decide +kernel))) rfl
theorem clw_11_15 : u_lay RX11 TX11 15 ∈ gw_tbl := gw_t (tin_3 (List.mem_of_getElem? (i := 46) (by decide +kernel))) rfl
theorem clw_11_16 : u_lay RX11 TX11 16 ∈ gw_tbl := gw_t (tin_3 (List.mem_of_getElem? (i := 48) (by decide +kernel))) rfl
theorem clw_11_17 : u_lay RX11 TX11 17 ∈ gw_tbl := gw_t (tin_3 (List.mem_of_getElem? (i := 50) (by decide +kernel))) rfl
theorem clw_11_18 : u_lay RX11 TX11 18 ∈ gw_tbl := gw_t (tin_3 (List.mem_of_getElem? (i := 52) (by decide +kernel))) rfl
theorem clw_11_19 : u_lay RX11 TX11 19 ∈ gw_tbl := gw_t (tin_3 (List.mem_of_getElem? (i := 54) (by decide +kernel))) rfl
theorem clw_11 : ∀ w ∈ u_ws RX11 TX11 20, w ∈ gw_tbl := by
  intro w h
  obtain ⟨k, hk, rfl⟩ := List.mem_map.mp h
  have hk := List.mem_range.mp hk
  match k, hk with
  | 0, _ => exact clw_11_0
  | 1, _ => exact clw_11_1
  | 2, _ => exact clw_11_2
  | 3, _ => exact clw_11_3
  | 4, _ => exact clw_11_4
  | 5, _ => exact clw_11_5
  | 6, _ => exact clw_11_6
  | 7, _ => exact clw_11_7
  | 8, _ => exact clw_11_8
  | 9, _ => exact clw_11_9
  | 10, _ => exact clw_11_10
  | 11, _ => exact clw_11_11
  | 12, _ => exact clw_11_12
  | 13, _ => exact clw_11_13
  | 14, _ => exact clw_11_14
  | 15, _ => exact clw_11_15
  | 16, _ => exact clw_11_16
  | 17, _ => exact clw_11_17
  | 18, _ => exact clw_11_18
  | 19, _ => exact clw_11_19
  | k + 20, hk => exact absurd hk (by omega)
theorem clw_12_0 : u_lay RX12 TX12 0 ∈ gw_tbl := gw_t (tin_6 (List.mem_of_getElem? (i := 136) (by decide +kernel))) rfl
theorem clw_12_1 : u_lay RX12 TX12 1 ∈ gw_tbl := gw_t (tin_6 (List.mem_of_getElem? (i := 138) (by decide +kernel))) rfl
theorem clw_12_2 : u_lay RX12 TX12 2 ∈ gw_tbl := gw_t (tin_6 (List.mem_of_getElem? (i := 140) (by decide +kernel))) rfl
theorem clw_12_3 : u_lay RX12 TX12 3 ∈ gw_tbl := gw_t (tin_6 (List.mem_of_getElem? (i := 142) (by decide +kernel))) rfl
theorem clw_12_4 : u_lay RX12 TX12 4 ∈ gw_tbl := gw_t (tin_6 (List.mem_of_getElem? (i := 144) (by decide +kernel))) rfl
theorem clw_12_5 : u_lay RX12 TX12 5 ∈ gw_tbl := gw_t (tin_6 (List.mem_of_getElem? (i := 146) (by decide +kernel))) rfl
theorem clw_12_6 : u_lay RX12 TX12 6 ∈ gw_tbl := gw_t (tin_6 (List.mem_of_getElem? (i := 148) (by decide +kernel))) rfl
theorem clw_12_7 : u_lay RX12 TX12 7 ∈ gw_tbl := gw_t (tin_6 (List.mem_of_getElem? (i := 150) (by decide +kernel))) rfl
theorem clw_12_8 : u_lay RX12 TX12 8 ∈ gw_tbl := gw_t (tin_6 (List.mem_of_getElem? (i := 152) (by decide +kernel))) rfl
theorem clw_12_9 : u_lay RX12 TX12 9 ∈ gw_tbl := gw_t (tin_6 (List.mem_of_getElem? (i := 154) (by decide +kernel))) rfl
theorem clw_12_10 : u_lay RX12 TX12 10 ∈ gw_tbl := gw_t (tin_6 (List.mem_of_getElem? (i := 156) (by decide +kernel))) rfl
theorem clw_12_11 : u_lay RX12 TX12 11 ∈ gw_tbl := gw_t (tin_6 (List.mem_of_getElem? (i := 158) (by decide +kernel))) rfl
theorem clw_12_12 : u_lay RX12 TX12 12 ∈ gw_tbl := gw_t (tin_6 (List.mem_of_getElem? (i := 160) (by decide +kernel))) rfl
theorem clw_12_13 : u_lay RX12 TX12 13 ∈ gw_tbl := gw_t (tin_6 (List.mem_of_getElem? (i := 162) (by decide +kernel))) rfl
theorem clw_12_14 : u_lay RX12 TX12 14 ∈ gw_tbl := gw_t (tin_6 (List.mem_of_getElem? (i := 164) (by decide +kernel))) rfl
theorem clw_12_15 : u_lay RX12 TX12 15 ∈ gw_tbl := gw_t (tin_6 (List.mem_of_getElem? (i := 166) (by decide +kernel))) rfl
theorem clw_12_16 : u_lay RX12 TX12 16 ∈ gw_tbl := gw_t (tin_6 (List.mem_of_getElem? (i := 168) (by decide +kernel))) rfl
theorem clw_12_17 : u_lay RX12 TX12 17 ∈ gw_tbl := gw_t (tin_6 (List.mem_of_getElem? (i := 170) (by decide +kernel))) rfl
theorem clw_12_18 : u_lay RX12 TX12 18 ∈ gw_tbl := gw_t (tin_6 (List.mem_of_getElem? (i := 172) (by decide +kernel))) rfl
theorem clw_12_19 : u_lay RX12 TX12 19 ∈ gw_tbl := gw_t (tin_6 (List.mem_of_getElem? (i := 174) (by decide +kernel))) rfl
theorem clw_12_20 : u_lay RX12 TX12 20 ∈ gw_tbl := gw_t (tin_6 (List.mem_of_getElem? (i := 176) (by decide +kernel))) rfl
theorem clw_12_21 : u_lay RX12 TX12 21 ∈ gw_tbl := gw_t (tin_6 (List.mem_of_getElem? (i := 178) (by decide +kernel))) rfl
theorem clw_12_22 : u_lay RX12 TX12 22 ∈ gw_tbl := gw_t (tin_6 (List.mem_of_getElem? (i := 180) (by decide +kernel))) rfl
theorem clw_12_23 : u_lay RX12 TX12 23 ∈ gw_tbl := gw_t (tin_6 (List.mem_of_getElem? (i := 182) (by decide +kernel))) rfl
theorem clw_12_24 : u_lay RX12 TX12 24 ∈ gw_tbl := gw_t (tin_6 (List.mem_of_getElem? (i := 184) (by decide +kernel))) rfl
theorem clw_12_25 : u_lay RX12 TX12 25 ∈ gw_tbl := gw_t (tin_6 (List.mem_of_getElem? (i := 186) (by decide +kernel))) rfl
theorem clw_12_26 : u_lay RX12 TX12 26 ∈ gw_tbl := gw_t (tin_6 (List.mem_of_getElem? (i := 188) (by decide +kernel))) rfl
theorem clw_12_27 : u_lay RX12 TX12 27 ∈ gw_tbl := gw_t (tin_6 (List.mem_of_getElem? (i := 190) (by decide +kernel))) rfl
theorem clw_12_28 : u_lay RX12 TX12 28 ∈ gw_tbl := gw_t (tin_6 (List.mem_of_getElem? (i := 192) (by decide +kernel))) rfl
theorem clw_12_29 : u_lay RX12 TX12 29 ∈ gw_tbl := gw_t (tin_6 (List.mem_of_getElem? (i := 194) (by decide +kernel))) rfl
theorem clw_12_30 : u_lay RX12 TX12 30 ∈ gw_tbl := gw_t (tin_6 (List.mem_of_getElem? (i := 196) (by decide +kernel))) rfl
theorem clw_12_31 : u_lay RX12 TX12 31 ∈ gw_tbl := gw_t (tin_6 (List.mem_of_getElem? (i := 198) (by decide +kernel))) rfl
theorem clw_12_32 : u_lay RX12 TX12 32 ∈ gw_tbl := gw_t (tin_6 (List.mem_of_getElem? (i := 200) (by decide +kernel))) rfl
theorem clw_12_33 : u_lay RX12 TX12 33 ∈ gw_tbl := gw_t (tin_6 (List.mem_of_getElem? (i := 202) (by decide +kernel))) rfl
theorem clw_12_34 : u_lay RX12 TX12 34 ∈ gw_tbl := gw_t (tin_6 (List.mem_of_getElem? (i := 204) (by decide +kernel))) rfl
theorem clw_12_35 : u_lay RX12 TX12 35 ∈ gw_tbl := gw_t (tin_6 (List.mem_of_getElem? (i := 206) (by decide +kernel))) rfl
theorem clw_12_36 : u_lay RX12 TX12 36 ∈ gw_tbl := gw_t (tin_6 (List.mem_of_getElem? (i := 208) (by decide +kernel))) rfl
theorem clw_12_37 : u_lay RX12 TX12 37 ∈ gw_tbl := gw_t (tin_6 (List.mem_of_getElem? (i := 210) (by decide +kernel))) rfl
theorem clw_12_38 : u_lay RX12 TX12 38 ∈ gw_tbl := gw_t (tin_6 (List.mem_of_getElem? (i := 212) (by decide +kernel))) rfl
theorem clw_12_39 : u_lay RX12 TX12 39 ∈ gw_tbl := gw_t (tin_6 (List.mem_of_getElem? (i := 214) (by decide +kernel))) rfl
theorem clw_12_40 : u_lay RX12 TX12 40 ∈ gw_tbl := gw_t (tin_6 (List.mem_of_getElem? (i := 216) (by decide +kernel))) rfl
theorem clw_12_41 : u_lay RX12 TX12 41 ∈ gw_tbl := gw_t (tin_6 (List.mem_of_getElem? (i := 218) (by decide +kernel))) rfl
theorem clw_12_42 : u_lay RX12 TX12 42 ∈ gw_tbl := gw_t (tin_6 (List.mem_of_getElem? (i := 220) (by decide +kernel))) rfl
theorem clw_12_43 : u_lay RX12 TX12 43 ∈ gw_tbl := gw_t (tin_6 (List.mem_of_getElem? (i := 222) (by decide +kernel))) rfl
theorem clw_12_44 : u_lay RX12 TX12 44 ∈ gw_tbl := gw_t (tin_6 (List.mem_of_getElem? (i := 224) (by decide +kernel))) rfl
theorem clw_12_45 : u_lay RX12 TX12 45 ∈ gw_tbl := gw_t (tin_6 (List.mem_of_getElem? (i := 226) (by decide +kernel))) rfl
theorem clw_12_46 : u_lay RX12 TX12 46 ∈ gw_tbl := gw_t (tin_6 (List.mem_of_getElem? (i := 228) (by decide +kernel))) rfl
theorem clw_12 : ∀ w ∈ u_ws RX12 TX12 47, w ∈ gw_tbl := by
  intro w h
  obtain ⟨k, hk, rfl⟩ := List.mem_map.mp h
  have hk := List.mem_range.mp hk
  match k, hk with
  | 0, _ => exact clw_12_0
  | 1, _ => exact clw_12_1
  | 2, _ => exact clw_12_2
  | 3, _ => exact clw_12_3
  | 4, _ => exact clw_12_4
  | 5, _ => exact clw_12_5
  | 6, _ => exact clw_12_6
  | 7, _ => exact clw_12_7
  | 8, _ => exact clw_12_8
  | 9, _ => exact clw_12_9
  | 10, _ => exact clw_12_10
  | 11, _ => exact clw_12_11
  | 12, _ => exact clw_12_12
  | 13, _ => exact clw_12_13
  | 14, _ => exact clw_12_14
  | 15, _ => exact clw_12_15
  | 16, _ => exact clw_12_16
  | 17, _ => exact clw_12_17
  | 18, _ => exact clw_12_18
  | 19, _ => exact clw_12_19
  | 20, _ => exact clw_12_20
  | 21, _ => exact clw_12_21
  | 22, _ => exact clw_12_22
  | 23, _ => exact clw_12_23
  | 24, _ => exact clw_12_24
  | 25, _ => exact clw_12_25
  | 26, _ => exact clw_12_26
  | 27, _ => exact clw_12_27
  | 28, _ => exact clw_12_28
  | 29, _ => exact clw_12_29
  | 30, _ => exact clw_12_30
  | 31, _ => exact clw_12_31
  | 32, _ => exact clw_12_32
  | 33, _ => exact clw_12_33
  | 34, _ => exact clw_12_34
  | 35, _ => exact clw_12_35
  | 36, _ => exact clw_12_36
  | 37, _ => exact clw_12_37
  | 38, _ => exact clw_12_38
  | 39, _ => exact clw_12_39
  | 40, _ => exact clw_12_40
  | 41, _ => exact clw_12_41
  | 42, _ => exact clw_12_42
  | 43, _ => exact clw_12_43
  | 44, _ => exact clw_12_44
  | 45, _ => exact clw_12_45
  | 46, _ => exact clw_12_46
  | k + 47, hk => exact absurd hk (by omega)
/-- the objects: kind (class, or 13 int[], 14 long[], 15 boolean[], 16 Island[], 17 Scene[]), length, references, kinds of fields -/
def sKl : List Nat := [11, 6, 13, 14, 5, 13, 13, 14, 14, 13, 13, 7, 13, 13, 13, 13, 8, 13, 13, 13, 3, 3, 7, 13, 13, 13, 13, 4, 5, 13, 13, 14, 14, 13, 13, 7, 13, 13, 13, 13, 3, 8, 13, 13, 13, 0, 13, 13, 13, 8, 13, 13, 13, 2, 17, 7, 13, 13, 13, 13, 7, 13, 13, 13, 13, 7, 13, 13, 13, 13, 7, 13, 13, 13, 13, 7, 13, 13, 13, 13, 7, 13, 13, 13, 13, 7, 13, 13, 13, 13, 7, 13, 13, 13, 13, 16, 15, 10, 13, 13, 15, 1, 9, 13, 3, 5, 13, 13, 14, 14, 13, 13, 7, 13, 13, 13, 13, 8, 13, 13, 13, 3, 5, 13, 13, 14, 14, 13, 13, 7, 13, 13, 13, 13, 8, 13, 13, 13, 12, 13, 13, 13, 13, 13, 13, 14, 14, 14, 15, 13, 13, 13, 14, 13, 13, 13, 13, 14]
def sLl : List Nat := [0, 0, 940, 24, 0, 5, 5, 5, 6, 8, 8, 0, 64, 6, 6, 5, 0, 40, 40, 20, 0, 0, 0, 64, 6, 6, 5, 0, 0, 5, 5, 5, 6, 8, 8, 0, 64, 6, 6, 5, 0, 0, 40, 40, 20, 0, 40, 40, 40, 0, 40, 40, 20, 0, 8, 0, 64, 6, 6, 5, 0, 64, 6, 6, 5, 0, 64, 6, 6, 5, 0, 64, 6, 6, 5, 0, 64, 6, 6, 5, 0, 64, 6, 6, 5, 0, 64, 6, 6, 5, 0, 64, 6, 6, 5, 2, 2, 0, 64, 64, 128, 0, 0, 40, 0, 0, 5, 5, 5, 6, 8, 8, 0, 64, 6, 6, 5, 0, 40, 40, 20, 0, 0, 5, 5, 5, 6, 8, 8, 0, 64, 6, 6, 5, 0, 40, 40, 20, 0, 940, 434, 106, 868, 688, 86, 11, 11, 22, 2, 64, 64, 64, 6, 64, 120, 4, 240, 1]
def sRl : List (List Nat) := [[1, 4, 11, 16, 20, 21, 27, 45, 49, 53, 95, 96, 97, 101, 102, 0, 0, 0, 0, 0], [2, 3, 0, 0, 0, 0, 0, 0, 0, 0, 0], [], [], [0, 0, 0, 0, 0, 5, 6, 7, 8, 9, 10], [], [], [], [], [], [], [12, 13, 14, 15, 0, 0, 0, 0, 0], [], [], [], [], [17, 18, 19, 0, 0], [], [], [], [4, 11, 16], [4, 22, 16], [23, 24, 25, 26, 0, 0, 0, 0, 0], [], [], [], [], [1, 28, 35, 40, 0, 0, 0], [0, 0, 0, 0, 0, 29, 30, 31, 32, 33, 34], [], [], [], [], [], [], [36, 37, 38, 39, 0, 0, 0, 0, 0], [], [], [], [], [28, 35, 41], [42, 43, 44, 0, 0], [], [], [], [1, 46, 47, 48, 0, 0, 0, 0, 0, 0], [], [], [], [50, 51, 52, 0, 0], [], [], [], [54, 0, 0], [55, 60, 65, 70, 75, 80, 85, 90], [56, 57, 58, 59, 0, 0, 0, 0, 0], [], [], [], [], [61, 62, 63, 64, 0, 0, 0, 0, 0], [], [], [], [], [66, 67, 68, 69, 0, 0, 0, 0, 0], [], [], [], [], [71, 72, 73, 74, 0, 0, 0, 0, 0], [], [], [], [], [76, 77, 78, 79, 0, 0, 0, 0, 0], [], [], [], [], [81, 82, 83, 84, 0, 0, 0, 0, 0], [], [], [], [], [86, 87, 88, 89, 0, 0, 0, 0, 0], [], [], [], [], [91, 92, 93, 94, 0, 0, 0, 0, 0], [], [], [], [], [104, 121], [], [20, 98, 99, 100], [], [], [], [0], [103, 0], [], [105, 112, 117], [0, 0, 0, 0, 0, 106, 107, 108, 109, 110, 111], [], [], [], [], [], [], [113, 114, 115, 116, 0, 0, 0, 0, 0], [], [], [], [], [118, 119, 120, 0, 0], [], [], [], [122, 129, 134], [0, 0, 0, 0, 0, 123, 124, 125, 126, 127, 128], [], [], [], [], [], [], [130, 131, 132, 133, 0, 0, 0, 0, 0], [], [], [], [], [135, 136, 137, 0, 0], [], [], [], [0, 139, 0, 0, 0, 0, 0, 0, 0, 0, 0, 0, 0, 0, 140, 141, 142, 143, 144, 145, 146, 147, 148, 0, 0, 0, 0, 149, 150, 151, 152, 0, 0, 0, 0, 153, 0, 0, 154, 155, 0, 0, 156, 0, 0, 0, 0], [], [], [], [], [], [], [], [], [], [], [], [], [], [], [], [], [], [], []]
def sFl : List (List Nat) := [[2, 2, 2, 2, 0, 0, 0, 0, 0, 0], [0], [2, 0, 0], [2, 2, 2], [2, 2, 2, 2, 0, 0, 0], [0, 0, 0, 0, 0, 2, 2, 2, 2, 2, 2], [2, 2, 0, 0, 0, 0, 0, 1, 0, 0, 0], [2, 2, 2, 2, 0, 0, 0, 0, 0], [2, 2, 2, 0, 0], [2, 0], [2, 2, 2, 2], [2, 2, 2, 2, 2, 2, 2, 2, 2, 2, 2, 2, 2, 2, 2, 0, 0, 0, 0, 0], [0, 2, 0, 0, 0, 0, 0, 0, 0, 0, 0, 0, 1, 0, 2, 2, 2, 2, 2, 2, 2, 2, 2, 0, 0, 0, 0, 2, 2, 2, 2, 1, 0, 0, 0, 2, 0, 0, 2, 2, 0, 0, 2, 0, 0, 0, 0]]
def sNl : List Nat := [10, 1, 3, 3, 7, 11, 11, 9, 5, 2, 4, 20, 47]
def sK (q : Nat) : Nat := sKl.getD q 99
def sLen (q : Nat) : Nat := sLl.getD q 0
def sRf (q k : Nat) : Nat := (sRl.getD q []).getD k 0
def sFk (c k : Nat) : Nat := (sFl.getD c []).getD k 0
def sNf (c : Nat) : Nat := sNl.getD c 0
def zk (q c : Nat) : Prop := q < 157 ∧ sK q = c
theorem zt_0_0 {q : Nat} (h : zk q 0) : zk (sRf q 0) 6 := (by decide +kernel : ∀ q, q < 157 → sK q = 0 → (sRf q 0 < 157 ∧ sK (sRf q 0) = 6)) q h.1 h.2
theorem zt_0_1 {q : Nat} (h : zk q 0) : zk (sRf q 1) 13 := (by decide +kernel : ∀ q, q < 157 → sK q = 0 → (sRf q 1 < 157 ∧ sK (sRf q 1) = 13)) q h.1 h.2
theorem zt_0_2 {q : Nat} (h : zk q 0) : zk (sRf q 2) 13 := (by decide +kernel : ∀ q, q < 157 → sK q = 0 → (sRf q 2 < 157 ∧ sK (sRf q 2) = 13)) q h.1 h.2
theorem zt_0_3 {q : Nat} (h : zk q 0) : zk (sRf q 3) 13 := (by decide +kernel : ∀ q, q < 157 → sK q = 0 → (sRf q 3 < 157 ∧ sK (sRf q 3) = 13)) q h.1 h.2
theorem zt_2_0 {q : Nat} (h : zk q 2) : zk (sRf q 0) 17 := (by decide +kernel : ∀ q, q < 157 → sK q = 2 → (sRf q 0 < 157 ∧ sK (sRf q 0) = 17)) q h.1 h.2
theorem zt_3_0 {q : Nat} (h : zk q 3) : zk (sRf q 0) 5 := (by decide +kernel : ∀ q, q < 157 → sK q = 3 → (sRf q 0 < 157 ∧ sK (sRf q 0) = 5)) q h.1 h.2
theorem zt_3_1 {q : Nat} (h : zk q 3) : zk (sRf q 1) 7 := (by decide +kernel : ∀ q, q < 157 → sK q = 3 → (sRf q 1 < 157 ∧ sK (sRf q 1) = 7)) q h.1 h.2
theorem zt_3_2 {q : Nat} (h : zk q 3) : zk (sRf q 2) 8 := (by decide +kernel : ∀ q, q < 157 → sK q = 3 → (sRf q 2 < 157 ∧ sK (sRf q 2) = 8)) q h.1 h.2
theorem zt_4_0 {q : Nat} (h : zk q 4) : zk (sRf q 0) 6 := (by decide +kernel : ∀ q, q < 157 → sK q = 4 → (sRf q 0 < 157 ∧ sK (sRf q 0) = 6)) q h.1 h.2
theorem zt_4_1 {q : Nat} (h : zk q 4) : zk (sRf q 1) 5 := (by decide +kernel : ∀ q, q < 157 → sK q = 4 → (sRf q 1 < 157 ∧ sK (sRf q 1) = 5)) q h.1 h.2
theorem zt_4_2 {q : Nat} (h : zk q 4) : zk (sRf q 2) 7 := (by decide +kernel : ∀ q, q < 157 → sK q = 4 → (sRf q 2 < 157 ∧ sK (sRf q 2) = 7)) q h.1 h.2
theorem zt_4_3 {q : Nat} (h : zk q 4) : zk (sRf q 3) 3 := (by decide +kernel : ∀ q, q < 157 → sK q = 4 → (sRf q 3 < 157 ∧ sK (sRf q 3) = 3)) q h.1 h.2
theorem zt_5_5 {q : Nat} (h : zk q 5) : zk (sRf q 5) 13 := (by decide +kernel : ∀ q, q < 157 → sK q = 5 → (sRf q 5 < 157 ∧ sK (sRf q 5) = 13)) q h.1 h.2
theorem zt_5_6 {q : Nat} (h : zk q 5) : zk (sRf q 6) 13 := (by decide +kernel : ∀ q, q < 157 → sK q = 5 → (sRf q 6 < 157 ∧ sK (sRf q 6) = 13)) q h.1 h.2
theorem zt_5_7 {q : Nat} (h : zk q 5) : zk (sRf q 7) 14 := (by decide +kernel : ∀ q, q < 157 → sK q = 5 → (sRf q 7 < 157 ∧ sK (sRf q 7) = 14)) q h.1 h.2
theorem zt_5_8 {q : Nat} (h : zk q 5) : zk (sRf q 8) 14 := (by decide +kernel : ∀ q, q < 157 → sK q = 5 → (sRf q 8 < 157 ∧ sK (sRf q 8) = 14)) q h.1 h.2
theorem zt_5_9 {q : Nat} (h : zk q 5) : zk (sRf q 9) 13 := (by decide +kernel : ∀ q, q < 157 → sK q = 5 → (sRf q 9 < 157 ∧ sK (sRf q 9) = 13)) q h.1 h.2
theorem zt_5_10 {q : Nat} (h : zk q 5) : zk (sRf q 10) 13 := (by decide +kernel : ∀ q, q < 157 → sK q = 5 → (sRf q 10 < 157 ∧ sK (sRf q 10) = 13)) q h.1 h.2
theorem zt_6_0 {q : Nat} (h : zk q 6) : zk (sRf q 0) 13 := (by decide +kernel : ∀ q, q < 157 → sK q = 6 → (sRf q 0 < 157 ∧ sK (sRf q 0) = 13)) q h.1 h.2
theorem zt_6_1 {q : Nat} (h : zk q 6) : zk (sRf q 1) 14 := (by decide +kernel : ∀ q, q < 157 → sK q = 6 → (sRf q 1 < 157 ∧ sK (sRf q 1) = 14)) q h.1 h.2
theorem zt_7_0 {q : Nat} (h : zk q 7) : zk (sRf q 0) 13 := (by decide +kernel : ∀ q, q < 157 → sK q = 7 → (sRf q 0 < 157 ∧ sK (sRf q 0) = 13)) q h.1 h.2
theorem zt_7_1 {q : Nat} (h : zk q 7) : zk (sRf q 1) 13 := (by decide +kernel : ∀ q, q < 157 → sK q = 7 → (sRf q 1 < 157 ∧ sK (sRf q 1) = 13)) q h.1 h.2
theorem zt_7_2 {q : Nat} (h : zk q 7) : zk (sRf q 2) 13 := (by decide +kernel : ∀ q, q < 157 → sK q = 7 → (sRf q 2 < 157 ∧ sK (sRf q 2) = 13)) q h.1 h.2
theorem zt_7_3 {q : Nat} (h : zk q 7) : zk (sRf q 3) 13 := (by decide +kernel : ∀ q, q < 157 → sK q = 7 → (sRf q 3 < 157 ∧ sK (sRf q 3) = 13)) q h.1 h.2
theorem zt_8_0 {q : Nat} (h : zk q 8) : zk (sRf q 0) 13 := (by decide +kernel : ∀ q, q < 157 → sK q = 8 → (sRf q 0 < 157 ∧ sK (sRf q 0) = 13)) q h.1 h.2
theorem zt_8_1 {q : Nat} (h : zk q 8) : zk (sRf q 1) 13 := (by decide +kernel : ∀ q, q < 157 → sK q = 8 → (sRf q 1 < 157 ∧ sK (sRf q 1) = 13)) q h.1 h.2
theorem zt_8_2 {q : Nat} (h : zk q 8) : zk (sRf q 2) 13 := (by decide +kernel : ∀ q, q < 157 → sK q = 8 → (sRf q 2 < 157 ∧ sK (sRf q 2) = 13)) q h.1 h.2
theorem zt_9_0 {q : Nat} (h : zk q 9) : zk (sRf q 0) 13 := (by decide +kernel : ∀ q, q < 157 → sK q = 9 → (sRf q 0 < 157 ∧ sK (sRf q 0) = 13)) q h.1 h.2
theorem zt_10_0 {q : Nat} (h : zk q 10) : zk (sRf q 0) 3 := (by decide +kernel : ∀ q, q < 157 → sK q = 10 → (sRf q 0 < 157 ∧ sK (sRf q 0) = 3)) q h.1 h.2
theorem zt_10_1 {q : Nat} (h : zk q 10) : zk (sRf q 1) 13 := (by decide +kernel : ∀ q, q < 157 → sK q = 10 → (sRf q 1 < 157 ∧ sK (sRf q 1) = 13)) q h.1 h.2
theorem zt_10_2 {q : Nat} (h : zk q 10) : zk (sRf q 2) 13 := (by decide +kernel : ∀ q, q < 157 → sK q = 10 → (sRf q 2 < 157 ∧ sK (sRf q 2) = 13)) q h.1 h.2
theorem zt_10_3 {q : Nat} (h : zk q 10) : zk (sRf q 3) 15 := (by decide +kernel : ∀ q, q < 157 → sK q = 10 → (sRf q 3 < 157 ∧ sK (sRf q 3) = 15)) q h.1 h.2
theorem zt_11_0 {q : Nat} (h : zk q 11) : zk (sRf q 0) 6 := (by decide +kernel : ∀ q, q < 157 → sK q = 11 → (sRf q 0 < 157 ∧ sK (sRf q 0) = 6)) q h.1 h.2
theorem zt_11_1 {q : Nat} (h : zk q 11) : zk (sRf q 1) 5 := (by decide +kernel : ∀ q, q < 157 → sK q = 11 → (sRf q 1 < 157 ∧ sK (sRf q 1) = 5)) q h.1 h.2
theorem zt_11_2 {q : Nat} (h : zk q 11) : zk (sRf q 2) 7 := (by decide +kernel : ∀ q, q < 157 → sK q = 11 → (sRf q 2 < 157 ∧ sK (sRf q 2) = 7)) q h.1 h.2
theorem zt_11_3 {q : Nat} (h : zk q 11) : zk (sRf q 3) 8 := (by decide +kernel : ∀ q, q < 157 → sK q = 11 → (sRf q 3 < 157 ∧ sK (sRf q 3) = 8)) q h.1 h.2
theorem zt_11_4 {q : Nat} (h : zk q 11) : zk (sRf q 4) 3 := (by decide +kernel : ∀ q, q < 157 → sK q = 11 → (sRf q 4 < 157 ∧ sK (sRf q 4) = 3)) q h.1 h.2
theorem zt_11_5 {q : Nat} (h : zk q 11) : zk (sRf q 5) 3 := (by decide +kernel : ∀ q, q < 157 → sK q = 11 → (sRf q 5 < 157 ∧ sK (sRf q 5) = 3)) q h.1 h.2
theorem zt_11_6 {q : Nat} (h : zk q 11) : zk (sRf q 6) 4 := (by decide +kernel : ∀ q, q < 157 → sK q = 11 → (sRf q 6 < 157 ∧ sK (sRf q 6) = 4)) q h.1 h.2
theorem zt_11_7 {q : Nat} (h : zk q 11) : zk (sRf q 7) 0 := (by decide +kernel : ∀ q, q < 157 → sK q = 11 → (sRf q 7 < 157 ∧ sK (sRf q 7) = 0)) q h.1 h.2
theorem zt_11_8 {q : Nat} (h : zk q 11) : zk (sRf q 8) 8 := (by decide +kernel : ∀ q, q < 157 → sK q = 11 → (sRf q 8 < 157 ∧ sK (sRf q 8) = 8)) q h.1 h.2
theorem zt_11_9 {q : Nat} (h : zk q 11) : zk (sRf q 9) 2 := (by decide +kernel : ∀ q, q < 157 → sK q = 11 → (sRf q 9 < 157 ∧ sK (sRf q 9) = 2)) q h.1 h.2
theorem zt_11_10 {q : Nat} (h : zk q 11) : zk (sRf q 10) 16 := (by decide +kernel : ∀ q, q < 157 → sK q = 11 → (sRf q 10 < 157 ∧ sK (sRf q 10) = 16)) q h.1 h.2
theorem zt_11_11 {q : Nat} (h : zk q 11) : zk (sRf q 11) 15 := (by decide +kernel : ∀ q, q < 157 → sK q = 11 → (sRf q 11 < 157 ∧ sK (sRf q 11) = 15)) q h.1 h.2
theorem zt_11_12 {q : Nat} (h : zk q 11) : zk (sRf q 12) 10 := (by decide +kernel : ∀ q, q < 157 → sK q = 11 → (sRf q 12 < 157 ∧ sK (sRf q 12) = 10)) q h.1 h.2
theorem zt_11_13 {q : Nat} (h : zk q 11) : zk (sRf q 13) 1 := (by decide +kernel : ∀ q, q < 157 → sK q = 11 → (sRf q 13 < 157 ∧ sK (sRf q 13) = 1)) q h.1 h.2
theorem zt_11_14 {q : Nat} (h : zk q 11) : zk (sRf q 14) 9 := (by decide +kernel : ∀ q, q < 157 → sK q = 11 → (sRf q 14 < 157 ∧ sK (sRf q 14) = 9)) q h.1 h.2
theorem zt_12_1 {q : Nat} (h : zk q 12) : zk (sRf q 1) 13 := (by decide +kernel : ∀ q, q < 157 → sK q = 12 → (sRf q 1 < 157 ∧ sK (sRf q 1) = 13)) q h.1 h.2
theorem zt_12_14 {q : Nat} (h : zk q 12) : zk (sRf q 14) 13 := (by decide +kernel : ∀ q, q < 157 → sK q = 12 → (sRf q 14 < 157 ∧ sK (sRf q 14) = 13)) q h.1 h.2
theorem zt_12_15 {q : Nat} (h : zk q 12) : zk (sRf q 15) 13 := (by decide +kernel : ∀ q, q < 157 → sK q = 12 → (sRf q 15 < 157 ∧ sK (sRf q 15) = 13)) q h.1 h.2
theorem zt_12_16 {q : Nat} (h : zk q 12) : zk (sRf q 16) 13 := (by decide +kernel : ∀ q, q < 157 → sK q = 12 → (sRf q 16 < 157 ∧ sK (sRf q 16) = 13)) q h.1 h.2
theorem zt_12_17 {q : Nat} (h : zk q 12) : zk (sRf q 17) 13 := (by decide +kernel : ∀ q, q < 157 → sK q = 12 → (sRf q 17 < 157 ∧ sK (sRf q 17) = 13)) q h.1 h.2
theorem zt_12_18 {q : Nat} (h : zk q 12) : zk (sRf q 18) 13 := (by decide +kernel : ∀ q, q < 157 → sK q = 12 → (sRf q 18 < 157 ∧ sK (sRf q 18) = 13)) q h.1 h.2
theorem zt_12_19 {q : Nat} (h : zk q 12) : zk (sRf q 19) 14 := (by decide +kernel : ∀ q, q < 157 → sK q = 12 → (sRf q 19 < 157 ∧ sK (sRf q 19) = 14)) q h.1 h.2
theorem zt_12_20 {q : Nat} (h : zk q 12) : zk (sRf q 20) 14 := (by decide +kernel : ∀ q, q < 157 → sK q = 12 → (sRf q 20 < 157 ∧ sK (sRf q 20) = 14)) q h.1 h.2
theorem zt_12_21 {q : Nat} (h : zk q 12) : zk (sRf q 21) 14 := (by decide +kernel : ∀ q, q < 157 → sK q = 12 → (sRf q 21 < 157 ∧ sK (sRf q 21) = 14)) q h.1 h.2
theorem zt_12_22 {q : Nat} (h : zk q 12) : zk (sRf q 22) 15 := (by decide +kernel : ∀ q, q < 157 → sK q = 12 → (sRf q 22 < 157 ∧ sK (sRf q 22) = 15)) q h.1 h.2
theorem zt_12_27 {q : Nat} (h : zk q 12) : zk (sRf q 27) 13 := (by decide +kernel : ∀ q, q < 157 → sK q = 12 → (sRf q 27 < 157 ∧ sK (sRf q 27) = 13)) q h.1 h.2
theorem zt_12_28 {q : Nat} (h : zk q 12) : zk (sRf q 28) 13 := (by decide +kernel : ∀ q, q < 157 → sK q = 12 → (sRf q 28 < 157 ∧ sK (sRf q 28) = 13)) q h.1 h.2
theorem zt_12_29 {q : Nat} (h : zk q 12) : zk (sRf q 29) 13 := (by decide +kernel : ∀ q, q < 157 → sK q = 12 → (sRf q 29 < 157 ∧ sK (sRf q 29) = 13)) q h.1 h.2
theorem zt_12_30 {q : Nat} (h : zk q 12) : zk (sRf q 30) 14 := (by decide +kernel : ∀ q, q < 157 → sK q = 12 → (sRf q 30 < 157 ∧ sK (sRf q 30) = 14)) q h.1 h.2
theorem zt_12_35 {q : Nat} (h : zk q 12) : zk (sRf q 35) 13 := (by decide +kernel : ∀ q, q < 157 → sK q = 12 → (sRf q 35 < 157 ∧ sK (sRf q 35) = 13)) q h.1 h.2
theorem zt_12_38 {q : Nat} (h : zk q 12) : zk (sRf q 38) 13 := (by decide +kernel : ∀ q, q < 157 → sK q = 12 → (sRf q 38 < 157 ∧ sK (sRf q 38) = 13)) q h.1 h.2
theorem zt_12_39 {q : Nat} (h : zk q 12) : zk (sRf q 39) 13 := (by decide +kernel : ∀ q, q < 157 → sK q = 12 → (sRf q 39 < 157 ∧ sK (sRf q 39) = 13)) q h.1 h.2
theorem zt_12_42 {q : Nat} (h : zk q 12) : zk (sRf q 42) 13 := (by decide +kernel : ∀ q, q < 157 → sK q = 12 → (sRf q 42 < 157 ∧ sK (sRf q 42) = 13)) q h.1 h.2
theorem zta_16 {q k : Nat} (h : zk q 16) (hk : k < sLen q) : zk (sRf q k) 3 := (by decide +kernel : ∀ q, q < 157 → sK q = 16 → ∀ k, k < sLen q → (sRf q k < 157 ∧ sK (sRf q k) = 3)) q h.1 h.2 k hk
theorem zta_17 {q k : Nat} (h : zk q 17) (hk : k < sLen q) : zk (sRf q k) 7 := (by decide +kernel : ∀ q, q < 157 → sK q = 17 → ∀ k, k < sLen q → (sRf q k < 157 ∧ sK (sRf q k) = 7)) q h.1 h.2 k hk
