def gtbl : List Cond := lw_tbl.filter goodWord
theorem gmem {w : Cond} (h : w ∈ lw_tbl) (hg : goodWord w = true) : w ∈ gtbl := List.mem_filter.mpr ⟨h, hg⟩
def R_CS : String := "ColourSearch"
def R_Net : String := "ColourSearch$Net"
def R_Pai : String := "ColourSearch$Painter"
def R_Pol : String := "ColourSearch$Polynomial"
def R_LC : String := "ColourSearch$ListCounter"
def R_SF : String := "ColourSearch$SetFinder"
def R_TA : String := "ColourSearch$TakingApart"
def R_Gr : String := "ColourSearch$Greedy"
def R_Mo : String := "ColourSearchModel"
def R_La : String := "ColourSearchLaw"
def R_Int : String := "java/lang/Integer"
def R_Arr : String := "java/util/Arrays"
def T_CS : u_T := fun k => match k with
  | 0 => ("ColourSearch", "net", "LColourSearch$Net;", true)
  | 1 => ("ColourSearch", "painter", "LColourSearch$Painter;", true)
  | 2 => ("ColourSearch", "polynomial", "LColourSearch$Polynomial;", true)
  | 3 => ("ColourSearch", "listCounter", "LColourSearch$ListCounter;", true)
  | 4 => ("ColourSearch", "setFinder", "LColourSearch$SetFinder;", true)
  | 5 => ("ColourSearch", "takingApart", "LColourSearch$TakingApart;", true)
  | 6 => ("ColourSearch", "greedyRun", "LColourSearch$Greedy;", true)
  | 7 => ("ColourSearch", "allowed", "[I", true)
  | 8 => ("ColourSearch", "shown", "[I", true)
  | 9 => ("ColourSearch", "shades", "[I", true)
  | _ => ("ColourSearch", "attempt", "[I", true)
def ty_CS : Nat → FieldType := fun k => match k with
  | 0 => .object "ColourSearch$Net"
  | 1 => .object "ColourSearch$Painter"
  | 2 => .object "ColourSearch$Polynomial"
  | 3 => .object "ColourSearch$ListCounter"
  | 4 => .object "ColourSearch$SetFinder"
  | 5 => .object "ColourSearch$TakingApart"
  | 6 => .object "ColourSearch$Greedy"
  | 7 => .array .int
  | 8 => .array .int
  | 9 => .array .int
  | _ => .array .int
theorem nm_CS : ∀ a, a < 11 → ∀ b, b < 11 → a ≠ b → (T_CS a).2.1 ≠ (T_CS b).2.1 := by decide +kernel
theorem tyok_CS : ∀ k, k < 11 → parseFieldDescriptor (T_CS k).2.2.1 = some (ty_CS k) := by decide +kernel
set_option maxRecDepth 20000 in
theorem hin_CS : ∀ w ∈ u_ws R_CS T_CS 11, w ∈ gtbl := fun w h => gmem ((by decide +kernel : ∀ w ∈ u_ws R_CS T_CS 11, w ∈ lw_tbl) w h) ((by decide +kernel : ∀ w ∈ u_ws R_CS T_CS 11, goodWord w = true) w h)
def T_Net : u_T := fun k => match k with
  | 0 => ("ColourSearch$Net", "near", "[I", true)
  | 1 => ("ColourSearch$Net", "tail", "[I", true)
  | 2 => ("ColourSearch$Net", "head", "[I", true)
  | 3 => ("ColourSearch$Net", "nodes", "I", false)
  | 4 => ("ColourSearch$Net", "arcCount", "I", false)
  | _ => ("ColourSearch$Net", "version", "I", false)
def ty_Net : Nat → FieldType := fun k => match k with
  | 0 => .array .int
  | 1 => .array .int
  | 2 => .array .int
  | 3 => .int
  | 4 => .int
  | _ => .int
theorem nm_Net : ∀ a, a < 6 → ∀ b, b < 6 → a ≠ b → (T_Net a).2.1 ≠ (T_Net b).2.1 := by decide +kernel
theorem tyok_Net : ∀ k, k < 6 → parseFieldDescriptor (T_Net k).2.2.1 = some (ty_Net k) := by decide +kernel
set_option maxRecDepth 20000 in
theorem hin_Net : ∀ w ∈ u_ws R_Net T_Net 6, w ∈ gtbl := fun w h => gmem ((by decide +kernel : ∀ w ∈ u_ws R_Net T_Net 6, w ∈ lw_tbl) w h) ((by decide +kernel : ∀ w ∈ u_ws R_Net T_Net 6, goodWord w = true) w h)
def T_Pai : u_T := fun k => match k with
  | 0 => ("ColourSearch$Painter", "paint", "[I", true)
  | 1 => ("ColourSearch$Painter", "near", "[I", true)
  | 2 => ("ColourSearch$Painter", "free", "[[I", true)
  | 3 => ("ColourSearch$Painter", "uses", "[I", true)
  | 4 => ("ColourSearch$Painter", "items", "I", false)
  | 5 => ("ColourSearch$Painter", "evenly", "Z", false)
  | 6 => ("ColourSearch$Painter", "palette", "I", false)
  | 7 => ("ColourSearch$Painter", "share", "I", false)
  | 8 => ("ColourSearch$Painter", "bigger", "I", false)
  | _ => ("ColourSearch$Painter", "bigNow", "I", false)
def ty_Pai : Nat → FieldType := fun k => match k with
  | 0 => .array .int
  | 1 => .array .int
  | 2 => .array (.array .int)
  | 3 => .array .int
  | 4 => .int
  | 5 => .boolean
  | 6 => .int
  | 7 => .int
  | 8 => .int
  | _ => .int
theorem nm_Pai : ∀ a, a < 10 → ∀ b, b < 10 → a ≠ b → (T_Pai a).2.1 ≠ (T_Pai b).2.1 := by decide +kernel
theorem tyok_Pai : ∀ k, k < 10 → parseFieldDescriptor (T_Pai k).2.2.1 = some (ty_Pai k) := by decide +kernel
set_option maxRecDepth 20000 in
theorem hin_Pai : ∀ w ∈ u_ws R_Pai T_Pai 10, w ∈ gtbl := fun w h => gmem ((by decide +kernel : ∀ w ∈ u_ws R_Pai T_Pai 10, w ∈ lw_tbl) w h) ((by decide +kernel : ∀ w ∈ u_ws R_Pai T_Pai 10, goodWord w = true) w h)
def T_Pol : u_T := fun k => match k with
  | 0 => ("ColourSearch$Polynomial", "near", "[[I", true)
  | 1 => ("ColourSearch$Polynomial", "nodes", "[I", true)
  | 2 => ("ColourSearch$Polynomial", "factors", "[J", true)
  | 3 => ("ColourSearch$Polynomial", "powers", "[J", true)
  | 4 => ("ColourSearch$Polynomial", "product", "[J", true)
  | _ => ("ColourSearch$Polynomial", "versionSeen", "I", false)
def ty_Pol : Nat → FieldType := fun k => match k with
  | 0 => .array (.array .int)
  | 1 => .array .int
  | 2 => .array .long
  | 3 => .array .long
  | 4 => .array .long
  | _ => .int
theorem nm_Pol : ∀ a, a < 6 → ∀ b, b < 6 → a ≠ b → (T_Pol a).2.1 ≠ (T_Pol b).2.1 := by decide +kernel
theorem tyok_Pol : ∀ k, k < 6 → parseFieldDescriptor (T_Pol k).2.2.1 = some (ty_Pol k) := by decide +kernel
set_option maxRecDepth 20000 in
theorem hin_Pol : ∀ w ∈ u_ws R_Pol T_Pol 6, w ∈ gtbl := fun w h => gmem ((by decide +kernel : ∀ w ∈ u_ws R_Pol T_Pol 6, w ∈ lw_tbl) w h) ((by decide +kernel : ∀ w ∈ u_ws R_Pol T_Pol 6, goodWord w = true) w h)
def T_LC : u_T := fun k => match k with
  | 0 => ("ColourSearch$ListCounter", "open", "[I", true)
  | 1 => ("ColourSearch$ListCounter", "clash", "[I", false)
  | 2 => ("ColourSearch$ListCounter", "weight", "[I", false)
  | 3 => ("ColourSearch$ListCounter", "common", "[I", false)
  | 4 => ("ColourSearch$ListCounter", "gain", "[I", false)
  | 5 => ("ColourSearch$ListCounter", "sum", "[J", false)
  | 6 => ("ColourSearch$ListCounter", "rest", "I", false)
  | 7 => ("ColourSearch$ListCounter", "versionSeen", "I", false)
  | _ => ("ColourSearch$ListCounter", "restSeen", "I", false)
def ty_LC : Nat → FieldType := fun k => match k with
  | 0 => .array .int
  | 1 => .array .int
  | 2 => .array .int
  | 3 => .array .int
  | 4 => .array .int
  | 5 => .array .long
  | 6 => .int
  | 7 => .int
  | _ => .int
theorem nm_LC : ∀ a, a < 9 → ∀ b, b < 9 → a ≠ b → (T_LC a).2.1 ≠ (T_LC b).2.1 := by decide +kernel
theorem tyok_LC : ∀ k, k < 9 → parseFieldDescriptor (T_LC k).2.2.1 = some (ty_LC k) := by decide +kernel
set_option maxRecDepth 20000 in
theorem hin_LC : ∀ w ∈ u_ws R_LC T_LC 9, w ∈ gtbl := fun w h => gmem ((by decide +kernel : ∀ w ∈ u_ws R_LC T_LC 9, w ∈ lw_tbl) w h) ((by decide +kernel : ∀ w ∈ u_ws R_LC T_LC 9, goodWord w = true) w h)
def T_SF : u_T := fun k => match k with
  | 0 => ("ColourSearch$SetFinder", "fits", "[I", true)
  | _ => ("ColourSearch$SetFinder", "best", "I", false)
def ty_SF : Nat → FieldType := fun k => match k with
  | 0 => .array .int
  | _ => .int
theorem nm_SF : ∀ a, a < 2 → ∀ b, b < 2 → a ≠ b → (T_SF a).2.1 ≠ (T_SF b).2.1 := by decide +kernel
theorem tyok_SF : ∀ k, k < 2 → parseFieldDescriptor (T_SF k).2.2.1 = some (ty_SF k) := by decide +kernel
set_option maxRecDepth 20000 in
theorem hin_SF : ∀ w ∈ u_ws R_SF T_SF 2, w ∈ gtbl := fun w h => gmem ((by decide +kernel : ∀ w ∈ u_ws R_SF T_SF 2, w ∈ lw_tbl) w h) ((by decide +kernel : ∀ w ∈ u_ws R_SF T_SF 2, goodWord w = true) w h)
def T_TA : u_T := fun k => match k with
  | 0 => ("ColourSearch$TakingApart", "sequence", "[I", true)
  | 1 => ("ColourSearch$TakingApart", "count", "I", false)
  | _ => ("ColourSearch$TakingApart", "remains", "I", false)
def ty_TA : Nat → FieldType := fun k => match k with
  | 0 => .array .int
  | 1 => .int
  | _ => .int
theorem nm_TA : ∀ a, a < 3 → ∀ b, b < 3 → a ≠ b → (T_TA a).2.1 ≠ (T_TA b).2.1 := by decide +kernel
theorem tyok_TA : ∀ k, k < 3 → parseFieldDescriptor (T_TA k).2.2.1 = some (ty_TA k) := by decide +kernel
set_option maxRecDepth 20000 in
theorem hin_TA : ∀ w ∈ u_ws R_TA T_TA 3, w ∈ gtbl := fun w h => gmem ((by decide +kernel : ∀ w ∈ u_ws R_TA T_TA 3, w ∈ lw_tbl) w h) ((by decide +kernel : ∀ w ∈ u_ws R_TA T_TA 3, goodWord w = true) w h)
def T_Gr : u_T := fun k => match k with
  | 0 => ("ColourSearch$Greedy", "tints", "[I", true)
  | _ => ("ColourSearch$Greedy", "peeled", "[I", true)
def ty_Gr : Nat → FieldType := fun k => match k with
  | 0 => .array .int
  | _ => .array .int
theorem nm_Gr : ∀ a, a < 2 → ∀ b, b < 2 → a ≠ b → (T_Gr a).2.1 ≠ (T_Gr b).2.1 := by decide +kernel
theorem tyok_Gr : ∀ k, k < 2 → parseFieldDescriptor (T_Gr k).2.2.1 = some (ty_Gr k) := by decide +kernel
set_option maxRecDepth 20000 in
theorem hin_Gr : ∀ w ∈ u_ws R_Gr T_Gr 2, w ∈ gtbl := fun w h => gmem ((by decide +kernel : ∀ w ∈ u_ws R_Gr T_Gr 2, w ∈ lw_tbl) w h) ((by decide +kernel : ∀ w ∈ u_ws R_Gr T_Gr 2, goodWord w = true) w h)
def T_Mo : u_T := fun k => match k with
  | 0 => ("ColourSearchModel", "thrown", "I", false)
  | 1 => ("ColourSearchModel", "nodes", "I", false)
  | 2 => ("ColourSearchModel", "arcs", "I", false)
  | 3 => ("ColourSearchModel", "from", "[I", true)
  | 4 => ("ColourSearchModel", "to", "[I", true)
  | 5 => ("ColourSearchModel", "near", "[I", true)
  | 6 => ("ColourSearchModel", "lists", "[I", true)
  | 7 => ("ColourSearchModel", "colours", "[I", true)
  | 8 => ("ColourSearchModel", "shades", "[I", true)
  | 9 => ("ColourSearchModel", "tints", "[I", true)
  | 10 => ("ColourSearchModel", "attempt", "[I", true)
  | 11 => ("ColourSearchModel", "takenMany", "I", false)
  | 12 => ("ColourSearchModel", "taken", "[I", true)
  | 13 => ("ColourSearchModel", "leftBits", "I", false)
  | 14 => ("ColourSearchModel", "isApart", "[Z", true)
  | 15 => ("ColourSearchModel", "ways", "[J", true)
  | 16 => ("ColourSearchModel", "next", "[J", true)
  | 17 => ("ColourSearchModel", "splits", "[J", true)
  | 18 => ("ColourSearchModel", "powers", "[J", true)
  | 19 => ("ColourSearchModel", "row", "[I", true)
  | 20 => ("ColourSearchModel", "many", "[I", true)
  | 21 => ("ColourSearchModel", "hasPolynomial", "Z", false)
  | 22 => ("ColourSearchModel", "hasLists", "Z", false)
  | 23 => ("ColourSearchModel", "can", "[Z", true)
  | 24 => ("ColourSearchModel", "could", "[Z", true)
  | 25 => ("ColourSearchModel", "arcRow", "[I", true)
  | 26 => ("ColourSearchModel", "order", "[I", true)
  | _ => ("ColourSearchModel", "isOut", "[Z", true)
def ty_Mo : Nat → FieldType := fun k => match k with
  | 0 => .int
  | 1 => .int
  | 2 => .int
  | 3 => .array .int
  | 4 => .array .int
  | 5 => .array .int
  | 6 => .array .int
  | 7 => .array .int
  | 8 => .array .int
  | 9 => .array .int
  | 10 => .array .int
  | 11 => .int
  | 12 => .array .int
  | 13 => .int
  | 14 => .array .boolean
  | 15 => .array .long
  | 16 => .array .long
  | 17 => .array .long
  | 18 => .array .long
  | 19 => .array .int
  | 20 => .array .int
  | 21 => .boolean
  | 22 => .boolean
  | 23 => .array .boolean
  | 24 => .array .boolean
  | 25 => .array .int
  | 26 => .array .int
  | _ => .array .boolean
theorem nm_Mo : ∀ a, a < 28 → ∀ b, b < 28 → a ≠ b → (T_Mo a).2.1 ≠ (T_Mo b).2.1 := by decide +kernel
theorem tyok_Mo : ∀ k, k < 28 → parseFieldDescriptor (T_Mo k).2.2.1 = some (ty_Mo k) := by decide +kernel
set_option maxRecDepth 20000 in
theorem hin_Mo : ∀ w ∈ u_ws R_Mo T_Mo 28, w ∈ gtbl := fun w h => gmem ((by decide +kernel : ∀ w ∈ u_ws R_Mo T_Mo 28, w ∈ lw_tbl) w h) ((by decide +kernel : ∀ w ∈ u_ws R_Mo T_Mo 28, goodWord w = true) w h)
abbrev vwCl : List vw_C := [(R_CS, T_CS, 11), (R_Net, T_Net, 6), (R_Pai, T_Pai, 10), (R_Pol, T_Pol, 6), (R_LC, T_LC, 9), (R_SF, T_SF, 2), (R_TA, T_TA, 3), (R_Gr, T_Gr, 2), (R_Mo, T_Mo, 28)]
def y_CS_init : MethodName := ⟨R_CS, "<init>", "()V"⟩
def y_CS_node : MethodName := ⟨R_CS, "node", "()I"⟩
def y_CS_arc : MethodName := ⟨R_CS, "arc", "(II)I"⟩
def y_CS_drop : MethodName := ⟨R_CS, "drop", "()Z"⟩
def y_CS_least : MethodName := ⟨R_CS, "least", "()I"⟩
def y_CS_even : MethodName := ⟨R_CS, "even", "(I)I"⟩
def y_CS_colour : MethodName := ⟨R_CS, "colour", "(I)I"⟩
def y_CS_ways : MethodName := ⟨R_CS, "ways", "(J)J"⟩
def y_CS_coefficient : MethodName := ⟨R_CS, "coefficient", "(I)J"⟩
def y_CS_list : MethodName := ⟨R_CS, "list", "(II)Z"⟩
def y_CS_lists : MethodName := ⟨R_CS, "lists", "()I"⟩
def y_CS_listed : MethodName := ⟨R_CS, "listed", "()J"⟩
def y_CS_why : MethodName := ⟨R_CS, "why", "()I"⟩
def y_CS_arcs : MethodName := ⟨R_CS, "arcs", "()I"⟩
def y_CS_shade : MethodName := ⟨R_CS, "shade", "(I)I"⟩
def y_CS_clique : MethodName := ⟨R_CS, "clique", "()I"⟩
def y_CS_apart : MethodName := ⟨R_CS, "apart", "()I"⟩
def y_CS_chordal : MethodName := ⟨R_CS, "chordal", "()I"⟩
def y_CS_taken : MethodName := ⟨R_CS, "taken", "(I)I"⟩
def y_CS_left : MethodName := ⟨R_CS, "left", "()I"⟩
def y_CS_greedy : MethodName := ⟨R_CS, "greedy", "(I)I"⟩
def y_CS_tint : MethodName := ⟨R_CS, "tint", "(I)I"⟩
def y_CS_put : MethodName := ⟨R_CS, "put", "(II)Z"⟩
def y_CS_tried : MethodName := ⟨R_CS, "tried", "(I)I"⟩
def y_CS_faults : MethodName := ⟨R_CS, "faults", "()I"⟩
def y_CS_turn : MethodName := ⟨R_CS, "turn", "(II)I"⟩
def y_CS_told : MethodName := ⟨R_CS, "told", "(I)I"⟩
def y_CS_clear : MethodName := ⟨R_CS, "clear", "()V"⟩
def y_CS_isColour : MethodName := ⟨R_CS, "isColour", "(I)Z"⟩
def y_CS_lowestOf : MethodName := ⟨R_CS, "lowestOf", "(I)I"⟩
def y_CS_showPaint : MethodName := ⟨R_CS, "showPaint", "()V"⟩
def y_CS_showWhether : MethodName := ⟨R_CS, "showWhether", "(Z)I"⟩
def y_CS_hasListColouring : MethodName := ⟨R_CS, "hasListColouring", "(I)Z"⟩
def y_CS_triedWith : MethodName := ⟨R_CS, "triedWith", "(I)I"⟩
def y_CS_countTriedColours : MethodName := ⟨R_CS, "countTriedColours", "()I"⟩
def y_Net_init : MethodName := ⟨R_Net, "<init>", "()V"⟩
def y_Net_isNode : MethodName := ⟨R_Net, "isNode", "(I)Z"⟩
def y_Net_everyNode : MethodName := ⟨R_Net, "everyNode", "()I"⟩
def y_Net_addNode : MethodName := ⟨R_Net, "addNode", "()I"⟩
def y_Net_mayJoin : MethodName := ⟨R_Net, "mayJoin", "(II)Z"⟩
def y_Net_join : MethodName := ⟨R_Net, "join", "(II)I"⟩
def y_Net_cutLast : MethodName := ⟨R_Net, "cutLast", "()Z"⟩
def y_Net_removeAll : MethodName := ⟨R_Net, "removeAll", "()V"⟩
def y_Net_mostNear : MethodName := ⟨R_Net, "mostNear", "()I"⟩
def y_Net_allNear : MethodName := ⟨R_Net, "allNear", "(I)Z"⟩
def y_Net_partOf : MethodName := ⟨R_Net, "partOf", "(II)I"⟩
def y_Net_countParts : MethodName := ⟨R_Net, "countParts", "()I"⟩
def y_Pai_init : MethodName := ⟨R_Pai, "<init>", "()V"⟩
def y_Pai_startNodes : MethodName := ⟨R_Pai, "startNodes", "(LColourSearch$Net;I)V"⟩
def y_Pai_startLists : MethodName := ⟨R_Pai, "startLists", "(LColourSearch$Net;[I)V"⟩
def y_Pai_startArcs : MethodName := ⟨R_Pai, "startArcs", "(LColourSearch$Net;I)V"⟩
def y_Pai_start : MethodName := ⟨R_Pai, "start", "(I)V"⟩
def y_Pai_shareEvenly : MethodName := ⟨R_Pai, "shareEvenly", "(I)V"⟩
def y_Pai_paintFirst : MethodName := ⟨R_Pai, "paintFirst", "()Z"⟩
def y_Pai_settle : MethodName := ⟨R_Pai, "settle", "(II)I"⟩
def y_Pai_canPaint : MethodName := ⟨R_Pai, "canPaint", "(I)Z"⟩
def y_Pai_paintable : MethodName := ⟨R_Pai, "paintable", "(II)Z"⟩
def y_Pai_withoutEasy : MethodName := ⟨R_Pai, "withoutEasy", "(II)I"⟩
def y_Pai_tightest : MethodName := ⟨R_Pai, "tightest", "(III)I"⟩
def y_Pai_likeEarlier : MethodName := ⟨R_Pai, "likeEarlier", "(IIII)Z"⟩
def y_Pai_freeAlike : MethodName := ⟨R_Pai, "freeAlike", "(IIII)Z"⟩
def y_Pai_spread : MethodName := ⟨R_Pai, "spread", "(IIII)Z"⟩
def y_Pai_starved : MethodName := ⟨R_Pai, "starved", "(II)Z"⟩
def y_Pai_openColours : MethodName := ⟨R_Pai, "openColours", "()I"⟩
def y_Pai_use : MethodName := ⟨R_Pai, "use", "(I)V"⟩
def y_Pai_unuse : MethodName := ⟨R_Pai, "unuse", "(I)V"⟩
def y_Pol_init : MethodName := ⟨R_Pol, "<init>", "()V"⟩
def y_Pol_valueAt : MethodName := ⟨R_Pol, "valueAt", "(LColourSearch$Net;J)J"⟩
def y_Pol_atPower : MethodName := ⟨R_Pol, "atPower", "(LColourSearch$Net;I)J"⟩
def y_Pol_update : MethodName := ⟨R_Pol, "update", "(LColourSearch$Net;)V"⟩
def y_Pol_takeFactors : MethodName := ⟨R_Pol, "takeFactors", "(I)V"⟩
def y_Pol_farPair : MethodName := ⟨R_Pol, "farPair", "(II)I"⟩
def y_Pol_fewestNear : MethodName := ⟨R_Pol, "fewestNear", "(I)I"⟩
def y_Pol_splitTop : MethodName := ⟨R_Pol, "splitTop", "(II)V"⟩
def y_Pol_addProduct : MethodName := ⟨R_Pol, "addProduct", "(J)V"⟩
def y_LC_init : MethodName := ⟨R_LC, "<init>", "()V"⟩
def y_LC_count : MethodName := ⟨R_LC, "count", "(LColourSearch$Net;[I)J"⟩
def y_LC_makeRoom : MethodName := ⟨R_LC, "makeRoom", "(I)V"⟩
def y_LC_takeSimple : MethodName := ⟨R_LC, "takeSimple", "(LColourSearch$Net;)J"⟩
def y_LC_takeColourFrom : MethodName := ⟨R_LC, "takeColourFrom", "(LColourSearch$Net;II)V"⟩
def y_LC_openTo : MethodName := ⟨R_LC, "openTo", "(LColourSearch$Net;I)I"⟩
def y_LC_weighSetsOf : MethodName := ⟨R_LC, "weighSetsOf", "(LColourSearch$Net;I)V"⟩
def y_LC_clashIn : MethodName := ⟨R_LC, "clashIn", "(LColourSearch$Net;I)I"⟩
def y_LC_hangsTogether : MethodName := ⟨R_LC, "hangsTogether", "(LColourSearch$Net;I)Z"⟩
def y_LC_weigh : MethodName := ⟨R_LC, "weigh", "(I)I"⟩
def y_LC_countPart : MethodName := ⟨R_LC, "countPart", "(I)J"⟩
def y_LC_findGains : MethodName := ⟨R_LC, "findGains", "(I)V"⟩
def y_LC_sumOverBlocks : MethodName := ⟨R_LC, "sumOverBlocks", "(I)J"⟩
def y_SF_init : MethodName := ⟨R_SF, "<init>", "()V"⟩
def y_SF_greatestClique : MethodName := ⟨R_SF, "greatestClique", "(LColourSearch$Net;)I"⟩
def y_SF_greatestApart : MethodName := ⟨R_SF, "greatestApart", "(LColourSearch$Net;)I"⟩
def y_SF_greatest : MethodName := ⟨R_SF, "greatest", "(I)I"⟩
def y_SF_grow : MethodName := ⟨R_SF, "grow", "(III)V"⟩
def y_TA_init : MethodName := ⟨R_TA, "<init>", "()V"⟩
def y_TA_run : MethodName := ⟨R_TA, "run", "(LColourSearch$Net;)V"⟩
def y_TA_forget : MethodName := ⟨R_TA, "forget", "()V"⟩
def y_TA_lowestLoose : MethodName := ⟨R_TA, "lowestLoose", "(LColourSearch$Net;)I"⟩
def y_Gr_init : MethodName := ⟨R_Gr, "<init>", "()V"⟩
def y_Gr_forget : MethodName := ⟨R_Gr, "forget", "()V"⟩
def y_Gr_run : MethodName := ⟨R_Gr, "run", "(LColourSearch$Net;I)I"⟩
def y_Gr_next : MethodName := ⟨R_Gr, "next", "(LColourSearch$Net;II)I"⟩
def y_Gr_nextByRank : MethodName := ⟨R_Gr, "nextByRank", "(LColourSearch$Net;Z)I"⟩
def y_Gr_coloursNear : MethodName := ⟨R_Gr, "coloursNear", "(LColourSearch$Net;I)I"⟩
def y_Gr_peel : MethodName := ⟨R_Gr, "peel", "(LColourSearch$Net;)V"⟩
def y_Mo_init : MethodName := ⟨R_Mo, "<init>", "()V"⟩
def y_Mo_thrown : MethodName := ⟨R_Mo, "thrown", "()I"⟩
def y_Mo_clear : MethodName := ⟨R_Mo, "clear", "()V"⟩
def y_Mo_isNode : MethodName := ⟨R_Mo, "isNode", "(I)Z"⟩
def y_Mo_node : MethodName := ⟨R_Mo, "node", "()I"⟩
def y_Mo_arc : MethodName := ⟨R_Mo, "arc", "(II)I"⟩
def y_Mo_drop : MethodName := ⟨R_Mo, "drop", "()Z"⟩
def y_Mo_count : MethodName := ⟨R_Mo, "count", "(I)I"⟩
def y_Mo_sets : MethodName := ⟨R_Mo, "sets", "()V"⟩
def y_Mo_fits : MethodName := ⟨R_Mo, "fits", "(II)Z"⟩
def y_Mo_isEven : MethodName := ⟨R_Mo, "isEven", "(II)Z"⟩
def y_Mo_search : MethodName := ⟨R_Mo, "search", "(IZ)Z"⟩
def y_Mo_isNewTwice : MethodName := ⟨R_Mo, "isNewTwice", "(II)Z"⟩
def y_Mo_keepColours : MethodName := ⟨R_Mo, "keepColours", "(Z)V"⟩
def y_Mo_least : MethodName := ⟨R_Mo, "least", "()I"⟩
def y_Mo_even : MethodName := ⟨R_Mo, "even", "(I)I"⟩
def y_Mo_colour : MethodName := ⟨R_Mo, "colour", "(I)I"⟩
def y_Mo_changed : MethodName := ⟨R_Mo, "changed", "()V"⟩
def y_Mo_polynomial : MethodName := ⟨R_Mo, "polynomial", "()V"⟩
def y_Mo_ways : MethodName := ⟨R_Mo, "ways", "(J)J"⟩
def y_Mo_coefficient : MethodName := ⟨R_Mo, "coefficient", "(I)J"⟩
def y_Mo_list : MethodName := ⟨R_Mo, "list", "(II)Z"⟩
def y_Mo_lists : MethodName := ⟨R_Mo, "lists", "()I"⟩
def y_Mo_canGoOn : MethodName := ⟨R_Mo, "canGoOn", "(I)Z"⟩
def y_Mo_byLists : MethodName := ⟨R_Mo, "byLists", "()V"⟩
def y_Mo_listed : MethodName := ⟨R_Mo, "listed", "()J"⟩
def y_Mo_why : MethodName := ⟨R_Mo, "why", "()I"⟩
def y_Mo_meet : MethodName := ⟨R_Mo, "meet", "(II)Z"⟩
def y_Mo_searchArcs : MethodName := ⟨R_Mo, "searchArcs", "(I)Z"⟩
def y_Mo_arcs : MethodName := ⟨R_Mo, "arcs", "()I"⟩
def y_Mo_shade : MethodName := ⟨R_Mo, "shade", "(I)I"⟩
def y_Mo_greatest : MethodName := ⟨R_Mo, "greatest", "(Z)I"⟩
def y_Mo_clique : MethodName := ⟨R_Mo, "clique", "()I"⟩
def y_Mo_apart : MethodName := ⟨R_Mo, "apart", "()I"⟩
def y_Mo_chordal : MethodName := ⟨R_Mo, "chordal", "()I"⟩
def y_Mo_taken : MethodName := ⟨R_Mo, "taken", "(I)I"⟩
def y_Mo_left : MethodName := ⟨R_Mo, "left", "()I"⟩
def y_Mo_tintNode : MethodName := ⟨R_Mo, "tintNode", "(I)V"⟩
def y_Mo_different : MethodName := ⟨R_Mo, "different", "(I)I"⟩
def y_Mo_orderByNear : MethodName := ⟨R_Mo, "orderByNear", "()V"⟩
def y_Mo_orderBackwards : MethodName := ⟨R_Mo, "orderBackwards", "()V"⟩
def y_Mo_nextByColours : MethodName := ⟨R_Mo, "nextByColours", "()I"⟩
def y_Mo_greedy : MethodName := ⟨R_Mo, "greedy", "(I)I"⟩
def y_Mo_tint : MethodName := ⟨R_Mo, "tint", "(I)I"⟩
def y_Mo_put : MethodName := ⟨R_Mo, "put", "(II)Z"⟩
def y_Mo_tried : MethodName := ⟨R_Mo, "tried", "(I)I"⟩
def y_Mo_faults : MethodName := ⟨R_Mo, "faults", "()I"⟩
def y_Mo_turn : MethodName := ⟨R_Mo, "turn", "(II)I"⟩
def y_Mo_told : MethodName := ⟨R_Mo, "told", "(I)I"⟩
def y_Mo_parts : MethodName := ⟨R_Mo, "parts", "()I"⟩
def y_Int_bitCount : MethodName := ⟨R_Int, "bitCount", "(I)I"⟩
def y_Arr_fillI : MethodName := ⟨R_Arr, "fill", "([II)V"⟩
def y_Arr_fillL : MethodName := ⟨R_Arr, "fill", "([JJ)V"⟩
def nestw : List Cond := [Cond.methodLinkNest R_CS 11 y_Net_init R_CS, Cond.methodLinkNest R_CS 18 y_Pai_init R_CS, Cond.methodLinkNest R_CS 25 y_Pol_init R_CS, Cond.methodLinkNest R_CS 32 y_LC_init R_CS, Cond.methodLinkNest R_CS 39 y_SF_init R_CS, Cond.methodLinkNest R_CS 46 y_TA_init R_CS, Cond.methodLinkNest R_Pol 89 y_CS_lowestOf R_CS, Cond.methodLinkNest R_LC 110 y_CS_lowestOf R_CS, Cond.methodLinkNest R_Gr 42 y_CS_lowestOf R_CS]
set_option maxRecDepth 20000 in
theorem kp_0 : Cond.selects R_Pai y_Pai_start y_Pai_start ∈ gtbl := gmem (List.mem_append_left _ (List.mem_of_getElem? (i := 0) (by decide +kernel))) rfl
set_option maxRecDepth 20000 in
theorem kp_1 : Cond.selects R_Pai y_Pai_paintable y_Pai_paintable ∈ gtbl := gmem (List.mem_append_left _ (List.mem_of_getElem? (i := 1) (by decide +kernel))) rfl
set_option maxRecDepth 20000 in
theorem kp_2 : Cond.selects R_Pai y_Pai_starved y_Pai_starved ∈ gtbl := gmem (List.mem_append_left _ (List.mem_of_getElem? (i := 2) (by decide +kernel))) rfl
set_option maxRecDepth 20000 in
theorem kp_3 : Cond.selects R_Pai y_Pai_withoutEasy y_Pai_withoutEasy ∈ gtbl := gmem (List.mem_append_left _ (List.mem_of_getElem? (i := 3) (by decide +kernel))) rfl
set_option maxRecDepth 20000 in
theorem kp_4 : Cond.selects R_Pai y_Pai_openColours y_Pai_openColours ∈ gtbl := gmem (List.mem_append_left _ (List.mem_of_getElem? (i := 4) (by decide +kernel))) rfl
set_option maxRecDepth 20000 in
theorem kp_5 : Cond.selects R_Pai y_Pai_tightest y_Pai_tightest ∈ gtbl := gmem (List.mem_append_left _ (List.mem_of_getElem? (i := 5) (by decide +kernel))) rfl
set_option maxRecDepth 20000 in
theorem kp_6 : Cond.selects R_Pai y_Pai_likeEarlier y_Pai_likeEarlier ∈ gtbl := gmem (List.mem_append_left _ (List.mem_of_getElem? (i := 6) (by decide +kernel))) rfl
set_option maxRecDepth 20000 in
theorem kp_7 : Cond.selects R_Pai y_Pai_freeAlike y_Pai_freeAlike ∈ gtbl := gmem (List.mem_append_left _ (List.mem_of_getElem? (i := 7) (by decide +kernel))) rfl
set_option maxRecDepth 20000 in
theorem kp_8 : Cond.selects R_Pai y_Pai_use y_Pai_use ∈ gtbl := gmem (List.mem_append_left _ (List.mem_of_getElem? (i := 8) (by decide +kernel))) rfl
set_option maxRecDepth 20000 in
theorem kp_9 : Cond.selects R_Pai y_Pai_spread y_Pai_spread ∈ gtbl := gmem (List.mem_append_left _ (List.mem_of_getElem? (i := 9) (by decide +kernel))) rfl
set_option maxRecDepth 20000 in
theorem kp_10 : Cond.selects R_Pai y_Pai_unuse y_Pai_unuse ∈ gtbl := gmem (List.mem_append_left _ (List.mem_of_getElem? (i := 10) (by decide +kernel))) rfl
set_option maxRecDepth 20000 in
theorem kp_11 : Cond.selects R_Pai y_Pai_settle y_Pai_settle ∈ gtbl := gmem (List.mem_append_left _ (List.mem_of_getElem? (i := 11) (by decide +kernel))) rfl
set_option maxRecDepth 20000 in
theorem kp_12 : Cond.selects R_CS y_CS_showPaint y_CS_showPaint ∈ gtbl := gmem (List.mem_append_left _ (List.mem_of_getElem? (i := 12) (by decide +kernel))) rfl
set_option maxRecDepth 20000 in
theorem kp_13 : Cond.selects R_CS y_CS_showWhether y_CS_showWhether ∈ gtbl := gmem (List.mem_append_left _ (List.mem_of_getElem? (i := 13) (by decide +kernel))) rfl
set_option maxRecDepth 20000 in
theorem kp_14 : Cond.selects R_Pol y_Pol_update y_Pol_update ∈ gtbl := gmem (List.mem_append_left _ (List.mem_of_getElem? (i := 14) (by decide +kernel))) rfl
set_option maxRecDepth 20000 in
theorem kp_15 : Cond.selects R_Pol y_Pol_takeFactors y_Pol_takeFactors ∈ gtbl := gmem (List.mem_append_left _ (List.mem_of_getElem? (i := 15) (by decide +kernel))) rfl
set_option maxRecDepth 20000 in
theorem kp_16 : Cond.selects R_Pol y_Pol_farPair y_Pol_farPair ∈ gtbl := gmem (List.mem_append_left _ (List.mem_of_getElem? (i := 16) (by decide +kernel))) rfl
set_option maxRecDepth 20000 in
theorem kp_17 : Cond.selects R_Pol y_Pol_fewestNear y_Pol_fewestNear ∈ gtbl := gmem (List.mem_append_left _ (List.mem_of_getElem? (i := 17) (by decide +kernel))) rfl
set_option maxRecDepth 20000 in
theorem kp_18 : Cond.selects R_Pol y_Pol_addProduct y_Pol_addProduct ∈ gtbl := gmem (List.mem_append_left _ (List.mem_of_getElem? (i := 18) (by decide +kernel))) rfl
set_option maxRecDepth 20000 in
theorem kp_19 : Cond.selects R_Pol y_Pol_splitTop y_Pol_splitTop ∈ gtbl := gmem (List.mem_append_left _ (List.mem_of_getElem? (i := 19) (by decide +kernel))) rfl
set_option maxRecDepth 20000 in
theorem kp_20 : Cond.selects R_LC y_LC_takeSimple y_LC_takeSimple ∈ gtbl := gmem (List.mem_append_left _ (List.mem_of_getElem? (i := 20) (by decide +kernel))) rfl
set_option maxRecDepth 20000 in
theorem kp_21 : Cond.selects R_LC y_LC_takeColourFrom y_LC_takeColourFrom ∈ gtbl := gmem (List.mem_append_left _ (List.mem_of_getElem? (i := 21) (by decide +kernel))) rfl
set_option maxRecDepth 20000 in
theorem kp_22 : Cond.selects R_LC y_LC_openTo y_LC_openTo ∈ gtbl := gmem (List.mem_append_left _ (List.mem_of_getElem? (i := 22) (by decide +kernel))) rfl
set_option maxRecDepth 20000 in
theorem kp_23 : Cond.selects R_LC y_LC_makeRoom y_LC_makeRoom ∈ gtbl := gmem (List.mem_append_left _ (List.mem_of_getElem? (i := 23) (by decide +kernel))) rfl
set_option maxRecDepth 20000 in
theorem kp_24 : Cond.selects R_LC y_LC_weighSetsOf y_LC_weighSetsOf ∈ gtbl := gmem (List.mem_append_left _ (List.mem_of_getElem? (i := 24) (by decide +kernel))) rfl
set_option maxRecDepth 20000 in
theorem kp_25 : Cond.selects R_LC y_LC_clashIn y_LC_clashIn ∈ gtbl := gmem (List.mem_append_left _ (List.mem_of_getElem? (i := 25) (by decide +kernel))) rfl
set_option maxRecDepth 20000 in
theorem kp_26 : Cond.selects R_LC y_LC_hangsTogether y_LC_hangsTogether ∈ gtbl := gmem (List.mem_append_left _ (List.mem_of_getElem? (i := 26) (by decide +kernel))) rfl
set_option maxRecDepth 20000 in
theorem kp_27 : Cond.selects R_LC y_LC_weigh y_LC_weigh ∈ gtbl := gmem (List.mem_append_left _ (List.mem_of_getElem? (i := 27) (by decide +kernel))) rfl
set_option maxRecDepth 20000 in
theorem kp_28 : Cond.selects R_LC y_LC_countPart y_LC_countPart ∈ gtbl := gmem (List.mem_append_left _ (List.mem_of_getElem? (i := 28) (by decide +kernel))) rfl
set_option maxRecDepth 20000 in
theorem kp_29 : Cond.selects R_LC y_LC_findGains y_LC_findGains ∈ gtbl := gmem (List.mem_append_left _ (List.mem_of_getElem? (i := 29) (by decide +kernel))) rfl
set_option maxRecDepth 20000 in
theorem kp_30 : Cond.selects R_LC y_LC_sumOverBlocks y_LC_sumOverBlocks ∈ gtbl := gmem (List.mem_append_left _ (List.mem_of_getElem? (i := 30) (by decide +kernel))) rfl
set_option maxRecDepth 20000 in
theorem kp_31 : Cond.selects R_CS y_CS_hasListColouring y_CS_hasListColouring ∈ gtbl := gmem (List.mem_append_left _ (List.mem_of_getElem? (i := 31) (by decide +kernel))) rfl
set_option maxRecDepth 20000 in
theorem kp_32 : Cond.selects R_SF y_SF_greatest y_SF_greatest ∈ gtbl := gmem (List.mem_append_left _ (List.mem_of_getElem? (i := 32) (by decide +kernel))) rfl
set_option maxRecDepth 20000 in
theorem kp_33 : Cond.selects R_SF y_SF_grow y_SF_grow ∈ gtbl := gmem (List.mem_append_left _ (List.mem_of_getElem? (i := 33) (by decide +kernel))) rfl
set_option maxRecDepth 20000 in
theorem kp_34 : Cond.selects R_TA y_TA_lowestLoose y_TA_lowestLoose ∈ gtbl := gmem (List.mem_append_left _ (List.mem_of_getElem? (i := 34) (by decide +kernel))) rfl
set_option maxRecDepth 20000 in
theorem kp_35 : Cond.selects R_Gr y_Gr_peel y_Gr_peel ∈ gtbl := gmem (List.mem_append_left _ (List.mem_of_getElem? (i := 35) (by decide +kernel))) rfl
set_option maxRecDepth 20000 in
theorem kp_36 : Cond.selects R_Gr y_Gr_next y_Gr_next ∈ gtbl := gmem (List.mem_append_left _ (List.mem_of_getElem? (i := 36) (by decide +kernel))) rfl
set_option maxRecDepth 20000 in
theorem kp_37 : Cond.selects R_Gr y_Gr_nextByRank y_Gr_nextByRank ∈ gtbl := gmem (List.mem_append_left _ (List.mem_of_getElem? (i := 37) (by decide +kernel))) rfl
set_option maxRecDepth 20000 in
theorem kp_38 : Cond.selects R_Gr y_Gr_coloursNear y_Gr_coloursNear ∈ gtbl := gmem (List.mem_append_left _ (List.mem_of_getElem? (i := 38) (by decide +kernel))) rfl
set_option maxRecDepth 20000 in
theorem kp_39 : Cond.selects R_CS y_CS_triedWith y_CS_triedWith ∈ gtbl := gmem (List.mem_append_left _ (List.mem_of_getElem? (i := 39) (by decide +kernel))) rfl
set_option maxRecDepth 20000 in
theorem kp_40 : Cond.selects R_CS y_CS_countTriedColours y_CS_countTriedColours ∈ gtbl := gmem (List.mem_append_left _ (List.mem_of_getElem? (i := 40) (by decide +kernel))) rfl
set_option maxRecDepth 20000 in
theorem kp_42 : Cond.selects R_Mo y_Mo_changed y_Mo_changed ∈ gtbl := gmem (List.mem_append_left _ (List.mem_of_getElem? (i := 42) (by decide +kernel))) rfl
set_option maxRecDepth 20000 in
theorem kp_43 : Cond.selects R_Mo y_Mo_isNode y_Mo_isNode ∈ gtbl := gmem (List.mem_append_left _ (List.mem_of_getElem? (i := 43) (by decide +kernel))) rfl
set_option maxRecDepth 20000 in
theorem kp_44 : Cond.selects R_Mo y_Mo_search y_Mo_search ∈ gtbl := gmem (List.mem_append_left _ (List.mem_of_getElem? (i := 44) (by decide +kernel))) rfl
set_option maxRecDepth 20000 in
theorem kp_45 : Cond.selects R_Mo y_Mo_fits y_Mo_fits ∈ gtbl := gmem (List.mem_append_left _ (List.mem_of_getElem? (i := 45) (by decide +kernel))) rfl
set_option maxRecDepth 20000 in
theorem kp_46 : Cond.selects R_Mo y_Mo_isEven y_Mo_isEven ∈ gtbl := gmem (List.mem_append_left _ (List.mem_of_getElem? (i := 46) (by decide +kernel))) rfl
set_option maxRecDepth 20000 in
theorem kp_47 : Cond.selects R_Mo y_Mo_isNewTwice y_Mo_isNewTwice ∈ gtbl := gmem (List.mem_append_left _ (List.mem_of_getElem? (i := 47) (by decide +kernel))) rfl
set_option maxRecDepth 20000 in
theorem kp_48 : Cond.selects R_Mo y_Mo_keepColours y_Mo_keepColours ∈ gtbl := gmem (List.mem_append_left _ (List.mem_of_getElem? (i := 48) (by decide +kernel))) rfl
set_option maxRecDepth 20000 in
theorem kp_49 : Cond.selects R_Mo y_Mo_polynomial y_Mo_polynomial ∈ gtbl := gmem (List.mem_append_left _ (List.mem_of_getElem? (i := 49) (by decide +kernel))) rfl
set_option maxRecDepth 20000 in
theorem kp_50 : Cond.selects R_Mo y_Mo_sets y_Mo_sets ∈ gtbl := gmem (List.mem_append_left _ (List.mem_of_getElem? (i := 50) (by decide +kernel))) rfl
set_option maxRecDepth 20000 in
theorem kp_51 : Cond.selects R_Mo y_Mo_canGoOn y_Mo_canGoOn ∈ gtbl := gmem (List.mem_append_left _ (List.mem_of_getElem? (i := 51) (by decide +kernel))) rfl
set_option maxRecDepth 20000 in
theorem kp_52 : Cond.selects R_Mo y_Mo_byLists y_Mo_byLists ∈ gtbl := gmem (List.mem_append_left _ (List.mem_of_getElem? (i := 52) (by decide +kernel))) rfl
set_option maxRecDepth 20000 in
theorem kp_53 : Cond.selects R_Mo y_Mo_searchArcs y_Mo_searchArcs ∈ gtbl := gmem (List.mem_append_left _ (List.mem_of_getElem? (i := 53) (by decide +kernel))) rfl
set_option maxRecDepth 20000 in
theorem kp_54 : Cond.selects R_Mo y_Mo_meet y_Mo_meet ∈ gtbl := gmem (List.mem_append_left _ (List.mem_of_getElem? (i := 54) (by decide +kernel))) rfl
set_option maxRecDepth 20000 in
theorem kp_55 : Cond.selects R_Mo y_Mo_greatest y_Mo_greatest ∈ gtbl := gmem (List.mem_append_left _ (List.mem_of_getElem? (i := 55) (by decide +kernel))) rfl
set_option maxRecDepth 20000 in
theorem kp_56 : Cond.selects R_Mo y_Mo_orderByNear y_Mo_orderByNear ∈ gtbl := gmem (List.mem_append_left _ (List.mem_of_getElem? (i := 56) (by decide +kernel))) rfl
set_option maxRecDepth 20000 in
theorem kp_57 : Cond.selects R_Mo y_Mo_orderBackwards y_Mo_orderBackwards ∈ gtbl := gmem (List.mem_append_left _ (List.mem_of_getElem? (i := 57) (by decide +kernel))) rfl
set_option maxRecDepth 20000 in
theorem kp_58 : Cond.selects R_Mo y_Mo_nextByColours y_Mo_nextByColours ∈ gtbl := gmem (List.mem_append_left _ (List.mem_of_getElem? (i := 58) (by decide +kernel))) rfl
set_option maxRecDepth 20000 in
theorem kp_59 : Cond.selects R_Mo y_Mo_different y_Mo_different ∈ gtbl := gmem (List.mem_append_left _ (List.mem_of_getElem? (i := 59) (by decide +kernel))) rfl
set_option maxRecDepth 20000 in
theorem kp_60 : Cond.selects R_Mo y_Mo_tintNode y_Mo_tintNode ∈ gtbl := gmem (List.mem_append_left _ (List.mem_of_getElem? (i := 60) (by decide +kernel))) rfl
set_option maxRecDepth 20000 in
theorem kp_61 : Cond.selects R_Mo y_Mo_parts y_Mo_parts ∈ gtbl := gmem (List.mem_append_left _ (List.mem_of_getElem? (i := 61) (by decide +kernel))) rfl
set_option maxRecDepth 20000 in
theorem kt_1 : Cond.initialized R_CS ∈ gtbl := gmem (List.mem_append_right _ (List.mem_of_getElem? (i := 1) (by decide +kernel))) rfl
set_option maxRecDepth 20000 in
theorem kt_2 : Cond.initialized R_Net ∈ gtbl := gmem (List.mem_append_right _ (List.mem_of_getElem? (i := 2) (by decide +kernel))) rfl
set_option maxRecDepth 20000 in
theorem kt_3 : Cond.initialized R_Pai ∈ gtbl := gmem (List.mem_append_right _ (List.mem_of_getElem? (i := 3) (by decide +kernel))) rfl
set_option maxRecDepth 20000 in
theorem kt_4 : Cond.initialized R_Pol ∈ gtbl := gmem (List.mem_append_right _ (List.mem_of_getElem? (i := 4) (by decide +kernel))) rfl
set_option maxRecDepth 20000 in
theorem kt_5 : Cond.initialized R_LC ∈ gtbl := gmem (List.mem_append_right _ (List.mem_of_getElem? (i := 5) (by decide +kernel))) rfl
set_option maxRecDepth 20000 in
theorem kt_6 : Cond.initialized R_SF ∈ gtbl := gmem (List.mem_append_right _ (List.mem_of_getElem? (i := 6) (by decide +kernel))) rfl
set_option maxRecDepth 20000 in
theorem kt_7 : Cond.initialized R_TA ∈ gtbl := gmem (List.mem_append_right _ (List.mem_of_getElem? (i := 7) (by decide +kernel))) rfl
set_option maxRecDepth 20000 in
theorem kt_8 : Cond.initialized R_Gr ∈ gtbl := gmem (List.mem_append_right _ (List.mem_of_getElem? (i := 8) (by decide +kernel))) rfl
set_option maxRecDepth 20000 in
theorem kt_9 : Cond.initialized R_Arr ∈ gtbl := gmem (List.mem_append_right _ (List.mem_of_getElem? (i := 9) (by decide +kernel))) rfl
set_option maxRecDepth 20000 in
theorem kt_10 : Cond.initialized R_Mo ∈ gtbl := gmem (List.mem_append_right _ (List.mem_of_getElem? (i := 10) (by decide +kernel))) rfl
set_option maxRecDepth 20000 in
theorem kt_12 : Cond.initialized R_Int ∈ gtbl := gmem (List.mem_append_right _ (List.mem_of_getElem? (i := 12) (by decide +kernel))) rfl
set_option maxRecDepth 20000 in
theorem kt_23 : Cond.methodLink R_CS 3 objectInit ∈ gtbl := gmem (List.mem_append_right _ (List.mem_of_getElem? (i := 23) (by decide +kernel))) rfl
set_option maxRecDepth 20000 in
theorem kt_24 : Cond.instanceMethod objectInit ∈ gtbl := gmem (List.mem_append_right _ (List.mem_of_getElem? (i := 24) (by decide +kernel))) rfl
set_option maxRecDepth 20000 in
theorem kt_26 : Cond.classLink R_CS 9 R_Net ∈ gtbl := gmem (List.mem_append_right _ (List.mem_of_getElem? (i := 26) (by decide +kernel))) rfl
set_option maxRecDepth 20000 in
theorem kt_27 : Cond.instantiable R_Net 6 ∈ gtbl := gmem (List.mem_append_right _ (List.mem_of_getElem? (i := 27) (by decide +kernel))) rfl
set_option maxRecDepth 20000 in
theorem kt_28 : Cond.methodLinkNest R_CS 11 y_Net_init R_CS ∈ nestw := List.mem_of_getElem? (i := 0) rfl
set_option maxRecDepth 20000 in
theorem kt_29 : Cond.instanceMethod y_Net_init ∈ gtbl := gmem (List.mem_append_right _ (List.mem_of_getElem? (i := 29) (by decide +kernel))) rfl
set_option maxRecDepth 20000 in
theorem kt_30 : Cond.code y_Net_init prog_4_method_1_code 1 none ∈ gtbl := gmem (List.mem_append_right _ (List.mem_of_getElem? (i := 30) (by decide +kernel))) rfl
set_option maxRecDepth 20000 in
theorem kt_31 : Cond.methodLink R_Net 3 objectInit ∈ gtbl := gmem (List.mem_append_right _ (List.mem_of_getElem? (i := 31) (by decide +kernel))) rfl
set_option maxRecDepth 20000 in
theorem kt_32 : Cond.fieldLink R_Net 9 "ColourSearch$Net" "near" "[I" ∈ gtbl := gmem (List.mem_append_right _ (List.mem_of_getElem? (i := 32) (by decide +kernel))) rfl
set_option maxRecDepth 20000 in
theorem kt_33 : Cond.fieldLink R_SF 15 "ColourSearch$Net" "near" "[I" ∈ gtbl := gmem (List.mem_append_right _ (List.mem_of_getElem? (i := 33) (by decide +kernel))) rfl
set_option maxRecDepth 20000 in
theorem kt_34 : Cond.fieldLink R_Pai 36 "ColourSearch$Net" "near" "[I" ∈ gtbl := gmem (List.mem_append_right _ (List.mem_of_getElem? (i := 34) (by decide +kernel))) rfl
set_option maxRecDepth 20000 in
theorem kt_35 : Cond.fieldLink R_TA 35 "ColourSearch$Net" "near" "[I" ∈ gtbl := gmem (List.mem_append_right _ (List.mem_of_getElem? (i := 35) (by decide +kernel))) rfl
set_option maxRecDepth 20000 in
theorem kt_36 : Cond.fieldLink R_Pol 51 "ColourSearch$Net" "near" "[I" ∈ gtbl := gmem (List.mem_append_right _ (List.mem_of_getElem? (i := 36) (by decide +kernel))) rfl
set_option maxRecDepth 20000 in
theorem kt_37 : Cond.fieldLink R_LC 79 "ColourSearch$Net" "near" "[I" ∈ gtbl := gmem (List.mem_append_right _ (List.mem_of_getElem? (i := 37) (by decide +kernel))) rfl
set_option maxRecDepth 20000 in
theorem kt_38 : Cond.fieldLink R_Gr 55 "ColourSearch$Net" "near" "[I" ∈ gtbl := gmem (List.mem_append_right _ (List.mem_of_getElem? (i := 38) (by decide +kernel))) rfl
set_option maxRecDepth 20000 in
theorem kt_39 : Cond.fieldLink R_Net 15 "ColourSearch$Net" "tail" "[I" ∈ gtbl := gmem (List.mem_append_right _ (List.mem_of_getElem? (i := 39) (by decide +kernel))) rfl
set_option maxRecDepth 20000 in
theorem kt_40 : Cond.fieldLink R_Pai 61 "ColourSearch$Net" "tail" "[I" ∈ gtbl := gmem (List.mem_append_right _ (List.mem_of_getElem? (i := 40) (by decide +kernel))) rfl
set_option maxRecDepth 20000 in
theorem kt_41 : Cond.fieldLink R_CS 194 "ColourSearch$Net" "tail" "[I" ∈ gtbl := gmem (List.mem_append_right _ (List.mem_of_getElem? (i := 41) (by decide +kernel))) rfl
set_option maxRecDepth 20000 in
theorem kt_42 : Cond.fieldLink R_Net 18 "ColourSearch$Net" "head" "[I" ∈ gtbl := gmem (List.mem_append_right _ (List.mem_of_getElem? (i := 42) (by decide +kernel))) rfl
set_option maxRecDepth 20000 in
theorem kt_43 : Cond.fieldLink R_Pai 64 "ColourSearch$Net" "head" "[I" ∈ gtbl := gmem (List.mem_append_right _ (List.mem_of_getElem? (i := 43) (by decide +kernel))) rfl
set_option maxRecDepth 20000 in
theorem kt_44 : Cond.fieldLink R_CS 197 "ColourSearch$Net" "head" "[I" ∈ gtbl := gmem (List.mem_append_right _ (List.mem_of_getElem? (i := 44) (by decide +kernel))) rfl
set_option maxRecDepth 20000 in
theorem kt_45 : Cond.fieldLink R_Pai 26 "ColourSearch$Net" "nodes" "I" ∈ gtbl := gmem (List.mem_append_right _ (List.mem_of_getElem? (i := 45) (by decide +kernel))) rfl
set_option maxRecDepth 20000 in
theorem kt_46 : Cond.fieldLink R_CS 77 "ColourSearch$Net" "nodes" "I" ∈ gtbl := gmem (List.mem_append_right _ (List.mem_of_getElem? (i := 46) (by decide +kernel))) rfl
set_option maxRecDepth 20000 in
theorem kt_47 : Cond.fieldLink R_Net 21 "ColourSearch$Net" "nodes" "I" ∈ gtbl := gmem (List.mem_append_right _ (List.mem_of_getElem? (i := 47) (by decide +kernel))) rfl
set_option maxRecDepth 20000 in
theorem kt_48 : Cond.fieldLink R_LC 35 "ColourSearch$Net" "nodes" "I" ∈ gtbl := gmem (List.mem_append_right _ (List.mem_of_getElem? (i := 48) (by decide +kernel))) rfl
set_option maxRecDepth 20000 in
theorem kt_49 : Cond.fieldLink R_Pol 38 "ColourSearch$Net" "nodes" "I" ∈ gtbl := gmem (List.mem_append_right _ (List.mem_of_getElem? (i := 49) (by decide +kernel))) rfl
set_option maxRecDepth 20000 in
theorem kt_50 : Cond.fieldLink R_SF 20 "ColourSearch$Net" "nodes" "I" ∈ gtbl := gmem (List.mem_append_right _ (List.mem_of_getElem? (i := 50) (by decide +kernel))) rfl
set_option maxRecDepth 20000 in
theorem kt_51 : Cond.fieldLink R_TA 28 "ColourSearch$Net" "nodes" "I" ∈ gtbl := gmem (List.mem_append_right _ (List.mem_of_getElem? (i := 51) (by decide +kernel))) rfl
set_option maxRecDepth 20000 in
theorem kt_52 : Cond.fieldLink R_Gr 28 "ColourSearch$Net" "nodes" "I" ∈ gtbl := gmem (List.mem_append_right _ (List.mem_of_getElem? (i := 52) (by decide +kernel))) rfl
set_option maxRecDepth 20000 in
theorem kt_53 : Cond.fieldLink R_CS 89 "ColourSearch$Net" "arcCount" "I" ∈ gtbl := gmem (List.mem_append_right _ (List.mem_of_getElem? (i := 53) (by decide +kernel))) rfl
set_option maxRecDepth 20000 in
theorem kt_54 : Cond.fieldLink R_Pai 49 "ColourSearch$Net" "arcCount" "I" ∈ gtbl := gmem (List.mem_append_right _ (List.mem_of_getElem? (i := 54) (by decide +kernel))) rfl
set_option maxRecDepth 20000 in
theorem kt_55 : Cond.fieldLink R_Net 32 "ColourSearch$Net" "arcCount" "I" ∈ gtbl := gmem (List.mem_append_right _ (List.mem_of_getElem? (i := 55) (by decide +kernel))) rfl
set_option maxRecDepth 20000 in
theorem kt_56 : Cond.fieldLink R_LC 61 "ColourSearch$Net" "version" "I" ∈ gtbl := gmem (List.mem_append_right _ (List.mem_of_getElem? (i := 56) (by decide +kernel))) rfl
set_option maxRecDepth 20000 in
theorem kt_57 : Cond.fieldLink R_Net 25 "ColourSearch$Net" "version" "I" ∈ gtbl := gmem (List.mem_append_right _ (List.mem_of_getElem? (i := 57) (by decide +kernel))) rfl
set_option maxRecDepth 20000 in
theorem kt_58 : Cond.fieldLink R_Pol 42 "ColourSearch$Net" "version" "I" ∈ gtbl := gmem (List.mem_append_right _ (List.mem_of_getElem? (i := 58) (by decide +kernel))) rfl
set_option maxRecDepth 20000 in
theorem kt_73 : Cond.classLink R_CS 16 R_Pai ∈ gtbl := gmem (List.mem_append_right _ (List.mem_of_getElem? (i := 73) (by decide +kernel))) rfl
set_option maxRecDepth 20000 in
theorem kt_74 : Cond.instantiable R_Pai 10 ∈ gtbl := gmem (List.mem_append_right _ (List.mem_of_getElem? (i := 74) (by decide +kernel))) rfl
set_option maxRecDepth 20000 in
theorem kt_75 : Cond.methodLinkNest R_CS 18 y_Pai_init R_CS ∈ nestw := List.mem_of_getElem? (i := 1) rfl
set_option maxRecDepth 20000 in
theorem kt_76 : Cond.instanceMethod y_Pai_init ∈ gtbl := gmem (List.mem_append_right _ (List.mem_of_getElem? (i := 76) (by decide +kernel))) rfl
set_option maxRecDepth 20000 in
theorem kt_77 : Cond.code y_Pai_init prog_5_method_1_code 1 none ∈ gtbl := gmem (List.mem_append_right _ (List.mem_of_getElem? (i := 77) (by decide +kernel))) rfl
set_option maxRecDepth 20000 in
theorem kt_78 : Cond.methodLink R_Pai 3 objectInit ∈ gtbl := gmem (List.mem_append_right _ (List.mem_of_getElem? (i := 78) (by decide +kernel))) rfl
set_option maxRecDepth 20000 in
theorem kt_79 : Cond.classLink R_Pai 18 "[[I" ∈ gtbl := gmem (List.mem_append_right _ (List.mem_of_getElem? (i := 79) (by decide +kernel))) rfl
set_option maxRecDepth 20000 in
theorem kt_81 : Cond.fieldLink R_Pai 11 "ColourSearch$Painter" "paint" "[I" ∈ gtbl := gmem (List.mem_append_right _ (List.mem_of_getElem? (i := 81) (by decide +kernel))) rfl
set_option maxRecDepth 20000 in
theorem kt_82 : Cond.fieldLink R_CS 157 "ColourSearch$Painter" "paint" "[I" ∈ gtbl := gmem (List.mem_append_right _ (List.mem_of_getElem? (i := 82) (by decide +kernel))) rfl
set_option maxRecDepth 20000 in
theorem kt_83 : Cond.fieldLink R_Pai 15 "ColourSearch$Painter" "near" "[I" ∈ gtbl := gmem (List.mem_append_right _ (List.mem_of_getElem? (i := 83) (by decide +kernel))) rfl
set_option maxRecDepth 20000 in
theorem kt_84 : Cond.fieldLink R_Pai 20 "ColourSearch$Painter" "free" "[[I" ∈ gtbl := gmem (List.mem_append_right _ (List.mem_of_getElem? (i := 84) (by decide +kernel))) rfl
set_option maxRecDepth 20000 in
theorem kt_85 : Cond.fieldLink R_Pai 23 "ColourSearch$Painter" "uses" "[I" ∈ gtbl := gmem (List.mem_append_right _ (List.mem_of_getElem? (i := 85) (by decide +kernel))) rfl
set_option maxRecDepth 20000 in
theorem kt_86 : Cond.fieldLink R_Pai 58 "ColourSearch$Painter" "items" "I" ∈ gtbl := gmem (List.mem_append_right _ (List.mem_of_getElem? (i := 86) (by decide +kernel))) rfl
set_option maxRecDepth 20000 in
theorem kt_87 : Cond.fieldLink R_Pai 67 "ColourSearch$Painter" "evenly" "Z" ∈ gtbl := gmem (List.mem_append_right _ (List.mem_of_getElem? (i := 87) (by decide +kernel))) rfl
set_option maxRecDepth 20000 in
theorem kt_88 : Cond.fieldLink R_Pai 71 "ColourSearch$Painter" "palette" "I" ∈ gtbl := gmem (List.mem_append_right _ (List.mem_of_getElem? (i := 88) (by decide +kernel))) rfl
set_option maxRecDepth 20000 in
theorem kt_89 : Cond.fieldLink R_Pai 74 "ColourSearch$Painter" "share" "I" ∈ gtbl := gmem (List.mem_append_right _ (List.mem_of_getElem? (i := 89) (by decide +kernel))) rfl
set_option maxRecDepth 20000 in
theorem kt_90 : Cond.fieldLink R_Pai 77 "ColourSearch$Painter" "bigger" "I" ∈ gtbl := gmem (List.mem_append_right _ (List.mem_of_getElem? (i := 90) (by decide +kernel))) rfl
set_option maxRecDepth 20000 in
theorem kt_91 : Cond.fieldLink R_Pai 80 "ColourSearch$Painter" "bigNow" "I" ∈ gtbl := gmem (List.mem_append_right _ (List.mem_of_getElem? (i := 91) (by decide +kernel))) rfl
set_option maxRecDepth 20000 in
theorem kt_113 : Cond.classLink R_CS 23 R_Pol ∈ gtbl := gmem (List.mem_append_right _ (List.mem_of_getElem? (i := 113) (by decide +kernel))) rfl
set_option maxRecDepth 20000 in
theorem kt_114 : Cond.instantiable R_Pol 6 ∈ gtbl := gmem (List.mem_append_right _ (List.mem_of_getElem? (i := 114) (by decide +kernel))) rfl
set_option maxRecDepth 20000 in
theorem kt_115 : Cond.methodLinkNest R_CS 25 y_Pol_init R_CS ∈ nestw := List.mem_of_getElem? (i := 2) rfl
set_option maxRecDepth 20000 in
theorem kt_116 : Cond.instanceMethod y_Pol_init ∈ gtbl := gmem (List.mem_append_right _ (List.mem_of_getElem? (i := 116) (by decide +kernel))) rfl
set_option maxRecDepth 20000 in
theorem kt_117 : Cond.code y_Pol_init prog_6_method_1_code 1 none ∈ gtbl := gmem (List.mem_append_right _ (List.mem_of_getElem? (i := 117) (by decide +kernel))) rfl
set_option maxRecDepth 20000 in
theorem kt_118 : Cond.methodLink R_Pol 3 objectInit ∈ gtbl := gmem (List.mem_append_right _ (List.mem_of_getElem? (i := 118) (by decide +kernel))) rfl
set_option maxRecDepth 20000 in
theorem kt_119 : Cond.classLink R_Pol 11 "[[I" ∈ gtbl := gmem (List.mem_append_right _ (List.mem_of_getElem? (i := 119) (by decide +kernel))) rfl
set_option maxRecDepth 20000 in
theorem kt_120 : Cond.fieldLink R_Pol 13 "ColourSearch$Polynomial" "near" "[[I" ∈ gtbl := gmem (List.mem_append_right _ (List.mem_of_getElem? (i := 120) (by decide +kernel))) rfl
set_option maxRecDepth 20000 in
theorem kt_121 : Cond.fieldLink R_Pol 16 "ColourSearch$Polynomial" "nodes" "[I" ∈ gtbl := gmem (List.mem_append_right _ (List.mem_of_getElem? (i := 121) (by decide +kernel))) rfl
set_option maxRecDepth 20000 in
theorem kt_122 : Cond.fieldLink R_Pol 20 "ColourSearch$Polynomial" "factors" "[J" ∈ gtbl := gmem (List.mem_append_right _ (List.mem_of_getElem? (i := 122) (by decide +kernel))) rfl
set_option maxRecDepth 20000 in
theorem kt_123 : Cond.fieldLink R_Pol 24 "ColourSearch$Polynomial" "powers" "[J" ∈ gtbl := gmem (List.mem_append_right _ (List.mem_of_getElem? (i := 123) (by decide +kernel))) rfl
set_option maxRecDepth 20000 in
theorem kt_124 : Cond.fieldLink R_Pol 27 "ColourSearch$Polynomial" "product" "[J" ∈ gtbl := gmem (List.mem_append_right _ (List.mem_of_getElem? (i := 124) (by decide +kernel))) rfl
set_option maxRecDepth 20000 in
theorem kt_125 : Cond.fieldLink R_Pol 30 "ColourSearch$Polynomial" "versionSeen" "I" ∈ gtbl := gmem (List.mem_append_right _ (List.mem_of_getElem? (i := 125) (by decide +kernel))) rfl
set_option maxRecDepth 20000 in
theorem kt_140 : Cond.classLink R_CS 30 R_LC ∈ gtbl := gmem (List.mem_append_right _ (List.mem_of_getElem? (i := 140) (by decide +kernel))) rfl
set_option maxRecDepth 20000 in
theorem kt_141 : Cond.instantiable R_LC 9 ∈ gtbl := gmem (List.mem_append_right _ (List.mem_of_getElem? (i := 141) (by decide +kernel))) rfl
set_option maxRecDepth 20000 in
theorem kt_142 : Cond.methodLinkNest R_CS 32 y_LC_init R_CS ∈ nestw := List.mem_of_getElem? (i := 3) rfl
set_option maxRecDepth 20000 in
theorem kt_143 : Cond.instanceMethod y_LC_init ∈ gtbl := gmem (List.mem_append_right _ (List.mem_of_getElem? (i := 143) (by decide +kernel))) rfl
set_option maxRecDepth 20000 in
theorem kt_144 : Cond.code y_LC_init prog_3_method_1_code 1 none ∈ gtbl := gmem (List.mem_append_right _ (List.mem_of_getElem? (i := 144) (by decide +kernel))) rfl
set_option maxRecDepth 20000 in
theorem kt_145 : Cond.methodLink R_LC 3 objectInit ∈ gtbl := gmem (List.mem_append_right _ (List.mem_of_getElem? (i := 145) (by decide +kernel))) rfl
set_option maxRecDepth 20000 in
theorem kt_146 : Cond.fieldLink R_LC 9 "ColourSearch$ListCounter" "open" "[I" ∈ gtbl := gmem (List.mem_append_right _ (List.mem_of_getElem? (i := 146) (by decide +kernel))) rfl
set_option maxRecDepth 20000 in
theorem kt_147 : Cond.fieldLink R_LC 15 "ColourSearch$ListCounter" "clash" "[I" ∈ gtbl := gmem (List.mem_append_right _ (List.mem_of_getElem? (i := 147) (by decide +kernel))) rfl
set_option maxRecDepth 20000 in
theorem kt_148 : Cond.fieldLink R_LC 18 "ColourSearch$ListCounter" "weight" "[I" ∈ gtbl := gmem (List.mem_append_right _ (List.mem_of_getElem? (i := 148) (by decide +kernel))) rfl
set_option maxRecDepth 20000 in
theorem kt_149 : Cond.fieldLink R_LC 21 "ColourSearch$ListCounter" "common" "[I" ∈ gtbl := gmem (List.mem_append_right _ (List.mem_of_getElem? (i := 149) (by decide +kernel))) rfl
set_option maxRecDepth 20000 in
theorem kt_150 : Cond.fieldLink R_LC 24 "ColourSearch$ListCounter" "gain" "[I" ∈ gtbl := gmem (List.mem_append_right _ (List.mem_of_getElem? (i := 150) (by decide +kernel))) rfl
set_option maxRecDepth 20000 in
theorem kt_151 : Cond.fieldLink R_LC 27 "ColourSearch$ListCounter" "sum" "[J" ∈ gtbl := gmem (List.mem_append_right _ (List.mem_of_getElem? (i := 151) (by decide +kernel))) rfl
set_option maxRecDepth 20000 in
theorem kt_152 : Cond.fieldLink R_LC 50 "ColourSearch$ListCounter" "rest" "I" ∈ gtbl := gmem (List.mem_append_right _ (List.mem_of_getElem? (i := 152) (by decide +kernel))) rfl
set_option maxRecDepth 20000 in
theorem kt_153 : Cond.fieldLink R_LC 31 "ColourSearch$ListCounter" "versionSeen" "I" ∈ gtbl := gmem (List.mem_append_right _ (List.mem_of_getElem? (i := 153) (by decide +kernel))) rfl
set_option maxRecDepth 20000 in
theorem kt_154 : Cond.fieldLink R_LC 64 "ColourSearch$ListCounter" "restSeen" "I" ∈ gtbl := gmem (List.mem_append_right _ (List.mem_of_getElem? (i := 154) (by decide +kernel))) rfl
set_option maxRecDepth 20000 in
theorem kt_174 : Cond.classLink R_CS 37 R_SF ∈ gtbl := gmem (List.mem_append_right _ (List.mem_of_getElem? (i := 174) (by decide +kernel))) rfl
set_option maxRecDepth 20000 in
theorem kt_175 : Cond.instantiable R_SF 2 ∈ gtbl := gmem (List.mem_append_right _ (List.mem_of_getElem? (i := 175) (by decide +kernel))) rfl
set_option maxRecDepth 20000 in
theorem kt_176 : Cond.methodLinkNest R_CS 39 y_SF_init R_CS ∈ nestw := List.mem_of_getElem? (i := 4) rfl
set_option maxRecDepth 20000 in
theorem kt_177 : Cond.instanceMethod y_SF_init ∈ gtbl := gmem (List.mem_append_right _ (List.mem_of_getElem? (i := 177) (by decide +kernel))) rfl
set_option maxRecDepth 20000 in
theorem kt_178 : Cond.code y_SF_init prog_7_method_1_code 1 none ∈ gtbl := gmem (List.mem_append_right _ (List.mem_of_getElem? (i := 178) (by decide +kernel))) rfl
set_option maxRecDepth 20000 in
theorem kt_179 : Cond.methodLink R_SF 3 objectInit ∈ gtbl := gmem (List.mem_append_right _ (List.mem_of_getElem? (i := 179) (by decide +kernel))) rfl
set_option maxRecDepth 20000 in
theorem kt_180 : Cond.fieldLink R_SF 9 "ColourSearch$SetFinder" "fits" "[I" ∈ gtbl := gmem (List.mem_append_right _ (List.mem_of_getElem? (i := 180) (by decide +kernel))) rfl
set_option maxRecDepth 20000 in
theorem kt_181 : Cond.fieldLink R_SF 38 "ColourSearch$SetFinder" "best" "I" ∈ gtbl := gmem (List.mem_append_right _ (List.mem_of_getElem? (i := 181) (by decide +kernel))) rfl
set_option maxRecDepth 20000 in
theorem kt_187 : Cond.classLink R_CS 44 R_TA ∈ gtbl := gmem (List.mem_append_right _ (List.mem_of_getElem? (i := 187) (by decide +kernel))) rfl
set_option maxRecDepth 20000 in
theorem kt_188 : Cond.instantiable R_TA 3 ∈ gtbl := gmem (List.mem_append_right _ (List.mem_of_getElem? (i := 188) (by decide +kernel))) rfl
set_option maxRecDepth 20000 in
theorem kt_189 : Cond.methodLinkNest R_CS 46 y_TA_init R_CS ∈ nestw := List.mem_of_getElem? (i := 5) rfl
set_option maxRecDepth 20000 in
theorem kt_190 : Cond.instanceMethod y_TA_init ∈ gtbl := gmem (List.mem_append_right _ (List.mem_of_getElem? (i := 190) (by decide +kernel))) rfl
set_option maxRecDepth 20000 in
theorem kt_191 : Cond.code y_TA_init prog_8_method_1_code 1 none ∈ gtbl := gmem (List.mem_append_right _ (List.mem_of_getElem? (i := 191) (by decide +kernel))) rfl
set_option maxRecDepth 20000 in
theorem kt_192 : Cond.methodLink R_TA 3 objectInit ∈ gtbl := gmem (List.mem_append_right _ (List.mem_of_getElem? (i := 192) (by decide +kernel))) rfl
set_option maxRecDepth 20000 in
theorem kt_193 : Cond.fieldLink R_TA 9 "ColourSearch$TakingApart" "sequence" "[I" ∈ gtbl := gmem (List.mem_append_right _ (List.mem_of_getElem? (i := 193) (by decide +kernel))) rfl
set_option maxRecDepth 20000 in
theorem kt_194 : Cond.fieldLink R_CS 182 "ColourSearch$TakingApart" "sequence" "[I" ∈ gtbl := gmem (List.mem_append_right _ (List.mem_of_getElem? (i := 194) (by decide +kernel))) rfl
set_option maxRecDepth 20000 in
theorem kt_195 : Cond.fieldLink R_TA 15 "ColourSearch$TakingApart" "count" "I" ∈ gtbl := gmem (List.mem_append_right _ (List.mem_of_getElem? (i := 195) (by decide +kernel))) rfl
set_option maxRecDepth 20000 in
theorem kt_196 : Cond.fieldLink R_CS 180 "ColourSearch$TakingApart" "count" "I" ∈ gtbl := gmem (List.mem_append_right _ (List.mem_of_getElem? (i := 196) (by decide +kernel))) rfl
set_option maxRecDepth 20000 in
theorem kt_197 : Cond.fieldLink R_TA 25 "ColourSearch$TakingApart" "remains" "I" ∈ gtbl := gmem (List.mem_append_right _ (List.mem_of_getElem? (i := 197) (by decide +kernel))) rfl
set_option maxRecDepth 20000 in
theorem kt_198 : Cond.fieldLink R_CS 177 "ColourSearch$TakingApart" "remains" "I" ∈ gtbl := gmem (List.mem_append_right _ (List.mem_of_getElem? (i := 198) (by decide +kernel))) rfl
set_option maxRecDepth 20000 in
theorem kt_206 : Cond.classLink R_CS 51 R_Gr ∈ gtbl := gmem (List.mem_append_right _ (List.mem_of_getElem? (i := 206) (by decide +kernel))) rfl
set_option maxRecDepth 20000 in
theorem kt_207 : Cond.instantiable R_Gr 2 ∈ gtbl := gmem (List.mem_append_right _ (List.mem_of_getElem? (i := 207) (by decide +kernel))) rfl
set_option maxRecDepth 20000 in
theorem kt_208 : Cond.methodLink R_CS 53 y_Gr_init ∈ gtbl := gmem (List.mem_append_right _ (List.mem_of_getElem? (i := 208) (by decide +kernel))) rfl
set_option maxRecDepth 20000 in
theorem kt_209 : Cond.instanceMethod y_Gr_init ∈ gtbl := gmem (List.mem_append_right _ (List.mem_of_getElem? (i := 209) (by decide +kernel))) rfl
set_option maxRecDepth 20000 in
theorem kt_210 : Cond.code y_Gr_init prog_2_method_1_code 1 none ∈ gtbl := gmem (List.mem_append_right _ (List.mem_of_getElem? (i := 210) (by decide +kernel))) rfl
set_option maxRecDepth 20000 in
theorem kt_211 : Cond.methodLink R_Gr 3 objectInit ∈ gtbl := gmem (List.mem_append_right _ (List.mem_of_getElem? (i := 211) (by decide +kernel))) rfl
set_option maxRecDepth 20000 in
theorem kt_212 : Cond.methodLink R_Gr 18 y_Arr_fillI ∈ gtbl := gmem (List.mem_append_right _ (List.mem_of_getElem? (i := 212) (by decide +kernel))) rfl
set_option maxRecDepth 20000 in
theorem kt_213 : Cond.static y_Arr_fillI ∈ gtbl := gmem (List.mem_append_right _ (List.mem_of_getElem? (i := 213) (by decide +kernel))) rfl
set_option maxRecDepth 20000 in
theorem kt_214 : Cond.code y_Arr_fillI prog_19_method_103_code 4 none ∈ gtbl := gmem (List.mem_append_right _ (List.mem_of_getElem? (i := 214) (by decide +kernel))) rfl
set_option maxRecDepth 20000 in
theorem kt_215 : Cond.fieldLink R_Gr 9 "ColourSearch$Greedy" "tints" "[I" ∈ gtbl := gmem (List.mem_append_right _ (List.mem_of_getElem? (i := 215) (by decide +kernel))) rfl
set_option maxRecDepth 20000 in
theorem kt_216 : Cond.fieldLink R_CS 188 "ColourSearch$Greedy" "tints" "[I" ∈ gtbl := gmem (List.mem_append_right _ (List.mem_of_getElem? (i := 216) (by decide +kernel))) rfl
set_option maxRecDepth 20000 in
theorem kt_217 : Cond.fieldLink R_Gr 15 "ColourSearch$Greedy" "peeled" "[I" ∈ gtbl := gmem (List.mem_append_right _ (List.mem_of_getElem? (i := 217) (by decide +kernel))) rfl
set_option maxRecDepth 20000 in
theorem kt_223 : Cond.methodLink R_CS 71 y_Arr_fillI ∈ gtbl := gmem (List.mem_append_right _ (List.mem_of_getElem? (i := 223) (by decide +kernel))) rfl
set_option maxRecDepth 20000 in
theorem kt_224 : Cond.fieldLink R_CS 12 "ColourSearch" "net" "LColourSearch$Net;" ∈ gtbl := gmem (List.mem_append_right _ (List.mem_of_getElem? (i := 224) (by decide +kernel))) rfl
set_option maxRecDepth 20000 in
theorem kt_225 : Cond.fieldLink R_CS 19 "ColourSearch" "painter" "LColourSearch$Painter;" ∈ gtbl := gmem (List.mem_append_right _ (List.mem_of_getElem? (i := 225) (by decide +kernel))) rfl
set_option maxRecDepth 20000 in
theorem kt_226 : Cond.fieldLink R_CS 26 "ColourSearch" "polynomial" "LColourSearch$Polynomial;" ∈ gtbl := gmem (List.mem_append_right _ (List.mem_of_getElem? (i := 226) (by decide +kernel))) rfl
set_option maxRecDepth 20000 in
theorem kt_227 : Cond.fieldLink R_CS 33 "ColourSearch" "listCounter" "LColourSearch$ListCounter;" ∈ gtbl := gmem (List.mem_append_right _ (List.mem_of_getElem? (i := 227) (by decide +kernel))) rfl
set_option maxRecDepth 20000 in
theorem kt_228 : Cond.fieldLink R_CS 40 "ColourSearch" "setFinder" "LColourSearch$SetFinder;" ∈ gtbl := gmem (List.mem_append_right _ (List.mem_of_getElem? (i := 228) (by decide +kernel))) rfl
set_option maxRecDepth 20000 in
theorem kt_229 : Cond.fieldLink R_CS 47 "ColourSearch" "takingApart" "LColourSearch$TakingApart;" ∈ gtbl := gmem (List.mem_append_right _ (List.mem_of_getElem? (i := 229) (by decide +kernel))) rfl
set_option maxRecDepth 20000 in
theorem kt_230 : Cond.fieldLink R_CS 54 "ColourSearch" "greedyRun" "LColourSearch$Greedy;" ∈ gtbl := gmem (List.mem_append_right _ (List.mem_of_getElem? (i := 230) (by decide +kernel))) rfl
set_option maxRecDepth 20000 in
theorem kt_231 : Cond.fieldLink R_CS 58 "ColourSearch" "allowed" "[I" ∈ gtbl := gmem (List.mem_append_right _ (List.mem_of_getElem? (i := 231) (by decide +kernel))) rfl
set_option maxRecDepth 20000 in
theorem kt_232 : Cond.fieldLink R_CS 62 "ColourSearch" "shown" "[I" ∈ gtbl := gmem (List.mem_append_right _ (List.mem_of_getElem? (i := 232) (by decide +kernel))) rfl
set_option maxRecDepth 20000 in
theorem kt_233 : Cond.fieldLink R_CS 65 "ColourSearch" "shades" "[I" ∈ gtbl := gmem (List.mem_append_right _ (List.mem_of_getElem? (i := 233) (by decide +kernel))) rfl
set_option maxRecDepth 20000 in
theorem kt_234 : Cond.fieldLink R_CS 68 "ColourSearch" "attempt" "[I" ∈ gtbl := gmem (List.mem_append_right _ (List.mem_of_getElem? (i := 234) (by decide +kernel))) rfl
set_option maxRecDepth 20000 in
theorem kt_262 : Cond.methodLink R_CS 81 y_Net_addNode ∈ gtbl := gmem (List.mem_append_right _ (List.mem_of_getElem? (i := 262) (by decide +kernel))) rfl
set_option maxRecDepth 20000 in
theorem kt_263 : Cond.instanceMethod y_Net_addNode ∈ gtbl := gmem (List.mem_append_right _ (List.mem_of_getElem? (i := 263) (by decide +kernel))) rfl
set_option maxRecDepth 20000 in
theorem kt_264 : Cond.selects R_Net y_Net_addNode y_Net_addNode ∈ gtbl := gmem (List.mem_append_right _ (List.mem_of_getElem? (i := 264) (by decide +kernel))) rfl
set_option maxRecDepth 20000 in
theorem kt_265 : Cond.code y_Net_addNode prog_4_method_4_code 1 (some .int) ∈ gtbl := gmem (List.mem_append_right _ (List.mem_of_getElem? (i := 265) (by decide +kernel))) rfl
set_option maxRecDepth 20000 in
theorem kt_270 : Cond.methodLink R_CS 85 y_Net_mayJoin ∈ gtbl := gmem (List.mem_append_right _ (List.mem_of_getElem? (i := 270) (by decide +kernel))) rfl
set_option maxRecDepth 20000 in
theorem kt_271 : Cond.instanceMethod y_Net_mayJoin ∈ gtbl := gmem (List.mem_append_right _ (List.mem_of_getElem? (i := 271) (by decide +kernel))) rfl
set_option maxRecDepth 20000 in
theorem kt_272 : Cond.selects R_Net y_Net_mayJoin y_Net_mayJoin ∈ gtbl := gmem (List.mem_append_right _ (List.mem_of_getElem? (i := 272) (by decide +kernel))) rfl
set_option maxRecDepth 20000 in
theorem kt_273 : Cond.code y_Net_mayJoin prog_4_method_5_code 3 (some .boolean) ∈ gtbl := gmem (List.mem_append_right _ (List.mem_of_getElem? (i := 273) (by decide +kernel))) rfl
set_option maxRecDepth 20000 in
theorem kt_274 : Cond.methodLink R_Net 28 y_Net_isNode ∈ gtbl := gmem (List.mem_append_right _ (List.mem_of_getElem? (i := 274) (by decide +kernel))) rfl
set_option maxRecDepth 20000 in
theorem kt_275 : Cond.instanceMethod y_Net_isNode ∈ gtbl := gmem (List.mem_append_right _ (List.mem_of_getElem? (i := 275) (by decide +kernel))) rfl
set_option maxRecDepth 20000 in
theorem kt_276 : Cond.selects R_Net y_Net_isNode y_Net_isNode ∈ gtbl := gmem (List.mem_append_right _ (List.mem_of_getElem? (i := 276) (by decide +kernel))) rfl
set_option maxRecDepth 20000 in
theorem kt_277 : Cond.code y_Net_isNode prog_4_method_2_code 2 (some .boolean) ∈ gtbl := gmem (List.mem_append_right _ (List.mem_of_getElem? (i := 277) (by decide +kernel))) rfl
set_option maxRecDepth 20000 in
theorem kt_278 : Cond.methodLink R_CS 92 y_Net_join ∈ gtbl := gmem (List.mem_append_right _ (List.mem_of_getElem? (i := 278) (by decide +kernel))) rfl
set_option maxRecDepth 20000 in
theorem kt_279 : Cond.instanceMethod y_Net_join ∈ gtbl := gmem (List.mem_append_right _ (List.mem_of_getElem? (i := 279) (by decide +kernel))) rfl
set_option maxRecDepth 20000 in
theorem kt_280 : Cond.selects R_Net y_Net_join y_Net_join ∈ gtbl := gmem (List.mem_append_right _ (List.mem_of_getElem? (i := 280) (by decide +kernel))) rfl
set_option maxRecDepth 20000 in
theorem kt_281 : Cond.code y_Net_join prog_4_method_6_code 3 (some .int) ∈ gtbl := gmem (List.mem_append_right _ (List.mem_of_getElem? (i := 281) (by decide +kernel))) rfl
set_option maxRecDepth 20000 in
theorem kt_286 : Cond.methodLink R_CS 96 y_Net_cutLast ∈ gtbl := gmem (List.mem_append_right _ (List.mem_of_getElem? (i := 286) (by decide +kernel))) rfl
set_option maxRecDepth 20000 in
theorem kt_287 : Cond.instanceMethod y_Net_cutLast ∈ gtbl := gmem (List.mem_append_right _ (List.mem_of_getElem? (i := 287) (by decide +kernel))) rfl
set_option maxRecDepth 20000 in
theorem kt_288 : Cond.selects R_Net y_Net_cutLast y_Net_cutLast ∈ gtbl := gmem (List.mem_append_right _ (List.mem_of_getElem? (i := 288) (by decide +kernel))) rfl
set_option maxRecDepth 20000 in
theorem kt_289 : Cond.code y_Net_cutLast prog_4_method_7_code 3 (some .boolean) ∈ gtbl := gmem (List.mem_append_right _ (List.mem_of_getElem? (i := 289) (by decide +kernel))) rfl
set_option maxRecDepth 20000 in
theorem kt_294 : Cond.methodLink R_CS 100 y_Pai_startNodes ∈ gtbl := gmem (List.mem_append_right _ (List.mem_of_getElem? (i := 294) (by decide +kernel))) rfl
set_option maxRecDepth 20000 in
theorem kt_295 : Cond.instanceMethod y_Pai_startNodes ∈ gtbl := gmem (List.mem_append_right _ (List.mem_of_getElem? (i := 295) (by decide +kernel))) rfl
set_option maxRecDepth 20000 in
theorem kt_296 : Cond.selects R_Pai y_Pai_startNodes y_Pai_startNodes ∈ gtbl := gmem (List.mem_append_right _ (List.mem_of_getElem? (i := 296) (by decide +kernel))) rfl
set_option maxRecDepth 20000 in
theorem kt_297 : Cond.code y_Pai_startNodes prog_5_method_2_code 3 none ∈ gtbl := gmem (List.mem_append_right _ (List.mem_of_getElem? (i := 297) (by decide +kernel))) rfl
set_option maxRecDepth 20000 in
theorem kt_298 : Cond.methodLink R_Pai 32 y_Pai_start ∈ gtbl := gmem (List.mem_append_right _ (List.mem_of_getElem? (i := 298) (by decide +kernel))) rfl
set_option maxRecDepth 20000 in
theorem kt_300 : Cond.instanceMethod y_Pai_start ∈ gtbl := gmem (List.mem_append_right _ (List.mem_of_getElem? (i := 300) (by decide +kernel))) rfl
set_option maxRecDepth 20000 in
theorem kt_301 : Cond.code y_Pai_start prog_5_method_5_code 2 none ∈ gtbl := gmem (List.mem_append_right _ (List.mem_of_getElem? (i := 301) (by decide +kernel))) rfl
set_option maxRecDepth 20000 in
theorem kt_302 : Cond.methodLink R_Pai 43 y_Arr_fillI ∈ gtbl := gmem (List.mem_append_right _ (List.mem_of_getElem? (i := 302) (by decide +kernel))) rfl
set_option maxRecDepth 20000 in
theorem kt_303 : Cond.methodLink R_Pai 37 arraycopyName ∈ gtbl := gmem (List.mem_append_right _ (List.mem_of_getElem? (i := 303) (by decide +kernel))) rfl
set_option maxRecDepth 20000 in
theorem kt_306 : Cond.methodLink R_CS 104 y_Pai_paintFirst ∈ gtbl := gmem (List.mem_append_right _ (List.mem_of_getElem? (i := 306) (by decide +kernel))) rfl
set_option maxRecDepth 20000 in
theorem kt_307 : Cond.instanceMethod y_Pai_paintFirst ∈ gtbl := gmem (List.mem_append_right _ (List.mem_of_getElem? (i := 307) (by decide +kernel))) rfl
set_option maxRecDepth 20000 in
theorem kt_308 : Cond.selects R_Pai y_Pai_paintFirst y_Pai_paintFirst ∈ gtbl := gmem (List.mem_append_right _ (List.mem_of_getElem? (i := 308) (by decide +kernel))) rfl
set_option maxRecDepth 20000 in
theorem kt_309 : Cond.code y_Pai_paintFirst prog_5_method_7_code 3 (some .boolean) ∈ gtbl := gmem (List.mem_append_right _ (List.mem_of_getElem? (i := 309) (by decide +kernel))) rfl
set_option maxRecDepth 20000 in
theorem kt_310 : Cond.methodLink R_Pai 83 y_Pai_paintable ∈ gtbl := gmem (List.mem_append_right _ (List.mem_of_getElem? (i := 310) (by decide +kernel))) rfl
set_option maxRecDepth 20000 in
theorem kt_312 : Cond.instanceMethod y_Pai_paintable ∈ gtbl := gmem (List.mem_append_right _ (List.mem_of_getElem? (i := 312) (by decide +kernel))) rfl
set_option maxRecDepth 20000 in
theorem kt_313 : Cond.code y_Pai_paintable prog_5_method_10_code 10 (some .boolean) ∈ gtbl := gmem (List.mem_append_right _ (List.mem_of_getElem? (i := 313) (by decide +kernel))) rfl
set_option maxRecDepth 20000 in
theorem kt_314 : Cond.methodLink R_Pai 107 y_Pai_starved ∈ gtbl := gmem (List.mem_append_right _ (List.mem_of_getElem? (i := 314) (by decide +kernel))) rfl
set_option maxRecDepth 20000 in
theorem kt_316 : Cond.instanceMethod y_Pai_starved ∈ gtbl := gmem (List.mem_append_right _ (List.mem_of_getElem? (i := 316) (by decide +kernel))) rfl
set_option maxRecDepth 20000 in
theorem kt_317 : Cond.code y_Pai_starved prog_5_method_16_code 6 (some .boolean) ∈ gtbl := gmem (List.mem_append_right _ (List.mem_of_getElem? (i := 317) (by decide +kernel))) rfl
set_option maxRecDepth 20000 in
theorem kt_318 : Cond.methodLink R_Pai 110 y_Pai_withoutEasy ∈ gtbl := gmem (List.mem_append_right _ (List.mem_of_getElem? (i := 318) (by decide +kernel))) rfl
set_option maxRecDepth 20000 in
theorem kt_320 : Cond.instanceMethod y_Pai_withoutEasy ∈ gtbl := gmem (List.mem_append_right _ (List.mem_of_getElem? (i := 320) (by decide +kernel))) rfl
set_option maxRecDepth 20000 in
theorem kt_321 : Cond.code y_Pai_withoutEasy prog_5_method_11_code 7 (some .int) ∈ gtbl := gmem (List.mem_append_right _ (List.mem_of_getElem? (i := 321) (by decide +kernel))) rfl
set_option maxRecDepth 20000 in
theorem kt_322 : Cond.methodLink R_Pai 117 y_Int_bitCount ∈ gtbl := gmem (List.mem_append_right _ (List.mem_of_getElem? (i := 322) (by decide +kernel))) rfl
set_option maxRecDepth 20000 in
theorem kt_323 : Cond.static y_Int_bitCount ∈ gtbl := gmem (List.mem_append_right _ (List.mem_of_getElem? (i := 323) (by decide +kernel))) rfl
set_option maxRecDepth 20000 in
theorem kt_324 : Cond.code y_Int_bitCount prog_13_method_49_code 1 (some .int) ∈ gtbl := gmem (List.mem_append_right _ (List.mem_of_getElem? (i := 324) (by decide +kernel))) rfl
set_option maxRecDepth 20000 in
theorem kt_325 : Cond.constant R_Int 265 1431655765 ∈ gtbl := gmem (List.mem_append_right _ (List.mem_of_getElem? (i := 325) (by decide +kernel))) rfl
set_option maxRecDepth 20000 in
theorem kt_326 : Cond.constant R_Int 266 858993459 ∈ gtbl := gmem (List.mem_append_right _ (List.mem_of_getElem? (i := 326) (by decide +kernel))) rfl
set_option maxRecDepth 20000 in
theorem kt_327 : Cond.constant R_Int 267 252645135 ∈ gtbl := gmem (List.mem_append_right _ (List.mem_of_getElem? (i := 327) (by decide +kernel))) rfl
set_option maxRecDepth 20000 in
theorem kt_328 : Cond.methodLink R_Pai 90 y_Pai_openColours ∈ gtbl := gmem (List.mem_append_right _ (List.mem_of_getElem? (i := 328) (by decide +kernel))) rfl
set_option maxRecDepth 20000 in
theorem kt_330 : Cond.instanceMethod y_Pai_openColours ∈ gtbl := gmem (List.mem_append_right _ (List.mem_of_getElem? (i := 330) (by decide +kernel))) rfl
set_option maxRecDepth 20000 in
theorem kt_331 : Cond.code y_Pai_openColours prog_5_method_17_code 4 (some .int) ∈ gtbl := gmem (List.mem_append_right _ (List.mem_of_getElem? (i := 331) (by decide +kernel))) rfl
set_option maxRecDepth 20000 in
theorem kt_332 : Cond.methodLink R_Pai 113 y_Pai_tightest ∈ gtbl := gmem (List.mem_append_right _ (List.mem_of_getElem? (i := 332) (by decide +kernel))) rfl
set_option maxRecDepth 20000 in
theorem kt_334 : Cond.instanceMethod y_Pai_tightest ∈ gtbl := gmem (List.mem_append_right _ (List.mem_of_getElem? (i := 334) (by decide +kernel))) rfl
set_option maxRecDepth 20000 in
theorem kt_335 : Cond.code y_Pai_tightest prog_5_method_12_code 8 (some .int) ∈ gtbl := gmem (List.mem_append_right _ (List.mem_of_getElem? (i := 335) (by decide +kernel))) rfl
set_option maxRecDepth 20000 in
theorem kt_336 : Cond.constant R_Pai 123 2147483647 ∈ gtbl := gmem (List.mem_append_right _ (List.mem_of_getElem? (i := 336) (by decide +kernel))) rfl
set_option maxRecDepth 20000 in
theorem kt_337 : Cond.methodLink R_Pai 94 y_Pai_likeEarlier ∈ gtbl := gmem (List.mem_append_right _ (List.mem_of_getElem? (i := 337) (by decide +kernel))) rfl
set_option maxRecDepth 20000 in
theorem kt_339 : Cond.instanceMethod y_Pai_likeEarlier ∈ gtbl := gmem (List.mem_append_right _ (List.mem_of_getElem? (i := 339) (by decide +kernel))) rfl
set_option maxRecDepth 20000 in
theorem kt_340 : Cond.code y_Pai_likeEarlier prog_5_method_13_code 6 (some .boolean) ∈ gtbl := gmem (List.mem_append_right _ (List.mem_of_getElem? (i := 340) (by decide +kernel))) rfl
set_option maxRecDepth 20000 in
theorem kt_341 : Cond.methodLink R_Pai 124 y_Pai_freeAlike ∈ gtbl := gmem (List.mem_append_right _ (List.mem_of_getElem? (i := 341) (by decide +kernel))) rfl
set_option maxRecDepth 20000 in
theorem kt_343 : Cond.instanceMethod y_Pai_freeAlike ∈ gtbl := gmem (List.mem_append_right _ (List.mem_of_getElem? (i := 343) (by decide +kernel))) rfl
set_option maxRecDepth 20000 in
theorem kt_344 : Cond.code y_Pai_freeAlike prog_5_method_14_code 6 (some .boolean) ∈ gtbl := gmem (List.mem_append_right _ (List.mem_of_getElem? (i := 344) (by decide +kernel))) rfl
set_option maxRecDepth 20000 in
theorem kt_345 : Cond.methodLink R_Pai 98 y_Pai_use ∈ gtbl := gmem (List.mem_append_right _ (List.mem_of_getElem? (i := 345) (by decide +kernel))) rfl
set_option maxRecDepth 20000 in
theorem kt_347 : Cond.instanceMethod y_Pai_use ∈ gtbl := gmem (List.mem_append_right _ (List.mem_of_getElem? (i := 347) (by decide +kernel))) rfl
set_option maxRecDepth 20000 in
theorem kt_348 : Cond.code y_Pai_use prog_5_method_18_code 2 none ∈ gtbl := gmem (List.mem_append_right _ (List.mem_of_getElem? (i := 348) (by decide +kernel))) rfl
set_option maxRecDepth 20000 in
theorem kt_349 : Cond.methodLink R_Pai 101 y_Pai_spread ∈ gtbl := gmem (List.mem_append_right _ (List.mem_of_getElem? (i := 349) (by decide +kernel))) rfl
set_option maxRecDepth 20000 in
theorem kt_351 : Cond.instanceMethod y_Pai_spread ∈ gtbl := gmem (List.mem_append_right _ (List.mem_of_getElem? (i := 351) (by decide +kernel))) rfl
set_option maxRecDepth 20000 in
theorem kt_352 : Cond.code y_Pai_spread prog_5_method_15_code 8 (some .boolean) ∈ gtbl := gmem (List.mem_append_right _ (List.mem_of_getElem? (i := 352) (by decide +kernel))) rfl
set_option maxRecDepth 20000 in
theorem kt_353 : Cond.methodLink R_Pai 104 y_Pai_unuse ∈ gtbl := gmem (List.mem_append_right _ (List.mem_of_getElem? (i := 353) (by decide +kernel))) rfl
set_option maxRecDepth 20000 in
theorem kt_355 : Cond.instanceMethod y_Pai_unuse ∈ gtbl := gmem (List.mem_append_right _ (List.mem_of_getElem? (i := 355) (by decide +kernel))) rfl
set_option maxRecDepth 20000 in
theorem kt_356 : Cond.code y_Pai_unuse prog_5_method_19_code 2 none ∈ gtbl := gmem (List.mem_append_right _ (List.mem_of_getElem? (i := 356) (by decide +kernel))) rfl
set_option maxRecDepth 20000 in
theorem kt_357 : Cond.methodLink R_Pai 87 y_Pai_settle ∈ gtbl := gmem (List.mem_append_right _ (List.mem_of_getElem? (i := 357) (by decide +kernel))) rfl
set_option maxRecDepth 20000 in
theorem kt_359 : Cond.instanceMethod y_Pai_settle ∈ gtbl := gmem (List.mem_append_right _ (List.mem_of_getElem? (i := 359) (by decide +kernel))) rfl
set_option maxRecDepth 20000 in
theorem kt_360 : Cond.code y_Pai_settle prog_5_method_8_code 5 (some .int) ∈ gtbl := gmem (List.mem_append_right _ (List.mem_of_getElem? (i := 360) (by decide +kernel))) rfl
set_option maxRecDepth 20000 in
theorem kt_361 : Cond.methodLink R_CS 107 y_CS_showPaint ∈ gtbl := gmem (List.mem_append_right _ (List.mem_of_getElem? (i := 361) (by decide +kernel))) rfl
set_option maxRecDepth 20000 in
theorem kt_363 : Cond.instanceMethod y_CS_showPaint ∈ gtbl := gmem (List.mem_append_right _ (List.mem_of_getElem? (i := 363) (by decide +kernel))) rfl
set_option maxRecDepth 20000 in
theorem kt_364 : Cond.code y_CS_showPaint prog_1_method_31_code 1 none ∈ gtbl := gmem (List.mem_append_right _ (List.mem_of_getElem? (i := 364) (by decide +kernel))) rfl
set_option maxRecDepth 20000 in
theorem kt_365 : Cond.methodLink R_CS 160 arraycopyName ∈ gtbl := gmem (List.mem_append_right _ (List.mem_of_getElem? (i := 365) (by decide +kernel))) rfl
set_option maxRecDepth 20000 in
theorem kt_370 : Cond.methodLink R_CS 110 y_Pai_shareEvenly ∈ gtbl := gmem (List.mem_append_right _ (List.mem_of_getElem? (i := 370) (by decide +kernel))) rfl
set_option maxRecDepth 20000 in
theorem kt_371 : Cond.instanceMethod y_Pai_shareEvenly ∈ gtbl := gmem (List.mem_append_right _ (List.mem_of_getElem? (i := 371) (by decide +kernel))) rfl
set_option maxRecDepth 20000 in
theorem kt_372 : Cond.selects R_Pai y_Pai_shareEvenly y_Pai_shareEvenly ∈ gtbl := gmem (List.mem_append_right _ (List.mem_of_getElem? (i := 372) (by decide +kernel))) rfl
set_option maxRecDepth 20000 in
theorem kt_373 : Cond.code y_Pai_shareEvenly prog_5_method_6_code 2 none ∈ gtbl := gmem (List.mem_append_right _ (List.mem_of_getElem? (i := 373) (by decide +kernel))) rfl
set_option maxRecDepth 20000 in
theorem kt_374 : Cond.methodLink R_CS 114 y_CS_showWhether ∈ gtbl := gmem (List.mem_append_right _ (List.mem_of_getElem? (i := 374) (by decide +kernel))) rfl
set_option maxRecDepth 20000 in
theorem kt_376 : Cond.instanceMethod y_CS_showWhether ∈ gtbl := gmem (List.mem_append_right _ (List.mem_of_getElem? (i := 376) (by decide +kernel))) rfl
set_option maxRecDepth 20000 in
theorem kt_377 : Cond.code y_CS_showWhether prog_1_method_32_code 2 (some .int) ∈ gtbl := gmem (List.mem_append_right _ (List.mem_of_getElem? (i := 377) (by decide +kernel))) rfl
set_option maxRecDepth 20000 in
theorem kt_382 : Cond.methodLink R_CS 118 y_Net_isNode ∈ gtbl := gmem (List.mem_append_right _ (List.mem_of_getElem? (i := 382) (by decide +kernel))) rfl
set_option maxRecDepth 20000 in
theorem kt_387 : Cond.methodLink R_CS 122 y_Pol_valueAt ∈ gtbl := gmem (List.mem_append_right _ (List.mem_of_getElem? (i := 387) (by decide +kernel))) rfl
set_option maxRecDepth 20000 in
theorem kt_388 : Cond.instanceMethod y_Pol_valueAt ∈ gtbl := gmem (List.mem_append_right _ (List.mem_of_getElem? (i := 388) (by decide +kernel))) rfl
set_option maxRecDepth 20000 in
theorem kt_389 : Cond.selects R_Pol y_Pol_valueAt y_Pol_valueAt ∈ gtbl := gmem (List.mem_append_right _ (List.mem_of_getElem? (i := 389) (by decide +kernel))) rfl
set_option maxRecDepth 20000 in
theorem kt_390 : Cond.code y_Pol_valueAt prog_6_method_2_code 7 (some .long) ∈ gtbl := gmem (List.mem_append_right _ (List.mem_of_getElem? (i := 390) (by decide +kernel))) rfl
set_option maxRecDepth 20000 in
theorem kt_391 : Cond.methodLink R_Pol 34 y_Pol_update ∈ gtbl := gmem (List.mem_append_right _ (List.mem_of_getElem? (i := 391) (by decide +kernel))) rfl
set_option maxRecDepth 20000 in
theorem kt_393 : Cond.instanceMethod y_Pol_update ∈ gtbl := gmem (List.mem_append_right _ (List.mem_of_getElem? (i := 393) (by decide +kernel))) rfl
set_option maxRecDepth 20000 in
theorem kt_394 : Cond.code y_Pol_update prog_6_method_4_code 5 none ∈ gtbl := gmem (List.mem_append_right _ (List.mem_of_getElem? (i := 394) (by decide +kernel))) rfl
set_option maxRecDepth 20000 in
theorem kt_395 : Cond.methodLink R_Pol 45 y_Arr_fillL ∈ gtbl := gmem (List.mem_append_right _ (List.mem_of_getElem? (i := 395) (by decide +kernel))) rfl
set_option maxRecDepth 20000 in
theorem kt_396 : Cond.static y_Arr_fillL ∈ gtbl := gmem (List.mem_append_right _ (List.mem_of_getElem? (i := 396) (by decide +kernel))) rfl
set_option maxRecDepth 20000 in
theorem kt_397 : Cond.code y_Arr_fillL prog_19_method_101_code 5 none ∈ gtbl := gmem (List.mem_append_right _ (List.mem_of_getElem? (i := 397) (by decide +kernel))) rfl
set_option maxRecDepth 20000 in
theorem kt_398 : Cond.methodLink R_Pol 53 arraycopyName ∈ gtbl := gmem (List.mem_append_right _ (List.mem_of_getElem? (i := 398) (by decide +kernel))) rfl
set_option maxRecDepth 20000 in
theorem kt_399 : Cond.methodLink R_Pol 59 y_Net_everyNode ∈ gtbl := gmem (List.mem_append_right _ (List.mem_of_getElem? (i := 399) (by decide +kernel))) rfl
set_option maxRecDepth 20000 in
theorem kt_400 : Cond.instanceMethod y_Net_everyNode ∈ gtbl := gmem (List.mem_append_right _ (List.mem_of_getElem? (i := 400) (by decide +kernel))) rfl
set_option maxRecDepth 20000 in
theorem kt_401 : Cond.selects R_Net y_Net_everyNode y_Net_everyNode ∈ gtbl := gmem (List.mem_append_right _ (List.mem_of_getElem? (i := 401) (by decide +kernel))) rfl
set_option maxRecDepth 20000 in
theorem kt_402 : Cond.code y_Net_everyNode prog_4_method_3_code 1 (some .int) ∈ gtbl := gmem (List.mem_append_right _ (List.mem_of_getElem? (i := 402) (by decide +kernel))) rfl
set_option maxRecDepth 20000 in
theorem kt_403 : Cond.constant R_Pol 63 1000000 ∈ gtbl := gmem (List.mem_append_right _ (List.mem_of_getElem? (i := 403) (by decide +kernel))) rfl
set_option maxRecDepth 20000 in
theorem kt_404 : Cond.methodLink R_Pol 64 y_Pol_takeFactors ∈ gtbl := gmem (List.mem_append_right _ (List.mem_of_getElem? (i := 404) (by decide +kernel))) rfl
set_option maxRecDepth 20000 in
theorem kt_406 : Cond.instanceMethod y_Pol_takeFactors ∈ gtbl := gmem (List.mem_append_right _ (List.mem_of_getElem? (i := 406) (by decide +kernel))) rfl
set_option maxRecDepth 20000 in
theorem kt_407 : Cond.code y_Pol_takeFactors prog_6_method_5_code 6 none ∈ gtbl := gmem (List.mem_append_right _ (List.mem_of_getElem? (i := 407) (by decide +kernel))) rfl
set_option maxRecDepth 20000 in
theorem kt_408 : Cond.methodLink R_Pol 72 y_Pol_farPair ∈ gtbl := gmem (List.mem_append_right _ (List.mem_of_getElem? (i := 408) (by decide +kernel))) rfl
set_option maxRecDepth 20000 in
theorem kt_410 : Cond.instanceMethod y_Pol_farPair ∈ gtbl := gmem (List.mem_append_right _ (List.mem_of_getElem? (i := 410) (by decide +kernel))) rfl
set_option maxRecDepth 20000 in
theorem kt_411 : Cond.code y_Pol_farPair prog_6_method_6_code 6 (some .int) ∈ gtbl := gmem (List.mem_append_right _ (List.mem_of_getElem? (i := 411) (by decide +kernel))) rfl
set_option maxRecDepth 20000 in
theorem kt_412 : Cond.methodLink R_Pol 84 y_Int_bitCount ∈ gtbl := gmem (List.mem_append_right _ (List.mem_of_getElem? (i := 412) (by decide +kernel))) rfl
set_option maxRecDepth 20000 in
theorem kt_413 : Cond.methodLink R_Pol 68 y_Pol_fewestNear ∈ gtbl := gmem (List.mem_append_right _ (List.mem_of_getElem? (i := 413) (by decide +kernel))) rfl
set_option maxRecDepth 20000 in
theorem kt_415 : Cond.instanceMethod y_Pol_fewestNear ∈ gtbl := gmem (List.mem_append_right _ (List.mem_of_getElem? (i := 415) (by decide +kernel))) rfl
set_option maxRecDepth 20000 in
theorem kt_416 : Cond.code y_Pol_fewestNear prog_6_method_7_code 6 (some .int) ∈ gtbl := gmem (List.mem_append_right _ (List.mem_of_getElem? (i := 416) (by decide +kernel))) rfl
set_option maxRecDepth 20000 in
theorem kt_417 : Cond.methodLink R_Pol 76 y_Pol_addProduct ∈ gtbl := gmem (List.mem_append_right _ (List.mem_of_getElem? (i := 417) (by decide +kernel))) rfl
set_option maxRecDepth 20000 in
theorem kt_419 : Cond.instanceMethod y_Pol_addProduct ∈ gtbl := gmem (List.mem_append_right _ (List.mem_of_getElem? (i := 419) (by decide +kernel))) rfl
set_option maxRecDepth 20000 in
theorem kt_420 : Cond.code y_Pol_addProduct prog_6_method_9_code 8 none ∈ gtbl := gmem (List.mem_append_right _ (List.mem_of_getElem? (i := 420) (by decide +kernel))) rfl
set_option maxRecDepth 20000 in
theorem kt_421 : Cond.methodLink R_Pol 80 y_Pol_splitTop ∈ gtbl := gmem (List.mem_append_right _ (List.mem_of_getElem? (i := 421) (by decide +kernel))) rfl
set_option maxRecDepth 20000 in
theorem kt_423 : Cond.instanceMethod y_Pol_splitTop ∈ gtbl := gmem (List.mem_append_right _ (List.mem_of_getElem? (i := 423) (by decide +kernel))) rfl
set_option maxRecDepth 20000 in
theorem kt_424 : Cond.code y_Pol_splitTop prog_6_method_8_code 7 none ∈ gtbl := gmem (List.mem_append_right _ (List.mem_of_getElem? (i := 424) (by decide +kernel))) rfl
set_option maxRecDepth 20000 in
theorem kt_425 : Cond.methodLinkNest R_Pol 89 y_CS_lowestOf R_CS ∈ nestw := List.mem_of_getElem? (i := 6) rfl
set_option maxRecDepth 20000 in
theorem kt_426 : Cond.static y_CS_lowestOf ∈ gtbl := gmem (List.mem_append_right _ (List.mem_of_getElem? (i := 426) (by decide +kernel))) rfl
set_option maxRecDepth 20000 in
theorem kt_427 : Cond.code y_CS_lowestOf prog_1_method_30_code 1 (some .int) ∈ gtbl := gmem (List.mem_append_right _ (List.mem_of_getElem? (i := 427) (by decide +kernel))) rfl
set_option maxRecDepth 20000 in
theorem kt_428 : Cond.methodLink R_CS 207 y_Int_bitCount ∈ gtbl := gmem (List.mem_append_right _ (List.mem_of_getElem? (i := 428) (by decide +kernel))) rfl
set_option maxRecDepth 20000 in
theorem kt_433 : Cond.methodLink R_CS 126 y_Pol_atPower ∈ gtbl := gmem (List.mem_append_right _ (List.mem_of_getElem? (i := 433) (by decide +kernel))) rfl
set_option maxRecDepth 20000 in
theorem kt_434 : Cond.instanceMethod y_Pol_atPower ∈ gtbl := gmem (List.mem_append_right _ (List.mem_of_getElem? (i := 434) (by decide +kernel))) rfl
set_option maxRecDepth 20000 in
theorem kt_435 : Cond.selects R_Pol y_Pol_atPower y_Pol_atPower ∈ gtbl := gmem (List.mem_append_right _ (List.mem_of_getElem? (i := 435) (by decide +kernel))) rfl
set_option maxRecDepth 20000 in
theorem kt_436 : Cond.code y_Pol_atPower prog_6_method_3_code 3 (some .long) ∈ gtbl := gmem (List.mem_append_right _ (List.mem_of_getElem? (i := 436) (by decide +kernel))) rfl
set_option maxRecDepth 20000 in
theorem kt_445 : Cond.methodLink R_CS 130 y_Pai_startLists ∈ gtbl := gmem (List.mem_append_right _ (List.mem_of_getElem? (i := 445) (by decide +kernel))) rfl
set_option maxRecDepth 20000 in
theorem kt_446 : Cond.instanceMethod y_Pai_startLists ∈ gtbl := gmem (List.mem_append_right _ (List.mem_of_getElem? (i := 446) (by decide +kernel))) rfl
set_option maxRecDepth 20000 in
theorem kt_447 : Cond.selects R_Pai y_Pai_startLists y_Pai_startLists ∈ gtbl := gmem (List.mem_append_right _ (List.mem_of_getElem? (i := 447) (by decide +kernel))) rfl
set_option maxRecDepth 20000 in
theorem kt_448 : Cond.code y_Pai_startLists prog_5_method_3_code 3 none ∈ gtbl := gmem (List.mem_append_right _ (List.mem_of_getElem? (i := 448) (by decide +kernel))) rfl
set_option maxRecDepth 20000 in
theorem kt_453 : Cond.methodLink R_CS 134 y_LC_count ∈ gtbl := gmem (List.mem_append_right _ (List.mem_of_getElem? (i := 453) (by decide +kernel))) rfl
set_option maxRecDepth 20000 in
theorem kt_454 : Cond.instanceMethod y_LC_count ∈ gtbl := gmem (List.mem_append_right _ (List.mem_of_getElem? (i := 454) (by decide +kernel))) rfl
set_option maxRecDepth 20000 in
theorem kt_455 : Cond.selects R_LC y_LC_count y_LC_count ∈ gtbl := gmem (List.mem_append_right _ (List.mem_of_getElem? (i := 455) (by decide +kernel))) rfl
set_option maxRecDepth 20000 in
theorem kt_456 : Cond.code y_LC_count prog_3_method_2_code 9 (some .long) ∈ gtbl := gmem (List.mem_append_right _ (List.mem_of_getElem? (i := 456) (by decide +kernel))) rfl
set_option maxRecDepth 20000 in
theorem kt_457 : Cond.methodLink R_LC 40 arraycopyName ∈ gtbl := gmem (List.mem_append_right _ (List.mem_of_getElem? (i := 457) (by decide +kernel))) rfl
set_option maxRecDepth 20000 in
theorem kt_458 : Cond.methodLink R_LC 46 y_Net_everyNode ∈ gtbl := gmem (List.mem_append_right _ (List.mem_of_getElem? (i := 458) (by decide +kernel))) rfl
set_option maxRecDepth 20000 in
theorem kt_459 : Cond.methodLink R_LC 53 y_LC_takeSimple ∈ gtbl := gmem (List.mem_append_right _ (List.mem_of_getElem? (i := 459) (by decide +kernel))) rfl
set_option maxRecDepth 20000 in
theorem kt_461 : Cond.instanceMethod y_LC_takeSimple ∈ gtbl := gmem (List.mem_append_right _ (List.mem_of_getElem? (i := 461) (by decide +kernel))) rfl
set_option maxRecDepth 20000 in
theorem kt_462 : Cond.code y_LC_takeSimple prog_3_method_4_code 8 (some .long) ∈ gtbl := gmem (List.mem_append_right _ (List.mem_of_getElem? (i := 462) (by decide +kernel))) rfl
set_option maxRecDepth 20000 in
theorem kt_463 : Cond.methodLink R_LC 82 y_Int_bitCount ∈ gtbl := gmem (List.mem_append_right _ (List.mem_of_getElem? (i := 463) (by decide +kernel))) rfl
set_option maxRecDepth 20000 in
theorem kt_464 : Cond.methodLink R_LC 88 y_LC_takeColourFrom ∈ gtbl := gmem (List.mem_append_right _ (List.mem_of_getElem? (i := 464) (by decide +kernel))) rfl
set_option maxRecDepth 20000 in
theorem kt_466 : Cond.instanceMethod y_LC_takeColourFrom ∈ gtbl := gmem (List.mem_append_right _ (List.mem_of_getElem? (i := 466) (by decide +kernel))) rfl
set_option maxRecDepth 20000 in
theorem kt_467 : Cond.code y_LC_takeColourFrom prog_3_method_5_code 5 none ∈ gtbl := gmem (List.mem_append_right _ (List.mem_of_getElem? (i := 467) (by decide +kernel))) rfl
set_option maxRecDepth 20000 in
theorem kt_468 : Cond.methodLink R_LC 92 y_Net_allNear ∈ gtbl := gmem (List.mem_append_right _ (List.mem_of_getElem? (i := 468) (by decide +kernel))) rfl
set_option maxRecDepth 20000 in
theorem kt_469 : Cond.instanceMethod y_Net_allNear ∈ gtbl := gmem (List.mem_append_right _ (List.mem_of_getElem? (i := 469) (by decide +kernel))) rfl
set_option maxRecDepth 20000 in
theorem kt_470 : Cond.selects R_Net y_Net_allNear y_Net_allNear ∈ gtbl := gmem (List.mem_append_right _ (List.mem_of_getElem? (i := 470) (by decide +kernel))) rfl
set_option maxRecDepth 20000 in
theorem kt_471 : Cond.code y_Net_allNear prog_4_method_10_code 3 (some .boolean) ∈ gtbl := gmem (List.mem_append_right _ (List.mem_of_getElem? (i := 471) (by decide +kernel))) rfl
set_option maxRecDepth 20000 in
theorem kt_472 : Cond.methodLink R_LC 96 y_LC_openTo ∈ gtbl := gmem (List.mem_append_right _ (List.mem_of_getElem? (i := 472) (by decide +kernel))) rfl
set_option maxRecDepth 20000 in
theorem kt_474 : Cond.instanceMethod y_LC_openTo ∈ gtbl := gmem (List.mem_append_right _ (List.mem_of_getElem? (i := 474) (by decide +kernel))) rfl
set_option maxRecDepth 20000 in
theorem kt_475 : Cond.code y_LC_openTo prog_3_method_6_code 5 (some .int) ∈ gtbl := gmem (List.mem_append_right _ (List.mem_of_getElem? (i := 475) (by decide +kernel))) rfl
set_option maxRecDepth 20000 in
theorem kt_476 : Cond.methodLink R_LC 57 y_LC_makeRoom ∈ gtbl := gmem (List.mem_append_right _ (List.mem_of_getElem? (i := 476) (by decide +kernel))) rfl
set_option maxRecDepth 20000 in
theorem kt_478 : Cond.instanceMethod y_LC_makeRoom ∈ gtbl := gmem (List.mem_append_right _ (List.mem_of_getElem? (i := 478) (by decide +kernel))) rfl
set_option maxRecDepth 20000 in
theorem kt_479 : Cond.code y_LC_makeRoom prog_3_method_3_code 2 none ∈ gtbl := gmem (List.mem_append_right _ (List.mem_of_getElem? (i := 479) (by decide +kernel))) rfl
set_option maxRecDepth 20000 in
theorem kt_480 : Cond.methodLink R_LC 67 y_Net_partOf ∈ gtbl := gmem (List.mem_append_right _ (List.mem_of_getElem? (i := 480) (by decide +kernel))) rfl
set_option maxRecDepth 20000 in
theorem kt_481 : Cond.instanceMethod y_Net_partOf ∈ gtbl := gmem (List.mem_append_right _ (List.mem_of_getElem? (i := 481) (by decide +kernel))) rfl
set_option maxRecDepth 20000 in
theorem kt_482 : Cond.selects R_Net y_Net_partOf y_Net_partOf ∈ gtbl := gmem (List.mem_append_right _ (List.mem_of_getElem? (i := 482) (by decide +kernel))) rfl
set_option maxRecDepth 20000 in
theorem kt_483 : Cond.code y_Net_partOf prog_4_method_11_code 8 (some .int) ∈ gtbl := gmem (List.mem_append_right _ (List.mem_of_getElem? (i := 483) (by decide +kernel))) rfl
set_option maxRecDepth 20000 in
theorem kt_484 : Cond.methodLink R_LC 71 y_LC_weighSetsOf ∈ gtbl := gmem (List.mem_append_right _ (List.mem_of_getElem? (i := 484) (by decide +kernel))) rfl
set_option maxRecDepth 20000 in
theorem kt_486 : Cond.instanceMethod y_LC_weighSetsOf ∈ gtbl := gmem (List.mem_append_right _ (List.mem_of_getElem? (i := 486) (by decide +kernel))) rfl
set_option maxRecDepth 20000 in
theorem kt_487 : Cond.code y_LC_weighSetsOf prog_3_method_7_code 6 none ∈ gtbl := gmem (List.mem_append_right _ (List.mem_of_getElem? (i := 487) (by decide +kernel))) rfl
set_option maxRecDepth 20000 in
theorem kt_488 : Cond.methodLink R_LC 100 y_LC_clashIn ∈ gtbl := gmem (List.mem_append_right _ (List.mem_of_getElem? (i := 488) (by decide +kernel))) rfl
set_option maxRecDepth 20000 in
theorem kt_490 : Cond.instanceMethod y_LC_clashIn ∈ gtbl := gmem (List.mem_append_right _ (List.mem_of_getElem? (i := 490) (by decide +kernel))) rfl
set_option maxRecDepth 20000 in
theorem kt_491 : Cond.code y_LC_clashIn prog_3_method_8_code 4 (some .int) ∈ gtbl := gmem (List.mem_append_right _ (List.mem_of_getElem? (i := 491) (by decide +kernel))) rfl
set_option maxRecDepth 20000 in
theorem kt_492 : Cond.methodLinkNest R_LC 110 y_CS_lowestOf R_CS ∈ nestw := List.mem_of_getElem? (i := 7) rfl
set_option maxRecDepth 20000 in
theorem kt_493 : Cond.methodLink R_LC 103 y_LC_hangsTogether ∈ gtbl := gmem (List.mem_append_right _ (List.mem_of_getElem? (i := 493) (by decide +kernel))) rfl
set_option maxRecDepth 20000 in
theorem kt_495 : Cond.instanceMethod y_LC_hangsTogether ∈ gtbl := gmem (List.mem_append_right _ (List.mem_of_getElem? (i := 495) (by decide +kernel))) rfl
set_option maxRecDepth 20000 in
theorem kt_496 : Cond.code y_LC_hangsTogether prog_3_method_9_code 5 (some .boolean) ∈ gtbl := gmem (List.mem_append_right _ (List.mem_of_getElem? (i := 496) (by decide +kernel))) rfl
set_option maxRecDepth 20000 in
theorem kt_497 : Cond.methodLink R_LC 107 y_LC_weigh ∈ gtbl := gmem (List.mem_append_right _ (List.mem_of_getElem? (i := 497) (by decide +kernel))) rfl
set_option maxRecDepth 20000 in
theorem kt_499 : Cond.instanceMethod y_LC_weigh ∈ gtbl := gmem (List.mem_append_right _ (List.mem_of_getElem? (i := 499) (by decide +kernel))) rfl
set_option maxRecDepth 20000 in
theorem kt_500 : Cond.code y_LC_weigh prog_3_method_10_code 8 (some .int) ∈ gtbl := gmem (List.mem_append_right _ (List.mem_of_getElem? (i := 500) (by decide +kernel))) rfl
set_option maxRecDepth 20000 in
theorem kt_501 : Cond.methodLink R_LC 75 y_LC_countPart ∈ gtbl := gmem (List.mem_append_right _ (List.mem_of_getElem? (i := 501) (by decide +kernel))) rfl
set_option maxRecDepth 20000 in
theorem kt_503 : Cond.instanceMethod y_LC_countPart ∈ gtbl := gmem (List.mem_append_right _ (List.mem_of_getElem? (i := 503) (by decide +kernel))) rfl
set_option maxRecDepth 20000 in
theorem kt_504 : Cond.code y_LC_countPart prog_3_method_11_code 6 (some .long) ∈ gtbl := gmem (List.mem_append_right _ (List.mem_of_getElem? (i := 504) (by decide +kernel))) rfl
set_option maxRecDepth 20000 in
theorem kt_505 : Cond.methodLink R_LC 113 y_LC_findGains ∈ gtbl := gmem (List.mem_append_right _ (List.mem_of_getElem? (i := 505) (by decide +kernel))) rfl
set_option maxRecDepth 20000 in
theorem kt_507 : Cond.instanceMethod y_LC_findGains ∈ gtbl := gmem (List.mem_append_right _ (List.mem_of_getElem? (i := 507) (by decide +kernel))) rfl
set_option maxRecDepth 20000 in
theorem kt_508 : Cond.code y_LC_findGains prog_3_method_12_code 5 none ∈ gtbl := gmem (List.mem_append_right _ (List.mem_of_getElem? (i := 508) (by decide +kernel))) rfl
set_option maxRecDepth 20000 in
theorem kt_509 : Cond.methodLink R_LC 116 y_LC_sumOverBlocks ∈ gtbl := gmem (List.mem_append_right _ (List.mem_of_getElem? (i := 509) (by decide +kernel))) rfl
set_option maxRecDepth 20000 in
theorem kt_511 : Cond.instanceMethod y_LC_sumOverBlocks ∈ gtbl := gmem (List.mem_append_right _ (List.mem_of_getElem? (i := 511) (by decide +kernel))) rfl
set_option maxRecDepth 20000 in
theorem kt_512 : Cond.code y_LC_sumOverBlocks prog_3_method_13_code 8 (some .long) ∈ gtbl := gmem (List.mem_append_right _ (List.mem_of_getElem? (i := 512) (by decide +kernel))) rfl
set_option maxRecDepth 20000 in
theorem kt_517 : Cond.methodLink R_CS 138 y_Net_everyNode ∈ gtbl := gmem (List.mem_append_right _ (List.mem_of_getElem? (i := 517) (by decide +kernel))) rfl
set_option maxRecDepth 20000 in
theorem kt_518 : Cond.methodLink R_CS 141 y_CS_hasListColouring ∈ gtbl := gmem (List.mem_append_right _ (List.mem_of_getElem? (i := 518) (by decide +kernel))) rfl
set_option maxRecDepth 20000 in
theorem kt_520 : Cond.instanceMethod y_CS_hasListColouring ∈ gtbl := gmem (List.mem_append_right _ (List.mem_of_getElem? (i := 520) (by decide +kernel))) rfl
set_option maxRecDepth 20000 in
theorem kt_521 : Cond.code y_CS_hasListColouring prog_1_method_33_code 2 (some .boolean) ∈ gtbl := gmem (List.mem_append_right _ (List.mem_of_getElem? (i := 521) (by decide +kernel))) rfl
set_option maxRecDepth 20000 in
theorem kt_522 : Cond.methodLink R_CS 225 y_Pai_canPaint ∈ gtbl := gmem (List.mem_append_right _ (List.mem_of_getElem? (i := 522) (by decide +kernel))) rfl
set_option maxRecDepth 20000 in
theorem kt_523 : Cond.instanceMethod y_Pai_canPaint ∈ gtbl := gmem (List.mem_append_right _ (List.mem_of_getElem? (i := 523) (by decide +kernel))) rfl
set_option maxRecDepth 20000 in
theorem kt_524 : Cond.selects R_Pai y_Pai_canPaint y_Pai_canPaint ∈ gtbl := gmem (List.mem_append_right _ (List.mem_of_getElem? (i := 524) (by decide +kernel))) rfl
set_option maxRecDepth 20000 in
theorem kt_525 : Cond.code y_Pai_canPaint prog_5_method_9_code 2 (some .boolean) ∈ gtbl := gmem (List.mem_append_right _ (List.mem_of_getElem? (i := 525) (by decide +kernel))) rfl
set_option maxRecDepth 20000 in
theorem kt_534 : Cond.methodLink R_CS 166 y_SF_greatestClique ∈ gtbl := gmem (List.mem_append_right _ (List.mem_of_getElem? (i := 534) (by decide +kernel))) rfl
set_option maxRecDepth 20000 in
theorem kt_535 : Cond.instanceMethod y_SF_greatestClique ∈ gtbl := gmem (List.mem_append_right _ (List.mem_of_getElem? (i := 535) (by decide +kernel))) rfl
set_option maxRecDepth 20000 in
theorem kt_536 : Cond.selects R_SF y_SF_greatestClique y_SF_greatestClique ∈ gtbl := gmem (List.mem_append_right _ (List.mem_of_getElem? (i := 536) (by decide +kernel))) rfl
set_option maxRecDepth 20000 in
theorem kt_537 : Cond.code y_SF_greatestClique prog_7_method_2_code 2 (some .int) ∈ gtbl := gmem (List.mem_append_right _ (List.mem_of_getElem? (i := 537) (by decide +kernel))) rfl
set_option maxRecDepth 20000 in
theorem kt_538 : Cond.methodLink R_SF 24 arraycopyName ∈ gtbl := gmem (List.mem_append_right _ (List.mem_of_getElem? (i := 538) (by decide +kernel))) rfl
set_option maxRecDepth 20000 in
theorem kt_539 : Cond.methodLink R_SF 30 y_Net_everyNode ∈ gtbl := gmem (List.mem_append_right _ (List.mem_of_getElem? (i := 539) (by decide +kernel))) rfl
set_option maxRecDepth 20000 in
theorem kt_540 : Cond.methodLink R_SF 34 y_SF_greatest ∈ gtbl := gmem (List.mem_append_right _ (List.mem_of_getElem? (i := 540) (by decide +kernel))) rfl
set_option maxRecDepth 20000 in
theorem kt_542 : Cond.instanceMethod y_SF_greatest ∈ gtbl := gmem (List.mem_append_right _ (List.mem_of_getElem? (i := 542) (by decide +kernel))) rfl
set_option maxRecDepth 20000 in
theorem kt_543 : Cond.code y_SF_greatest prog_7_method_4_code 2 (some .int) ∈ gtbl := gmem (List.mem_append_right _ (List.mem_of_getElem? (i := 543) (by decide +kernel))) rfl
set_option maxRecDepth 20000 in
theorem kt_544 : Cond.methodLink R_SF 41 y_SF_grow ∈ gtbl := gmem (List.mem_append_right _ (List.mem_of_getElem? (i := 544) (by decide +kernel))) rfl
set_option maxRecDepth 20000 in
theorem kt_546 : Cond.instanceMethod y_SF_grow ∈ gtbl := gmem (List.mem_append_right _ (List.mem_of_getElem? (i := 546) (by decide +kernel))) rfl
set_option maxRecDepth 20000 in
theorem kt_547 : Cond.code y_SF_grow prog_7_method_5_code 6 none ∈ gtbl := gmem (List.mem_append_right _ (List.mem_of_getElem? (i := 547) (by decide +kernel))) rfl
set_option maxRecDepth 20000 in
theorem kt_548 : Cond.methodLink R_SF 45 y_Int_bitCount ∈ gtbl := gmem (List.mem_append_right _ (List.mem_of_getElem? (i := 548) (by decide +kernel))) rfl
set_option maxRecDepth 20000 in
theorem kt_553 : Cond.methodLink R_CS 170 y_SF_greatestApart ∈ gtbl := gmem (List.mem_append_right _ (List.mem_of_getElem? (i := 553) (by decide +kernel))) rfl
set_option maxRecDepth 20000 in
theorem kt_554 : Cond.instanceMethod y_SF_greatestApart ∈ gtbl := gmem (List.mem_append_right _ (List.mem_of_getElem? (i := 554) (by decide +kernel))) rfl
set_option maxRecDepth 20000 in
theorem kt_555 : Cond.selects R_SF y_SF_greatestApart y_SF_greatestApart ∈ gtbl := gmem (List.mem_append_right _ (List.mem_of_getElem? (i := 555) (by decide +kernel))) rfl
set_option maxRecDepth 20000 in
theorem kt_556 : Cond.code y_SF_greatestApart prog_7_method_3_code 3 (some .int) ∈ gtbl := gmem (List.mem_append_right _ (List.mem_of_getElem? (i := 556) (by decide +kernel))) rfl
set_option maxRecDepth 20000 in
theorem kt_561 : Cond.methodLink R_CS 173 y_TA_run ∈ gtbl := gmem (List.mem_append_right _ (List.mem_of_getElem? (i := 561) (by decide +kernel))) rfl
set_option maxRecDepth 20000 in
theorem kt_562 : Cond.instanceMethod y_TA_run ∈ gtbl := gmem (List.mem_append_right _ (List.mem_of_getElem? (i := 562) (by decide +kernel))) rfl
set_option maxRecDepth 20000 in
theorem kt_563 : Cond.selects R_TA y_TA_run y_TA_run ∈ gtbl := gmem (List.mem_append_right _ (List.mem_of_getElem? (i := 563) (by decide +kernel))) rfl
set_option maxRecDepth 20000 in
theorem kt_564 : Cond.code y_TA_run prog_8_method_2_code 4 none ∈ gtbl := gmem (List.mem_append_right _ (List.mem_of_getElem? (i := 564) (by decide +kernel))) rfl
set_option maxRecDepth 20000 in
theorem kt_565 : Cond.methodLink R_TA 19 y_Net_everyNode ∈ gtbl := gmem (List.mem_append_right _ (List.mem_of_getElem? (i := 565) (by decide +kernel))) rfl
set_option maxRecDepth 20000 in
theorem kt_566 : Cond.methodLink R_TA 31 y_TA_lowestLoose ∈ gtbl := gmem (List.mem_append_right _ (List.mem_of_getElem? (i := 566) (by decide +kernel))) rfl
set_option maxRecDepth 20000 in
theorem kt_568 : Cond.instanceMethod y_TA_lowestLoose ∈ gtbl := gmem (List.mem_append_right _ (List.mem_of_getElem? (i := 568) (by decide +kernel))) rfl
set_option maxRecDepth 20000 in
theorem kt_569 : Cond.code y_TA_lowestLoose prog_8_method_4_code 3 (some .int) ∈ gtbl := gmem (List.mem_append_right _ (List.mem_of_getElem? (i := 569) (by decide +kernel))) rfl
set_option maxRecDepth 20000 in
theorem kt_570 : Cond.methodLink R_TA 38 y_Net_allNear ∈ gtbl := gmem (List.mem_append_right _ (List.mem_of_getElem? (i := 570) (by decide +kernel))) rfl
set_option maxRecDepth 20000 in
theorem kt_583 : Cond.methodLink R_CS 185 y_Gr_run ∈ gtbl := gmem (List.mem_append_right _ (List.mem_of_getElem? (i := 583) (by decide +kernel))) rfl
set_option maxRecDepth 20000 in
theorem kt_584 : Cond.instanceMethod y_Gr_run ∈ gtbl := gmem (List.mem_append_right _ (List.mem_of_getElem? (i := 584) (by decide +kernel))) rfl
set_option maxRecDepth 20000 in
theorem kt_585 : Cond.selects R_Gr y_Gr_run y_Gr_run ∈ gtbl := gmem (List.mem_append_right _ (List.mem_of_getElem? (i := 585) (by decide +kernel))) rfl
set_option maxRecDepth 20000 in
theorem kt_586 : Cond.code y_Gr_run prog_2_method_3_code 6 (some .int) ∈ gtbl := gmem (List.mem_append_right _ (List.mem_of_getElem? (i := 586) (by decide +kernel))) rfl
set_option maxRecDepth 20000 in
theorem kt_587 : Cond.methodLink R_Gr 24 y_Gr_peel ∈ gtbl := gmem (List.mem_append_right _ (List.mem_of_getElem? (i := 587) (by decide +kernel))) rfl
set_option maxRecDepth 20000 in
theorem kt_589 : Cond.instanceMethod y_Gr_peel ∈ gtbl := gmem (List.mem_append_right _ (List.mem_of_getElem? (i := 589) (by decide +kernel))) rfl
set_option maxRecDepth 20000 in
theorem kt_590 : Cond.code y_Gr_peel prog_2_method_7_code 8 none ∈ gtbl := gmem (List.mem_append_right _ (List.mem_of_getElem? (i := 590) (by decide +kernel))) rfl
set_option maxRecDepth 20000 in
theorem kt_591 : Cond.methodLink R_Gr 58 y_Net_everyNode ∈ gtbl := gmem (List.mem_append_right _ (List.mem_of_getElem? (i := 591) (by decide +kernel))) rfl
set_option maxRecDepth 20000 in
theorem kt_592 : Cond.methodLink R_Gr 46 y_Int_bitCount ∈ gtbl := gmem (List.mem_append_right _ (List.mem_of_getElem? (i := 592) (by decide +kernel))) rfl
set_option maxRecDepth 20000 in
theorem kt_593 : Cond.methodLink R_Gr 34 y_Gr_next ∈ gtbl := gmem (List.mem_append_right _ (List.mem_of_getElem? (i := 593) (by decide +kernel))) rfl
set_option maxRecDepth 20000 in
theorem kt_595 : Cond.instanceMethod y_Gr_next ∈ gtbl := gmem (List.mem_append_right _ (List.mem_of_getElem? (i := 595) (by decide +kernel))) rfl
set_option maxRecDepth 20000 in
theorem kt_596 : Cond.code y_Gr_next prog_2_method_4_code 4 (some .int) ∈ gtbl := gmem (List.mem_append_right _ (List.mem_of_getElem? (i := 596) (by decide +kernel))) rfl
set_option maxRecDepth 20000 in
theorem kt_597 : Cond.methodLink R_Gr 51 y_Gr_nextByRank ∈ gtbl := gmem (List.mem_append_right _ (List.mem_of_getElem? (i := 597) (by decide +kernel))) rfl
set_option maxRecDepth 20000 in
theorem kt_599 : Cond.instanceMethod y_Gr_nextByRank ∈ gtbl := gmem (List.mem_append_right _ (List.mem_of_getElem? (i := 599) (by decide +kernel))) rfl
set_option maxRecDepth 20000 in
theorem kt_600 : Cond.code y_Gr_nextByRank prog_2_method_5_code 7 (some .int) ∈ gtbl := gmem (List.mem_append_right _ (List.mem_of_getElem? (i := 600) (by decide +kernel))) rfl
set_option maxRecDepth 20000 in
theorem kt_601 : Cond.methodLink R_Gr 38 y_Gr_coloursNear ∈ gtbl := gmem (List.mem_append_right _ (List.mem_of_getElem? (i := 601) (by decide +kernel))) rfl
set_option maxRecDepth 20000 in
theorem kt_603 : Cond.instanceMethod y_Gr_coloursNear ∈ gtbl := gmem (List.mem_append_right _ (List.mem_of_getElem? (i := 603) (by decide +kernel))) rfl
set_option maxRecDepth 20000 in
theorem kt_604 : Cond.code y_Gr_coloursNear prog_2_method_6_code 5 (some .int) ∈ gtbl := gmem (List.mem_append_right _ (List.mem_of_getElem? (i := 604) (by decide +kernel))) rfl
set_option maxRecDepth 20000 in
theorem kt_605 : Cond.methodLinkNest R_Gr 42 y_CS_lowestOf R_CS ∈ nestw := List.mem_of_getElem? (i := 8) rfl
set_option maxRecDepth 20000 in
theorem kt_614 : Cond.methodLink R_CS 191 y_CS_isColour ∈ gtbl := gmem (List.mem_append_right _ (List.mem_of_getElem? (i := 614) (by decide +kernel))) rfl
set_option maxRecDepth 20000 in
theorem kt_615 : Cond.static y_CS_isColour ∈ gtbl := gmem (List.mem_append_right _ (List.mem_of_getElem? (i := 615) (by decide +kernel))) rfl
set_option maxRecDepth 20000 in
theorem kt_616 : Cond.code y_CS_isColour prog_1_method_29_code 1 (some .boolean) ∈ gtbl := gmem (List.mem_append_right _ (List.mem_of_getElem? (i := 616) (by decide +kernel))) rfl
set_option maxRecDepth 20000 in
theorem kt_629 : Cond.methodLink R_CS 200 y_CS_triedWith ∈ gtbl := gmem (List.mem_append_right _ (List.mem_of_getElem? (i := 629) (by decide +kernel))) rfl
set_option maxRecDepth 20000 in
theorem kt_631 : Cond.instanceMethod y_CS_triedWith ∈ gtbl := gmem (List.mem_append_right _ (List.mem_of_getElem? (i := 631) (by decide +kernel))) rfl
set_option maxRecDepth 20000 in
theorem kt_632 : Cond.code y_CS_triedWith prog_1_method_34_code 4 (some .int) ∈ gtbl := gmem (List.mem_append_right _ (List.mem_of_getElem? (i := 632) (by decide +kernel))) rfl
set_option maxRecDepth 20000 in
theorem kt_633 : Cond.methodLink R_CS 204 y_Net_partOf ∈ gtbl := gmem (List.mem_append_right _ (List.mem_of_getElem? (i := 633) (by decide +kernel))) rfl
set_option maxRecDepth 20000 in
theorem kt_638 : Cond.methodLink R_CS 151 y_Net_mostNear ∈ gtbl := gmem (List.mem_append_right _ (List.mem_of_getElem? (i := 638) (by decide +kernel))) rfl
set_option maxRecDepth 20000 in
theorem kt_639 : Cond.instanceMethod y_Net_mostNear ∈ gtbl := gmem (List.mem_append_right _ (List.mem_of_getElem? (i := 639) (by decide +kernel))) rfl
set_option maxRecDepth 20000 in
theorem kt_640 : Cond.selects R_Net y_Net_mostNear y_Net_mostNear ∈ gtbl := gmem (List.mem_append_right _ (List.mem_of_getElem? (i := 640) (by decide +kernel))) rfl
set_option maxRecDepth 20000 in
theorem kt_641 : Cond.code y_Net_mostNear prog_4_method_9_code 3 (some .int) ∈ gtbl := gmem (List.mem_append_right _ (List.mem_of_getElem? (i := 641) (by decide +kernel))) rfl
set_option maxRecDepth 20000 in
theorem kt_642 : Cond.methodLink R_Net 41 y_Int_bitCount ∈ gtbl := gmem (List.mem_append_right _ (List.mem_of_getElem? (i := 642) (by decide +kernel))) rfl
set_option maxRecDepth 20000 in
theorem kt_643 : Cond.methodLink R_Net 47 Lib.Math.max.name ∈ gtbl := gmem (List.mem_append_right _ (List.mem_of_getElem? (i := 643) (by decide +kernel))) rfl
set_option maxRecDepth 20000 in
theorem kt_644 : Cond.static Lib.Math.max.name ∈ gtbl := gmem (List.mem_append_right _ (List.mem_of_getElem? (i := 644) (by decide +kernel))) rfl
set_option maxRecDepth 20000 in
theorem kt_646 : Cond.methodLink R_CS 212 y_Net_countParts ∈ gtbl := gmem (List.mem_append_right _ (List.mem_of_getElem? (i := 646) (by decide +kernel))) rfl
set_option maxRecDepth 20000 in
theorem kt_647 : Cond.instanceMethod y_Net_countParts ∈ gtbl := gmem (List.mem_append_right _ (List.mem_of_getElem? (i := 647) (by decide +kernel))) rfl
set_option maxRecDepth 20000 in
theorem kt_648 : Cond.selects R_Net y_Net_countParts y_Net_countParts ∈ gtbl := gmem (List.mem_append_right _ (List.mem_of_getElem? (i := 648) (by decide +kernel))) rfl
set_option maxRecDepth 20000 in
theorem kt_649 : Cond.code y_Net_countParts prog_4_method_12_code 4 (some .int) ∈ gtbl := gmem (List.mem_append_right _ (List.mem_of_getElem? (i := 649) (by decide +kernel))) rfl
set_option maxRecDepth 20000 in
theorem kt_650 : Cond.methodLink R_Net 53 y_Net_everyNode ∈ gtbl := gmem (List.mem_append_right _ (List.mem_of_getElem? (i := 650) (by decide +kernel))) rfl
set_option maxRecDepth 20000 in
theorem kt_651 : Cond.methodLink R_Net 57 y_Net_partOf ∈ gtbl := gmem (List.mem_append_right _ (List.mem_of_getElem? (i := 651) (by decide +kernel))) rfl
set_option maxRecDepth 20000 in
theorem kt_652 : Cond.methodLink R_CS 215 y_CS_countTriedColours ∈ gtbl := gmem (List.mem_append_right _ (List.mem_of_getElem? (i := 652) (by decide +kernel))) rfl
set_option maxRecDepth 20000 in
theorem kt_654 : Cond.instanceMethod y_CS_countTriedColours ∈ gtbl := gmem (List.mem_append_right _ (List.mem_of_getElem? (i := 654) (by decide +kernel))) rfl
set_option maxRecDepth 20000 in
theorem kt_655 : Cond.code y_CS_countTriedColours prog_1_method_35_code 3 (some .int) ∈ gtbl := gmem (List.mem_append_right _ (List.mem_of_getElem? (i := 655) (by decide +kernel))) rfl
set_option maxRecDepth 20000 in
theorem kt_660 : Cond.methodLink R_CS 218 y_Net_removeAll ∈ gtbl := gmem (List.mem_append_right _ (List.mem_of_getElem? (i := 660) (by decide +kernel))) rfl
set_option maxRecDepth 20000 in
theorem kt_661 : Cond.instanceMethod y_Net_removeAll ∈ gtbl := gmem (List.mem_append_right _ (List.mem_of_getElem? (i := 661) (by decide +kernel))) rfl
set_option maxRecDepth 20000 in
theorem kt_662 : Cond.selects R_Net y_Net_removeAll y_Net_removeAll ∈ gtbl := gmem (List.mem_append_right _ (List.mem_of_getElem? (i := 662) (by decide +kernel))) rfl
set_option maxRecDepth 20000 in
theorem kt_663 : Cond.code y_Net_removeAll prog_4_method_8_code 1 none ∈ gtbl := gmem (List.mem_append_right _ (List.mem_of_getElem? (i := 663) (by decide +kernel))) rfl
set_option maxRecDepth 20000 in
theorem kt_664 : Cond.methodLink R_Net 35 y_Arr_fillI ∈ gtbl := gmem (List.mem_append_right _ (List.mem_of_getElem? (i := 664) (by decide +kernel))) rfl
set_option maxRecDepth 20000 in
theorem kt_665 : Cond.methodLink R_CS 221 y_TA_forget ∈ gtbl := gmem (List.mem_append_right _ (List.mem_of_getElem? (i := 665) (by decide +kernel))) rfl
set_option maxRecDepth 20000 in
theorem kt_666 : Cond.instanceMethod y_TA_forget ∈ gtbl := gmem (List.mem_append_right _ (List.mem_of_getElem? (i := 666) (by decide +kernel))) rfl
set_option maxRecDepth 20000 in
theorem kt_667 : Cond.selects R_TA y_TA_forget y_TA_forget ∈ gtbl := gmem (List.mem_append_right _ (List.mem_of_getElem? (i := 667) (by decide +kernel))) rfl
set_option maxRecDepth 20000 in
theorem kt_668 : Cond.code y_TA_forget prog_8_method_3_code 1 none ∈ gtbl := gmem (List.mem_append_right _ (List.mem_of_getElem? (i := 668) (by decide +kernel))) rfl
set_option maxRecDepth 20000 in
theorem kt_669 : Cond.methodLink R_CS 224 y_Gr_forget ∈ gtbl := gmem (List.mem_append_right _ (List.mem_of_getElem? (i := 669) (by decide +kernel))) rfl
set_option maxRecDepth 20000 in
theorem kt_670 : Cond.instanceMethod y_Gr_forget ∈ gtbl := gmem (List.mem_append_right _ (List.mem_of_getElem? (i := 670) (by decide +kernel))) rfl
set_option maxRecDepth 20000 in
theorem kt_671 : Cond.selects R_Gr y_Gr_forget y_Gr_forget ∈ gtbl := gmem (List.mem_append_right _ (List.mem_of_getElem? (i := 671) (by decide +kernel))) rfl
set_option maxRecDepth 20000 in
theorem kt_672 : Cond.code y_Gr_forget prog_2_method_2_code 1 none ∈ gtbl := gmem (List.mem_append_right _ (List.mem_of_getElem? (i := 672) (by decide +kernel))) rfl
set_option maxRecDepth 20000 in
theorem kt_751 : Cond.methodLink R_Pai 52 Lib.Math.min.name ∈ gtbl := gmem (List.mem_append_right _ (List.mem_of_getElem? (i := 751) (by decide +kernel))) rfl
set_option maxRecDepth 20000 in
theorem kt_752 : Cond.static Lib.Math.min.name ∈ gtbl := gmem (List.mem_append_right _ (List.mem_of_getElem? (i := 752) (by decide +kernel))) rfl
set_option maxRecDepth 20000 in
theorem kt_759 : Cond.methodLink R_Mo 1 objectInit ∈ gtbl := gmem (List.mem_append_right _ (List.mem_of_getElem? (i := 759) (by decide +kernel))) rfl
set_option maxRecDepth 20000 in
theorem kt_760 : Cond.constant R_Mo 48 53248 ∈ gtbl := gmem (List.mem_append_right _ (List.mem_of_getElem? (i := 760) (by decide +kernel))) rfl
set_option maxRecDepth 20000 in
theorem kt_761 : Cond.methodLink R_Mo 76 y_Mo_clear ∈ gtbl := gmem (List.mem_append_right _ (List.mem_of_getElem? (i := 761) (by decide +kernel))) rfl
set_option maxRecDepth 20000 in
theorem kt_762 : Cond.instanceMethod y_Mo_clear ∈ gtbl := gmem (List.mem_append_right _ (List.mem_of_getElem? (i := 762) (by decide +kernel))) rfl
set_option maxRecDepth 20000 in
theorem kt_763 : Cond.selects R_Mo y_Mo_clear y_Mo_clear ∈ gtbl := gmem (List.mem_append_right _ (List.mem_of_getElem? (i := 763) (by decide +kernel))) rfl
set_option maxRecDepth 20000 in
theorem kt_764 : Cond.code y_Mo_clear prog_10_method_3_code 2 none ∈ gtbl := gmem (List.mem_append_right _ (List.mem_of_getElem? (i := 764) (by decide +kernel))) rfl
set_option maxRecDepth 20000 in
theorem kt_765 : Cond.methodLink R_Mo 83 y_Mo_changed ∈ gtbl := gmem (List.mem_append_right _ (List.mem_of_getElem? (i := 765) (by decide +kernel))) rfl
set_option maxRecDepth 20000 in
theorem kt_767 : Cond.instanceMethod y_Mo_changed ∈ gtbl := gmem (List.mem_append_right _ (List.mem_of_getElem? (i := 767) (by decide +kernel))) rfl
set_option maxRecDepth 20000 in
theorem kt_768 : Cond.code y_Mo_changed prog_10_method_18_code 1 none ∈ gtbl := gmem (List.mem_append_right _ (List.mem_of_getElem? (i := 768) (by decide +kernel))) rfl
set_option maxRecDepth 20000 in
theorem kt_769 : Cond.fieldLink R_Mo 79 "ColourSearchModel" "thrown" "I" ∈ gtbl := gmem (List.mem_append_right _ (List.mem_of_getElem? (i := 769) (by decide +kernel))) rfl
set_option maxRecDepth 20000 in
theorem kt_770 : Cond.fieldLink R_Mo 86 "ColourSearchModel" "nodes" "I" ∈ gtbl := gmem (List.mem_append_right _ (List.mem_of_getElem? (i := 770) (by decide +kernel))) rfl
set_option maxRecDepth 20000 in
theorem kt_771 : Cond.fieldLink R_Mo 89 "ColourSearchModel" "arcs" "I" ∈ gtbl := gmem (List.mem_append_right _ (List.mem_of_getElem? (i := 771) (by decide +kernel))) rfl
set_option maxRecDepth 20000 in
theorem kt_772 : Cond.fieldLink R_Mo 7 "ColourSearchModel" "from" "[I" ∈ gtbl := gmem (List.mem_append_right _ (List.mem_of_getElem? (i := 772) (by decide +kernel))) rfl
set_option maxRecDepth 20000 in
theorem kt_773 : Cond.fieldLink R_Mo 13 "ColourSearchModel" "to" "[I" ∈ gtbl := gmem (List.mem_append_right _ (List.mem_of_getElem? (i := 773) (by decide +kernel))) rfl
set_option maxRecDepth 20000 in
theorem kt_774 : Cond.fieldLink R_Mo 16 "ColourSearchModel" "near" "[I" ∈ gtbl := gmem (List.mem_append_right _ (List.mem_of_getElem? (i := 774) (by decide +kernel))) rfl
set_option maxRecDepth 20000 in
theorem kt_775 : Cond.fieldLink R_Mo 19 "ColourSearchModel" "lists" "[I" ∈ gtbl := gmem (List.mem_append_right _ (List.mem_of_getElem? (i := 775) (by decide +kernel))) rfl
set_option maxRecDepth 20000 in
theorem kt_776 : Cond.fieldLink R_Mo 22 "ColourSearchModel" "colours" "[I" ∈ gtbl := gmem (List.mem_append_right _ (List.mem_of_getElem? (i := 776) (by decide +kernel))) rfl
set_option maxRecDepth 20000 in
theorem kt_777 : Cond.fieldLink R_Mo 25 "ColourSearchModel" "shades" "[I" ∈ gtbl := gmem (List.mem_append_right _ (List.mem_of_getElem? (i := 777) (by decide +kernel))) rfl
set_option maxRecDepth 20000 in
theorem kt_778 : Cond.fieldLink R_Mo 28 "ColourSearchModel" "tints" "[I" ∈ gtbl := gmem (List.mem_append_right _ (List.mem_of_getElem? (i := 778) (by decide +kernel))) rfl
set_option maxRecDepth 20000 in
theorem kt_779 : Cond.fieldLink R_Mo 31 "ColourSearchModel" "attempt" "[I" ∈ gtbl := gmem (List.mem_append_right _ (List.mem_of_getElem? (i := 779) (by decide +kernel))) rfl
set_option maxRecDepth 20000 in
theorem kt_780 : Cond.fieldLink R_Mo 92 "ColourSearchModel" "takenMany" "I" ∈ gtbl := gmem (List.mem_append_right _ (List.mem_of_getElem? (i := 780) (by decide +kernel))) rfl
set_option maxRecDepth 20000 in
theorem kt_781 : Cond.fieldLink R_Mo 34 "ColourSearchModel" "taken" "[I" ∈ gtbl := gmem (List.mem_append_right _ (List.mem_of_getElem? (i := 781) (by decide +kernel))) rfl
set_option maxRecDepth 20000 in
theorem kt_782 : Cond.fieldLink R_Mo 95 "ColourSearchModel" "leftBits" "I" ∈ gtbl := gmem (List.mem_append_right _ (List.mem_of_getElem? (i := 782) (by decide +kernel))) rfl
set_option maxRecDepth 20000 in
theorem kt_783 : Cond.fieldLink R_Mo 37 "ColourSearchModel" "isApart" "[Z" ∈ gtbl := gmem (List.mem_append_right _ (List.mem_of_getElem? (i := 783) (by decide +kernel))) rfl
set_option maxRecDepth 20000 in
theorem kt_784 : Cond.fieldLink R_Mo 41 "ColourSearchModel" "ways" "[J" ∈ gtbl := gmem (List.mem_append_right _ (List.mem_of_getElem? (i := 784) (by decide +kernel))) rfl
set_option maxRecDepth 20000 in
theorem kt_785 : Cond.fieldLink R_Mo 45 "ColourSearchModel" "next" "[J" ∈ gtbl := gmem (List.mem_append_right _ (List.mem_of_getElem? (i := 785) (by decide +kernel))) rfl
set_option maxRecDepth 20000 in
theorem kt_786 : Cond.fieldLink R_Mo 49 "ColourSearchModel" "splits" "[J" ∈ gtbl := gmem (List.mem_append_right _ (List.mem_of_getElem? (i := 786) (by decide +kernel))) rfl
set_option maxRecDepth 20000 in
theorem kt_787 : Cond.fieldLink R_Mo 52 "ColourSearchModel" "powers" "[J" ∈ gtbl := gmem (List.mem_append_right _ (List.mem_of_getElem? (i := 787) (by decide +kernel))) rfl
set_option maxRecDepth 20000 in
theorem kt_788 : Cond.fieldLink R_Mo 55 "ColourSearchModel" "row" "[I" ∈ gtbl := gmem (List.mem_append_right _ (List.mem_of_getElem? (i := 788) (by decide +kernel))) rfl
set_option maxRecDepth 20000 in
theorem kt_789 : Cond.fieldLink R_Mo 58 "ColourSearchModel" "many" "[I" ∈ gtbl := gmem (List.mem_append_right _ (List.mem_of_getElem? (i := 789) (by decide +kernel))) rfl
set_option maxRecDepth 20000 in
theorem kt_790 : Cond.fieldLink R_Mo 120 "ColourSearchModel" "hasPolynomial" "Z" ∈ gtbl := gmem (List.mem_append_right _ (List.mem_of_getElem? (i := 790) (by decide +kernel))) rfl
set_option maxRecDepth 20000 in
theorem kt_791 : Cond.fieldLink R_Mo 124 "ColourSearchModel" "hasLists" "Z" ∈ gtbl := gmem (List.mem_append_right _ (List.mem_of_getElem? (i := 791) (by decide +kernel))) rfl
set_option maxRecDepth 20000 in
theorem kt_792 : Cond.fieldLink R_Mo 61 "ColourSearchModel" "can" "[Z" ∈ gtbl := gmem (List.mem_append_right _ (List.mem_of_getElem? (i := 792) (by decide +kernel))) rfl
set_option maxRecDepth 20000 in
theorem kt_793 : Cond.fieldLink R_Mo 64 "ColourSearchModel" "could" "[Z" ∈ gtbl := gmem (List.mem_append_right _ (List.mem_of_getElem? (i := 793) (by decide +kernel))) rfl
set_option maxRecDepth 20000 in
theorem kt_794 : Cond.fieldLink R_Mo 67 "ColourSearchModel" "arcRow" "[I" ∈ gtbl := gmem (List.mem_append_right _ (List.mem_of_getElem? (i := 794) (by decide +kernel))) rfl
set_option maxRecDepth 20000 in
theorem kt_795 : Cond.fieldLink R_Mo 70 "ColourSearchModel" "order" "[I" ∈ gtbl := gmem (List.mem_append_right _ (List.mem_of_getElem? (i := 795) (by decide +kernel))) rfl
set_option maxRecDepth 20000 in
theorem kt_796 : Cond.fieldLink R_Mo 73 "ColourSearchModel" "isOut" "[Z" ∈ gtbl := gmem (List.mem_append_right _ (List.mem_of_getElem? (i := 796) (by decide +kernel))) rfl
set_option maxRecDepth 20000 in
theorem kt_868 : Cond.methodLink R_Mo 98 y_Mo_isNode ∈ gtbl := gmem (List.mem_append_right _ (List.mem_of_getElem? (i := 868) (by decide +kernel))) rfl
set_option maxRecDepth 20000 in
theorem kt_870 : Cond.instanceMethod y_Mo_isNode ∈ gtbl := gmem (List.mem_append_right _ (List.mem_of_getElem? (i := 870) (by decide +kernel))) rfl
set_option maxRecDepth 20000 in
theorem kt_871 : Cond.code y_Mo_isNode prog_10_method_4_code 2 (some .boolean) ∈ gtbl := gmem (List.mem_append_right _ (List.mem_of_getElem? (i := 871) (by decide +kernel))) rfl
set_option maxRecDepth 20000 in
theorem kt_880 : Cond.methodLink R_Mo 112 y_Mo_search ∈ gtbl := gmem (List.mem_append_right _ (List.mem_of_getElem? (i := 880) (by decide +kernel))) rfl
set_option maxRecDepth 20000 in
theorem kt_882 : Cond.instanceMethod y_Mo_search ∈ gtbl := gmem (List.mem_append_right _ (List.mem_of_getElem? (i := 882) (by decide +kernel))) rfl
set_option maxRecDepth 20000 in
theorem kt_883 : Cond.code y_Mo_search prog_10_method_12_code 7 (some .boolean) ∈ gtbl := gmem (List.mem_append_right _ (List.mem_of_getElem? (i := 883) (by decide +kernel))) rfl
set_option maxRecDepth 20000 in
theorem kt_884 : Cond.methodLink R_Mo 102 y_Mo_fits ∈ gtbl := gmem (List.mem_append_right _ (List.mem_of_getElem? (i := 884) (by decide +kernel))) rfl
set_option maxRecDepth 20000 in
theorem kt_886 : Cond.instanceMethod y_Mo_fits ∈ gtbl := gmem (List.mem_append_right _ (List.mem_of_getElem? (i := 886) (by decide +kernel))) rfl
set_option maxRecDepth 20000 in
theorem kt_887 : Cond.code y_Mo_fits prog_10_method_10_code 5 (some .boolean) ∈ gtbl := gmem (List.mem_append_right _ (List.mem_of_getElem? (i := 887) (by decide +kernel))) rfl
set_option maxRecDepth 20000 in
theorem kt_888 : Cond.methodLink R_Mo 106 y_Mo_isEven ∈ gtbl := gmem (List.mem_append_right _ (List.mem_of_getElem? (i := 888) (by decide +kernel))) rfl
set_option maxRecDepth 20000 in
theorem kt_890 : Cond.instanceMethod y_Mo_isEven ∈ gtbl := gmem (List.mem_append_right _ (List.mem_of_getElem? (i := 890) (by decide +kernel))) rfl
set_option maxRecDepth 20000 in
theorem kt_891 : Cond.code y_Mo_isEven prog_10_method_11_code 7 (some .boolean) ∈ gtbl := gmem (List.mem_append_right _ (List.mem_of_getElem? (i := 891) (by decide +kernel))) rfl
set_option maxRecDepth 20000 in
theorem kt_892 : Cond.methodLink R_Mo 109 y_Mo_isNewTwice ∈ gtbl := gmem (List.mem_append_right _ (List.mem_of_getElem? (i := 892) (by decide +kernel))) rfl
set_option maxRecDepth 20000 in
theorem kt_894 : Cond.instanceMethod y_Mo_isNewTwice ∈ gtbl := gmem (List.mem_append_right _ (List.mem_of_getElem? (i := 894) (by decide +kernel))) rfl
set_option maxRecDepth 20000 in
theorem kt_895 : Cond.code y_Mo_isNewTwice prog_10_method_13_code 7 (some .boolean) ∈ gtbl := gmem (List.mem_append_right _ (List.mem_of_getElem? (i := 895) (by decide +kernel))) rfl
set_option maxRecDepth 20000 in
theorem kt_896 : Cond.methodLink R_Mo 116 y_Mo_keepColours ∈ gtbl := gmem (List.mem_append_right _ (List.mem_of_getElem? (i := 896) (by decide +kernel))) rfl
set_option maxRecDepth 20000 in
theorem kt_898 : Cond.instanceMethod y_Mo_keepColours ∈ gtbl := gmem (List.mem_append_right _ (List.mem_of_getElem? (i := 898) (by decide +kernel))) rfl
set_option maxRecDepth 20000 in
theorem kt_899 : Cond.code y_Mo_keepColours prog_10_method_14_code 3 none ∈ gtbl := gmem (List.mem_append_right _ (List.mem_of_getElem? (i := 899) (by decide +kernel))) rfl
set_option maxRecDepth 20000 in
theorem kt_912 : Cond.methodLink R_Mo 130 y_Mo_polynomial ∈ gtbl := gmem (List.mem_append_right _ (List.mem_of_getElem? (i := 912) (by decide +kernel))) rfl
set_option maxRecDepth 20000 in
theorem kt_914 : Cond.instanceMethod y_Mo_polynomial ∈ gtbl := gmem (List.mem_append_right _ (List.mem_of_getElem? (i := 914) (by decide +kernel))) rfl
set_option maxRecDepth 20000 in
theorem kt_915 : Cond.code y_Mo_polynomial prog_10_method_19_code 8 none ∈ gtbl := gmem (List.mem_append_right _ (List.mem_of_getElem? (i := 915) (by decide +kernel))) rfl
set_option maxRecDepth 20000 in
theorem kt_916 : Cond.methodLink R_Mo 127 y_Mo_sets ∈ gtbl := gmem (List.mem_append_right _ (List.mem_of_getElem? (i := 916) (by decide +kernel))) rfl
set_option maxRecDepth 20000 in
theorem kt_918 : Cond.instanceMethod y_Mo_sets ∈ gtbl := gmem (List.mem_append_right _ (List.mem_of_getElem? (i := 918) (by decide +kernel))) rfl
set_option maxRecDepth 20000 in
theorem kt_919 : Cond.code y_Mo_sets prog_10_method_9_code 4 none ∈ gtbl := gmem (List.mem_append_right _ (List.mem_of_getElem? (i := 919) (by decide +kernel))) rfl
set_option maxRecDepth 20000 in
theorem kt_932 : Cond.methodLink R_Mo 133 y_Mo_canGoOn ∈ gtbl := gmem (List.mem_append_right _ (List.mem_of_getElem? (i := 932) (by decide +kernel))) rfl
set_option maxRecDepth 20000 in
theorem kt_934 : Cond.instanceMethod y_Mo_canGoOn ∈ gtbl := gmem (List.mem_append_right _ (List.mem_of_getElem? (i := 934) (by decide +kernel))) rfl
set_option maxRecDepth 20000 in
theorem kt_935 : Cond.code y_Mo_canGoOn prog_10_method_24_code 8 (some .boolean) ∈ gtbl := gmem (List.mem_append_right _ (List.mem_of_getElem? (i := 935) (by decide +kernel))) rfl
set_option maxRecDepth 20000 in
theorem kt_940 : Cond.methodLink R_Mo 136 y_Mo_byLists ∈ gtbl := gmem (List.mem_append_right _ (List.mem_of_getElem? (i := 940) (by decide +kernel))) rfl
set_option maxRecDepth 20000 in
theorem kt_942 : Cond.instanceMethod y_Mo_byLists ∈ gtbl := gmem (List.mem_append_right _ (List.mem_of_getElem? (i := 942) (by decide +kernel))) rfl
set_option maxRecDepth 20000 in
theorem kt_943 : Cond.code y_Mo_byLists prog_10_method_25_code 10 none ∈ gtbl := gmem (List.mem_append_right _ (List.mem_of_getElem? (i := 943) (by decide +kernel))) rfl
set_option maxRecDepth 20000 in
theorem kt_952 : Cond.methodLink R_Mo 142 y_Mo_searchArcs ∈ gtbl := gmem (List.mem_append_right _ (List.mem_of_getElem? (i := 952) (by decide +kernel))) rfl
set_option maxRecDepth 20000 in
theorem kt_954 : Cond.instanceMethod y_Mo_searchArcs ∈ gtbl := gmem (List.mem_append_right _ (List.mem_of_getElem? (i := 954) (by decide +kernel))) rfl
set_option maxRecDepth 20000 in
theorem kt_955 : Cond.code y_Mo_searchArcs prog_10_method_29_code 9 (some .boolean) ∈ gtbl := gmem (List.mem_append_right _ (List.mem_of_getElem? (i := 955) (by decide +kernel))) rfl
set_option maxRecDepth 20000 in
theorem kt_956 : Cond.methodLink R_Mo 139 y_Mo_meet ∈ gtbl := gmem (List.mem_append_right _ (List.mem_of_getElem? (i := 956) (by decide +kernel))) rfl
set_option maxRecDepth 20000 in
theorem kt_958 : Cond.instanceMethod y_Mo_meet ∈ gtbl := gmem (List.mem_append_right _ (List.mem_of_getElem? (i := 958) (by decide +kernel))) rfl
set_option maxRecDepth 20000 in
theorem kt_959 : Cond.code y_Mo_meet prog_10_method_28_code 3 (some .boolean) ∈ gtbl := gmem (List.mem_append_right _ (List.mem_of_getElem? (i := 959) (by decide +kernel))) rfl
set_option maxRecDepth 20000 in
theorem kt_968 : Cond.methodLink R_Mo 149 y_Mo_greatest ∈ gtbl := gmem (List.mem_append_right _ (List.mem_of_getElem? (i := 968) (by decide +kernel))) rfl
set_option maxRecDepth 20000 in
theorem kt_970 : Cond.instanceMethod y_Mo_greatest ∈ gtbl := gmem (List.mem_append_right _ (List.mem_of_getElem? (i := 970) (by decide +kernel))) rfl
set_option maxRecDepth 20000 in
theorem kt_971 : Cond.code y_Mo_greatest prog_10_method_32_code 8 (some .int) ∈ gtbl := gmem (List.mem_append_right _ (List.mem_of_getElem? (i := 971) (by decide +kernel))) rfl
set_option maxRecDepth 20000 in
theorem kt_972 : Cond.methodLink R_Mo 145 y_Mo_count ∈ gtbl := gmem (List.mem_append_right _ (List.mem_of_getElem? (i := 972) (by decide +kernel))) rfl
set_option maxRecDepth 20000 in
theorem kt_973 : Cond.static y_Mo_count ∈ gtbl := gmem (List.mem_append_right _ (List.mem_of_getElem? (i := 973) (by decide +kernel))) rfl
set_option maxRecDepth 20000 in
theorem kt_974 : Cond.code y_Mo_count prog_10_method_8_code 3 (some .int) ∈ gtbl := gmem (List.mem_append_right _ (List.mem_of_getElem? (i := 974) (by decide +kernel))) rfl
set_option maxRecDepth 20000 in
theorem kt_995 : Cond.methodLink R_Mo 156 y_Mo_orderByNear ∈ gtbl := gmem (List.mem_append_right _ (List.mem_of_getElem? (i := 995) (by decide +kernel))) rfl
set_option maxRecDepth 20000 in
theorem kt_997 : Cond.instanceMethod y_Mo_orderByNear ∈ gtbl := gmem (List.mem_append_right _ (List.mem_of_getElem? (i := 997) (by decide +kernel))) rfl
set_option maxRecDepth 20000 in
theorem kt_998 : Cond.code y_Mo_orderByNear prog_10_method_40_code 4 none ∈ gtbl := gmem (List.mem_append_right _ (List.mem_of_getElem? (i := 998) (by decide +kernel))) rfl
set_option maxRecDepth 20000 in
theorem kt_999 : Cond.methodLink R_Mo 159 y_Mo_orderBackwards ∈ gtbl := gmem (List.mem_append_right _ (List.mem_of_getElem? (i := 999) (by decide +kernel))) rfl
set_option maxRecDepth 20000 in
theorem kt_1001 : Cond.instanceMethod y_Mo_orderBackwards ∈ gtbl := gmem (List.mem_append_right _ (List.mem_of_getElem? (i := 1001) (by decide +kernel))) rfl
set_option maxRecDepth 20000 in
theorem kt_1002 : Cond.code y_Mo_orderBackwards prog_10_method_41_code 6 none ∈ gtbl := gmem (List.mem_append_right _ (List.mem_of_getElem? (i := 1002) (by decide +kernel))) rfl
set_option maxRecDepth 20000 in
theorem kt_1003 : Cond.methodLink R_Mo 162 y_Mo_nextByColours ∈ gtbl := gmem (List.mem_append_right _ (List.mem_of_getElem? (i := 1003) (by decide +kernel))) rfl
set_option maxRecDepth 20000 in
theorem kt_1005 : Cond.instanceMethod y_Mo_nextByColours ∈ gtbl := gmem (List.mem_append_right _ (List.mem_of_getElem? (i := 1005) (by decide +kernel))) rfl
set_option maxRecDepth 20000 in
theorem kt_1006 : Cond.code y_Mo_nextByColours prog_10_method_42_code 5 (some .int) ∈ gtbl := gmem (List.mem_append_right _ (List.mem_of_getElem? (i := 1006) (by decide +kernel))) rfl
set_option maxRecDepth 20000 in
theorem kt_1007 : Cond.methodLink R_Mo 153 y_Mo_different ∈ gtbl := gmem (List.mem_append_right _ (List.mem_of_getElem? (i := 1007) (by decide +kernel))) rfl
set_option maxRecDepth 20000 in
theorem kt_1009 : Cond.instanceMethod y_Mo_different ∈ gtbl := gmem (List.mem_append_right _ (List.mem_of_getElem? (i := 1009) (by decide +kernel))) rfl
set_option maxRecDepth 20000 in
theorem kt_1010 : Cond.code y_Mo_different prog_10_method_39_code 4 (some .int) ∈ gtbl := gmem (List.mem_append_right _ (List.mem_of_getElem? (i := 1010) (by decide +kernel))) rfl
set_option maxRecDepth 20000 in
theorem kt_1011 : Cond.methodLink R_Mo 166 y_Mo_tintNode ∈ gtbl := gmem (List.mem_append_right _ (List.mem_of_getElem? (i := 1011) (by decide +kernel))) rfl
set_option maxRecDepth 20000 in
theorem kt_1013 : Cond.instanceMethod y_Mo_tintNode ∈ gtbl := gmem (List.mem_append_right _ (List.mem_of_getElem? (i := 1013) (by decide +kernel))) rfl
set_option maxRecDepth 20000 in
theorem kt_1014 : Cond.code y_Mo_tintNode prog_10_method_38_code 4 none ∈ gtbl := gmem (List.mem_append_right _ (List.mem_of_getElem? (i := 1014) (by decide +kernel))) rfl
set_option maxRecDepth 20000 in
theorem kt_1039 : Cond.methodLink R_Mo 170 y_Mo_parts ∈ gtbl := gmem (List.mem_append_right _ (List.mem_of_getElem? (i := 1039) (by decide +kernel))) rfl
set_option maxRecDepth 20000 in
theorem kt_1041 : Cond.instanceMethod y_Mo_parts ∈ gtbl := gmem (List.mem_append_right _ (List.mem_of_getElem? (i := 1041) (by decide +kernel))) rfl
set_option maxRecDepth 20000 in
theorem kt_1042 : Cond.code y_Mo_parts prog_10_method_50_code 7 (some .int) ∈ gtbl := gmem (List.mem_append_right _ (List.mem_of_getElem? (i := 1042) (by decide +kernel))) rfl
set_option maxRecDepth 20000 in
theorem kt_bini : Cond.initialized y_Int_bitCount.cls ∈ gtbl := gmem (List.mem_append_right _ (List.mem_of_getElem? (i := 12) (by decide +kernel))) rfl
set_option maxRecDepth 20000 in
theorem kt_aini : Cond.initialized R_Arr ∈ gtbl := gmem (List.mem_append_right _ (List.mem_of_getElem? (i := 9) (by decide +kernel))) rfl
set_option maxRecDepth 20000 in
theorem kt_mini : Cond.initialized "java/lang/Math" ∈ gtbl := gmem (List.mem_append_right _ (List.mem_of_getElem? (i := 17) (by decide +kernel))) rfl
set_option maxRecDepth 20000 in
theorem kt_cini : Cond.initialized "java/lang/System" ∈ gtbl := gmem (List.mem_append_right _ (List.mem_of_getElem? (i := 11) (by decide +kernel))) rfl
set_option maxRecDepth 20000 in
theorem kt_cnat : Cond.native arraycopyName ∈ gtbl := gmem (List.mem_append_right _ (List.mem_of_getElem? (i := 305) (by decide +kernel))) rfl
set_option maxRecDepth 20000 in
theorem kt_cst : Cond.static arraycopyName ∈ gtbl := gmem (List.mem_append_right _ (List.mem_of_getElem? (i := 304) (by decide +kernel))) rfl
set_option maxRecDepth 20000 in
theorem kt_maxc : Cond.code Lib.Math.max.name Lib.Math.max.code 2 (some .int) ∈ gtbl := gmem (List.mem_append_right _ (List.mem_of_getElem? (i := 645) (by decide +kernel))) rfl
set_option maxRecDepth 20000 in
theorem kt_minc : Cond.code Lib.Math.min.name Lib.Math.min.code 2 (some .int) ∈ gtbl := gmem (List.mem_append_right _ (List.mem_of_getElem? (i := 753) (by decide +kernel))) rfl
set_option maxRecDepth 20000 in
theorem kt_arrI : Cond.arrayClass .int ∈ gtbl := gmem (List.mem_append_right _ (List.mem_of_getElem? (i := 72) (by decide +kernel))) rfl
set_option maxRecDepth 20000 in
theorem kt_arrJ : Cond.arrayClass .long ∈ gtbl := gmem (List.mem_append_right _ (List.mem_of_getElem? (i := 139) (by decide +kernel))) rfl
set_option maxRecDepth 20000 in
theorem kt_arrZ : Cond.arrayClass .boolean ∈ gtbl := gmem (List.mem_append_right _ (List.mem_of_getElem? (i := 854) (by decide +kernel))) rfl
set_option maxRecDepth 20000 in
theorem kt_obji : Cond.code objectInit ⟨#[0xb1]⟩ 1 none ∈ gtbl := gmem (List.mem_append_right _ (List.mem_of_getElem? (i := 25) (by decide +kernel))) rfl
