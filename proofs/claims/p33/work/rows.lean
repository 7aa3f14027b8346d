section
-- ===== PART A: goes FIRST, ahead of the names: the tables' words, and 'selects' of the private methods out of them =====
/-- a private method of a class that the tables say can be made, by its rows of tables_1 -/
def lw_okq (q : MethodName × Nat) : Prop := (q.1.cls ≠ "java/lang/invoke/MethodHandle" ∧ q.1.cls ≠ "java/lang/invoke/VarHandle") ∧ Cond.instantiable q.1.cls q.2 ∈ tables_1 ∧ Cond.privateMethod q.1 ∈ tables_1 ∧ Cond.instanceMethod q.1 ∈ tables_1
theorem lw_p0 : lw_okq (⟨"NameMaps$History", "row", "(I)I"⟩, 3) := ⟨⟨by decide +kernel, by decide +kernel⟩, List.mem_of_getElem? (i := 211) (by decide +kernel), List.mem_of_getElem? (i := 286) (by decide +kernel), List.mem_of_getElem? (i := 287) (by decide +kernel)⟩
theorem lw_p1 : lw_okq (⟨"NameMaps", "recorded", "(I)I"⟩, 6) := ⟨⟨by decide +kernel, by decide +kernel⟩, List.mem_of_getElem? (i := 14) (by decide +kernel), List.mem_of_getElem? (i := 332) (by decide +kernel), List.mem_of_getElem? (i := 333) (by decide +kernel)⟩
theorem lw_p2 : lw_okq (⟨"NameMaps$World", "sitesUp", "()I"⟩, 8) := ⟨⟨by decide +kernel, by decide +kernel⟩, List.mem_of_getElem? (i := 22) (by decide +kernel), List.mem_of_getElem? (i := 348) (by decide +kernel), List.mem_of_getElem? (i := 349) (by decide +kernel)⟩
theorem lw_p3 : lw_okq (⟨"NameMaps$World", "sumOverRouters", "(I)I"⟩, 8) := ⟨⟨by decide +kernel, by decide +kernel⟩, List.mem_of_getElem? (i := 22) (by decide +kernel), List.mem_of_getElem? (i := 364) (by decide +kernel), List.mem_of_getElem? (i := 365) (by decide +kernel)⟩
theorem lw_p4 : lw_okq (⟨"NameMaps$World", "namesWithAnswer", "()I"⟩, 8) := ⟨⟨by decide +kernel, by decide +kernel⟩, List.mem_of_getElem? (i := 22) (by decide +kernel), List.mem_of_getElem? (i := 372) (by decide +kernel), List.mem_of_getElem? (i := 373) (by decide +kernel)⟩
theorem lw_p5 : lw_okq (⟨"NameMaps$World", "childrenOf", "(I)I"⟩, 8) := ⟨⟨by decide +kernel, by decide +kernel⟩, List.mem_of_getElem? (i := 22) (by decide +kernel), List.mem_of_getElem? (i := 419) (by decide +kernel), List.mem_of_getElem? (i := 420) (by decide +kernel)⟩
theorem lw_p6 : lw_okq (⟨"NameMaps$World", "sitesAtHome", "(I)I"⟩, 8) := ⟨⟨by decide +kernel, by decide +kernel⟩, List.mem_of_getElem? (i := 22) (by decide +kernel), List.mem_of_getElem? (i := 427) (by decide +kernel), List.mem_of_getElem? (i := 428) (by decide +kernel)⟩
theorem lw_p7 : lw_okq (⟨"NameMaps$World", "mapsOf", "(I)I"⟩, 8) := ⟨⟨by decide +kernel, by decide +kernel⟩, List.mem_of_getElem? (i := 22) (by decide +kernel), List.mem_of_getElem? (i := 448) (by decide +kernel), List.mem_of_getElem? (i := 449) (by decide +kernel)⟩
theorem lw_p8 : lw_okq (⟨"NameMaps$World", "ask", "(LNameMaps$Router;I)Z"⟩, 8) := ⟨⟨by decide +kernel, by decide +kernel⟩, List.mem_of_getElem? (i := 22) (by decide +kernel), List.mem_of_getElem? (i := 644) (by decide +kernel), List.mem_of_getElem? (i := 645) (by decide +kernel)⟩
theorem lw_p9 : lw_okq (⟨"NameMaps$World", "goByProxy", "(LNameMaps$Router;I)I"⟩, 8) := ⟨⟨by decide +kernel, by decide +kernel⟩, List.mem_of_getElem? (i := 22) (by decide +kernel), List.mem_of_getElem? (i := 659) (by decide +kernel), List.mem_of_getElem? (i := 660) (by decide +kernel)⟩
theorem lw_p10 : lw_okq (⟨"NameMaps$World", "placeByMap", "(LNameMaps$CacheMap;I)I"⟩, 8) := ⟨⟨by decide +kernel, by decide +kernel⟩, List.mem_of_getElem? (i := 22) (by decide +kernel), List.mem_of_getElem? (i := 663) (by decide +kernel), List.mem_of_getElem? (i := 664) (by decide +kernel)⟩
theorem lw_p11 : lw_okq (⟨"NameMaps$Slots", "lowestPriority", "()I"⟩, 1) := ⟨⟨by decide +kernel, by decide +kernel⟩, List.mem_of_getElem? (i := 75) (by decide +kernel), List.mem_of_getElem? (i := 671) (by decide +kernel), List.mem_of_getElem? (i := 672) (by decide +kernel)⟩
theorem lw_p12 : lw_okq (⟨"NameMaps$Slots", "weightThatCounts", "(II)I"⟩, 1) := ⟨⟨by decide +kernel, by decide +kernel⟩, List.mem_of_getElem? (i := 75) (by decide +kernel), List.mem_of_getElem? (i := 678) (by decide +kernel), List.mem_of_getElem? (i := 679) (by decide +kernel)⟩
theorem lw_p13 : lw_okq (⟨"NameMaps$World", "sitesEndingAheadOf", "(I)I"⟩, 8) := ⟨⟨by decide +kernel, by decide +kernel⟩, List.mem_of_getElem? (i := 22) (by decide +kernel), List.mem_of_getElem? (i := 741) (by decide +kernel), List.mem_of_getElem? (i := 742) (by decide +kernel)⟩
def lw_privs_1 : List (MethodName × Nat) := [(⟨"NameMaps$History", "row", "(I)I"⟩, 3), (⟨"NameMaps", "recorded", "(I)I"⟩, 6), (⟨"NameMaps$World", "sitesUp", "()I"⟩, 8), (⟨"NameMaps$World", "sumOverRouters", "(I)I"⟩, 8), (⟨"NameMaps$World", "namesWithAnswer", "()I"⟩, 8), (⟨"NameMaps$World", "childrenOf", "(I)I"⟩, 8), (⟨"NameMaps$World", "sitesAtHome", "(I)I"⟩, 8), (⟨"NameMaps$World", "mapsOf", "(I)I"⟩, 8), (⟨"NameMaps$World", "ask", "(LNameMaps$Router;I)Z"⟩, 8), (⟨"NameMaps$World", "goByProxy", "(LNameMaps$Router;I)I"⟩, 8), (⟨"NameMaps$World", "placeByMap", "(LNameMaps$CacheMap;I)I"⟩, 8), (⟨"NameMaps$Slots", "lowestPriority", "()I"⟩, 1), (⟨"NameMaps$Slots", "weightThatCounts", "(II)I"⟩, 1), (⟨"NameMaps$World", "sitesEndingAheadOf", "(I)I"⟩, 8)]
theorem lw_r1 : ∀ q ∈ lw_privs_1, lw_okq q := List.forall_mem_cons.mpr ⟨lw_p0, List.forall_mem_cons.mpr ⟨lw_p1, List.forall_mem_cons.mpr ⟨lw_p2, List.forall_mem_cons.mpr ⟨lw_p3, List.forall_mem_cons.mpr ⟨lw_p4, List.forall_mem_cons.mpr ⟨lw_p5, List.forall_mem_cons.mpr ⟨lw_p6, List.forall_mem_cons.mpr ⟨lw_p7, List.forall_mem_cons.mpr ⟨lw_p8, List.forall_mem_cons.mpr ⟨lw_p9, List.forall_mem_cons.mpr ⟨lw_p10, List.forall_mem_cons.mpr ⟨lw_p11, List.forall_mem_cons.mpr ⟨lw_p12, List.forall_mem_cons.mpr ⟨lw_p13, fun _ h => absurd h List.not_mem_nil⟩⟩⟩⟩⟩⟩⟩⟩⟩⟩⟩⟩⟩⟩
def lw_privs : List (MethodName × Nat) := lw_privs_1
def lw_tbl : List Cond := k2_sels lw_privs ++ tables_1
theorem lw_privs_ok : ∀ q ∈ lw_privs, lw_okq q := lw_r1
def RX0 : String := "NameMaps$ActText"
def TX0 : u_T := fun k => match k with
  | 0 => ("NameMaps$ActText", "bytes", "[B", true)
  | 1 => ("NameMaps$ActText", "length", "I", false)
  | 2 => ("NameMaps$ActText", "position", "I", false)
  | 3 => ("NameMaps$ActText", "fault", "I", false)
  | 4 => ("NameMaps$ActText", "kind", "I", false)
  | 5 => ("NameMaps$ActText", "number", "I", false)
  | 6 => ("NameMaps$ActText", "name", "I", false)
  | _ => ("NameMaps$ActText", "flow", "I", false)
def tyX0 : Nat → FieldType := fun k => match k with
  | 0 => .array .byte
  | 1 => .int
  | 2 => .int
  | 3 => .int
  | 4 => .int
  | 5 => .int
  | 6 => .int
  | _ => .int
theorem nmX0 : ∀ a, a < 8 → ∀ b, b < 8 → a ≠ b → (TX0 a).2.1 ≠ (TX0 b).2.1 := by decide +kernel
theorem tyX0_ok : ∀ k, k < 8 → parseFieldDescriptor (TX0 k).2.2.1 = some (tyX0 k) := by decide +kernel
abbrev cX0_init : ByteArray := prog_2_method_1_code
def yX0_init : MethodName := ⟨RX0, "<init>", "()V"⟩
def RX1 : String := "NameMaps$Block"
def TX1 : u_T := fun k => match k with
  | 0 => ("NameMaps$Block", "first", "I", false)
  | _ => ("NameMaps$Block", "size", "I", false)
def tyX1 : Nat → FieldType := fun k => match k with
  | 0 => .int
  | _ => .int
theorem nmX1 : ∀ a, a < 2 → ∀ b, b < 2 → a ≠ b → (TX1 a).2.1 ≠ (TX1 b).2.1 := by decide +kernel
theorem tyX1_ok : ∀ k, k < 2 → parseFieldDescriptor (TX1 k).2.2.1 = some (tyX1 k) := by decide +kernel
abbrev cX1_init : ByteArray := prog_3_method_1_code
def yX1_init : MethodName := ⟨RX1, "<init>", "()V"⟩
abbrev cX1_become : ByteArray := prog_3_method_2_code
def yX1_become : MethodName := ⟨RX1, "become", "(II)V"⟩
abbrev cX1_copyFrom : ByteArray := prog_3_method_3_code
def yX1_copyFrom : MethodName := ⟨RX1, "copyFrom", "(LNameMaps$Block;)V"⟩
abbrev cX1_isAt : ByteArray := prog_3_method_4_code
def yX1_isAt : MethodName := ⟨RX1, "isAt", "(II)Z"⟩
abbrev cX1_has : ByteArray := prog_3_method_5_code
def yX1_has : MethodName := ⟨RX1, "has", "(I)Z"⟩
abbrev cX1_holds : ByteArray := prog_3_method_6_code
def yX1_holds : MethodName := ⟨RX1, "holds", "(II)Z"⟩
abbrev cX1_meets : ByteArray := prog_3_method_7_code
def yX1_meets : MethodName := ⟨RX1, "meets", "(II)Z"⟩
def RX2 : String := "NameMaps$CacheMap"
def TX2 : u_T := fun k => match k with
  | 0 => ("NameMaps$CacheMap", "block", "LNameMaps$Block;", true)
  | 1 => ("NameMaps$CacheMap", "slots", "LNameMaps$Slots;", true)
  | 2 => ("NameMaps$CacheMap", "site", "I", false)
  | 3 => ("NameMaps$CacheMap", "version", "I", false)
  | 4 => ("NameMaps$CacheMap", "end", "I", false)
  | _ => ("NameMaps$CacheMap", "isMarked", "Z", false)
def tyX2 : Nat → FieldType := fun k => match k with
  | 0 => .object "NameMaps$Block"
  | 1 => .object "NameMaps$Slots"
  | 2 => .int
  | 3 => .int
  | 4 => .int
  | _ => .boolean
theorem nmX2 : ∀ a, a < 6 → ∀ b, b < 6 → a ≠ b → (TX2 a).2.1 ≠ (TX2 b).2.1 := by decide +kernel
theorem tyX2_ok : ∀ k, k < 6 → parseFieldDescriptor (TX2 k).2.2.1 = some (tyX2 k) := by decide +kernel
abbrev cX2_init : ByteArray := prog_4_method_1_code
def yX2_init : MethodName := ⟨RX2, "<init>", "()V"⟩
abbrev cX2_become : ByteArray := prog_4_method_2_code
def yX2_become : MethodName := ⟨RX2, "become", "(ILNameMaps$Site;I)V"⟩
abbrev cX2_copyFrom : ByteArray := prog_4_method_3_code
def yX2_copyFrom : MethodName := ⟨RX2, "copyFrom", "(LNameMaps$CacheMap;)V"⟩
abbrev cX2_isHolding : ByteArray := prog_4_method_4_code
def yX2_isHolding : MethodName := ⟨RX2, "isHolding", "(I)Z"⟩
abbrev cX2_property : ByteArray := prog_4_method_5_code
def yX2_property : MethodName := ⟨RX2, "property", "(II)I"⟩
def RX3 : String := "NameMaps$History"
def TX3 : u_T := fun k => match k with
  | 0 => ("NameMaps$History", "states", "[LNameMaps$World;", true)
  | 1 => ("NameMaps$History", "oldest", "I", false)
  | _ => ("NameMaps$History", "count", "I", false)
def tyX3 : Nat → FieldType := fun k => match k with
  | 0 => .array (.object "NameMaps$World")
  | 1 => .int
  | _ => .int
theorem nmX3 : ∀ a, a < 3 → ∀ b, b < 3 → a ≠ b → (TX3 a).2.1 ≠ (TX3 b).2.1 := by decide +kernel
theorem tyX3_ok : ∀ k, k < 3 → parseFieldDescriptor (TX3 k).2.2.1 = some (tyX3 k) := by decide +kernel
abbrev cX3_init : ByteArray := prog_5_method_1_code
def yX3_init : MethodName := ⟨RX3, "<init>", "()V"⟩
abbrev cX3_row : ByteArray := prog_5_method_2_code
def yX3_row : MethodName := ⟨RX3, "row", "(I)I"⟩
abbrev cX3_draft : ByteArray := prog_5_method_3_code
def yX3_draft : MethodName := ⟨RX3, "draft", "(LNameMaps$World;)V"⟩
abbrev cX3_keepDraft : ByteArray := prog_5_method_4_code
def yX3_keepDraft : MethodName := ⟨RX3, "keepDraft", "()V"⟩
abbrev cX3_takeLatest : ByteArray := prog_5_method_5_code
def yX3_takeLatest : MethodName := ⟨RX3, "takeLatest", "(LNameMaps$World;)V"⟩
def RX4 : String := "NameMaps$Router"
def TX4 : u_T := fun k => match k with
  | 0 => ("NameMaps$Router", "maps", "[LNameMaps$CacheMap;", true)
  | 1 => ("NameMaps$Router", "mapCount", "I", false)
  | 2 => ("NameMaps$Router", "asks", "I", false)
  | 3 => ("NameMaps$Router", "hops", "I", false)
  | 4 => ("NameMaps$Router", "letters", "I", false)
  | 5 => ("NameMaps$Router", "proxied", "I", false)
  | _ => ("NameMaps$Router", "oldMaps", "I", false)
def tyX4 : Nat → FieldType := fun k => match k with
  | 0 => .array (.object "NameMaps$CacheMap")
  | 1 => .int
  | 2 => .int
  | 3 => .int
  | 4 => .int
  | 5 => .int
  | _ => .int
theorem nmX4 : ∀ a, a < 7 → ∀ b, b < 7 → a ≠ b → (TX4 a).2.1 ≠ (TX4 b).2.1 := by decide +kernel
theorem tyX4_ok : ∀ k, k < 7 → parseFieldDescriptor (TX4 k).2.2.1 = some (tyX4 k) := by decide +kernel
abbrev cX4_init : ByteArray := prog_6_method_1_code
def yX4_init : MethodName := ⟨RX4, "<init>", "()V"⟩
abbrev cX4_start : ByteArray := prog_6_method_2_code
def yX4_start : MethodName := ⟨RX4, "start", "()V"⟩
abbrev cX4_copyFrom : ByteArray := prog_6_method_3_code
def yX4_copyFrom : MethodName := ⟨RX4, "copyFrom", "(LNameMaps$Router;)V"⟩
abbrev cX4_isPlace : ByteArray := prog_6_method_4_code
def yX4_isPlace : MethodName := ⟨RX4, "isPlace", "(I)Z"⟩
abbrev cX4_property : ByteArray := prog_6_method_5_code
def yX4_property : MethodName := ⟨RX4, "property", "(I)I"⟩
abbrev cX4_moveToFront : ByteArray := prog_6_method_6_code
def yX4_moveToFront : MethodName := ⟨RX4, "moveToFront", "(I)V"⟩
abbrev cX4_drop : ByteArray := prog_6_method_7_code
def yX4_drop : MethodName := ⟨RX4, "drop", "(I)V"⟩
abbrev cX4_dropEnded : ByteArray := prog_6_method_8_code
def yX4_dropEnded : MethodName := ⟨RX4, "dropEnded", "(I)V"⟩
abbrev cX4_placeOfSite : ByteArray := prog_6_method_9_code
def yX4_placeOfSite : MethodName := ⟨RX4, "placeOfSite", "(I)I"⟩
abbrev cX4_placeOfSmallest : ByteArray := prog_6_method_10_code
def yX4_placeOfSmallest : MethodName := ⟨RX4, "placeOfSmallest", "(I)I"⟩
abbrev cX4_addMap : ByteArray := prog_6_method_11_code
def yX4_addMap : MethodName := ⟨RX4, "addMap", "(ILNameMaps$Site;I)V"⟩
def RX5 : String := "NameMaps$Server"
def TX5 : u_T := fun k => match k with
  | 0 => ("NameMaps$Server", "block", "LNameMaps$Block;", true)
  | _ => ("NameMaps$Server", "parent", "I", false)
def tyX5 : Nat → FieldType := fun k => match k with
  | 0 => .object "NameMaps$Block"
  | _ => .int
theorem nmX5 : ∀ a, a < 2 → ∀ b, b < 2 → a ≠ b → (TX5 a).2.1 ≠ (TX5 b).2.1 := by decide +kernel
theorem tyX5_ok : ∀ k, k < 2 → parseFieldDescriptor (TX5 k).2.2.1 = some (tyX5 k) := by decide +kernel
abbrev cX5_init : ByteArray := prog_7_method_1_code
def yX5_init : MethodName := ⟨RX5, "<init>", "()V"⟩
abbrev cX5_copyFrom : ByteArray := prog_7_method_2_code
def yX5_copyFrom : MethodName := ⟨RX5, "copyFrom", "(LNameMaps$Server;)V"⟩
def RX6 : String := "NameMaps$Site"
def TX6 : u_T := fun k => match k with
  | 0 => ("NameMaps$Site", "block", "LNameMaps$Block;", true)
  | 1 => ("NameMaps$Site", "slots", "LNameMaps$Slots;", true)
  | 2 => ("NameMaps$Site", "life", "I", false)
  | 3 => ("NameMaps$Site", "version", "I", false)
  | _ => ("NameMaps$Site", "end", "I", false)
def tyX6 : Nat → FieldType := fun k => match k with
  | 0 => .object "NameMaps$Block"
  | 1 => .object "NameMaps$Slots"
  | 2 => .int
  | 3 => .int
  | _ => .int
theorem nmX6 : ∀ a, a < 5 → ∀ b, b < 5 → a ≠ b → (TX6 a).2.1 ≠ (TX6 b).2.1 := by decide +kernel
theorem tyX6_ok : ∀ k, k < 5 → parseFieldDescriptor (TX6 k).2.2.1 = some (tyX6 k) := by decide +kernel
abbrev cX6_init : ByteArray := prog_8_method_1_code
def yX6_init : MethodName := ⟨RX6, "<init>", "()V"⟩
abbrev cX6_start : ByteArray := prog_8_method_2_code
def yX6_start : MethodName := ⟨RX6, "start", "(III)V"⟩
abbrev cX6_copyFrom : ByteArray := prog_8_method_3_code
def yX6_copyFrom : MethodName := ⟨RX6, "copyFrom", "(LNameMaps$Site;)V"⟩
abbrev cX6_isRegistered : ByteArray := prog_8_method_4_code
def yX6_isRegistered : MethodName := ⟨RX6, "isRegistered", "(I)Z"⟩
abbrev cX6_isUp : ByteArray := prog_8_method_5_code
def yX6_isUp : MethodName := ⟨RX6, "isUp", "(I)Z"⟩
def RX7 : String := "NameMaps$Slots"
def TX7 : u_T := fun k => match k with
  | _ => ("NameMaps$Slots", "cells", "[I", true)
def tyX7 : Nat → FieldType := fun k => match k with
  | _ => .array .int
theorem nmX7 : ∀ a, a < 1 → ∀ b, b < 1 → a ≠ b → (TX7 a).2.1 ≠ (TX7 b).2.1 := by decide +kernel
theorem tyX7_ok : ∀ k, k < 1 → parseFieldDescriptor (TX7 k).2.2.1 = some (tyX7 k) := by decide +kernel
abbrev cX7_init : ByteArray := prog_9_method_1_code
def yX7_init : MethodName := ⟨RX7, "<init>", "()V"⟩
abbrev cX7_copyFrom : ByteArray := prog_9_method_2_code
def yX7_copyFrom : MethodName := ⟨RX7, "copyFrom", "(LNameMaps$Slots;)V"⟩
abbrev cX7_fill : ByteArray := prog_9_method_3_code
def yX7_fill : MethodName := ⟨RX7, "fill", "(IIII)V"⟩
abbrev cX7_propertyOf : ByteArray := prog_9_method_4_code
def yX7_propertyOf : MethodName := ⟨RX7, "propertyOf", "(II)I"⟩
abbrev cX7_isEmpty : ByteArray := prog_9_method_5_code
def yX7_isEmpty : MethodName := ⟨RX7, "isEmpty", "(I)Z"⟩
abbrev cX7_areEmpty : ByteArray := prog_9_method_6_code
def yX7_areEmpty : MethodName := ⟨RX7, "areEmpty", "()Z"⟩
abbrev cX7_have : ByteArray := prog_9_method_7_code
def yX7_have : MethodName := ⟨RX7, "have", "(I)Z"⟩
abbrev cX7_lowestPriority : ByteArray := prog_9_method_8_code
def yX7_lowestPriority : MethodName := ⟨RX7, "lowestPriority", "()I"⟩
abbrev cX7_weightThatCounts : ByteArray := prog_9_method_9_code
def yX7_weightThatCounts : MethodName := ⟨RX7, "weightThatCounts", "(II)I"⟩
abbrev cX7_placeFor : ByteArray := prog_9_method_10_code
def yX7_placeFor : MethodName := ⟨RX7, "placeFor", "(I)I"⟩
def RX8 : String := "NameMaps$World"
def TX8 : u_T := fun k => match k with
  | 0 => ("NameMaps$World", "servers", "[LNameMaps$Server;", true)
  | 1 => ("NameMaps$World", "sites", "[LNameMaps$Site;", true)
  | 2 => ("NameMaps$World", "routers", "[LNameMaps$Router;", true)
  | 3 => ("NameMaps$World", "serverCount", "I", false)
  | 4 => ("NameMaps$World", "siteCount", "I", false)
  | 5 => ("NameMaps$World", "routerCount", "I", false)
  | 6 => ("NameMaps$World", "hour", "I", false)
  | _ => ("NameMaps$World", "mapLife", "I", false)
def tyX8 : Nat → FieldType := fun k => match k with
  | 0 => .array (.object "NameMaps$Server")
  | 1 => .array (.object "NameMaps$Site")
  | 2 => .array (.object "NameMaps$Router")
  | 3 => .int
  | 4 => .int
  | 5 => .int
  | 6 => .int
  | _ => .int
theorem nmX8 : ∀ a, a < 8 → ∀ b, b < 8 → a ≠ b → (TX8 a).2.1 ≠ (TX8 b).2.1 := by decide +kernel
theorem tyX8_ok : ∀ k, k < 8 → parseFieldDescriptor (TX8 k).2.2.1 = some (tyX8 k) := by decide +kernel
abbrev cX8_init : ByteArray := prog_10_method_1_code
def yX8_init : MethodName := ⟨RX8, "<init>", "()V"⟩
abbrev cX8_copyFrom : ByteArray := prog_10_method_2_code
def yX8_copyFrom : MethodName := ⟨RX8, "copyFrom", "(LNameMaps$World;)V"⟩
abbrev cX8_isServer : ByteArray := prog_10_method_3_code
def yX8_isServer : MethodName := ⟨RX8, "isServer", "(I)Z"⟩
abbrev cX8_isSite : ByteArray := prog_10_method_4_code
def yX8_isSite : MethodName := ⟨RX8, "isSite", "(I)Z"⟩
abbrev cX8_isRouter : ByteArray := prog_10_method_5_code
def yX8_isRouter : MethodName := ⟨RX8, "isRouter", "(I)Z"⟩
abbrev cX8_newServer : ByteArray := prog_10_method_6_code
def yX8_newServer : MethodName := ⟨RX8, "newServer", "(III)I"⟩
abbrev cX8_newSite : ByteArray := prog_10_method_7_code
def yX8_newSite : MethodName := ⟨RX8, "newSite", "(III)I"⟩
abbrev cX8_newRouter : ByteArray := prog_10_method_8_code
def yX8_newRouter : MethodName := ⟨RX8, "newRouter", "()I"⟩
abbrev cX8_fillSlot : ByteArray := prog_10_method_9_code
def yX8_fillSlot : MethodName := ⟨RX8, "fillSlot", "(IIIII)I"⟩
abbrev cX8_vacateSlot : ByteArray := prog_10_method_10_code
def yX8_vacateSlot : MethodName := ⟨RX8, "vacateSlot", "(II)I"⟩
abbrev cX8_startRegistration : ByteArray := prog_10_method_11_code
def yX8_startRegistration : MethodName := ⟨RX8, "startRegistration", "(I)I"⟩
abbrev cX8_endRegistration : ByteArray := prog_10_method_12_code
def yX8_endRegistration : MethodName := ⟨RX8, "endRegistration", "(I)I"⟩
abbrev cX8_changeMapLife : ByteArray := prog_10_method_13_code
def yX8_changeMapLife : MethodName := ⟨RX8, "changeMapLife", "(I)I"⟩
abbrev cX8_letPass : ByteArray := prog_10_method_14_code
def yX8_letPass : MethodName := ⟨RX8, "letPass", "(I)I"⟩
abbrev cX8_emptyCache : ByteArray := prog_10_method_15_code
def yX8_emptyCache : MethodName := ⟨RX8, "emptyCache", "(I)I"⟩
abbrev cX8_sendLetter : ByteArray := prog_10_method_16_code
def yX8_sendLetter : MethodName := ⟨RX8, "sendLetter", "(III)I"⟩
abbrev cX8_placeByMap : ByteArray := prog_10_method_17_code
def yX8_placeByMap : MethodName := ⟨RX8, "placeByMap", "(LNameMaps$CacheMap;I)I"⟩
abbrev cX8_ask : ByteArray := prog_10_method_18_code
def yX8_ask : MethodName := ⟨RX8, "ask", "(LNameMaps$Router;I)Z"⟩
abbrev cX8_goByProxy : ByteArray := prog_10_method_19_code
def yX8_goByProxy : MethodName := ⟨RX8, "goByProxy", "(LNameMaps$Router;I)I"⟩
abbrev cX8_homeOf : ByteArray := prog_10_method_20_code
def yX8_homeOf : MethodName := ⟨RX8, "homeOf", "(II)I"⟩
abbrev cX8_homeOfSite : ByteArray := prog_10_method_21_code
def yX8_homeOfSite : MethodName := ⟨RX8, "homeOfSite", "(I)I"⟩
abbrev cX8_hopsTo : ByteArray := prog_10_method_22_code
def yX8_hopsTo : MethodName := ⟨RX8, "hopsTo", "(I)I"⟩
abbrev cX8_answerFor : ByteArray := prog_10_method_23_code
def yX8_answerFor : MethodName := ⟨RX8, "answerFor", "(I)I"⟩
abbrev cX8_siteEndingAt : ByteArray := prog_10_method_24_code
def yX8_siteEndingAt : MethodName := ⟨RX8, "siteEndingAt", "(I)I"⟩
abbrev cX8_sitesEndingAheadOf : ByteArray := prog_10_method_25_code
def yX8_sitesEndingAheadOf : MethodName := ⟨RX8, "sitesEndingAheadOf", "(I)I"⟩
abbrev cX8_serverProperty : ByteArray := prog_10_method_26_code
def yX8_serverProperty : MethodName := ⟨RX8, "serverProperty", "(II)I"⟩
abbrev cX8_childrenOf : ByteArray := prog_10_method_27_code
def yX8_childrenOf : MethodName := ⟨RX8, "childrenOf", "(I)I"⟩
abbrev cX8_sitesAtHome : ByteArray := prog_10_method_28_code
def yX8_sitesAtHome : MethodName := ⟨RX8, "sitesAtHome", "(I)I"⟩
abbrev cX8_siteProperty : ByteArray := prog_10_method_29_code
def yX8_siteProperty : MethodName := ⟨RX8, "siteProperty", "(II)I"⟩
abbrev cX8_mapsOf : ByteArray := prog_10_method_30_code
def yX8_mapsOf : MethodName := ⟨RX8, "mapsOf", "(I)I"⟩
abbrev cX8_totalOf : ByteArray := prog_10_method_31_code
def yX8_totalOf : MethodName := ⟨RX8, "totalOf", "(I)I"⟩
abbrev cX8_sitesUp : ByteArray := prog_10_method_32_code
def yX8_sitesUp : MethodName := ⟨RX8, "sitesUp", "()I"⟩
abbrev cX8_sumOverRouters : ByteArray := prog_10_method_33_code
def yX8_sumOverRouters : MethodName := ⟨RX8, "sumOverRouters", "(I)I"⟩
abbrev cX8_namesWithAnswer : ByteArray := prog_10_method_34_code
def yX8_namesWithAnswer : MethodName := ⟨RX8, "namesWithAnswer", "()I"⟩
def RX9 : String := "NameMaps"
def TX9 : u_T := fun k => match k with
  | 0 => ("NameMaps", "present", "LNameMaps$World;", true)
  | 1 => ("NameMaps", "rehearsal", "LNameMaps$World;", true)
  | 2 => ("NameMaps", "history", "LNameMaps$History;", true)
  | 3 => ("NameMaps", "saves", "[LNameMaps$World;", true)
  | 4 => ("NameMaps", "isSaved", "[Z", true)
  | _ => ("NameMaps", "text", "LNameMaps$ActText;", true)
def tyX9 : Nat → FieldType := fun k => match k with
  | 0 => .object "NameMaps$World"
  | 1 => .object "NameMaps$World"
  | 2 => .object "NameMaps$History"
  | 3 => .array (.object "NameMaps$World")
  | 4 => .array .boolean
  | _ => .object "NameMaps$ActText"
theorem nmX9 : ∀ a, a < 6 → ∀ b, b < 6 → a ≠ b → (TX9 a).2.1 ≠ (TX9 b).2.1 := by decide +kernel
theorem tyX9_ok : ∀ k, k < 6 → parseFieldDescriptor (TX9 k).2.2.1 = some (tyX9 k) := by decide +kernel
abbrev cX9_init : ByteArray := prog_1_method_1_code
def yX9_init : MethodName := ⟨RX9, "<init>", "()V"⟩
abbrev cX9_addServer : ByteArray := prog_1_method_2_code
def yX9_addServer : MethodName := ⟨RX9, "addServer", "(III)I"⟩
abbrev cX9_addSite : ByteArray := prog_1_method_3_code
def yX9_addSite : MethodName := ⟨RX9, "addSite", "(III)I"⟩
abbrev cX9_addRouter : ByteArray := prog_1_method_4_code
def yX9_addRouter : MethodName := ⟨RX9, "addRouter", "()I"⟩
abbrev cX9_setSlot : ByteArray := prog_1_method_5_code
def yX9_setSlot : MethodName := ⟨RX9, "setSlot", "(IIIII)I"⟩
abbrev cX9_emptySlot : ByteArray := prog_1_method_6_code
def yX9_emptySlot : MethodName := ⟨RX9, "emptySlot", "(II)I"⟩
abbrev cX9_register : ByteArray := prog_1_method_7_code
def yX9_register : MethodName := ⟨RX9, "register", "(I)I"⟩
abbrev cX9_unregister : ByteArray := prog_1_method_8_code
def yX9_unregister : MethodName := ⟨RX9, "unregister", "(I)I"⟩
abbrev cX9_setMapLife : ByteArray := prog_1_method_9_code
def yX9_setMapLife : MethodName := ⟨RX9, "setMapLife", "(I)I"⟩
abbrev cX9_send : ByteArray := prog_1_method_10_code
def yX9_send : MethodName := ⟨RX9, "send", "(III)I"⟩
abbrev cX9_pass : ByteArray := prog_1_method_11_code
def yX9_pass : MethodName := ⟨RX9, "pass", "(I)I"⟩
abbrev cX9_forget : ByteArray := prog_1_method_12_code
def yX9_forget : MethodName := ⟨RX9, "forget", "(I)I"⟩
abbrev cX9_undo : ByteArray := prog_1_method_17_code
def yX9_undo : MethodName := ⟨RX9, "undo", "()I"⟩
abbrev cX9_save : ByteArray := prog_1_method_18_code
def yX9_save : MethodName := ⟨RX9, "save", "(I)I"⟩
abbrev cX9_restore : ByteArray := prog_1_method_19_code
def yX9_restore : MethodName := ⟨RX9, "restore", "(I)I"⟩
abbrev cX9_server : ByteArray := prog_1_method_20_code
def yX9_server : MethodName := ⟨RX9, "server", "(II)I"⟩
abbrev cX9_site : ByteArray := prog_1_method_21_code
def yX9_site : MethodName := ⟨RX9, "site", "(II)I"⟩
abbrev cX9_slot : ByteArray := prog_1_method_22_code
def yX9_slot : MethodName := ⟨RX9, "slot", "(III)I"⟩
abbrev cX9_router : ByteArray := prog_1_method_23_code
def yX9_router : MethodName := ⟨RX9, "router", "(II)I"⟩
abbrev cX9_map : ByteArray := prog_1_method_24_code
def yX9_map : MethodName := ⟨RX9, "map", "(III)I"⟩
abbrev cX9_answer : ByteArray := prog_1_method_25_code
def yX9_answer : MethodName := ⟨RX9, "answer", "(I)I"⟩
abbrev cX9_endingNext : ByteArray := prog_1_method_27_code
def yX9_endingNext : MethodName := ⟨RX9, "endingNext", "(I)I"⟩
abbrev cX9_total : ByteArray := prog_1_method_28_code
def yX9_total : MethodName := ⟨RX9, "total", "(I)I"⟩
abbrev cX9_wouldReach : ByteArray := prog_1_method_29_code
def yX9_wouldReach : MethodName := ⟨RX9, "wouldReach", "(IIII)I"⟩
abbrev cX9_wouldAsk : ByteArray := prog_1_method_30_code
def yX9_wouldAsk : MethodName := ⟨RX9, "wouldAsk", "(III)I"⟩
abbrev cX9_recorded : ByteArray := prog_1_method_32_code
def yX9_recorded : MethodName := ⟨RX9, "recorded", "(I)I"⟩
abbrev cX9_isSave : ByteArray := prog_1_method_34_code
def yX9_isSave : MethodName := ⟨RX9, "isSave", "(I)Z"⟩
abbrev cX9_isSlot : ByteArray := prog_1_method_35_code
def yX9_isSlot : MethodName := ⟨RX9, "isSlot", "(I)Z"⟩
abbrev cX9_isName : ByteArray := prog_1_method_36_code
def yX9_isName : MethodName := ⟨RX9, "isName", "(I)Z"⟩
abbrev cX9_isFlow : ByteArray := prog_1_method_37_code
def yX9_isFlow : MethodName := ⟨RX9, "isFlow", "(I)Z"⟩
abbrev cX9_isPlaceOfSlot : ByteArray := prog_1_method_38_code
def yX9_isPlaceOfSlot : MethodName := ⟨RX9, "isPlaceOfSlot", "(I)Z"⟩
abbrev cX9_isBlock : ByteArray := prog_1_method_39_code
def yX9_isBlock : MethodName := ⟨RX9, "isBlock", "(II)Z"⟩
def RX10 : String := "NameMapsModel"
def TX10 : u_T := fun k => match k with
  | _ => ("", "", "", false)
def tyX10 : Nat → FieldType := fun k => match k with
  | _ => .int
theorem nmX10 : ∀ a, a < 0 → ∀ b, b < 0 → a ≠ b → (TX10 a).2.1 ≠ (TX10 b).2.1 := by decide +kernel
theorem tyX10_ok : ∀ k, k < 0 → parseFieldDescriptor (TX10 k).2.2.1 = some (tyX10 k) := by decide +kernel
def RJ6 : String := "java/lang/Integer"
abbrev cJ6_bitCount_0f7a4 : ByteArray := prog_13_method_49_code
def yJ6_bitCount_0f7a4 : MethodName := ⟨RJ6, "bitCount", "(I)I"⟩
def RJ9 : String := "java/lang/Math"
abbrev cJ9_floorMod_7cf53 : ByteArray := prog_14_method_50_code
def yJ9_floorMod_7cf53 : MethodName := ⟨RJ9, "floorMod", "(II)I"⟩
abbrev cJ9_min_7cf53 : ByteArray := prog_14_method_69_code
def yJ9_min_7cf53 : MethodName := ⟨RJ9, "min", "(II)I"⟩
def RL : String := "NameMapsLaw"
abbrev cL_cell : ByteArray := method_2_code
def yL_cell : MethodName := ⟨RL, "cell", "([II)I"⟩
abbrev cL_up : ByteArray := method_3_code
def yL_up : MethodName := ⟨RL, "up", "(II)I"⟩
abbrev cL_view : ByteArray := method_4_code
def yL_view : MethodName := ⟨RL, "view", "(LNameMaps;)J"⟩
abbrev cL_size : ByteArray := method_5_code
def yL_size : MethodName := ⟨RL, "size", "(I)I"⟩
abbrev cL_any : ByteArray := method_6_code
def yL_any : MethodName := ⟨RL, "any", "(LNameMaps;II)I"⟩
abbrev cL_turn : ByteArray := method_7_code
def yL_turn : MethodName := ⟨RL, "turn", "(LNameMaps;III)I"⟩
abbrev cL_name : ByteArray := method_8_code
def yL_name : MethodName := ⟨RL, "name", "(LNameMaps;I)I"⟩
abbrev cL_hasPlace : ByteArray := method_9_code
def yL_hasPlace : MethodName := ⟨RL, "hasPlace", "(LNameMaps;II)Z"⟩
abbrev cL_isSent : ByteArray := method_10_code
def yL_isSent : MethodName := ⟨RL, "isSent", "(LNameMaps;III)Z"⟩
abbrev cL_areRouters : ByteArray := method_11_code
def yL_areRouters : MethodName := ⟨RL, "areRouters", "(LNameMaps;)Z"⟩
abbrev cL_areEnding : ByteArray := method_12_code
def yL_areEnding : MethodName := ⟨RL, "areEnding", "(LNameMaps;)Z"⟩
abbrev cL_isUndone : ByteArray := method_13_code
def yL_isUndone : MethodName := ⟨RL, "isUndone", "(LNameMaps;IIIIJ)Z"⟩
abbrev cL_isSaved : ByteArray := method_14_code
def yL_isSaved : MethodName := ⟨RL, "isSaved", "(LNameMaps;II)Z"⟩
abbrev cL_law : ByteArray := code
def yL_law : MethodName := ⟨RL, "law", "([I)Z"⟩
abbrev vwCl : List vw_C := [(RX0, TX0, 8), (RX1, TX1, 2), (RX2, TX2, 6), (RX3, TX3, 3), (RX4, TX4, 7), (RX5, TX5, 2), (RX6, TX6, 5), (RX7, TX7, 1), (RX8, TX8, 8), (RX9, TX9, 6)]
end
section
/-! THE SMALL MACHINE: bytecode over a typed store. A reference is (kind, number); a store is the numbers that fields and int arrays hold, and what the rows of maps hold. -/
abbrev MV : Type := Int32 ⊕ (Nat × Nat)
abbrev St : Type := (Nat → Nat → Nat → Int32) × (Nat → Nat → Nat)
/-- an instruction: its place; (kind, operands); a constant; a list of pairs -/
abbrev Ent : Type := Nat × (Nat × Nat × Nat × Nat) × Int32 × List (Nat × Nat)
/-- fields that hold one object for ever: which -/
def lk (c k i : Nat) : Option (Nat × Nat) := match c with
  | 0 => (match k with | 0 => some (19, 0) | _ => none)
  | 1 => none
  | 2 => (match k with | 0 => some (1, 160 + i) | 1 => some (7, 80 + i) | _ => none)
  | 3 => (match k with | 0 => some (16, 0) | _ => none)
  | 4 => (match k with | 0 => some (14, i) | _ => none)
  | 5 => (match k with | 0 => some (1, i) | _ => none)
  | 6 => (match k with | 0 => some (1, 80 + i) | 1 => some (7, i) | _ => none)
  | 7 => some (15, i)
  | 8 => (match k with | 0 => some (11, i) | 1 => some (12, i) | 2 => some (13, i) | _ => none)
  | 9 => (match k with | 0 => some (8, 0) | 1 => some (8, 1) | 2 => some (3, 0) | 3 => some (17, 0) | 4 => some (18, 0) | _ => some (0, 0))
  | 10 => (match k with | 0 => some (20, 0) | 1 => some (21, 0) | 2 => some (22, 0) | 4 => some (23, 0) | _ => none)
  | _ => none
/-- the elements of an array of references -/
def el (P : Nat → Nat → Nat) (c i j : Nat) : Nat × Nat := match c with
  | 11 => (5, 8 * i + j)
  | 12 => (6, 8 * i + j)
  | 13 => (4, 4 * i + j)
  | 14 => (2, P i j)
  | 16 => (8, 2 + j)
  | _ => (8, 8 + j)
def alen (c : Nat) : Nat := match c with
  | 11 => 8 | 12 => 8 | 13 => 4 | 14 => 5 | 15 => 9 | 16 => 6 | 17 => 2 | 18 => 2 | 19 => 80 | 20 => 509 | 21 => 4072 | 22 => 2 | _ => 80
/-- what kind of array: 0 int, 1 boolean, 2 byte, 3 references, 9 none -/
def akind (c : Nat) : Nat := match c with
  | 11 => 3 | 12 => 3 | 13 => 3 | 14 => 3 | 15 => 0 | 16 => 3 | 17 => 3 | 18 => 1 | 19 => 2 | 20 => 0 | 21 => 0 | 22 => 0 | 23 => 0 | _ => 9
def fv (s : St) (c i k : Nat) : MV := match lk c k i with
  | some r => .inr r
  | none => .inl (s.1 c i k)
def putV (s : St) (c i k : Nat) (x : Int32) : St := (fun a b d => if a = c ∧ b = i ∧ d = k then x else s.1 a b d, s.2)
def putP (s : St) (i k y : Nat) : St := (s.1, fun a b => if a = i ∧ b = k then y else s.2 a b)
def getL : List MV → Nat → Option MV
  | [], _ => none
  | x :: _, 0 => some x
  | _ :: l, n + 1 => getL l n
/-- a local is set, or the next one comes -/
def setL : List MV → Nat → MV → List MV
  | [], _, v => [v]
  | _ :: l, 0, v => v :: l
  | x :: l, n + 1, v => x :: setL l n v
def takeL : List MV → Nat → List MV
  | [], _ => []
  | _ :: _, 0 => []
  | x :: l, n + 1 => x :: takeL l n
def popL : Nat → List MV → List MV → Option (List MV × List MV)
  | 0, acc, st => some (acc, st)
  | n + 1, acc, v :: st => popL n (v :: acc) st
  | _ + 1, _, [] => none
def fromPc : List Ent → Nat → List Ent
  | [], _ => []
  | e :: es, t => match Nat.beq e.1 t with
    | true => e :: es
    | false => fromPc es t
/-- behind the mark that stands at a loop's head -/
def behind : List Ent → List Ent
  | (pc, (0, a), c) :: es => es
  | es => es
def cmpT (b : Nat) (x y : Int32) : Prop := match b with
  | 0 => x = y | 1 => ¬ x = y | 2 => x.toInt < y.toInt | 3 => y.toInt ≤ x.toInt | 4 => y.toInt < x.toInt | _ => x.toInt ≤ y.toInt
def cmpF (b : Nat) (x y : Int32) : Prop := match b with
  | 0 => ¬ x = y | 1 => x = y | 2 => y.toInt ≤ x.toInt | 3 => x.toInt < y.toInt | 4 => x.toInt ≤ y.toInt | _ => y.toInt < x.toInt
def binW (a : Nat) (x y : Int32) (k : Int32 → Prop) : Prop := match a with
  | 0 => k (x + y)
  | 1 => k (x - y)
  | 2 => k (x * y)
  | 3 => ¬ y = 0 ∧ k (x / y)
  | 4 => ¬ y = 0 ∧ k (x - x / y * y)
  | 5 => k (x &&& y)
  | 6 => k ((x.toUInt32 >>> (y.toUInt32 &&& Int32.toUInt32 31)).toInt32)
  | 7 => k (x ^^^ y)
  | 8 => k (x >>> (y &&& 31))
  | _ => k (x <<< (y &&& 31))
def swW (x : Int32) (k : Nat → Prop) (d : Nat) : List (Nat × Nat) → Prop
  | [] => k d
  | (v, t) :: cs => (x = Int32.ofNat v → k t) ∧ (¬ x = Int32.ofNat v → swW x k d cs)
def retW (ret : Nat) (v : Int32) (q : Prop) : Prop := match ret with
  | 0 => q
  | 1 => (v = 0 ∨ v = 1) ∧ q
  | _ => False
def pushW (r : Option MV) (st : List MV) : List MV := match r with
  | some v => v :: st
  | none => st
def inA (i : Int32) (n : Nat) : Prop := 0 ≤ i.toInt ∧ i.toInt < (n : Int)
def boolW (b : Bool) (q : Prop) : Prop := match b with
  | true => q
  | false => False
/-- one instruction: k goes on with the next one, j jumps, X takes a loop's head over, call calls, Q is what is wanted of the answer -/
def stepW (call : Nat → List MV → St → (Option MV → St → Prop) → Prop) (L : Nat) (xs : Nat → Int32) (ret : Nat) (Q : Option MV → St → Prop) (X : Nat → List MV → List MV → St → Prop) (k : List Ent → List MV → List MV → St → Prop) (j : Nat → List MV → List MV → St → Prop) (es : List Ent) (ls st : List MV) (s : St) : Prop :=
  match es with
  | [] => False
  | (pc, (op, a, b, d), c, cs) :: es => match op with
    | 0 => X pc (takeL ls a) st s
    | 1 => k es ls (.inl c :: st) s
    | 2 => (match getL ls a with
      | some (.inl x) => boolW (Nat.ble b 1) (k es ls (.inl x :: st) s)
      | some (.inr r) => boolW (Nat.ble 2 b) (k es ls (.inr r :: st) s)
      | none => False)
    | 3 => (match st with
      | .inl x :: st => boolW (Nat.ble b 1 && Nat.ble a ls.length) (k es (setL ls a (.inl x)) st s)
      | .inr r :: st => boolW (Nat.ble 2 b && Nat.ble a ls.length) (k es (setL ls a (.inr r)) st s)
      | [] => False)
    | 4 => (match st with
      | .inl y :: .inl x :: st => binW a x y (fun v => k es ls (.inl v :: st) s)
      | _ => False)
    | 5 => (match getL ls a with
      | some (.inl x) => k es (setL ls a (.inl (x + c))) st s
      | _ => False)
    | 6 => (match st with
      | .inl x :: st => (cmpF b x 0 → k es ls st s) ∧ (cmpT b x 0 → j a ls st s)
      | _ => False)
    | 7 => (match st with
      | .inl y :: .inl x :: st => (cmpF b x y → k es ls st s) ∧ (cmpT b x y → j a ls st s)
      | _ => False)
    | 8 => j a ls st s
    | 9 => (match st with
      | .inr (q, i) :: st => boolW (Nat.beq q b) (k es ls (fv s b i d :: st) s)
      | _ => False)
    | 10 => (match st with
      | .inl x :: .inr (q, i) :: st => boolW (Nat.beq q b) (match lk b d i with
        | none => (match Nat.beq b 2 && Nat.beq d 5 with
          | true => (x = 0 ∨ x = 1) ∧ k es ls st (putV s b i d x)
          | false => k es ls st (putV s b i d x))
        | some _ => False)
      | _ => False)
    | 11 => (match st with
      | .inl i :: .inr (q, n) :: st => (match Nat.beq q 24 with
        | true => boolW (Nat.beq a 0) (inA i L ∧ k es ls (.inl (xs i.toNatClampNeg) :: st) s)
        | false => (match akind q with
          | 0 => boolW (Nat.beq a 0) (inA i (alen q) ∧ k es ls (.inl (s.1 q n i.toNatClampNeg) :: st) s)
          | 1 => boolW (Nat.beq a 1) (inA i (alen q) ∧ k es ls (.inl (s.1 q n i.toNatClampNeg) :: st) s)
          | 2 => boolW (Nat.beq a 1) (inA i (alen q) ∧ k es ls (.inl (s.1 q n i.toNatClampNeg) :: st) s)
          | 3 => boolW (Nat.beq a 2) (inA i (alen q) ∧ k es ls (.inr (el s.2 q n i.toNatClampNeg) :: st) s)
          | _ => False))
      | _ => False)
    | 12 => (match st with
      | .inl x :: .inl i :: .inr (q, n) :: st => (match akind q with
        | 0 => boolW (Nat.beq a 0) (inA i (alen q) ∧ k es ls st (putV s q n i.toNatClampNeg x))
        | 1 => boolW (Nat.beq a 1) (inA i (alen q) ∧ (x = 0 ∨ x = 1) ∧ k es ls st (putV s q n i.toNatClampNeg x))
        | 2 => boolW (Nat.beq a 1) (inA i (alen q) ∧ x.toInt8.toInt32 = x ∧ k es ls st (putV s q n i.toNatClampNeg x))
        | _ => False)
      | .inr (w, y) :: .inl i :: .inr (q, n) :: st => boolW (Nat.beq w 2 && (Nat.beq a 2 && Nat.beq q 14)) (inA i 5 ∧ k es ls st (putP s n i.toNatClampNeg y))
      | _ => False)
    | 13 => (match cs with
      | (n, w) :: _ => (match popL n [] st with
        | some (as, st) => boolW (Nat.ble st.length 8) (match Nat.beq d 0 with
          | true => (match as with
            | .inr (q, _) :: _ => boolW (Nat.beq q w) (call b as s (fun r s => k es ls (pushW r st) s))
            | _ => False)
          | false => call b as s (fun r s => k es ls (pushW r st) s))
        | none => False)
      | [] => False)
    | 14 => (match Nat.beq a 0 with
      | true => (match st with
        | [.inl v] => retW ret v (Q (some (.inl v)) s)
        | _ => False)
      | false => (match st with
        | [] => boolW (Nat.beq ret 2) (Q none s)
        | _ => False))
    | 15 => (match st with
      | v :: st => k es ls (v :: v :: st) s
      | _ => False)
    | 16 => (match st with
      | v :: w :: st => k es ls (v :: w :: v :: w :: st) s
      | _ => False)
    | 17 => (match st with
      | .inl x :: st => k es ls (.inl x.toInt8.toInt32 :: st) s
      | _ => False)
    | 18 => (match st with
      | .inl x :: st => swW x (fun t => j t ls st s) a cs
      | _ => False)
    | 19 => (match st with
      | .inr (q, _) :: st => boolW (Nat.beq q 24) (k es ls (.inl (Int32.ofNat L) :: st) s)
      | _ => False)
    | 20 => (match st with
      | .inl y :: .inl x :: st => boolW (Nat.ble st.length 8) (k es ls (.inl (if y < x then y else x) :: st) s)
      | _ => False)
    | _ => False
/-- at most n instructions from an entry on, up to a loop's head or the end -/
def wp (call : Nat → List MV → St → (Option MV → St → Prop) → Prop) (L : Nat) (xs : Nat → Int32) (ret : Nat) (Q : Option MV → St → Prop) (X : Nat → List MV → List MV → St → Prop) (code : List Ent) : Nat → List Ent → List MV → List MV → St → Prop
  | 0 => fun _ _ _ _ => False
  | n + 1 => fun es ls st s => stepW call L xs ret Q X (wp call L xs ret Q X code n) (fun t ls st s => wp call L xs ret Q X code n (fromPc code t) ls st s) es ls st s
/-- a method's body meets Q: X holds at its start, whatever X is closed under the body's stretches -/
def bodyW (call : Nat → List MV → St → (Option MV → St → Prop) → Prop) (L : Nat) (xs : Nat → Int32) (ret : Nat) (Q : Option MV → St → Prop) (code : List Ent) (pc : Nat) (ls st : List MV) (s : St) : Prop :=
  ∀ X : Nat → List MV → List MV → St → Prop, (∀ (n pc : Nat) (ls st : List MV) (s : St), wp call L xs ret Q X code n (behind (fromPc code pc)) ls st s → X pc ls st s) → X pc ls st s
/-- method m, on these arguments and this store, with f frames of room, returns, and Q holds of its answer and its store -/
def wpM (L : Nat) (xs : Nat → Int32) (cod : Nat → List Ent) (rets : Nat → Nat) : Nat → Nat → List MV → St → (Option MV → St → Prop) → Prop
  | 0 => fun _ _ _ _ => False
  | f + 1 => fun m as s Q => ∀ call : Nat → List MV → St → (Option MV → St → Prop) → Prop, (∀ (m : Nat) (as : List MV) (s : St) (Q : Option MV → St → Prop), wpM L xs cod rets f m as s Q → call m as s Q) → bodyW call L xs (rets m) Q (cod m) 0 as [] s
end
section
/-- NameMaps$ActText.<init>()V: 10 entries; loop heads [] -/
def co_X0_init : List Ent := [(0, (2, 0, 2, 0), 0, []),
  (1, (24, 3, 999, 0), 0, []),
  (4, (2, 0, 2, 0), 0, []),
  (5, (1, 0, 1, 0), nI 80, []),
  (7, (22, 2, 0, 0), 0, []),
  (9, (10, 9, 0, 0), 0, []),
  (12, (2, 0, 2, 0), 0, []),
  (13, (1, 0, 0, 0), (-1), []),
  (14, (10, 15, 0, 3), 0, []),
  (17, (14, 1, 0, 0), 0, [])]
abbrev m_X0_init : Nat := 0
/-- NameMaps$Block.<init>()V: 3 entries; loop heads [] -/
def co_X1_init : List Ent := [(0, (2, 0, 2, 0), 0, []),
  (1, (24, 1, 999, 0), 0, []),
  (4, (14, 1, 0, 0), 0, [])]
abbrev m_X1_init : Nat := 1
/-- NameMaps$Block.become(II)V: 7 entries; loop heads [] -/
def co_X1_become : List Ent := [(0, (2, 0, 2, 0), 0, []),
  (1, (2, 1, 0, 0), 0, []),
  (2, (10, 7, 1, 0), 0, []),
  (5, (2, 0, 2, 0), 0, []),
  (6, (2, 2, 0, 0), 0, []),
  (7, (10, 13, 1, 1), 0, []),
  (10, (14, 1, 0, 0), 0, [])]
abbrev m_X1_become : Nat := 2
/-- NameMaps$Block.copyFrom(LNameMaps$Block;)V: 9 entries; loop heads [] -/
def co_X1_copyFrom : List Ent := [(0, (2, 0, 2, 0), 0, []),
  (1, (2, 1, 2, 0), 0, []),
  (2, (9, 7, 1, 0), 0, []),
  (5, (10, 7, 1, 0), 0, []),
  (8, (2, 0, 2, 0), 0, []),
  (9, (2, 1, 2, 0), 0, []),
  (10, (9, 13, 1, 1), 0, []),
  (13, (10, 13, 1, 1), 0, []),
  (16, (14, 1, 0, 0), 0, [])]
abbrev m_X1_copyFrom : Nat := 3
/-- NameMaps$Block.isAt(II)Z: 12 entries; loop heads [] -/
def co_X1_isAt : List Ent := [(0, (2, 0, 2, 0), 0, []),
  (1, (9, 7, 1, 0), 0, []),
  (4, (2, 1, 0, 0), 0, []),
  (5, (7, 20, 1, 0), 0, []),
  (8, (2, 0, 2, 0), 0, []),
  (9, (9, 13, 1, 1), 0, []),
  (12, (2, 2, 0, 0), 0, []),
  (13, (7, 20, 1, 0), 0, []),
  (16, (1, 0, 0, 0), nI 1, []),
  (17, (8, 21, 0, 0), 0, []),
  (20, (1, 0, 0, 0), nI 0, []),
  (21, (14, 0, 0, 0), 0, [])]
abbrev m_X1_isAt : Nat := 4
/-- NameMaps$Block.has(I)Z: 5 entries; loop heads [] -/
def co_X1_has : List Ent := [(0, (2, 0, 2, 0), 0, []),
  (1, (2, 1, 0, 0), 0, []),
  (2, (1, 0, 0, 0), nI 1, []),
  (3, (13, 16, 6, 0), 0, [(3, 1)]),
  (6, (14, 0, 0, 0), 0, [])]
abbrev m_X1_has : Nat := 5
/-- NameMaps$Block.holds(II)Z: 17 entries; loop heads [] -/
def co_X1_holds : List Ent := [(0, (2, 0, 2, 0), 0, []),
  (1, (9, 7, 1, 0), 0, []),
  (4, (2, 1, 0, 0), 0, []),
  (5, (7, 27, 4, 0), 0, []),
  (8, (2, 1, 0, 0), 0, []),
  (9, (2, 2, 0, 0), 0, []),
  (10, (4, 0, 0, 0), 0, []),
  (11, (2, 0, 2, 0), 0, []),
  (12, (9, 7, 1, 0), 0, []),
  (15, (2, 0, 2, 0), 0, []),
  (16, (9, 13, 1, 1), 0, []),
  (19, (4, 0, 0, 0), 0, []),
  (20, (7, 27, 4, 0), 0, []),
  (23, (1, 0, 0, 0), nI 1, []),
  (24, (8, 28, 0, 0), 0, []),
  (27, (1, 0, 0, 0), nI 0, []),
  (28, (14, 0, 0, 0), 0, [])]
abbrev m_X1_holds : Nat := 6
/-- NameMaps$Block.meets(II)Z: 17 entries; loop heads [] -/
def co_X1_meets : List Ent := [(0, (2, 0, 2, 0), 0, []),
  (1, (9, 7, 1, 0), 0, []),
  (4, (2, 1, 0, 0), 0, []),
  (5, (2, 2, 0, 0), 0, []),
  (6, (4, 0, 0, 0), 0, []),
  (7, (7, 27, 3, 0), 0, []),
  (10, (2, 1, 0, 0), 0, []),
  (11, (2, 0, 2, 0), 0, []),
  (12, (9, 7, 1, 0), 0, []),
  (15, (2, 0, 2, 0), 0, []),
  (16, (9, 13, 1, 1), 0, []),
  (19, (4, 0, 0, 0), 0, []),
  (20, (7, 27, 3, 0), 0, []),
  (23, (1, 0, 0, 0), nI 1, []),
  (24, (8, 28, 0, 0), 0, []),
  (27, (1, 0, 0, 0), nI 0, []),
  (28, (14, 0, 0, 0), 0, [])]
abbrev m_X1_meets : Nat := 7
/-- NameMaps$CacheMap.<init>()V: 13 entries; loop heads [] -/
def co_X2_init : List Ent := [(0, (2, 0, 2, 0), 0, []),
  (1, (24, 3, 999, 0), 0, []),
  (4, (2, 0, 2, 0), 0, []),
  (5, (21, 9, 1, 0), 0, []),
  (8, (15, 0, 0, 0), 0, []),
  (9, (24, 11, 1, 1), 0, [(1, 0)]),
  (12, (10, 12, 2, 0), 0, []),
  (15, (2, 0, 2, 0), 0, []),
  (16, (21, 18, 7, 0), 0, []),
  (19, (15, 0, 0, 0), 0, []),
  (20, (24, 20, 36, 1), 0, [(1, 0)]),
  (23, (10, 21, 2, 1), 0, []),
  (26, (14, 1, 0, 0), 0, [])]
abbrev m_X2_init : Nat := 8
/-- NameMaps$CacheMap.become(ILNameMaps$Site;I)V: 24 entries; loop heads [] -/
def co_X2_become : List Ent := [(0, (2, 0, 2, 0), 0, []),
  (1, (9, 12, 2, 0), 0, []),
  (4, (2, 2, 2, 0), 0, []),
  (5, (9, 25, 6, 0), 0, []),
  (8, (13, 28, 3, 0), 0, [(2, 1)]),
  (11, (2, 0, 2, 0), 0, []),
  (12, (9, 21, 2, 1), 0, []),
  (15, (2, 2, 2, 0), 0, []),
  (16, (9, 32, 6, 1), 0, []),
  (19, (13, 33, 37, 0), 0, [(2, 7)]),
  (22, (2, 0, 2, 0), 0, []),
  (23, (2, 1, 0, 0), 0, []),
  (24, (10, 36, 2, 2), 0, []),
  (27, (2, 0, 2, 0), 0, []),
  (28, (2, 2, 2, 0), 0, []),
  (29, (9, 40, 6, 3), 0, []),
  (32, (10, 43, 2, 3), 0, []),
  (35, (2, 0, 2, 0), 0, []),
  (36, (2, 3, 0, 0), 0, []),
  (37, (10, 44, 2, 4), 0, []),
  (40, (2, 0, 2, 0), 0, []),
  (41, (1, 0, 0, 0), nI 0, []),
  (42, (10, 47, 2, 5), 0, []),
  (45, (14, 1, 0, 0), 0, [])]
abbrev m_X2_become : Nat := 9
/-- NameMaps$CacheMap.copyFrom(LNameMaps$CacheMap;)V: 27 entries; loop heads [] -/
def co_X2_copyFrom : List Ent := [(0, (2, 0, 2, 0), 0, []),
  (1, (9, 12, 2, 0), 0, []),
  (4, (2, 1, 2, 0), 0, []),
  (5, (9, 12, 2, 0), 0, []),
  (8, (13, 28, 3, 0), 0, [(2, 1)]),
  (11, (2, 0, 2, 0), 0, []),
  (12, (9, 21, 2, 1), 0, []),
  (15, (2, 1, 2, 0), 0, []),
  (16, (9, 21, 2, 1), 0, []),
  (19, (13, 33, 37, 0), 0, [(2, 7)]),
  (22, (2, 0, 2, 0), 0, []),
  (23, (2, 1, 2, 0), 0, []),
  (24, (9, 36, 2, 2), 0, []),
  (27, (10, 36, 2, 2), 0, []),
  (30, (2, 0, 2, 0), 0, []),
  (31, (2, 1, 2, 0), 0, []),
  (32, (9, 43, 2, 3), 0, []),
  (35, (10, 43, 2, 3), 0, []),
  (38, (2, 0, 2, 0), 0, []),
  (39, (2, 1, 2, 0), 0, []),
  (40, (9, 44, 2, 4), 0, []),
  (43, (10, 44, 2, 4), 0, []),
  (46, (2, 0, 2, 0), 0, []),
  (47, (2, 1, 2, 0), 0, []),
  (48, (9, 47, 2, 5), 0, []),
  (51, (10, 47, 2, 5), 0, []),
  (54, (14, 1, 0, 0), 0, [])]
abbrev m_X2_copyFrom : Nat := 10
/-- NameMaps$CacheMap.isHolding(I)Z: 8 entries; loop heads [] -/
def co_X2_isHolding : List Ent := [(0, (2, 1, 0, 0), 0, []),
  (1, (2, 0, 2, 0), 0, []),
  (2, (9, 44, 2, 4), 0, []),
  (5, (7, 12, 3, 0), 0, []),
  (8, (1, 0, 0, 0), nI 1, []),
  (9, (8, 13, 0, 0), 0, []),
  (12, (1, 0, 0, 0), nI 0, []),
  (13, (14, 0, 0, 0), 0, [])]
abbrev m_X2_isHolding : Nat := 11
/-- NameMaps$CacheMap.property(II)I: 28 entries; loop heads [] -/
def co_X2_property : List Ent := [(0, (2, 1, 0, 0), 0, []),
  (1, (18, 78, 35, 0), 0, [(0, 36), (1, 41), (2, 46), (3, 51), (4, 64)]),
  (36, (2, 0, 2, 0), 0, []),
  (37, (9, 36, 2, 2), 0, []),
  (40, (14, 0, 0, 0), 0, []),
  (41, (2, 0, 2, 0), 0, []),
  (42, (9, 43, 2, 3), 0, []),
  (45, (14, 0, 0, 0), 0, []),
  (46, (2, 0, 2, 0), 0, []),
  (47, (9, 44, 2, 4), 0, []),
  (50, (14, 0, 0, 0), 0, []),
  (51, (2, 0, 2, 0), 0, []),
  (52, (9, 47, 2, 5), 0, []),
  (55, (6, 62, 0, 0), 0, []),
  (58, (1, 0, 0, 0), nI 1, []),
  (59, (8, 63, 0, 0), 0, []),
  (62, (1, 0, 0, 0), nI 0, []),
  (63, (14, 0, 0, 0), 0, []),
  (64, (2, 0, 2, 0), 0, []),
  (65, (2, 2, 0, 0), 0, []),
  (66, (13, 51, 11, 0), 0, [(2, 2)]),
  (69, (6, 76, 0, 0), 0, []),
  (72, (1, 0, 0, 0), nI 1, []),
  (73, (8, 77, 0, 0), 0, []),
  (76, (1, 0, 0, 0), nI 0, []),
  (77, (14, 0, 0, 0), 0, []),
  (78, (1, 0, 1, 0), (-2), []),
  (80, (14, 0, 0, 0), 0, [])]
abbrev m_X2_property : Nat := 12
/-- NameMaps$History.<init>()V: 22 entries; loop heads [15] -/
def co_X3_init : List Ent := [(0, (2, 0, 2, 0), 0, []),
  (1, (24, 3, 999, 0), 0, []),
  (4, (2, 0, 2, 0), 0, []),
  (5, (1, 0, 1, 0), nI 6, []),
  (7, (23, 11, 8, 0), 0, []),
  (10, (10, 13, 3, 0), 0, []),
  (13, (1, 0, 0, 0), nI 0, []),
  (14, (3, 1, 0, 0), 0, []),
  (15, (0, 2, 0, 0), 0, []),
  (15, (2, 1, 0, 0), 0, []),
  (16, (1, 0, 1, 0), nI 6, []),
  (18, (7, 40, 3, 0), 0, []),
  (21, (2, 0, 2, 0), 0, []),
  (22, (9, 13, 3, 0), 0, []),
  (25, (2, 1, 0, 0), 0, []),
  (26, (21, 11, 8, 0), 0, []),
  (29, (15, 0, 0, 0), 0, []),
  (30, (24, 17, 46, 0), 0, [(1, 0)]),
  (33, (12, 2, 0, 0), 0, []),
  (34, (5, 1, 0, 0), nI 1, []),
  (37, (8, 15, 0, 0), 0, []),
  (40, (14, 1, 0, 0), 0, [])]
abbrev m_X3_init : Nat := 13
/-- NameMaps$History.row(I)I: 7 entries; loop heads [] -/
def co_X3_row : List Ent := [(0, (2, 0, 2, 0), 0, []),
  (1, (9, 18, 3, 1), 0, []),
  (4, (2, 1, 0, 0), 0, []),
  (5, (4, 0, 0, 0), 0, []),
  (6, (1, 0, 1, 0), nI 6, []),
  (8, (13, 22, 113, 3), 0, [(2, 26)]),
  (11, (14, 0, 0, 0), 0, [])]
abbrev m_X3_row : Nat := 14
/-- NameMaps$History.draft(LNameMaps$World;)V: 10 entries; loop heads [] -/
def co_X3_draft : List Ent := [(0, (2, 0, 2, 0), 0, []),
  (1, (9, 13, 3, 0), 0, []),
  (4, (2, 0, 2, 0), 0, []),
  (5, (2, 0, 2, 0), 0, []),
  (6, (9, 28, 3, 2), 0, []),
  (9, (13, 31, 14, 0), 0, [(2, 3)]),
  (12, (11, 2, 0, 0), 0, []),
  (13, (2, 1, 2, 0), 0, []),
  (14, (13, 35, 47, 0), 0, [(2, 8)]),
  (17, (14, 1, 0, 0), 0, [])]
abbrev m_X3_draft : Nat := 15
/-- NameMaps$History.keepDraft()V: 17 entries; loop heads [] -/
def co_X3_keepDraft : List Ent := [(0, (2, 0, 2, 0), 0, []),
  (1, (9, 28, 3, 2), 0, []),
  (4, (1, 0, 0, 0), nI 5, []),
  (5, (7, 21, 3, 0), 0, []),
  (8, (2, 0, 2, 0), 0, []),
  (9, (15, 0, 0, 0), 0, []),
  (10, (9, 28, 3, 2), 0, []),
  (13, (1, 0, 0, 0), nI 1, []),
  (14, (4, 0, 0, 0), 0, []),
  (15, (10, 28, 3, 2), 0, []),
  (18, (8, 30, 0, 0), 0, []),
  (21, (2, 0, 2, 0), 0, []),
  (22, (2, 0, 2, 0), 0, []),
  (23, (1, 0, 0, 0), nI 1, []),
  (24, (13, 31, 14, 0), 0, [(2, 3)]),
  (27, (10, 18, 3, 1), 0, []),
  (30, (14, 1, 0, 0), 0, [])]
abbrev m_X3_keepDraft : Nat := 16
/-- NameMaps$History.takeLatest(LNameMaps$World;)V: 19 entries; loop heads [] -/
def co_X3_takeLatest : List Ent := [(0, (2, 0, 2, 0), 0, []),
  (1, (9, 28, 3, 2), 0, []),
  (4, (6, 34, 5, 0), 0, []),
  (7, (2, 0, 2, 0), 0, []),
  (8, (15, 0, 0, 0), 0, []),
  (9, (9, 28, 3, 2), 0, []),
  (12, (1, 0, 0, 0), nI 1, []),
  (13, (4, 1, 0, 0), 0, []),
  (14, (10, 28, 3, 2), 0, []),
  (17, (2, 1, 2, 0), 0, []),
  (18, (2, 0, 2, 0), 0, []),
  (19, (9, 13, 3, 0), 0, []),
  (22, (2, 0, 2, 0), 0, []),
  (23, (2, 0, 2, 0), 0, []),
  (24, (9, 28, 3, 2), 0, []),
  (27, (13, 31, 14, 0), 0, [(2, 3)]),
  (30, (11, 2, 0, 0), 0, []),
  (31, (13, 35, 47, 0), 0, [(2, 8)]),
  (34, (14, 1, 0, 0), 0, [])]
abbrev m_X3_takeLatest : Nat := 17
/-- NameMaps$Router.<init>()V: 22 entries; loop heads [14] -/
def co_X4_init : List Ent := [(0, (2, 0, 2, 0), 0, []),
  (1, (24, 3, 999, 0), 0, []),
  (4, (2, 0, 2, 0), 0, []),
  (5, (1, 0, 0, 0), nI 5, []),
  (6, (23, 9, 2, 0), 0, []),
  (9, (10, 11, 4, 0), 0, []),
  (12, (1, 0, 0, 0), nI 0, []),
  (13, (3, 1, 0, 0), 0, []),
  (14, (0, 2, 0, 0), 0, []),
  (14, (2, 1, 0, 0), 0, []),
  (15, (1, 0, 0, 0), nI 5, []),
  (16, (7, 38, 3, 0), 0, []),
  (19, (2, 0, 2, 0), 0, []),
  (20, (9, 11, 4, 0), 0, []),
  (23, (2, 1, 0, 0), 0, []),
  (24, (21, 9, 2, 0), 0, []),
  (27, (15, 0, 0, 0), 0, []),
  (28, (24, 17, 8, 1), 0, [(1, 0)]),
  (31, (12, 2, 0, 0), 0, []),
  (32, (5, 1, 0, 0), nI 1, []),
  (35, (8, 14, 0, 0), 0, []),
  (38, (14, 1, 0, 0), 0, [])]
abbrev m_X4_init : Nat := 18
/-- NameMaps$Router.start()V: 19 entries; loop heads [] -/
def co_X4_start : List Ent := [(0, (2, 0, 2, 0), 0, []),
  (1, (1, 0, 0, 0), nI 0, []),
  (2, (10, 18, 4, 1), 0, []),
  (5, (2, 0, 2, 0), 0, []),
  (6, (1, 0, 0, 0), nI 0, []),
  (7, (10, 22, 4, 2), 0, []),
  (10, (2, 0, 2, 0), 0, []),
  (11, (1, 0, 0, 0), nI 0, []),
  (12, (10, 25, 4, 3), 0, []),
  (15, (2, 0, 2, 0), 0, []),
  (16, (1, 0, 0, 0), nI 0, []),
  (17, (10, 28, 4, 4), 0, []),
  (20, (2, 0, 2, 0), 0, []),
  (21, (1, 0, 0, 0), nI 0, []),
  (22, (10, 31, 4, 5), 0, []),
  (25, (2, 0, 2, 0), 0, []),
  (26, (1, 0, 0, 0), nI 0, []),
  (27, (10, 34, 4, 6), 0, []),
  (30, (14, 1, 0, 0), 0, [])]
abbrev m_X4_start : Nat := 19
/-- NameMaps$Router.copyFrom(LNameMaps$Router;)V: 43 entries; loop heads [10] -/
def co_X4_copyFrom : List Ent := [(0, (2, 0, 2, 0), 0, []),
  (1, (2, 1, 2, 0), 0, []),
  (2, (9, 18, 4, 1), 0, []),
  (5, (10, 18, 4, 1), 0, []),
  (8, (1, 0, 0, 0), nI 0, []),
  (9, (3, 2, 0, 0), 0, []),
  (10, (0, 3, 0, 0), 0, []),
  (10, (2, 2, 0, 0), 0, []),
  (11, (2, 0, 2, 0), 0, []),
  (12, (9, 18, 4, 1), 0, []),
  (15, (7, 39, 3, 0), 0, []),
  (18, (2, 0, 2, 0), 0, []),
  (19, (9, 11, 4, 0), 0, []),
  (22, (2, 2, 0, 0), 0, []),
  (23, (11, 2, 0, 0), 0, []),
  (24, (2, 1, 2, 0), 0, []),
  (25, (9, 11, 4, 0), 0, []),
  (28, (2, 2, 0, 0), 0, []),
  (29, (11, 2, 0, 0), 0, []),
  (30, (13, 37, 10, 0), 0, [(2, 2)]),
  (33, (5, 2, 0, 0), nI 1, []),
  (36, (8, 10, 0, 0), 0, []),
  (39, (2, 0, 2, 0), 0, []),
  (40, (2, 1, 2, 0), 0, []),
  (41, (9, 22, 4, 2), 0, []),
  (44, (10, 22, 4, 2), 0, []),
  (47, (2, 0, 2, 0), 0, []),
  (48, (2, 1, 2, 0), 0, []),
  (49, (9, 25, 4, 3), 0, []),
  (52, (10, 25, 4, 3), 0, []),
  (55, (2, 0, 2, 0), 0, []),
  (56, (2, 1, 2, 0), 0, []),
  (57, (9, 28, 4, 4), 0, []),
  (60, (10, 28, 4, 4), 0, []),
  (63, (2, 0, 2, 0), 0, []),
  (64, (2, 1, 2, 0), 0, []),
  (65, (9, 31, 4, 5), 0, []),
  (68, (10, 31, 4, 5), 0, []),
  (71, (2, 0, 2, 0), 0, []),
  (72, (2, 1, 2, 0), 0, []),
  (73, (9, 34, 4, 6), 0, []),
  (76, (10, 34, 4, 6), 0, []),
  (79, (14, 1, 0, 0), 0, [])]
abbrev m_X4_copyFrom : Nat := 20
/-- NameMaps$Router.isPlace(I)Z: 13 entries; loop heads [] -/
def co_X4_isPlace : List Ent := [(0, (2, 1, 0, 0), 0, []),
  (1, (6, 21, 2, 0), 0, []),
  (4, (2, 1, 0, 0), 0, []),
  (5, (2, 0, 2, 0), 0, []),
  (6, (9, 18, 4, 1), 0, []),
  (9, (7, 21, 3, 0), 0, []),
  (12, (2, 1, 0, 0), 0, []),
  (13, (1, 0, 0, 0), nI 5, []),
  (14, (7, 21, 3, 0), 0, []),
  (17, (1, 0, 0, 0), nI 1, []),
  (18, (8, 22, 0, 0), 0, []),
  (21, (1, 0, 0, 0), nI 0, []),
  (22, (14, 0, 0, 0), 0, [])]
abbrev m_X4_isPlace : Nat := 21
/-- NameMaps$Router.property(I)I: 22 entries; loop heads [] -/
def co_X4_property : List Ent := [(0, (2, 1, 0, 0), 0, []),
  (1, (18, 70, 39, 0), 0, [(0, 40), (1, 45), (2, 50), (3, 55), (4, 60), (5, 65)]),
  (40, (2, 0, 2, 0), 0, []),
  (41, (9, 18, 4, 1), 0, []),
  (44, (14, 0, 0, 0), 0, []),
  (45, (2, 0, 2, 0), 0, []),
  (46, (9, 22, 4, 2), 0, []),
  (49, (14, 0, 0, 0), 0, []),
  (50, (2, 0, 2, 0), 0, []),
  (51, (9, 25, 4, 3), 0, []),
  (54, (14, 0, 0, 0), 0, []),
  (55, (2, 0, 2, 0), 0, []),
  (56, (9, 28, 4, 4), 0, []),
  (59, (14, 0, 0, 0), 0, []),
  (60, (2, 0, 2, 0), 0, []),
  (61, (9, 31, 4, 5), 0, []),
  (64, (14, 0, 0, 0), 0, []),
  (65, (2, 0, 2, 0), 0, []),
  (66, (9, 34, 4, 6), 0, []),
  (69, (14, 0, 0, 0), 0, []),
  (70, (1, 0, 1, 0), (-2), []),
  (72, (14, 0, 0, 0), 0, [])]
abbrev m_X4_property : Nat := 22
/-- NameMaps$Router.moveToFront(I)V: 33 entries; loop heads [18] -/
def co_X4_moveToFront : List Ent := [(0, (2, 0, 2, 0), 0, []),
  (1, (2, 1, 0, 0), 0, []),
  (2, (13, 41, 21, 0), 0, [(2, 4)]),
  (5, (6, 9, 1, 0), 0, []),
  (8, (14, 1, 0, 0), 0, []),
  (9, (2, 0, 2, 0), 0, []),
  (10, (9, 11, 4, 0), 0, []),
  (13, (2, 1, 0, 0), 0, []),
  (14, (11, 2, 0, 0), 0, []),
  (15, (3, 2, 2, 0), 0, []),
  (16, (2, 1, 0, 0), 0, []),
  (17, (3, 3, 0, 0), 0, []),
  (18, (0, 4, 0, 0), 0, []),
  (18, (2, 3, 0, 0), 0, []),
  (19, (6, 42, 5, 0), 0, []),
  (22, (2, 0, 2, 0), 0, []),
  (23, (9, 11, 4, 0), 0, []),
  (26, (2, 3, 0, 0), 0, []),
  (27, (2, 0, 2, 0), 0, []),
  (28, (9, 11, 4, 0), 0, []),
  (31, (2, 3, 0, 0), 0, []),
  (32, (1, 0, 0, 0), nI 1, []),
  (33, (4, 1, 0, 0), 0, []),
  (34, (11, 2, 0, 0), 0, []),
  (35, (12, 2, 0, 0), 0, []),
  (36, (5, 3, 0, 0), (-1), []),
  (39, (8, 18, 0, 0), 0, []),
  (42, (2, 0, 2, 0), 0, []),
  (43, (9, 11, 4, 0), 0, []),
  (46, (1, 0, 0, 0), nI 0, []),
  (47, (2, 2, 2, 0), 0, []),
  (48, (12, 2, 0, 0), 0, []),
  (49, (14, 1, 0, 0), 0, [])]
abbrev m_X4_moveToFront : Nat := 23
/-- NameMaps$Router.drop(I)V: 44 entries; loop heads [18] -/
def co_X4_drop : List Ent := [(0, (2, 0, 2, 0), 0, []),
  (1, (2, 1, 0, 0), 0, []),
  (2, (13, 41, 21, 0), 0, [(2, 4)]),
  (5, (6, 9, 1, 0), 0, []),
  (8, (14, 1, 0, 0), 0, []),
  (9, (2, 0, 2, 0), 0, []),
  (10, (9, 11, 4, 0), 0, []),
  (13, (2, 1, 0, 0), 0, []),
  (14, (11, 2, 0, 0), 0, []),
  (15, (3, 2, 2, 0), 0, []),
  (16, (2, 1, 0, 0), 0, []),
  (17, (3, 3, 0, 0), 0, []),
  (18, (0, 4, 0, 0), 0, []),
  (18, (2, 3, 0, 0), 0, []),
  (19, (2, 0, 2, 0), 0, []),
  (20, (9, 18, 4, 1), 0, []),
  (23, (1, 0, 0, 0), nI 1, []),
  (24, (4, 1, 0, 0), 0, []),
  (25, (7, 48, 3, 0), 0, []),
  (28, (2, 0, 2, 0), 0, []),
  (29, (9, 11, 4, 0), 0, []),
  (32, (2, 3, 0, 0), 0, []),
  (33, (2, 0, 2, 0), 0, []),
  (34, (9, 11, 4, 0), 0, []),
  (37, (2, 3, 0, 0), 0, []),
  (38, (1, 0, 0, 0), nI 1, []),
  (39, (4, 0, 0, 0), 0, []),
  (40, (11, 2, 0, 0), 0, []),
  (41, (12, 2, 0, 0), 0, []),
  (42, (5, 3, 0, 0), nI 1, []),
  (45, (8, 18, 0, 0), 0, []),
  (48, (2, 0, 2, 0), 0, []),
  (49, (15, 0, 0, 0), 0, []),
  (50, (9, 18, 4, 1), 0, []),
  (53, (1, 0, 0, 0), nI 1, []),
  (54, (4, 1, 0, 0), 0, []),
  (55, (10, 18, 4, 1), 0, []),
  (58, (2, 0, 2, 0), 0, []),
  (59, (9, 11, 4, 0), 0, []),
  (62, (2, 0, 2, 0), 0, []),
  (63, (9, 18, 4, 1), 0, []),
  (66, (2, 2, 2, 0), 0, []),
  (67, (12, 2, 0, 0), 0, []),
  (68, (14, 1, 0, 0), 0, [])]
abbrev m_X4_drop : Nat := 24
/-- NameMaps$Router.dropEnded(I)V: 22 entries; loop heads [2] -/
def co_X4_dropEnded : List Ent := [(0, (1, 0, 0, 0), nI 4, []),
  (1, (3, 2, 0, 0), 0, []),
  (2, (0, 3, 0, 0), 0, []),
  (2, (2, 2, 0, 0), 0, []),
  (3, (6, 38, 2, 0), 0, []),
  (6, (2, 0, 2, 0), 0, []),
  (7, (2, 2, 0, 0), 0, []),
  (8, (13, 41, 21, 0), 0, [(2, 4)]),
  (11, (6, 32, 0, 0), 0, []),
  (14, (2, 0, 2, 0), 0, []),
  (15, (9, 11, 4, 0), 0, []),
  (18, (2, 2, 0, 0), 0, []),
  (19, (11, 2, 0, 0), 0, []),
  (20, (2, 1, 0, 0), 0, []),
  (21, (13, 45, 11, 0), 0, [(2, 2)]),
  (24, (6, 32, 1, 0), 0, []),
  (27, (2, 0, 2, 0), 0, []),
  (28, (2, 2, 0, 0), 0, []),
  (29, (13, 48, 24, 0), 0, [(2, 4)]),
  (32, (5, 2, 0, 0), (-1), []),
  (35, (8, 2, 0, 0), 0, []),
  (38, (14, 1, 0, 0), 0, [])]
abbrev m_X4_dropEnded : Nat := 25
/-- NameMaps$Router.placeOfSite(I)I: 20 entries; loop heads [2] -/
def co_X4_placeOfSite : List Ent := [(0, (1, 0, 0, 0), nI 0, []),
  (1, (3, 2, 0, 0), 0, []),
  (2, (0, 3, 0, 0), 0, []),
  (2, (2, 2, 0, 0), 0, []),
  (3, (2, 0, 2, 0), 0, []),
  (4, (9, 18, 4, 1), 0, []),
  (7, (7, 31, 3, 0), 0, []),
  (10, (2, 0, 2, 0), 0, []),
  (11, (9, 11, 4, 0), 0, []),
  (14, (2, 2, 0, 0), 0, []),
  (15, (11, 2, 0, 0), 0, []),
  (16, (9, 52, 2, 2), 0, []),
  (19, (2, 1, 0, 0), 0, []),
  (20, (7, 25, 1, 0), 0, []),
  (23, (2, 2, 0, 0), 0, []),
  (24, (14, 0, 0, 0), 0, []),
  (25, (5, 2, 0, 0), nI 1, []),
  (28, (8, 2, 0, 0), 0, []),
  (31, (1, 0, 0, 0), (-1), []),
  (32, (14, 0, 0, 0), 0, [])]
abbrev m_X4_placeOfSite : Nat := 26
/-- NameMaps$Router.placeOfSmallest(I)I: 34 entries; loop heads [9] -/
def co_X4_placeOfSmallest : List Ent := [(0, (1, 0, 0, 0), (-1), []),
  (1, (3, 2, 0, 0), 0, []),
  (2, (1, 0, 2, 0), nI 257, []),
  (5, (3, 3, 0, 0), 0, []),
  (6, (1, 0, 0, 0), nI 0, []),
  (7, (3, 4, 1, 0), 0, []),
  (9, (0, 5, 0, 0), 0, []),
  (9, (2, 4, 1, 0), 0, []),
  (11, (2, 0, 2, 0), 0, []),
  (12, (9, 18, 4, 1), 0, []),
  (15, (7, 63, 3, 0), 0, []),
  (18, (2, 0, 2, 0), 0, []),
  (19, (9, 11, 4, 0), 0, []),
  (22, (2, 4, 1, 0), 0, []),
  (24, (11, 2, 0, 0), 0, []),
  (25, (9, 55, 2, 0), 0, []),
  (28, (3, 5, 3, 0), 0, []),
  (30, (2, 5, 3, 0), 0, []),
  (32, (2, 1, 0, 0), 0, []),
  (33, (13, 59, 5, 0), 0, [(2, 1)]),
  (36, (6, 57, 0, 0), 0, []),
  (39, (2, 5, 3, 0), 0, []),
  (41, (9, 64, 1, 1), 0, []),
  (44, (2, 3, 0, 0), 0, []),
  (45, (7, 57, 3, 0), 0, []),
  (48, (2, 4, 1, 0), 0, []),
  (50, (3, 2, 0, 0), 0, []),
  (51, (2, 5, 3, 0), 0, []),
  (53, (9, 64, 1, 1), 0, []),
  (56, (3, 3, 0, 0), 0, []),
  (57, (5, 4, 0, 0), nI 1, []),
  (60, (8, 9, 0, 0), 0, []),
  (63, (2, 2, 0, 0), 0, []),
  (64, (14, 0, 0, 0), 0, [])]
abbrev m_X4_placeOfSmallest : Nat := 27
/-- NameMaps$Router.addMap(ILNameMaps$Site;I)V: 34 entries; loop heads [] -/
def co_X4_addMap : List Ent := [(0, (2, 0, 2, 0), 0, []),
  (1, (2, 0, 2, 0), 0, []),
  (2, (2, 1, 0, 0), 0, []),
  (3, (13, 67, 26, 0), 0, [(2, 4)]),
  (6, (13, 48, 24, 0), 0, [(2, 4)]),
  (9, (2, 0, 2, 0), 0, []),
  (10, (9, 18, 4, 1), 0, []),
  (13, (1, 0, 0, 0), nI 5, []),
  (14, (7, 22, 2, 0), 0, []),
  (17, (2, 0, 2, 0), 0, []),
  (18, (1, 0, 0, 0), nI 4, []),
  (19, (13, 48, 24, 0), 0, [(2, 4)]),
  (22, (2, 0, 2, 0), 0, []),
  (23, (9, 11, 4, 0), 0, []),
  (26, (2, 0, 2, 0), 0, []),
  (27, (9, 18, 4, 1), 0, []),
  (30, (11, 2, 0, 0), 0, []),
  (31, (2, 1, 0, 0), 0, []),
  (32, (2, 2, 2, 0), 0, []),
  (33, (2, 3, 0, 0), 0, []),
  (34, (13, 71, 9, 0), 0, [(4, 2)]),
  (37, (2, 0, 2, 0), 0, []),
  (38, (15, 0, 0, 0), 0, []),
  (39, (9, 18, 4, 1), 0, []),
  (42, (1, 0, 0, 0), nI 1, []),
  (43, (4, 0, 0, 0), 0, []),
  (44, (10, 18, 4, 1), 0, []),
  (47, (2, 0, 2, 0), 0, []),
  (48, (2, 0, 2, 0), 0, []),
  (49, (9, 18, 4, 1), 0, []),
  (52, (1, 0, 0, 0), nI 1, []),
  (53, (4, 1, 0, 0), 0, []),
  (54, (13, 75, 23, 0), 0, [(2, 4)]),
  (57, (14, 1, 0, 0), 0, [])]
abbrev m_X4_addMap : Nat := 28
/-- NameMaps$Server.<init>()V: 11 entries; loop heads [] -/
def co_X5_init : List Ent := [(0, (2, 0, 2, 0), 0, []),
  (1, (24, 3, 999, 0), 0, []),
  (4, (2, 0, 2, 0), 0, []),
  (5, (21, 9, 1, 0), 0, []),
  (8, (15, 0, 0, 0), 0, []),
  (9, (24, 11, 1, 1), 0, [(1, 0)]),
  (12, (10, 12, 5, 0), 0, []),
  (15, (2, 0, 2, 0), 0, []),
  (16, (1, 0, 1, 0), (-5), []),
  (18, (10, 18, 5, 1), 0, []),
  (21, (14, 1, 0, 0), 0, [])]
abbrev m_X5_init : Nat := 29
/-- NameMaps$Server.copyFrom(LNameMaps$Server;)V: 10 entries; loop heads [] -/
def co_X5_copyFrom : List Ent := [(0, (2, 0, 2, 0), 0, []),
  (1, (9, 12, 5, 0), 0, []),
  (4, (2, 1, 2, 0), 0, []),
  (5, (9, 12, 5, 0), 0, []),
  (8, (13, 22, 3, 0), 0, [(2, 1)]),
  (11, (2, 0, 2, 0), 0, []),
  (12, (2, 1, 2, 0), 0, []),
  (13, (9, 18, 5, 1), 0, []),
  (16, (10, 18, 5, 1), 0, []),
  (19, (14, 1, 0, 0), 0, [])]
abbrev m_X5_copyFrom : Nat := 30
/-- NameMaps$Site.<init>()V: 13 entries; loop heads [] -/
def co_X6_init : List Ent := [(0, (2, 0, 2, 0), 0, []),
  (1, (24, 3, 999, 0), 0, []),
  (4, (2, 0, 2, 0), 0, []),
  (5, (21, 9, 1, 0), 0, []),
  (8, (15, 0, 0, 0), 0, []),
  (9, (24, 11, 1, 1), 0, [(1, 0)]),
  (12, (10, 12, 6, 0), 0, []),
  (15, (2, 0, 2, 0), 0, []),
  (16, (21, 18, 7, 0), 0, []),
  (19, (15, 0, 0, 0), 0, []),
  (20, (24, 20, 36, 1), 0, [(1, 0)]),
  (23, (10, 21, 6, 1), 0, []),
  (26, (14, 1, 0, 0), 0, [])]
abbrev m_X6_init : Nat := 31
/-- NameMaps$Site.start(III)V: 30 entries; loop heads [27] -/
def co_X6_start : List Ent := [(0, (2, 0, 2, 0), 0, []),
  (1, (9, 12, 6, 0), 0, []),
  (4, (2, 1, 0, 0), 0, []),
  (5, (2, 2, 0, 0), 0, []),
  (6, (13, 25, 2, 0), 0, [(3, 1)]),
  (9, (2, 0, 2, 0), 0, []),
  (10, (2, 3, 0, 0), 0, []),
  (11, (10, 29, 6, 2), 0, []),
  (14, (2, 0, 2, 0), 0, []),
  (15, (1, 0, 0, 0), nI 1, []),
  (16, (10, 33, 6, 3), 0, []),
  (19, (2, 0, 2, 0), 0, []),
  (20, (1, 0, 0, 0), nI 0, []),
  (21, (10, 36, 6, 4), 0, []),
  (24, (1, 0, 0, 0), nI 0, []),
  (25, (3, 4, 1, 0), 0, []),
  (27, (0, 5, 0, 0), 0, []),
  (27, (2, 4, 1, 0), 0, []),
  (29, (1, 0, 0, 0), nI 3, []),
  (30, (7, 51, 3, 0), 0, []),
  (33, (2, 0, 2, 0), 0, []),
  (34, (9, 21, 6, 1), 0, []),
  (37, (2, 4, 1, 0), 0, []),
  (39, (1, 0, 0, 0), nI 0, []),
  (40, (1, 0, 0, 0), nI 0, []),
  (41, (1, 0, 0, 0), nI 0, []),
  (42, (13, 39, 38, 0), 0, [(5, 7)]),
  (45, (5, 4, 0, 0), nI 1, []),
  (48, (8, 27, 0, 0), 0, []),
  (51, (14, 1, 0, 0), 0, [])]
abbrev m_X6_start : Nat := 32
/-- NameMaps$Site.copyFrom(LNameMaps$Site;)V: 23 entries; loop heads [] -/
def co_X6_copyFrom : List Ent := [(0, (2, 0, 2, 0), 0, []),
  (1, (9, 12, 6, 0), 0, []),
  (4, (2, 1, 2, 0), 0, []),
  (5, (9, 12, 6, 0), 0, []),
  (8, (13, 43, 3, 0), 0, [(2, 1)]),
  (11, (2, 0, 2, 0), 0, []),
  (12, (9, 21, 6, 1), 0, []),
  (15, (2, 1, 2, 0), 0, []),
  (16, (9, 21, 6, 1), 0, []),
  (19, (13, 47, 37, 0), 0, [(2, 7)]),
  (22, (2, 0, 2, 0), 0, []),
  (23, (2, 1, 2, 0), 0, []),
  (24, (9, 29, 6, 2), 0, []),
  (27, (10, 29, 6, 2), 0, []),
  (30, (2, 0, 2, 0), 0, []),
  (31, (2, 1, 2, 0), 0, []),
  (32, (9, 33, 6, 3), 0, []),
  (35, (10, 33, 6, 3), 0, []),
  (38, (2, 0, 2, 0), 0, []),
  (39, (2, 1, 2, 0), 0, []),
  (40, (9, 36, 6, 4), 0, []),
  (43, (10, 36, 6, 4), 0, []),
  (46, (14, 1, 0, 0), 0, [])]
abbrev m_X6_copyFrom : Nat := 33
/-- NameMaps$Site.isRegistered(I)Z: 8 entries; loop heads [] -/
def co_X6_isRegistered : List Ent := [(0, (2, 1, 0, 0), 0, []),
  (1, (2, 0, 2, 0), 0, []),
  (2, (9, 36, 6, 4), 0, []),
  (5, (7, 12, 3, 0), 0, []),
  (8, (1, 0, 0, 0), nI 1, []),
  (9, (8, 13, 0, 0), 0, []),
  (12, (1, 0, 0, 0), nI 0, []),
  (13, (14, 0, 0, 0), 0, [])]
abbrev m_X6_isRegistered : Nat := 34
/-- NameMaps$Site.isUp(I)Z: 12 entries; loop heads [] -/
def co_X6_isUp : List Ent := [(0, (2, 0, 2, 0), 0, []),
  (1, (2, 1, 0, 0), 0, []),
  (2, (13, 50, 34, 0), 0, [(2, 6)]),
  (5, (6, 22, 0, 0), 0, []),
  (8, (2, 0, 2, 0), 0, []),
  (9, (9, 21, 6, 1), 0, []),
  (12, (13, 54, 41, 0), 0, [(1, 7)]),
  (15, (6, 22, 1, 0), 0, []),
  (18, (1, 0, 0, 0), nI 1, []),
  (19, (8, 23, 0, 0), 0, []),
  (22, (1, 0, 0, 0), nI 0, []),
  (23, (14, 0, 0, 0), 0, [])]
abbrev m_X6_isUp : Nat := 35
/-- NameMaps$Slots.<init>()V: 7 entries; loop heads [] -/
def co_X7_init : List Ent := [(0, (2, 0, 2, 0), 0, []),
  (1, (24, 3, 999, 0), 0, []),
  (4, (2, 0, 2, 0), 0, []),
  (5, (1, 0, 1, 0), nI 9, []),
  (7, (22, 0, 0, 0), 0, []),
  (9, (10, 11, 7, 0), 0, []),
  (12, (14, 1, 0, 0), 0, [])]
abbrev m_X7_init : Nat := 36
/-- NameMaps$Slots.copyFrom(LNameMaps$Slots;)V: 17 entries; loop heads [2] -/
def co_X7_copyFrom : List Ent := [(0, (1, 0, 0, 0), nI 0, []),
  (1, (3, 2, 0, 0), 0, []),
  (2, (0, 3, 0, 0), 0, []),
  (2, (2, 2, 0, 0), 0, []),
  (3, (1, 0, 1, 0), nI 9, []),
  (5, (7, 26, 3, 0), 0, []),
  (8, (2, 0, 2, 0), 0, []),
  (9, (9, 11, 7, 0), 0, []),
  (12, (2, 2, 0, 0), 0, []),
  (13, (2, 1, 2, 0), 0, []),
  (14, (9, 11, 7, 0), 0, []),
  (17, (2, 2, 0, 0), 0, []),
  (18, (11, 0, 0, 0), 0, []),
  (19, (12, 0, 0, 0), 0, []),
  (20, (5, 2, 0, 0), nI 1, []),
  (23, (8, 2, 0, 0), 0, []),
  (26, (14, 1, 0, 0), 0, [])]
abbrev m_X7_copyFrom : Nat := 37
/-- NameMaps$Slots.fill(IIII)V: 32 entries; loop heads [] -/
def co_X7_fill : List Ent := [(0, (2, 1, 0, 0), 0, []),
  (1, (13, 15, 107, 2), 0, [(1, 9)]),
  (4, (6, 8, 1, 0), 0, []),
  (7, (14, 1, 0, 0), 0, []),
  (8, (2, 0, 2, 0), 0, []),
  (9, (9, 11, 7, 0), 0, []),
  (12, (2, 1, 0, 0), 0, []),
  (13, (1, 0, 0, 0), nI 3, []),
  (14, (4, 2, 0, 0), 0, []),
  (15, (1, 0, 0, 0), nI 0, []),
  (16, (4, 0, 0, 0), 0, []),
  (17, (2, 2, 0, 0), 0, []),
  (18, (12, 0, 0, 0), 0, []),
  (19, (2, 0, 2, 0), 0, []),
  (20, (9, 11, 7, 0), 0, []),
  (23, (2, 1, 0, 0), 0, []),
  (24, (1, 0, 0, 0), nI 3, []),
  (25, (4, 2, 0, 0), 0, []),
  (26, (1, 0, 0, 0), nI 1, []),
  (27, (4, 0, 0, 0), 0, []),
  (28, (2, 3, 0, 0), 0, []),
  (29, (12, 0, 0, 0), 0, []),
  (30, (2, 0, 2, 0), 0, []),
  (31, (9, 11, 7, 0), 0, []),
  (34, (2, 1, 0, 0), 0, []),
  (35, (1, 0, 0, 0), nI 3, []),
  (36, (4, 2, 0, 0), 0, []),
  (37, (1, 0, 0, 0), nI 2, []),
  (38, (4, 0, 0, 0), 0, []),
  (39, (2, 4, 1, 0), 0, []),
  (41, (12, 0, 0, 0), 0, []),
  (42, (14, 1, 0, 0), 0, [])]
abbrev m_X7_fill : Nat := 38
/-- NameMaps$Slots.propertyOf(II)I: 22 entries; loop heads [] -/
def co_X7_propertyOf : List Ent := [(0, (2, 2, 0, 0), 0, []),
  (1, (6, 9, 2, 0), 0, []),
  (4, (2, 2, 0, 0), 0, []),
  (5, (1, 0, 0, 0), nI 3, []),
  (6, (7, 12, 2, 0), 0, []),
  (9, (1, 0, 1, 0), (-2), []),
  (11, (14, 0, 0, 0), 0, []),
  (12, (2, 0, 2, 0), 0, []),
  (13, (2, 1, 0, 0), 0, []),
  (14, (13, 19, 40, 0), 0, [(2, 7)]),
  (17, (6, 25, 0, 0), 0, []),
  (20, (1, 0, 1, 0), (-5), []),
  (22, (8, 35, 0, 0), 0, []),
  (25, (2, 0, 2, 0), 0, []),
  (26, (9, 11, 7, 0), 0, []),
  (29, (2, 1, 0, 0), 0, []),
  (30, (1, 0, 0, 0), nI 3, []),
  (31, (4, 2, 0, 0), 0, []),
  (32, (2, 2, 0, 0), 0, []),
  (33, (4, 0, 0, 0), 0, []),
  (34, (11, 0, 0, 0), 0, []),
  (35, (14, 0, 0, 0), 0, [])]
abbrev m_X7_propertyOf : Nat := 39
/-- NameMaps$Slots.isEmpty(I)Z: 18 entries; loop heads [] -/
def co_X7_isEmpty : List Ent := [(0, (2, 1, 0, 0), 0, []),
  (1, (6, 22, 2, 0), 0, []),
  (4, (2, 1, 0, 0), 0, []),
  (5, (1, 0, 0, 0), nI 3, []),
  (6, (7, 22, 3, 0), 0, []),
  (9, (2, 0, 2, 0), 0, []),
  (10, (9, 11, 7, 0), 0, []),
  (13, (2, 1, 0, 0), 0, []),
  (14, (1, 0, 0, 0), nI 3, []),
  (15, (4, 2, 0, 0), 0, []),
  (16, (1, 0, 0, 0), nI 2, []),
  (17, (4, 0, 0, 0), 0, []),
  (18, (11, 0, 0, 0), 0, []),
  (19, (6, 26, 1, 0), 0, []),
  (22, (1, 0, 0, 0), nI 1, []),
  (23, (8, 27, 0, 0), 0, []),
  (26, (1, 0, 0, 0), nI 0, []),
  (27, (14, 0, 0, 0), 0, [])]
abbrev m_X7_isEmpty : Nat := 40
/-- NameMaps$Slots.areEmpty()Z: 27 entries; loop heads [4] -/
def co_X7_areEmpty : List Ent := [(0, (1, 0, 0, 0), nI 0, []),
  (1, (3, 1, 0, 0), 0, []),
  (2, (1, 0, 0, 0), nI 0, []),
  (3, (3, 2, 0, 0), 0, []),
  (4, (0, 3, 0, 0), 0, []),
  (4, (2, 2, 0, 0), 0, []),
  (5, (1, 0, 0, 0), nI 3, []),
  (6, (7, 28, 3, 0), 0, []),
  (9, (2, 1, 0, 0), 0, []),
  (10, (2, 0, 2, 0), 0, []),
  (11, (9, 11, 7, 0), 0, []),
  (14, (2, 2, 0, 0), 0, []),
  (15, (1, 0, 0, 0), nI 3, []),
  (16, (4, 2, 0, 0), 0, []),
  (17, (1, 0, 0, 0), nI 2, []),
  (18, (4, 0, 0, 0), 0, []),
  (19, (11, 0, 0, 0), 0, []),
  (20, (4, 0, 0, 0), 0, []),
  (21, (3, 1, 0, 0), 0, []),
  (22, (5, 2, 0, 0), nI 1, []),
  (25, (8, 4, 0, 0), 0, []),
  (28, (2, 1, 0, 0), 0, []),
  (29, (6, 36, 1, 0), 0, []),
  (32, (1, 0, 0, 0), nI 1, []),
  (33, (8, 37, 0, 0), 0, []),
  (36, (1, 0, 0, 0), nI 0, []),
  (37, (14, 0, 0, 0), 0, [])]
abbrev m_X7_areEmpty : Nat := 41
/-- NameMaps$Slots.have(I)Z: 26 entries; loop heads [2] -/
def co_X7_have : List Ent := [(0, (1, 0, 0, 0), nI 0, []),
  (1, (3, 2, 0, 0), 0, []),
  (2, (0, 3, 0, 0), 0, []),
  (2, (2, 2, 0, 0), 0, []),
  (3, (1, 0, 0, 0), nI 3, []),
  (4, (7, 37, 3, 0), 0, []),
  (7, (2, 0, 2, 0), 0, []),
  (8, (2, 2, 0, 0), 0, []),
  (9, (13, 19, 40, 0), 0, [(2, 7)]),
  (12, (6, 31, 1, 0), 0, []),
  (15, (2, 0, 2, 0), 0, []),
  (16, (9, 11, 7, 0), 0, []),
  (19, (2, 2, 0, 0), 0, []),
  (20, (1, 0, 0, 0), nI 3, []),
  (21, (4, 2, 0, 0), 0, []),
  (22, (1, 0, 0, 0), nI 0, []),
  (23, (4, 0, 0, 0), 0, []),
  (24, (11, 0, 0, 0), 0, []),
  (25, (2, 1, 0, 0), 0, []),
  (26, (7, 31, 1, 0), 0, []),
  (29, (1, 0, 0, 0), nI 1, []),
  (30, (14, 0, 0, 0), 0, []),
  (31, (5, 2, 0, 0), nI 1, []),
  (34, (8, 2, 0, 0), 0, []),
  (37, (1, 0, 0, 0), nI 0, []),
  (38, (14, 0, 0, 0), 0, [])]
abbrev m_X7_have : Nat := 42
/-- NameMaps$Slots.lowestPriority()I: 27 entries; loop heads [5] -/
def co_X7_lowestPriority : List Ent := [(0, (1, 0, 1, 0), nI 10, []),
  (2, (3, 1, 0, 0), 0, []),
  (3, (1, 0, 0, 0), nI 0, []),
  (4, (3, 2, 0, 0), 0, []),
  (5, (0, 3, 0, 0), 0, []),
  (5, (2, 2, 0, 0), 0, []),
  (6, (1, 0, 0, 0), nI 3, []),
  (7, (7, 39, 3, 0), 0, []),
  (10, (2, 0, 2, 0), 0, []),
  (11, (2, 2, 0, 0), 0, []),
  (12, (13, 19, 40, 0), 0, [(2, 7)]),
  (15, (6, 33, 1, 0), 0, []),
  (18, (2, 1, 0, 0), 0, []),
  (19, (2, 0, 2, 0), 0, []),
  (20, (9, 11, 7, 0), 0, []),
  (23, (2, 2, 0, 0), 0, []),
  (24, (1, 0, 0, 0), nI 3, []),
  (25, (4, 2, 0, 0), 0, []),
  (26, (1, 0, 0, 0), nI 1, []),
  (27, (4, 0, 0, 0), 0, []),
  (28, (11, 0, 0, 0), 0, []),
  (29, (20, 22, 0, 0), 0, []),
  (32, (3, 1, 0, 0), 0, []),
  (33, (5, 2, 0, 0), nI 1, []),
  (36, (8, 5, 0, 0), 0, []),
  (39, (2, 1, 0, 0), 0, []),
  (40, (14, 0, 0, 0), 0, [])]
abbrev m_X7_lowestPriority : Nat := 43
/-- NameMaps$Slots.weightThatCounts(II)I: 25 entries; loop heads [] -/
def co_X7_weightThatCounts : List Ent := [(0, (2, 0, 2, 0), 0, []),
  (1, (2, 1, 0, 0), 0, []),
  (2, (13, 19, 40, 0), 0, [(2, 7)]),
  (5, (6, 22, 1, 0), 0, []),
  (8, (2, 0, 2, 0), 0, []),
  (9, (9, 11, 7, 0), 0, []),
  (12, (2, 1, 0, 0), 0, []),
  (13, (1, 0, 0, 0), nI 3, []),
  (14, (4, 2, 0, 0), 0, []),
  (15, (1, 0, 0, 0), nI 1, []),
  (16, (4, 0, 0, 0), 0, []),
  (17, (11, 0, 0, 0), 0, []),
  (18, (2, 2, 0, 0), 0, []),
  (19, (7, 24, 0, 0), 0, []),
  (22, (1, 0, 0, 0), nI 0, []),
  (23, (14, 0, 0, 0), 0, []),
  (24, (2, 0, 2, 0), 0, []),
  (25, (9, 11, 7, 0), 0, []),
  (28, (2, 1, 0, 0), 0, []),
  (29, (1, 0, 0, 0), nI 3, []),
  (30, (4, 2, 0, 0), 0, []),
  (31, (1, 0, 0, 0), nI 2, []),
  (32, (4, 0, 0, 0), 0, []),
  (33, (11, 0, 0, 0), 0, []),
  (34, (14, 0, 0, 0), 0, [])]
abbrev m_X7_weightThatCounts : Nat := 44
/-- NameMaps$Slots.placeFor(I)I: 59 entries; loop heads [10, 49] -/
def co_X7_placeFor : List Ent := [(0, (2, 0, 2, 0), 0, []),
  (1, (13, 28, 43, 0), 0, [(1, 7)]),
  (4, (3, 2, 0, 0), 0, []),
  (5, (1, 0, 0, 0), nI 0, []),
  (6, (3, 3, 0, 0), 0, []),
  (7, (1, 0, 0, 0), nI 0, []),
  (8, (3, 4, 1, 0), 0, []),
  (10, (0, 5, 0, 0), 0, []),
  (10, (2, 4, 1, 0), 0, []),
  (12, (1, 0, 0, 0), nI 3, []),
  (13, (7, 32, 3, 0), 0, []),
  (16, (2, 3, 0, 0), 0, []),
  (17, (2, 0, 2, 0), 0, []),
  (18, (2, 4, 1, 0), 0, []),
  (20, (2, 2, 0, 0), 0, []),
  (21, (13, 32, 44, 0), 0, [(3, 7)]),
  (24, (4, 0, 0, 0), 0, []),
  (25, (3, 3, 0, 0), 0, []),
  (26, (5, 4, 0, 0), nI 1, []),
  (29, (8, 10, 0, 0), 0, []),
  (32, (2, 3, 0, 0), 0, []),
  (33, (6, 38, 4, 0), 0, []),
  (36, (1, 0, 0, 0), (-1), []),
  (37, (14, 0, 0, 0), 0, []),
  (38, (2, 1, 0, 0), 0, []),
  (39, (2, 3, 0, 0), 0, []),
  (40, (4, 4, 0, 0), 0, []),
  (41, (3, 4, 1, 0), 0, []),
  (43, (1, 0, 0, 0), nI 0, []),
  (44, (3, 5, 1, 0), 0, []),
  (46, (1, 0, 0, 0), nI 0, []),
  (47, (3, 6, 1, 0), 0, []),
  (49, (0, 7, 0, 0), 0, []),
  (49, (2, 6, 1, 0), 0, []),
  (51, (1, 0, 0, 0), nI 3, []),
  (52, (7, 92, 3, 0), 0, []),
  (55, (2, 5, 1, 0), 0, []),
  (57, (2, 0, 2, 0), 0, []),
  (58, (2, 6, 1, 0), 0, []),
  (60, (2, 2, 0, 0), 0, []),
  (61, (13, 32, 44, 0), 0, [(3, 7)]),
  (64, (4, 0, 0, 0), 0, []),
  (65, (3, 5, 1, 0), 0, []),
  (67, (2, 5, 1, 0), 0, []),
  (69, (2, 4, 1, 0), 0, []),
  (71, (7, 86, 5, 0), 0, []),
  (74, (2, 0, 2, 0), 0, []),
  (75, (9, 11, 7, 0), 0, []),
  (78, (2, 6, 1, 0), 0, []),
  (80, (1, 0, 0, 0), nI 3, []),
  (81, (4, 2, 0, 0), 0, []),
  (82, (1, 0, 0, 0), nI 0, []),
  (83, (4, 0, 0, 0), 0, []),
  (84, (11, 0, 0, 0), 0, []),
  (85, (14, 0, 0, 0), 0, []),
  (86, (5, 6, 0, 0), nI 1, []),
  (89, (8, 49, 0, 0), 0, []),
  (92, (1, 0, 0, 0), (-1), []),
  (93, (14, 0, 0, 0), 0, [])]
abbrev m_X7_placeFor : Nat := 45
/-- NameMaps$World.<init>()V: 74 entries; loop heads [43, 86, 113] -/
def co_X8_init : List Ent := [(0, (2, 0, 2, 0), 0, []),
  (1, (24, 3, 999, 0), 0, []),
  (4, (2, 0, 2, 0), 0, []),
  (5, (1, 0, 1, 0), nI 8, []),
  (7, (23, 9, 5, 0), 0, []),
  (10, (10, 11, 8, 0), 0, []),
  (13, (2, 0, 2, 0), 0, []),
  (14, (1, 0, 1, 0), nI 8, []),
  (16, (23, 17, 6, 0), 0, []),
  (19, (10, 19, 8, 1), 0, []),
  (22, (2, 0, 2, 0), 0, []),
  (23, (1, 0, 0, 0), nI 4, []),
  (24, (23, 23, 4, 0), 0, []),
  (27, (10, 25, 8, 2), 0, []),
  (30, (2, 0, 2, 0), 0, []),
  (31, (1, 0, 0, 0), nI 1, []),
  (32, (10, 29, 8, 3), 0, []),
  (35, (2, 0, 2, 0), 0, []),
  (36, (1, 0, 1, 0), nI 10, []),
  (38, (10, 33, 8, 7), 0, []),
  (41, (1, 0, 0, 0), nI 0, []),
  (42, (3, 1, 0, 0), 0, []),
  (43, (0, 2, 0, 0), 0, []),
  (43, (2, 1, 0, 0), 0, []),
  (44, (1, 0, 1, 0), nI 8, []),
  (46, (7, 68, 3, 0), 0, []),
  (49, (2, 0, 2, 0), 0, []),
  (50, (9, 11, 8, 0), 0, []),
  (53, (2, 1, 0, 0), 0, []),
  (54, (21, 9, 5, 0), 0, []),
  (57, (15, 0, 0, 0), 0, []),
  (58, (24, 36, 29, 1), 0, [(1, 0)]),
  (61, (12, 2, 0, 0), 0, []),
  (62, (5, 1, 0, 0), nI 1, []),
  (65, (8, 43, 0, 0), 0, []),
  (68, (2, 0, 2, 0), 0, []),
  (69, (9, 11, 8, 0), 0, []),
  (72, (1, 0, 0, 0), nI 0, []),
  (73, (11, 2, 0, 0), 0, []),
  (74, (9, 37, 5, 0), 0, []),
  (77, (1, 0, 0, 0), nI 0, []),
  (78, (1, 0, 2, 0), nI 256, []),
  (81, (13, 41, 2, 0), 0, [(3, 1)]),
  (84, (1, 0, 0, 0), nI 0, []),
  (85, (3, 1, 0, 0), 0, []),
  (86, (0, 2, 0, 0), 0, []),
  (86, (2, 1, 0, 0), 0, []),
  (87, (1, 0, 1, 0), nI 8, []),
  (89, (7, 111, 3, 0), 0, []),
  (92, (2, 0, 2, 0), 0, []),
  (93, (9, 19, 8, 1), 0, []),
  (96, (2, 1, 0, 0), 0, []),
  (97, (21, 17, 6, 0), 0, []),
  (100, (15, 0, 0, 0), 0, []),
  (101, (24, 47, 31, 1), 0, [(1, 0)]),
  (104, (12, 2, 0, 0), 0, []),
  (105, (5, 1, 0, 0), nI 1, []),
  (108, (8, 86, 0, 0), 0, []),
  (111, (1, 0, 0, 0), nI 0, []),
  (112, (3, 1, 0, 0), 0, []),
  (113, (0, 2, 0, 0), 0, []),
  (113, (2, 1, 0, 0), 0, []),
  (114, (1, 0, 0, 0), nI 4, []),
  (115, (7, 137, 3, 0), 0, []),
  (118, (2, 0, 2, 0), 0, []),
  (119, (9, 25, 8, 2), 0, []),
  (122, (2, 1, 0, 0), 0, []),
  (123, (21, 23, 4, 0), 0, []),
  (126, (15, 0, 0, 0), 0, []),
  (127, (24, 48, 18, 0), 0, [(1, 0)]),
  (130, (12, 2, 0, 0), 0, []),
  (131, (5, 1, 0, 0), nI 1, []),
  (134, (8, 113, 0, 0), 0, []),
  (137, (14, 1, 0, 0), 0, [])]
abbrev m_X8_init : Nat := 46
/-- NameMaps$World.copyFrom(LNameMaps$World;)V: 75 entries; loop heads [10, 49, 88] -/
def co_X8_copyFrom : List Ent := [(0, (2, 0, 2, 0), 0, []),
  (1, (2, 1, 2, 0), 0, []),
  (2, (9, 29, 8, 3), 0, []),
  (5, (10, 29, 8, 3), 0, []),
  (8, (1, 0, 0, 0), nI 0, []),
  (9, (3, 2, 0, 0), 0, []),
  (10, (0, 3, 0, 0), 0, []),
  (10, (2, 2, 0, 0), 0, []),
  (11, (2, 0, 2, 0), 0, []),
  (12, (9, 29, 8, 3), 0, []),
  (15, (7, 39, 3, 0), 0, []),
  (18, (2, 0, 2, 0), 0, []),
  (19, (9, 11, 8, 0), 0, []),
  (22, (2, 2, 0, 0), 0, []),
  (23, (11, 2, 0, 0), 0, []),
  (24, (2, 1, 2, 0), 0, []),
  (25, (9, 11, 8, 0), 0, []),
  (28, (2, 2, 0, 0), 0, []),
  (29, (11, 2, 0, 0), 0, []),
  (30, (13, 49, 30, 0), 0, [(2, 5)]),
  (33, (5, 2, 0, 0), nI 1, []),
  (36, (8, 10, 0, 0), 0, []),
  (39, (2, 0, 2, 0), 0, []),
  (40, (2, 1, 2, 0), 0, []),
  (41, (9, 53, 8, 4), 0, []),
  (44, (10, 53, 8, 4), 0, []),
  (47, (1, 0, 0, 0), nI 0, []),
  (48, (3, 2, 0, 0), 0, []),
  (49, (0, 3, 0, 0), 0, []),
  (49, (2, 2, 0, 0), 0, []),
  (50, (2, 0, 2, 0), 0, []),
  (51, (9, 53, 8, 4), 0, []),
  (54, (7, 78, 3, 0), 0, []),
  (57, (2, 0, 2, 0), 0, []),
  (58, (9, 19, 8, 1), 0, []),
  (61, (2, 2, 0, 0), 0, []),
  (62, (11, 2, 0, 0), 0, []),
  (63, (2, 1, 2, 0), 0, []),
  (64, (9, 19, 8, 1), 0, []),
  (67, (2, 2, 0, 0), 0, []),
  (68, (11, 2, 0, 0), 0, []),
  (69, (13, 56, 33, 0), 0, [(2, 6)]),
  (72, (5, 2, 0, 0), nI 1, []),
  (75, (8, 49, 0, 0), 0, []),
  (78, (2, 0, 2, 0), 0, []),
  (79, (2, 1, 2, 0), 0, []),
  (80, (9, 59, 8, 5), 0, []),
  (83, (10, 59, 8, 5), 0, []),
  (86, (1, 0, 0, 0), nI 0, []),
  (87, (3, 2, 0, 0), 0, []),
  (88, (0, 3, 0, 0), 0, []),
  (88, (2, 2, 0, 0), 0, []),
  (89, (2, 0, 2, 0), 0, []),
  (90, (9, 59, 8, 5), 0, []),
  (93, (7, 117, 3, 0), 0, []),
  (96, (2, 0, 2, 0), 0, []),
  (97, (9, 25, 8, 2), 0, []),
  (100, (2, 2, 0, 0), 0, []),
  (101, (11, 2, 0, 0), 0, []),
  (102, (2, 1, 2, 0), 0, []),
  (103, (9, 25, 8, 2), 0, []),
  (106, (2, 2, 0, 0), 0, []),
  (107, (11, 2, 0, 0), 0, []),
  (108, (13, 62, 20, 0), 0, [(2, 4)]),
  (111, (5, 2, 0, 0), nI 1, []),
  (114, (8, 88, 0, 0), 0, []),
  (117, (2, 0, 2, 0), 0, []),
  (118, (2, 1, 2, 0), 0, []),
  (119, (9, 65, 8, 6), 0, []),
  (122, (10, 65, 8, 6), 0, []),
  (125, (2, 0, 2, 0), 0, []),
  (126, (2, 1, 2, 0), 0, []),
  (127, (9, 33, 8, 7), 0, []),
  (130, (10, 33, 8, 7), 0, []),
  (133, (14, 1, 0, 0), 0, [])]
abbrev m_X8_copyFrom : Nat := 47
/-- NameMaps$World.isServer(I)Z: 13 entries; loop heads [] -/
def co_X8_isServer : List Ent := [(0, (2, 1, 0, 0), 0, []),
  (1, (6, 22, 2, 0), 0, []),
  (4, (2, 1, 0, 0), 0, []),
  (5, (2, 0, 2, 0), 0, []),
  (6, (9, 29, 8, 3), 0, []),
  (9, (7, 22, 3, 0), 0, []),
  (12, (2, 1, 0, 0), 0, []),
  (13, (1, 0, 1, 0), nI 8, []),
  (15, (7, 22, 3, 0), 0, []),
  (18, (1, 0, 0, 0), nI 1, []),
  (19, (8, 23, 0, 0), 0, []),
  (22, (1, 0, 0, 0), nI 0, []),
  (23, (14, 0, 0, 0), 0, [])]
abbrev m_X8_isServer : Nat := 48
/-- NameMaps$World.isSite(I)Z: 13 entries; loop heads [] -/
def co_X8_isSite : List Ent := [(0, (2, 1, 0, 0), 0, []),
  (1, (6, 22, 2, 0), 0, []),
  (4, (2, 1, 0, 0), 0, []),
  (5, (2, 0, 2, 0), 0, []),
  (6, (9, 53, 8, 4), 0, []),
  (9, (7, 22, 3, 0), 0, []),
  (12, (2, 1, 0, 0), 0, []),
  (13, (1, 0, 1, 0), nI 8, []),
  (15, (7, 22, 3, 0), 0, []),
  (18, (1, 0, 0, 0), nI 1, []),
  (19, (8, 23, 0, 0), 0, []),
  (22, (1, 0, 0, 0), nI 0, []),
  (23, (14, 0, 0, 0), 0, [])]
abbrev m_X8_isSite : Nat := 49
/-- NameMaps$World.isRouter(I)Z: 13 entries; loop heads [] -/
def co_X8_isRouter : List Ent := [(0, (2, 1, 0, 0), 0, []),
  (1, (6, 21, 2, 0), 0, []),
  (4, (2, 1, 0, 0), 0, []),
  (5, (2, 0, 2, 0), 0, []),
  (6, (9, 59, 8, 5), 0, []),
  (9, (7, 21, 3, 0), 0, []),
  (12, (2, 1, 0, 0), 0, []),
  (13, (1, 0, 0, 0), nI 4, []),
  (14, (7, 21, 3, 0), 0, []),
  (17, (1, 0, 0, 0), nI 1, []),
  (18, (8, 22, 0, 0), 0, []),
  (21, (1, 0, 0, 0), nI 0, []),
  (22, (14, 0, 0, 0), 0, [])]
abbrev m_X8_isRouter : Nat := 50
/-- NameMaps$World.newServer(III)I: 87 entries; loop heads [54] -/
def co_X8_newServer : List Ent := [(0, (2, 0, 2, 0), 0, []),
  (1, (2, 1, 0, 0), 0, []),
  (2, (13, 68, 48, 0), 0, [(2, 8)]),
  (5, (6, 10, 1, 0), 0, []),
  (8, (1, 0, 0, 0), (-1), []),
  (9, (14, 0, 0, 0), 0, []),
  (10, (2, 0, 2, 0), 0, []),
  (11, (9, 11, 8, 0), 0, []),
  (14, (2, 1, 0, 0), 0, []),
  (15, (11, 2, 0, 0), 0, []),
  (16, (9, 37, 5, 0), 0, []),
  (19, (3, 4, 3, 0), 0, []),
  (21, (2, 2, 0, 0), 0, []),
  (22, (2, 3, 0, 0), 0, []),
  (23, (13, 72, 111, 2), 0, [(2, 9)]),
  (26, (6, 48, 0, 0), 0, []),
  (29, (2, 4, 3, 0), 0, []),
  (31, (2, 2, 0, 0), 0, []),
  (32, (2, 3, 0, 0), 0, []),
  (33, (13, 76, 6, 0), 0, [(3, 1)]),
  (36, (6, 48, 0, 0), 0, []),
  (39, (2, 3, 0, 0), 0, []),
  (40, (2, 4, 3, 0), 0, []),
  (42, (9, 79, 1, 1), 0, []),
  (45, (7, 51, 2, 0), 0, []),
  (48, (1, 0, 1, 0), (-2), []),
  (50, (14, 0, 0, 0), 0, []),
  (51, (1, 0, 0, 0), nI 0, []),
  (52, (3, 5, 1, 0), 0, []),
  (54, (0, 6, 0, 0), 0, []),
  (54, (2, 5, 1, 0), 0, []),
  (56, (2, 0, 2, 0), 0, []),
  (57, (9, 29, 8, 3), 0, []),
  (60, (7, 104, 3, 0), 0, []),
  (63, (2, 0, 2, 0), 0, []),
  (64, (9, 11, 8, 0), 0, []),
  (67, (2, 5, 1, 0), 0, []),
  (69, (11, 2, 0, 0), 0, []),
  (70, (9, 82, 5, 1), 0, []),
  (73, (2, 1, 0, 0), 0, []),
  (74, (7, 98, 1, 0), 0, []),
  (77, (2, 0, 2, 0), 0, []),
  (78, (9, 11, 8, 0), 0, []),
  (81, (2, 5, 1, 0), 0, []),
  (83, (11, 2, 0, 0), 0, []),
  (84, (9, 37, 5, 0), 0, []),
  (87, (2, 2, 0, 0), 0, []),
  (88, (2, 3, 0, 0), 0, []),
  (89, (13, 85, 7, 0), 0, [(3, 1)]),
  (92, (6, 98, 0, 0), 0, []),
  (95, (1, 0, 1, 0), (-3), []),
  (97, (14, 0, 0, 0), 0, []),
  (98, (5, 5, 0, 0), nI 1, []),
  (101, (8, 54, 0, 0), 0, []),
  (104, (2, 0, 2, 0), 0, []),
  (105, (9, 29, 8, 3), 0, []),
  (108, (1, 0, 1, 0), nI 8, []),
  (110, (7, 116, 2, 0), 0, []),
  (113, (1, 0, 1, 0), (-4), []),
  (115, (14, 0, 0, 0), 0, []),
  (116, (2, 0, 2, 0), 0, []),
  (117, (9, 11, 8, 0), 0, []),
  (120, (2, 0, 2, 0), 0, []),
  (121, (9, 29, 8, 3), 0, []),
  (124, (11, 2, 0, 0), 0, []),
  (125, (9, 37, 5, 0), 0, []),
  (128, (2, 2, 0, 0), 0, []),
  (129, (2, 3, 0, 0), 0, []),
  (130, (13, 41, 2, 0), 0, [(3, 1)]),
  (133, (2, 0, 2, 0), 0, []),
  (134, (9, 11, 8, 0), 0, []),
  (137, (2, 0, 2, 0), 0, []),
  (138, (9, 29, 8, 3), 0, []),
  (141, (11, 2, 0, 0), 0, []),
  (142, (2, 1, 0, 0), 0, []),
  (143, (10, 82, 5, 1), 0, []),
  (146, (2, 0, 2, 0), 0, []),
  (147, (15, 0, 0, 0), 0, []),
  (148, (9, 29, 8, 3), 0, []),
  (151, (1, 0, 0, 0), nI 1, []),
  (152, (4, 0, 0, 0), 0, []),
  (153, (10, 29, 8, 3), 0, []),
  (156, (2, 0, 2, 0), 0, []),
  (157, (9, 29, 8, 3), 0, []),
  (160, (1, 0, 0, 0), nI 1, []),
  (161, (4, 1, 0, 0), 0, []),
  (162, (14, 0, 0, 0), 0, [])]
abbrev m_X8_newServer : Nat := 51
/-- NameMaps$World.newSite(III)I: 58 entries; loop heads [25] -/
def co_X8_newSite : List Ent := [(0, (2, 1, 0, 0), 0, []),
  (1, (2, 2, 0, 0), 0, []),
  (2, (13, 72, 111, 2), 0, [(2, 9)]),
  (5, (6, 19, 0, 0), 0, []),
  (8, (2, 3, 0, 0), 0, []),
  (9, (1, 0, 0, 0), nI 1, []),
  (10, (7, 19, 2, 0), 0, []),
  (13, (2, 3, 0, 0), 0, []),
  (14, (1, 0, 1, 0), nI 48, []),
  (16, (7, 22, 5, 0), 0, []),
  (19, (1, 0, 1, 0), (-2), []),
  (21, (14, 0, 0, 0), 0, []),
  (22, (1, 0, 0, 0), nI 0, []),
  (23, (3, 4, 1, 0), 0, []),
  (25, (0, 5, 0, 0), 0, []),
  (25, (2, 4, 1, 0), 0, []),
  (27, (2, 0, 2, 0), 0, []),
  (28, (9, 53, 8, 4), 0, []),
  (31, (7, 61, 3, 0), 0, []),
  (34, (2, 0, 2, 0), 0, []),
  (35, (9, 19, 8, 1), 0, []),
  (38, (2, 4, 1, 0), 0, []),
  (40, (11, 2, 0, 0), 0, []),
  (41, (9, 88, 6, 0), 0, []),
  (44, (2, 1, 0, 0), 0, []),
  (45, (2, 2, 0, 0), 0, []),
  (46, (13, 89, 4, 0), 0, [(3, 1)]),
  (49, (6, 55, 0, 0), 0, []),
  (52, (1, 0, 1, 0), (-3), []),
  (54, (14, 0, 0, 0), 0, []),
  (55, (5, 4, 0, 0), nI 1, []),
  (58, (8, 25, 0, 0), 0, []),
  (61, (2, 0, 2, 0), 0, []),
  (62, (9, 53, 8, 4), 0, []),
  (65, (1, 0, 1, 0), nI 8, []),
  (67, (7, 73, 2, 0), 0, []),
  (70, (1, 0, 1, 0), (-4), []),
  (72, (14, 0, 0, 0), 0, []),
  (73, (2, 0, 2, 0), 0, []),
  (74, (9, 19, 8, 1), 0, []),
  (77, (2, 0, 2, 0), 0, []),
  (78, (9, 53, 8, 4), 0, []),
  (81, (11, 2, 0, 0), 0, []),
  (82, (2, 1, 0, 0), 0, []),
  (83, (2, 2, 0, 0), 0, []),
  (84, (2, 3, 0, 0), 0, []),
  (85, (13, 92, 32, 0), 0, [(4, 6)]),
  (88, (2, 0, 2, 0), 0, []),
  (89, (15, 0, 0, 0), 0, []),
  (90, (9, 53, 8, 4), 0, []),
  (93, (1, 0, 0, 0), nI 1, []),
  (94, (4, 0, 0, 0), 0, []),
  (95, (10, 53, 8, 4), 0, []),
  (98, (2, 0, 2, 0), 0, []),
  (99, (9, 53, 8, 4), 0, []),
  (102, (1, 0, 0, 0), nI 1, []),
  (103, (4, 1, 0, 0), 0, []),
  (104, (14, 0, 0, 0), 0, [])]
abbrev m_X8_newSite : Nat := 52
/-- NameMaps$World.newRouter()I: 23 entries; loop heads [] -/
def co_X8_newRouter : List Ent := [(0, (2, 0, 2, 0), 0, []),
  (1, (9, 59, 8, 5), 0, []),
  (4, (1, 0, 0, 0), nI 4, []),
  (5, (7, 11, 2, 0), 0, []),
  (8, (1, 0, 1, 0), (-4), []),
  (10, (14, 0, 0, 0), 0, []),
  (11, (2, 0, 2, 0), 0, []),
  (12, (9, 25, 8, 2), 0, []),
  (15, (2, 0, 2, 0), 0, []),
  (16, (9, 59, 8, 5), 0, []),
  (19, (11, 2, 0, 0), 0, []),
  (20, (13, 96, 19, 0), 0, [(1, 4)]),
  (23, (2, 0, 2, 0), 0, []),
  (24, (15, 0, 0, 0), 0, []),
  (25, (9, 59, 8, 5), 0, []),
  (28, (1, 0, 0, 0), nI 1, []),
  (29, (4, 0, 0, 0), 0, []),
  (30, (10, 59, 8, 5), 0, []),
  (33, (2, 0, 2, 0), 0, []),
  (34, (9, 59, 8, 5), 0, []),
  (37, (1, 0, 0, 0), nI 1, []),
  (38, (4, 1, 0, 0), 0, []),
  (39, (14, 0, 0, 0), 0, [])]
abbrev m_X8_newRouter : Nat := 53
/-- NameMaps$World.fillSlot(IIIII)I: 52 entries; loop heads [] -/
def co_X8_fillSlot : List Ent := [(0, (2, 0, 2, 0), 0, []),
  (1, (2, 1, 0, 0), 0, []),
  (2, (13, 98, 49, 0), 0, [(2, 8)]),
  (5, (6, 15, 0, 0), 0, []),
  (8, (2, 2, 0, 0), 0, []),
  (9, (13, 101, 107, 2), 0, [(1, 9)]),
  (12, (6, 17, 1, 0), 0, []),
  (15, (1, 0, 0, 0), (-1), []),
  (16, (14, 0, 0, 0), 0, []),
  (17, (2, 3, 0, 0), 0, []),
  (18, (13, 104, 110, 2), 0, [(1, 9)]),
  (21, (6, 36, 0, 0), 0, []),
  (24, (2, 4, 1, 0), 0, []),
  (26, (6, 36, 2, 0), 0, []),
  (29, (2, 4, 1, 0), 0, []),
  (31, (1, 0, 1, 0), nI 10, []),
  (33, (7, 39, 2, 0), 0, []),
  (36, (1, 0, 1, 0), (-2), []),
  (38, (14, 0, 0, 0), 0, []),
  (39, (2, 5, 1, 0), 0, []),
  (41, (1, 0, 0, 0), nI 1, []),
  (42, (7, 52, 2, 0), 0, []),
  (45, (2, 5, 1, 0), 0, []),
  (47, (1, 0, 1, 0), nI 9, []),
  (49, (7, 55, 5, 0), 0, []),
  (52, (1, 0, 1, 0), (-2), []),
  (54, (14, 0, 0, 0), 0, []),
  (55, (2, 0, 2, 0), 0, []),
  (56, (9, 19, 8, 1), 0, []),
  (59, (2, 1, 0, 0), 0, []),
  (60, (11, 2, 0, 0), 0, []),
  (61, (9, 107, 6, 1), 0, []),
  (64, (2, 2, 0, 0), 0, []),
  (65, (2, 3, 0, 0), 0, []),
  (66, (2, 4, 1, 0), 0, []),
  (68, (2, 5, 1, 0), 0, []),
  (70, (13, 111, 38, 0), 0, [(5, 7)]),
  (73, (2, 0, 2, 0), 0, []),
  (74, (9, 19, 8, 1), 0, []),
  (77, (2, 1, 0, 0), 0, []),
  (78, (11, 2, 0, 0), 0, []),
  (79, (15, 0, 0, 0), 0, []),
  (80, (9, 117, 6, 3), 0, []),
  (83, (1, 0, 0, 0), nI 1, []),
  (84, (4, 0, 0, 0), 0, []),
  (85, (10, 117, 6, 3), 0, []),
  (88, (2, 0, 2, 0), 0, []),
  (89, (9, 19, 8, 1), 0, []),
  (92, (2, 1, 0, 0), 0, []),
  (93, (11, 2, 0, 0), 0, []),
  (94, (9, 117, 6, 3), 0, []),
  (97, (14, 0, 0, 0), 0, [])]
abbrev m_X8_fillSlot : Nat := 54
/-- NameMaps$World.vacateSlot(II)I: 44 entries; loop heads [] -/
def co_X8_vacateSlot : List Ent := [(0, (2, 0, 2, 0), 0, []),
  (1, (2, 1, 0, 0), 0, []),
  (2, (13, 98, 49, 0), 0, [(2, 8)]),
  (5, (6, 15, 0, 0), 0, []),
  (8, (2, 2, 0, 0), 0, []),
  (9, (13, 101, 107, 2), 0, [(1, 9)]),
  (12, (6, 17, 1, 0), 0, []),
  (15, (1, 0, 0, 0), (-1), []),
  (16, (14, 0, 0, 0), 0, []),
  (17, (2, 0, 2, 0), 0, []),
  (18, (9, 19, 8, 1), 0, []),
  (21, (2, 1, 0, 0), 0, []),
  (22, (11, 2, 0, 0), 0, []),
  (23, (9, 107, 6, 1), 0, []),
  (26, (2, 2, 0, 0), 0, []),
  (27, (13, 120, 40, 0), 0, [(2, 7)]),
  (30, (6, 36, 0, 0), 0, []),
  (33, (1, 0, 1, 0), (-3), []),
  (35, (14, 0, 0, 0), 0, []),
  (36, (2, 0, 2, 0), 0, []),
  (37, (9, 19, 8, 1), 0, []),
  (40, (2, 1, 0, 0), 0, []),
  (41, (11, 2, 0, 0), 0, []),
  (42, (9, 107, 6, 1), 0, []),
  (45, (2, 2, 0, 0), 0, []),
  (46, (1, 0, 0, 0), nI 0, []),
  (47, (1, 0, 0, 0), nI 0, []),
  (48, (1, 0, 0, 0), nI 0, []),
  (49, (13, 111, 38, 0), 0, [(5, 7)]),
  (52, (2, 0, 2, 0), 0, []),
  (53, (9, 19, 8, 1), 0, []),
  (56, (2, 1, 0, 0), 0, []),
  (57, (11, 2, 0, 0), 0, []),
  (58, (15, 0, 0, 0), 0, []),
  (59, (9, 117, 6, 3), 0, []),
  (62, (1, 0, 0, 0), nI 1, []),
  (63, (4, 0, 0, 0), 0, []),
  (64, (10, 117, 6, 3), 0, []),
  (67, (2, 0, 2, 0), 0, []),
  (68, (9, 19, 8, 1), 0, []),
  (71, (2, 1, 0, 0), 0, []),
  (72, (11, 2, 0, 0), 0, []),
  (73, (9, 117, 6, 3), 0, []),
  (76, (14, 0, 0, 0), 0, [])]
abbrev m_X8_vacateSlot : Nat := 55
/-- NameMaps$World.startRegistration(I)I: 25 entries; loop heads [] -/
def co_X8_startRegistration : List Ent := [(0, (2, 0, 2, 0), 0, []),
  (1, (2, 1, 0, 0), 0, []),
  (2, (13, 98, 49, 0), 0, [(2, 8)]),
  (5, (6, 10, 1, 0), 0, []),
  (8, (1, 0, 0, 0), (-1), []),
  (9, (14, 0, 0, 0), 0, []),
  (10, (2, 0, 2, 0), 0, []),
  (11, (9, 19, 8, 1), 0, []),
  (14, (2, 1, 0, 0), 0, []),
  (15, (11, 2, 0, 0), 0, []),
  (16, (2, 0, 2, 0), 0, []),
  (17, (9, 65, 8, 6), 0, []),
  (20, (2, 0, 2, 0), 0, []),
  (21, (9, 19, 8, 1), 0, []),
  (24, (2, 1, 0, 0), 0, []),
  (25, (11, 2, 0, 0), 0, []),
  (26, (9, 123, 6, 2), 0, []),
  (29, (4, 0, 0, 0), 0, []),
  (30, (10, 126, 6, 4), 0, []),
  (33, (2, 0, 2, 0), 0, []),
  (34, (9, 19, 8, 1), 0, []),
  (37, (2, 1, 0, 0), 0, []),
  (38, (11, 2, 0, 0), 0, []),
  (39, (9, 126, 6, 4), 0, []),
  (42, (14, 0, 0, 0), 0, [])]
abbrev m_X8_startRegistration : Nat := 56
/-- NameMaps$World.endRegistration(I)I: 34 entries; loop heads [] -/
def co_X8_endRegistration : List Ent := [(0, (2, 0, 2, 0), 0, []),
  (1, (2, 1, 0, 0), 0, []),
  (2, (13, 98, 49, 0), 0, [(2, 8)]),
  (5, (6, 10, 1, 0), 0, []),
  (8, (1, 0, 0, 0), (-1), []),
  (9, (14, 0, 0, 0), 0, []),
  (10, (2, 0, 2, 0), 0, []),
  (11, (9, 19, 8, 1), 0, []),
  (14, (2, 1, 0, 0), 0, []),
  (15, (11, 2, 0, 0), 0, []),
  (16, (2, 0, 2, 0), 0, []),
  (17, (9, 65, 8, 6), 0, []),
  (20, (13, 129, 34, 0), 0, [(2, 6)]),
  (23, (6, 29, 1, 0), 0, []),
  (26, (1, 0, 1, 0), (-3), []),
  (28, (14, 0, 0, 0), 0, []),
  (29, (2, 0, 2, 0), 0, []),
  (30, (9, 19, 8, 1), 0, []),
  (33, (2, 1, 0, 0), 0, []),
  (34, (11, 2, 0, 0), 0, []),
  (35, (9, 126, 6, 4), 0, []),
  (38, (2, 0, 2, 0), 0, []),
  (39, (9, 65, 8, 6), 0, []),
  (42, (4, 1, 0, 0), 0, []),
  (43, (3, 2, 0, 0), 0, []),
  (44, (2, 0, 2, 0), 0, []),
  (45, (9, 19, 8, 1), 0, []),
  (48, (2, 1, 0, 0), 0, []),
  (49, (11, 2, 0, 0), 0, []),
  (50, (2, 0, 2, 0), 0, []),
  (51, (9, 65, 8, 6), 0, []),
  (54, (10, 126, 6, 4), 0, []),
  (57, (2, 2, 0, 0), 0, []),
  (58, (14, 0, 0, 0), 0, [])]
abbrev m_X8_endRegistration : Nat := 57
/-- NameMaps$World.changeMapLife(I)I: 16 entries; loop heads [] -/
def co_X8_changeMapLife : List Ent := [(0, (2, 1, 0, 0), 0, []),
  (1, (1, 0, 0, 0), nI 1, []),
  (2, (7, 11, 2, 0), 0, []),
  (5, (2, 1, 0, 0), 0, []),
  (6, (1, 0, 1, 0), nI 100, []),
  (8, (7, 14, 5, 0), 0, []),
  (11, (1, 0, 1, 0), (-2), []),
  (13, (14, 0, 0, 0), 0, []),
  (14, (2, 0, 2, 0), 0, []),
  (15, (9, 33, 8, 7), 0, []),
  (18, (3, 2, 0, 0), 0, []),
  (19, (2, 0, 2, 0), 0, []),
  (20, (2, 1, 0, 0), 0, []),
  (21, (10, 33, 8, 7), 0, []),
  (24, (2, 2, 0, 0), 0, []),
  (25, (14, 0, 0, 0), 0, [])]
abbrev m_X8_changeMapLife : Nat := 58
/-- NameMaps$World.letPass(I)I: 25 entries; loop heads [] -/
def co_X8_letPass : List Ent := [(0, (2, 1, 0, 0), 0, []),
  (1, (1, 0, 0, 0), nI 1, []),
  (2, (7, 11, 2, 0), 0, []),
  (5, (2, 1, 0, 0), 0, []),
  (6, (1, 0, 1, 0), nI 99, []),
  (8, (7, 14, 5, 0), 0, []),
  (11, (1, 0, 1, 0), (-2), []),
  (13, (14, 0, 0, 0), 0, []),
  (14, (2, 0, 2, 0), 0, []),
  (15, (9, 65, 8, 6), 0, []),
  (18, (2, 1, 0, 0), 0, []),
  (19, (4, 0, 0, 0), 0, []),
  (20, (1, 0, 2, 0), nI 9999, []),
  (23, (7, 29, 5, 0), 0, []),
  (26, (1, 0, 1, 0), (-3), []),
  (28, (14, 0, 0, 0), 0, []),
  (29, (2, 0, 2, 0), 0, []),
  (30, (15, 0, 0, 0), 0, []),
  (31, (9, 65, 8, 6), 0, []),
  (34, (2, 1, 0, 0), 0, []),
  (35, (4, 0, 0, 0), 0, []),
  (36, (10, 65, 8, 6), 0, []),
  (39, (2, 0, 2, 0), 0, []),
  (40, (9, 65, 8, 6), 0, []),
  (43, (14, 0, 0, 0), 0, [])]
abbrev m_X8_letPass : Nat := 59
/-- NameMaps$World.emptyCache(I)I: 20 entries; loop heads [] -/
def co_X8_emptyCache : List Ent := [(0, (2, 0, 2, 0), 0, []),
  (1, (2, 1, 0, 0), 0, []),
  (2, (13, 132, 50, 0), 0, [(2, 8)]),
  (5, (6, 10, 1, 0), 0, []),
  (8, (1, 0, 0, 0), (-1), []),
  (9, (14, 0, 0, 0), 0, []),
  (10, (2, 0, 2, 0), 0, []),
  (11, (9, 25, 8, 2), 0, []),
  (14, (2, 1, 0, 0), 0, []),
  (15, (11, 2, 0, 0), 0, []),
  (16, (9, 135, 4, 1), 0, []),
  (19, (3, 2, 0, 0), 0, []),
  (20, (2, 0, 2, 0), 0, []),
  (21, (9, 25, 8, 2), 0, []),
  (24, (2, 1, 0, 0), 0, []),
  (25, (11, 2, 0, 0), 0, []),
  (26, (1, 0, 0, 0), nI 0, []),
  (27, (10, 135, 4, 1), 0, []),
  (30, (2, 2, 0, 0), 0, []),
  (31, (14, 0, 0, 0), 0, [])]
abbrev m_X8_emptyCache : Nat := 60
/-- NameMaps$World.sendLetter(III)I: 101 entries; loop heads [122] -/
def co_X8_sendLetter : List Ent := [(0, (2, 0, 2, 0), 0, []),
  (1, (2, 1, 0, 0), 0, []),
  (2, (13, 132, 50, 0), 0, [(2, 8)]),
  (5, (6, 10, 1, 0), 0, []),
  (8, (1, 0, 0, 0), (-1), []),
  (9, (14, 0, 0, 0), 0, []),
  (10, (2, 2, 0, 0), 0, []),
  (11, (13, 138, 108, 2), 0, [(1, 9)]),
  (14, (6, 24, 0, 0), 0, []),
  (17, (2, 3, 0, 0), 0, []),
  (18, (13, 141, 109, 2), 0, [(1, 9)]),
  (21, (6, 27, 1, 0), 0, []),
  (24, (1, 0, 1, 0), (-2), []),
  (26, (14, 0, 0, 0), 0, []),
  (27, (2, 0, 2, 0), 0, []),
  (28, (9, 25, 8, 2), 0, []),
  (31, (2, 1, 0, 0), 0, []),
  (32, (11, 2, 0, 0), 0, []),
  (33, (3, 4, 3, 0), 0, []),
  (35, (2, 4, 3, 0), 0, []),
  (37, (15, 0, 0, 0), 0, []),
  (38, (9, 144, 4, 4), 0, []),
  (41, (1, 0, 0, 0), nI 1, []),
  (42, (4, 0, 0, 0), 0, []),
  (43, (10, 144, 4, 4), 0, []),
  (46, (2, 4, 3, 0), 0, []),
  (48, (2, 0, 2, 0), 0, []),
  (49, (9, 65, 8, 6), 0, []),
  (52, (13, 147, 25, 0), 0, [(2, 4)]),
  (55, (2, 4, 3, 0), 0, []),
  (57, (2, 2, 0, 0), 0, []),
  (58, (13, 151, 27, 0), 0, [(2, 4)]),
  (61, (3, 5, 1, 0), 0, []),
  (63, (2, 4, 3, 0), 0, []),
  (65, (2, 5, 1, 0), 0, []),
  (67, (13, 155, 21, 0), 0, [(2, 4)]),
  (70, (6, 97, 0, 0), 0, []),
  (73, (2, 4, 3, 0), 0, []),
  (75, (9, 158, 4, 0), 0, []),
  (78, (2, 5, 1, 0), 0, []),
  (80, (11, 2, 0, 0), 0, []),
  (81, (9, 162, 2, 5), 0, []),
  (84, (6, 97, 1, 0), 0, []),
  (87, (2, 4, 3, 0), 0, []),
  (89, (2, 5, 1, 0), 0, []),
  (91, (13, 168, 23, 0), 0, [(2, 4)]),
  (94, (8, 122, 0, 0), 0, []),
  (97, (2, 0, 2, 0), 0, []),
  (98, (2, 4, 3, 0), 0, []),
  (100, (2, 2, 0, 0), 0, []),
  (101, (13, 171, 63, 0), 0, [(3, 8)]),
  (104, (6, 122, 1, 0), 0, []),
  (107, (2, 4, 3, 0), 0, []),
  (109, (2, 5, 1, 0), 0, []),
  (111, (13, 175, 24, 0), 0, [(2, 4)]),
  (114, (2, 0, 2, 0), 0, []),
  (115, (2, 4, 3, 0), 0, []),
  (117, (2, 2, 0, 0), 0, []),
  (118, (13, 178, 64, 0), 0, [(3, 8)]),
  (121, (14, 0, 0, 0), 0, []),
  (122, (0, 6, 0, 0), 0, []),
  (122, (2, 0, 2, 0), 0, []),
  (123, (2, 4, 3, 0), 0, []),
  (125, (9, 158, 4, 0), 0, []),
  (128, (1, 0, 0, 0), nI 0, []),
  (129, (11, 2, 0, 0), 0, []),
  (130, (2, 3, 0, 0), 0, []),
  (131, (13, 182, 62, 0), 0, [(3, 8)]),
  (134, (3, 6, 1, 0), 0, []),
  (136, (2, 6, 1, 0), 0, []),
  (138, (1, 0, 0, 0), (-1), []),
  (139, (7, 145, 0, 0), 0, []),
  (142, (2, 6, 1, 0), 0, []),
  (144, (14, 0, 0, 0), 0, []),
  (145, (2, 4, 3, 0), 0, []),
  (147, (15, 0, 0, 0), 0, []),
  (148, (9, 186, 4, 6), 0, []),
  (151, (1, 0, 0, 0), nI 1, []),
  (152, (4, 0, 0, 0), 0, []),
  (153, (10, 186, 4, 6), 0, []),
  (156, (2, 4, 3, 0), 0, []),
  (158, (1, 0, 0, 0), nI 0, []),
  (159, (13, 175, 24, 0), 0, [(2, 4)]),
  (162, (2, 0, 2, 0), 0, []),
  (163, (2, 4, 3, 0), 0, []),
  (165, (2, 2, 0, 0), 0, []),
  (166, (13, 171, 63, 0), 0, [(3, 8)]),
  (169, (6, 180, 1, 0), 0, []),
  (172, (2, 0, 2, 0), 0, []),
  (173, (2, 4, 3, 0), 0, []),
  (175, (2, 2, 0, 0), 0, []),
  (176, (13, 178, 64, 0), 0, [(3, 8)]),
  (179, (14, 0, 0, 0), 0, []),
  (180, (2, 4, 3, 0), 0, []),
  (182, (9, 158, 4, 0), 0, []),
  (185, (1, 0, 0, 0), nI 0, []),
  (186, (11, 2, 0, 0), 0, []),
  (187, (9, 189, 2, 1), 0, []),
  (190, (2, 3, 0, 0), 0, []),
  (191, (13, 190, 45, 0), 0, [(2, 7)]),
  (194, (14, 0, 0, 0), 0, [])]
abbrev m_X8_sendLetter : Nat := 61
/-- NameMaps$World.placeByMap(LNameMaps$CacheMap;I)I: 40 entries; loop heads [] -/
def co_X8_placeByMap : List Ent := [(0, (2, 1, 2, 0), 0, []),
  (1, (9, 189, 2, 1), 0, []),
  (4, (2, 2, 0, 0), 0, []),
  (5, (13, 190, 45, 0), 0, [(2, 7)]),
  (8, (3, 3, 0, 0), 0, []),
  (9, (2, 0, 2, 0), 0, []),
  (10, (2, 1, 2, 0), 0, []),
  (11, (9, 193, 2, 2), 0, []),
  (14, (13, 98, 49, 0), 0, [(2, 8)]),
  (17, (6, 22, 1, 0), 0, []),
  (20, (1, 0, 0, 0), (-1), []),
  (21, (14, 0, 0, 0), 0, []),
  (22, (2, 0, 2, 0), 0, []),
  (23, (9, 19, 8, 1), 0, []),
  (26, (2, 1, 2, 0), 0, []),
  (27, (9, 193, 2, 2), 0, []),
  (30, (11, 2, 0, 0), 0, []),
  (31, (3, 4, 3, 0), 0, []),
  (33, (2, 4, 3, 0), 0, []),
  (35, (2, 0, 2, 0), 0, []),
  (36, (9, 65, 8, 6), 0, []),
  (39, (13, 196, 35, 0), 0, [(2, 6)]),
  (42, (6, 57, 0, 0), 0, []),
  (45, (2, 4, 3, 0), 0, []),
  (47, (9, 107, 6, 1), 0, []),
  (50, (2, 3, 0, 0), 0, []),
  (51, (13, 199, 42, 0), 0, [(2, 7)]),
  (54, (6, 59, 1, 0), 0, []),
  (57, (1, 0, 0, 0), (-1), []),
  (58, (14, 0, 0, 0), 0, []),
  (59, (2, 1, 2, 0), 0, []),
  (60, (9, 202, 2, 3), 0, []),
  (63, (2, 4, 3, 0), 0, []),
  (65, (9, 117, 6, 3), 0, []),
  (68, (7, 76, 0, 0), 0, []),
  (71, (2, 1, 2, 0), 0, []),
  (72, (1, 0, 0, 0), nI 1, []),
  (73, (10, 162, 2, 5), 0, []),
  (76, (2, 3, 0, 0), 0, []),
  (77, (14, 0, 0, 0), 0, [])]
abbrev m_X8_placeByMap : Nat := 62
/-- NameMaps$World.ask(LNameMaps$Router;I)Z: 41 entries; loop heads [] -/
def co_X8_ask : List Ent := [(0, (2, 1, 2, 0), 0, []),
  (1, (15, 0, 0, 0), 0, []),
  (2, (9, 203, 4, 2), 0, []),
  (5, (1, 0, 0, 0), nI 1, []),
  (6, (4, 0, 0, 0), 0, []),
  (7, (10, 203, 4, 2), 0, []),
  (10, (2, 1, 2, 0), 0, []),
  (11, (15, 0, 0, 0), 0, []),
  (12, (9, 206, 4, 3), 0, []),
  (15, (2, 0, 2, 0), 0, []),
  (16, (2, 0, 2, 0), 0, []),
  (17, (2, 2, 0, 0), 0, []),
  (18, (1, 0, 0, 0), nI 1, []),
  (19, (13, 209, 65, 0), 0, [(3, 8)]),
  (22, (13, 213, 67, 0), 0, [(2, 8)]),
  (25, (4, 0, 0, 0), 0, []),
  (26, (10, 206, 4, 3), 0, []),
  (29, (2, 0, 2, 0), 0, []),
  (30, (2, 2, 0, 0), 0, []),
  (31, (13, 216, 68, 0), 0, [(2, 8)]),
  (34, (3, 3, 0, 0), 0, []),
  (35, (2, 0, 2, 0), 0, []),
  (36, (2, 3, 0, 0), 0, []),
  (37, (13, 98, 49, 0), 0, [(2, 8)]),
  (40, (6, 45, 1, 0), 0, []),
  (43, (1, 0, 0, 0), nI 0, []),
  (44, (14, 0, 0, 0), 0, []),
  (45, (2, 1, 2, 0), 0, []),
  (46, (2, 3, 0, 0), 0, []),
  (47, (2, 0, 2, 0), 0, []),
  (48, (9, 19, 8, 1), 0, []),
  (51, (2, 3, 0, 0), 0, []),
  (52, (11, 2, 0, 0), 0, []),
  (53, (2, 0, 2, 0), 0, []),
  (54, (9, 65, 8, 6), 0, []),
  (57, (2, 0, 2, 0), 0, []),
  (58, (9, 33, 8, 7), 0, []),
  (61, (4, 0, 0, 0), 0, []),
  (62, (13, 219, 28, 0), 0, [(4, 4)]),
  (65, (1, 0, 0, 0), nI 1, []),
  (66, (14, 0, 0, 0), 0, [])]
abbrev m_X8_ask : Nat := 63
/-- NameMaps$World.goByProxy(LNameMaps$Router;I)I: 12 entries; loop heads [] -/
def co_X8_goByProxy : List Ent := [(0, (2, 1, 2, 0), 0, []),
  (1, (15, 0, 0, 0), 0, []),
  (2, (9, 223, 4, 5), 0, []),
  (5, (1, 0, 0, 0), nI 1, []),
  (6, (4, 0, 0, 0), 0, []),
  (7, (10, 223, 4, 5), 0, []),
  (10, (1, 0, 1, 0), nI 32, []),
  (12, (2, 2, 0, 0), 0, []),
  (13, (1, 0, 1, 0), nI 32, []),
  (15, (4, 3, 0, 0), 0, []),
  (16, (4, 0, 0, 0), 0, []),
  (17, (14, 0, 0, 0), 0, [])]
abbrev m_X8_goByProxy : Nat := 64
/-- NameMaps$World.homeOf(II)I: 35 entries; loop heads [5] -/
def co_X8_homeOf : List Ent := [(0, (1, 0, 0, 0), nI 0, []),
  (1, (3, 3, 0, 0), 0, []),
  (2, (1, 0, 0, 0), nI 1, []),
  (3, (3, 4, 1, 0), 0, []),
  (5, (0, 5, 0, 0), 0, []),
  (5, (2, 4, 1, 0), 0, []),
  (7, (2, 0, 2, 0), 0, []),
  (8, (9, 29, 8, 3), 0, []),
  (11, (7, 65, 3, 0), 0, []),
  (14, (2, 0, 2, 0), 0, []),
  (15, (9, 11, 8, 0), 0, []),
  (18, (2, 4, 1, 0), 0, []),
  (20, (11, 2, 0, 0), 0, []),
  (21, (9, 37, 5, 0), 0, []),
  (24, (3, 5, 3, 0), 0, []),
  (26, (2, 5, 3, 0), 0, []),
  (28, (2, 1, 0, 0), 0, []),
  (29, (2, 2, 0, 0), 0, []),
  (30, (13, 76, 6, 0), 0, [(3, 1)]),
  (33, (6, 59, 0, 0), 0, []),
  (36, (2, 5, 3, 0), 0, []),
  (38, (9, 79, 1, 1), 0, []),
  (41, (2, 0, 2, 0), 0, []),
  (42, (9, 11, 8, 0), 0, []),
  (45, (2, 3, 0, 0), 0, []),
  (46, (11, 2, 0, 0), 0, []),
  (47, (9, 37, 5, 0), 0, []),
  (50, (9, 79, 1, 1), 0, []),
  (53, (7, 59, 3, 0), 0, []),
  (56, (2, 4, 1, 0), 0, []),
  (58, (3, 3, 0, 0), 0, []),
  (59, (5, 4, 0, 0), nI 1, []),
  (62, (8, 5, 0, 0), 0, []),
  (65, (2, 3, 0, 0), 0, []),
  (66, (14, 0, 0, 0), 0, [])]
abbrev m_X8_homeOf : Nat := 65
/-- NameMaps$World.homeOfSite(I)I: 21 entries; loop heads [] -/
def co_X8_homeOfSite : List Ent := [(0, (2, 0, 2, 0), 0, []),
  (1, (2, 1, 0, 0), 0, []),
  (2, (13, 98, 49, 0), 0, [(2, 8)]),
  (5, (6, 39, 0, 0), 0, []),
  (8, (2, 0, 2, 0), 0, []),
  (9, (2, 0, 2, 0), 0, []),
  (10, (9, 19, 8, 1), 0, []),
  (13, (2, 1, 0, 0), 0, []),
  (14, (11, 2, 0, 0), 0, []),
  (15, (9, 88, 6, 0), 0, []),
  (18, (9, 226, 1, 0), 0, []),
  (21, (2, 0, 2, 0), 0, []),
  (22, (9, 19, 8, 1), 0, []),
  (25, (2, 1, 0, 0), 0, []),
  (26, (11, 2, 0, 0), 0, []),
  (27, (9, 88, 6, 0), 0, []),
  (30, (9, 79, 1, 1), 0, []),
  (33, (13, 209, 65, 0), 0, [(3, 8)]),
  (36, (8, 40, 0, 0), 0, []),
  (39, (1, 0, 0, 0), (-1), []),
  (40, (14, 0, 0, 0), 0, [])]
abbrev m_X8_homeOfSite : Nat := 66
/-- NameMaps$World.hopsTo(I)I: 22 entries; loop heads [4] -/
def co_X8_hopsTo : List Ent := [(0, (1, 0, 0, 0), nI 0, []),
  (1, (3, 2, 0, 0), 0, []),
  (2, (2, 1, 0, 0), 0, []),
  (3, (3, 3, 0, 0), 0, []),
  (4, (0, 4, 0, 0), 0, []),
  (4, (2, 0, 2, 0), 0, []),
  (5, (2, 3, 0, 0), 0, []),
  (6, (13, 68, 48, 0), 0, [(2, 8)]),
  (9, (6, 34, 0, 0), 0, []),
  (12, (2, 2, 0, 0), 0, []),
  (13, (1, 0, 1, 0), nI 8, []),
  (15, (7, 34, 3, 0), 0, []),
  (18, (5, 2, 0, 0), nI 1, []),
  (21, (2, 0, 2, 0), 0, []),
  (22, (9, 11, 8, 0), 0, []),
  (25, (2, 3, 0, 0), 0, []),
  (26, (11, 2, 0, 0), 0, []),
  (27, (9, 82, 5, 1), 0, []),
  (30, (3, 3, 0, 0), 0, []),
  (31, (8, 4, 0, 0), 0, []),
  (34, (2, 2, 0, 0), 0, []),
  (35, (14, 0, 0, 0), 0, [])]
abbrev m_X8_hopsTo : Nat := 67
/-- NameMaps$World.answerFor(I)I: 55 entries; loop heads [17] -/
def co_X8_answerFor : List Ent := [(0, (2, 0, 2, 0), 0, []),
  (1, (2, 1, 0, 0), 0, []),
  (2, (1, 0, 0, 0), nI 1, []),
  (3, (13, 209, 65, 0), 0, [(3, 8)]),
  (6, (3, 2, 0, 0), 0, []),
  (7, (1, 0, 0, 0), (-1), []),
  (8, (3, 3, 0, 0), 0, []),
  (9, (1, 0, 2, 0), nI 257, []),
  (12, (3, 4, 1, 0), 0, []),
  (14, (1, 0, 0, 0), nI 0, []),
  (15, (3, 5, 1, 0), 0, []),
  (17, (0, 6, 0, 0), 0, []),
  (17, (2, 5, 1, 0), 0, []),
  (19, (2, 0, 2, 0), 0, []),
  (20, (9, 53, 8, 4), 0, []),
  (23, (7, 108, 3, 0), 0, []),
  (26, (2, 0, 2, 0), 0, []),
  (27, (9, 19, 8, 1), 0, []),
  (30, (2, 5, 1, 0), 0, []),
  (32, (11, 2, 0, 0), 0, []),
  (33, (9, 88, 6, 0), 0, []),
  (36, (3, 6, 3, 0), 0, []),
  (38, (2, 6, 3, 0), 0, []),
  (40, (2, 1, 0, 0), 0, []),
  (41, (13, 229, 5, 0), 0, [(2, 1)]),
  (44, (6, 102, 0, 0), 0, []),
  (47, (2, 6, 3, 0), 0, []),
  (49, (9, 79, 1, 1), 0, []),
  (52, (2, 4, 1, 0), 0, []),
  (54, (7, 102, 3, 0), 0, []),
  (57, (2, 0, 2, 0), 0, []),
  (58, (9, 19, 8, 1), 0, []),
  (61, (2, 5, 1, 0), 0, []),
  (63, (11, 2, 0, 0), 0, []),
  (64, (2, 0, 2, 0), 0, []),
  (65, (9, 65, 8, 6), 0, []),
  (68, (13, 196, 35, 0), 0, [(2, 6)]),
  (71, (6, 102, 0, 0), 0, []),
  (74, (2, 0, 2, 0), 0, []),
  (75, (2, 6, 3, 0), 0, []),
  (77, (9, 226, 1, 0), 0, []),
  (80, (2, 6, 3, 0), 0, []),
  (82, (9, 79, 1, 1), 0, []),
  (85, (13, 209, 65, 0), 0, [(3, 8)]),
  (88, (2, 2, 0, 0), 0, []),
  (89, (7, 102, 1, 0), 0, []),
  (92, (2, 5, 1, 0), 0, []),
  (94, (3, 3, 0, 0), 0, []),
  (95, (2, 6, 3, 0), 0, []),
  (97, (9, 79, 1, 1), 0, []),
  (100, (3, 4, 1, 0), 0, []),
  (102, (5, 5, 0, 0), nI 1, []),
  (105, (8, 17, 0, 0), 0, []),
  (108, (2, 3, 0, 0), 0, []),
  (109, (14, 0, 0, 0), 0, [])]
abbrev m_X8_answerFor : Nat := 68
/-- NameMaps$World.siteEndingAt(I)I: 26 entries; loop heads [2] -/
def co_X8_siteEndingAt : List Ent := [(0, (1, 0, 0, 0), nI 0, []),
  (1, (3, 2, 0, 0), 0, []),
  (2, (0, 3, 0, 0), 0, []),
  (2, (2, 2, 0, 0), 0, []),
  (3, (2, 0, 2, 0), 0, []),
  (4, (9, 53, 8, 4), 0, []),
  (7, (7, 43, 3, 0), 0, []),
  (10, (2, 0, 2, 0), 0, []),
  (11, (9, 19, 8, 1), 0, []),
  (14, (2, 2, 0, 0), 0, []),
  (15, (11, 2, 0, 0), 0, []),
  (16, (2, 0, 2, 0), 0, []),
  (17, (9, 65, 8, 6), 0, []),
  (20, (13, 129, 34, 0), 0, [(2, 6)]),
  (23, (6, 37, 0, 0), 0, []),
  (26, (2, 0, 2, 0), 0, []),
  (27, (2, 2, 0, 0), 0, []),
  (28, (13, 232, 70, 0), 0, [(2, 8)]),
  (31, (2, 1, 0, 0), 0, []),
  (32, (7, 37, 1, 0), 0, []),
  (35, (2, 2, 0, 0), 0, []),
  (36, (14, 0, 0, 0), 0, []),
  (37, (5, 2, 0, 0), nI 1, []),
  (40, (8, 2, 0, 0), 0, []),
  (43, (1, 0, 0, 0), (-1), []),
  (44, (14, 0, 0, 0), 0, [])]
abbrev m_X8_siteEndingAt : Nat := 69
/-- NameMaps$World.sitesEndingAheadOf(I)I: 57 entries; loop heads [27] -/
def co_X8_sitesEndingAheadOf : List Ent := [(0, (2, 0, 2, 0), 0, []),
  (1, (2, 1, 0, 0), 0, []),
  (2, (13, 98, 49, 0), 0, [(2, 8)]),
  (5, (6, 20, 0, 0), 0, []),
  (8, (2, 0, 2, 0), 0, []),
  (9, (9, 19, 8, 1), 0, []),
  (12, (2, 1, 0, 0), 0, []),
  (13, (11, 2, 0, 0), 0, []),
  (14, (9, 126, 6, 4), 0, []),
  (17, (8, 21, 0, 0), 0, []),
  (20, (1, 0, 0, 0), nI 0, []),
  (21, (3, 2, 0, 0), 0, []),
  (22, (1, 0, 0, 0), nI 0, []),
  (23, (3, 3, 0, 0), 0, []),
  (24, (1, 0, 0, 0), nI 0, []),
  (25, (3, 4, 1, 0), 0, []),
  (27, (0, 5, 0, 0), 0, []),
  (27, (2, 4, 1, 0), 0, []),
  (29, (2, 0, 2, 0), 0, []),
  (30, (9, 53, 8, 4), 0, []),
  (33, (7, 108, 3, 0), 0, []),
  (36, (2, 0, 2, 0), 0, []),
  (37, (9, 19, 8, 1), 0, []),
  (40, (2, 4, 1, 0), 0, []),
  (42, (11, 2, 0, 0), 0, []),
  (43, (9, 126, 6, 4), 0, []),
  (46, (2, 2, 0, 0), 0, []),
  (47, (7, 70, 2, 0), 0, []),
  (50, (2, 0, 2, 0), 0, []),
  (51, (9, 19, 8, 1), 0, []),
  (54, (2, 4, 1, 0), 0, []),
  (56, (11, 2, 0, 0), 0, []),
  (57, (9, 126, 6, 4), 0, []),
  (60, (2, 2, 0, 0), 0, []),
  (61, (7, 74, 1, 0), 0, []),
  (64, (2, 4, 1, 0), 0, []),
  (66, (2, 1, 0, 0), 0, []),
  (67, (7, 74, 3, 0), 0, []),
  (70, (1, 0, 0, 0), nI 1, []),
  (71, (8, 75, 0, 0), 0, []),
  (74, (1, 0, 0, 0), nI 0, []),
  (75, (3, 5, 1, 0), 0, []),
  (77, (2, 5, 1, 0), 0, []),
  (79, (6, 102, 0, 0), 0, []),
  (82, (2, 0, 2, 0), 0, []),
  (83, (9, 19, 8, 1), 0, []),
  (86, (2, 4, 1, 0), 0, []),
  (88, (11, 2, 0, 0), 0, []),
  (89, (2, 0, 2, 0), 0, []),
  (90, (9, 65, 8, 6), 0, []),
  (93, (13, 129, 34, 0), 0, [(2, 6)]),
  (96, (6, 102, 0, 0), 0, []),
  (99, (5, 3, 0, 0), nI 1, []),
  (102, (5, 4, 0, 0), nI 1, []),
  (105, (8, 27, 0, 0), 0, []),
  (108, (2, 3, 0, 0), 0, []),
  (109, (14, 0, 0, 0), 0, [])]
abbrev m_X8_sitesEndingAheadOf : Nat := 70
/-- NameMaps$World.serverProperty(II)I: 42 entries; loop heads [] -/
def co_X8_serverProperty : List Ent := [(0, (2, 0, 2, 0), 0, []),
  (1, (2, 1, 0, 0), 0, []),
  (2, (13, 68, 48, 0), 0, [(2, 8)]),
  (5, (6, 10, 1, 0), 0, []),
  (8, (1, 0, 0, 0), (-1), []),
  (9, (14, 0, 0, 0), 0, []),
  (10, (2, 2, 0, 0), 0, []),
  (11, (18, 102, 37, 0), 0, [(0, 48), (1, 58), (2, 71), (3, 84), (4, 90), (5, 96)]),
  (48, (2, 0, 2, 0), 0, []),
  (49, (9, 11, 8, 0), 0, []),
  (52, (2, 1, 0, 0), 0, []),
  (53, (11, 2, 0, 0), 0, []),
  (54, (9, 82, 5, 1), 0, []),
  (57, (14, 0, 0, 0), 0, []),
  (58, (2, 0, 2, 0), 0, []),
  (59, (9, 11, 8, 0), 0, []),
  (62, (2, 1, 0, 0), 0, []),
  (63, (11, 2, 0, 0), 0, []),
  (64, (9, 37, 5, 0), 0, []),
  (67, (9, 226, 1, 0), 0, []),
  (70, (14, 0, 0, 0), 0, []),
  (71, (2, 0, 2, 0), 0, []),
  (72, (9, 11, 8, 0), 0, []),
  (75, (2, 1, 0, 0), 0, []),
  (76, (11, 2, 0, 0), 0, []),
  (77, (9, 37, 5, 0), 0, []),
  (80, (9, 79, 1, 1), 0, []),
  (83, (14, 0, 0, 0), 0, []),
  (84, (2, 0, 2, 0), 0, []),
  (85, (2, 1, 0, 0), 0, []),
  (86, (13, 235, 72, 0), 0, [(2, 8)]),
  (89, (14, 0, 0, 0), 0, []),
  (90, (2, 0, 2, 0), 0, []),
  (91, (2, 1, 0, 0), 0, []),
  (92, (13, 213, 67, 0), 0, [(2, 8)]),
  (95, (14, 0, 0, 0), 0, []),
  (96, (2, 0, 2, 0), 0, []),
  (97, (2, 1, 0, 0), 0, []),
  (98, (13, 238, 73, 0), 0, [(2, 8)]),
  (101, (14, 0, 0, 0), 0, []),
  (102, (1, 0, 1, 0), (-2), []),
  (104, (14, 0, 0, 0), 0, [])]
abbrev m_X8_serverProperty : Nat := 71
/-- NameMaps$World.childrenOf(I)I: 21 entries; loop heads [4] -/
def co_X8_childrenOf : List Ent := [(0, (1, 0, 0, 0), nI 0, []),
  (1, (3, 2, 0, 0), 0, []),
  (2, (1, 0, 0, 0), nI 0, []),
  (3, (3, 3, 0, 0), 0, []),
  (4, (0, 4, 0, 0), 0, []),
  (4, (2, 3, 0, 0), 0, []),
  (5, (2, 0, 2, 0), 0, []),
  (6, (9, 29, 8, 3), 0, []),
  (9, (7, 34, 3, 0), 0, []),
  (12, (2, 0, 2, 0), 0, []),
  (13, (9, 11, 8, 0), 0, []),
  (16, (2, 3, 0, 0), 0, []),
  (17, (11, 2, 0, 0), 0, []),
  (18, (9, 82, 5, 1), 0, []),
  (21, (2, 1, 0, 0), 0, []),
  (22, (7, 28, 1, 0), 0, []),
  (25, (5, 2, 0, 0), nI 1, []),
  (28, (5, 3, 0, 0), nI 1, []),
  (31, (8, 4, 0, 0), 0, []),
  (34, (2, 2, 0, 0), 0, []),
  (35, (14, 0, 0, 0), 0, [])]
abbrev m_X8_childrenOf : Nat := 72
/-- NameMaps$World.sitesAtHome(I)I: 19 entries; loop heads [4] -/
def co_X8_sitesAtHome : List Ent := [(0, (1, 0, 0, 0), nI 0, []),
  (1, (3, 2, 0, 0), 0, []),
  (2, (1, 0, 0, 0), nI 0, []),
  (3, (3, 3, 0, 0), 0, []),
  (4, (0, 4, 0, 0), 0, []),
  (4, (2, 3, 0, 0), 0, []),
  (5, (2, 0, 2, 0), 0, []),
  (6, (9, 53, 8, 4), 0, []),
  (9, (7, 30, 3, 0), 0, []),
  (12, (2, 0, 2, 0), 0, []),
  (13, (2, 3, 0, 0), 0, []),
  (14, (13, 241, 66, 0), 0, [(2, 8)]),
  (17, (2, 1, 0, 0), 0, []),
  (18, (7, 24, 1, 0), 0, []),
  (21, (5, 2, 0, 0), nI 1, []),
  (24, (5, 3, 0, 0), nI 1, []),
  (27, (8, 4, 0, 0), 0, []),
  (30, (2, 2, 0, 0), 0, []),
  (31, (14, 0, 0, 0), 0, [])]
abbrev m_X8_sitesAtHome : Nat := 73
/-- NameMaps$World.siteProperty(II)I: 62 entries; loop heads [] -/
def co_X8_siteProperty : List Ent := [(0, (2, 0, 2, 0), 0, []),
  (1, (2, 1, 0, 0), 0, []),
  (2, (13, 98, 49, 0), 0, [(2, 8)]),
  (5, (6, 10, 1, 0), 0, []),
  (8, (1, 0, 0, 0), (-1), []),
  (9, (14, 0, 0, 0), 0, []),
  (10, (2, 2, 0, 0), 0, []),
  (11, (18, 146, 45, 0), 0, [(0, 56), (1, 69), (2, 82), (3, 92), (4, 102), (5, 112), (6, 118), (7, 140)]),
  (56, (2, 0, 2, 0), 0, []),
  (57, (9, 19, 8, 1), 0, []),
  (60, (2, 1, 0, 0), 0, []),
  (61, (11, 2, 0, 0), 0, []),
  (62, (9, 88, 6, 0), 0, []),
  (65, (9, 226, 1, 0), 0, []),
  (68, (14, 0, 0, 0), 0, []),
  (69, (2, 0, 2, 0), 0, []),
  (70, (9, 19, 8, 1), 0, []),
  (73, (2, 1, 0, 0), 0, []),
  (74, (11, 2, 0, 0), 0, []),
  (75, (9, 88, 6, 0), 0, []),
  (78, (9, 79, 1, 1), 0, []),
  (81, (14, 0, 0, 0), 0, []),
  (82, (2, 0, 2, 0), 0, []),
  (83, (9, 19, 8, 1), 0, []),
  (86, (2, 1, 0, 0), 0, []),
  (87, (11, 2, 0, 0), 0, []),
  (88, (9, 123, 6, 2), 0, []),
  (91, (14, 0, 0, 0), 0, []),
  (92, (2, 0, 2, 0), 0, []),
  (93, (9, 19, 8, 1), 0, []),
  (96, (2, 1, 0, 0), 0, []),
  (97, (11, 2, 0, 0), 0, []),
  (98, (9, 117, 6, 3), 0, []),
  (101, (14, 0, 0, 0), 0, []),
  (102, (2, 0, 2, 0), 0, []),
  (103, (9, 19, 8, 1), 0, []),
  (106, (2, 1, 0, 0), 0, []),
  (107, (11, 2, 0, 0), 0, []),
  (108, (9, 126, 6, 4), 0, []),
  (111, (14, 0, 0, 0), 0, []),
  (112, (2, 0, 2, 0), 0, []),
  (113, (2, 1, 0, 0), 0, []),
  (114, (13, 241, 66, 0), 0, [(2, 8)]),
  (117, (14, 0, 0, 0), 0, []),
  (118, (2, 0, 2, 0), 0, []),
  (119, (9, 19, 8, 1), 0, []),
  (122, (2, 1, 0, 0), 0, []),
  (123, (11, 2, 0, 0), 0, []),
  (124, (2, 0, 2, 0), 0, []),
  (125, (9, 65, 8, 6), 0, []),
  (128, (13, 196, 35, 0), 0, [(2, 6)]),
  (131, (6, 138, 0, 0), 0, []),
  (134, (1, 0, 0, 0), nI 1, []),
  (135, (8, 139, 0, 0), 0, []),
  (138, (1, 0, 0, 0), nI 0, []),
  (139, (14, 0, 0, 0), 0, []),
  (140, (2, 0, 2, 0), 0, []),
  (141, (2, 1, 0, 0), 0, []),
  (142, (13, 244, 75, 0), 0, [(2, 8)]),
  (145, (14, 0, 0, 0), 0, []),
  (146, (1, 0, 1, 0), (-2), []),
  (148, (14, 0, 0, 0), 0, [])]
abbrev m_X8_siteProperty : Nat := 74
/-- NameMaps$World.mapsOf(I)I: 22 entries; loop heads [4] -/
def co_X8_mapsOf : List Ent := [(0, (1, 0, 0, 0), nI 0, []),
  (1, (3, 2, 0, 0), 0, []),
  (2, (1, 0, 0, 0), nI 0, []),
  (3, (3, 3, 0, 0), 0, []),
  (4, (0, 4, 0, 0), 0, []),
  (4, (2, 3, 0, 0), 0, []),
  (5, (2, 0, 2, 0), 0, []),
  (6, (9, 59, 8, 5), 0, []),
  (9, (7, 35, 3, 0), 0, []),
  (12, (2, 0, 2, 0), 0, []),
  (13, (9, 25, 8, 2), 0, []),
  (16, (2, 3, 0, 0), 0, []),
  (17, (11, 2, 0, 0), 0, []),
  (18, (2, 1, 0, 0), 0, []),
  (19, (13, 247, 26, 0), 0, [(2, 4)]),
  (22, (1, 0, 0, 0), (-1), []),
  (23, (7, 29, 0, 0), 0, []),
  (26, (5, 2, 0, 0), nI 1, []),
  (29, (5, 3, 0, 0), nI 1, []),
  (32, (8, 4, 0, 0), 0, []),
  (35, (2, 2, 0, 0), 0, []),
  (36, (14, 0, 0, 0), 0, [])]
abbrev m_X8_mapsOf : Nat := 75
/-- NameMaps$World.totalOf(I)I: 45 entries; loop heads [] -/
def co_X8_totalOf : List Ent := [(0, (2, 1, 0, 0), 0, []),
  (1, (18, 137, 71, 0), 0, [(0, 72), (1, 77), (2, 82), (3, 87), (4, 92), (5, 97), (6, 103), (7, 109), (8, 115), (9, 121), (10, 127), (11, 137), (12, 137), (13, 132)]),
  (72, (2, 0, 2, 0), 0, []),
  (73, (9, 65, 8, 6), 0, []),
  (76, (14, 0, 0, 0), 0, []),
  (77, (2, 0, 2, 0), 0, []),
  (78, (9, 29, 8, 3), 0, []),
  (81, (14, 0, 0, 0), 0, []),
  (82, (2, 0, 2, 0), 0, []),
  (83, (9, 53, 8, 4), 0, []),
  (86, (14, 0, 0, 0), 0, []),
  (87, (2, 0, 2, 0), 0, []),
  (88, (9, 59, 8, 5), 0, []),
  (91, (14, 0, 0, 0), 0, []),
  (92, (2, 0, 2, 0), 0, []),
  (93, (13, 250, 77, 0), 0, [(1, 8)]),
  (96, (14, 0, 0, 0), 0, []),
  (97, (2, 0, 2, 0), 0, []),
  (98, (1, 0, 0, 0), nI 0, []),
  (99, (13, 254, 78, 0), 0, [(2, 8)]),
  (102, (14, 0, 0, 0), 0, []),
  (103, (2, 0, 2, 0), 0, []),
  (104, (1, 0, 0, 0), nI 1, []),
  (105, (13, 254, 78, 0), 0, [(2, 8)]),
  (108, (14, 0, 0, 0), 0, []),
  (109, (2, 0, 2, 0), 0, []),
  (110, (1, 0, 0, 0), nI 3, []),
  (111, (13, 254, 78, 0), 0, [(2, 8)]),
  (114, (14, 0, 0, 0), 0, []),
  (115, (2, 0, 2, 0), 0, []),
  (116, (1, 0, 0, 0), nI 4, []),
  (117, (13, 254, 78, 0), 0, [(2, 8)]),
  (120, (14, 0, 0, 0), 0, []),
  (121, (2, 0, 2, 0), 0, []),
  (122, (1, 0, 0, 0), nI 5, []),
  (123, (13, 254, 78, 0), 0, [(2, 8)]),
  (126, (14, 0, 0, 0), 0, []),
  (127, (2, 0, 2, 0), 0, []),
  (128, (9, 33, 8, 7), 0, []),
  (131, (14, 0, 0, 0), 0, []),
  (132, (2, 0, 2, 0), 0, []),
  (133, (13, 257, 79, 0), 0, [(1, 8)]),
  (136, (14, 0, 0, 0), 0, []),
  (137, (1, 0, 1, 0), (-2), []),
  (139, (14, 0, 0, 0), 0, [])]
abbrev m_X8_totalOf : Nat := 76
/-- NameMaps$World.sitesUp()I: 22 entries; loop heads [4] -/
def co_X8_sitesUp : List Ent := [(0, (1, 0, 0, 0), nI 0, []),
  (1, (3, 1, 0, 0), 0, []),
  (2, (1, 0, 0, 0), nI 0, []),
  (3, (3, 2, 0, 0), 0, []),
  (4, (0, 3, 0, 0), 0, []),
  (4, (2, 2, 0, 0), 0, []),
  (5, (2, 0, 2, 0), 0, []),
  (6, (9, 53, 8, 4), 0, []),
  (9, (7, 37, 3, 0), 0, []),
  (12, (2, 0, 2, 0), 0, []),
  (13, (9, 19, 8, 1), 0, []),
  (16, (2, 2, 0, 0), 0, []),
  (17, (11, 2, 0, 0), 0, []),
  (18, (2, 0, 2, 0), 0, []),
  (19, (9, 65, 8, 6), 0, []),
  (22, (13, 196, 35, 0), 0, [(2, 6)]),
  (25, (6, 31, 0, 0), 0, []),
  (28, (5, 1, 0, 0), nI 1, []),
  (31, (5, 2, 0, 0), nI 1, []),
  (34, (8, 4, 0, 0), 0, []),
  (37, (2, 1, 0, 0), 0, []),
  (38, (14, 0, 0, 0), 0, [])]
abbrev m_X8_sitesUp : Nat := 77
/-- NameMaps$World.sumOverRouters(I)I: 22 entries; loop heads [4] -/
def co_X8_sumOverRouters : List Ent := [(0, (1, 0, 0, 0), nI 0, []),
  (1, (3, 2, 0, 0), 0, []),
  (2, (1, 0, 0, 0), nI 0, []),
  (3, (3, 3, 0, 0), 0, []),
  (4, (0, 4, 0, 0), 0, []),
  (4, (2, 3, 0, 0), 0, []),
  (5, (2, 0, 2, 0), 0, []),
  (6, (9, 59, 8, 5), 0, []),
  (9, (7, 31, 3, 0), 0, []),
  (12, (2, 2, 0, 0), 0, []),
  (13, (2, 0, 2, 0), 0, []),
  (14, (9, 25, 8, 2), 0, []),
  (17, (2, 3, 0, 0), 0, []),
  (18, (11, 2, 0, 0), 0, []),
  (19, (2, 1, 0, 0), 0, []),
  (20, (13, 260, 22, 0), 0, [(2, 4)]),
  (23, (4, 0, 0, 0), 0, []),
  (24, (3, 2, 0, 0), 0, []),
  (25, (5, 3, 0, 0), nI 1, []),
  (28, (8, 4, 0, 0), 0, []),
  (31, (2, 2, 0, 0), 0, []),
  (32, (14, 0, 0, 0), 0, [])]
abbrev m_X8_sumOverRouters : Nat := 78
/-- NameMaps$World.namesWithAnswer()I: 18 entries; loop heads [4] -/
def co_X8_namesWithAnswer : List Ent := [(0, (1, 0, 0, 0), nI 0, []),
  (1, (3, 1, 0, 0), 0, []),
  (2, (1, 0, 0, 0), nI 0, []),
  (3, (3, 2, 0, 0), 0, []),
  (4, (0, 3, 0, 0), 0, []),
  (4, (2, 2, 0, 0), 0, []),
  (5, (1, 0, 2, 0), nI 256, []),
  (8, (7, 29, 3, 0), 0, []),
  (11, (2, 0, 2, 0), 0, []),
  (12, (2, 2, 0, 0), 0, []),
  (13, (13, 216, 68, 0), 0, [(2, 8)]),
  (16, (1, 0, 0, 0), (-1), []),
  (17, (7, 23, 0, 0), 0, []),
  (20, (5, 1, 0, 0), nI 1, []),
  (23, (5, 2, 0, 0), nI 1, []),
  (26, (8, 4, 0, 0), 0, []),
  (29, (2, 1, 0, 0), 0, []),
  (30, (14, 0, 0, 0), 0, [])]
abbrev m_X8_namesWithAnswer : Nat := 79
/-- NameMaps.<init>()V: 46 entries; loop heads [47] -/
def co_X9_init : List Ent := [(0, (2, 0, 2, 0), 0, []),
  (1, (24, 1, 999, 0), 0, []),
  (4, (2, 0, 2, 0), 0, []),
  (5, (21, 7, 8, 0), 0, []),
  (8, (15, 0, 0, 0), 0, []),
  (9, (24, 9, 46, 0), 0, [(1, 0)]),
  (12, (10, 10, 9, 0), 0, []),
  (15, (2, 0, 2, 0), 0, []),
  (16, (21, 7, 8, 0), 0, []),
  (19, (15, 0, 0, 0), 0, []),
  (20, (24, 9, 46, 0), 0, [(1, 0)]),
  (23, (10, 16, 9, 1), 0, []),
  (26, (2, 0, 2, 0), 0, []),
  (27, (21, 19, 3, 0), 0, []),
  (30, (15, 0, 0, 0), 0, []),
  (31, (24, 21, 13, 0), 0, [(1, 0)]),
  (34, (10, 22, 9, 2), 0, []),
  (37, (2, 0, 2, 0), 0, []),
  (38, (1, 0, 0, 0), nI 2, []),
  (39, (23, 7, 8, 0), 0, []),
  (42, (10, 26, 9, 3), 0, []),
  (45, (1, 0, 0, 0), nI 0, []),
  (46, (3, 1, 0, 0), 0, []),
  (47, (0, 2, 0, 0), 0, []),
  (47, (2, 1, 0, 0), 0, []),
  (48, (1, 0, 0, 0), nI 2, []),
  (49, (7, 71, 3, 0), 0, []),
  (52, (2, 0, 2, 0), 0, []),
  (53, (9, 26, 9, 3), 0, []),
  (56, (2, 1, 0, 0), 0, []),
  (57, (21, 7, 8, 0), 0, []),
  (60, (15, 0, 0, 0), 0, []),
  (61, (24, 9, 46, 0), 0, [(1, 0)]),
  (64, (12, 2, 0, 0), 0, []),
  (65, (5, 1, 0, 0), nI 1, []),
  (68, (8, 47, 0, 0), 0, []),
  (71, (2, 0, 2, 0), 0, []),
  (72, (1, 0, 0, 0), nI 2, []),
  (73, (22, 1, 0, 0), 0, []),
  (75, (10, 30, 9, 4), 0, []),
  (78, (2, 0, 2, 0), 0, []),
  (79, (21, 34, 0, 0), 0, []),
  (82, (15, 0, 0, 0), 0, []),
  (83, (24, 36, 0, 1), 0, [(1, 0)]),
  (86, (10, 37, 9, 5), 0, []),
  (89, (14, 1, 0, 0), 0, [])]
abbrev m_X9_init : Nat := 80
/-- NameMaps.addServer(III)I: 14 entries; loop heads [] -/
def co_X9_addServer : List Ent := [(0, (2, 0, 2, 0), 0, []),
  (1, (9, 22, 9, 2), 0, []),
  (4, (2, 0, 2, 0), 0, []),
  (5, (9, 10, 9, 0), 0, []),
  (8, (13, 41, 15, 0), 0, [(2, 3)]),
  (11, (2, 0, 2, 0), 0, []),
  (12, (2, 0, 2, 0), 0, []),
  (13, (9, 10, 9, 0), 0, []),
  (16, (2, 1, 0, 0), 0, []),
  (17, (2, 2, 0, 0), 0, []),
  (18, (2, 3, 0, 0), 0, []),
  (19, (13, 45, 51, 0), 0, [(4, 8)]),
  (22, (13, 49, 105, 0), 0, [(2, 9)]),
  (25, (14, 0, 0, 0), 0, [])]
abbrev m_X9_addServer : Nat := 81
/-- NameMaps.addSite(III)I: 14 entries; loop heads [] -/
def co_X9_addSite : List Ent := [(0, (2, 0, 2, 0), 0, []),
  (1, (9, 22, 9, 2), 0, []),
  (4, (2, 0, 2, 0), 0, []),
  (5, (9, 10, 9, 0), 0, []),
  (8, (13, 41, 15, 0), 0, [(2, 3)]),
  (11, (2, 0, 2, 0), 0, []),
  (12, (2, 0, 2, 0), 0, []),
  (13, (9, 10, 9, 0), 0, []),
  (16, (2, 1, 0, 0), 0, []),
  (17, (2, 2, 0, 0), 0, []),
  (18, (2, 3, 0, 0), 0, []),
  (19, (13, 53, 52, 0), 0, [(4, 8)]),
  (22, (13, 49, 105, 0), 0, [(2, 9)]),
  (25, (14, 0, 0, 0), 0, [])]
abbrev m_X9_addSite : Nat := 82
/-- NameMaps.addRouter()I: 11 entries; loop heads [] -/
def co_X9_addRouter : List Ent := [(0, (2, 0, 2, 0), 0, []),
  (1, (9, 22, 9, 2), 0, []),
  (4, (2, 0, 2, 0), 0, []),
  (5, (9, 10, 9, 0), 0, []),
  (8, (13, 41, 15, 0), 0, [(2, 3)]),
  (11, (2, 0, 2, 0), 0, []),
  (12, (2, 0, 2, 0), 0, []),
  (13, (9, 10, 9, 0), 0, []),
  (16, (13, 56, 53, 0), 0, [(1, 8)]),
  (19, (13, 49, 105, 0), 0, [(2, 9)]),
  (22, (14, 0, 0, 0), 0, [])]
abbrev m_X9_addRouter : Nat := 83
/-- NameMaps.setSlot(IIIII)I: 16 entries; loop heads [] -/
def co_X9_setSlot : List Ent := [(0, (2, 0, 2, 0), 0, []),
  (1, (9, 22, 9, 2), 0, []),
  (4, (2, 0, 2, 0), 0, []),
  (5, (9, 10, 9, 0), 0, []),
  (8, (13, 41, 15, 0), 0, [(2, 3)]),
  (11, (2, 0, 2, 0), 0, []),
  (12, (2, 0, 2, 0), 0, []),
  (13, (9, 10, 9, 0), 0, []),
  (16, (2, 1, 0, 0), 0, []),
  (17, (2, 2, 0, 0), 0, []),
  (18, (2, 3, 0, 0), 0, []),
  (19, (2, 4, 1, 0), 0, []),
  (21, (2, 5, 1, 0), 0, []),
  (23, (13, 60, 54, 0), 0, [(6, 8)]),
  (26, (13, 49, 105, 0), 0, [(2, 9)]),
  (29, (14, 0, 0, 0), 0, [])]
abbrev m_X9_setSlot : Nat := 84
/-- NameMaps.emptySlot(II)I: 13 entries; loop heads [] -/
def co_X9_emptySlot : List Ent := [(0, (2, 0, 2, 0), 0, []),
  (1, (9, 22, 9, 2), 0, []),
  (4, (2, 0, 2, 0), 0, []),
  (5, (9, 10, 9, 0), 0, []),
  (8, (13, 41, 15, 0), 0, [(2, 3)]),
  (11, (2, 0, 2, 0), 0, []),
  (12, (2, 0, 2, 0), 0, []),
  (13, (9, 10, 9, 0), 0, []),
  (16, (2, 1, 0, 0), 0, []),
  (17, (2, 2, 0, 0), 0, []),
  (18, (13, 64, 55, 0), 0, [(3, 8)]),
  (21, (13, 49, 105, 0), 0, [(2, 9)]),
  (24, (14, 0, 0, 0), 0, [])]
abbrev m_X9_emptySlot : Nat := 85
/-- NameMaps.register(I)I: 12 entries; loop heads [] -/
def co_X9_register : List Ent := [(0, (2, 0, 2, 0), 0, []),
  (1, (9, 22, 9, 2), 0, []),
  (4, (2, 0, 2, 0), 0, []),
  (5, (9, 10, 9, 0), 0, []),
  (8, (13, 41, 15, 0), 0, [(2, 3)]),
  (11, (2, 0, 2, 0), 0, []),
  (12, (2, 0, 2, 0), 0, []),
  (13, (9, 10, 9, 0), 0, []),
  (16, (2, 1, 0, 0), 0, []),
  (17, (13, 68, 56, 0), 0, [(2, 8)]),
  (20, (13, 49, 105, 0), 0, [(2, 9)]),
  (23, (14, 0, 0, 0), 0, [])]
abbrev m_X9_register : Nat := 86
/-- NameMaps.unregister(I)I: 12 entries; loop heads [] -/
def co_X9_unregister : List Ent := [(0, (2, 0, 2, 0), 0, []),
  (1, (9, 22, 9, 2), 0, []),
  (4, (2, 0, 2, 0), 0, []),
  (5, (9, 10, 9, 0), 0, []),
  (8, (13, 41, 15, 0), 0, [(2, 3)]),
  (11, (2, 0, 2, 0), 0, []),
  (12, (2, 0, 2, 0), 0, []),
  (13, (9, 10, 9, 0), 0, []),
  (16, (2, 1, 0, 0), 0, []),
  (17, (13, 71, 57, 0), 0, [(2, 8)]),
  (20, (13, 49, 105, 0), 0, [(2, 9)]),
  (23, (14, 0, 0, 0), 0, [])]
abbrev m_X9_unregister : Nat := 87
/-- NameMaps.setMapLife(I)I: 12 entries; loop heads [] -/
def co_X9_setMapLife : List Ent := [(0, (2, 0, 2, 0), 0, []),
  (1, (9, 22, 9, 2), 0, []),
  (4, (2, 0, 2, 0), 0, []),
  (5, (9, 10, 9, 0), 0, []),
  (8, (13, 41, 15, 0), 0, [(2, 3)]),
  (11, (2, 0, 2, 0), 0, []),
  (12, (2, 0, 2, 0), 0, []),
  (13, (9, 10, 9, 0), 0, []),
  (16, (2, 1, 0, 0), 0, []),
  (17, (13, 74, 58, 0), 0, [(2, 8)]),
  (20, (13, 49, 105, 0), 0, [(2, 9)]),
  (23, (14, 0, 0, 0), 0, [])]
abbrev m_X9_setMapLife : Nat := 88
/-- NameMaps.send(III)I: 14 entries; loop heads [] -/
def co_X9_send : List Ent := [(0, (2, 0, 2, 0), 0, []),
  (1, (9, 22, 9, 2), 0, []),
  (4, (2, 0, 2, 0), 0, []),
  (5, (9, 10, 9, 0), 0, []),
  (8, (13, 41, 15, 0), 0, [(2, 3)]),
  (11, (2, 0, 2, 0), 0, []),
  (12, (2, 0, 2, 0), 0, []),
  (13, (9, 10, 9, 0), 0, []),
  (16, (2, 1, 0, 0), 0, []),
  (17, (2, 2, 0, 0), 0, []),
  (18, (2, 3, 0, 0), 0, []),
  (19, (13, 77, 61, 0), 0, [(4, 8)]),
  (22, (13, 49, 105, 0), 0, [(2, 9)]),
  (25, (14, 0, 0, 0), 0, [])]
abbrev m_X9_send : Nat := 89
/-- NameMaps.pass(I)I: 12 entries; loop heads [] -/
def co_X9_pass : List Ent := [(0, (2, 0, 2, 0), 0, []),
  (1, (9, 22, 9, 2), 0, []),
  (4, (2, 0, 2, 0), 0, []),
  (5, (9, 10, 9, 0), 0, []),
  (8, (13, 41, 15, 0), 0, [(2, 3)]),
  (11, (2, 0, 2, 0), 0, []),
  (12, (2, 0, 2, 0), 0, []),
  (13, (9, 10, 9, 0), 0, []),
  (16, (2, 1, 0, 0), 0, []),
  (17, (13, 80, 59, 0), 0, [(2, 8)]),
  (20, (13, 49, 105, 0), 0, [(2, 9)]),
  (23, (14, 0, 0, 0), 0, [])]
abbrev m_X9_pass : Nat := 90
/-- NameMaps.forget(I)I: 12 entries; loop heads [] -/
def co_X9_forget : List Ent := [(0, (2, 0, 2, 0), 0, []),
  (1, (9, 22, 9, 2), 0, []),
  (4, (2, 0, 2, 0), 0, []),
  (5, (9, 10, 9, 0), 0, []),
  (8, (13, 41, 15, 0), 0, [(2, 3)]),
  (11, (2, 0, 2, 0), 0, []),
  (12, (2, 0, 2, 0), 0, []),
  (13, (9, 10, 9, 0), 0, []),
  (16, (2, 1, 0, 0), 0, []),
  (17, (13, 83, 60, 0), 0, [(2, 8)]),
  (20, (13, 49, 105, 0), 0, [(2, 9)]),
  (23, (14, 0, 0, 0), 0, [])]
abbrev m_X9_forget : Nat := 91
/-- NameMaps.undo()I: 15 entries; loop heads [] -/
def co_X9_undo : List Ent := [(0, (2, 0, 2, 0), 0, []),
  (1, (9, 22, 9, 2), 0, []),
  (4, (9, 106, 3, 2), 0, []),
  (7, (6, 13, 1, 0), 0, []),
  (10, (1, 0, 1, 0), (-3), []),
  (12, (14, 0, 0, 0), 0, []),
  (13, (2, 0, 2, 0), 0, []),
  (14, (9, 22, 9, 2), 0, []),
  (17, (2, 0, 2, 0), 0, []),
  (18, (9, 10, 9, 0), 0, []),
  (21, (13, 109, 17, 0), 0, [(2, 3)]),
  (24, (2, 0, 2, 0), 0, []),
  (25, (9, 22, 9, 2), 0, []),
  (28, (9, 106, 3, 2), 0, []),
  (31, (14, 0, 0, 0), 0, [])]
abbrev m_X9_undo : Nat := 92
/-- NameMaps.save(I)I: 21 entries; loop heads [] -/
def co_X9_save : List Ent := [(0, (2, 1, 0, 0), 0, []),
  (1, (13, 112, 106, 1), 0, [(1, 9)]),
  (4, (6, 9, 1, 0), 0, []),
  (7, (1, 0, 0, 0), (-1), []),
  (8, (14, 0, 0, 0), 0, []),
  (9, (2, 0, 2, 0), 0, []),
  (10, (9, 26, 9, 3), 0, []),
  (13, (2, 1, 0, 0), 0, []),
  (14, (11, 2, 0, 0), 0, []),
  (15, (2, 0, 2, 0), 0, []),
  (16, (9, 10, 9, 0), 0, []),
  (19, (13, 116, 47, 0), 0, [(2, 8)]),
  (22, (2, 0, 2, 0), 0, []),
  (23, (9, 30, 9, 4), 0, []),
  (26, (2, 1, 0, 0), 0, []),
  (27, (1, 0, 0, 0), nI 1, []),
  (28, (12, 1, 0, 0), 0, []),
  (29, (2, 0, 2, 0), 0, []),
  (30, (9, 10, 9, 0), 0, []),
  (33, (9, 119, 8, 6), 0, []),
  (36, (14, 0, 0, 0), 0, [])]
abbrev m_X9_save : Nat := 93
/-- NameMaps.restore(I)I: 30 entries; loop heads [] -/
def co_X9_restore : List Ent := [(0, (2, 1, 0, 0), 0, []),
  (1, (13, 112, 106, 1), 0, [(1, 9)]),
  (4, (6, 9, 1, 0), 0, []),
  (7, (1, 0, 0, 0), (-1), []),
  (8, (14, 0, 0, 0), 0, []),
  (9, (2, 0, 2, 0), 0, []),
  (10, (9, 30, 9, 4), 0, []),
  (13, (2, 1, 0, 0), 0, []),
  (14, (11, 1, 0, 0), 0, []),
  (15, (6, 21, 1, 0), 0, []),
  (18, (1, 0, 1, 0), (-3), []),
  (20, (14, 0, 0, 0), 0, []),
  (21, (2, 0, 2, 0), 0, []),
  (22, (9, 22, 9, 2), 0, []),
  (25, (2, 0, 2, 0), 0, []),
  (26, (9, 10, 9, 0), 0, []),
  (29, (13, 41, 15, 0), 0, [(2, 3)]),
  (32, (2, 0, 2, 0), 0, []),
  (33, (9, 10, 9, 0), 0, []),
  (36, (2, 0, 2, 0), 0, []),
  (37, (9, 26, 9, 3), 0, []),
  (40, (2, 1, 0, 0), 0, []),
  (41, (11, 2, 0, 0), 0, []),
  (42, (13, 116, 47, 0), 0, [(2, 8)]),
  (45, (2, 0, 2, 0), 0, []),
  (46, (2, 0, 2, 0), 0, []),
  (47, (9, 10, 9, 0), 0, []),
  (50, (9, 119, 8, 6), 0, []),
  (53, (13, 49, 105, 0), 0, [(2, 9)]),
  (56, (14, 0, 0, 0), 0, [])]
abbrev m_X9_restore : Nat := 94
/-- NameMaps.server(II)I: 13 entries; loop heads [] -/
def co_X9_server : List Ent := [(0, (2, 0, 2, 0), 0, []),
  (1, (9, 10, 9, 0), 0, []),
  (4, (2, 1, 0, 0), 0, []),
  (5, (13, 122, 48, 0), 0, [(2, 8)]),
  (8, (6, 23, 0, 0), 0, []),
  (11, (2, 0, 2, 0), 0, []),
  (12, (9, 10, 9, 0), 0, []),
  (15, (2, 1, 0, 0), 0, []),
  (16, (2, 2, 0, 0), 0, []),
  (17, (13, 125, 71, 0), 0, [(3, 8)]),
  (20, (8, 24, 0, 0), 0, []),
  (23, (1, 0, 0, 0), (-1), []),
  (24, (14, 0, 0, 0), 0, [])]
abbrev m_X9_server : Nat := 95
/-- NameMaps.site(II)I: 13 entries; loop heads [] -/
def co_X9_site : List Ent := [(0, (2, 0, 2, 0), 0, []),
  (1, (9, 10, 9, 0), 0, []),
  (4, (2, 1, 0, 0), 0, []),
  (5, (13, 128, 49, 0), 0, [(2, 8)]),
  (8, (6, 23, 0, 0), 0, []),
  (11, (2, 0, 2, 0), 0, []),
  (12, (9, 10, 9, 0), 0, []),
  (15, (2, 1, 0, 0), 0, []),
  (16, (2, 2, 0, 0), 0, []),
  (17, (13, 131, 74, 0), 0, [(3, 8)]),
  (20, (8, 24, 0, 0), 0, []),
  (23, (1, 0, 0, 0), (-1), []),
  (24, (14, 0, 0, 0), 0, [])]
abbrev m_X9_site : Nat := 96
/-- NameMaps.slot(III)I: 20 entries; loop heads [] -/
def co_X9_slot : List Ent := [(0, (2, 0, 2, 0), 0, []),
  (1, (9, 10, 9, 0), 0, []),
  (4, (2, 1, 0, 0), 0, []),
  (5, (13, 128, 49, 0), 0, [(2, 8)]),
  (8, (6, 18, 0, 0), 0, []),
  (11, (2, 2, 0, 0), 0, []),
  (12, (13, 134, 107, 1), 0, [(1, 9)]),
  (15, (6, 20, 1, 0), 0, []),
  (18, (1, 0, 0, 0), (-1), []),
  (19, (14, 0, 0, 0), 0, []),
  (20, (2, 0, 2, 0), 0, []),
  (21, (9, 10, 9, 0), 0, []),
  (24, (9, 137, 8, 1), 0, []),
  (27, (2, 1, 0, 0), 0, []),
  (28, (11, 2, 0, 0), 0, []),
  (29, (9, 141, 6, 1), 0, []),
  (32, (2, 2, 0, 0), 0, []),
  (33, (2, 3, 0, 0), 0, []),
  (34, (13, 147, 39, 0), 0, [(3, 7)]),
  (37, (14, 0, 0, 0), 0, [])]
abbrev m_X9_slot : Nat := 97
/-- NameMaps.router(II)I: 15 entries; loop heads [] -/
def co_X9_router : List Ent := [(0, (2, 0, 2, 0), 0, []),
  (1, (9, 10, 9, 0), 0, []),
  (4, (2, 1, 0, 0), 0, []),
  (5, (13, 152, 50, 0), 0, [(2, 8)]),
  (8, (6, 27, 0, 0), 0, []),
  (11, (2, 0, 2, 0), 0, []),
  (12, (9, 10, 9, 0), 0, []),
  (15, (9, 155, 8, 2), 0, []),
  (18, (2, 1, 0, 0), 0, []),
  (19, (11, 2, 0, 0), 0, []),
  (20, (2, 2, 0, 0), 0, []),
  (21, (13, 159, 22, 0), 0, [(2, 4)]),
  (24, (8, 28, 0, 0), 0, []),
  (27, (1, 0, 0, 0), (-1), []),
  (28, (14, 0, 0, 0), 0, [])]
abbrev m_X9_router : Nat := 98
/-- NameMaps.map(III)I: 29 entries; loop heads [] -/
def co_X9_map : List Ent := [(0, (2, 0, 2, 0), 0, []),
  (1, (9, 10, 9, 0), 0, []),
  (4, (2, 1, 0, 0), 0, []),
  (5, (13, 152, 50, 0), 0, [(2, 8)]),
  (8, (6, 27, 0, 0), 0, []),
  (11, (2, 0, 2, 0), 0, []),
  (12, (9, 10, 9, 0), 0, []),
  (15, (9, 155, 8, 2), 0, []),
  (18, (2, 1, 0, 0), 0, []),
  (19, (11, 2, 0, 0), 0, []),
  (20, (2, 2, 0, 0), 0, []),
  (21, (13, 164, 21, 0), 0, [(2, 4)]),
  (24, (6, 29, 1, 0), 0, []),
  (27, (1, 0, 0, 0), (-1), []),
  (28, (14, 0, 0, 0), 0, []),
  (29, (2, 0, 2, 0), 0, []),
  (30, (9, 10, 9, 0), 0, []),
  (33, (9, 155, 8, 2), 0, []),
  (36, (2, 1, 0, 0), 0, []),
  (37, (11, 2, 0, 0), 0, []),
  (38, (9, 167, 4, 0), 0, []),
  (41, (2, 2, 0, 0), 0, []),
  (42, (11, 2, 0, 0), 0, []),
  (43, (2, 3, 0, 0), 0, []),
  (44, (2, 0, 2, 0), 0, []),
  (45, (9, 10, 9, 0), 0, []),
  (48, (9, 119, 8, 6), 0, []),
  (51, (13, 171, 12, 0), 0, [(3, 2)]),
  (54, (14, 0, 0, 0), 0, [])]
abbrev m_X9_map : Nat := 99
/-- NameMaps.answer(I)I: 17 entries; loop heads [] -/
def co_X9_answer : List Ent := [(0, (2, 1, 0, 0), 0, []),
  (1, (13, 175, 108, 1), 0, [(1, 9)]),
  (4, (6, 10, 1, 0), 0, []),
  (7, (1, 0, 1, 0), (-2), []),
  (9, (14, 0, 0, 0), 0, []),
  (10, (2, 0, 2, 0), 0, []),
  (11, (9, 10, 9, 0), 0, []),
  (14, (2, 1, 0, 0), 0, []),
  (15, (13, 178, 68, 0), 0, [(2, 8)]),
  (18, (3, 2, 0, 0), 0, []),
  (19, (2, 2, 0, 0), 0, []),
  (20, (1, 0, 0, 0), (-1), []),
  (21, (7, 29, 1, 0), 0, []),
  (24, (1, 0, 1, 0), (-5), []),
  (26, (8, 30, 0, 0), 0, []),
  (29, (2, 2, 0, 0), 0, []),
  (30, (14, 0, 0, 0), 0, [])]
abbrev m_X9_answer : Nat := 100
/-- NameMaps.endingNext(I)I: 16 entries; loop heads [] -/
def co_X9_endingNext : List Ent := [(0, (2, 1, 0, 0), 0, []),
  (1, (6, 7, 3, 0), 0, []),
  (4, (1, 0, 1, 0), (-2), []),
  (6, (14, 0, 0, 0), 0, []),
  (7, (2, 0, 2, 0), 0, []),
  (8, (9, 10, 9, 0), 0, []),
  (11, (2, 1, 0, 0), 0, []),
  (12, (13, 187, 69, 0), 0, [(2, 8)]),
  (15, (3, 2, 0, 0), 0, []),
  (16, (2, 2, 0, 0), 0, []),
  (17, (1, 0, 0, 0), (-1), []),
  (18, (7, 26, 1, 0), 0, []),
  (21, (1, 0, 1, 0), (-5), []),
  (23, (8, 27, 0, 0), 0, []),
  (26, (2, 2, 0, 0), 0, []),
  (27, (14, 0, 0, 0), 0, [])]
abbrev m_X9_endingNext : Nat := 101
/-- NameMaps.total(I)I: 15 entries; loop heads [] -/
def co_X9_total : List Ent := [(0, (2, 1, 0, 0), 0, []),
  (1, (18, 44, 27, 1), 0, [(11, 28), (12, 36)]),
  (28, (2, 0, 2, 0), 0, []),
  (29, (9, 22, 9, 2), 0, []),
  (32, (9, 106, 3, 2), 0, []),
  (35, (14, 0, 0, 0), 0, []),
  (36, (2, 0, 2, 0), 0, []),
  (37, (9, 37, 9, 5), 0, []),
  (40, (9, 89, 0, 1), 0, []),
  (43, (14, 0, 0, 0), 0, []),
  (44, (2, 0, 2, 0), 0, []),
  (45, (9, 10, 9, 0), 0, []),
  (48, (2, 1, 0, 0), 0, []),
  (49, (13, 190, 76, 0), 0, [(2, 8)]),
  (52, (14, 0, 0, 0), 0, [])]
abbrev m_X9_total : Nat := 102
/-- NameMaps.wouldReach(IIII)I: 33 entries; loop heads [] -/
def co_X9_wouldReach : List Ent := [(0, (2, 0, 2, 0), 0, []),
  (1, (9, 10, 9, 0), 0, []),
  (4, (2, 1, 0, 0), 0, []),
  (5, (13, 152, 50, 0), 0, [(2, 8)]),
  (8, (6, 13, 1, 0), 0, []),
  (11, (1, 0, 0, 0), (-1), []),
  (12, (14, 0, 0, 0), 0, []),
  (13, (2, 4, 1, 0), 0, []),
  (15, (6, 25, 2, 0), 0, []),
  (18, (2, 4, 1, 0), 0, []),
  (20, (1, 0, 1, 0), nI 99, []),
  (22, (7, 28, 5, 0), 0, []),
  (25, (1, 0, 1, 0), (-2), []),
  (27, (14, 0, 0, 0), 0, []),
  (28, (2, 0, 2, 0), 0, []),
  (29, (9, 16, 9, 1), 0, []),
  (32, (2, 0, 2, 0), 0, []),
  (33, (9, 10, 9, 0), 0, []),
  (36, (13, 116, 47, 0), 0, [(2, 8)]),
  (39, (2, 0, 2, 0), 0, []),
  (40, (9, 16, 9, 1), 0, []),
  (43, (15, 0, 0, 0), 0, []),
  (44, (9, 119, 8, 6), 0, []),
  (47, (2, 4, 1, 0), 0, []),
  (49, (4, 0, 0, 0), 0, []),
  (50, (10, 119, 8, 6), 0, []),
  (53, (2, 0, 2, 0), 0, []),
  (54, (9, 16, 9, 1), 0, []),
  (57, (2, 1, 0, 0), 0, []),
  (58, (2, 2, 0, 0), 0, []),
  (59, (2, 3, 0, 0), 0, []),
  (60, (13, 77, 61, 0), 0, [(4, 8)]),
  (63, (14, 0, 0, 0), 0, [])]
abbrev m_X9_wouldReach : Nat := 103
/-- NameMaps.wouldAsk(III)I: 37 entries; loop heads [] -/
def co_X9_wouldAsk : List Ent := [(0, (2, 0, 2, 0), 0, []),
  (1, (9, 10, 9, 0), 0, []),
  (4, (2, 1, 0, 0), 0, []),
  (5, (13, 152, 50, 0), 0, [(2, 8)]),
  (8, (6, 13, 1, 0), 0, []),
  (11, (1, 0, 0, 0), (-1), []),
  (12, (14, 0, 0, 0), 0, []),
  (13, (2, 0, 2, 0), 0, []),
  (14, (9, 16, 9, 1), 0, []),
  (17, (2, 0, 2, 0), 0, []),
  (18, (9, 10, 9, 0), 0, []),
  (21, (13, 116, 47, 0), 0, [(2, 8)]),
  (24, (2, 0, 2, 0), 0, []),
  (25, (9, 16, 9, 1), 0, []),
  (28, (2, 1, 0, 0), 0, []),
  (29, (2, 2, 0, 0), 0, []),
  (30, (2, 3, 0, 0), 0, []),
  (31, (13, 77, 61, 0), 0, [(4, 8)]),
  (34, (3, 4, 1, 0), 0, []),
  (36, (2, 4, 1, 0), 0, []),
  (38, (6, 46, 3, 0), 0, []),
  (41, (2, 4, 1, 0), 0, []),
  (43, (8, 71, 0, 0), 0, []),
  (46, (2, 0, 2, 0), 0, []),
  (47, (9, 16, 9, 1), 0, []),
  (50, (9, 155, 8, 2), 0, []),
  (53, (2, 1, 0, 0), 0, []),
  (54, (11, 2, 0, 0), 0, []),
  (55, (9, 193, 4, 2), 0, []),
  (58, (2, 0, 2, 0), 0, []),
  (59, (9, 10, 9, 0), 0, []),
  (62, (9, 155, 8, 2), 0, []),
  (65, (2, 1, 0, 0), 0, []),
  (66, (11, 2, 0, 0), 0, []),
  (67, (9, 193, 4, 2), 0, []),
  (70, (4, 1, 0, 0), 0, []),
  (71, (14, 0, 0, 0), 0, [])]
abbrev m_X9_wouldAsk : Nat := 104
/-- NameMaps.recorded(I)I: 7 entries; loop heads [] -/
def co_X9_recorded : List Ent := [(0, (2, 1, 0, 0), 0, []),
  (1, (6, 11, 2, 0), 0, []),
  (4, (2, 0, 2, 0), 0, []),
  (5, (9, 22, 9, 2), 0, []),
  (8, (13, 202, 16, 0), 0, [(1, 3)]),
  (11, (2, 1, 0, 0), 0, []),
  (12, (14, 0, 0, 0), 0, [])]
abbrev m_X9_recorded : Nat := 105
/-- NameMaps.isSave(I)Z: 9 entries; loop heads [] -/
def co_X9_isSave : List Ent := [(0, (2, 0, 0, 0), 0, []),
  (1, (6, 13, 2, 0), 0, []),
  (4, (2, 0, 0, 0), 0, []),
  (5, (1, 0, 0, 0), nI 2, []),
  (6, (7, 13, 3, 0), 0, []),
  (9, (1, 0, 0, 0), nI 1, []),
  (10, (8, 14, 0, 0), 0, []),
  (13, (1, 0, 0, 0), nI 0, []),
  (14, (14, 0, 0, 0), 0, [])]
abbrev m_X9_isSave : Nat := 106
/-- NameMaps.isSlot(I)Z: 9 entries; loop heads [] -/
def co_X9_isSlot : List Ent := [(0, (2, 0, 0, 0), 0, []),
  (1, (6, 13, 2, 0), 0, []),
  (4, (2, 0, 0, 0), 0, []),
  (5, (1, 0, 0, 0), nI 3, []),
  (6, (7, 13, 3, 0), 0, []),
  (9, (1, 0, 0, 0), nI 1, []),
  (10, (8, 14, 0, 0), 0, []),
  (13, (1, 0, 0, 0), nI 0, []),
  (14, (14, 0, 0, 0), 0, [])]
abbrev m_X9_isSlot : Nat := 107
/-- NameMaps.isName(I)Z: 9 entries; loop heads [] -/
def co_X9_isName : List Ent := [(0, (2, 0, 0, 0), 0, []),
  (1, (6, 15, 2, 0), 0, []),
  (4, (2, 0, 0, 0), 0, []),
  (5, (1, 0, 2, 0), nI 256, []),
  (8, (7, 15, 3, 0), 0, []),
  (11, (1, 0, 0, 0), nI 1, []),
  (12, (8, 16, 0, 0), 0, []),
  (15, (1, 0, 0, 0), nI 0, []),
  (16, (14, 0, 0, 0), 0, [])]
abbrev m_X9_isName : Nat := 108
/-- NameMaps.isFlow(I)Z: 9 entries; loop heads [] -/
def co_X9_isFlow : List Ent := [(0, (2, 0, 0, 0), 0, []),
  (1, (6, 14, 2, 0), 0, []),
  (4, (2, 0, 0, 0), 0, []),
  (5, (1, 0, 1, 0), nI 100, []),
  (7, (7, 14, 3, 0), 0, []),
  (10, (1, 0, 0, 0), nI 1, []),
  (11, (8, 15, 0, 0), 0, []),
  (14, (1, 0, 0, 0), nI 0, []),
  (15, (14, 0, 0, 0), 0, [])]
abbrev m_X9_isFlow : Nat := 109
/-- NameMaps.isPlaceOfSlot(I)Z: 9 entries; loop heads [] -/
def co_X9_isPlaceOfSlot : List Ent := [(0, (2, 0, 0, 0), 0, []),
  (1, (6, 14, 2, 0), 0, []),
  (4, (2, 0, 0, 0), 0, []),
  (5, (1, 0, 1, 0), nI 32, []),
  (7, (7, 14, 3, 0), 0, []),
  (10, (1, 0, 0, 0), nI 1, []),
  (11, (8, 15, 0, 0), 0, []),
  (14, (1, 0, 0, 0), nI 0, []),
  (15, (14, 0, 0, 0), 0, [])]
abbrev m_X9_isPlaceOfSlot : Nat := 110
/-- NameMaps.isBlock(II)Z: 23 entries; loop heads [] -/
def co_X9_isBlock : List Ent := [(0, (2, 1, 0, 0), 0, []),
  (1, (1, 0, 0, 0), nI 1, []),
  (2, (7, 20, 2, 0), 0, []),
  (5, (2, 1, 0, 0), 0, []),
  (6, (1, 0, 2, 0), nI 256, []),
  (9, (7, 20, 4, 0), 0, []),
  (12, (2, 1, 0, 0), 0, []),
  (13, (13, 217, 112, 3), 0, [(1, 25)]),
  (16, (1, 0, 0, 0), nI 1, []),
  (17, (7, 22, 0, 0), 0, []),
  (20, (1, 0, 0, 0), nI 0, []),
  (21, (14, 0, 0, 0), 0, []),
  (22, (2, 0, 0, 0), 0, []),
  (23, (13, 175, 108, 1), 0, [(1, 9)]),
  (26, (6, 39, 0, 0), 0, []),
  (29, (2, 0, 0, 0), 0, []),
  (30, (2, 1, 0, 0), 0, []),
  (31, (4, 4, 0, 0), 0, []),
  (32, (6, 39, 1, 0), 0, []),
  (35, (1, 0, 0, 0), nI 1, []),
  (36, (8, 40, 0, 0), 0, []),
  (39, (1, 0, 0, 0), nI 0, []),
  (40, (14, 0, 0, 0), 0, [])]
abbrev m_X9_isBlock : Nat := 111
/-- java/lang/Integer.bitCount(I)I: 42 entries; loop heads [] -/
def co_J6_bitCount_0f7a4 : List Ent := [(0, (2, 0, 0, 0), 0, []),
  (1, (2, 0, 0, 0), 0, []),
  (2, (1, 0, 0, 0), nI 1, []),
  (3, (4, 6, 0, 0), 0, []),
  (4, (1, 265, 3, 0), nI 1431655765, []),
  (7, (4, 5, 0, 0), 0, []),
  (8, (4, 1, 0, 0), 0, []),
  (9, (3, 0, 0, 0), 0, []),
  (10, (2, 0, 0, 0), 0, []),
  (11, (1, 266, 3, 0), nI 858993459, []),
  (14, (4, 5, 0, 0), 0, []),
  (15, (2, 0, 0, 0), 0, []),
  (16, (1, 0, 0, 0), nI 2, []),
  (17, (4, 6, 0, 0), 0, []),
  (18, (1, 266, 3, 0), nI 858993459, []),
  (21, (4, 5, 0, 0), 0, []),
  (22, (4, 0, 0, 0), 0, []),
  (23, (3, 0, 0, 0), 0, []),
  (24, (2, 0, 0, 0), 0, []),
  (25, (2, 0, 0, 0), 0, []),
  (26, (1, 0, 0, 0), nI 4, []),
  (27, (4, 6, 0, 0), 0, []),
  (28, (4, 0, 0, 0), 0, []),
  (29, (1, 267, 3, 0), nI 252645135, []),
  (32, (4, 5, 0, 0), 0, []),
  (33, (3, 0, 0, 0), 0, []),
  (34, (2, 0, 0, 0), 0, []),
  (35, (2, 0, 0, 0), 0, []),
  (36, (1, 0, 1, 0), nI 8, []),
  (38, (4, 6, 0, 0), 0, []),
  (39, (4, 0, 0, 0), 0, []),
  (40, (3, 0, 0, 0), 0, []),
  (41, (2, 0, 0, 0), 0, []),
  (42, (2, 0, 0, 0), 0, []),
  (43, (1, 0, 1, 0), nI 16, []),
  (45, (4, 6, 0, 0), 0, []),
  (46, (4, 0, 0, 0), 0, []),
  (47, (3, 0, 0, 0), 0, []),
  (48, (2, 0, 0, 0), 0, []),
  (49, (1, 0, 1, 0), nI 63, []),
  (51, (4, 5, 0, 0), 0, []),
  (52, (14, 0, 0, 0), 0, [])]
abbrev m_J6_bitCount_0f7a4 : Nat := 112
/-- java/lang/Math.floorMod(II)I: 16 entries; loop heads [] -/
def co_J9_floorMod_7cf53 : List Ent := [(0, (2, 0, 0, 0), 0, []),
  (1, (2, 1, 0, 0), 0, []),
  (2, (4, 4, 0, 0), 0, []),
  (3, (3, 2, 0, 0), 0, []),
  (4, (2, 0, 0, 0), 0, []),
  (5, (2, 1, 0, 0), 0, []),
  (6, (4, 7, 0, 0), 0, []),
  (7, (6, 18, 3, 0), 0, []),
  (10, (2, 2, 0, 0), 0, []),
  (11, (6, 18, 0, 0), 0, []),
  (14, (2, 2, 0, 0), 0, []),
  (15, (2, 1, 0, 0), 0, []),
  (16, (4, 0, 0, 0), 0, []),
  (17, (14, 0, 0, 0), 0, []),
  (18, (2, 2, 0, 0), 0, []),
  (19, (14, 0, 0, 0), 0, [])]
abbrev m_J9_floorMod_7cf53 : Nat := 113
/-- NameMapsLaw.cell([II)I: 14 entries; loop heads [] -/
def co_L_cell : List Ent := [(0, (2, 1, 0, 0), 0, []),
  (1, (2, 0, 2, 0), 0, []),
  (2, (19, 0, 0, 0), 0, []),
  (3, (7, 12, 3, 0), 0, []),
  (6, (2, 0, 2, 0), 0, []),
  (7, (2, 1, 0, 0), 0, []),
  (8, (11, 0, 0, 0), 0, []),
  (9, (8, 18, 0, 0), 0, []),
  (12, (1, 7, 4, 0), nI 763049417, []),
  (14, (2, 1, 0, 0), 0, []),
  (15, (1, 0, 0, 0), nI 3, []),
  (16, (4, 0, 0, 0), 0, []),
  (17, (4, 2, 0, 0), 0, []),
  (18, (14, 0, 0, 0), 0, [])]
abbrev m_L_cell : Nat := 114
/-- NameMapsLaw.up(II)I: 6 entries; loop heads [] -/
def co_L_up : List Ent := [(0, (2, 0, 0, 0), 0, []),
  (1, (1, 8, 4, 0), nI 2147483647, []),
  (3, (4, 5, 0, 0), 0, []),
  (4, (2, 1, 0, 0), 0, []),
  (5, (4, 4, 0, 0), 0, []),
  (6, (14, 0, 0, 0), 0, [])]
abbrev m_L_up : Nat := 115
/-- NameMapsLaw.size(I)I: 6 entries; loop heads [] -/
def co_L_size : List Ent := [(0, (1, 0, 0, 0), nI 1, []),
  (1, (2, 0, 0, 0), 0, []),
  (2, (1, 0, 1, 0), nI 7, []),
  (4, (4, 5, 0, 0), 0, []),
  (5, (4, 9, 0, 0), 0, []),
  (6, (14, 0, 0, 0), 0, [])]
abbrev m_L_size : Nat := 116
/-- NameMapsLaw.any(LNameMaps;II)I: 47 entries; loop heads [] -/
def co_L_any : List Ent := [(0, (2, 2, 0, 0), 0, []),
  (1, (1, 0, 1, 0), nI 7, []),
  (3, (4, 5, 0, 0), 0, []),
  (4, (18, 101, 44, 0), 0, [(0, 48), (1, 56), (2, 64), (3, 74), (4, 81), (5, 89), (6, 95)]),
  (48, (2, 0, 2, 0), 0, []),
  (49, (2, 1, 0, 0), 0, []),
  (50, (2, 2, 0, 0), 0, []),
  (51, (2, 1, 0, 0), 0, []),
  (52, (13, 36, 81, 0), 0, [(4, 9)]),
  (55, (14, 0, 0, 0), 0, []),
  (56, (2, 0, 2, 0), 0, []),
  (57, (2, 1, 0, 0), 0, []),
  (58, (2, 2, 0, 0), 0, []),
  (59, (2, 1, 0, 0), 0, []),
  (60, (13, 39, 82, 0), 0, [(4, 9)]),
  (63, (14, 0, 0, 0), 0, []),
  (64, (2, 0, 2, 0), 0, []),
  (65, (2, 1, 0, 0), 0, []),
  (66, (2, 2, 0, 0), 0, []),
  (67, (2, 1, 0, 0), 0, []),
  (68, (2, 2, 0, 0), 0, []),
  (69, (2, 1, 0, 0), 0, []),
  (70, (13, 42, 84, 0), 0, [(6, 9)]),
  (73, (14, 0, 0, 0), 0, []),
  (74, (2, 0, 2, 0), 0, []),
  (75, (2, 1, 0, 0), 0, []),
  (76, (2, 2, 0, 0), 0, []),
  (77, (13, 46, 85, 0), 0, [(3, 9)]),
  (80, (14, 0, 0, 0), 0, []),
  (81, (2, 0, 2, 0), 0, []),
  (82, (2, 1, 0, 0), 0, []),
  (83, (2, 2, 0, 0), 0, []),
  (84, (2, 1, 0, 0), 0, []),
  (85, (13, 49, 89, 0), 0, [(4, 9)]),
  (88, (14, 0, 0, 0), 0, []),
  (89, (2, 0, 2, 0), 0, []),
  (90, (2, 1, 0, 0), 0, []),
  (91, (13, 52, 90, 0), 0, [(2, 9)]),
  (94, (14, 0, 0, 0), 0, []),
  (95, (2, 0, 2, 0), 0, []),
  (96, (2, 1, 0, 0), 0, []),
  (97, (13, 55, 94, 0), 0, [(2, 9)]),
  (100, (14, 0, 0, 0), 0, []),
  (101, (2, 0, 2, 0), 0, []),
  (102, (2, 1, 0, 0), 0, []),
  (103, (13, 58, 88, 0), 0, [(2, 9)]),
  (106, (14, 0, 0, 0), 0, [])]
abbrev m_L_any : Nat := 117
/-- NameMapsLaw.turn(LNameMaps;III)I: 150 entries; loop heads [] -/
def co_L_turn : List Ent := [(0, (2, 2, 0, 0), 0, []),
  (1, (1, 0, 0, 0), nI 5, []),
  (2, (13, 61, 115, 1), 0, [(2, 24)]),
  (5, (3, 4, 1, 0), 0, []),
  (7, (2, 2, 0, 0), 0, []),
  (8, (1, 0, 1, 0), nI 8, []),
  (10, (4, 8, 0, 0), 0, []),
  (11, (13, 66, 116, 1), 0, [(1, 24)]),
  (14, (3, 5, 1, 0), 0, []),
  (16, (2, 1, 0, 0), 0, []),
  (17, (18, 322, 75, 0), 0, [(0, 92), (1, 117), (2, 148), (3, 153), (4, 153), (5, 191), (6, 203), (7, 203), (8, 210), (9, 240), (10, 272), (11, 272), (12, 272), (13, 272), (14, 298)]),
  (92, (2, 0, 2, 0), 0, []),
  (93, (2, 2, 0, 0), 0, []),
  (94, (1, 0, 0, 0), nI 4, []),
  (95, (13, 61, 115, 1), 0, [(2, 24)]),
  (98, (2, 3, 0, 0), 0, []),
  (99, (1, 0, 2, 0), nI 256, []),
  (102, (2, 5, 1, 0), 0, []),
  (104, (4, 3, 0, 0), 0, []),
  (105, (13, 61, 115, 1), 0, [(2, 24)]),
  (108, (2, 5, 1, 0), 0, []),
  (110, (4, 2, 0, 0), 0, []),
  (111, (2, 5, 1, 0), 0, []),
  (113, (13, 36, 81, 0), 0, [(4, 9)]),
  (116, (14, 0, 0, 0), 0, []),
  (117, (2, 0, 2, 0), 0, []),
  (118, (2, 3, 0, 0), 0, []),
  (119, (1, 0, 2, 0), nI 256, []),
  (122, (2, 5, 1, 0), 0, []),
  (124, (4, 3, 0, 0), 0, []),
  (125, (13, 61, 115, 1), 0, [(2, 24)]),
  (128, (2, 5, 1, 0), 0, []),
  (130, (4, 2, 0, 0), 0, []),
  (131, (2, 5, 1, 0), 0, []),
  (133, (1, 0, 0, 0), nI 1, []),
  (134, (2, 3, 0, 0), 0, []),
  (135, (1, 0, 1, 0), nI 9, []),
  (137, (4, 8, 0, 0), 0, []),
  (138, (1, 0, 1, 0), nI 48, []),
  (140, (13, 61, 115, 1), 0, [(2, 24)]),
  (143, (4, 0, 0, 0), 0, []),
  (144, (13, 39, 82, 0), 0, [(4, 9)]),
  (147, (14, 0, 0, 0), 0, []),
  (148, (2, 0, 2, 0), 0, []),
  (149, (13, 69, 83, 0), 0, [(1, 9)]),
  (152, (14, 0, 0, 0), 0, []),
  (153, (2, 0, 2, 0), 0, []),
  (154, (2, 4, 1, 0), 0, []),
  (156, (2, 3, 0, 0), 0, []),
  (157, (1, 0, 0, 0), nI 3, []),
  (158, (13, 61, 115, 1), 0, [(2, 24)]),
  (161, (2, 3, 0, 0), 0, []),
  (162, (1, 0, 0, 0), nI 2, []),
  (163, (4, 8, 0, 0), 0, []),
  (164, (1, 0, 1, 0), nI 8, []),
  (166, (13, 61, 115, 1), 0, [(2, 24)]),
  (169, (2, 3, 0, 0), 0, []),
  (170, (1, 0, 0, 0), nI 5, []),
  (171, (4, 8, 0, 0), 0, []),
  (172, (1, 0, 0, 0), nI 3, []),
  (173, (13, 61, 115, 1), 0, [(2, 24)]),
  (176, (1, 0, 0, 0), nI 1, []),
  (177, (2, 3, 0, 0), 0, []),
  (178, (1, 0, 1, 0), nI 7, []),
  (180, (4, 8, 0, 0), 0, []),
  (181, (1, 0, 1, 0), nI 9, []),
  (183, (13, 61, 115, 1), 0, [(2, 24)]),
  (186, (4, 0, 0, 0), 0, []),
  (187, (13, 42, 84, 0), 0, [(6, 9)]),
  (190, (14, 0, 0, 0), 0, []),
  (191, (2, 0, 2, 0), 0, []),
  (192, (2, 4, 1, 0), 0, []),
  (194, (2, 3, 0, 0), 0, []),
  (195, (1, 0, 0, 0), nI 3, []),
  (196, (13, 61, 115, 1), 0, [(2, 24)]),
  (199, (13, 46, 85, 0), 0, [(3, 9)]),
  (202, (14, 0, 0, 0), 0, []),
  (203, (2, 0, 2, 0), 0, []),
  (204, (2, 4, 1, 0), 0, []),
  (206, (13, 73, 86, 0), 0, [(2, 9)]),
  (209, (14, 0, 0, 0), 0, []),
  (210, (2, 3, 0, 0), 0, []),
  (211, (1, 0, 0, 0), nI 1, []),
  (212, (4, 5, 0, 0), 0, []),
  (213, (6, 225, 1, 0), 0, []),
  (216, (2, 0, 2, 0), 0, []),
  (217, (2, 4, 1, 0), 0, []),
  (219, (13, 76, 87, 0), 0, [(2, 9)]),
  (222, (8, 239, 0, 0), 0, []),
  (225, (2, 0, 2, 0), 0, []),
  (226, (1, 0, 0, 0), nI 1, []),
  (227, (2, 3, 0, 0), 0, []),
  (228, (1, 0, 0, 0), nI 1, []),
  (229, (4, 8, 0, 0), 0, []),
  (230, (1, 0, 1, 0), nI 20, []),
  (232, (13, 61, 115, 1), 0, [(2, 24)]),
  (235, (4, 0, 0, 0), 0, []),
  (236, (13, 58, 88, 0), 0, [(2, 9)]),
  (239, (14, 0, 0, 0), 0, []),
  (240, (2, 3, 0, 0), 0, []),
  (241, (1, 0, 1, 0), nI 7, []),
  (243, (4, 5, 0, 0), 0, []),
  (244, (6, 259, 1, 0), 0, []),
  (247, (2, 0, 2, 0), 0, []),
  (248, (2, 2, 0, 0), 0, []),
  (249, (1, 0, 0, 0), nI 3, []),
  (250, (13, 61, 115, 1), 0, [(2, 24)]),
  (253, (13, 79, 91, 0), 0, [(2, 9)]),
  (256, (8, 271, 0, 0), 0, []),
  (259, (2, 0, 2, 0), 0, []),
  (260, (1, 0, 0, 0), nI 1, []),
  (261, (2, 3, 0, 0), 0, []),
  (262, (1, 0, 1, 0), nI 6, []),
  (264, (13, 61, 115, 1), 0, [(2, 24)]),
  (267, (4, 0, 0, 0), 0, []),
  (268, (13, 52, 90, 0), 0, [(2, 9)]),
  (271, (14, 0, 0, 0), 0, []),
  (272, (2, 0, 2, 0), 0, []),
  (273, (2, 2, 0, 0), 0, []),
  (274, (1, 0, 0, 0), nI 3, []),
  (275, (13, 61, 115, 1), 0, [(2, 24)]),
  (278, (2, 3, 0, 0), 0, []),
  (279, (1, 0, 2, 0), nI 256, []),
  (282, (13, 61, 115, 1), 0, [(2, 24)]),
  (285, (2, 3, 0, 0), 0, []),
  (286, (1, 0, 1, 0), nI 8, []),
  (288, (4, 8, 0, 0), 0, []),
  (289, (1, 0, 1, 0), nI 100, []),
  (291, (13, 61, 115, 1), 0, [(2, 24)]),
  (294, (13, 49, 89, 0), 0, [(4, 9)]),
  (297, (14, 0, 0, 0), 0, []),
  (298, (2, 0, 2, 0), 0, []),
  (299, (2, 2, 0, 0), 0, []),
  (300, (1, 0, 0, 0), nI 3, []),
  (301, (13, 61, 115, 1), 0, [(2, 24)]),
  (304, (2, 0, 2, 0), 0, []),
  (305, (2, 3, 0, 0), 0, []),
  (306, (13, 82, 119, 1), 0, [(2, 24)]),
  (309, (2, 3, 0, 0), 0, []),
  (310, (1, 0, 1, 0), nI 8, []),
  (312, (4, 8, 0, 0), 0, []),
  (313, (1, 0, 1, 0), nI 100, []),
  (315, (13, 61, 115, 1), 0, [(2, 24)]),
  (318, (13, 49, 89, 0), 0, [(4, 9)]),
  (321, (14, 0, 0, 0), 0, []),
  (322, (2, 0, 2, 0), 0, []),
  (323, (2, 2, 0, 0), 0, []),
  (324, (2, 3, 0, 0), 0, []),
  (325, (13, 86, 117, 1), 0, [(3, 24)]),
  (328, (14, 0, 0, 0), 0, [])]
abbrev m_L_turn : Nat := 118
/-- NameMapsLaw.name(LNameMaps;I)I: 32 entries; loop heads [] -/
def co_L_name : List Ent := [(0, (2, 0, 2, 0), 0, []),
  (1, (1, 0, 0, 0), nI 2, []),
  (2, (13, 13, 102, 0), 0, [(2, 9)]),
  (5, (3, 2, 0, 0), 0, []),
  (6, (2, 2, 0, 0), 0, []),
  (7, (6, 14, 1, 0), 0, []),
  (10, (1, 0, 0, 0), nI 0, []),
  (11, (8, 22, 0, 0), 0, []),
  (14, (2, 1, 0, 0), 0, []),
  (15, (1, 0, 1, 0), nI 16, []),
  (17, (4, 8, 0, 0), 0, []),
  (18, (2, 2, 0, 0), 0, []),
  (19, (13, 61, 115, 1), 0, [(2, 24)]),
  (22, (3, 3, 0, 0), 0, []),
  (23, (2, 2, 0, 0), 0, []),
  (24, (6, 37, 1, 0), 0, []),
  (27, (2, 1, 0, 0), 0, []),
  (28, (1, 0, 2, 0), nI 256, []),
  (31, (13, 61, 115, 1), 0, [(2, 24)]),
  (34, (8, 54, 0, 0), 0, []),
  (37, (2, 0, 2, 0), 0, []),
  (38, (2, 3, 0, 0), 0, []),
  (39, (1, 0, 0, 0), nI 0, []),
  (40, (13, 23, 96, 0), 0, [(3, 9)]),
  (43, (2, 1, 0, 0), 0, []),
  (44, (2, 0, 2, 0), 0, []),
  (45, (2, 3, 0, 0), 0, []),
  (46, (1, 0, 0, 0), nI 1, []),
  (47, (13, 23, 96, 0), 0, [(3, 9)]),
  (50, (13, 61, 115, 1), 0, [(2, 24)]),
  (53, (4, 0, 0, 0), 0, []),
  (54, (14, 0, 0, 0), 0, [])]
abbrev m_L_name : Nat := 119
/-- NameMapsLaw.hasPlace(LNameMaps;II)Z: 64 entries; loop heads [5, 67] -/
def co_L_hasPlace : List Ent := [(0, (1, 0, 0, 0), nI 0, []),
  (1, (3, 3, 0, 0), 0, []),
  (2, (1, 0, 0, 0), nI 0, []),
  (3, (3, 4, 1, 0), 0, []),
  (5, (0, 5, 0, 0), 0, []),
  (5, (2, 4, 1, 0), 0, []),
  (7, (2, 0, 2, 0), 0, []),
  (8, (1, 0, 0, 0), nI 2, []),
  (9, (13, 13, 102, 0), 0, [(2, 9)]),
  (12, (7, 113, 3, 0), 0, []),
  (15, (2, 0, 2, 0), 0, []),
  (16, (2, 4, 1, 0), 0, []),
  (18, (1, 0, 1, 0), nI 6, []),
  (20, (13, 23, 96, 0), 0, [(3, 9)]),
  (23, (1, 0, 0, 0), nI 1, []),
  (24, (7, 61, 1, 0), 0, []),
  (27, (2, 1, 0, 0), 0, []),
  (28, (2, 0, 2, 0), 0, []),
  (29, (2, 4, 1, 0), 0, []),
  (31, (1, 0, 0, 0), nI 0, []),
  (32, (13, 23, 96, 0), 0, [(3, 9)]),
  (35, (7, 61, 2, 0), 0, []),
  (38, (2, 1, 0, 0), 0, []),
  (39, (2, 0, 2, 0), 0, []),
  (40, (2, 4, 1, 0), 0, []),
  (42, (1, 0, 0, 0), nI 0, []),
  (43, (13, 23, 96, 0), 0, [(3, 9)]),
  (46, (2, 0, 2, 0), 0, []),
  (47, (2, 4, 1, 0), 0, []),
  (49, (1, 0, 0, 0), nI 1, []),
  (50, (13, 23, 96, 0), 0, [(3, 9)]),
  (53, (4, 0, 0, 0), 0, []),
  (54, (7, 61, 3, 0), 0, []),
  (57, (1, 0, 0, 0), nI 1, []),
  (58, (8, 62, 0, 0), 0, []),
  (61, (1, 0, 0, 0), nI 0, []),
  (62, (3, 5, 1, 0), 0, []),
  (64, (1, 0, 0, 0), nI 0, []),
  (65, (3, 6, 1, 0), 0, []),
  (67, (0, 7, 0, 0), 0, []),
  (67, (2, 6, 1, 0), 0, []),
  (69, (1, 0, 0, 0), nI 3, []),
  (70, (7, 107, 3, 0), 0, []),
  (73, (2, 3, 0, 0), 0, []),
  (74, (6, 95, 1, 0), 0, []),
  (77, (2, 5, 1, 0), 0, []),
  (79, (6, 99, 0, 0), 0, []),
  (82, (2, 0, 2, 0), 0, []),
  (83, (2, 4, 1, 0), 0, []),
  (85, (2, 6, 1, 0), 0, []),
  (87, (1, 0, 0, 0), nI 0, []),
  (88, (13, 26, 97, 0), 0, [(4, 9)]),
  (91, (2, 2, 0, 0), 0, []),
  (92, (7, 99, 1, 0), 0, []),
  (95, (1, 0, 0, 0), nI 1, []),
  (96, (8, 100, 0, 0), 0, []),
  (99, (1, 0, 0, 0), nI 0, []),
  (100, (3, 3, 0, 0), 0, []),
  (101, (5, 6, 0, 0), nI 1, []),
  (104, (8, 67, 0, 0), 0, []),
  (107, (5, 4, 0, 0), nI 1, []),
  (110, (8, 5, 0, 0), 0, []),
  (113, (2, 3, 0, 0), 0, []),
  (114, (14, 0, 0, 0), 0, [])]
abbrev m_L_hasPlace : Nat := 120
/-- NameMapsLaw.areRouters(LNameMaps;)Z: 123 entries; loop heads [6, 92, 102] -/
def co_L_areRouters : List Ent := [(0, (1, 0, 0, 0), nI 0, []),
  (1, (3, 1, 0, 0), 0, []),
  (2, (1, 0, 0, 0), nI 1, []),
  (3, (3, 2, 0, 0), 0, []),
  (4, (1, 0, 0, 0), nI 0, []),
  (5, (3, 3, 0, 0), 0, []),
  (6, (0, 4, 0, 0), 0, []),
  (6, (2, 3, 0, 0), 0, []),
  (7, (2, 0, 2, 0), 0, []),
  (8, (1, 0, 0, 0), nI 3, []),
  (9, (13, 13, 102, 0), 0, [(2, 9)]),
  (12, (7, 190, 3, 0), 0, []),
  (15, (2, 2, 0, 0), 0, []),
  (16, (6, 190, 0, 0), 0, []),
  (19, (2, 0, 2, 0), 0, []),
  (20, (2, 3, 0, 0), 0, []),
  (21, (1, 0, 0, 0), nI 0, []),
  (22, (13, 30, 98, 0), 0, [(3, 9)]),
  (25, (3, 4, 1, 0), 0, []),
  (27, (2, 1, 0, 0), 0, []),
  (28, (2, 4, 1, 0), 0, []),
  (30, (4, 0, 0, 0), 0, []),
  (31, (3, 1, 0, 0), 0, []),
  (32, (2, 4, 1, 0), 0, []),
  (34, (1, 0, 0, 0), nI 5, []),
  (35, (7, 87, 4, 0), 0, []),
  (38, (2, 0, 2, 0), 0, []),
  (39, (2, 3, 0, 0), 0, []),
  (40, (1, 0, 0, 0), nI 4, []),
  (41, (13, 30, 98, 0), 0, [(3, 9)]),
  (44, (2, 0, 2, 0), 0, []),
  (45, (2, 3, 0, 0), 0, []),
  (46, (1, 0, 0, 0), nI 3, []),
  (47, (13, 30, 98, 0), 0, [(3, 9)]),
  (50, (7, 87, 4, 0), 0, []),
  (53, (2, 0, 2, 0), 0, []),
  (54, (2, 3, 0, 0), 0, []),
  (55, (1, 0, 0, 0), nI 2, []),
  (56, (13, 30, 98, 0), 0, [(3, 9)]),
  (59, (2, 0, 2, 0), 0, []),
  (60, (2, 3, 0, 0), 0, []),
  (61, (1, 0, 0, 0), nI 1, []),
  (62, (13, 30, 98, 0), 0, [(3, 9)]),
  (65, (7, 87, 2, 0), 0, []),
  (68, (2, 0, 2, 0), 0, []),
  (69, (2, 3, 0, 0), 0, []),
  (70, (1, 0, 0, 0), nI 5, []),
  (71, (13, 30, 98, 0), 0, [(3, 9)]),
  (74, (2, 0, 2, 0), 0, []),
  (75, (2, 3, 0, 0), 0, []),
  (76, (1, 0, 0, 0), nI 3, []),
  (77, (13, 30, 98, 0), 0, [(3, 9)]),
  (80, (7, 87, 4, 0), 0, []),
  (83, (1, 0, 0, 0), nI 1, []),
  (84, (8, 88, 0, 0), 0, []),
  (87, (1, 0, 0, 0), nI 0, []),
  (88, (3, 2, 0, 0), 0, []),
  (89, (1, 0, 0, 0), nI 0, []),
  (90, (3, 5, 1, 0), 0, []),
  (92, (0, 6, 0, 0), 0, []),
  (92, (2, 5, 1, 0), 0, []),
  (94, (2, 4, 1, 0), 0, []),
  (96, (7, 184, 3, 0), 0, []),
  (99, (1, 0, 0, 0), nI 0, []),
  (100, (3, 6, 1, 0), 0, []),
  (102, (0, 7, 0, 0), 0, []),
  (102, (2, 6, 1, 0), 0, []),
  (104, (2, 5, 1, 0), 0, []),
  (106, (7, 144, 3, 0), 0, []),
  (109, (2, 2, 0, 0), 0, []),
  (110, (6, 136, 0, 0), 0, []),
  (113, (2, 0, 2, 0), 0, []),
  (114, (2, 3, 0, 0), 0, []),
  (115, (2, 6, 1, 0), 0, []),
  (117, (1, 0, 0, 0), nI 0, []),
  (118, (13, 33, 99, 0), 0, [(4, 9)]),
  (121, (2, 0, 2, 0), 0, []),
  (122, (2, 3, 0, 0), 0, []),
  (123, (2, 5, 1, 0), 0, []),
  (125, (1, 0, 0, 0), nI 0, []),
  (126, (13, 33, 99, 0), 0, [(4, 9)]),
  (129, (7, 136, 0, 0), 0, []),
  (132, (1, 0, 0, 0), nI 1, []),
  (133, (8, 137, 0, 0), 0, []),
  (136, (1, 0, 0, 0), nI 0, []),
  (137, (3, 2, 0, 0), 0, []),
  (138, (5, 6, 0, 0), nI 1, []),
  (141, (8, 102, 0, 0), 0, []),
  (144, (2, 2, 0, 0), 0, []),
  (145, (6, 176, 0, 0), 0, []),
  (148, (2, 0, 2, 0), 0, []),
  (149, (2, 3, 0, 0), 0, []),
  (150, (2, 5, 1, 0), 0, []),
  (152, (1, 0, 0, 0), nI 1, []),
  (153, (13, 33, 99, 0), 0, [(4, 9)]),
  (156, (2, 0, 2, 0), 0, []),
  (157, (2, 0, 2, 0), 0, []),
  (158, (2, 3, 0, 0), 0, []),
  (159, (2, 5, 1, 0), 0, []),
  (161, (1, 0, 0, 0), nI 0, []),
  (162, (13, 33, 99, 0), 0, [(4, 9)]),
  (165, (1, 0, 0, 0), nI 3, []),
  (166, (13, 23, 96, 0), 0, [(3, 9)]),
  (169, (7, 176, 4, 0), 0, []),
  (172, (1, 0, 0, 0), nI 1, []),
  (173, (8, 177, 0, 0), 0, []),
  (176, (1, 0, 0, 0), nI 0, []),
  (177, (3, 2, 0, 0), 0, []),
  (178, (5, 5, 0, 0), nI 1, []),
  (181, (8, 92, 0, 0), 0, []),
  (184, (5, 3, 0, 0), nI 1, []),
  (187, (8, 6, 0, 0), 0, []),
  (190, (2, 2, 0, 0), 0, []),
  (191, (6, 207, 0, 0), 0, []),
  (194, (2, 1, 0, 0), 0, []),
  (195, (2, 0, 2, 0), 0, []),
  (196, (1, 0, 0, 0), nI 5, []),
  (197, (13, 13, 102, 0), 0, [(2, 9)]),
  (200, (7, 207, 1, 0), 0, []),
  (203, (1, 0, 0, 0), nI 1, []),
  (204, (8, 208, 0, 0), 0, []),
  (207, (1, 0, 0, 0), nI 0, []),
  (208, (14, 0, 0, 0), 0, [])]
abbrev m_L_areRouters : Nat := 121
/-- NameMapsLaw.areEnding(LNameMaps;)Z: 98 entries; loop heads [4, 59] -/
def co_L_areEnding : List Ent := [(0, (1, 0, 0, 0), nI 0, []),
  (1, (3, 1, 0, 0), 0, []),
  (2, (1, 0, 0, 0), nI 0, []),
  (3, (3, 2, 0, 0), 0, []),
  (4, (0, 3, 0, 0), 0, []),
  (4, (2, 2, 0, 0), 0, []),
  (5, (2, 0, 2, 0), 0, []),
  (6, (1, 0, 0, 0), nI 2, []),
  (7, (13, 13, 102, 0), 0, [(2, 9)]),
  (10, (7, 41, 3, 0), 0, []),
  (13, (2, 1, 0, 0), 0, []),
  (14, (2, 0, 2, 0), 0, []),
  (15, (2, 2, 0, 0), 0, []),
  (16, (1, 0, 0, 0), nI 4, []),
  (17, (13, 23, 96, 0), 0, [(3, 9)]),
  (20, (2, 0, 2, 0), 0, []),
  (21, (1, 0, 0, 0), nI 0, []),
  (22, (13, 13, 102, 0), 0, [(2, 9)]),
  (25, (7, 32, 5, 0), 0, []),
  (28, (1, 0, 0, 0), nI 1, []),
  (29, (8, 33, 0, 0), 0, []),
  (32, (1, 0, 0, 0), nI 0, []),
  (33, (4, 0, 0, 0), 0, []),
  (34, (3, 1, 0, 0), 0, []),
  (35, (5, 2, 0, 0), nI 1, []),
  (38, (8, 4, 0, 0), 0, []),
  (41, (2, 0, 2, 0), 0, []),
  (42, (2, 1, 0, 0), 0, []),
  (43, (13, 111, 101, 0), 0, [(2, 9)]),
  (46, (1, 0, 1, 0), (-5), []),
  (48, (7, 55, 1, 0), 0, []),
  (51, (1, 0, 0, 0), nI 1, []),
  (52, (8, 56, 0, 0), 0, []),
  (55, (1, 0, 0, 0), nI 0, []),
  (56, (3, 2, 0, 0), 0, []),
  (57, (1, 0, 0, 0), nI 0, []),
  (58, (3, 3, 0, 0), 0, []),
  (59, (0, 4, 0, 0), 0, []),
  (59, (2, 3, 0, 0), 0, []),
  (60, (2, 1, 0, 0), 0, []),
  (61, (7, 170, 3, 0), 0, []),
  (64, (2, 2, 0, 0), 0, []),
  (65, (6, 170, 0, 0), 0, []),
  (68, (2, 0, 2, 0), 0, []),
  (69, (2, 3, 0, 0), 0, []),
  (70, (13, 111, 101, 0), 0, [(2, 9)]),
  (73, (3, 4, 1, 0), 0, []),
  (75, (2, 3, 0, 0), 0, []),
  (76, (6, 84, 1, 0), 0, []),
  (79, (2, 4, 1, 0), 0, []),
  (81, (8, 91, 0, 0), 0, []),
  (84, (2, 0, 2, 0), 0, []),
  (85, (2, 3, 0, 0), 0, []),
  (86, (1, 0, 0, 0), nI 1, []),
  (87, (4, 1, 0, 0), 0, []),
  (88, (13, 111, 101, 0), 0, [(2, 9)]),
  (91, (3, 5, 1, 0), 0, []),
  (93, (2, 4, 1, 0), 0, []),
  (95, (6, 162, 2, 0), 0, []),
  (98, (2, 0, 2, 0), 0, []),
  (99, (2, 4, 1, 0), 0, []),
  (101, (1, 0, 0, 0), nI 4, []),
  (102, (13, 23, 96, 0), 0, [(3, 9)]),
  (105, (2, 0, 2, 0), 0, []),
  (106, (1, 0, 0, 0), nI 0, []),
  (107, (13, 13, 102, 0), 0, [(2, 9)]),
  (110, (7, 162, 5, 0), 0, []),
  (113, (2, 3, 0, 0), 0, []),
  (114, (6, 158, 0, 0), 0, []),
  (117, (2, 0, 2, 0), 0, []),
  (118, (2, 5, 1, 0), 0, []),
  (120, (1, 0, 0, 0), nI 4, []),
  (121, (13, 23, 96, 0), 0, [(3, 9)]),
  (124, (2, 0, 2, 0), 0, []),
  (125, (2, 4, 1, 0), 0, []),
  (127, (1, 0, 0, 0), nI 4, []),
  (128, (13, 23, 96, 0), 0, [(3, 9)]),
  (131, (7, 158, 2, 0), 0, []),
  (134, (2, 0, 2, 0), 0, []),
  (135, (2, 5, 1, 0), 0, []),
  (137, (1, 0, 0, 0), nI 4, []),
  (138, (13, 23, 96, 0), 0, [(3, 9)]),
  (141, (2, 0, 2, 0), 0, []),
  (142, (2, 4, 1, 0), 0, []),
  (144, (1, 0, 0, 0), nI 4, []),
  (145, (13, 23, 96, 0), 0, [(3, 9)]),
  (148, (7, 162, 1, 0), 0, []),
  (151, (2, 5, 1, 0), 0, []),
  (153, (2, 4, 1, 0), 0, []),
  (155, (7, 162, 3, 0), 0, []),
  (158, (1, 0, 0, 0), nI 1, []),
  (159, (8, 163, 0, 0), 0, []),
  (162, (1, 0, 0, 0), nI 0, []),
  (163, (3, 2, 0, 0), 0, []),
  (164, (5, 3, 0, 0), nI 1, []),
  (167, (8, 59, 0, 0), 0, []),
  (170, (2, 2, 0, 0), 0, []),
  (171, (14, 0, 0, 0), 0, [])]
abbrev m_L_areEnding : Nat := 122
/-- NameMapsLaw.view(LNameMaps;)J: 158 entries; loop heads [6, 33, 45, 81, 93, 124, 166, 178, 209, 223] -/
def co_L_view : List Ent := [(0, (26, 9, 0, 0), 7, []),
  (3, (32, 1, 0, 0), 0, []),
  (4, (1, 0, 0, 0), nI 0, []),
  (5, (3, 3, 0, 0), 0, []),
  (6, (0, 4, 0, 0), 0, []),
  (6, (2, 3, 0, 0), 0, []),
  (7, (1, 0, 1, 0), nI 11, []),
  (9, (7, 31, 3, 0), 0, []),
  (12, (26, 11, 0, 0), 31, []),
  (15, (31, 1, 0, 0), 0, []),
  (16, (28, 0, 0, 0), 0, []),
  (17, (2, 0, 2, 0), 0, []),
  (18, (2, 3, 0, 0), 0, []),
  (19, (13, 13, 102, 0), 0, [(2, 9)]),
  (22, (27, 0, 0, 0), 0, []),
  (23, (29, 0, 0, 0), 0, []),
  (24, (32, 1, 0, 0), 0, []),
  (25, (5, 3, 0, 0), nI 1, []),
  (28, (8, 6, 0, 0), 0, []),
  (31, (1, 0, 0, 0), nI 0, []),
  (32, (3, 3, 0, 0), 0, []),
  (33, (0, 4, 0, 0), 0, []),
  (33, (2, 3, 0, 0), 0, []),
  (34, (2, 0, 2, 0), 0, []),
  (35, (1, 0, 0, 0), nI 1, []),
  (36, (13, 13, 102, 0), 0, [(2, 9)]),
  (39, (7, 79, 3, 0), 0, []),
  (42, (1, 0, 0, 0), nI 0, []),
  (43, (3, 4, 1, 0), 0, []),
  (45, (0, 5, 0, 0), 0, []),
  (45, (2, 4, 1, 0), 0, []),
  (47, (1, 0, 1, 0), nI 6, []),
  (49, (7, 73, 3, 0), 0, []),
  (52, (26, 11, 0, 0), 31, []),
  (55, (31, 1, 0, 0), 0, []),
  (56, (28, 0, 0, 0), 0, []),
  (57, (2, 0, 2, 0), 0, []),
  (58, (2, 3, 0, 0), 0, []),
  (59, (2, 4, 1, 0), 0, []),
  (61, (13, 19, 95, 0), 0, [(3, 9)]),
  (64, (27, 0, 0, 0), 0, []),
  (65, (29, 0, 0, 0), 0, []),
  (66, (32, 1, 0, 0), 0, []),
  (67, (5, 4, 0, 0), nI 1, []),
  (70, (8, 45, 0, 0), 0, []),
  (73, (5, 3, 0, 0), nI 1, []),
  (76, (8, 33, 0, 0), 0, []),
  (79, (1, 0, 0, 0), nI 0, []),
  (80, (3, 3, 0, 0), 0, []),
  (81, (0, 4, 0, 0), 0, []),
  (81, (2, 3, 0, 0), 0, []),
  (82, (2, 0, 2, 0), 0, []),
  (83, (1, 0, 0, 0), nI 2, []),
  (84, (13, 13, 102, 0), 0, [(2, 9)]),
  (87, (7, 164, 3, 0), 0, []),
  (90, (1, 0, 0, 0), nI 0, []),
  (91, (3, 4, 1, 0), 0, []),
  (93, (0, 5, 0, 0), 0, []),
  (93, (2, 4, 1, 0), 0, []),
  (95, (1, 0, 1, 0), nI 8, []),
  (97, (7, 121, 3, 0), 0, []),
  (100, (26, 11, 0, 0), 31, []),
  (103, (31, 1, 0, 0), 0, []),
  (104, (28, 0, 0, 0), 0, []),
  (105, (2, 0, 2, 0), 0, []),
  (106, (2, 3, 0, 0), 0, []),
  (107, (2, 4, 1, 0), 0, []),
  (109, (13, 23, 96, 0), 0, [(3, 9)]),
  (112, (27, 0, 0, 0), 0, []),
  (113, (29, 0, 0, 0), 0, []),
  (114, (32, 1, 0, 0), 0, []),
  (115, (5, 4, 0, 0), nI 1, []),
  (118, (8, 93, 0, 0), 0, []),
  (121, (1, 0, 0, 0), nI 0, []),
  (122, (3, 4, 1, 0), 0, []),
  (124, (0, 5, 0, 0), 0, []),
  (124, (2, 4, 1, 0), 0, []),
  (126, (1, 0, 1, 0), nI 9, []),
  (128, (7, 158, 3, 0), 0, []),
  (131, (26, 11, 0, 0), 31, []),
  (134, (31, 1, 0, 0), 0, []),
  (135, (28, 0, 0, 0), 0, []),
  (136, (2, 0, 2, 0), 0, []),
  (137, (2, 3, 0, 0), 0, []),
  (138, (2, 4, 1, 0), 0, []),
  (140, (1, 0, 0, 0), nI 3, []),
  (141, (4, 3, 0, 0), 0, []),
  (142, (2, 4, 1, 0), 0, []),
  (144, (1, 0, 0, 0), nI 3, []),
  (145, (4, 4, 0, 0), 0, []),
  (146, (13, 26, 97, 0), 0, [(4, 9)]),
  (149, (27, 0, 0, 0), 0, []),
  (150, (29, 0, 0, 0), 0, []),
  (151, (32, 1, 0, 0), 0, []),
  (152, (5, 4, 0, 0), nI 1, []),
  (155, (8, 124, 0, 0), 0, []),
  (158, (5, 3, 0, 0), nI 1, []),
  (161, (8, 81, 0, 0), 0, []),
  (164, (1, 0, 0, 0), nI 0, []),
  (165, (3, 3, 0, 0), 0, []),
  (166, (0, 4, 0, 0), 0, []),
  (166, (2, 3, 0, 0), 0, []),
  (167, (2, 0, 2, 0), 0, []),
  (168, (1, 0, 0, 0), nI 3, []),
  (169, (13, 13, 102, 0), 0, [(2, 9)]),
  (172, (7, 264, 3, 0), 0, []),
  (175, (1, 0, 0, 0), nI 0, []),
  (176, (3, 4, 1, 0), 0, []),
  (178, (0, 5, 0, 0), 0, []),
  (178, (2, 4, 1, 0), 0, []),
  (180, (1, 0, 1, 0), nI 6, []),
  (182, (7, 206, 3, 0), 0, []),
  (185, (26, 11, 0, 0), 31, []),
  (188, (31, 1, 0, 0), 0, []),
  (189, (28, 0, 0, 0), 0, []),
  (190, (2, 0, 2, 0), 0, []),
  (191, (2, 3, 0, 0), 0, []),
  (192, (2, 4, 1, 0), 0, []),
  (194, (13, 30, 98, 0), 0, [(3, 9)]),
  (197, (27, 0, 0, 0), 0, []),
  (198, (29, 0, 0, 0), 0, []),
  (199, (32, 1, 0, 0), 0, []),
  (200, (5, 4, 0, 0), nI 1, []),
  (203, (8, 178, 0, 0), 0, []),
  (206, (1, 0, 0, 0), nI 0, []),
  (207, (3, 4, 1, 0), 0, []),
  (209, (0, 5, 0, 0), 0, []),
  (209, (2, 4, 1, 0), 0, []),
  (211, (2, 0, 2, 0), 0, []),
  (212, (2, 3, 0, 0), 0, []),
  (213, (1, 0, 0, 0), nI 0, []),
  (214, (13, 30, 98, 0), 0, [(3, 9)]),
  (217, (7, 258, 3, 0), 0, []),
  (220, (1, 0, 0, 0), nI 0, []),
  (221, (3, 5, 1, 0), 0, []),
  (223, (0, 6, 0, 0), 0, []),
  (223, (2, 5, 1, 0), 0, []),
  (225, (1, 0, 0, 0), nI 5, []),
  (226, (7, 252, 3, 0), 0, []),
  (229, (26, 11, 0, 0), 31, []),
  (232, (31, 1, 0, 0), 0, []),
  (233, (28, 0, 0, 0), 0, []),
  (234, (2, 0, 2, 0), 0, []),
  (235, (2, 3, 0, 0), 0, []),
  (236, (2, 4, 1, 0), 0, []),
  (238, (2, 5, 1, 0), 0, []),
  (240, (13, 33, 99, 0), 0, [(4, 9)]),
  (243, (27, 0, 0, 0), 0, []),
  (244, (29, 0, 0, 0), 0, []),
  (245, (32, 1, 0, 0), 0, []),
  (246, (5, 5, 0, 0), nI 1, []),
  (249, (8, 223, 0, 0), 0, []),
  (252, (5, 4, 0, 0), nI 1, []),
  (255, (8, 209, 0, 0), 0, []),
  (258, (5, 3, 0, 0), nI 1, []),
  (261, (8, 166, 0, 0), 0, []),
  (264, (31, 1, 0, 0), 0, []),
  (265, (33, 0, 0, 0), 0, [])]
abbrev m_L_view : Nat := 123
/-- NameMapsLaw.isSent(LNameMaps;III)Z: 143 entries; loop heads [] -/
def co_L_isSent : List Ent := [(0, (2, 1, 0, 0), 0, []),
  (1, (2, 0, 2, 0), 0, []),
  (2, (1, 0, 0, 0), nI 3, []),
  (3, (13, 13, 102, 0), 0, [(2, 9)]),
  (6, (7, 26, 2, 0), 0, []),
  (9, (2, 0, 2, 0), 0, []),
  (10, (2, 1, 0, 0), 0, []),
  (11, (2, 2, 0, 0), 0, []),
  (12, (2, 3, 0, 0), 0, []),
  (13, (13, 49, 89, 0), 0, [(4, 9)]),
  (16, (1, 0, 0, 0), (-1), []),
  (17, (7, 24, 1, 0), 0, []),
  (20, (1, 0, 0, 0), nI 1, []),
  (21, (8, 25, 0, 0), 0, []),
  (24, (1, 0, 0, 0), nI 0, []),
  (25, (14, 0, 0, 0), 0, []),
  (26, (2, 0, 2, 0), 0, []),
  (27, (25, 90, 123, 0), 0, [(1, 0)]),
  (30, (32, 4, 1, 0), 0, []),
  (32, (2, 0, 2, 0), 0, []),
  (33, (2, 2, 0, 0), 0, []),
  (34, (13, 94, 100, 0), 0, [(2, 9)]),
  (37, (3, 6, 1, 0), 0, []),
  (39, (2, 0, 2, 0), 0, []),
  (40, (2, 1, 0, 0), 0, []),
  (41, (2, 2, 0, 0), 0, []),
  (42, (2, 3, 0, 0), 0, []),
  (43, (1, 0, 0, 0), nI 0, []),
  (44, (13, 97, 103, 0), 0, [(5, 9)]),
  (47, (3, 7, 1, 0), 0, []),
  (49, (2, 0, 2, 0), 0, []),
  (50, (2, 1, 0, 0), 0, []),
  (51, (2, 2, 0, 0), 0, []),
  (52, (2, 3, 0, 0), 0, []),
  (53, (13, 101, 104, 0), 0, [(4, 9)]),
  (56, (3, 8, 1, 0), 0, []),
  (58, (2, 0, 2, 0), 0, []),
  (59, (25, 90, 123, 0), 0, [(1, 0)]),
  (62, (31, 4, 1, 0), 0, []),
  (64, (30, 0, 0, 0), 0, []),
  (65, (6, 70, 0, 0), 0, []),
  (68, (1, 0, 0, 0), nI 0, []),
  (69, (14, 0, 0, 0), 0, []),
  (70, (2, 0, 2, 0), 0, []),
  (71, (2, 1, 0, 0), 0, []),
  (72, (1, 0, 0, 0), nI 1, []),
  (73, (13, 30, 98, 0), 0, [(3, 9)]),
  (76, (3, 9, 1, 0), 0, []),
  (78, (2, 0, 2, 0), 0, []),
  (79, (2, 1, 0, 0), 0, []),
  (80, (2, 2, 0, 0), 0, []),
  (81, (2, 3, 0, 0), 0, []),
  (82, (13, 49, 89, 0), 0, [(4, 9)]),
  (85, (3, 10, 1, 0), 0, []),
  (87, (2, 10, 1, 0), 0, []),
  (89, (2, 7, 1, 0), 0, []),
  (91, (7, 118, 1, 0), 0, []),
  (94, (2, 0, 2, 0), 0, []),
  (95, (2, 1, 0, 0), 0, []),
  (96, (1, 0, 0, 0), nI 1, []),
  (97, (13, 30, 98, 0), 0, [(3, 9)]),
  (100, (2, 9, 1, 0), 0, []),
  (102, (4, 1, 0, 0), 0, []),
  (103, (2, 8, 1, 0), 0, []),
  (105, (7, 118, 1, 0), 0, []),
  (108, (2, 8, 1, 0), 0, []),
  (110, (1, 0, 0, 0), nI 2, []),
  (111, (7, 118, 4, 0), 0, []),
  (114, (1, 0, 0, 0), nI 1, []),
  (115, (8, 119, 0, 0), 0, []),
  (118, (1, 0, 0, 0), nI 0, []),
  (119, (3, 11, 1, 0), 0, []),
  (121, (2, 11, 1, 0), 0, []),
  (123, (6, 169, 0, 0), 0, []),
  (126, (2, 10, 1, 0), 0, []),
  (128, (1, 0, 1, 0), nI 32, []),
  (130, (7, 146, 3, 0), 0, []),
  (133, (2, 0, 2, 0), 0, []),
  (134, (2, 2, 0, 0), 0, []),
  (135, (2, 10, 1, 0), 0, []),
  (137, (13, 104, 120, 1), 0, [(3, 24)]),
  (140, (6, 169, 0, 0), 0, []),
  (143, (8, 165, 0, 0), 0, []),
  (146, (2, 6, 1, 0), 0, []),
  (148, (1, 0, 1, 0), (-5), []),
  (150, (7, 169, 1, 0), 0, []),
  (153, (2, 10, 1, 0), 0, []),
  (155, (1, 0, 1, 0), nI 32, []),
  (157, (2, 2, 0, 0), 0, []),
  (158, (1, 0, 1, 0), nI 32, []),
  (160, (4, 3, 0, 0), 0, []),
  (161, (4, 0, 0, 0), 0, []),
  (162, (7, 169, 1, 0), 0, []),
  (165, (1, 0, 0, 0), nI 1, []),
  (166, (8, 170, 0, 0), 0, []),
  (169, (1, 0, 0, 0), nI 0, []),
  (170, (3, 11, 1, 0), 0, []),
  (172, (2, 11, 1, 0), 0, []),
  (174, (6, 198, 0, 0), 0, []),
  (177, (2, 0, 2, 0), 0, []),
  (178, (13, 108, 92, 0), 0, [(1, 9)]),
  (181, (6, 198, 2, 0), 0, []),
  (184, (2, 0, 2, 0), 0, []),
  (185, (25, 90, 123, 0), 0, [(1, 0)]),
  (188, (31, 4, 1, 0), 0, []),
  (190, (30, 0, 0, 0), 0, []),
  (191, (6, 198, 1, 0), 0, []),
  (194, (1, 0, 0, 0), nI 1, []),
  (195, (8, 199, 0, 0), 0, []),
  (198, (1, 0, 0, 0), nI 0, []),
  (199, (3, 11, 1, 0), 0, []),
  (201, (2, 11, 1, 0), 0, []),
  (203, (6, 259, 0, 0), 0, []),
  (206, (2, 6, 1, 0), 0, []),
  (208, (1, 0, 1, 0), (-5), []),
  (210, (7, 255, 0, 0), 0, []),
  (213, (2, 0, 2, 0), 0, []),
  (214, (2, 6, 1, 0), 0, []),
  (216, (1, 0, 1, 0), nI 6, []),
  (218, (13, 23, 96, 0), 0, [(3, 9)]),
  (221, (1, 0, 0, 0), nI 1, []),
  (222, (7, 259, 1, 0), 0, []),
  (225, (2, 2, 0, 0), 0, []),
  (226, (2, 0, 2, 0), 0, []),
  (227, (2, 6, 1, 0), 0, []),
  (229, (1, 0, 0, 0), nI 0, []),
  (230, (13, 23, 96, 0), 0, [(3, 9)]),
  (233, (7, 259, 2, 0), 0, []),
  (236, (2, 2, 0, 0), 0, []),
  (237, (2, 0, 2, 0), 0, []),
  (238, (2, 6, 1, 0), 0, []),
  (240, (1, 0, 0, 0), nI 0, []),
  (241, (13, 23, 96, 0), 0, [(3, 9)]),
  (244, (2, 0, 2, 0), 0, []),
  (245, (2, 6, 1, 0), 0, []),
  (247, (1, 0, 0, 0), nI 1, []),
  (248, (13, 23, 96, 0), 0, [(3, 9)]),
  (251, (4, 0, 0, 0), 0, []),
  (252, (7, 259, 3, 0), 0, []),
  (255, (1, 0, 0, 0), nI 1, []),
  (256, (8, 260, 0, 0), 0, []),
  (259, (1, 0, 0, 0), nI 0, []),
  (260, (14, 0, 0, 0), 0, [])]
abbrev m_L_isSent : Nat := 124
/-- NameMapsLaw.isUndone(LNameMaps;IIIIJ)Z: 31 entries; loop heads [] -/
def co_L_isUndone : List Ent := [(0, (2, 0, 2, 0), 0, []),
  (1, (1, 0, 1, 0), nI 11, []),
  (3, (13, 13, 102, 0), 0, [(2, 9)]),
  (6, (3, 7, 1, 0), 0, []),
  (8, (2, 0, 2, 0), 0, []),
  (9, (13, 108, 92, 0), 0, [(1, 9)]),
  (12, (2, 7, 1, 0), 0, []),
  (14, (1, 0, 0, 0), nI 1, []),
  (15, (4, 1, 0, 0), 0, []),
  (16, (7, 56, 1, 0), 0, []),
  (19, (2, 0, 2, 0), 0, []),
  (20, (25, 90, 123, 0), 0, [(1, 0)]),
  (23, (31, 5, 1, 0), 0, []),
  (25, (30, 0, 0, 0), 0, []),
  (26, (6, 56, 1, 0), 0, []),
  (29, (2, 0, 2, 0), 0, []),
  (30, (2, 1, 0, 0), 0, []),
  (31, (2, 2, 0, 0), 0, []),
  (32, (2, 3, 0, 0), 0, []),
  (33, (13, 114, 118, 1), 0, [(4, 24)]),
  (36, (2, 4, 1, 0), 0, []),
  (38, (7, 56, 1, 0), 0, []),
  (41, (2, 0, 2, 0), 0, []),
  (42, (1, 0, 1, 0), nI 11, []),
  (44, (13, 13, 102, 0), 0, [(2, 9)]),
  (47, (2, 7, 1, 0), 0, []),
  (49, (7, 56, 1, 0), 0, []),
  (52, (1, 0, 0, 0), nI 1, []),
  (53, (8, 57, 0, 0), 0, []),
  (56, (1, 0, 0, 0), nI 0, []),
  (57, (14, 0, 0, 0), 0, [])]
abbrev m_L_isUndone : Nat := 125
/-- NameMapsLaw.isSaved(LNameMaps;II)Z: 49 entries; loop heads [] -/
def co_L_isSaved : List Ent := [(0, (2, 0, 2, 0), 0, []),
  (1, (25, 90, 123, 0), 0, [(1, 0)]),
  (4, (32, 3, 0, 0), 0, []),
  (5, (2, 0, 2, 0), 0, []),
  (6, (1, 0, 1, 0), nI 11, []),
  (8, (13, 13, 102, 0), 0, [(2, 9)]),
  (11, (3, 5, 1, 0), 0, []),
  (13, (2, 0, 2, 0), 0, []),
  (14, (2, 1, 0, 0), 0, []),
  (15, (1, 0, 0, 0), nI 1, []),
  (16, (4, 5, 0, 0), 0, []),
  (17, (13, 118, 93, 0), 0, [(2, 9)]),
  (20, (2, 0, 2, 0), 0, []),
  (21, (1, 0, 0, 0), nI 0, []),
  (22, (13, 13, 102, 0), 0, [(2, 9)]),
  (25, (7, 39, 1, 0), 0, []),
  (28, (2, 0, 2, 0), 0, []),
  (29, (1, 0, 1, 0), nI 11, []),
  (31, (13, 13, 102, 0), 0, [(2, 9)]),
  (34, (2, 5, 1, 0), 0, []),
  (36, (7, 41, 0, 0), 0, []),
  (39, (1, 0, 0, 0), nI 0, []),
  (40, (14, 0, 0, 0), 0, []),
  (41, (2, 0, 2, 0), 0, []),
  (42, (2, 2, 0, 0), 0, []),
  (43, (1, 0, 1, 0), nI 15, []),
  (45, (13, 61, 115, 1), 0, [(2, 24)]),
  (48, (2, 2, 0, 0), 0, []),
  (49, (2, 1, 0, 0), 0, []),
  (50, (13, 114, 118, 1), 0, [(4, 24)]),
  (53, (34, 0, 0, 0), 0, []),
  (54, (2, 0, 2, 0), 0, []),
  (55, (2, 1, 0, 0), 0, []),
  (56, (1, 0, 0, 0), nI 1, []),
  (57, (4, 5, 0, 0), 0, []),
  (58, (13, 55, 94, 0), 0, [(2, 9)]),
  (61, (2, 0, 2, 0), 0, []),
  (62, (1, 0, 0, 0), nI 0, []),
  (63, (13, 13, 102, 0), 0, [(2, 9)]),
  (66, (7, 82, 1, 0), 0, []),
  (69, (2, 0, 2, 0), 0, []),
  (70, (25, 90, 123, 0), 0, [(1, 0)]),
  (73, (31, 3, 0, 0), 0, []),
  (74, (30, 0, 0, 0), 0, []),
  (75, (6, 82, 1, 0), 0, []),
  (78, (1, 0, 0, 0), nI 1, []),
  (79, (8, 83, 0, 0), 0, []),
  (82, (1, 0, 0, 0), nI 0, []),
  (83, (14, 0, 0, 0), 0, [])]
abbrev m_L_isSaved : Nat := 126
/-- NameMapsLaw.law([I)Z: 185 entries; loop heads [34] -/
def cx_L_law_0 : List Ent := [(0, (21, 14, 9, 0), 0, []),
  (3, (15, 0, 0, 0), 0, []),
  (4, (24, 121, 80, 0), 0, [(1, 0)]),
  (7, (3, 1, 2, 0), 0, []),
  (8, (2, 1, 2, 0), 0, []),
  (9, (13, 69, 83, 0), 0, [(1, 9)]),
  (12, (34, 0, 0, 0), 0, []),
  (13, (2, 0, 2, 0), 0, []),
  (14, (19, 0, 0, 0), 0, []),
  (15, (1, 0, 0, 0), nI 3, []),
  (16, (4, 3, 0, 0), 0, []),
  (17, (1, 0, 1, 0), nI 36, []),
  (19, (7, 29, 3, 0), 0, []),
  (22, (2, 0, 2, 0), 0, []),
  (23, (19, 0, 0, 0), 0, []),
  (24, (1, 0, 0, 0), nI 3, []),
  (25, (4, 3, 0, 0), 0, []),
  (26, (8, 31, 0, 0), 0, []),
  (29, (1, 0, 1, 0), nI 36, []),
  (31, (3, 2, 0, 0), 0, []),
  (32, (1, 0, 0, 0), nI 0, []),
  (33, (3, 3, 0, 0), 0, []),
  (34, (0, 4, 0, 0), 0, []),
  (34, (2, 3, 0, 0), 0, []),
  (35, (2, 2, 0, 0), 0, []),
  (36, (7, 338, 3, 0), 0, []),
  (39, (2, 0, 2, 0), 0, []),
  (40, (1, 0, 0, 0), nI 3, []),
  (41, (2, 3, 0, 0), 0, []),
  (42, (4, 2, 0, 0), 0, [])]
def cx_L_law_1 : List Ent := [(43, (13, 122, 114, 1), 0, [(2, 24)]),
  (46, (3, 4, 1, 0), 0, []),
  (48, (2, 0, 2, 0), 0, []),
  (49, (1, 0, 0, 0), nI 3, []),
  (50, (2, 3, 0, 0), 0, []),
  (51, (4, 2, 0, 0), 0, []),
  (52, (1, 0, 0, 0), nI 1, []),
  (53, (4, 0, 0, 0), 0, []),
  (54, (13, 122, 114, 1), 0, [(2, 24)]),
  (57, (3, 5, 1, 0), 0, []),
  (59, (2, 0, 2, 0), 0, []),
  (60, (1, 0, 0, 0), nI 3, []),
  (61, (2, 3, 0, 0), 0, []),
  (62, (4, 2, 0, 0), 0, []),
  (63, (1, 0, 0, 0), nI 2, []),
  (64, (4, 0, 0, 0), 0, []),
  (65, (13, 122, 114, 1), 0, [(2, 24)]),
  (68, (3, 6, 1, 0), 0, []),
  (70, (2, 3, 0, 0), 0, []),
  (71, (1, 0, 0, 0), nI 2, []),
  (72, (7, 79, 3, 0), 0, []),
  (75, (1, 0, 0, 0), nI 1, []),
  (76, (8, 84, 0, 0), 0, []),
  (79, (2, 4, 1, 0), 0, []),
  (81, (1, 0, 1, 0), nI 15, []),
  (83, (4, 5, 0, 0), 0, []),
  (84, (3, 7, 1, 0), 0, []),
  (86, (2, 1, 2, 0), 0, []),
  (87, (25, 90, 123, 0), 0, [(1, 0)]),
  (90, (32, 8, 1, 0), 0, [])]
def cx_L_law_2 : List Ent := [(92, (2, 1, 2, 0), 0, []),
  (93, (1, 0, 1, 0), nI 11, []),
  (95, (13, 13, 102, 0), 0, [(2, 9)]),
  (98, (3, 10, 1, 0), 0, []),
  (100, (2, 1, 2, 0), 0, []),
  (101, (1, 0, 1, 0), nI 7, []),
  (103, (13, 13, 102, 0), 0, [(2, 9)]),
  (106, (3, 11, 1, 0), 0, []),
  (108, (2, 1, 2, 0), 0, []),
  (109, (1, 0, 1, 0), nI 6, []),
  (111, (13, 13, 102, 0), 0, [(2, 9)]),
  (114, (3, 12, 1, 0), 0, []),
  (116, (2, 7, 1, 0), 0, []),
  (118, (1, 0, 1, 0), nI 15, []),
  (120, (7, 137, 1, 0), 0, []),
  (123, (2, 6, 1, 0), 0, []),
  (125, (1, 0, 1, 0), nI 7, []),
  (127, (4, 5, 0, 0), 0, []),
  (128, (1, 0, 1, 0), nI 6, []),
  (130, (7, 137, 1, 0), 0, []),
  (133, (1, 0, 0, 0), nI 1, []),
  (134, (8, 138, 0, 0), 0, []),
  (137, (1, 0, 0, 0), nI 0, []),
  (138, (3, 13, 1, 0), 0, []),
  (140, (2, 1, 2, 0), 0, []),
  (141, (2, 7, 1, 0), 0, []),
  (143, (2, 5, 1, 0), 0, []),
  (145, (2, 6, 1, 0), 0, []),
  (147, (13, 114, 118, 1), 0, [(4, 24)]),
  (150, (3, 14, 1, 0), 0, [])]
def cx_L_law_3 : List Ent := [(152, (2, 14, 1, 0), 0, []),
  (154, (6, 180, 3, 0), 0, []),
  (157, (2, 1, 2, 0), 0, []),
  (158, (25, 90, 123, 0), 0, [(1, 0)]),
  (161, (31, 8, 1, 0), 0, []),
  (163, (30, 0, 0, 0), 0, []),
  (164, (6, 178, 1, 0), 0, []),
  (167, (2, 1, 2, 0), 0, []),
  (168, (1, 0, 1, 0), nI 11, []),
  (170, (13, 13, 102, 0), 0, [(2, 9)]),
  (173, (2, 10, 1, 0), 0, []),
  (175, (7, 230, 0, 0), 0, []),
  (178, (1, 0, 0, 0), nI 0, []),
  (179, (14, 0, 0, 0), 0, []),
  (180, (2, 1, 2, 0), 0, []),
  (181, (1, 0, 1, 0), nI 11, []),
  (183, (13, 13, 102, 0), 0, [(2, 9)]),
  (186, (2, 10, 1, 0), 0, []),
  (188, (1, 0, 0, 0), nI 5, []),
  (189, (7, 199, 3, 0), 0, []),
  (192, (2, 10, 1, 0), 0, []),
  (194, (1, 0, 0, 0), nI 1, []),
  (195, (4, 0, 0, 0), 0, []),
  (196, (8, 200, 0, 0), 0, []),
  (199, (1, 0, 0, 0), nI 5, []),
  (200, (7, 228, 1, 0), 0, []),
  (203, (2, 4, 1, 0), 0, []),
  (205, (1, 0, 1, 0), nI 16, []),
  (207, (4, 5, 0, 0), 0, []),
  (208, (6, 230, 1, 0), 0, [])]
def cx_L_law_4 : List Ent := [(211, (2, 1, 2, 0), 0, []),
  (212, (2, 7, 1, 0), 0, []),
  (214, (2, 5, 1, 0), 0, []),
  (216, (2, 6, 1, 0), 0, []),
  (218, (2, 14, 1, 0), 0, []),
  (220, (31, 8, 1, 0), 0, []),
  (222, (25, 126, 125, 0), 0, [(6, 0)]),
  (225, (6, 230, 1, 0), 0, []),
  (228, (1, 0, 0, 0), nI 0, []),
  (229, (14, 0, 0, 0), 0, []),
  (230, (2, 13, 1, 0), 0, []),
  (232, (6, 257, 1, 0), 0, []),
  (235, (2, 1, 2, 0), 0, []),
  (236, (1, 0, 1, 0), nI 7, []),
  (238, (13, 13, 102, 0), 0, [(2, 9)]),
  (241, (2, 11, 1, 0), 0, []),
  (243, (7, 276, 2, 0), 0, []),
  (246, (2, 1, 2, 0), 0, []),
  (247, (1, 0, 1, 0), nI 6, []),
  (249, (13, 13, 102, 0), 0, [(2, 9)]),
  (252, (2, 12, 1, 0), 0, []),
  (254, (7, 276, 2, 0), 0, []),
  (257, (2, 4, 1, 0), 0, []),
  (259, (1, 0, 1, 0), nI 96, []),
  (261, (4, 5, 0, 0), 0, []),
  (262, (6, 278, 1, 0), 0, []),
  (265, (2, 1, 2, 0), 0, []),
  (266, (2, 5, 1, 0), 0, []),
  (268, (2, 6, 1, 0), 0, []),
  (270, (25, 130, 126, 0), 0, [(3, 0)])]
def cx_L_law_5 : List Ent := [(273, (6, 278, 1, 0), 0, []),
  (276, (1, 0, 0, 0), nI 0, []),
  (277, (14, 0, 0, 0), 0, []),
  (278, (2, 4, 1, 0), 0, []),
  (280, (1, 0, 1, 0), nI 96, []),
  (282, (4, 5, 0, 0), 0, []),
  (283, (6, 316, 0, 0), 0, []),
  (286, (2, 1, 2, 0), 0, []),
  (287, (2, 5, 1, 0), 0, []),
  (289, (1, 0, 0, 0), nI 4, []),
  (290, (4, 8, 0, 0), 0, []),
  (291, (1, 0, 0, 0), nI 3, []),
  (292, (13, 61, 115, 1), 0, [(2, 24)]),
  (295, (2, 1, 2, 0), 0, []),
  (296, (2, 6, 1, 0), 0, []),
  (298, (13, 82, 119, 1), 0, [(2, 24)]),
  (301, (2, 6, 1, 0), 0, []),
  (303, (1, 0, 0, 0), nI 4, []),
  (304, (4, 8, 0, 0), 0, []),
  (305, (1, 0, 1, 0), nI 100, []),
  (307, (13, 61, 115, 1), 0, [(2, 24)]),
  (310, (25, 133, 124, 0), 0, [(4, 0)]),
  (313, (6, 330, 0, 0), 0, []),
  (316, (2, 1, 2, 0), 0, []),
  (317, (13, 137, 121, 1), 0, [(1, 24)]),
  (320, (6, 330, 0, 0), 0, []),
  (323, (2, 1, 2, 0), 0, []),
  (324, (13, 141, 122, 1), 0, [(1, 24)]),
  (327, (6, 332, 1, 0), 0, []),
  (330, (1, 0, 0, 0), nI 0, [])]
def cx_L_law_6 : List Ent := [(331, (14, 0, 0, 0), 0, []),
  (332, (5, 3, 0, 0), nI 1, []),
  (335, (8, 34, 0, 0), 0, []),
  (338, (1, 0, 0, 0), nI 1, []),
  (339, (14, 0, 0, 0), 0, [])]
def co_L_law : List Ent := cx_L_law_0 ++ (cx_L_law_1 ++ (cx_L_law_2 ++ (cx_L_law_3 ++ (cx_L_law_4 ++ (cx_L_law_5 ++ (cx_L_law_6))))))
abbrev m_L_law : Nat := 127
abbrev nSm : Nat := 123
def allCo : List (List Ent) := [co_X0_init, co_X1_init, co_X1_become, co_X1_copyFrom, co_X1_isAt, co_X1_has, co_X1_holds, co_X1_meets, co_X2_init, co_X2_become, co_X2_copyFrom, co_X2_isHolding, co_X2_property, co_X3_init, co_X3_row, co_X3_draft, co_X3_keepDraft, co_X3_takeLatest, co_X4_init, co_X4_start, co_X4_copyFrom, co_X4_isPlace, co_X4_property, co_X4_moveToFront, co_X4_drop, co_X4_dropEnded, co_X4_placeOfSite, co_X4_placeOfSmallest, co_X4_addMap, co_X5_init, co_X5_copyFrom, co_X6_init, co_X6_start, co_X6_copyFrom, co_X6_isRegistered, co_X6_isUp, co_X7_init, co_X7_copyFrom, co_X7_fill, co_X7_propertyOf, co_X7_isEmpty, co_X7_areEmpty, co_X7_have, co_X7_lowestPriority, co_X7_weightThatCounts, co_X7_placeFor, co_X8_init, co_X8_copyFrom, co_X8_isServer, co_X8_isSite, co_X8_isRouter, co_X8_newServer, co_X8_newSite, co_X8_newRouter, co_X8_fillSlot, co_X8_vacateSlot, co_X8_startRegistration, co_X8_endRegistration, co_X8_changeMapLife, co_X8_letPass, co_X8_emptyCache, co_X8_sendLetter, co_X8_placeByMap, co_X8_ask, co_X8_goByProxy, co_X8_homeOf, co_X8_homeOfSite, co_X8_hopsTo, co_X8_answerFor, co_X8_siteEndingAt, co_X8_sitesEndingAheadOf, co_X8_serverProperty, co_X8_childrenOf, co_X8_sitesAtHome, co_X8_siteProperty, co_X8_mapsOf, co_X8_totalOf, co_X8_sitesUp, co_X8_sumOverRouters, co_X8_namesWithAnswer, co_X9_init, co_X9_addServer, co_X9_addSite, co_X9_addRouter, co_X9_setSlot, co_X9_emptySlot, co_X9_register, co_X9_unregister, co_X9_setMapLife, co_X9_send, co_X9_pass, co_X9_forget, co_X9_undo, co_X9_save, co_X9_restore, co_X9_server, co_X9_site, co_X9_slot, co_X9_router, co_X9_map, co_X9_answer, co_X9_endingNext, co_X9_total, co_X9_wouldReach, co_X9_wouldAsk, co_X9_recorded, co_X9_isSave, co_X9_isSlot, co_X9_isName, co_X9_isFlow, co_X9_isPlaceOfSlot, co_X9_isBlock, co_J6_bitCount_0f7a4, co_J9_floorMod_7cf53, co_L_cell, co_L_up, co_L_size, co_L_any, co_L_turn, co_L_name, co_L_hasPlace, co_L_areRouters, co_L_areEnding]
/-- the methods with longs, behind the others -/
def allCl : List (List Ent) := [co_L_view, co_L_isSent, co_L_isUndone, co_L_isSaved, co_L_law]
/-- of each method: its answer (0 int, 1 boolean, 2 none) -/
def allRet : List Nat := [2, 2, 2, 2, 1, 1, 1, 1, 2, 2, 2, 1, 0, 2, 0, 2, 2, 2, 2, 2, 2, 1, 0, 2, 2, 2, 0, 0, 2, 2, 2, 2, 2, 2, 1, 1, 2, 2, 2, 0, 1, 1, 1, 0, 0, 0, 2, 2, 1, 1, 1, 0, 0, 0, 0, 0, 0, 0, 0, 0, 0, 0, 0, 1, 0, 0, 0, 0, 0, 0, 0, 0, 0, 0, 0, 0, 0, 0, 0, 0, 2, 0, 0, 0, 0, 0, 0, 0, 0, 0, 0, 0, 0, 0, 0, 0, 0, 0, 0, 0, 0, 0, 0, 0, 0, 0, 1, 1, 1, 1, 1, 1, 0, 0, 0, 0, 0, 0, 0, 0, 1, 1, 1, 3, 1, 1, 1, 1]
end
section
/-- words that any later state keeps -/
def isNest : Cond → Bool
  | .methodLinkNest _ _ _ _ => true
  | _ => false
def kw (w : Cond) : Bool := (w.onTables && w.keeps) || isNest w
def inT (w : Cond) : Prop := w ∈ lw_tbl ∧ kw w = true
theorem inT_at {w : Cond} (i : Nat) (h : lw_tbl[i]? = some w ∧ kw w = true) : inT w := ⟨List.mem_of_getElem? h.1, h.2⟩
def cnm : Nat → String := fun c => match c with
  | 0 => RX0
  | 1 => RX1
  | 2 => RX2
  | 3 => RX3
  | 4 => RX4
  | 5 => RX5
  | 6 => RX6
  | 7 => RX7
  | 8 => RX8
  | 9 => RX9
  | 10 => RX10
  | 24 => RL
  | 25 => RJ6
  | _ => RJ9
abbrev MRow : Type := MethodName × ByteArray × Nat × Option FieldType × Nat × Nat × Bool
/-- name, bytes, locals, answer, class, arguments (with the receiver), static -/
def mTab : List MRow := [(yX0_init, cX0_init, 1, none, 0, 1, false),
  (yX1_init, cX1_init, 1, none, 1, 1, false),
  (yX1_become, cX1_become, 3, none, 1, 3, false),
  (yX1_copyFrom, cX1_copyFrom, 2, none, 1, 2, false),
  (yX1_isAt, cX1_isAt, 3, (some .boolean), 1, 3, false),
  (yX1_has, cX1_has, 2, (some .boolean), 1, 2, false),
  (yX1_holds, cX1_holds, 3, (some .boolean), 1, 3, false),
  (yX1_meets, cX1_meets, 3, (some .boolean), 1, 3, false),
  (yX2_init, cX2_init, 1, none, 2, 1, false),
  (yX2_become, cX2_become, 4, none, 2, 4, false),
  (yX2_copyFrom, cX2_copyFrom, 2, none, 2, 2, false),
  (yX2_isHolding, cX2_isHolding, 2, (some .boolean), 2, 2, false),
  (yX2_property, cX2_property, 3, (some .int), 2, 3, false),
  (yX3_init, cX3_init, 2, none, 3, 1, false),
  (yX3_row, cX3_row, 2, (some .int), 3, 2, false),
  (yX3_draft, cX3_draft, 2, none, 3, 2, false),
  (yX3_keepDraft, cX3_keepDraft, 1, none, 3, 1, false),
  (yX3_takeLatest, cX3_takeLatest, 2, none, 3, 2, false),
  (yX4_init, cX4_init, 2, none, 4, 1, false),
  (yX4_start, cX4_start, 1, none, 4, 1, false),
  (yX4_copyFrom, cX4_copyFrom, 3, none, 4, 2, false),
  (yX4_isPlace, cX4_isPlace, 2, (some .boolean), 4, 2, false),
  (yX4_property, cX4_property, 2, (some .int), 4, 2, false),
  (yX4_moveToFront, cX4_moveToFront, 4, none, 4, 2, false),
  (yX4_drop, cX4_drop, 4, none, 4, 2, false),
  (yX4_dropEnded, cX4_dropEnded, 3, none, 4, 2, false),
  (yX4_placeOfSite, cX4_placeOfSite, 3, (some .int), 4, 2, false),
  (yX4_placeOfSmallest, cX4_placeOfSmallest, 6, (some .int), 4, 2, false),
  (yX4_addMap, cX4_addMap, 4, none, 4, 4, false),
  (yX5_init, cX5_init, 1, none, 5, 1, false),
  (yX5_copyFrom, cX5_copyFrom, 2, none, 5, 2, false),
  (yX6_init, cX6_init, 1, none, 6, 1, false),
  (yX6_start, cX6_start, 5, none, 6, 4, false),
  (yX6_copyFrom, cX6_copyFrom, 2, none, 6, 2, false),
  (yX6_isRegistered, cX6_isRegistered, 2, (some .boolean), 6, 2, false),
  (yX6_isUp, cX6_isUp, 2, (some .boolean), 6, 2, false),
  (yX7_init, cX7_init, 1, none, 7, 1, false),
  (yX7_copyFrom, cX7_copyFrom, 3, none, 7, 2, false),
  (yX7_fill, cX7_fill, 5, none, 7, 5, false),
  (yX7_propertyOf, cX7_propertyOf, 3, (some .int), 7, 3, false),
  (yX7_isEmpty, cX7_isEmpty, 2, (some .boolean), 7, 2, false),
  (yX7_areEmpty, cX7_areEmpty, 3, (some .boolean), 7, 1, false),
  (yX7_have, cX7_have, 3, (some .boolean), 7, 2, false),
  (yX7_lowestPriority, cX7_lowestPriority, 3, (some .int), 7, 1, false),
  (yX7_weightThatCounts, cX7_weightThatCounts, 3, (some .int), 7, 3, false),
  (yX7_placeFor, cX7_placeFor, 7, (some .int), 7, 2, false),
  (yX8_init, cX8_init, 2, none, 8, 1, false),
  (yX8_copyFrom, cX8_copyFrom, 3, none, 8, 2, false),
  (yX8_isServer, cX8_isServer, 2, (some .boolean), 8, 2, false),
  (yX8_isSite, cX8_isSite, 2, (some .boolean), 8, 2, false),
  (yX8_isRouter, cX8_isRouter, 2, (some .boolean), 8, 2, false),
  (yX8_newServer, cX8_newServer, 6, (some .int), 8, 4, false),
  (yX8_newSite, cX8_newSite, 5, (some .int), 8, 4, false),
  (yX8_newRouter, cX8_newRouter, 1, (some .int), 8, 1, false),
  (yX8_fillSlot, cX8_fillSlot, 6, (some .int), 8, 6, false),
  (yX8_vacateSlot, cX8_vacateSlot, 3, (some .int), 8, 3, false),
  (yX8_startRegistration, cX8_startRegistration, 2, (some .int), 8, 2, false),
  (yX8_endRegistration, cX8_endRegistration, 3, (some .int), 8, 2, false),
  (yX8_changeMapLife, cX8_changeMapLife, 3, (some .int), 8, 2, false),
  (yX8_letPass, cX8_letPass, 2, (some .int), 8, 2, false),
  (yX8_emptyCache, cX8_emptyCache, 3, (some .int), 8, 2, false),
  (yX8_sendLetter, cX8_sendLetter, 7, (some .int), 8, 4, false),
  (yX8_placeByMap, cX8_placeByMap, 5, (some .int), 8, 3, false),
  (yX8_ask, cX8_ask, 4, (some .boolean), 8, 3, false),
  (yX8_goByProxy, cX8_goByProxy, 3, (some .int), 8, 3, false),
  (yX8_homeOf, cX8_homeOf, 6, (some .int), 8, 3, false),
  (yX8_homeOfSite, cX8_homeOfSite, 2, (some .int), 8, 2, false),
  (yX8_hopsTo, cX8_hopsTo, 4, (some .int), 8, 2, false),
  (yX8_answerFor, cX8_answerFor, 7, (some .int), 8, 2, false),
  (yX8_siteEndingAt, cX8_siteEndingAt, 3, (some .int), 8, 2, false),
  (yX8_sitesEndingAheadOf, cX8_sitesEndingAheadOf, 6, (some .int), 8, 2, false),
  (yX8_serverProperty, cX8_serverProperty, 3, (some .int), 8, 3, false),
  (yX8_childrenOf, cX8_childrenOf, 4, (some .int), 8, 2, false),
  (yX8_sitesAtHome, cX8_sitesAtHome, 4, (some .int), 8, 2, false),
  (yX8_siteProperty, cX8_siteProperty, 3, (some .int), 8, 3, false),
  (yX8_mapsOf, cX8_mapsOf, 4, (some .int), 8, 2, false),
  (yX8_totalOf, cX8_totalOf, 2, (some .int), 8, 2, false),
  (yX8_sitesUp, cX8_sitesUp, 3, (some .int), 8, 1, false),
  (yX8_sumOverRouters, cX8_sumOverRouters, 4, (some .int), 8, 2, false),
  (yX8_namesWithAnswer, cX8_namesWithAnswer, 3, (some .int), 8, 1, false),
  (yX9_init, cX9_init, 2, none, 9, 1, false),
  (yX9_addServer, cX9_addServer, 4, (some .int), 9, 4, false),
  (yX9_addSite, cX9_addSite, 4, (some .int), 9, 4, false),
  (yX9_addRouter, cX9_addRouter, 1, (some .int), 9, 1, false),
  (yX9_setSlot, cX9_setSlot, 6, (some .int), 9, 6, false),
  (yX9_emptySlot, cX9_emptySlot, 3, (some .int), 9, 3, false),
  (yX9_register, cX9_register, 2, (some .int), 9, 2, false),
  (yX9_unregister, cX9_unregister, 2, (some .int), 9, 2, false),
  (yX9_setMapLife, cX9_setMapLife, 2, (some .int), 9, 2, false),
  (yX9_send, cX9_send, 4, (some .int), 9, 4, false),
  (yX9_pass, cX9_pass, 2, (some .int), 9, 2, false),
  (yX9_forget, cX9_forget, 2, (some .int), 9, 2, false),
  (yX9_undo, cX9_undo, 1, (some .int), 9, 1, false),
  (yX9_save, cX9_save, 2, (some .int), 9, 2, false),
  (yX9_restore, cX9_restore, 2, (some .int), 9, 2, false),
  (yX9_server, cX9_server, 3, (some .int), 9, 3, false),
  (yX9_site, cX9_site, 3, (some .int), 9, 3, false),
  (yX9_slot, cX9_slot, 4, (some .int), 9, 4, false),
  (yX9_router, cX9_router, 3, (some .int), 9, 3, false),
  (yX9_map, cX9_map, 4, (some .int), 9, 4, false),
  (yX9_answer, cX9_answer, 3, (some .int), 9, 2, false),
  (yX9_endingNext, cX9_endingNext, 3, (some .int), 9, 2, false),
  (yX9_total, cX9_total, 2, (some .int), 9, 2, false),
  (yX9_wouldReach, cX9_wouldReach, 5, (some .int), 9, 5, false),
  (yX9_wouldAsk, cX9_wouldAsk, 5, (some .int), 9, 4, false),
  (yX9_recorded, cX9_recorded, 2, (some .int), 9, 2, false),
  (yX9_isSave, cX9_isSave, 1, (some .boolean), 9, 1, true),
  (yX9_isSlot, cX9_isSlot, 1, (some .boolean), 9, 1, true),
  (yX9_isName, cX9_isName, 1, (some .boolean), 9, 1, true),
  (yX9_isFlow, cX9_isFlow, 1, (some .boolean), 9, 1, true),
  (yX9_isPlaceOfSlot, cX9_isPlaceOfSlot, 1, (some .boolean), 9, 1, true),
  (yX9_isBlock, cX9_isBlock, 2, (some .boolean), 9, 2, true),
  (yJ6_bitCount_0f7a4, cJ6_bitCount_0f7a4, 1, (some .int), 25, 1, true),
  (yJ9_floorMod_7cf53, cJ9_floorMod_7cf53, 3, (some .int), 26, 2, true),
  (yL_cell, cL_cell, 2, (some .int), 24, 2, true),
  (yL_up, cL_up, 2, (some .int), 24, 2, true),
  (yL_size, cL_size, 1, (some .int), 24, 1, true),
  (yL_any, cL_any, 3, (some .int), 24, 3, true),
  (yL_turn, cL_turn, 6, (some .int), 24, 4, true),
  (yL_name, cL_name, 4, (some .int), 24, 2, true),
  (yL_hasPlace, cL_hasPlace, 7, (some .boolean), 24, 3, true),
  (yL_areRouters, cL_areRouters, 7, (some .boolean), 24, 1, true),
  (yL_areEnding, cL_areEnding, 6, (some .boolean), 24, 1, true),
  (yL_view, cL_view, 6, (some .long), 24, 1, true),
  (yL_isSent, cL_isSent, 12, (some .boolean), 24, 4, true),
  (yL_isUndone, cL_isUndone, 8, (some .boolean), 24, 6, true),
  (yL_isSaved, cL_isSaved, 6, (some .boolean), 24, 3, true),
  (yL_law, cL_law, 15, (some .boolean), 24, 1, true)]
def mRow (m : Nat) : MRow := mTab.getD m (⟨"", "", ""⟩, code, 0, none, 0, 0, false)
def codT (m : Nat) : List Ent := allCo.getD m []
def retT (m : Nat) : Nat := allRet.getD m 9
def colT (m : Nat) : List Ent := allCl.getD (m - nSm) []
/-- links of fields: the class that holds the link, its entry, the class and the field -/
def flT : List (Nat × Nat × Nat × Nat) := [(1, 7, 1, 0), (8, 226, 1, 0), (1, 13, 1, 1), (8, 79, 1, 1), (4, 64, 1, 1), (5, 12, 5, 0), (8, 37, 5, 0), (5, 18, 5, 1), (8, 82, 5, 1), (7, 11, 7, 0), (6, 12, 6, 0), (2, 25, 6, 0), (8, 88, 6, 0), (6, 21, 6, 1), (2, 32, 6, 1), (8, 107, 6, 1), (9, 141, 6, 1), (6, 29, 6, 2), (8, 123, 6, 2), (6, 33, 6, 3), (2, 40, 6, 3), (8, 117, 6, 3), (6, 36, 6, 4), (8, 126, 6, 4), (2, 12, 2, 0), (4, 55, 2, 0), (2, 21, 2, 1), (8, 189, 2, 1), (2, 36, 2, 2), (4, 52, 2, 2), (8, 193, 2, 2), (2, 43, 2, 3), (8, 202, 2, 3), (2, 44, 2, 4), (2, 47, 2, 5), (8, 162, 2, 5), (4, 11, 4, 0), (8, 158, 4, 0), (9, 167, 4, 0), (4, 18, 4, 1), (8, 135, 4, 1), (4, 22, 4, 2), (8, 203, 4, 2), (9, 193, 4, 2), (4, 25, 4, 3), (8, 206, 4, 3), (4, 28, 4, 4), (8, 144, 4, 4), (4, 31, 4, 5), (8, 223, 4, 5), (4, 34, 4, 6), (8, 186, 4, 6), (8, 11, 8, 0), (8, 19, 8, 1), (9, 137, 8, 1), (8, 25, 8, 2), (9, 155, 8, 2), (8, 29, 8, 3), (8, 53, 8, 4), (8, 59, 8, 5), (8, 65, 8, 6), (9, 119, 8, 6), (8, 33, 8, 7), (3, 13, 3, 0), (3, 18, 3, 1), (3, 28, 3, 2), (9, 106, 3, 2), (0, 9, 0, 0), (9, 89, 0, 1), (0, 15, 0, 3), (9, 10, 9, 0), (9, 16, 9, 1), (9, 22, 9, 2), (9, 26, 9, 3), (9, 30, 9, 4), (9, 37, 9, 5)]
def tOf (c : Nat) : u_T := (vwCl.getD c ("", TX0, 0)).2.1
def flOk (q : Nat × Nat × Nat × Nat) : Prop := inT (.fieldLink (cnm q.1) q.2.1 (cnm q.2.2.1) (tOf q.2.2.1 q.2.2.2).2.1 (tOf q.2.2.1 q.2.2.2).2.2.1)
theorem fl_0 : flOk (1, 7, 1, 0) := inT_at 58 (by decide +kernel)
theorem fl_1 : flOk (8, 226, 1, 0) := inT_at 59 (by decide +kernel)
theorem fl_2 : flOk (1, 13, 1, 1) := inT_at 60 (by decide +kernel)
theorem fl_3 : flOk (8, 79, 1, 1) := inT_at 61 (by decide +kernel)
theorem fl_4 : flOk (4, 64, 1, 1) := inT_at 62 (by decide +kernel)
theorem fl_5 : flOk (5, 12, 5, 0) := inT_at 68 (by decide +kernel)
theorem fl_6 : flOk (8, 37, 5, 0) := inT_at 69 (by decide +kernel)
theorem fl_7 : flOk (5, 18, 5, 1) := inT_at 70 (by decide +kernel)
theorem fl_8 : flOk (8, 82, 5, 1) := inT_at 71 (by decide +kernel)
theorem fl_9 : flOk (7, 11, 7, 0) := inT_at 94 (by decide +kernel)
theorem fl_10 : flOk (6, 12, 6, 0) := inT_at 99 (by decide +kernel)
theorem fl_11 : flOk (2, 25, 6, 0) := inT_at 100 (by decide +kernel)
theorem fl_12 : flOk (8, 88, 6, 0) := inT_at 101 (by decide +kernel)
theorem fl_13 : flOk (6, 21, 6, 1) := inT_at 102 (by decide +kernel)
theorem fl_14 : flOk (2, 32, 6, 1) := inT_at 103 (by decide +kernel)
theorem fl_15 : flOk (8, 107, 6, 1) := inT_at 104 (by decide +kernel)
theorem fl_16 : flOk (9, 141, 6, 1) := inT_at 105 (by decide +kernel)
theorem fl_17 : flOk (6, 29, 6, 2) := inT_at 106 (by decide +kernel)
theorem fl_18 : flOk (8, 123, 6, 2) := inT_at 107 (by decide +kernel)
theorem fl_19 : flOk (6, 33, 6, 3) := inT_at 108 (by decide +kernel)
theorem fl_20 : flOk (2, 40, 6, 3) := inT_at 109 (by decide +kernel)
theorem fl_21 : flOk (8, 117, 6, 3) := inT_at 110 (by decide +kernel)
theorem fl_22 : flOk (6, 36, 6, 4) := inT_at 111 (by decide +kernel)
theorem fl_23 : flOk (8, 126, 6, 4) := inT_at 112 (by decide +kernel)
theorem fl_24 : flOk (2, 12, 2, 0) := inT_at 140 (by decide +kernel)
theorem fl_25 : flOk (4, 55, 2, 0) := inT_at 141 (by decide +kernel)
theorem fl_26 : flOk (2, 21, 2, 1) := inT_at 142 (by decide +kernel)
theorem fl_27 : flOk (8, 189, 2, 1) := inT_at 143 (by decide +kernel)
theorem fl_28 : flOk (2, 36, 2, 2) := inT_at 144 (by decide +kernel)
theorem fl_29 : flOk (4, 52, 2, 2) := inT_at 145 (by decide +kernel)
theorem fl_30 : flOk (8, 193, 2, 2) := inT_at 146 (by decide +kernel)
theorem fl_31 : flOk (2, 43, 2, 3) := inT_at 147 (by decide +kernel)
theorem fl_32 : flOk (8, 202, 2, 3) := inT_at 148 (by decide +kernel)
theorem fl_33 : flOk (2, 44, 2, 4) := inT_at 149 (by decide +kernel)
theorem fl_34 : flOk (2, 47, 2, 5) := inT_at 150 (by decide +kernel)
theorem fl_35 : flOk (8, 162, 2, 5) := inT_at 151 (by decide +kernel)
theorem fl_36 : flOk (4, 11, 4, 0) := inT_at 165 (by decide +kernel)
theorem fl_37 : flOk (8, 158, 4, 0) := inT_at 166 (by decide +kernel)
theorem fl_38 : flOk (9, 167, 4, 0) := inT_at 167 (by decide +kernel)
theorem fl_39 : flOk (4, 18, 4, 1) := inT_at 168 (by decide +kernel)
theorem fl_40 : flOk (8, 135, 4, 1) := inT_at 169 (by decide +kernel)
theorem fl_41 : flOk (4, 22, 4, 2) := inT_at 170 (by decide +kernel)
theorem fl_42 : flOk (8, 203, 4, 2) := inT_at 171 (by decide +kernel)
theorem fl_43 : flOk (9, 193, 4, 2) := inT_at 172 (by decide +kernel)
theorem fl_44 : flOk (4, 25, 4, 3) := inT_at 173 (by decide +kernel)
theorem fl_45 : flOk (8, 206, 4, 3) := inT_at 174 (by decide +kernel)
theorem fl_46 : flOk (4, 28, 4, 4) := inT_at 175 (by decide +kernel)
theorem fl_47 : flOk (8, 144, 4, 4) := inT_at 176 (by decide +kernel)
theorem fl_48 : flOk (4, 31, 4, 5) := inT_at 177 (by decide +kernel)
theorem fl_49 : flOk (8, 223, 4, 5) := inT_at 178 (by decide +kernel)
theorem fl_50 : flOk (4, 34, 4, 6) := inT_at 179 (by decide +kernel)
theorem fl_51 : flOk (8, 186, 4, 6) := inT_at 180 (by decide +kernel)
theorem fl_52 : flOk (8, 11, 8, 0) := inT_at 196 (by decide +kernel)
theorem fl_53 : flOk (8, 19, 8, 1) := inT_at 197 (by decide +kernel)
theorem fl_54 : flOk (9, 137, 8, 1) := inT_at 198 (by decide +kernel)
theorem fl_55 : flOk (8, 25, 8, 2) := inT_at 199 (by decide +kernel)
theorem fl_56 : flOk (9, 155, 8, 2) := inT_at 200 (by decide +kernel)
theorem fl_57 : flOk (8, 29, 8, 3) := inT_at 201 (by decide +kernel)
theorem fl_58 : flOk (8, 53, 8, 4) := inT_at 202 (by decide +kernel)
theorem fl_59 : flOk (8, 59, 8, 5) := inT_at 203 (by decide +kernel)
theorem fl_60 : flOk (8, 65, 8, 6) := inT_at 204 (by decide +kernel)
theorem fl_61 : flOk (9, 119, 8, 6) := inT_at 205 (by decide +kernel)
theorem fl_62 : flOk (8, 33, 8, 7) := inT_at 206 (by decide +kernel)
theorem fl_63 : flOk (3, 13, 3, 0) := inT_at 233 (by decide +kernel)
theorem fl_64 : flOk (3, 18, 3, 1) := inT_at 234 (by decide +kernel)
theorem fl_65 : flOk (3, 28, 3, 2) := inT_at 235 (by decide +kernel)
theorem fl_66 : flOk (9, 106, 3, 2) := inT_at 236 (by decide +kernel)
theorem fl_67 : flOk (0, 9, 0, 0) := inT_at 250 (by decide +kernel)
theorem fl_68 : flOk (9, 89, 0, 1) := inT_at 251 (by decide +kernel)
theorem fl_69 : flOk (0, 15, 0, 3) := inT_at 252 (by decide +kernel)
theorem fl_70 : flOk (9, 10, 9, 0) := inT_at 272 (by decide +kernel)
theorem fl_71 : flOk (9, 16, 9, 1) := inT_at 273 (by decide +kernel)
theorem fl_72 : flOk (9, 22, 9, 2) := inT_at 274 (by decide +kernel)
theorem fl_73 : flOk (9, 26, 9, 3) := inT_at 275 (by decide +kernel)
theorem fl_74 : flOk (9, 30, 9, 4) := inT_at 276 (by decide +kernel)
theorem fl_75 : flOk (9, 37, 9, 5) := inT_at 277 (by decide +kernel)
set_option maxRecDepth 100000 in
theorem flT_ok : ∀ q ∈ flT, flOk q := List.forall_mem_cons.mpr ⟨fl_0, List.forall_mem_cons.mpr ⟨fl_1, List.forall_mem_cons.mpr ⟨fl_2, List.forall_mem_cons.mpr ⟨fl_3, List.forall_mem_cons.mpr ⟨fl_4, List.forall_mem_cons.mpr ⟨fl_5, List.forall_mem_cons.mpr ⟨fl_6, List.forall_mem_cons.mpr ⟨fl_7, List.forall_mem_cons.mpr ⟨fl_8, List.forall_mem_cons.mpr ⟨fl_9, List.forall_mem_cons.mpr ⟨fl_10, List.forall_mem_cons.mpr ⟨fl_11, List.forall_mem_cons.mpr ⟨fl_12, List.forall_mem_cons.mpr ⟨fl_13, List.forall_mem_cons.mpr ⟨fl_14, List.forall_mem_cons.mpr ⟨fl_15, List.forall_mem_cons.mpr ⟨fl_16, List.forall_mem_cons.mpr ⟨fl_17, List.forall_mem_cons.mpr ⟨fl_18, List.forall_mem_cons.mpr ⟨fl_19, List.forall_mem_cons.mpr ⟨fl_20, List.forall_mem_cons.mpr ⟨fl_21, List.forall_mem_cons.mpr ⟨fl_22, List.forall_mem_cons.mpr ⟨fl_23, List.forall_mem_cons.mpr ⟨fl_24, List.forall_mem_cons.mpr ⟨fl_25, List.forall_mem_cons.mpr ⟨fl_26, List.forall_mem_cons.mpr ⟨fl_27, List.forall_mem_cons.mpr ⟨fl_28, List.forall_mem_cons.mpr ⟨fl_29, List.forall_mem_cons.mpr ⟨fl_30, List.forall_mem_cons.mpr ⟨fl_31, List.forall_mem_cons.mpr ⟨fl_32, List.forall_mem_cons.mpr ⟨fl_33, List.forall_mem_cons.mpr ⟨fl_34, List.forall_mem_cons.mpr ⟨fl_35, List.forall_mem_cons.mpr ⟨fl_36, List.forall_mem_cons.mpr ⟨fl_37, List.forall_mem_cons.mpr ⟨fl_38, List.forall_mem_cons.mpr ⟨fl_39, List.forall_mem_cons.mpr ⟨fl_40, List.forall_mem_cons.mpr ⟨fl_41, List.forall_mem_cons.mpr ⟨fl_42, List.forall_mem_cons.mpr ⟨fl_43, List.forall_mem_cons.mpr ⟨fl_44, List.forall_mem_cons.mpr ⟨fl_45, List.forall_mem_cons.mpr ⟨fl_46, List.forall_mem_cons.mpr ⟨fl_47, List.forall_mem_cons.mpr ⟨fl_48, List.forall_mem_cons.mpr ⟨fl_49, List.forall_mem_cons.mpr ⟨fl_50, List.forall_mem_cons.mpr ⟨fl_51, List.forall_mem_cons.mpr ⟨fl_52, List.forall_mem_cons.mpr ⟨fl_53, List.forall_mem_cons.mpr ⟨fl_54, List.forall_mem_cons.mpr ⟨fl_55, List.forall_mem_cons.mpr ⟨fl_56, List.forall_mem_cons.mpr ⟨fl_57, List.forall_mem_cons.mpr ⟨fl_58, List.forall_mem_cons.mpr ⟨fl_59, List.forall_mem_cons.mpr ⟨fl_60, List.forall_mem_cons.mpr ⟨fl_61, List.forall_mem_cons.mpr ⟨fl_62, List.forall_mem_cons.mpr ⟨fl_63, List.forall_mem_cons.mpr ⟨fl_64, List.forall_mem_cons.mpr ⟨fl_65, List.forall_mem_cons.mpr ⟨fl_66, List.forall_mem_cons.mpr ⟨fl_67, List.forall_mem_cons.mpr ⟨fl_68, List.forall_mem_cons.mpr ⟨fl_69, List.forall_mem_cons.mpr ⟨fl_70, List.forall_mem_cons.mpr ⟨fl_71, List.forall_mem_cons.mpr ⟨fl_72, List.forall_mem_cons.mpr ⟨fl_73, List.forall_mem_cons.mpr ⟨fl_74, List.forall_mem_cons.mpr ⟨fl_75, fun _ h => absurd h List.not_mem_nil⟩⟩⟩⟩⟩⟩⟩⟩⟩⟩⟩⟩⟩⟩⟩⟩⟩⟩⟩⟩⟩⟩⟩⟩⟩⟩⟩⟩⟩⟩⟩⟩⟩⟩⟩⟩⟩⟩⟩⟩⟩⟩⟩⟩⟩⟩⟩⟩⟩⟩⟩⟩⟩⟩⟩⟩⟩⟩⟩⟩⟩⟩⟩⟩⟩⟩⟩⟩⟩⟩⟩⟩⟩⟩⟩⟩
def mhOk (r : MRow) : Prop := (r.1.cls ≠ "java/lang/invoke/MethodHandle" ∧ r.1.cls ≠ "java/lang/invoke/VarHandle") ∧ (parseMethodDescriptor r.1.desc).map (fun d => d.parameters.length) = some (r.2.2.2.2.2.1 - if r.2.2.2.2.2.2 = true then 0 else 1) ∧ plainFor r.1 = true ∧ cnm r.2.2.2.2.1 = r.1.cls ∧ r.2.2.1 ≤ 19 ∧ (r.2.2.2.2.2.2 = false → 0 < r.2.2.2.2.2.1)
theorem mh_all : ∀ r ∈ mTab, mhOk r := by unfold mhOk; decide +kernel
def mwOk (r : MRow) : Prop := inT (.code r.1 r.2.1 r.2.2.1 r.2.2.2.1) ∧ inT (.initialized r.1.cls) ∧ (if r.2.2.2.2.2.2 = true then inT (.static r.1) else inT (.instanceMethod r.1) ∧ (r.1.name = "<init>" ∨ inT (.selects r.1.cls r.1 r.1)))
theorem mw_X0_init : mwOk (mRow m_X0_init) := ⟨inT_at 248 (by decide +kernel), inT_at 24 (by decide +kernel), ⟨inT_at 247 (by decide +kernel), Or.inl rfl⟩⟩
theorem mw_X1_init : mwOk (mRow m_X1_init) := ⟨inT_at 56 (by decide +kernel), inT_at 18 (by decide +kernel), ⟨inT_at 55 (by decide +kernel), Or.inl rfl⟩⟩
theorem mw_X1_become : mwOk (mRow m_X1_become) := ⟨inT_at 80 (by decide +kernel), inT_at 18 (by decide +kernel), ⟨inT_at 78 (by decide +kernel), Or.inr (inT_at 79 (by decide +kernel))⟩⟩
theorem mw_X1_copyFrom : mwOk (mRow m_X1_copyFrom) := ⟨inT_at 317 (by decide +kernel), inT_at 18 (by decide +kernel), ⟨inT_at 315 (by decide +kernel), Or.inr (inT_at 316 (by decide +kernel))⟩⟩
theorem mw_X1_isAt : mwOk (mRow m_X1_isAt) := ⟨inT_at 550 (by decide +kernel), inT_at 18 (by decide +kernel), ⟨inT_at 548 (by decide +kernel), Or.inr (inT_at 549 (by decide +kernel))⟩⟩
theorem mw_X1_has : mwOk (mRow m_X1_has) := ⟨inT_at 404 (by decide +kernel), inT_at 18 (by decide +kernel), ⟨inT_at 402 (by decide +kernel), Or.inr (inT_at 403 (by decide +kernel))⟩⟩
theorem mw_X1_holds : mwOk (mRow m_X1_holds) := ⟨inT_at 400 (by decide +kernel), inT_at 18 (by decide +kernel), ⟨inT_at 398 (by decide +kernel), Or.inr (inT_at 399 (by decide +kernel))⟩⟩
theorem mw_X1_meets : mwOk (mRow m_X1_meets) := ⟨inT_at 538 (by decide +kernel), inT_at 18 (by decide +kernel), ⟨inT_at 536 (by decide +kernel), Or.inr (inT_at 537 (by decide +kernel))⟩⟩
theorem mw_X2_init : mwOk (mRow m_X2_init) := ⟨inT_at 134 (by decide +kernel), inT_at 22 (by decide +kernel), ⟨inT_at 133 (by decide +kernel), Or.inl rfl⟩⟩
theorem mw_X2_become : mwOk (mRow m_X2_become) := ⟨inT_at 669 (by decide +kernel), inT_at 22 (by decide +kernel), ⟨inT_at 667 (by decide +kernel), Or.inr (inT_at 668 (by decide +kernel))⟩⟩
theorem mw_X2_copyFrom : mwOk (mRow m_X2_copyFrom) := ⟨inT_at 334 (by decide +kernel), inT_at 22 (by decide +kernel), ⟨inT_at 332 (by decide +kernel), Or.inr (inT_at 333 (by decide +kernel))⟩⟩
theorem mw_X2_isHolding : mwOk (mRow m_X2_isHolding) := ⟨inT_at 508 (by decide +kernel), inT_at 22 (by decide +kernel), ⟨inT_at 506 (by decide +kernel), Or.inr (inT_at 507 (by decide +kernel))⟩⟩
theorem mw_X2_property : mwOk (mRow m_X2_property) := ⟨inT_at 504 (by decide +kernel), inT_at 22 (by decide +kernel), ⟨inT_at 502 (by decide +kernel), Or.inr (inT_at 503 (by decide +kernel))⟩⟩
theorem mw_X3_init : mwOk (mRow m_X3_init) := ⟨inT_at 228 (by decide +kernel), inT_at 23 (by decide +kernel), ⟨inT_at 227 (by decide +kernel), Or.inl rfl⟩⟩
theorem mw_X3_row : mwOk (mRow m_X3_row) := ⟨inT_at 302 (by decide +kernel), inT_at 23 (by decide +kernel), ⟨inT_at 301 (by decide +kernel), Or.inr (inT_at 0 (by decide +kernel))⟩⟩
theorem mw_X3_draft : mwOk (mRow m_X3_draft) := ⟨inT_at 298 (by decide +kernel), inT_at 23 (by decide +kernel), ⟨inT_at 296 (by decide +kernel), Or.inr (inT_at 297 (by decide +kernel))⟩⟩
theorem mw_X3_keepDraft : mwOk (mRow m_X3_keepDraft) := ⟨inT_at 352 (by decide +kernel), inT_at 23 (by decide +kernel), ⟨inT_at 350 (by decide +kernel), Or.inr (inT_at 351 (by decide +kernel))⟩⟩
theorem mw_X3_takeLatest : mwOk (mRow m_X3_takeLatest) := ⟨inT_at 739 (by decide +kernel), inT_at 23 (by decide +kernel), ⟨inT_at 737 (by decide +kernel), Or.inr (inT_at 738 (by decide +kernel))⟩⟩
theorem mw_X4_init : mwOk (mRow m_X4_init) := ⟨inT_at 127 (by decide +kernel), inT_at 21 (by decide +kernel), ⟨inT_at 126 (by decide +kernel), Or.inl rfl⟩⟩
theorem mw_X4_start : mwOk (mRow m_X4_start) := ⟨inT_at 344 (by decide +kernel), inT_at 21 (by decide +kernel), ⟨inT_at 342 (by decide +kernel), Or.inr (inT_at 343 (by decide +kernel))⟩⟩
theorem mw_X4_copyFrom : mwOk (mRow m_X4_copyFrom) := ⟨inT_at 330 (by decide +kernel), inT_at 21 (by decide +kernel), ⟨inT_at 328 (by decide +kernel), Or.inr (inT_at 329 (by decide +kernel))⟩⟩
theorem mw_X4_isPlace : mwOk (mRow m_X4_isPlace) := ⟨inT_at 500 (by decide +kernel), inT_at 21 (by decide +kernel), ⟨inT_at 498 (by decide +kernel), Or.inr (inT_at 499 (by decide +kernel))⟩⟩
theorem mw_X4_property : mwOk (mRow m_X4_property) := ⟨inT_at 384 (by decide +kernel), inT_at 21 (by decide +kernel), ⟨inT_at 382 (by decide +kernel), Or.inr (inT_at 383 (by decide +kernel))⟩⟩
theorem mw_X4_moveToFront : mwOk (mRow m_X4_moveToFront) := ⟨inT_at 656 (by decide +kernel), inT_at 21 (by decide +kernel), ⟨inT_at 654 (by decide +kernel), Or.inr (inT_at 655 (by decide +kernel))⟩⟩
theorem mw_X4_drop : mwOk (mRow m_X4_drop) := ⟨inT_at 646 (by decide +kernel), inT_at 21 (by decide +kernel), ⟨inT_at 644 (by decide +kernel), Or.inr (inT_at 645 (by decide +kernel))⟩⟩
theorem mw_X4_dropEnded : mwOk (mRow m_X4_dropEnded) := ⟨inT_at 640 (by decide +kernel), inT_at 21 (by decide +kernel), ⟨inT_at 638 (by decide +kernel), Or.inr (inT_at 639 (by decide +kernel))⟩⟩
theorem mw_X4_placeOfSite : mwOk (mRow m_X4_placeOfSite) := ⟨inT_at 468 (by decide +kernel), inT_at 21 (by decide +kernel), ⟨inT_at 466 (by decide +kernel), Or.inr (inT_at 467 (by decide +kernel))⟩⟩
theorem mw_X4_placeOfSmallest : mwOk (mRow m_X4_placeOfSmallest) := ⟨inT_at 650 (by decide +kernel), inT_at 21 (by decide +kernel), ⟨inT_at 648 (by decide +kernel), Or.inr (inT_at 649 (by decide +kernel))⟩⟩
theorem mw_X4_addMap : mwOk (mRow m_X4_addMap) := ⟨inT_at 664 (by decide +kernel), inT_at 21 (by decide +kernel), ⟨inT_at 662 (by decide +kernel), Or.inr (inT_at 663 (by decide +kernel))⟩⟩
theorem mw_X5_init : mwOk (mRow m_X5_init) := ⟨inT_at 50 (by decide +kernel), inT_at 17 (by decide +kernel), ⟨inT_at 49 (by decide +kernel), Or.inl rfl⟩⟩
theorem mw_X5_copyFrom : mwOk (mRow m_X5_copyFrom) := ⟨inT_at 313 (by decide +kernel), inT_at 17 (by decide +kernel), ⟨inT_at 311 (by decide +kernel), Or.inr (inT_at 312 (by decide +kernel))⟩⟩
theorem mw_X6_init : mwOk (mRow m_X6_init) := ⟨inT_at 84 (by decide +kernel), inT_at 19 (by decide +kernel), ⟨inT_at 83 (by decide +kernel), Or.inl rfl⟩⟩
theorem mw_X6_start : mwOk (mRow m_X6_start) := ⟨inT_at 554 (by decide +kernel), inT_at 19 (by decide +kernel), ⟨inT_at 552 (by decide +kernel), Or.inr (inT_at 553 (by decide +kernel))⟩⟩
theorem mw_X6_copyFrom : mwOk (mRow m_X6_copyFrom) := ⟨inT_at 321 (by decide +kernel), inT_at 19 (by decide +kernel), ⟨inT_at 319 (by decide +kernel), Or.inr (inT_at 320 (by decide +kernel))⟩⟩
theorem mw_X6_isRegistered : mwOk (mRow m_X6_isRegistered) := ⟨inT_at 372 (by decide +kernel), inT_at 19 (by decide +kernel), ⟨inT_at 370 (by decide +kernel), Or.inr (inT_at 371 (by decide +kernel))⟩⟩
theorem mw_X6_isUp : mwOk (mRow m_X6_isUp) := ⟨inT_at 368 (by decide +kernel), inT_at 19 (by decide +kernel), ⟨inT_at 366 (by decide +kernel), Or.inr (inT_at 367 (by decide +kernel))⟩⟩
theorem mw_X7_init : mwOk (mRow m_X7_init) := ⟨inT_at 92 (by decide +kernel), inT_at 20 (by decide +kernel), ⟨inT_at 91 (by decide +kernel), Or.inl rfl⟩⟩
theorem mw_X7_copyFrom : mwOk (mRow m_X7_copyFrom) := ⟨inT_at 326 (by decide +kernel), inT_at 20 (by decide +kernel), ⟨inT_at 324 (by decide +kernel), Or.inr (inT_at 325 (by decide +kernel))⟩⟩
theorem mw_X7_fill : mwOk (mRow m_X7_fill) := ⟨inT_at 559 (by decide +kernel), inT_at 20 (by decide +kernel), ⟨inT_at 557 (by decide +kernel), Or.inr (inT_at 558 (by decide +kernel))⟩⟩
theorem mw_X7_propertyOf : mwOk (mRow m_X7_propertyOf) := ⟨inT_at 479 (by decide +kernel), inT_at 20 (by decide +kernel), ⟨inT_at 477 (by decide +kernel), Or.inr (inT_at 478 (by decide +kernel))⟩⟩
theorem mw_X7_isEmpty : mwOk (mRow m_X7_isEmpty) := ⟨inT_at 483 (by decide +kernel), inT_at 20 (by decide +kernel), ⟨inT_at 481 (by decide +kernel), Or.inr (inT_at 482 (by decide +kernel))⟩⟩
theorem mw_X7_areEmpty : mwOk (mRow m_X7_areEmpty) := ⟨inT_at 376 (by decide +kernel), inT_at 20 (by decide +kernel), ⟨inT_at 374 (by decide +kernel), Or.inr (inT_at 375 (by decide +kernel))⟩⟩
theorem mw_X7_have : mwOk (mRow m_X7_have) := ⟨inT_at 698 (by decide +kernel), inT_at 20 (by decide +kernel), ⟨inT_at 696 (by decide +kernel), Or.inr (inT_at 697 (by decide +kernel))⟩⟩
theorem mw_X7_lowestPriority : mwOk (mRow m_X7_lowestPriority) := ⟨inT_at 687 (by decide +kernel), inT_at 20 (by decide +kernel), ⟨inT_at 686 (by decide +kernel), Or.inr (inT_at 11 (by decide +kernel))⟩⟩
theorem mw_X7_weightThatCounts : mwOk (mRow m_X7_weightThatCounts) := ⟨inT_at 694 (by decide +kernel), inT_at 20 (by decide +kernel), ⟨inT_at 693 (by decide +kernel), Or.inr (inT_at 12 (by decide +kernel))⟩⟩
theorem mw_X7_placeFor : mwOk (mRow m_X7_placeFor) := ⟨inT_at 683 (by decide +kernel), inT_at 20 (by decide +kernel), ⟨inT_at 681 (by decide +kernel), Or.inr (inT_at 682 (by decide +kernel))⟩⟩
theorem mw_X8_init : mwOk (mRow m_X8_init) := ⟨inT_at 39 (by decide +kernel), inT_at 16 (by decide +kernel), ⟨inT_at 38 (by decide +kernel), Or.inl rfl⟩⟩
theorem mw_X8_copyFrom : mwOk (mRow m_X8_copyFrom) := ⟨inT_at 309 (by decide +kernel), inT_at 16 (by decide +kernel), ⟨inT_at 307 (by decide +kernel), Or.inr (inT_at 308 (by decide +kernel))⟩⟩
theorem mw_X8_isServer : mwOk (mRow m_X8_isServer) := ⟨inT_at 426 (by decide +kernel), inT_at 16 (by decide +kernel), ⟨inT_at 424 (by decide +kernel), Or.inr (inT_at 425 (by decide +kernel))⟩⟩
theorem mw_X8_isSite : mwOk (mRow m_X8_isSite) := ⟨inT_at 451 (by decide +kernel), inT_at 16 (by decide +kernel), ⟨inT_at 449 (by decide +kernel), Or.inr (inT_at 450 (by decide +kernel))⟩⟩
theorem mw_X8_isRouter : mwOk (mRow m_X8_isRouter) := ⟨inT_at 491 (by decide +kernel), inT_at 16 (by decide +kernel), ⟨inT_at 489 (by decide +kernel), Or.inr (inT_at 490 (by decide +kernel))⟩⟩
theorem mw_X8_newServer : mwOk (mRow m_X8_newServer) := ⟨inT_at 522 (by decide +kernel), inT_at 16 (by decide +kernel), ⟨inT_at 520 (by decide +kernel), Or.inr (inT_at 521 (by decide +kernel))⟩⟩
theorem mw_X8_newSite : mwOk (mRow m_X8_newSite) := ⟨inT_at 546 (by decide +kernel), inT_at 16 (by decide +kernel), ⟨inT_at 544 (by decide +kernel), Or.inr (inT_at 545 (by decide +kernel))⟩⟩
theorem mw_X8_newRouter : mwOk (mRow m_X8_newRouter) := ⟨inT_at 340 (by decide +kernel), inT_at 16 (by decide +kernel), ⟨inT_at 338 (by decide +kernel), Or.inr (inT_at 339 (by decide +kernel))⟩⟩
theorem mw_X8_fillSlot : mwOk (mRow m_X8_fillSlot) := ⟨inT_at 568 (by decide +kernel), inT_at 16 (by decide +kernel), ⟨inT_at 566 (by decide +kernel), Or.inr (inT_at 567 (by decide +kernel))⟩⟩
theorem mw_X8_vacateSlot : mwOk (mRow m_X8_vacateSlot) := ⟨inT_at 581 (by decide +kernel), inT_at 16 (by decide +kernel), ⟨inT_at 579 (by decide +kernel), Or.inr (inT_at 580 (by decide +kernel))⟩⟩
theorem mw_X8_startRegistration : mwOk (mRow m_X8_startRegistration) := ⟨inT_at 590 (by decide +kernel), inT_at 16 (by decide +kernel), ⟨inT_at 588 (by decide +kernel), Or.inr (inT_at 589 (by decide +kernel))⟩⟩
theorem mw_X8_endRegistration : mwOk (mRow m_X8_endRegistration) := ⟨inT_at 598 (by decide +kernel), inT_at 16 (by decide +kernel), ⟨inT_at 596 (by decide +kernel), Or.inr (inT_at 597 (by decide +kernel))⟩⟩
theorem mw_X8_changeMapLife : mwOk (mRow m_X8_changeMapLife) := ⟨inT_at 607 (by decide +kernel), inT_at 16 (by decide +kernel), ⟨inT_at 605 (by decide +kernel), Or.inr (inT_at 606 (by decide +kernel))⟩⟩
theorem mw_X8_letPass : mwOk (mRow m_X8_letPass) := ⟨inT_at 624 (by decide +kernel), inT_at 16 (by decide +kernel), ⟨inT_at 622 (by decide +kernel), Or.inr (inT_at 623 (by decide +kernel))⟩⟩
theorem mw_X8_emptyCache : mwOk (mRow m_X8_emptyCache) := ⟨inT_at 615 (by decide +kernel), inT_at 16 (by decide +kernel), ⟨inT_at 613 (by decide +kernel), Or.inr (inT_at 614 (by decide +kernel))⟩⟩
theorem mw_X8_sendLetter : mwOk (mRow m_X8_sendLetter) := ⟨inT_at 632 (by decide +kernel), inT_at 16 (by decide +kernel), ⟨inT_at 630 (by decide +kernel), Or.inr (inT_at 631 (by decide +kernel))⟩⟩
theorem mw_X8_placeByMap : mwOk (mRow m_X8_placeByMap) := ⟨inT_at 679 (by decide +kernel), inT_at 16 (by decide +kernel), ⟨inT_at 678 (by decide +kernel), Or.inr (inT_at 10 (by decide +kernel))⟩⟩
theorem mw_X8_ask : mwOk (mRow m_X8_ask) := ⟨inT_at 660 (by decide +kernel), inT_at 16 (by decide +kernel), ⟨inT_at 659 (by decide +kernel), Or.inr (inT_at 8 (by decide +kernel))⟩⟩
theorem mw_X8_goByProxy : mwOk (mRow m_X8_goByProxy) := ⟨inT_at 675 (by decide +kernel), inT_at 16 (by decide +kernel), ⟨inT_at 674 (by decide +kernel), Or.inr (inT_at 9 (by decide +kernel))⟩⟩
theorem mw_X8_homeOf : mwOk (mRow m_X8_homeOf) := ⟨inT_at 396 (by decide +kernel), inT_at 16 (by decide +kernel), ⟨inT_at 394 (by decide +kernel), Or.inr (inT_at 395 (by decide +kernel))⟩⟩
theorem mw_X8_homeOfSite : mwOk (mRow m_X8_homeOfSite) := ⟨inT_at 447 (by decide +kernel), inT_at 16 (by decide +kernel), ⟨inT_at 445 (by decide +kernel), Or.inr (inT_at 446 (by decide +kernel))⟩⟩
theorem mw_X8_hopsTo : mwOk (mRow m_X8_hopsTo) := ⟨inT_at 439 (by decide +kernel), inT_at 16 (by decide +kernel), ⟨inT_at 437 (by decide +kernel), Or.inr (inT_at 438 (by decide +kernel))⟩⟩
theorem mw_X8_answerFor : mwOk (mRow m_X8_answerFor) := ⟨inT_at 392 (by decide +kernel), inT_at 16 (by decide +kernel), ⟨inT_at 390 (by decide +kernel), Or.inr (inT_at 391 (by decide +kernel))⟩⟩
theorem mw_X8_siteEndingAt : mwOk (mRow m_X8_siteEndingAt) := ⟨inT_at 753 (by decide +kernel), inT_at 16 (by decide +kernel), ⟨inT_at 751 (by decide +kernel), Or.inr (inT_at 752 (by decide +kernel))⟩⟩
theorem mw_X8_sitesEndingAheadOf : mwOk (mRow m_X8_sitesEndingAheadOf) := ⟨inT_at 757 (by decide +kernel), inT_at 16 (by decide +kernel), ⟨inT_at 756 (by decide +kernel), Or.inr (inT_at 13 (by decide +kernel))⟩⟩
theorem mw_X8_serverProperty : mwOk (mRow m_X8_serverProperty) := ⟨inT_at 430 (by decide +kernel), inT_at 16 (by decide +kernel), ⟨inT_at 428 (by decide +kernel), Or.inr (inT_at 429 (by decide +kernel))⟩⟩
theorem mw_X8_childrenOf : mwOk (mRow m_X8_childrenOf) := ⟨inT_at 435 (by decide +kernel), inT_at 16 (by decide +kernel), ⟨inT_at 434 (by decide +kernel), Or.inr (inT_at 5 (by decide +kernel))⟩⟩
theorem mw_X8_sitesAtHome : mwOk (mRow m_X8_sitesAtHome) := ⟨inT_at 443 (by decide +kernel), inT_at 16 (by decide +kernel), ⟨inT_at 442 (by decide +kernel), Or.inr (inT_at 6 (by decide +kernel))⟩⟩
theorem mw_X8_siteProperty : mwOk (mRow m_X8_siteProperty) := ⟨inT_at 460 (by decide +kernel), inT_at 16 (by decide +kernel), ⟨inT_at 458 (by decide +kernel), Or.inr (inT_at 459 (by decide +kernel))⟩⟩
theorem mw_X8_mapsOf : mwOk (mRow m_X8_mapsOf) := ⟨inT_at 464 (by decide +kernel), inT_at 16 (by decide +kernel), ⟨inT_at 463 (by decide +kernel), Or.inr (inT_at 7 (by decide +kernel))⟩⟩
theorem mw_X8_totalOf : mwOk (mRow m_X8_totalOf) := ⟨inT_at 360 (by decide +kernel), inT_at 16 (by decide +kernel), ⟨inT_at 358 (by decide +kernel), Or.inr (inT_at 359 (by decide +kernel))⟩⟩
theorem mw_X8_sitesUp : mwOk (mRow m_X8_sitesUp) := ⟨inT_at 364 (by decide +kernel), inT_at 16 (by decide +kernel), ⟨inT_at 363 (by decide +kernel), Or.inr (inT_at 2 (by decide +kernel))⟩⟩
theorem mw_X8_sumOverRouters : mwOk (mRow m_X8_sumOverRouters) := ⟨inT_at 380 (by decide +kernel), inT_at 16 (by decide +kernel), ⟨inT_at 379 (by decide +kernel), Or.inr (inT_at 3 (by decide +kernel))⟩⟩
theorem mw_X8_namesWithAnswer : mwOk (mRow m_X8_namesWithAnswer) := ⟨inT_at 388 (by decide +kernel), inT_at 16 (by decide +kernel), ⟨inT_at 387 (by decide +kernel), Or.inr (inT_at 4 (by decide +kernel))⟩⟩
theorem mw_X9_init : mwOk (mRow m_X9_init) := ⟨inT_at 31 (by decide +kernel), inT_at 15 (by decide +kernel), ⟨inT_at 30 (by decide +kernel), Or.inl rfl⟩⟩
theorem mw_X9_addServer : mwOk (mRow m_X9_addServer) := ⟨inT_at 518 (by decide +kernel), inT_at 15 (by decide +kernel), ⟨inT_at 516 (by decide +kernel), Or.inr (inT_at 517 (by decide +kernel))⟩⟩
theorem mw_X9_addSite : mwOk (mRow m_X9_addSite) := ⟨inT_at 542 (by decide +kernel), inT_at 15 (by decide +kernel), ⟨inT_at 540 (by decide +kernel), Or.inr (inT_at 541 (by decide +kernel))⟩⟩
theorem mw_X9_addRouter : mwOk (mRow m_X9_addRouter) := ⟨inT_at 294 (by decide +kernel), inT_at 15 (by decide +kernel), ⟨inT_at 292 (by decide +kernel), Or.inr (inT_at 293 (by decide +kernel))⟩⟩
theorem mw_X9_setSlot : mwOk (mRow m_X9_setSlot) := ⟨inT_at 564 (by decide +kernel), inT_at 15 (by decide +kernel), ⟨inT_at 562 (by decide +kernel), Or.inr (inT_at 563 (by decide +kernel))⟩⟩
theorem mw_X9_emptySlot : mwOk (mRow m_X9_emptySlot) := ⟨inT_at 577 (by decide +kernel), inT_at 15 (by decide +kernel), ⟨inT_at 575 (by decide +kernel), Or.inr (inT_at 576 (by decide +kernel))⟩⟩
theorem mw_X9_register : mwOk (mRow m_X9_register) := ⟨inT_at 586 (by decide +kernel), inT_at 15 (by decide +kernel), ⟨inT_at 584 (by decide +kernel), Or.inr (inT_at 585 (by decide +kernel))⟩⟩
theorem mw_X9_unregister : mwOk (mRow m_X9_unregister) := ⟨inT_at 594 (by decide +kernel), inT_at 15 (by decide +kernel), ⟨inT_at 592 (by decide +kernel), Or.inr (inT_at 593 (by decide +kernel))⟩⟩
theorem mw_X9_setMapLife : mwOk (mRow m_X9_setMapLife) := ⟨inT_at 603 (by decide +kernel), inT_at 15 (by decide +kernel), ⟨inT_at 601 (by decide +kernel), Or.inr (inT_at 602 (by decide +kernel))⟩⟩
theorem mw_X9_send : mwOk (mRow m_X9_send) := ⟨inT_at 628 (by decide +kernel), inT_at 15 (by decide +kernel), ⟨inT_at 626 (by decide +kernel), Or.inr (inT_at 627 (by decide +kernel))⟩⟩
theorem mw_X9_pass : mwOk (mRow m_X9_pass) := ⟨inT_at 620 (by decide +kernel), inT_at 15 (by decide +kernel), ⟨inT_at 618 (by decide +kernel), Or.inr (inT_at 619 (by decide +kernel))⟩⟩
theorem mw_X9_forget : mwOk (mRow m_X9_forget) := ⟨inT_at 611 (by decide +kernel), inT_at 15 (by decide +kernel), ⟨inT_at 609 (by decide +kernel), Or.inr (inT_at 610 (by decide +kernel))⟩⟩
theorem mw_X9_undo : mwOk (mRow m_X9_undo) := ⟨inT_at 735 (by decide +kernel), inT_at 15 (by decide +kernel), ⟨inT_at 733 (by decide +kernel), Or.inr (inT_at 734 (by decide +kernel))⟩⟩
theorem mw_X9_save : mwOk (mRow m_X9_save) := ⟨inT_at 767 (by decide +kernel), inT_at 15 (by decide +kernel), ⟨inT_at 765 (by decide +kernel), Or.inr (inT_at 766 (by decide +kernel))⟩⟩
theorem mw_X9_restore : mwOk (mRow m_X9_restore) := ⟨inT_at 708 (by decide +kernel), inT_at 15 (by decide +kernel), ⟨inT_at 706 (by decide +kernel), Or.inr (inT_at 707 (by decide +kernel))⟩⟩
theorem mw_X9_server : mwOk (mRow m_X9_server) := ⟨inT_at 422 (by decide +kernel), inT_at 15 (by decide +kernel), ⟨inT_at 420 (by decide +kernel), Or.inr (inT_at 421 (by decide +kernel))⟩⟩
theorem mw_X9_site : mwOk (mRow m_X9_site) := ⟨inT_at 455 (by decide +kernel), inT_at 15 (by decide +kernel), ⟨inT_at 453 (by decide +kernel), Or.inr (inT_at 454 (by decide +kernel))⟩⟩
theorem mw_X9_slot : mwOk (mRow m_X9_slot) := ⟨inT_at 472 (by decide +kernel), inT_at 15 (by decide +kernel), ⟨inT_at 470 (by decide +kernel), Or.inr (inT_at 471 (by decide +kernel))⟩⟩
theorem mw_X9_router : mwOk (mRow m_X9_router) := ⟨inT_at 487 (by decide +kernel), inT_at 15 (by decide +kernel), ⟨inT_at 485 (by decide +kernel), Or.inr (inT_at 486 (by decide +kernel))⟩⟩
theorem mw_X9_map : mwOk (mRow m_X9_map) := ⟨inT_at 496 (by decide +kernel), inT_at 15 (by decide +kernel), ⟨inT_at 494 (by decide +kernel), Or.inr (inT_at 495 (by decide +kernel))⟩⟩
theorem mw_X9_answer : mwOk (mRow m_X9_answer) := ⟨inT_at 719 (by decide +kernel), inT_at 15 (by decide +kernel), ⟨inT_at 717 (by decide +kernel), Or.inr (inT_at 718 (by decide +kernel))⟩⟩
theorem mw_X9_endingNext : mwOk (mRow m_X9_endingNext) := ⟨inT_at 749 (by decide +kernel), inT_at 15 (by decide +kernel), ⟨inT_at 747 (by decide +kernel), Or.inr (inT_at 748 (by decide +kernel))⟩⟩
theorem mw_X9_total : mwOk (mRow m_X9_total) := ⟨inT_at 356 (by decide +kernel), inT_at 15 (by decide +kernel), ⟨inT_at 354 (by decide +kernel), Or.inr (inT_at 355 (by decide +kernel))⟩⟩
theorem mw_X9_wouldReach : mwOk (mRow m_X9_wouldReach) := ⟨inT_at 724 (by decide +kernel), inT_at 15 (by decide +kernel), ⟨inT_at 722 (by decide +kernel), Or.inr (inT_at 723 (by decide +kernel))⟩⟩
theorem mw_X9_wouldAsk : mwOk (mRow m_X9_wouldAsk) := ⟨inT_at 728 (by decide +kernel), inT_at 15 (by decide +kernel), ⟨inT_at 726 (by decide +kernel), Or.inr (inT_at 727 (by decide +kernel))⟩⟩
theorem mw_X9_recorded : mwOk (mRow m_X9_recorded) := ⟨inT_at 348 (by decide +kernel), inT_at 15 (by decide +kernel), ⟨inT_at 347 (by decide +kernel), Or.inr (inT_at 1 (by decide +kernel))⟩⟩
theorem mw_X9_isSave : mwOk (mRow m_X9_isSave) := ⟨inT_at 711 (by decide +kernel), inT_at 15 (by decide +kernel), inT_at 710 (by decide +kernel)⟩
theorem mw_X9_isSlot : mwOk (mRow m_X9_isSlot) := ⟨inT_at 475 (by decide +kernel), inT_at 15 (by decide +kernel), inT_at 474 (by decide +kernel)⟩
theorem mw_X9_isName : mwOk (mRow m_X9_isName) := ⟨inT_at 534 (by decide +kernel), inT_at 15 (by decide +kernel), inT_at 533 (by decide +kernel)⟩
theorem mw_X9_isFlow : mwOk (mRow m_X9_isFlow) := ⟨inT_at 636 (by decide +kernel), inT_at 15 (by decide +kernel), inT_at 635 (by decide +kernel)⟩
theorem mw_X9_isPlaceOfSlot : mwOk (mRow m_X9_isPlaceOfSlot) := ⟨inT_at 572 (by decide +kernel), inT_at 15 (by decide +kernel), inT_at 571 (by decide +kernel)⟩
theorem mw_X9_isBlock : mwOk (mRow m_X9_isBlock) := ⟨inT_at 525 (by decide +kernel), inT_at 15 (by decide +kernel), inT_at 524 (by decide +kernel)⟩
theorem mw_J6_bitCount_0f7a4 : mwOk (mRow m_J6_bitCount_0f7a4) := ⟨inT_at 528 (by decide +kernel), inT_at 26 (by decide +kernel), inT_at 527 (by decide +kernel)⟩
theorem mw_J9_floorMod_7cf53 : mwOk (mRow m_J9_floorMod_7cf53) := ⟨inT_at 305 (by decide +kernel), inT_at 25 (by decide +kernel), inT_at 304 (by decide +kernel)⟩
theorem mw_L_cell : mwOk (mRow m_L_cell) := ⟨inT_at 408 (by decide +kernel), inT_at 14 (by decide +kernel), inT_at 407 (by decide +kernel)⟩
theorem mw_L_up : mwOk (mRow m_L_up) := ⟨inT_at 412 (by decide +kernel), inT_at 14 (by decide +kernel), inT_at 411 (by decide +kernel)⟩
theorem mw_L_size : mwOk (mRow m_L_size) := ⟨inT_at 514 (by decide +kernel), inT_at 14 (by decide +kernel), inT_at 513 (by decide +kernel)⟩
theorem mw_L_any : mwOk (mRow m_L_any) := ⟨inT_at 704 (by decide +kernel), inT_at 14 (by decide +kernel), inT_at 703 (by decide +kernel)⟩
theorem mw_L_turn : mwOk (mRow m_L_turn) := ⟨inT_at 511 (by decide +kernel), inT_at 14 (by decide +kernel), inT_at 510 (by decide +kernel)⟩
theorem mw_L_name : mwOk (mRow m_L_name) := ⟨inT_at 701 (by decide +kernel), inT_at 14 (by decide +kernel), inT_at 700 (by decide +kernel)⟩
theorem mw_L_hasPlace : mwOk (mRow m_L_hasPlace) := ⟨inT_at 731 (by decide +kernel), inT_at 14 (by decide +kernel), inT_at 730 (by decide +kernel)⟩
theorem mw_L_areRouters : mwOk (mRow m_L_areRouters) := ⟨inT_at 742 (by decide +kernel), inT_at 14 (by decide +kernel), inT_at 741 (by decide +kernel)⟩
theorem mw_L_areEnding : mwOk (mRow m_L_areEnding) := ⟨inT_at 745 (by decide +kernel), inT_at 14 (by decide +kernel), inT_at 744 (by decide +kernel)⟩
theorem mw_L_view : mwOk (mRow m_L_view) := ⟨inT_at 416 (by decide +kernel), inT_at 14 (by decide +kernel), inT_at 415 (by decide +kernel)⟩
theorem mw_L_isSent : mwOk (mRow m_L_isSent) := ⟨inT_at 715 (by decide +kernel), inT_at 14 (by decide +kernel), inT_at 714 (by decide +kernel)⟩
theorem mw_L_isUndone : mwOk (mRow m_L_isUndone) := ⟨inT_at 760 (by decide +kernel), inT_at 14 (by decide +kernel), inT_at 759 (by decide +kernel)⟩
theorem mw_L_isSaved : mwOk (mRow m_L_isSaved) := ⟨inT_at 763 (by decide +kernel), inT_at 14 (by decide +kernel), inT_at 762 (by decide +kernel)⟩
/-- links of methods: the class that holds the link, its entry, the method, nest or not -/
def mlT : List (Nat × Nat × Nat × Nat) := [(24, 121, 80, 0), (9, 9, 46, 0), (8, 41, 2, 0), (8, 48, 18, 0), (9, 21, 13, 0), (3, 17, 46, 0), (24, 69, 83, 0), (9, 41, 15, 0), (3, 31, 14, 0), (3, 22, 113, 0), (3, 35, 47, 0), (8, 49, 30, 0), (5, 22, 3, 0), (8, 56, 33, 0), (6, 43, 3, 0), (6, 47, 37, 0), (8, 62, 20, 0), (4, 37, 10, 0), (2, 28, 3, 0), (2, 33, 37, 0), (9, 56, 53, 0), (8, 96, 19, 0), (9, 49, 105, 0), (9, 202, 16, 0), (24, 13, 102, 0), (9, 190, 76, 0), (8, 250, 77, 0), (8, 196, 35, 0), (6, 50, 34, 0), (6, 54, 41, 0), (8, 254, 78, 0), (8, 260, 22, 0), (8, 257, 79, 0), (8, 216, 68, 0), (8, 209, 65, 0), (8, 76, 6, 0), (8, 229, 5, 0), (1, 16, 6, 0), (24, 122, 114, 0), (24, 61, 115, 0), (24, 19, 95, 0), (9, 122, 48, 0), (9, 125, 71, 0), (8, 68, 48, 0), (8, 235, 72, 0), (8, 213, 67, 0), (8, 238, 73, 0), (8, 241, 66, 0), (8, 98, 49, 0), (24, 23, 96, 0), (9, 128, 49, 0), (9, 131, 74, 0), (8, 244, 75, 0), (8, 247, 26, 0), (24, 26, 97, 0), (9, 134, 107, 0), (9, 147, 39, 0), (7, 19, 40, 0), (24, 30, 98, 0), (9, 152, 50, 0), (9, 159, 22, 0), (24, 33, 99, 0), (9, 164, 21, 0), (9, 171, 12, 0), (2, 51, 11, 0), (24, 114, 118, 0), (24, 66, 116, 0), (24, 36, 81, 0), (9, 45, 51, 0), (9, 217, 112, 0), (9, 175, 108, 0), (8, 85, 7, 0), (24, 39, 82, 0), (9, 53, 52, 0), (8, 89, 4, 0), (8, 92, 32, 0), (6, 25, 2, 0), (6, 39, 38, 0), (24, 42, 84, 0), (9, 60, 54, 0), (8, 111, 38, 0), (24, 46, 85, 0), (9, 64, 55, 0), (8, 120, 40, 0), (24, 73, 86, 0), (9, 68, 56, 0), (24, 76, 87, 0), (9, 71, 57, 0), (8, 129, 34, 0), (24, 58, 88, 0), (9, 74, 58, 0), (24, 79, 91, 0), (9, 83, 60, 0), (8, 132, 50, 0), (24, 52, 90, 0), (9, 80, 59, 0), (24, 49, 89, 0), (9, 77, 61, 0), (8, 147, 25, 0), (4, 41, 21, 0), (4, 45, 11, 0), (4, 48, 24, 0), (8, 151, 27, 0), (4, 59, 5, 0), (8, 155, 21, 0), (8, 168, 23, 0), (8, 171, 63, 0), (8, 219, 28, 0), (4, 67, 26, 0), (4, 71, 9, 0), (4, 75, 23, 0), (8, 175, 24, 0), (8, 178, 64, 0), (8, 182, 62, 0), (8, 190, 45, 0), (7, 28, 43, 0), (7, 32, 44, 0), (8, 199, 42, 0), (24, 82, 119, 0), (24, 86, 117, 0), (24, 55, 94, 0), (9, 112, 106, 0), (9, 116, 47, 0), (24, 94, 100, 0), (9, 178, 68, 0), (24, 97, 103, 0), (24, 101, 104, 0), (24, 104, 120, 0), (24, 108, 92, 0), (9, 109, 17, 0), (24, 137, 121, 0), (24, 141, 122, 0), (24, 111, 101, 0), (9, 187, 69, 0), (8, 232, 70, 0), (24, 118, 93, 0), (8, 36, 29, 1), (5, 11, 1, 1), (8, 47, 31, 1), (6, 11, 1, 1), (6, 20, 36, 1), (4, 17, 8, 1), (2, 11, 1, 1), (2, 20, 36, 1), (9, 36, 0, 1), (8, 72, 111, 1), (7, 15, 107, 1), (8, 101, 107, 1), (8, 104, 110, 1), (8, 138, 108, 1), (8, 141, 109, 1)]
def mlOk (q : Nat × Nat × Nat × Nat) : Prop := mwOk (mRow q.2.2.1) ∧ mhOk (mRow q.2.2.1) ∧ (if q.2.2.2 = 0 then inT (.methodLink (cnm q.1) q.2.1 (mRow q.2.2.1).1) else inT (.methodLinkNest (cnm q.1) q.2.1 (mRow q.2.2.1).1 RX9))
theorem mh_at {m : Nat} (h : m < mTab.length) : mhOk (mRow m) := by
  unfold mRow
  rw [List.getD_eq_getElem?_getD, List.getElem?_eq_getElem h]
  exact mh_all _ (List.getElem_mem h)
theorem ml_0 : mlOk (24, 121, 80, 0) := ⟨mw_X9_init, mh_at (by decide +kernel), inT_at 29 (by decide +kernel)⟩
theorem ml_1 : mlOk (9, 9, 46, 0) := ⟨mw_X8_init, mh_at (by decide +kernel), inT_at 37 (by decide +kernel)⟩
theorem ml_2 : mlOk (8, 41, 2, 0) := ⟨mw_X1_become, mh_at (by decide +kernel), inT_at 77 (by decide +kernel)⟩
theorem ml_3 : mlOk (8, 48, 18, 0) := ⟨mw_X4_init, mh_at (by decide +kernel), inT_at 125 (by decide +kernel)⟩
theorem ml_4 : mlOk (9, 21, 13, 0) := ⟨mw_X3_init, mh_at (by decide +kernel), inT_at 226 (by decide +kernel)⟩
theorem ml_5 : mlOk (3, 17, 46, 0) := ⟨mw_X8_init, mh_at (by decide +kernel), inT_at 232 (by decide +kernel)⟩
theorem ml_6 : mlOk (24, 69, 83, 0) := ⟨mw_X9_addRouter, mh_at (by decide +kernel), inT_at 291 (by decide +kernel)⟩
theorem ml_7 : mlOk (9, 41, 15, 0) := ⟨mw_X3_draft, mh_at (by decide +kernel), inT_at 295 (by decide +kernel)⟩
theorem ml_8 : mlOk (3, 31, 14, 0) := ⟨mw_X3_row, mh_at (by decide +kernel), inT_at 299 (by decide +kernel)⟩
theorem ml_9 : mlOk (3, 22, 113, 0) := ⟨mw_J9_floorMod_7cf53, mh_at (by decide +kernel), inT_at 303 (by decide +kernel)⟩
theorem ml_10 : mlOk (3, 35, 47, 0) := ⟨mw_X8_copyFrom, mh_at (by decide +kernel), inT_at 306 (by decide +kernel)⟩
theorem ml_11 : mlOk (8, 49, 30, 0) := ⟨mw_X5_copyFrom, mh_at (by decide +kernel), inT_at 310 (by decide +kernel)⟩
theorem ml_12 : mlOk (5, 22, 3, 0) := ⟨mw_X1_copyFrom, mh_at (by decide +kernel), inT_at 314 (by decide +kernel)⟩
theorem ml_13 : mlOk (8, 56, 33, 0) := ⟨mw_X6_copyFrom, mh_at (by decide +kernel), inT_at 318 (by decide +kernel)⟩
theorem ml_14 : mlOk (6, 43, 3, 0) := ⟨mw_X1_copyFrom, mh_at (by decide +kernel), inT_at 322 (by decide +kernel)⟩
theorem ml_15 : mlOk (6, 47, 37, 0) := ⟨mw_X7_copyFrom, mh_at (by decide +kernel), inT_at 323 (by decide +kernel)⟩
theorem ml_16 : mlOk (8, 62, 20, 0) := ⟨mw_X4_copyFrom, mh_at (by decide +kernel), inT_at 327 (by decide +kernel)⟩
theorem ml_17 : mlOk (4, 37, 10, 0) := ⟨mw_X2_copyFrom, mh_at (by decide +kernel), inT_at 331 (by decide +kernel)⟩
theorem ml_18 : mlOk (2, 28, 3, 0) := ⟨mw_X1_copyFrom, mh_at (by decide +kernel), inT_at 335 (by decide +kernel)⟩
theorem ml_19 : mlOk (2, 33, 37, 0) := ⟨mw_X7_copyFrom, mh_at (by decide +kernel), inT_at 336 (by decide +kernel)⟩
theorem ml_20 : mlOk (9, 56, 53, 0) := ⟨mw_X8_newRouter, mh_at (by decide +kernel), inT_at 337 (by decide +kernel)⟩
theorem ml_21 : mlOk (8, 96, 19, 0) := ⟨mw_X4_start, mh_at (by decide +kernel), inT_at 341 (by decide +kernel)⟩
theorem ml_22 : mlOk (9, 49, 105, 0) := ⟨mw_X9_recorded, mh_at (by decide +kernel), inT_at 345 (by decide +kernel)⟩
theorem ml_23 : mlOk (9, 202, 16, 0) := ⟨mw_X3_keepDraft, mh_at (by decide +kernel), inT_at 349 (by decide +kernel)⟩
theorem ml_24 : mlOk (24, 13, 102, 0) := ⟨mw_X9_total, mh_at (by decide +kernel), inT_at 353 (by decide +kernel)⟩
theorem ml_25 : mlOk (9, 190, 76, 0) := ⟨mw_X8_totalOf, mh_at (by decide +kernel), inT_at 357 (by decide +kernel)⟩
theorem ml_26 : mlOk (8, 250, 77, 0) := ⟨mw_X8_sitesUp, mh_at (by decide +kernel), inT_at 361 (by decide +kernel)⟩
theorem ml_27 : mlOk (8, 196, 35, 0) := ⟨mw_X6_isUp, mh_at (by decide +kernel), inT_at 365 (by decide +kernel)⟩
theorem ml_28 : mlOk (6, 50, 34, 0) := ⟨mw_X6_isRegistered, mh_at (by decide +kernel), inT_at 369 (by decide +kernel)⟩
theorem ml_29 : mlOk (6, 54, 41, 0) := ⟨mw_X7_areEmpty, mh_at (by decide +kernel), inT_at 373 (by decide +kernel)⟩
theorem ml_30 : mlOk (8, 254, 78, 0) := ⟨mw_X8_sumOverRouters, mh_at (by decide +kernel), inT_at 377 (by decide +kernel)⟩
theorem ml_31 : mlOk (8, 260, 22, 0) := ⟨mw_X4_property, mh_at (by decide +kernel), inT_at 381 (by decide +kernel)⟩
theorem ml_32 : mlOk (8, 257, 79, 0) := ⟨mw_X8_namesWithAnswer, mh_at (by decide +kernel), inT_at 385 (by decide +kernel)⟩
theorem ml_33 : mlOk (8, 216, 68, 0) := ⟨mw_X8_answerFor, mh_at (by decide +kernel), inT_at 389 (by decide +kernel)⟩
theorem ml_34 : mlOk (8, 209, 65, 0) := ⟨mw_X8_homeOf, mh_at (by decide +kernel), inT_at 393 (by decide +kernel)⟩
theorem ml_35 : mlOk (8, 76, 6, 0) := ⟨mw_X1_holds, mh_at (by decide +kernel), inT_at 397 (by decide +kernel)⟩
theorem ml_36 : mlOk (8, 229, 5, 0) := ⟨mw_X1_has, mh_at (by decide +kernel), inT_at 401 (by decide +kernel)⟩
theorem ml_37 : mlOk (1, 16, 6, 0) := ⟨mw_X1_holds, mh_at (by decide +kernel), inT_at 405 (by decide +kernel)⟩
theorem ml_38 : mlOk (24, 122, 114, 0) := ⟨mw_L_cell, mh_at (by decide +kernel), inT_at 406 (by decide +kernel)⟩
theorem ml_39 : mlOk (24, 61, 115, 0) := ⟨mw_L_up, mh_at (by decide +kernel), inT_at 410 (by decide +kernel)⟩
theorem ml_40 : mlOk (24, 19, 95, 0) := ⟨mw_X9_server, mh_at (by decide +kernel), inT_at 419 (by decide +kernel)⟩
theorem ml_41 : mlOk (9, 122, 48, 0) := ⟨mw_X8_isServer, mh_at (by decide +kernel), inT_at 423 (by decide +kernel)⟩
theorem ml_42 : mlOk (9, 125, 71, 0) := ⟨mw_X8_serverProperty, mh_at (by decide +kernel), inT_at 427 (by decide +kernel)⟩
theorem ml_43 : mlOk (8, 68, 48, 0) := ⟨mw_X8_isServer, mh_at (by decide +kernel), inT_at 431 (by decide +kernel)⟩
theorem ml_44 : mlOk (8, 235, 72, 0) := ⟨mw_X8_childrenOf, mh_at (by decide +kernel), inT_at 432 (by decide +kernel)⟩
theorem ml_45 : mlOk (8, 213, 67, 0) := ⟨mw_X8_hopsTo, mh_at (by decide +kernel), inT_at 436 (by decide +kernel)⟩
theorem ml_46 : mlOk (8, 238, 73, 0) := ⟨mw_X8_sitesAtHome, mh_at (by decide +kernel), inT_at 440 (by decide +kernel)⟩
theorem ml_47 : mlOk (8, 241, 66, 0) := ⟨mw_X8_homeOfSite, mh_at (by decide +kernel), inT_at 444 (by decide +kernel)⟩
theorem ml_48 : mlOk (8, 98, 49, 0) := ⟨mw_X8_isSite, mh_at (by decide +kernel), inT_at 448 (by decide +kernel)⟩
theorem ml_49 : mlOk (24, 23, 96, 0) := ⟨mw_X9_site, mh_at (by decide +kernel), inT_at 452 (by decide +kernel)⟩
theorem ml_50 : mlOk (9, 128, 49, 0) := ⟨mw_X8_isSite, mh_at (by decide +kernel), inT_at 456 (by decide +kernel)⟩
theorem ml_51 : mlOk (9, 131, 74, 0) := ⟨mw_X8_siteProperty, mh_at (by decide +kernel), inT_at 457 (by decide +kernel)⟩
theorem ml_52 : mlOk (8, 244, 75, 0) := ⟨mw_X8_mapsOf, mh_at (by decide +kernel), inT_at 461 (by decide +kernel)⟩
theorem ml_53 : mlOk (8, 247, 26, 0) := ⟨mw_X4_placeOfSite, mh_at (by decide +kernel), inT_at 465 (by decide +kernel)⟩
theorem ml_54 : mlOk (24, 26, 97, 0) := ⟨mw_X9_slot, mh_at (by decide +kernel), inT_at 469 (by decide +kernel)⟩
theorem ml_55 : mlOk (9, 134, 107, 0) := ⟨mw_X9_isSlot, mh_at (by decide +kernel), inT_at 473 (by decide +kernel)⟩
theorem ml_56 : mlOk (9, 147, 39, 0) := ⟨mw_X7_propertyOf, mh_at (by decide +kernel), inT_at 476 (by decide +kernel)⟩
theorem ml_57 : mlOk (7, 19, 40, 0) := ⟨mw_X7_isEmpty, mh_at (by decide +kernel), inT_at 480 (by decide +kernel)⟩
theorem ml_58 : mlOk (24, 30, 98, 0) := ⟨mw_X9_router, mh_at (by decide +kernel), inT_at 484 (by decide +kernel)⟩
theorem ml_59 : mlOk (9, 152, 50, 0) := ⟨mw_X8_isRouter, mh_at (by decide +kernel), inT_at 488 (by decide +kernel)⟩
theorem ml_60 : mlOk (9, 159, 22, 0) := ⟨mw_X4_property, mh_at (by decide +kernel), inT_at 492 (by decide +kernel)⟩
theorem ml_61 : mlOk (24, 33, 99, 0) := ⟨mw_X9_map, mh_at (by decide +kernel), inT_at 493 (by decide +kernel)⟩
theorem ml_62 : mlOk (9, 164, 21, 0) := ⟨mw_X4_isPlace, mh_at (by decide +kernel), inT_at 497 (by decide +kernel)⟩
theorem ml_63 : mlOk (9, 171, 12, 0) := ⟨mw_X2_property, mh_at (by decide +kernel), inT_at 501 (by decide +kernel)⟩
theorem ml_64 : mlOk (2, 51, 11, 0) := ⟨mw_X2_isHolding, mh_at (by decide +kernel), inT_at 505 (by decide +kernel)⟩
theorem ml_65 : mlOk (24, 114, 118, 0) := ⟨mw_L_turn, mh_at (by decide +kernel), inT_at 509 (by decide +kernel)⟩
theorem ml_66 : mlOk (24, 66, 116, 0) := ⟨mw_L_size, mh_at (by decide +kernel), inT_at 512 (by decide +kernel)⟩
theorem ml_67 : mlOk (24, 36, 81, 0) := ⟨mw_X9_addServer, mh_at (by decide +kernel), inT_at 515 (by decide +kernel)⟩
theorem ml_68 : mlOk (9, 45, 51, 0) := ⟨mw_X8_newServer, mh_at (by decide +kernel), inT_at 519 (by decide +kernel)⟩
theorem ml_69 : mlOk (9, 217, 112, 0) := ⟨mw_J6_bitCount_0f7a4, mh_at (by decide +kernel), inT_at 526 (by decide +kernel)⟩
theorem ml_70 : mlOk (9, 175, 108, 0) := ⟨mw_X9_isName, mh_at (by decide +kernel), inT_at 532 (by decide +kernel)⟩
theorem ml_71 : mlOk (8, 85, 7, 0) := ⟨mw_X1_meets, mh_at (by decide +kernel), inT_at 535 (by decide +kernel)⟩
theorem ml_72 : mlOk (24, 39, 82, 0) := ⟨mw_X9_addSite, mh_at (by decide +kernel), inT_at 539 (by decide +kernel)⟩
theorem ml_73 : mlOk (9, 53, 52, 0) := ⟨mw_X8_newSite, mh_at (by decide +kernel), inT_at 543 (by decide +kernel)⟩
theorem ml_74 : mlOk (8, 89, 4, 0) := ⟨mw_X1_isAt, mh_at (by decide +kernel), inT_at 547 (by decide +kernel)⟩
theorem ml_75 : mlOk (8, 92, 32, 0) := ⟨mw_X6_start, mh_at (by decide +kernel), inT_at 551 (by decide +kernel)⟩
theorem ml_76 : mlOk (6, 25, 2, 0) := ⟨mw_X1_become, mh_at (by decide +kernel), inT_at 555 (by decide +kernel)⟩
theorem ml_77 : mlOk (6, 39, 38, 0) := ⟨mw_X7_fill, mh_at (by decide +kernel), inT_at 556 (by decide +kernel)⟩
theorem ml_78 : mlOk (24, 42, 84, 0) := ⟨mw_X9_setSlot, mh_at (by decide +kernel), inT_at 561 (by decide +kernel)⟩
theorem ml_79 : mlOk (9, 60, 54, 0) := ⟨mw_X8_fillSlot, mh_at (by decide +kernel), inT_at 565 (by decide +kernel)⟩
theorem ml_80 : mlOk (8, 111, 38, 0) := ⟨mw_X7_fill, mh_at (by decide +kernel), inT_at 573 (by decide +kernel)⟩
theorem ml_81 : mlOk (24, 46, 85, 0) := ⟨mw_X9_emptySlot, mh_at (by decide +kernel), inT_at 574 (by decide +kernel)⟩
theorem ml_82 : mlOk (9, 64, 55, 0) := ⟨mw_X8_vacateSlot, mh_at (by decide +kernel), inT_at 578 (by decide +kernel)⟩
theorem ml_83 : mlOk (8, 120, 40, 0) := ⟨mw_X7_isEmpty, mh_at (by decide +kernel), inT_at 582 (by decide +kernel)⟩
theorem ml_84 : mlOk (24, 73, 86, 0) := ⟨mw_X9_register, mh_at (by decide +kernel), inT_at 583 (by decide +kernel)⟩
theorem ml_85 : mlOk (9, 68, 56, 0) := ⟨mw_X8_startRegistration, mh_at (by decide +kernel), inT_at 587 (by decide +kernel)⟩
theorem ml_86 : mlOk (24, 76, 87, 0) := ⟨mw_X9_unregister, mh_at (by decide +kernel), inT_at 591 (by decide +kernel)⟩
theorem ml_87 : mlOk (9, 71, 57, 0) := ⟨mw_X8_endRegistration, mh_at (by decide +kernel), inT_at 595 (by decide +kernel)⟩
theorem ml_88 : mlOk (8, 129, 34, 0) := ⟨mw_X6_isRegistered, mh_at (by decide +kernel), inT_at 599 (by decide +kernel)⟩
theorem ml_89 : mlOk (24, 58, 88, 0) := ⟨mw_X9_setMapLife, mh_at (by decide +kernel), inT_at 600 (by decide +kernel)⟩
theorem ml_90 : mlOk (9, 74, 58, 0) := ⟨mw_X8_changeMapLife, mh_at (by decide +kernel), inT_at 604 (by decide +kernel)⟩
theorem ml_91 : mlOk (24, 79, 91, 0) := ⟨mw_X9_forget, mh_at (by decide +kernel), inT_at 608 (by decide +kernel)⟩
theorem ml_92 : mlOk (9, 83, 60, 0) := ⟨mw_X8_emptyCache, mh_at (by decide +kernel), inT_at 612 (by decide +kernel)⟩
theorem ml_93 : mlOk (8, 132, 50, 0) := ⟨mw_X8_isRouter, mh_at (by decide +kernel), inT_at 616 (by decide +kernel)⟩
theorem ml_94 : mlOk (24, 52, 90, 0) := ⟨mw_X9_pass, mh_at (by decide +kernel), inT_at 617 (by decide +kernel)⟩
theorem ml_95 : mlOk (9, 80, 59, 0) := ⟨mw_X8_letPass, mh_at (by decide +kernel), inT_at 621 (by decide +kernel)⟩
theorem ml_96 : mlOk (24, 49, 89, 0) := ⟨mw_X9_send, mh_at (by decide +kernel), inT_at 625 (by decide +kernel)⟩
theorem ml_97 : mlOk (9, 77, 61, 0) := ⟨mw_X8_sendLetter, mh_at (by decide +kernel), inT_at 629 (by decide +kernel)⟩
theorem ml_98 : mlOk (8, 147, 25, 0) := ⟨mw_X4_dropEnded, mh_at (by decide +kernel), inT_at 637 (by decide +kernel)⟩
theorem ml_99 : mlOk (4, 41, 21, 0) := ⟨mw_X4_isPlace, mh_at (by decide +kernel), inT_at 641 (by decide +kernel)⟩
theorem ml_100 : mlOk (4, 45, 11, 0) := ⟨mw_X2_isHolding, mh_at (by decide +kernel), inT_at 642 (by decide +kernel)⟩
theorem ml_101 : mlOk (4, 48, 24, 0) := ⟨mw_X4_drop, mh_at (by decide +kernel), inT_at 643 (by decide +kernel)⟩
theorem ml_102 : mlOk (8, 151, 27, 0) := ⟨mw_X4_placeOfSmallest, mh_at (by decide +kernel), inT_at 647 (by decide +kernel)⟩
theorem ml_103 : mlOk (4, 59, 5, 0) := ⟨mw_X1_has, mh_at (by decide +kernel), inT_at 651 (by decide +kernel)⟩
theorem ml_104 : mlOk (8, 155, 21, 0) := ⟨mw_X4_isPlace, mh_at (by decide +kernel), inT_at 652 (by decide +kernel)⟩
theorem ml_105 : mlOk (8, 168, 23, 0) := ⟨mw_X4_moveToFront, mh_at (by decide +kernel), inT_at 653 (by decide +kernel)⟩
theorem ml_106 : mlOk (8, 171, 63, 0) := ⟨mw_X8_ask, mh_at (by decide +kernel), inT_at 657 (by decide +kernel)⟩
theorem ml_107 : mlOk (8, 219, 28, 0) := ⟨mw_X4_addMap, mh_at (by decide +kernel), inT_at 661 (by decide +kernel)⟩
theorem ml_108 : mlOk (4, 67, 26, 0) := ⟨mw_X4_placeOfSite, mh_at (by decide +kernel), inT_at 665 (by decide +kernel)⟩
theorem ml_109 : mlOk (4, 71, 9, 0) := ⟨mw_X2_become, mh_at (by decide +kernel), inT_at 666 (by decide +kernel)⟩
theorem ml_110 : mlOk (4, 75, 23, 0) := ⟨mw_X4_moveToFront, mh_at (by decide +kernel), inT_at 670 (by decide +kernel)⟩
theorem ml_111 : mlOk (8, 175, 24, 0) := ⟨mw_X4_drop, mh_at (by decide +kernel), inT_at 671 (by decide +kernel)⟩
theorem ml_112 : mlOk (8, 178, 64, 0) := ⟨mw_X8_goByProxy, mh_at (by decide +kernel), inT_at 672 (by decide +kernel)⟩
theorem ml_113 : mlOk (8, 182, 62, 0) := ⟨mw_X8_placeByMap, mh_at (by decide +kernel), inT_at 676 (by decide +kernel)⟩
theorem ml_114 : mlOk (8, 190, 45, 0) := ⟨mw_X7_placeFor, mh_at (by decide +kernel), inT_at 680 (by decide +kernel)⟩
theorem ml_115 : mlOk (7, 28, 43, 0) := ⟨mw_X7_lowestPriority, mh_at (by decide +kernel), inT_at 684 (by decide +kernel)⟩
theorem ml_116 : mlOk (7, 32, 44, 0) := ⟨mw_X7_weightThatCounts, mh_at (by decide +kernel), inT_at 691 (by decide +kernel)⟩
theorem ml_117 : mlOk (8, 199, 42, 0) := ⟨mw_X7_have, mh_at (by decide +kernel), inT_at 695 (by decide +kernel)⟩
theorem ml_118 : mlOk (24, 82, 119, 0) := ⟨mw_L_name, mh_at (by decide +kernel), inT_at 699 (by decide +kernel)⟩
theorem ml_119 : mlOk (24, 86, 117, 0) := ⟨mw_L_any, mh_at (by decide +kernel), inT_at 702 (by decide +kernel)⟩
theorem ml_120 : mlOk (24, 55, 94, 0) := ⟨mw_X9_restore, mh_at (by decide +kernel), inT_at 705 (by decide +kernel)⟩
theorem ml_121 : mlOk (9, 112, 106, 0) := ⟨mw_X9_isSave, mh_at (by decide +kernel), inT_at 709 (by decide +kernel)⟩
theorem ml_122 : mlOk (9, 116, 47, 0) := ⟨mw_X8_copyFrom, mh_at (by decide +kernel), inT_at 712 (by decide +kernel)⟩
theorem ml_123 : mlOk (24, 94, 100, 0) := ⟨mw_X9_answer, mh_at (by decide +kernel), inT_at 716 (by decide +kernel)⟩
theorem ml_124 : mlOk (9, 178, 68, 0) := ⟨mw_X8_answerFor, mh_at (by decide +kernel), inT_at 720 (by decide +kernel)⟩
theorem ml_125 : mlOk (24, 97, 103, 0) := ⟨mw_X9_wouldReach, mh_at (by decide +kernel), inT_at 721 (by decide +kernel)⟩
theorem ml_126 : mlOk (24, 101, 104, 0) := ⟨mw_X9_wouldAsk, mh_at (by decide +kernel), inT_at 725 (by decide +kernel)⟩
theorem ml_127 : mlOk (24, 104, 120, 0) := ⟨mw_L_hasPlace, mh_at (by decide +kernel), inT_at 729 (by decide +kernel)⟩
theorem ml_128 : mlOk (24, 108, 92, 0) := ⟨mw_X9_undo, mh_at (by decide +kernel), inT_at 732 (by decide +kernel)⟩
theorem ml_129 : mlOk (9, 109, 17, 0) := ⟨mw_X3_takeLatest, mh_at (by decide +kernel), inT_at 736 (by decide +kernel)⟩
theorem ml_130 : mlOk (24, 137, 121, 0) := ⟨mw_L_areRouters, mh_at (by decide +kernel), inT_at 740 (by decide +kernel)⟩
theorem ml_131 : mlOk (24, 141, 122, 0) := ⟨mw_L_areEnding, mh_at (by decide +kernel), inT_at 743 (by decide +kernel)⟩
theorem ml_132 : mlOk (24, 111, 101, 0) := ⟨mw_X9_endingNext, mh_at (by decide +kernel), inT_at 746 (by decide +kernel)⟩
theorem ml_133 : mlOk (9, 187, 69, 0) := ⟨mw_X8_siteEndingAt, mh_at (by decide +kernel), inT_at 750 (by decide +kernel)⟩
theorem ml_134 : mlOk (8, 232, 70, 0) := ⟨mw_X8_sitesEndingAheadOf, mh_at (by decide +kernel), inT_at 754 (by decide +kernel)⟩
theorem ml_135 : mlOk (24, 118, 93, 0) := ⟨mw_X9_save, mh_at (by decide +kernel), inT_at 764 (by decide +kernel)⟩
theorem ml_136 : mlOk (8, 36, 29, 1) := ⟨mw_X5_init, mh_at (by decide +kernel), inT_at 48 (by decide +kernel)⟩
theorem ml_137 : mlOk (5, 11, 1, 1) := ⟨mw_X1_init, mh_at (by decide +kernel), inT_at 54 (by decide +kernel)⟩
theorem ml_138 : mlOk (8, 47, 31, 1) := ⟨mw_X6_init, mh_at (by decide +kernel), inT_at 82 (by decide +kernel)⟩
theorem ml_139 : mlOk (6, 11, 1, 1) := ⟨mw_X1_init, mh_at (by decide +kernel), inT_at 87 (by decide +kernel)⟩
theorem ml_140 : mlOk (6, 20, 36, 1) := ⟨mw_X7_init, mh_at (by decide +kernel), inT_at 90 (by decide +kernel)⟩
theorem ml_141 : mlOk (4, 17, 8, 1) := ⟨mw_X2_init, mh_at (by decide +kernel), inT_at 132 (by decide +kernel)⟩
theorem ml_142 : mlOk (2, 11, 1, 1) := ⟨mw_X1_init, mh_at (by decide +kernel), inT_at 137 (by decide +kernel)⟩
theorem ml_143 : mlOk (2, 20, 36, 1) := ⟨mw_X7_init, mh_at (by decide +kernel), inT_at 139 (by decide +kernel)⟩
theorem ml_144 : mlOk (9, 36, 0, 1) := ⟨mw_X0_init, mh_at (by decide +kernel), inT_at 246 (by decide +kernel)⟩
theorem ml_145 : mlOk (8, 72, 111, 1) := ⟨mw_X9_isBlock, mh_at (by decide +kernel), inT_at 523 (by decide +kernel)⟩
theorem ml_146 : mlOk (7, 15, 107, 1) := ⟨mw_X9_isSlot, mh_at (by decide +kernel), inT_at 560 (by decide +kernel)⟩
theorem ml_147 : mlOk (8, 101, 107, 1) := ⟨mw_X9_isSlot, mh_at (by decide +kernel), inT_at 569 (by decide +kernel)⟩
theorem ml_148 : mlOk (8, 104, 110, 1) := ⟨mw_X9_isPlaceOfSlot, mh_at (by decide +kernel), inT_at 570 (by decide +kernel)⟩
theorem ml_149 : mlOk (8, 138, 108, 1) := ⟨mw_X9_isName, mh_at (by decide +kernel), inT_at 633 (by decide +kernel)⟩
theorem ml_150 : mlOk (8, 141, 109, 1) := ⟨mw_X9_isFlow, mh_at (by decide +kernel), inT_at 634 (by decide +kernel)⟩
/-- links of methods with longs -/
def mlT2 : List (Nat × Nat × Nat × Nat) := [(24, 90, 123, 0), (24, 133, 124, 0), (24, 126, 125, 0), (24, 130, 126, 0)]
theorem mk_0 : mlOk (24, 90, 123, 0) := ⟨mw_L_view, mh_at (by decide +kernel), inT_at 414 (by decide +kernel)⟩
theorem mk_1 : mlOk (24, 133, 124, 0) := ⟨mw_L_isSent, mh_at (by decide +kernel), inT_at 713 (by decide +kernel)⟩
theorem mk_2 : mlOk (24, 126, 125, 0) := ⟨mw_L_isUndone, mh_at (by decide +kernel), inT_at 758 (by decide +kernel)⟩
theorem mk_3 : mlOk (24, 130, 126, 0) := ⟨mw_L_isSaved, mh_at (by decide +kernel), inT_at 761 (by decide +kernel)⟩
theorem mlT2_ok : ∀ q ∈ mlT2, mlOk q := List.forall_mem_cons.mpr ⟨mk_0, List.forall_mem_cons.mpr ⟨mk_1, List.forall_mem_cons.mpr ⟨mk_2, List.forall_mem_cons.mpr ⟨mk_3, fun _ h => absurd h List.not_mem_nil⟩⟩⟩⟩
set_option maxRecDepth 100000 in
theorem mlT_ok : ∀ q ∈ mlT, mlOk q := List.forall_mem_cons.mpr ⟨ml_0, List.forall_mem_cons.mpr ⟨ml_1, List.forall_mem_cons.mpr ⟨ml_2, List.forall_mem_cons.mpr ⟨ml_3, List.forall_mem_cons.mpr ⟨ml_4, List.forall_mem_cons.mpr ⟨ml_5, List.forall_mem_cons.mpr ⟨ml_6, List.forall_mem_cons.mpr ⟨ml_7, List.forall_mem_cons.mpr ⟨ml_8, List.forall_mem_cons.mpr ⟨ml_9, List.forall_mem_cons.mpr ⟨ml_10, List.forall_mem_cons.mpr ⟨ml_11, List.forall_mem_cons.mpr ⟨ml_12, List.forall_mem_cons.mpr ⟨ml_13, List.forall_mem_cons.mpr ⟨ml_14, List.forall_mem_cons.mpr ⟨ml_15, List.forall_mem_cons.mpr ⟨ml_16, List.forall_mem_cons.mpr ⟨ml_17, List.forall_mem_cons.mpr ⟨ml_18, List.forall_mem_cons.mpr ⟨ml_19, List.forall_mem_cons.mpr ⟨ml_20, List.forall_mem_cons.mpr ⟨ml_21, List.forall_mem_cons.mpr ⟨ml_22, List.forall_mem_cons.mpr ⟨ml_23, List.forall_mem_cons.mpr ⟨ml_24, List.forall_mem_cons.mpr ⟨ml_25, List.forall_mem_cons.mpr ⟨ml_26, List.forall_mem_cons.mpr ⟨ml_27, List.forall_mem_cons.mpr ⟨ml_28, List.forall_mem_cons.mpr ⟨ml_29, List.forall_mem_cons.mpr ⟨ml_30, List.forall_mem_cons.mpr ⟨ml_31, List.forall_mem_cons.mpr ⟨ml_32, List.forall_mem_cons.mpr ⟨ml_33, List.forall_mem_cons.mpr ⟨ml_34, List.forall_mem_cons.mpr ⟨ml_35, List.forall_mem_cons.mpr ⟨ml_36, List.forall_mem_cons.mpr ⟨ml_37, List.forall_mem_cons.mpr ⟨ml_38, List.forall_mem_cons.mpr ⟨ml_39, List.forall_mem_cons.mpr ⟨ml_40, List.forall_mem_cons.mpr ⟨ml_41, List.forall_mem_cons.mpr ⟨ml_42, List.forall_mem_cons.mpr ⟨ml_43, List.forall_mem_cons.mpr ⟨ml_44, List.forall_mem_cons.mpr ⟨ml_45, List.forall_mem_cons.mpr ⟨ml_46, List.forall_mem_cons.mpr ⟨ml_47, List.forall_mem_cons.mpr ⟨ml_48, List.forall_mem_cons.mpr ⟨ml_49, List.forall_mem_cons.mpr ⟨ml_50, List.forall_mem_cons.mpr ⟨ml_51, List.forall_mem_cons.mpr ⟨ml_52, List.forall_mem_cons.mpr ⟨ml_53, List.forall_mem_cons.mpr ⟨ml_54, List.forall_mem_cons.mpr ⟨ml_55, List.forall_mem_cons.mpr ⟨ml_56, List.forall_mem_cons.mpr ⟨ml_57, List.forall_mem_cons.mpr ⟨ml_58, List.forall_mem_cons.mpr ⟨ml_59, List.forall_mem_cons.mpr ⟨ml_60, List.forall_mem_cons.mpr ⟨ml_61, List.forall_mem_cons.mpr ⟨ml_62, List.forall_mem_cons.mpr ⟨ml_63, List.forall_mem_cons.mpr ⟨ml_64, List.forall_mem_cons.mpr ⟨ml_65, List.forall_mem_cons.mpr ⟨ml_66, List.forall_mem_cons.mpr ⟨ml_67, List.forall_mem_cons.mpr ⟨ml_68, List.forall_mem_cons.mpr ⟨ml_69, List.forall_mem_cons.mpr ⟨ml_70, List.forall_mem_cons.mpr ⟨ml_71, List.forall_mem_cons.mpr ⟨ml_72, List.forall_mem_cons.mpr ⟨ml_73, List.forall_mem_cons.mpr ⟨ml_74, List.forall_mem_cons.mpr ⟨ml_75, List.forall_mem_cons.mpr ⟨ml_76, List.forall_mem_cons.mpr ⟨ml_77, List.forall_mem_cons.mpr ⟨ml_78, List.forall_mem_cons.mpr ⟨ml_79, List.forall_mem_cons.mpr ⟨ml_80, List.forall_mem_cons.mpr ⟨ml_81, List.forall_mem_cons.mpr ⟨ml_82, List.forall_mem_cons.mpr ⟨ml_83, List.forall_mem_cons.mpr ⟨ml_84, List.forall_mem_cons.mpr ⟨ml_85, List.forall_mem_cons.mpr ⟨ml_86, List.forall_mem_cons.mpr ⟨ml_87, List.forall_mem_cons.mpr ⟨ml_88, List.forall_mem_cons.mpr ⟨ml_89, List.forall_mem_cons.mpr ⟨ml_90, List.forall_mem_cons.mpr ⟨ml_91, List.forall_mem_cons.mpr ⟨ml_92, List.forall_mem_cons.mpr ⟨ml_93, List.forall_mem_cons.mpr ⟨ml_94, List.forall_mem_cons.mpr ⟨ml_95, List.forall_mem_cons.mpr ⟨ml_96, List.forall_mem_cons.mpr ⟨ml_97, List.forall_mem_cons.mpr ⟨ml_98, List.forall_mem_cons.mpr ⟨ml_99, List.forall_mem_cons.mpr ⟨ml_100, List.forall_mem_cons.mpr ⟨ml_101, List.forall_mem_cons.mpr ⟨ml_102, List.forall_mem_cons.mpr ⟨ml_103, List.forall_mem_cons.mpr ⟨ml_104, List.forall_mem_cons.mpr ⟨ml_105, List.forall_mem_cons.mpr ⟨ml_106, List.forall_mem_cons.mpr ⟨ml_107, List.forall_mem_cons.mpr ⟨ml_108, List.forall_mem_cons.mpr ⟨ml_109, List.forall_mem_cons.mpr ⟨ml_110, List.forall_mem_cons.mpr ⟨ml_111, List.forall_mem_cons.mpr ⟨ml_112, List.forall_mem_cons.mpr ⟨ml_113, List.forall_mem_cons.mpr ⟨ml_114, List.forall_mem_cons.mpr ⟨ml_115, List.forall_mem_cons.mpr ⟨ml_116, List.forall_mem_cons.mpr ⟨ml_117, List.forall_mem_cons.mpr ⟨ml_118, List.forall_mem_cons.mpr ⟨ml_119, List.forall_mem_cons.mpr ⟨ml_120, List.forall_mem_cons.mpr ⟨ml_121, List.forall_mem_cons.mpr ⟨ml_122, List.forall_mem_cons.mpr ⟨ml_123, List.forall_mem_cons.mpr ⟨ml_124, List.forall_mem_cons.mpr ⟨ml_125, List.forall_mem_cons.mpr ⟨ml_126, List.forall_mem_cons.mpr ⟨ml_127, List.forall_mem_cons.mpr ⟨ml_128, List.forall_mem_cons.mpr ⟨ml_129, List.forall_mem_cons.mpr ⟨ml_130, List.forall_mem_cons.mpr ⟨ml_131, List.forall_mem_cons.mpr ⟨ml_132, List.forall_mem_cons.mpr ⟨ml_133, List.forall_mem_cons.mpr ⟨ml_134, List.forall_mem_cons.mpr ⟨ml_135, List.forall_mem_cons.mpr ⟨ml_136, List.forall_mem_cons.mpr ⟨ml_137, List.forall_mem_cons.mpr ⟨ml_138, List.forall_mem_cons.mpr ⟨ml_139, List.forall_mem_cons.mpr ⟨ml_140, List.forall_mem_cons.mpr ⟨ml_141, List.forall_mem_cons.mpr ⟨ml_142, List.forall_mem_cons.mpr ⟨ml_143, List.forall_mem_cons.mpr ⟨ml_144, List.forall_mem_cons.mpr ⟨ml_145, List.forall_mem_cons.mpr ⟨ml_146, List.forall_mem_cons.mpr ⟨ml_147, List.forall_mem_cons.mpr ⟨ml_148, List.forall_mem_cons.mpr ⟨ml_149, List.forall_mem_cons.mpr ⟨ml_150, fun _ h => absurd h List.not_mem_nil⟩⟩⟩⟩⟩⟩⟩⟩⟩⟩⟩⟩⟩⟩⟩⟩⟩⟩⟩⟩⟩⟩⟩⟩⟩⟩⟩⟩⟩⟩⟩⟩⟩⟩⟩⟩⟩⟩⟩⟩⟩⟩⟩⟩⟩⟩⟩⟩⟩⟩⟩⟩⟩⟩⟩⟩⟩⟩⟩⟩⟩⟩⟩⟩⟩⟩⟩⟩⟩⟩⟩⟩⟩⟩⟩⟩⟩⟩⟩⟩⟩⟩⟩⟩⟩⟩⟩⟩⟩⟩⟩⟩⟩⟩⟩⟩⟩⟩⟩⟩⟩⟩⟩⟩⟩⟩⟩⟩⟩⟩⟩⟩⟩⟩⟩⟩⟩⟩⟩⟩⟩⟩⟩⟩⟩⟩⟩⟩⟩⟩⟩⟩⟩⟩⟩⟩⟩⟩⟩⟩⟩⟩⟩⟩⟩⟩⟩⟩⟩⟩⟩
theorem ck_265 : inT (.constant RJ6 265 1431655765) := inT_at 529 (by decide +kernel)
theorem ck_266 : inT (.constant RJ6 266 858993459) := inT_at 530 (by decide +kernel)
theorem ck_267 : inT (.constant RJ6 267 252645135) := inT_at 531 (by decide +kernel)
theorem ck_7 : inT (.constant RL 7 763049417) := inT_at 409 (by decide +kernel)
theorem ck_8 : inT (.constant RL 8 2147483647) := inT_at 413 (by decide +kernel)
theorem cl_9 : inT (.constantLong RL 9 7) := inT_at 417 (by decide +kernel)
theorem cl_11 : inT (.constantLong RL 11 31) := inT_at 418 (by decide +kernel)
theorem mmin_ok : inT (.methodLink RX7 22 Lib.Math.min.name) ∧ inT (.static Lib.Math.min.name) ∧ inT (.initialized "java/lang/Math") ∧ inT (.code Lib.Math.min.name Lib.Math.min.code 2 (some .int)) := ⟨inT_at 688 (by decide +kernel), inT_at 689 (by decide +kernel), inT_at 25 (by decide +kernel), inT_at 690 (by decide +kernel)⟩
theorem wx_0 : ∀ w ∈ u_ws RX0 TX0 8, inT w := by
  intro w hw
  obtain ⟨k, hk, rfl⟩ := List.mem_map.mp hw
  have hk : k < 8 := List.mem_range.mp hk
  match k, hk with
  | 0, _ => exact inT_at 253 (by decide +kernel)
  | 1, _ => exact inT_at 255 (by decide +kernel)
  | 2, _ => exact inT_at 257 (by decide +kernel)
  | 3, _ => exact inT_at 259 (by decide +kernel)
  | 4, _ => exact inT_at 261 (by decide +kernel)
  | 5, _ => exact inT_at 263 (by decide +kernel)
  | 6, _ => exact inT_at 265 (by decide +kernel)
  | 7, _ => exact inT_at 267 (by decide +kernel)
  | k + 8, h => exact absurd h (by omega)
theorem wx_1 : ∀ w ∈ u_ws RX1 TX1 2, inT w := by
  intro w hw
  obtain ⟨k, hk, rfl⟩ := List.mem_map.mp hw
  have hk : k < 2 := List.mem_range.mp hk
  match k, hk with
  | 0, _ => exact inT_at 63 (by decide +kernel)
  | 1, _ => exact inT_at 65 (by decide +kernel)
  | k + 2, h => exact absurd h (by omega)
theorem wx_2 : ∀ w ∈ u_ws RX2 TX2 6, inT w := by
  intro w hw
  obtain ⟨k, hk, rfl⟩ := List.mem_map.mp hw
  have hk : k < 6 := List.mem_range.mp hk
  match k, hk with
  | 0, _ => exact inT_at 152 (by decide +kernel)
  | 1, _ => exact inT_at 154 (by decide +kernel)
  | 2, _ => exact inT_at 156 (by decide +kernel)
  | 3, _ => exact inT_at 158 (by decide +kernel)
  | 4, _ => exact inT_at 160 (by decide +kernel)
  | 5, _ => exact inT_at 162 (by decide +kernel)
  | k + 6, h => exact absurd h (by omega)
theorem wx_3 : ∀ w ∈ u_ws RX3 TX3 3, inT w := by
  intro w hw
  obtain ⟨k, hk, rfl⟩ := List.mem_map.mp hw
  have hk : k < 3 := List.mem_range.mp hk
  match k, hk with
  | 0, _ => exact inT_at 237 (by decide +kernel)
  | 1, _ => exact inT_at 239 (by decide +kernel)
  | 2, _ => exact inT_at 241 (by decide +kernel)
  | k + 3, h => exact absurd h (by omega)
theorem wx_4 : ∀ w ∈ u_ws RX4 TX4 7, inT w := by
  intro w hw
  obtain ⟨k, hk, rfl⟩ := List.mem_map.mp hw
  have hk : k < 7 := List.mem_range.mp hk
  match k, hk with
  | 0, _ => exact inT_at 181 (by decide +kernel)
  | 1, _ => exact inT_at 183 (by decide +kernel)
  | 2, _ => exact inT_at 185 (by decide +kernel)
  | 3, _ => exact inT_at 187 (by decide +kernel)
  | 4, _ => exact inT_at 189 (by decide +kernel)
  | 5, _ => exact inT_at 191 (by decide +kernel)
  | 6, _ => exact inT_at 193 (by decide +kernel)
  | k + 7, h => exact absurd h (by omega)
theorem wx_5 : ∀ w ∈ u_ws RX5 TX5 2, inT w := by
  intro w hw
  obtain ⟨k, hk, rfl⟩ := List.mem_map.mp hw
  have hk : k < 2 := List.mem_range.mp hk
  match k, hk with
  | 0, _ => exact inT_at 72 (by decide +kernel)
  | 1, _ => exact inT_at 74 (by decide +kernel)
  | k + 2, h => exact absurd h (by omega)
theorem wx_6 : ∀ w ∈ u_ws RX6 TX6 5, inT w := by
  intro w hw
  obtain ⟨k, hk, rfl⟩ := List.mem_map.mp hw
  have hk : k < 5 := List.mem_range.mp hk
  match k, hk with
  | 0, _ => exact inT_at 113 (by decide +kernel)
  | 1, _ => exact inT_at 115 (by decide +kernel)
  | 2, _ => exact inT_at 117 (by decide +kernel)
  | 3, _ => exact inT_at 119 (by decide +kernel)
  | 4, _ => exact inT_at 121 (by decide +kernel)
  | k + 5, h => exact absurd h (by omega)
theorem wx_7 : ∀ w ∈ u_ws RX7 TX7 1, inT w := by
  intro w hw
  obtain ⟨k, hk, rfl⟩ := List.mem_map.mp hw
  have hk : k < 1 := List.mem_range.mp hk
  match k, hk with
  | 0, _ => exact inT_at 95 (by decide +kernel)
  | k + 1, h => exact absurd h (by omega)
theorem wx_8 : ∀ w ∈ u_ws RX8 TX8 8, inT w := by
  intro w hw
  obtain ⟨k, hk, rfl⟩ := List.mem_map.mp hw
  have hk : k < 8 := List.mem_range.mp hk
  match k, hk with
  | 0, _ => exact inT_at 207 (by decide +kernel)
  | 1, _ => exact inT_at 209 (by decide +kernel)
  | 2, _ => exact inT_at 211 (by decide +kernel)
  | 3, _ => exact inT_at 213 (by decide +kernel)
  | 4, _ => exact inT_at 215 (by decide +kernel)
  | 5, _ => exact inT_at 217 (by decide +kernel)
  | 6, _ => exact inT_at 219 (by decide +kernel)
  | 7, _ => exact inT_at 221 (by decide +kernel)
  | k + 8, h => exact absurd h (by omega)
theorem wx_9 : ∀ w ∈ u_ws RX9 TX9 6, inT w := by
  intro w hw
  obtain ⟨k, hk, rfl⟩ := List.mem_map.mp hw
  have hk : k < 6 := List.mem_range.mp hk
  match k, hk with
  | 0, _ => exact inT_at 278 (by decide +kernel)
  | 1, _ => exact inT_at 280 (by decide +kernel)
  | 2, _ => exact inT_at 282 (by decide +kernel)
  | 3, _ => exact inT_at 284 (by decide +kernel)
  | 4, _ => exact inT_at 286 (by decide +kernel)
  | 5, _ => exact inT_at 288 (by decide +kernel)
  | k + 6, h => exact absurd h (by omega)
end
section
/-! THE CODE TABLES AGAINST THE BYTES: each entry is what stands at its place, and its links are the tables' -/
def cndOf (b : Nat) : ClassFile.Cond := match b with
  | 0 => .eq | 1 => .ne | 2 => .lt | 3 => .ge | 4 => .gt | _ => .le
def f4 (a : Nat) : Fin 4 := Fin.ofNat 4 a
def atOf (a : Nat) : ArrayType := match a with
  | 0 => .int | 1 => .boolean | _ => .byte
def instrOf (e : Ent) : Instr × Nat := match e with
  | (pc, (op, a, b, d), c, cs) => match op with
    | 1 => (match b with
      | 0 => (.iconst c.toInt, 1) | 1 => (.bipush c.toInt, 2) | 2 => (.sipush c.toInt, 3) | 3 => (.ldc_w a, 3) | _ => (.ldc a, 2))
    | 2 => (match b with
      | 0 => (.iload_n (f4 a), 1) | 1 => (.iload a, 2) | 2 => (.aload_n (f4 a), 1) | _ => (.aload a, 2))
    | 3 => (match b with
      | 0 => (.istore_n (f4 a), 1) | 1 => (.istore a, 2) | 2 => (.astore_n (f4 a), 1) | _ => (.astore a, 2))
    | 4 => (match a with
      | 0 => (.iadd, 1) | 1 => (.isub, 1) | 2 => (.imul, 1) | 3 => (.idiv, 1) | 4 => (.irem, 1) | 5 => (.iand, 1) | 6 => (.iushr, 1) | 7 => (.ixor, 1) | 8 => (.ishr, 1) | _ => (.ishl, 1))
    | 5 => (.iinc a c.toInt, 3)
    | 6 => (.ifCond (cndOf b) ((a : Int) - (pc : Int)), 3)
    | 7 => (.if_icmp (cndOf b) ((a : Int) - (pc : Int)), 3)
    | 8 => (.goto ((a : Int) - (pc : Int)), 3)
    | 9 => (.getfield a, 3)
    | 10 => (.putfield a, 3)
    | 11 => (match a with | 0 => (.iaload, 1) | 1 => (.baload, 1) | _ => (.aaload, 1))
    | 12 => (match a with | 0 => (.iastore, 1) | 1 => (.bastore, 1) | _ => (.aastore, 1))
    | 13 => (match d with | 0 => (.invokevirtual a, 3) | _ => (.invokestatic a, 3))
    | 14 => (match a with | 0 => (.ireturn, 1) | _ => (.return_, 1))
    | 15 => (.dup, 1)
    | 16 => (.dup2, 1)
    | 17 => (.i2b, 1)
    | 18 => (match d with
      | 0 => (.tableswitch ((a : Int) - (pc : Int)) ((cs.head?.getD (0, 0)).1 : Int) (((cs.getLast?).getD (0, 0)).1 : Int) (cs.map fun q => (q.2 : Int) - (pc : Int)).toArray, b)
      | _ => (.lookupswitch ((a : Int) - (pc : Int)) (cs.map fun q => ((q.1 : Int), (q.2 : Int) - (pc : Int))).toArray, b))
    | 19 => (.arraylength, 1)
    | 20 => (.invokestatic a, 3)
    | 21 => (.new a, 3)
    | 22 => (.newarray (atOf a), 2)
    | 23 => (.anewarray a, 3)
    | 24 => (.invokespecial a, 3)
    | 25 => (.invokestatic a, 3)
    | 26 => (.ldc2_w a, 3)
    | 27 => (.i2l, 1)
    | 28 => (.lmul, 1)
    | 29 => (.ladd, 1)
    | 30 => (.lcmp, 1)
    | 31 => (match b with | 0 => (.lload_n (f4 a), 1) | _ => (.lload a, 2))
    | 32 => (match b with | 0 => (.lstore_n (f4 a), 1) | _ => (.lstore a, 2))
    | 33 => (.lreturn, 1)
    | _ => (.pop, 1)
def initL : List Nat := [0, 1, 8, 13, 18, 29, 31, 36, 46, 80]
/-- what else an entry's place in the class wants: o its class, nL the locals -/
def moreOk (o nL : Nat) (e : Ent) : Bool := match e with
  | (pc, (op, a, b, d), c, cs) => match op with
    | 1 => (match b with
      | 0 => true | 1 => decide ((Int8.ofInt c.toInt).toInt32 = c) | 2 => decide ((Int16.ofInt c.toInt).toInt32 = c) | 3 => decide ((o, a, c) ∈ [(25, 265, (1431655765 : Int32)), (25, 266, 858993459), (25, 267, 252645135)]) | _ => decide ((o, a, c) ∈ [(24, 7, (763049417 : Int32)), (24, 8, 2147483647)]))
    | 2 => (match b with
      | 0 => decide (a < 4) | 1 => true | 2 => decide (a < 4) | _ => true)
    | 3 => decide (a < nL) && (match b with
      | 0 => decide (a < 4) | 1 => true | 2 => decide (a < 4) | _ => true)
    | 5 => decide (a < nL)
    | 6 => decide (b < 6)
    | 7 => decide (b < 6)
    | 9 => decide ((o, a, b, d) ∈ flT)
    | 10 => decide ((o, a, b, d) ∈ flT)
    | 13 => decide ((o, a, b, (if d = 2 then 1 else 0)) ∈ mlT) && (decide (cs = [((mRow b).2.2.2.2.2.1, (mRow b).2.2.2.2.1)]) && (decide ((mRow b).2.2.2.2.2.2 = decide (¬ d = 0)) && decide (b ∉ initL)))
    | 18 => (match d with
      | 0 => decide (cs.map (fun q => q.1) = (List.range' (cs.head?.getD (0, 0)).1 cs.length)) && decide (cs ≠ [])
      | _ => ((cs.map fun q => ((q.1 : Int), (q.2 : Int) - (pc : Int))).zip ((cs.map fun q => ((q.1 : Int), (q.2 : Int) - (pc : Int))).drop 1)).all (fun (a, next) => a.1 < next.1)) && cs.all (fun q => decide (q.1 < 1000))
    | 20 => decide ((o, a) = (7, 22))
    | _ => true
def entOk (o nL : Nat) (cc : ByteArray) (e : Ent) : Bool := (decide (e.2.1.1 = 0) || decide (decode cc e.1 = .ok (instrOf e))) && moreOk o nL e
def nextPc (e : Ent) : Nat := if e.2.1.1 = 0 then e.1 else e.1 + (instrOf e).2
def chainOk : List Ent → Bool
  | [] => true
  | [_] => true
  | e :: f :: es => (f.1 == nextPc e) && chainOk (f :: es)
def rtN (t : Option FieldType) : Nat := match t with
  | some .int => 0
  | some .boolean => 1
  | none => 2
  | _ => 9
def mdOk (m : Nat) : Prop := (codT m).all (entOk (mRow m).2.2.2.2.1 (mRow m).2.2.1 (mRow m).2.1) = true ∧ chainOk (codT m) = true ∧ rtN (mRow m).2.2.2.1 = retT m ∧ ∃ e es, codT m = e :: es ∧ e.1 = 0
def moreOkL (nL : Nat) (e : Ent) : Bool := match e with
  | (pc, (op, a, b, d), c, cs) => match op with
    | 25 => decide ((24, a, b, 0) ∈ mlT2) && (decide (cs = [((mRow b).2.2.2.2.2.1, 0)]) && (decide ((mRow b).2.2.2.2.2.2 = true) && decide ((mRow b).2.2.2.2.1 = 24)))
    | 26 => decide ((a, c) ∈ [(9, (7 : Int32)), (11, 31)])
    | 31 => (match b with | 0 => decide (a < 4) | _ => true)
    | 32 => decide (a + 1 < nL) && (match b with | 0 => decide (a < 4) | _ => true)
    | _ => moreOk 24 nL e
def entOkL (nL : Nat) (cc : ByteArray) (e : Ent) : Bool := (decide (e.2.1.1 = 0) || decide (decode cc e.1 = .ok (instrOf e))) && moreOkL nL e
def rtL (t : Option FieldType) : Nat := match t with
  | some .int => 0
  | some .boolean => 1
  | some .long => 3
  | _ => 9
def mdOkL (m : Nat) : Prop := (colT m).all (entOkL (mRow m).2.2.1 (mRow m).2.1) = true ∧ chainOk (colT m) = true ∧ rtL (mRow m).2.2.2.1 = retT m ∧ ∃ e es, colT m = e :: es ∧ e.1 = 0
set_option maxRecDepth 100000 in
theorem ea_X0_init : co_X0_init.all (entOk (mRow m_X0_init).2.2.2.2.1 (mRow m_X0_init).2.2.1 (mRow m_X0_init).2.1) = true := by decide +kernel
theorem md_X0_init : mdOk m_X0_init := ⟨ea_X0_init, by decide +kernel, by decide +kernel, _, _, rfl, rfl⟩
set_option maxRecDepth 100000 in
theorem ea_X1_init : co_X1_init.all (entOk (mRow m_X1_init).2.2.2.2.1 (mRow m_X1_init).2.2.1 (mRow m_X1_init).2.1) = true := by decide +kernel
theorem md_X1_init : mdOk m_X1_init := ⟨ea_X1_init, by decide +kernel, by decide +kernel, _, _, rfl, rfl⟩
set_option maxRecDepth 100000 in
theorem ea_X1_become : co_X1_become.all (entOk (mRow m_X1_become).2.2.2.2.1 (mRow m_X1_become).2.2.1 (mRow m_X1_become).2.1) = true := by decide +kernel
theorem md_X1_become : mdOk m_X1_become := ⟨ea_X1_become, by decide +kernel, by decide +kernel, _, _, rfl, rfl⟩
set_option maxRecDepth 100000 in
theorem ea_X1_copyFrom : co_X1_copyFrom.all (entOk (mRow m_X1_copyFrom).2.2.2.2.1 (mRow m_X1_copyFrom).2.2.1 (mRow m_X1_copyFrom).2.1) = true := by decide +kernel
theorem md_X1_copyFrom : mdOk m_X1_copyFrom := ⟨ea_X1_copyFrom, by decide +kernel, by decide +kernel, _, _, rfl, rfl⟩
set_option maxRecDepth 100000 in
theorem ea_X1_isAt : co_X1_isAt.all (entOk (mRow m_X1_isAt).2.2.2.2.1 (mRow m_X1_isAt).2.2.1 (mRow m_X1_isAt).2.1) = true := by decide +kernel
theorem md_X1_isAt : mdOk m_X1_isAt := ⟨ea_X1_isAt, by decide +kernel, by decide +kernel, _, _, rfl, rfl⟩
set_option maxRecDepth 100000 in
theorem ea_X1_has : co_X1_has.all (entOk (mRow m_X1_has).2.2.2.2.1 (mRow m_X1_has).2.2.1 (mRow m_X1_has).2.1) = true := by decide +kernel
theorem md_X1_has : mdOk m_X1_has := ⟨ea_X1_has, by decide +kernel, by decide +kernel, _, _, rfl, rfl⟩
set_option maxRecDepth 100000 in
theorem ea_X1_holds : co_X1_holds.all (entOk (mRow m_X1_holds).2.2.2.2.1 (mRow m_X1_holds).2.2.1 (mRow m_X1_holds).2.1) = true := by decide +kernel
theorem md_X1_holds : mdOk m_X1_holds := ⟨ea_X1_holds, by decide +kernel, by decide +kernel, _, _, rfl, rfl⟩
set_option maxRecDepth 100000 in
theorem ea_X1_meets : co_X1_meets.all (entOk (mRow m_X1_meets).2.2.2.2.1 (mRow m_X1_meets).2.2.1 (mRow m_X1_meets).2.1) = true := by decide +kernel
theorem md_X1_meets : mdOk m_X1_meets := ⟨ea_X1_meets, by decide +kernel, by decide +kernel, _, _, rfl, rfl⟩
set_option maxRecDepth 100000 in
theorem ea_X2_init : co_X2_init.all (entOk (mRow m_X2_init).2.2.2.2.1 (mRow m_X2_init).2.2.1 (mRow m_X2_init).2.1) = true := by decide +kernel
theorem md_X2_init : mdOk m_X2_init := ⟨ea_X2_init, by decide +kernel, by decide +kernel, _, _, rfl, rfl⟩
set_option maxRecDepth 100000 in
theorem ea_X2_become : co_X2_become.all (entOk (mRow m_X2_become).2.2.2.2.1 (mRow m_X2_become).2.2.1 (mRow m_X2_become).2.1) = true := by decide +kernel
theorem md_X2_become : mdOk m_X2_become := ⟨ea_X2_become, by decide +kernel, by decide +kernel, _, _, rfl, rfl⟩
set_option maxRecDepth 100000 in
theorem ea_X2_copyFrom : co_X2_copyFrom.all (entOk (mRow m_X2_copyFrom).2.2.2.2.1 (mRow m_X2_copyFrom).2.2.1 (mRow m_X2_copyFrom).2.1) = true := by decide +kernel
theorem md_X2_copyFrom : mdOk m_X2_copyFrom := ⟨ea_X2_copyFrom, by decide +kernel, by decide +kernel, _, _, rfl, rfl⟩
set_option maxRecDepth 100000 in
theorem ea_X2_isHolding : co_X2_isHolding.all (entOk (mRow m_X2_isHolding).2.2.2.2.1 (mRow m_X2_isHolding).2.2.1 (mRow m_X2_isHolding).2.1) = true := by decide +kernel
theorem md_X2_isHolding : mdOk m_X2_isHolding := ⟨ea_X2_isHolding, by decide +kernel, by decide +kernel, _, _, rfl, rfl⟩
set_option maxRecDepth 100000 in
theorem ea_X2_property : co_X2_property.all (entOk (mRow m_X2_property).2.2.2.2.1 (mRow m_X2_property).2.2.1 (mRow m_X2_property).2.1) = true := by decide +kernel
theorem md_X2_property : mdOk m_X2_property := ⟨ea_X2_property, by decide +kernel, by decide +kernel, _, _, rfl, rfl⟩
set_option maxRecDepth 100000 in
theorem ea_X3_init : co_X3_init.all (entOk (mRow m_X3_init).2.2.2.2.1 (mRow m_X3_init).2.2.1 (mRow m_X3_init).2.1) = true := by decide +kernel
theorem md_X3_init : mdOk m_X3_init := ⟨ea_X3_init, by decide +kernel, by decide +kernel, _, _, rfl, rfl⟩
set_option maxRecDepth 100000 in
theorem ea_X3_row : co_X3_row.all (entOk (mRow m_X3_row).2.2.2.2.1 (mRow m_X3_row).2.2.1 (mRow m_X3_row).2.1) = true := by decide +kernel
theorem md_X3_row : mdOk m_X3_row := ⟨ea_X3_row, by decide +kernel, by decide +kernel, _, _, rfl, rfl⟩
set_option maxRecDepth 100000 in
theorem ea_X3_draft : co_X3_draft.all (entOk (mRow m_X3_draft).2.2.2.2.1 (mRow m_X3_draft).2.2.1 (mRow m_X3_draft).2.1) = true := by decide +kernel
theorem md_X3_draft : mdOk m_X3_draft := ⟨ea_X3_draft, by decide +kernel, by decide +kernel, _, _, rfl, rfl⟩
set_option maxRecDepth 100000 in
theorem ea_X3_keepDraft : co_X3_keepDraft.all (entOk (mRow m_X3_keepDraft).2.2.2.2.1 (mRow m_X3_keepDraft).2.2.1 (mRow m_X3_keepDraft).2.1) = true := by decide +kernel
theorem md_X3_keepDraft : mdOk m_X3_keepDraft := ⟨ea_X3_keepDraft, by decide +kernel, by decide +kernel, _, _, rfl, rfl⟩
set_option maxRecDepth 100000 in
theorem ea_X3_takeLatest : co_X3_takeLatest.all (entOk (mRow m_X3_takeLatest).2.2.2.2.1 (mRow m_X3_takeLatest).2.2.1 (mRow m_X3_takeLatest).2.1) = true := by decide +kernel
theorem md_X3_takeLatest : mdOk m_X3_takeLatest := ⟨ea_X3_takeLatest, by decide +kernel, by decide +kernel, _, _, rfl, rfl⟩
set_option maxRecDepth 100000 in
theorem ea_X4_init : co_X4_init.all (entOk (mRow m_X4_init).2.2.2.2.1 (mRow m_X4_init).2.2.1 (mRow m_X4_init).2.1) = true := by decide +kernel
theorem md_X4_init : mdOk m_X4_init := ⟨ea_X4_init, by decide +kernel, by decide +kernel, _, _, rfl, rfl⟩
set_option maxRecDepth 100000 in
theorem ea_X4_start : co_X4_start.all (entOk (mRow m_X4_start).2.2.2.2.1 (mRow m_X4_start).2.2.1 (mRow m_X4_start).2.1) = true := by decide +kernel
theorem md_X4_start : mdOk m_X4_start := ⟨ea_X4_start, by decide +kernel, by decide +kernel, _, _, rfl, rfl⟩
set_option maxRecDepth 100000 in
theorem ea_X4_copyFrom : co_X4_copyFrom.all (entOk (mRow m_X4_copyFrom).2.2.2.2.1 (mRow m_X4_copyFrom).2.2.1 (mRow m_X4_copyFrom).2.1) = true := by decide +kernel
theorem md_X4_copyFrom : mdOk m_X4_copyFrom := ⟨ea_X4_copyFrom, by decide +kernel, by decide +kernel, _, _, rfl, rfl⟩
set_option maxRecDepth 100000 in
theorem ea_X4_isPlace : co_X4_isPlace.all (entOk (mRow m_X4_isPlace).2.2.2.2.1 (mRow m_X4_isPlace).2.2.1 (mRow m_X4_isPlace).2.1) = true := by decide +kernel
theorem md_X4_isPlace : mdOk m_X4_isPlace := ⟨ea_X4_isPlace, by decide +kernel, by decide +kernel, _, _, rfl, rfl⟩
set_option maxRecDepth 100000 in
theorem ea_X4_property : co_X4_property.all (entOk (mRow m_X4_property).2.2.2.2.1 (mRow m_X4_property).2.2.1 (mRow m_X4_property).2.1) = true := by decide +kernel
theorem md_X4_property : mdOk m_X4_property := ⟨ea_X4_property, by decide +kernel, by decide +kernel, _, _, rfl, rfl⟩
set_option maxRecDepth 100000 in
theorem ea_X4_moveToFront : co_X4_moveToFront.all (entOk (mRow m_X4_moveToFront).2.2.2.2.1 (mRow m_X4_moveToFront).2.2.1 (mRow m_X4_moveToFront).2.1) = true := by decide +kernel
theorem md_X4_moveToFront : mdOk m_X4_moveToFront := ⟨ea_X4_moveToFront, by decide +kernel, by decide +kernel, _, _, rfl, rfl⟩
set_option maxRecDepth 100000 in
theorem ea_X4_drop : co_X4_drop.all (entOk (mRow m_X4_drop).2.2.2.2.1 (mRow m_X4_drop).2.2.1 (mRow m_X4_drop).2.1) = true := by decide +kernel
theorem md_X4_drop : mdOk m_X4_drop := ⟨ea_X4_drop, by decide +kernel, by decide +kernel, _, _, rfl, rfl⟩
set_option maxRecDepth 100000 in
theorem ea_X4_dropEnded : co_X4_dropEnded.all (entOk (mRow m_X4_dropEnded).2.2.2.2.1 (mRow m_X4_dropEnded).2.2.1 (mRow m_X4_dropEnded).2.1) = true := by decide +kernel
theorem md_X4_dropEnded : mdOk m_X4_dropEnded := ⟨ea_X4_dropEnded, by decide +kernel, by decide +kernel, _, _, rfl, rfl⟩
set_option maxRecDepth 100000 in
theorem ea_X4_placeOfSite : co_X4_placeOfSite.all (entOk (mRow m_X4_placeOfSite).2.2.2.2.1 (mRow m_X4_placeOfSite).2.2.1 (mRow m_X4_placeOfSite).2.1) = true := by decide +kernel
theorem md_X4_placeOfSite : mdOk m_X4_placeOfSite := ⟨ea_X4_placeOfSite, by decide +kernel, by decide +kernel, _, _, rfl, rfl⟩
set_option maxRecDepth 100000 in
theorem ea_X4_placeOfSmallest : co_X4_placeOfSmallest.all (entOk (mRow m_X4_placeOfSmallest).2.2.2.2.1 (mRow m_X4_placeOfSmallest).2.2.1 (mRow m_X4_placeOfSmallest).2.1) = true := by decide +kernel
theorem md_X4_placeOfSmallest : mdOk m_X4_placeOfSmallest := ⟨ea_X4_placeOfSmallest, by decide +kernel, by decide +kernel, _, _, rfl, rfl⟩
set_option maxRecDepth 100000 in
theorem ea_X4_addMap : co_X4_addMap.all (entOk (mRow m_X4_addMap).2.2.2.2.1 (mRow m_X4_addMap).2.2.1 (mRow m_X4_addMap).2.1) = true := by decide +kernel
theorem md_X4_addMap : mdOk m_X4_addMap := ⟨ea_X4_addMap, by decide +kernel, by decide +kernel, _, _, rfl, rfl⟩
set_option maxRecDepth 100000 in
theorem ea_X5_init : co_X5_init.all (entOk (mRow m_X5_init).2.2.2.2.1 (mRow m_X5_init).2.2.1 (mRow m_X5_init).2.1) = true := by decide +kernel
theorem md_X5_init : mdOk m_X5_init := ⟨ea_X5_init, by decide +kernel, by decide +kernel, _, _, rfl, rfl⟩
set_option maxRecDepth 100000 in
theorem ea_X5_copyFrom : co_X5_copyFrom.all (entOk (mRow m_X5_copyFrom).2.2.2.2.1 (mRow m_X5_copyFrom).2.2.1 (mRow m_X5_copyFrom).2.1) = true := by decide +kernel
theorem md_X5_copyFrom : mdOk m_X5_copyFrom := ⟨ea_X5_copyFrom, by decide +kernel, by decide +kernel, _, _, rfl, rfl⟩
set_option maxRecDepth 100000 in
theorem ea_X6_init : co_X6_init.all (entOk (mRow m_X6_init).2.2.2.2.1 (mRow m_X6_init).2.2.1 (mRow m_X6_init).2.1) = true := by decide +kernel
theorem md_X6_init : mdOk m_X6_init := ⟨ea_X6_init, by decide +kernel, by decide +kernel, _, _, rfl, rfl⟩
set_option maxRecDepth 100000 in
theorem ea_X6_start : co_X6_start.all (entOk (mRow m_X6_start).2.2.2.2.1 (mRow m_X6_start).2.2.1 (mRow m_X6_start).2.1) = true := by decide +kernel
theorem md_X6_start : mdOk m_X6_start := ⟨ea_X6_start, by decide +kernel, by decide +kernel, _, _, rfl, rfl⟩
set_option maxRecDepth 100000 in
theorem ea_X6_copyFrom : co_X6_copyFrom.all (entOk (mRow m_X6_copyFrom).2.2.2.2.1 (mRow m_X6_copyFrom).2.2.1 (mRow m_X6_copyFrom).2.1) = true := by decide +kernel
theorem md_X6_copyFrom : mdOk m_X6_copyFrom := ⟨ea_X6_copyFrom, by decide +kernel, by decide +kernel, _, _, rfl, rfl⟩
set_option maxRecDepth 100000 in
theorem ea_X6_isRegistered : co_X6_isRegistered.all (entOk (mRow m_X6_isRegistered).2.2.2.2.1 (mRow m_X6_isRegistered).2.2.1 (mRow m_X6_isRegistered).2.1) = true := by decide +kernel
theorem md_X6_isRegistered : mdOk m_X6_isRegistered := ⟨ea_X6_isRegistered, by decide +kernel, by decide +kernel, _, _, rfl, rfl⟩
set_option maxRecDepth 100000 in
theorem ea_X6_isUp : co_X6_isUp.all (entOk (mRow m_X6_isUp).2.2.2.2.1 (mRow m_X6_isUp).2.2.1 (mRow m_X6_isUp).2.1) = true := by decide +kernel
theorem md_X6_isUp : mdOk m_X6_isUp := ⟨ea_X6_isUp, by decide +kernel, by decide +kernel, _, _, rfl, rfl⟩
set_option maxRecDepth 100000 in
theorem ea_X7_init : co_X7_init.all (entOk (mRow m_X7_init).2.2.2.2.1 (mRow m_X7_init).2.2.1 (mRow m_X7_init).2.1) = true := by decide +kernel
theorem md_X7_init : mdOk m_X7_init := ⟨ea_X7_init, by decide +kernel, by decide +kernel, _, _, rfl, rfl⟩
set_option maxRecDepth 100000 in
theorem ea_X7_copyFrom : co_X7_copyFrom.all (entOk (mRow m_X7_copyFrom).2.2.2.2.1 (mRow m_X7_copyFrom).2.2.1 (mRow m_X7_copyFrom).2.1) = true := by decide +kernel
theorem md_X7_copyFrom : mdOk m_X7_copyFrom := ⟨ea_X7_copyFrom, by decide +kernel, by decide +kernel, _, _, rfl, rfl⟩
set_option maxRecDepth 100000 in
theorem ea_X7_fill : co_X7_fill.all (entOk (mRow m_X7_fill).2.2.2.2.1 (mRow m_X7_fill).2.2.1 (mRow m_X7_fill).2.1) = true := by decide +kernel
theorem md_X7_fill : mdOk m_X7_fill := ⟨ea_X7_fill, by decide +kernel, by decide +kernel, _, _, rfl, rfl⟩
set_option maxRecDepth 100000 in
theorem ea_X7_propertyOf : co_X7_propertyOf.all (entOk (mRow m_X7_propertyOf).2.2.2.2.1 (mRow m_X7_propertyOf).2.2.1 (mRow m_X7_propertyOf).2.1) = true := by decide +kernel
theorem md_X7_propertyOf : mdOk m_X7_propertyOf := ⟨ea_X7_propertyOf, by decide +kernel, by decide +kernel, _, _, rfl, rfl⟩
set_option maxRecDepth 100000 in
theorem ea_X7_isEmpty : co_X7_isEmpty.all (entOk (mRow m_X7_isEmpty).2.2.2.2.1 (mRow m_X7_isEmpty).2.2.1 (mRow m_X7_isEmpty).2.1) = true := by decide +kernel
theorem md_X7_isEmpty : mdOk m_X7_isEmpty := ⟨ea_X7_isEmpty, by decide +kernel, by decide +kernel, _, _, rfl, rfl⟩
set_option maxRecDepth 100000 in
theorem ea_X7_areEmpty : co_X7_areEmpty.all (entOk (mRow m_X7_areEmpty).2.2.2.2.1 (mRow m_X7_areEmpty).2.2.1 (mRow m_X7_areEmpty).2.1) = true := by decide +kernel
theorem md_X7_areEmpty : mdOk m_X7_areEmpty := ⟨ea_X7_areEmpty, by decide +kernel, by decide +kernel, _, _, rfl, rfl⟩
set_option maxRecDepth 100000 in
theorem ea_X7_have : co_X7_have.all (entOk (mRow m_X7_have).2.2.2.2.1 (mRow m_X7_have).2.2.1 (mRow m_X7_have).2.1) = true := by decide +kernel
theorem md_X7_have : mdOk m_X7_have := ⟨ea_X7_have, by decide +kernel, by decide +kernel, _, _, rfl, rfl⟩
set_option maxRecDepth 100000 in
theorem ea_X7_lowestPriority : co_X7_lowestPriority.all (entOk (mRow m_X7_lowestPriority).2.2.2.2.1 (mRow m_X7_lowestPriority).2.2.1 (mRow m_X7_lowestPriority).2.1) = true := by decide +kernel
theorem md_X7_lowestPriority : mdOk m_X7_lowestPriority := ⟨ea_X7_lowestPriority, by decide +kernel, by decide +kernel, _, _, rfl, rfl⟩
set_option maxRecDepth 100000 in
theorem ea_X7_weightThatCounts : co_X7_weightThatCounts.all (entOk (mRow m_X7_weightThatCounts).2.2.2.2.1 (mRow m_X7_weightThatCounts).2.2.1 (mRow m_X7_weightThatCounts).2.1) = true := by decide +kernel
theorem md_X7_weightThatCounts : mdOk m_X7_weightThatCounts := ⟨ea_X7_weightThatCounts, by decide +kernel, by decide +kernel, _, _, rfl, rfl⟩
set_option maxRecDepth 100000 in
theorem ea_X7_placeFor : co_X7_placeFor.all (entOk (mRow m_X7_placeFor).2.2.2.2.1 (mRow m_X7_placeFor).2.2.1 (mRow m_X7_placeFor).2.1) = true := by decide +kernel
theorem md_X7_placeFor : mdOk m_X7_placeFor := ⟨ea_X7_placeFor, by decide +kernel, by decide +kernel, _, _, rfl, rfl⟩
set_option maxRecDepth 100000 in
theorem ea_X8_init : co_X8_init.all (entOk (mRow m_X8_init).2.2.2.2.1 (mRow m_X8_init).2.2.1 (mRow m_X8_init).2.1) = true := by decide +kernel
theorem md_X8_init : mdOk m_X8_init := ⟨ea_X8_init, by decide +kernel, by decide +kernel, _, _, rfl, rfl⟩
set_option maxRecDepth 100000 in
theorem ea_X8_copyFrom : co_X8_copyFrom.all (entOk (mRow m_X8_copyFrom).2.2.2.2.1 (mRow m_X8_copyFrom).2.2.1 (mRow m_X8_copyFrom).2.1) = true := by decide +kernel
theorem md_X8_copyFrom : mdOk m_X8_copyFrom := ⟨ea_X8_copyFrom, by decide +kernel, by decide +kernel, _, _, rfl, rfl⟩
set_option maxRecDepth 100000 in
theorem ea_X8_isServer : co_X8_isServer.all (entOk (mRow m_X8_isServer).2.2.2.2.1 (mRow m_X8_isServer).2.2.1 (mRow m_X8_isServer).2.1) = true := by decide +kernel
theorem md_X8_isServer : mdOk m_X8_isServer := ⟨ea_X8_isServer, by decide +kernel, by decide +kernel, _, _, rfl, rfl⟩
set_option maxRecDepth 100000 in
theorem ea_X8_isSite : co_X8_isSite.all (entOk (mRow m_X8_isSite).2.2.2.2.1 (mRow m_X8_isSite).2.2.1 (mRow m_X8_isSite).2.1) = true := by decide +kernel
theorem md_X8_isSite : mdOk m_X8_isSite := ⟨ea_X8_isSite, by decide +kernel, by decide +kernel, _, _, rfl, rfl⟩
set_option maxRecDepth 100000 in
theorem ea_X8_isRouter : co_X8_isRouter.all (entOk (mRow m_X8_isRouter).2.2.2.2.1 (mRow m_X8_isRouter).2.2.1 (mRow m_X8_isRouter).2.1) = true := by decide +kernel
theorem md_X8_isRouter : mdOk m_X8_isRouter := ⟨ea_X8_isRouter, by decide +kernel, by decide +kernel, _, _, rfl, rfl⟩
set_option maxRecDepth 100000 in
theorem ea_X8_newServer : co_X8_newServer.all (entOk (mRow m_X8_newServer).2.2.2.2.1 (mRow m_X8_newServer).2.2.1 (mRow m_X8_newServer).2.1) = true := by decide +kernel
theorem md_X8_newServer : mdOk m_X8_newServer := ⟨ea_X8_newServer, by decide +kernel, by decide +kernel, _, _, rfl, rfl⟩
set_option maxRecDepth 100000 in
theorem ea_X8_newSite : co_X8_newSite.all (entOk (mRow m_X8_newSite).2.2.2.2.1 (mRow m_X8_newSite).2.2.1 (mRow m_X8_newSite).2.1) = true := by decide +kernel
theorem md_X8_newSite : mdOk m_X8_newSite := ⟨ea_X8_newSite, by decide +kernel, by decide +kernel, _, _, rfl, rfl⟩
set_option maxRecDepth 100000 in
theorem ea_X8_newRouter : co_X8_newRouter.all (entOk (mRow m_X8_newRouter).2.2.2.2.1 (mRow m_X8_newRouter).2.2.1 (mRow m_X8_newRouter).2.1) = true := by decide +kernel
theorem md_X8_newRouter : mdOk m_X8_newRouter := ⟨ea_X8_newRouter, by decide +kernel, by decide +kernel, _, _, rfl, rfl⟩
set_option maxRecDepth 100000 in
theorem ea_X8_fillSlot : co_X8_fillSlot.all (entOk (mRow m_X8_fillSlot).2.2.2.2.1 (mRow m_X8_fillSlot).2.2.1 (mRow m_X8_fillSlot).2.1) = true := by decide +kernel
theorem md_X8_fillSlot : mdOk m_X8_fillSlot := ⟨ea_X8_fillSlot, by decide +kernel, by decide +kernel, _, _, rfl, rfl⟩
set_option maxRecDepth 100000 in
theorem ea_X8_vacateSlot : co_X8_vacateSlot.all (entOk (mRow m_X8_vacateSlot).2.2.2.2.1 (mRow m_X8_vacateSlot).2.2.1 (mRow m_X8_vacateSlot).2.1) = true := by decide +kernel
theorem md_X8_vacateSlot : mdOk m_X8_vacateSlot := ⟨ea_X8_vacateSlot, by decide +kernel, by decide +kernel, _, _, rfl, rfl⟩
set_option maxRecDepth 100000 in
theorem ea_X8_startRegistration : co_X8_startRegistration.all (entOk (mRow m_X8_startRegistration).2.2.2.2.1 (mRow m_X8_startRegistration).2.2.1 (mRow m_X8_startRegistration).2.1) = true := by decide +kernel
theorem md_X8_startRegistration : mdOk m_X8_startRegistration := ⟨ea_X8_startRegistration, by decide +kernel, by decide +kernel, _, _, rfl, rfl⟩
set_option maxRecDepth 100000 in
theorem ea_X8_endRegistration : co_X8_endRegistration.all (entOk (mRow m_X8_endRegistration).2.2.2.2.1 (mRow m_X8_endRegistration).2.2.1 (mRow m_X8_endRegistration).2.1) = true := by decide +kernel
theorem md_X8_endRegistration : mdOk m_X8_endRegistration := ⟨ea_X8_endRegistration, by decide +kernel, by decide +kernel, _, _, rfl, rfl⟩
set_option maxRecDepth 100000 in
theorem ea_X8_changeMapLife : co_X8_changeMapLife.all (entOk (mRow m_X8_changeMapLife).2.2.2.2.1 (mRow m_X8_changeMapLife).2.2.1 (mRow m_X8_changeMapLife).2.1) = true := by decide +kernel
theorem md_X8_changeMapLife : mdOk m_X8_changeMapLife := ⟨ea_X8_changeMapLife, by decide +kernel, by decide +kernel, _, _, rfl, rfl⟩
set_option maxRecDepth 100000 in
theorem ea_X8_letPass : co_X8_letPass.all (entOk (mRow m_X8_letPass).2.2.2.2.1 (mRow m_X8_letPass).2.2.1 (mRow m_X8_letPass).2.1) = true := by decide +kernel
theorem md_X8_letPass : mdOk m_X8_letPass := ⟨ea_X8_letPass, by decide +kernel, by decide +kernel, _, _, rfl, rfl⟩
set_option maxRecDepth 100000 in
theorem ea_X8_emptyCache : co_X8_emptyCache.all (entOk (mRow m_X8_emptyCache).2.2.2.2.1 (mRow m_X8_emptyCache).2.2.1 (mRow m_X8_emptyCache).2.1) = true := by decide +kernel
theorem md_X8_emptyCache : mdOk m_X8_emptyCache := ⟨ea_X8_emptyCache, by decide +kernel, by decide +kernel, _, _, rfl, rfl⟩
set_option maxRecDepth 100000 in
theorem ea_X8_sendLetter : co_X8_sendLetter.all (entOk (mRow m_X8_sendLetter).2.2.2.2.1 (mRow m_X8_sendLetter).2.2.1 (mRow m_X8_sendLetter).2.1) = true := by decide +kernel
theorem md_X8_sendLetter : mdOk m_X8_sendLetter := ⟨ea_X8_sendLetter, by decide +kernel, by decide +kernel, _, _, rfl, rfl⟩
set_option maxRecDepth 100000 in
theorem ea_X8_placeByMap : co_X8_placeByMap.all (entOk (mRow m_X8_placeByMap).2.2.2.2.1 (mRow m_X8_placeByMap).2.2.1 (mRow m_X8_placeByMap).2.1) = true := by decide +kernel
theorem md_X8_placeByMap : mdOk m_X8_placeByMap := ⟨ea_X8_placeByMap, by decide +kernel, by decide +kernel, _, _, rfl, rfl⟩
set_option maxRecDepth 100000 in
theorem ea_X8_ask : co_X8_ask.all (entOk (mRow m_X8_ask).2.2.2.2.1 (mRow m_X8_ask).2.2.1 (mRow m_X8_ask).2.1) = true := by decide +kernel
theorem md_X8_ask : mdOk m_X8_ask := ⟨ea_X8_ask, by decide +kernel, by decide +kernel, _, _, rfl, rfl⟩
set_option maxRecDepth 100000 in
theorem ea_X8_goByProxy : co_X8_goByProxy.all (entOk (mRow m_X8_goByProxy).2.2.2.2.1 (mRow m_X8_goByProxy).2.2.1 (mRow m_X8_goByProxy).2.1) = true := by decide +kernel
theorem md_X8_goByProxy : mdOk m_X8_goByProxy := ⟨ea_X8_goByProxy, by decide +kernel, by decide +kernel, _, _, rfl, rfl⟩
set_option maxRecDepth 100000 in
theorem ea_X8_homeOf : co_X8_homeOf.all (entOk (mRow m_X8_homeOf).2.2.2.2.1 (mRow m_X8_homeOf).2.2.1 (mRow m_X8_homeOf).2.1) = true := by decide +kernel
theorem md_X8_homeOf : mdOk m_X8_homeOf := ⟨ea_X8_homeOf, by decide +kernel, by decide +kernel, _, _, rfl, rfl⟩
set_option maxRecDepth 100000 in
theorem ea_X8_homeOfSite : co_X8_homeOfSite.all (entOk (mRow m_X8_homeOfSite).2.2.2.2.1 (mRow m_X8_homeOfSite).2.2.1 (mRow m_X8_homeOfSite).2.1) = true := by decide +kernel
theorem md_X8_homeOfSite : mdOk m_X8_homeOfSite := ⟨ea_X8_homeOfSite, by decide +kernel, by decide +kernel, _, _, rfl, rfl⟩
set_option maxRecDepth 100000 in
theorem ea_X8_hopsTo : co_X8_hopsTo.all (entOk (mRow m_X8_hopsTo).2.2.2.2.1 (mRow m_X8_hopsTo).2.2.1 (mRow m_X8_hopsTo).2.1) = true := by decide +kernel
theorem md_X8_hopsTo : mdOk m_X8_hopsTo := ⟨ea_X8_hopsTo, by decide +kernel, by decide +kernel, _, _, rfl, rfl⟩
set_option maxRecDepth 100000 in
theorem ea_X8_answerFor : co_X8_answerFor.all (entOk (mRow m_X8_answerFor).2.2.2.2.1 (mRow m_X8_answerFor).2.2.1 (mRow m_X8_answerFor).2.1) = true := by decide +kernel
theorem md_X8_answerFor : mdOk m_X8_answerFor := ⟨ea_X8_answerFor, by decide +kernel, by decide +kernel, _, _, rfl, rfl⟩
set_option maxRecDepth 100000 in
theorem ea_X8_siteEndingAt : co_X8_siteEndingAt.all (entOk (mRow m_X8_siteEndingAt).2.2.2.2.1 (mRow m_X8_siteEndingAt).2.2.1 (mRow m_X8_siteEndingAt).2.1) = true := by decide +kernel
theorem md_X8_siteEndingAt : mdOk m_X8_siteEndingAt := ⟨ea_X8_siteEndingAt, by decide +kernel, by decide +kernel, _, _, rfl, rfl⟩
set_option maxRecDepth 100000 in
theorem ea_X8_sitesEndingAheadOf : co_X8_sitesEndingAheadOf.all (entOk (mRow m_X8_sitesEndingAheadOf).2.2.2.2.1 (mRow m_X8_sitesEndingAheadOf).2.2.1 (mRow m_X8_sitesEndingAheadOf).2.1) = true := by decide +kernel
theorem md_X8_sitesEndingAheadOf : mdOk m_X8_sitesEndingAheadOf := ⟨ea_X8_sitesEndingAheadOf, by decide +kernel, by decide +kernel, _, _, rfl, rfl⟩
set_option maxRecDepth 100000 in
theorem ea_X8_serverProperty : co_X8_serverProperty.all (entOk (mRow m_X8_serverProperty).2.2.2.2.1 (mRow m_X8_serverProperty).2.2.1 (mRow m_X8_serverProperty).2.1) = true := by decide +kernel
theorem md_X8_serverProperty : mdOk m_X8_serverProperty := ⟨ea_X8_serverProperty, by decide +kernel, by decide +kernel, _, _, rfl, rfl⟩
set_option maxRecDepth 100000 in
theorem ea_X8_childrenOf : co_X8_childrenOf.all (entOk (mRow m_X8_childrenOf).2.2.2.2.1 (mRow m_X8_childrenOf).2.2.1 (mRow m_X8_childrenOf).2.1) = true := by decide +kernel
theorem md_X8_childrenOf : mdOk m_X8_childrenOf := ⟨ea_X8_childrenOf, by decide +kernel, by decide +kernel, _, _, rfl, rfl⟩
set_option maxRecDepth 100000 in
theorem ea_X8_sitesAtHome : co_X8_sitesAtHome.all (entOk (mRow m_X8_sitesAtHome).2.2.2.2.1 (mRow m_X8_sitesAtHome).2.2.1 (mRow m_X8_sitesAtHome).2.1) = true := by decide +kernel
theorem md_X8_sitesAtHome : mdOk m_X8_sitesAtHome := ⟨ea_X8_sitesAtHome, by decide +kernel, by decide +kernel, _, _, rfl, rfl⟩
set_option maxRecDepth 100000 in
theorem ea_X8_siteProperty : co_X8_siteProperty.all (entOk (mRow m_X8_siteProperty).2.2.2.2.1 (mRow m_X8_siteProperty).2.2.1 (mRow m_X8_siteProperty).2.1) = true := by decide +kernel
theorem md_X8_siteProperty : mdOk m_X8_siteProperty := ⟨ea_X8_siteProperty, by decide +kernel, by decide +kernel, _, _, rfl, rfl⟩
set_option maxRecDepth 100000 in
theorem ea_X8_mapsOf : co_X8_mapsOf.all (entOk (mRow m_X8_mapsOf).2.2.2.2.1 (mRow m_X8_mapsOf).2.2.1 (mRow m_X8_mapsOf).2.1) = true := by decide +kernel
theorem md_X8_mapsOf : mdOk m_X8_mapsOf := ⟨ea_X8_mapsOf, by decide +kernel, by decide +kernel, _, _, rfl, rfl⟩
set_option maxRecDepth 100000 in
theorem ea_X8_totalOf : co_X8_totalOf.all (entOk (mRow m_X8_totalOf).2.2.2.2.1 (mRow m_X8_totalOf).2.2.1 (mRow m_X8_totalOf).2.1) = true := by decide +kernel
theorem md_X8_totalOf : mdOk m_X8_totalOf := ⟨ea_X8_totalOf, by decide +kernel, by decide +kernel, _, _, rfl, rfl⟩
set_option maxRecDepth 100000 in
theorem ea_X8_sitesUp : co_X8_sitesUp.all (entOk (mRow m_X8_sitesUp).2.2.2.2.1 (mRow m_X8_sitesUp).2.2.1 (mRow m_X8_sitesUp).2.1) = true := by decide +kernel
theorem md_X8_sitesUp : mdOk m_X8_sitesUp := ⟨ea_X8_sitesUp, by decide +kernel, by decide +kernel, _, _, rfl, rfl⟩
set_option maxRecDepth 100000 in
theorem ea_X8_sumOverRouters : co_X8_sumOverRouters.all (entOk (mRow m_X8_sumOverRouters).2.2.2.2.1 (mRow m_X8_sumOverRouters).2.2.1 (mRow m_X8_sumOverRouters).2.1) = true := by decide +kernel
theorem md_X8_sumOverRouters : mdOk m_X8_sumOverRouters := ⟨ea_X8_sumOverRouters, by decide +kernel, by decide +kernel, _, _, rfl, rfl⟩
set_option maxRecDepth 100000 in
theorem ea_X8_namesWithAnswer : co_X8_namesWithAnswer.all (entOk (mRow m_X8_namesWithAnswer).2.2.2.2.1 (mRow m_X8_namesWithAnswer).2.2.1 (mRow m_X8_namesWithAnswer).2.1) = true := by decide +kernel
theorem md_X8_namesWithAnswer : mdOk m_X8_namesWithAnswer := ⟨ea_X8_namesWithAnswer, by decide +kernel, by decide +kernel, _, _, rfl, rfl⟩
set_option maxRecDepth 100000 in
theorem ea_X9_init : co_X9_init.all (entOk (mRow m_X9_init).2.2.2.2.1 (mRow m_X9_init).2.2.1 (mRow m_X9_init).2.1) = true := by decide +kernel
theorem md_X9_init : mdOk m_X9_init := ⟨ea_X9_init, by decide +kernel, by decide +kernel, _, _, rfl, rfl⟩
set_option maxRecDepth 100000 in
theorem ea_X9_addServer : co_X9_addServer.all (entOk (mRow m_X9_addServer).2.2.2.2.1 (mRow m_X9_addServer).2.2.1 (mRow m_X9_addServer).2.1) = true := by decide +kernel
theorem md_X9_addServer : mdOk m_X9_addServer := ⟨ea_X9_addServer, by decide +kernel, by decide +kernel, _, _, rfl, rfl⟩
set_option maxRecDepth 100000 in
theorem ea_X9_addSite : co_X9_addSite.all (entOk (mRow m_X9_addSite).2.2.2.2.1 (mRow m_X9_addSite).2.2.1 (mRow m_X9_addSite).2.1) = true := by decide +kernel
theorem md_X9_addSite : mdOk m_X9_addSite := ⟨ea_X9_addSite, by decide +kernel, by decide +kernel, _, _, rfl, rfl⟩
set_option maxRecDepth 100000 in
theorem ea_X9_addRouter : co_X9_addRouter.all (entOk (mRow m_X9_addRouter).2.2.2.2.1 (mRow m_X9_addRouter).2.2.1 (mRow m_X9_addRouter).2.1) = true := by decide +kernel
theorem md_X9_addRouter : mdOk m_X9_addRouter := ⟨ea_X9_addRouter, by decide +kernel, by decide +kernel, _, _, rfl, rfl⟩
set_option maxRecDepth 100000 in
theorem ea_X9_setSlot : co_X9_setSlot.all (entOk (mRow m_X9_setSlot).2.2.2.2.1 (mRow m_X9_setSlot).2.2.1 (mRow m_X9_setSlot).2.1) = true := by decide +kernel
theorem md_X9_setSlot : mdOk m_X9_setSlot := ⟨ea_X9_setSlot, by decide +kernel, by decide +kernel, _, _, rfl, rfl⟩
set_option maxRecDepth 100000 in
theorem ea_X9_emptySlot : co_X9_emptySlot.all (entOk (mRow m_X9_emptySlot).2.2.2.2.1 (mRow m_X9_emptySlot).2.2.1 (mRow m_X9_emptySlot).2.1) = true := by decide +kernel
theorem md_X9_emptySlot : mdOk m_X9_emptySlot := ⟨ea_X9_emptySlot, by decide +kernel, by decide +kernel, _, _, rfl, rfl⟩
set_option maxRecDepth 100000 in
theorem ea_X9_register : co_X9_register.all (entOk (mRow m_X9_register).2.2.2.2.1 (mRow m_X9_register).2.2.1 (mRow m_X9_register).2.1) = true := by decide +kernel
theorem md_X9_register : mdOk m_X9_register := ⟨ea_X9_register, by decide +kernel, by decide +kernel, _, _, rfl, rfl⟩
set_option maxRecDepth 100000 in
theorem ea_X9_unregister : co_X9_unregister.all (entOk (mRow m_X9_unregister).2.2.2.2.1 (mRow m_X9_unregister).2.2.1 (mRow m_X9_unregister).2.1) = true := by decide +kernel
theorem md_X9_unregister : mdOk m_X9_unregister := ⟨ea_X9_unregister, by decide +kernel, by decide +kernel, _, _, rfl, rfl⟩
set_option maxRecDepth 100000 in
theorem ea_X9_setMapLife : co_X9_setMapLife.all (entOk (mRow m_X9_setMapLife).2.2.2.2.1 (mRow m_X9_setMapLife).2.2.1 (mRow m_X9_setMapLife).2.1) = true := by decide +kernel
theorem md_X9_setMapLife : mdOk m_X9_setMapLife := ⟨ea_X9_setMapLife, by decide +kernel, by decide +kernel, _, _, rfl, rfl⟩
set_option maxRecDepth 100000 in
theorem ea_X9_send : co_X9_send.all (entOk (mRow m_X9_send).2.2.2.2.1 (mRow m_X9_send).2.2.1 (mRow m_X9_send).2.1) = true := by decide +kernel
theorem md_X9_send : mdOk m_X9_send := ⟨ea_X9_send, by decide +kernel, by decide +kernel, _, _, rfl, rfl⟩
set_option maxRecDepth 100000 in
theorem ea_X9_pass : co_X9_pass.all (entOk (mRow m_X9_pass).2.2.2.2.1 (mRow m_X9_pass).2.2.1 (mRow m_X9_pass).2.1) = true := by decide +kernel
theorem md_X9_pass : mdOk m_X9_pass := ⟨ea_X9_pass, by decide +kernel, by decide +kernel, _, _, rfl, rfl⟩
set_option maxRecDepth 100000 in
theorem ea_X9_forget : co_X9_forget.all (entOk (mRow m_X9_forget).2.2.2.2.1 (mRow m_X9_forget).2.2.1 (mRow m_X9_forget).2.1) = true := by decide +kernel
theorem md_X9_forget : mdOk m_X9_forget := ⟨ea_X9_forget, by decide +kernel, by decide +kernel, _, _, rfl, rfl⟩
set_option maxRecDepth 100000 in
theorem ea_X9_undo : co_X9_undo.all (entOk (mRow m_X9_undo).2.2.2.2.1 (mRow m_X9_undo).2.2.1 (mRow m_X9_undo).2.1) = true := by decide +kernel
theorem md_X9_undo : mdOk m_X9_undo := ⟨ea_X9_undo, by decide +kernel, by decide +kernel, _, _, rfl, rfl⟩
set_option maxRecDepth 100000 in
theorem ea_X9_save : co_X9_save.all (entOk (mRow m_X9_save).2.2.2.2.1 (mRow m_X9_save).2.2.1 (mRow m_X9_save).2.1) = true := by decide +kernel
theorem md_X9_save : mdOk m_X9_save := ⟨ea_X9_save, by decide +kernel, by decide +kernel, _, _, rfl, rfl⟩
set_option maxRecDepth 100000 in
theorem ea_X9_restore : co_X9_restore.all (entOk (mRow m_X9_restore).2.2.2.2.1 (mRow m_X9_restore).2.2.1 (mRow m_X9_restore).2.1) = true := by decide +kernel
theorem md_X9_restore : mdOk m_X9_restore := ⟨ea_X9_restore, by decide +kernel, by decide +kernel, _, _, rfl, rfl⟩
set_option maxRecDepth 100000 in
theorem ea_X9_server : co_X9_server.all (entOk (mRow m_X9_server).2.2.2.2.1 (mRow m_X9_server).2.2.1 (mRow m_X9_server).2.1) = true := by decide +kernel
theorem md_X9_server : mdOk m_X9_server := ⟨ea_X9_server, by decide +kernel, by decide +kernel, _, _, rfl, rfl⟩
set_option maxRecDepth 100000 in
theorem ea_X9_site : co_X9_site.all (entOk (mRow m_X9_site).2.2.2.2.1 (mRow m_X9_site).2.2.1 (mRow m_X9_site).2.1) = true := by decide +kernel
theorem md_X9_site : mdOk m_X9_site := ⟨ea_X9_site, by decide +kernel, by decide +kernel, _, _, rfl, rfl⟩
set_option maxRecDepth 100000 in
theorem ea_X9_slot : co_X9_slot.all (entOk (mRow m_X9_slot).2.2.2.2.1 (mRow m_X9_slot).2.2.1 (mRow m_X9_slot).2.1) = true := by decide +kernel
theorem md_X9_slot : mdOk m_X9_slot := ⟨ea_X9_slot, by decide +kernel, by decide +kernel, _, _, rfl, rfl⟩
set_option maxRecDepth 100000 in
theorem ea_X9_router : co_X9_router.all (entOk (mRow m_X9_router).2.2.2.2.1 (mRow m_X9_router).2.2.1 (mRow m_X9_router).2.1) = true := by decide +kernel
theorem md_X9_router : mdOk m_X9_router := ⟨ea_X9_router, by decide +kernel, by decide +kernel, _, _, rfl, rfl⟩
set_option maxRecDepth 100000 in
theorem ea_X9_map : co_X9_map.all (entOk (mRow m_X9_map).2.2.2.2.1 (mRow m_X9_map).2.2.1 (mRow m_X9_map).2.1) = true := by decide +kernel
theorem md_X9_map : mdOk m_X9_map := ⟨ea_X9_map, by decide +kernel, by decide +kernel, _, _, rfl, rfl⟩
set_option maxRecDepth 100000 in
theorem ea_X9_answer : co_X9_answer.all (entOk (mRow m_X9_answer).2.2.2.2.1 (mRow m_X9_answer).2.2.1 (mRow m_X9_answer).2.1) = true := by decide +kernel
theorem md_X9_answer : mdOk m_X9_answer := ⟨ea_X9_answer, by decide +kernel, by decide +kernel, _, _, rfl, rfl⟩
set_option maxRecDepth 100000 in
theorem ea_X9_endingNext : co_X9_endingNext.all (entOk (mRow m_X9_endingNext).2.2.2.2.1 (mRow m_X9_endingNext).2.2.1 (mRow m_X9_endingNext).2.1) = true := by decide +kernel
theorem md_X9_endingNext : mdOk m_X9_endingNext := ⟨ea_X9_endingNext, by decide +kernel, by decide +kernel, _, _, rfl, rfl⟩
set_option maxRecDepth 100000 in
theorem ea_X9_total : co_X9_total.all (entOk (mRow m_X9_total).2.2.2.2.1 (mRow m_X9_total).2.2.1 (mRow m_X9_total).2.1) = true := by decide +kernel
theorem md_X9_total : mdOk m_X9_total := ⟨ea_X9_total, by decide +kernel, by decide +kernel, _, _, rfl, rfl⟩
set_option maxRecDepth 100000 in
theorem ea_X9_wouldReach : co_X9_wouldReach.all (entOk (mRow m_X9_wouldReach).2.2.2.2.1 (mRow m_X9_wouldReach).2.2.1 (mRow m_X9_wouldReach).2.1) = true := by decide +kernel
theorem md_X9_wouldReach : mdOk m_X9_wouldReach := ⟨ea_X9_wouldReach, by decide +kernel, by decide +kernel, _, _, rfl, rfl⟩
set_option maxRecDepth 100000 in
theorem ea_X9_wouldAsk : co_X9_wouldAsk.all (entOk (mRow m_X9_wouldAsk).2.2.2.2.1 (mRow m_X9_wouldAsk).2.2.1 (mRow m_X9_wouldAsk).2.1) = true := by decide +kernel
theorem md_X9_wouldAsk : mdOk m_X9_wouldAsk := ⟨ea_X9_wouldAsk, by decide +kernel, by decide +kernel, _, _, rfl, rfl⟩
set_option maxRecDepth 100000 in
theorem ea_X9_recorded : co_X9_recorded.all (entOk (mRow m_X9_recorded).2.2.2.2.1 (mRow m_X9_recorded).2.2.1 (mRow m_X9_recorded).2.1) = true := by decide +kernel
theorem md_X9_recorded : mdOk m_X9_recorded := ⟨ea_X9_recorded, by decide +kernel, by decide +kernel, _, _, rfl, rfl⟩
set_option maxRecDepth 100000 in
theorem ea_X9_isSave : co_X9_isSave.all (entOk (mRow m_X9_isSave).2.2.2.2.1 (mRow m_X9_isSave).2.2.1 (mRow m_X9_isSave).2.1) = true := by decide +kernel
theorem md_X9_isSave : mdOk m_X9_isSave := ⟨ea_X9_isSave, by decide +kernel, by decide +kernel, _, _, rfl, rfl⟩
set_option maxRecDepth 100000 in
theorem ea_X9_isSlot : co_X9_isSlot.all (entOk (mRow m_X9_isSlot).2.2.2.2.1 (mRow m_X9_isSlot).2.2.1 (mRow m_X9_isSlot).2.1) = true := by decide +kernel
theorem md_X9_isSlot : mdOk m_X9_isSlot := ⟨ea_X9_isSlot, by decide +kernel, by decide +kernel, _, _, rfl, rfl⟩
set_option maxRecDepth 100000 in
theorem ea_X9_isName : co_X9_isName.all (entOk (mRow m_X9_isName).2.2.2.2.1 (mRow m_X9_isName).2.2.1 (mRow m_X9_isName).2.1) = true := by decide +kernel
theorem md_X9_isName : mdOk m_X9_isName := ⟨ea_X9_isName, by decide +kernel, by decide +kernel, _, _, rfl, rfl⟩
set_option maxRecDepth 100000 in
theorem ea_X9_isFlow : co_X9_isFlow.all (entOk (mRow m_X9_isFlow).2.2.2.2.1 (mRow m_X9_isFlow).2.2.1 (mRow m_X9_isFlow).2.1) = true := by decide +kernel
theorem md_X9_isFlow : mdOk m_X9_isFlow := ⟨ea_X9_isFlow, by decide +kernel, by decide +kernel, _, _, rfl, rfl⟩
set_option maxRecDepth 100000 in
theorem ea_X9_isPlaceOfSlot : co_X9_isPlaceOfSlot.all (entOk (mRow m_X9_isPlaceOfSlot).2.2.2.2.1 (mRow m_X9_isPlaceOfSlot).2.2.1 (mRow m_X9_isPlaceOfSlot).2.1) = true := by decide +kernel
theorem md_X9_isPlaceOfSlot : mdOk m_X9_isPlaceOfSlot := ⟨ea_X9_isPlaceOfSlot, by decide +kernel, by decide +kernel, _, _, rfl, rfl⟩
set_option maxRecDepth 100000 in
theorem ea_X9_isBlock : co_X9_isBlock.all (entOk (mRow m_X9_isBlock).2.2.2.2.1 (mRow m_X9_isBlock).2.2.1 (mRow m_X9_isBlock).2.1) = true := by decide +kernel
theorem md_X9_isBlock : mdOk m_X9_isBlock := ⟨ea_X9_isBlock, by decide +kernel, by decide +kernel, _, _, rfl, rfl⟩
set_option maxRecDepth 100000 in
theorem ea_J6_bitCount_0f7a4 : co_J6_bitCount_0f7a4.all (entOk (mRow m_J6_bitCount_0f7a4).2.2.2.2.1 (mRow m_J6_bitCount_0f7a4).2.2.1 (mRow m_J6_bitCount_0f7a4).2.1) = true := by decide +kernel
theorem md_J6_bitCount_0f7a4 : mdOk m_J6_bitCount_0f7a4 := ⟨ea_J6_bitCount_0f7a4, by decide +kernel, by decide +kernel, _, _, rfl, rfl⟩
set_option maxRecDepth 100000 in
theorem ea_J9_floorMod_7cf53 : co_J9_floorMod_7cf53.all (entOk (mRow m_J9_floorMod_7cf53).2.2.2.2.1 (mRow m_J9_floorMod_7cf53).2.2.1 (mRow m_J9_floorMod_7cf53).2.1) = true := by decide +kernel
theorem md_J9_floorMod_7cf53 : mdOk m_J9_floorMod_7cf53 := ⟨ea_J9_floorMod_7cf53, by decide +kernel, by decide +kernel, _, _, rfl, rfl⟩
set_option maxRecDepth 100000 in
theorem ea_L_cell : co_L_cell.all (entOk (mRow m_L_cell).2.2.2.2.1 (mRow m_L_cell).2.2.1 (mRow m_L_cell).2.1) = true := by decide +kernel
theorem md_L_cell : mdOk m_L_cell := ⟨ea_L_cell, by decide +kernel, by decide +kernel, _, _, rfl, rfl⟩
set_option maxRecDepth 100000 in
theorem ea_L_up : co_L_up.all (entOk (mRow m_L_up).2.2.2.2.1 (mRow m_L_up).2.2.1 (mRow m_L_up).2.1) = true := by decide +kernel
theorem md_L_up : mdOk m_L_up := ⟨ea_L_up, by decide +kernel, by decide +kernel, _, _, rfl, rfl⟩
set_option maxRecDepth 100000 in
theorem ea_L_size : co_L_size.all (entOk (mRow m_L_size).2.2.2.2.1 (mRow m_L_size).2.2.1 (mRow m_L_size).2.1) = true := by decide +kernel
theorem md_L_size : mdOk m_L_size := ⟨ea_L_size, by decide +kernel, by decide +kernel, _, _, rfl, rfl⟩
set_option maxRecDepth 100000 in
theorem ea_L_any : co_L_any.all (entOk (mRow m_L_any).2.2.2.2.1 (mRow m_L_any).2.2.1 (mRow m_L_any).2.1) = true := by decide +kernel
theorem md_L_any : mdOk m_L_any := ⟨ea_L_any, by decide +kernel, by decide +kernel, _, _, rfl, rfl⟩
set_option maxRecDepth 100000 in
theorem ea_L_turn : co_L_turn.all (entOk (mRow m_L_turn).2.2.2.2.1 (mRow m_L_turn).2.2.1 (mRow m_L_turn).2.1) = true := by decide +kernel
theorem md_L_turn : mdOk m_L_turn := ⟨ea_L_turn, by decide +kernel, by decide +kernel, _, _, rfl, rfl⟩
set_option maxRecDepth 100000 in
theorem ea_L_name : co_L_name.all (entOk (mRow m_L_name).2.2.2.2.1 (mRow m_L_name).2.2.1 (mRow m_L_name).2.1) = true := by decide +kernel
theorem md_L_name : mdOk m_L_name := ⟨ea_L_name, by decide +kernel, by decide +kernel, _, _, rfl, rfl⟩
set_option maxRecDepth 100000 in
theorem ea_L_hasPlace : co_L_hasPlace.all (entOk (mRow m_L_hasPlace).2.2.2.2.1 (mRow m_L_hasPlace).2.2.1 (mRow m_L_hasPlace).2.1) = true := by decide +kernel
theorem md_L_hasPlace : mdOk m_L_hasPlace := ⟨ea_L_hasPlace, by decide +kernel, by decide +kernel, _, _, rfl, rfl⟩
set_option maxRecDepth 100000 in
theorem ea_L_areRouters : co_L_areRouters.all (entOk (mRow m_L_areRouters).2.2.2.2.1 (mRow m_L_areRouters).2.2.1 (mRow m_L_areRouters).2.1) = true := by decide +kernel
theorem md_L_areRouters : mdOk m_L_areRouters := ⟨ea_L_areRouters, by decide +kernel, by decide +kernel, _, _, rfl, rfl⟩
set_option maxRecDepth 100000 in
theorem ea_L_areEnding : co_L_areEnding.all (entOk (mRow m_L_areEnding).2.2.2.2.1 (mRow m_L_areEnding).2.2.1 (mRow m_L_areEnding).2.1) = true := by decide +kernel
theorem md_L_areEnding : mdOk m_L_areEnding := ⟨ea_L_areEnding, by decide +kernel, by decide +kernel, _, _, rfl, rfl⟩
theorem mlT_lt : ∀ q ∈ mlT, q.2.2.1 < 123 := by decide +kernel
theorem initL_ok : ∀ m, m < 123 → m ∉ initL → (mRow m).1.name ≠ "<init>" := by decide +kernel
set_option maxRecDepth 100000 in
theorem md_all : ∀ m, m < 123 → mdOk m := fun m h => match m, h with
  | 0, _ => md_X0_init
  | 1, _ => md_X1_init
  | 2, _ => md_X1_become
  | 3, _ => md_X1_copyFrom
  | 4, _ => md_X1_isAt
  | 5, _ => md_X1_has
  | 6, _ => md_X1_holds
  | 7, _ => md_X1_meets
  | 8, _ => md_X2_init
  | 9, _ => md_X2_become
  | 10, _ => md_X2_copyFrom
  | 11, _ => md_X2_isHolding
  | 12, _ => md_X2_property
  | 13, _ => md_X3_init
  | 14, _ => md_X3_row
  | 15, _ => md_X3_draft
  | 16, _ => md_X3_keepDraft
  | 17, _ => md_X3_takeLatest
  | 18, _ => md_X4_init
  | 19, _ => md_X4_start
  | 20, _ => md_X4_copyFrom
  | 21, _ => md_X4_isPlace
  | 22, _ => md_X4_property
  | 23, _ => md_X4_moveToFront
  | 24, _ => md_X4_drop
  | 25, _ => md_X4_dropEnded
  | 26, _ => md_X4_placeOfSite
  | 27, _ => md_X4_placeOfSmallest
  | 28, _ => md_X4_addMap
  | 29, _ => md_X5_init
  | 30, _ => md_X5_copyFrom
  | 31, _ => md_X6_init
  | 32, _ => md_X6_start
  | 33, _ => md_X6_copyFrom
  | 34, _ => md_X6_isRegistered
  | 35, _ => md_X6_isUp
  | 36, _ => md_X7_init
  | 37, _ => md_X7_copyFrom
  | 38, _ => md_X7_fill
  | 39, _ => md_X7_propertyOf
  | 40, _ => md_X7_isEmpty
  | 41, _ => md_X7_areEmpty
  | 42, _ => md_X7_have
  | 43, _ => md_X7_lowestPriority
  | 44, _ => md_X7_weightThatCounts
  | 45, _ => md_X7_placeFor
  | 46, _ => md_X8_init
  | 47, _ => md_X8_copyFrom
  | 48, _ => md_X8_isServer
  | 49, _ => md_X8_isSite
  | 50, _ => md_X8_isRouter
  | 51, _ => md_X8_newServer
  | 52, _ => md_X8_newSite
  | 53, _ => md_X8_newRouter
  | 54, _ => md_X8_fillSlot
  | 55, _ => md_X8_vacateSlot
  | 56, _ => md_X8_startRegistration
  | 57, _ => md_X8_endRegistration
  | 58, _ => md_X8_changeMapLife
  | 59, _ => md_X8_letPass
  | 60, _ => md_X8_emptyCache
  | 61, _ => md_X8_sendLetter
  | 62, _ => md_X8_placeByMap
  | 63, _ => md_X8_ask
  | 64, _ => md_X8_goByProxy
  | 65, _ => md_X8_homeOf
  | 66, _ => md_X8_homeOfSite
  | 67, _ => md_X8_hopsTo
  | 68, _ => md_X8_answerFor
  | 69, _ => md_X8_siteEndingAt
  | 70, _ => md_X8_sitesEndingAheadOf
  | 71, _ => md_X8_serverProperty
  | 72, _ => md_X8_childrenOf
  | 73, _ => md_X8_sitesAtHome
  | 74, _ => md_X8_siteProperty
  | 75, _ => md_X8_mapsOf
  | 76, _ => md_X8_totalOf
  | 77, _ => md_X8_sitesUp
  | 78, _ => md_X8_sumOverRouters
  | 79, _ => md_X8_namesWithAnswer
  | 80, _ => md_X9_init
  | 81, _ => md_X9_addServer
  | 82, _ => md_X9_addSite
  | 83, _ => md_X9_addRouter
  | 84, _ => md_X9_setSlot
  | 85, _ => md_X9_emptySlot
  | 86, _ => md_X9_register
  | 87, _ => md_X9_unregister
  | 88, _ => md_X9_setMapLife
  | 89, _ => md_X9_send
  | 90, _ => md_X9_pass
  | 91, _ => md_X9_forget
  | 92, _ => md_X9_undo
  | 93, _ => md_X9_save
  | 94, _ => md_X9_restore
  | 95, _ => md_X9_server
  | 96, _ => md_X9_site
  | 97, _ => md_X9_slot
  | 98, _ => md_X9_router
  | 99, _ => md_X9_map
  | 100, _ => md_X9_answer
  | 101, _ => md_X9_endingNext
  | 102, _ => md_X9_total
  | 103, _ => md_X9_wouldReach
  | 104, _ => md_X9_wouldAsk
  | 105, _ => md_X9_recorded
  | 106, _ => md_X9_isSave
  | 107, _ => md_X9_isSlot
  | 108, _ => md_X9_isName
  | 109, _ => md_X9_isFlow
  | 110, _ => md_X9_isPlaceOfSlot
  | 111, _ => md_X9_isBlock
  | 112, _ => md_J6_bitCount_0f7a4
  | 113, _ => md_J9_floorMod_7cf53
  | 114, _ => md_L_cell
  | 115, _ => md_L_up
  | 116, _ => md_L_size
  | 117, _ => md_L_any
  | 118, _ => md_L_turn
  | 119, _ => md_L_name
  | 120, _ => md_L_hasPlace
  | 121, _ => md_L_areRouters
  | 122, _ => md_L_areEnding
  | n + 123, h => absurd h (by omega)
set_option maxRecDepth 100000 in
theorem ea_L_view : co_L_view.all (entOkL (mRow m_L_view).2.2.1 (mRow m_L_view).2.1) = true := by decide +kernel
theorem md_L_view : mdOkL m_L_view := ⟨ea_L_view, by decide +kernel, by decide +kernel, _, _, rfl, rfl⟩
set_option maxRecDepth 100000 in
theorem ea_L_isSent : co_L_isSent.all (entOkL (mRow m_L_isSent).2.2.1 (mRow m_L_isSent).2.1) = true := by decide +kernel
theorem md_L_isSent : mdOkL m_L_isSent := ⟨ea_L_isSent, by decide +kernel, by decide +kernel, _, _, rfl, rfl⟩
set_option maxRecDepth 100000 in
theorem ea_L_isUndone : co_L_isUndone.all (entOkL (mRow m_L_isUndone).2.2.1 (mRow m_L_isUndone).2.1) = true := by decide +kernel
theorem md_L_isUndone : mdOkL m_L_isUndone := ⟨ea_L_isUndone, by decide +kernel, by decide +kernel, _, _, rfl, rfl⟩
set_option maxRecDepth 100000 in
theorem ea_L_isSaved : co_L_isSaved.all (entOkL (mRow m_L_isSaved).2.2.1 (mRow m_L_isSaved).2.1) = true := by decide +kernel
theorem md_L_isSaved : mdOkL m_L_isSaved := ⟨ea_L_isSaved, by decide +kernel, by decide +kernel, _, _, rfl, rfl⟩
set_option maxRecDepth 100000 in
theorem ex_L_law_0 : cx_L_law_0.all (entOkL (mRow m_L_law).2.2.1 (mRow m_L_law).2.1) = true := by decide +kernel
set_option maxRecDepth 100000 in
theorem ex_L_law_1 : cx_L_law_1.all (entOkL (mRow m_L_law).2.2.1 (mRow m_L_law).2.1) = true := by decide +kernel
set_option maxRecDepth 100000 in
theorem ex_L_law_2 : cx_L_law_2.all (entOkL (mRow m_L_law).2.2.1 (mRow m_L_law).2.1) = true := by decide +kernel
set_option maxRecDepth 100000 in
theorem ex_L_law_3 : cx_L_law_3.all (entOkL (mRow m_L_law).2.2.1 (mRow m_L_law).2.1) = true := by decide +kernel
set_option maxRecDepth 100000 in
theorem ex_L_law_4 : cx_L_law_4.all (entOkL (mRow m_L_law).2.2.1 (mRow m_L_law).2.1) = true := by decide +kernel
set_option maxRecDepth 100000 in
theorem ex_L_law_5 : cx_L_law_5.all (entOkL (mRow m_L_law).2.2.1 (mRow m_L_law).2.1) = true := by decide +kernel
set_option maxRecDepth 100000 in
theorem ex_L_law_6 : cx_L_law_6.all (entOkL (mRow m_L_law).2.2.1 (mRow m_L_law).2.1) = true := by decide +kernel
theorem ea_L_law : co_L_law.all (entOkL (mRow m_L_law).2.2.1 (mRow m_L_law).2.1) = true := by
  unfold co_L_law
  simp only [List.all_append, ex_L_law_0, ex_L_law_1, ex_L_law_2, ex_L_law_3, ex_L_law_4, ex_L_law_5, ex_L_law_6, Bool.and_self]
theorem md_L_law : mdOkL m_L_law := ⟨ea_L_law, by decide +kernel, by decide +kernel, _, _, rfl, rfl⟩
theorem mlT2_ge : ∀ q ∈ mlT2, 123 ≤ q.2.2.1 ∧ q.2.2.1 < 128 := by decide +kernel
theorem mdL_all : ∀ m, 123 ≤ m → m < 128 → mdOkL m := fun m h h2 => match m, h, h2 with
  | 123, _, _ => md_L_view
  | 124, _, _ => md_L_isSent
  | 125, _, _ => md_L_isUndone
  | 126, _, _ => md_L_isSaved
  | 127, _, _ => md_L_law
  | n + 128, _, h => absurd h (by omega)
end
section
/-! THE STORE IN THE HEAP: every object has its address; the cells hold what the store says -/
def cntK (c : Nat) : Nat := match c with
  | 0 => 1 | 1 => 360 | 2 => 200 | 3 => 1 | 4 => 40 | 5 => 80 | 6 => 80 | 7 => 280 | 8 => 10 | 9 => 1 | 10 => 0
  | 11 => 10 | 12 => 10 | 13 => 10 | 14 => 40 | 15 => 280 | 16 => 1 | 17 => 1 | 18 => 1 | 19 => 1 | _ => 0
def nfK (c : Nat) : Nat := match c with
  | 0 => 8 | 1 => 2 | 2 => 6 | 3 => 3 | 4 => 7 | 5 => 2 | 6 => 5 | 7 => 1 | 8 => 8 | 9 => 6 | _ => 0
def allR : List (Nat × Nat) := (List.range 24).flatMap (fun c => (List.range (cntK c)).map (fun i => (c, i)))
theorem mem_allR {c i : Nat} : (c, i) ∈ allR ↔ i < cntK c := by
  constructor
  · intro h
    obtain ⟨c', h1, h2⟩ := List.mem_flatMap.mp h
    obtain ⟨i', h3, h4⟩ := List.mem_map.mp h2
    cases h4
    exact List.mem_range.mp h3
  · intro h
    have hc : c < 24 := by
      rcases Nat.lt_or_ge c 24 with q | q
      · exact q
      · exfalso
        have : cntK c = 0 := by
          unfold cntK
          split <;> first | rfl | omega
        omega
    exact List.mem_flatMap.mpr ⟨c, List.mem_range.mpr hc, List.mem_map.mpr ⟨i, List.mem_range.mpr h, rfl⟩⟩
def okR (r : Nat × Nat) : Prop := r.2 < cntK r.1 ∨ r = (24, 0)
def okV (v : MV) : Prop := match v with
  | .inl _ => True
  | .inr r => okR r
def trv (ad : Nat × Nat → Nat) (v : MV) : Value := match v with
  | .inl x => .int x
  | .inr r => .ref (ad r)
/-- which type of array: a place in tysA -/
def atyK (c : Nat) : Nat := match c with
  | 11 => 3 | 12 => 4 | 13 => 5 | 14 => 6 | 16 => 7 | 17 => 7 | 18 => 1 | 19 => 2 | _ => 0
def tysA (cA : Nat → ClassId) : List (ClassId × FieldType) := [(cA 0, .int), (cA 1, .boolean), (cA 2, .byte), (cA 3, .object RX5), (cA 4, .object RX6), (cA 5, .object RX4), (cA 6, .object RX2), (cA 7, .object RX8)]
def cellD (cA : Nat → ClassId) (ad : Nat × Nat → Nat) (z : St) (r : Nat × Nat) : va_E :=
  if r.1 < 10 then .inr (r.1, (List.range (nfK r.1)).map (fun k => trv ad (fv z r.1 r.2 k)))
  else if akind r.1 = 3 then .inl (cA (atyK r.1), alen r.1, .inr (.inr (.inr (.inr (fun j => some (ad (el z.2 r.1 r.2 j)))))))
  else .inl (cA (atyK r.1), alen r.1, .inl (z.1 r.1 r.2))
def smW (cA : Nat → ClassId) (ad : Nat × Nat → Nat) (z : St) : va_W := allR.map (fun r => (ad r, cellD cA ad z r))
def okP (z : St) : Prop := ∀ i j : Nat, i < 40 → j < 5 → z.2 i j < 200
def Hp (D : va_G) (cA : Nat → ClassId) (ad : Nat × Nat → Nat) (z : St) (H : Heap) : Prop := va_P D vwCl (smW cA ad z) H ∧ okP z
def adOk (ad : Nat × Nat → Nat) (A : Nat → Prop) : Prop := va_D A (allR.map (fun r => (ad r, (.inr (0, []) : va_E))))
theorem smW_D {cA : Nat → ClassId} {ad : Nat × Nat → Nat} {A : Nat → Prop} (h : adOk ad A) (z : St) : va_D A (smW cA ad z) := by
  have key : ∀ (k : Nat) (q : Nat × va_E), (smW cA ad z)[k]? = some q → (allR.map (fun r => (ad r, (.inr (0, []) : va_E))))[k]? = some (q.1, .inr (0, [])) := by
    intro k q hq
    unfold smW at hq
    rw [List.getElem?_map] at hq ⊢
    cases hr : allR[k]? with
    | none => rw [hr] at hq; cases hq
    | some r => rw [hr] at hq; cases hq; rfl
  exact ⟨fun i j p q hi hj e => h.1 i j _ _ (key i p hi) (key j q hj) e, fun k q hk => h.2 k (q.1, .inr (0, [])) (key k q hk)⟩
theorem smW_get {cA : Nat → ClassId} {ad : Nat × Nat → Nat} (z : St) {r : Nat × Nat} (h : r.2 < cntK r.1) : ∃ k : Nat, (smW cA ad z)[k]? = some (ad r, cellD cA ad z r) := by
  apply List.getElem?_of_mem
  exact List.mem_map.mpr ⟨r, mem_allR.mpr h, rfl⟩
/-- one cell becomes another one, all others stay -/
theorem smW_set {cA : Nat → ClassId} {ad : Nat × Nat → Nat} {A : Nat → Prop} (hD : adOk ad A) {z z' : St} {r : Nat × Nat} {k : Nat} {e : va_E} (hk : (smW cA ad z)[k]? = some (ad r, cellD cA ad z r)) (h : r.2 < cntK r.1) (he : cellD cA ad z' r = e)
    (ho : ∀ r', r' ≠ r → cellD cA ad z' r' = cellD cA ad z r') : (smW cA ad z).set k (ad r, e) = smW cA ad z' := by
  have hl := (List.getElem?_eq_some_iff.mp hk).1
  apply List.ext_getElem?
  intro j
  by_cases hj : j = k
  · subst hj
    rw [List.getElem?_set_self hl]
    unfold smW at hk ⊢
    rw [List.getElem?_map] at hk ⊢
    cases hr : allR[j]? with
    | none => rw [hr] at hk; cases hk
    | some r' =>
      rw [hr] at hk
      have e1 : ad r' = ad r := congrArg Prod.fst (Option.some.inj hk)
      obtain ⟨i, hi⟩ := List.getElem?_of_mem (mem_allR.mpr h)
      have e2 : j = i := hD.1 j i (ad r', .inr (0, [])) (ad r, .inr (0, [])) (by rw [List.getElem?_map, hr]; rfl) (by rw [List.getElem?_map, hi]; rfl) e1
      subst e2
      have e3 : r' = r := Option.some.inj (hr.symm.trans hi)
      subst e3
      simp [he]
  · rw [List.getElem?_set_ne (Ne.symm hj)]
    unfold smW at hk ⊢
    rw [List.getElem?_map, List.getElem?_map]
    cases hr : allR[j]? with
    | none => rfl
    | some r' =>
      have hne : r' ≠ r := by
        intro e
        subst e
        rw [List.getElem?_map] at hk
        cases hr2 : allR[k]? with
        | none => rw [hr2] at hk; cases hk
        | some r2 =>
          rw [hr2] at hk
          have e1 : ad r2 = ad r' := congrArg Prod.fst (Option.some.inj hk)
          exact hj (hD.1 j k (ad r', .inr (0, [])) (ad r2, .inr (0, [])) (by rw [List.getElem?_map, hr]; rfl) (by rw [List.getElem?_map, hr2]; rfl) e1.symm)
      simp [ho r' hne]
theorem cell_obj {cA : Nat → ClassId} {ad : Nat × Nat → Nat} {z : St} {c i : Nat} (h : c < 10) : cellD cA ad z (c, i) = .inr (c, (List.range (nfK c)).map (fun k => trv ad (fv z c i k))) := if_pos h
theorem okR_lk {c k i : Nat} {r : Nat × Nat} (h : i < cntK c) (e : lk c k i = some r) : okR r := by
  left
  unfold lk at e
  unfold cntK at h
  split at e <;> first
    | (cases e; done)
    | (split at e <;> first | (cases e; done) | (cases e; simp only [cntK] at h ⊢; omega))
    | (cases e; simp only [cntK] at h ⊢; omega)
theorem okR_el {P : Nat → Nat → Nat} {c i j : Nat} (hP : ∀ i j : Nat, i < 40 → j < 5 → P i j < 200) (h : i < cntK c) (ha : akind c = 3) (hj : j < alen c) : okR (el P c i j) := by
  left
  unfold akind at ha
  split at ha <;> first
    | omega
    | (simp only [cntK, alen, el] at *; omega)
    | (simp only [cntK, alen, el] at *; exact hP _ _ (by omega) (by omega))
theorem okV_fv {z : St} {c i k : Nat} (h : i < cntK c) : okV (fv z c i k) := by
  unfold fv
  cases e : lk c k i with
  | none => trivial
  | some r => exact okR_lk h e
/-- the locals -/
def enumL : Nat → List Value → List (Nat × Value)
  | _, [] => []
  | k, v :: l => (k, v) :: enumL (k + 1) l
def locOk (ad : Nat × Nat → Nat) (nL : Nat) (lsA : Array Slot) (ls : List MV) : Prop := lv_has lsA nL (enumL 0 (ls.map (trv ad))) ∧ ls.length ≤ nL
theorem mem_enumL {l : List Value} : ∀ {k : Nat} {q : Nat × Value}, q ∈ enumL k l ↔ k ≤ q.1 ∧ l[q.1 - k]? = some q.2 := by
  induction l with
  | nil => intro k q; simp [enumL]
  | cons v l ih =>
    intro k q
    obtain ⟨a, w⟩ := q
    simp only [enumL, List.mem_cons, ih]
    constructor
    · rintro (h | ⟨h1, h2⟩)
      · cases h
        exact ⟨Nat.le_refl _, by simp⟩
      · refine ⟨by omega, ?_⟩
        have : a - k = (a - (k + 1)) + 1 := by omega
        rw [this]
        exact h2
    · rintro ⟨h1, h2⟩
      by_cases e : a = k
      · subst e
        simp at h2
        exact Or.inl (by rw [h2])
      · right
        refine ⟨by omega, ?_⟩
        have : a - k = (a - (k + 1)) + 1 := by omega
        rw [this] at h2
        exact h2
theorem getL_eq : ∀ (l : List MV) (n : Nat), getL l n = l[n]?
  | [], n => by cases n <;> rfl
  | x :: l, 0 => rfl
  | x :: l, n + 1 => by show getL l n = _; rw [getL_eq l n]; rfl
theorem setL_at : ∀ (l : List MV) (n : Nat) (v : MV) (k : Nat), n ≤ l.length → (setL l n v)[k]? = if k = n then some v else l[k]?
  | [], 0, v, 0, _ => rfl
  | [], 0, v, k + 1, _ => by simp [setL]
  | [], n + 1, v, k, h => by simp at h
  | x :: l, 0, v, 0, _ => rfl
  | x :: l, 0, v, k + 1, _ => by simp [setL]
  | x :: l, n + 1, v, 0, _ => by simp [setL]
  | x :: l, n + 1, v, k + 1, h => by
    show (setL l n v)[k]? = _
    rw [setL_at l n v k (by simpa using h)]
    by_cases e : k = n <;> simp [e]
theorem setL_len : ∀ (l : List MV) (n : Nat) (v : MV), (setL l n v).length ≤ Nat.max l.length (n + 1)
  | [], n, v => by simp only [setL, List.length]; exact Nat.le_trans (by omega) (Nat.le_max_right _ _)
  | x :: l, 0, v => by simp only [setL]; exact Nat.le_max_left _ _
  | x :: l, n + 1, v => by
    have h := setL_len l n v
    simp only [setL, List.length]
    have e : Nat.max (l.length + 1) (n + 1 + 1) = Nat.max l.length (n + 1) + 1 := by
      simp only [Nat.max_def]; split <;> split <;> omega
    rw [e]
    omega
theorem setL_ok {l : List MV} {v : MV} (hl : ∀ w ∈ l, okV w) (hv : okV v) : ∀ (n : Nat), ∀ w ∈ setL l n v, okV w := by
  induction l with
  | nil => intro n w hw; simp [setL] at hw; rw [hw]; exact hv
  | cons x l ih =>
    intro n w hw
    cases n with
    | zero =>
      simp only [setL, List.mem_cons] at hw
      rcases hw with rfl | hw
      · exact hv
      · exact hl w (List.mem_cons_of_mem _ hw)
    | succ n =>
      simp only [setL, List.mem_cons] at hw
      rcases hw with rfl | hw
      · exact hl _ List.mem_cons_self
      · exact ih (fun w h => hl w (List.mem_cons_of_mem _ h)) n w hw
theorem takeL_eq : ∀ (l : List MV) (n : Nat), takeL l n = l.take n
  | [], n => by cases n <;> rfl
  | x :: l, 0 => rfl
  | x :: l, n + 1 => by show x :: takeL l n = _; rw [takeL_eq l n]; rfl
theorem trv_cat (ad : Nat × Nat → Nat) (v : MV) : (trv ad v).category = 1 := by cases v <;> rfl
theorem loc_get {ad : Nat × Nat → Nat} {nL : Nat} {lsA : Array Slot} {ls : List MV} (h : locOk ad nL lsA ls) {a : Nat} {v : MV} (hv : getL ls a = some v) : lsA[a]? = some (.val (trv ad v)) := by
  refine h.1.2.2 (a, trv ad v) (mem_enumL.mpr ⟨Nat.zero_le _, ?_⟩)
  rw [getL_eq] at hv
  simp [hv]
theorem loc_set {ad : Nat × Nat → Nat} {nL : Nat} {lsA : Array Slot} {ls : List MV} (h : locOk ad nL lsA ls) {a : Nat} (ha : a < nL) (hl : a ≤ ls.length) (v : MV) {lv' : List (Nat × Value)} (he : (a, trv ad v) :: (enumL 0 (ls.map (trv ad))).filter (fun q => !(q.1 == a) && !(q.1 + 1 == a && q.2.category == 2)) = lv')
    {lsB : Array Slot} (hB : lv_has lsB nL lv') : locOk ad nL lsB (setL ls a v) := by
  refine ⟨⟨hB.1, hB.2.1, fun q hq => ?_⟩, ?_⟩
  · obtain ⟨-, h2⟩ := mem_enumL.mp hq
    apply hB.2.2
    rw [← he]
    simp only [Nat.sub_zero, List.getElem?_map] at h2
    rw [setL_at _ _ _ _ hl] at h2
    by_cases e : q.1 = a
    · rw [if_pos e] at h2
      have h3 : trv ad v = q.2 := Option.some.inj h2
      rw [h3, ← e]
      exact List.mem_cons_self
    · rw [if_neg e] at h2
      refine List.mem_cons_of_mem _ (List.mem_filter.mpr ⟨mem_enumL.mpr ⟨Nat.zero_le _, by simpa using h2⟩, ?_⟩)
      cases hw : ls[q.1]? with
      | none => rw [hw] at h2; cases h2
      | some w =>
        rw [hw] at h2
        have h3 : trv ad w = q.2 := Option.some.inj h2
        rw [← h3, trv_cat]
        simp [e]
  · have := setL_len ls a v
    have h3 := h.2
    exact Nat.le_trans this (Nat.max_le.mpr ⟨h3, ha⟩)
theorem loc_take {ad : Nat × Nat → Nat} {nL : Nat} {lsA : Array Slot} {ls : List MV} (h : locOk ad nL lsA ls) (n : Nat) : locOk ad nL lsA (takeL ls n) := by
  rw [takeL_eq]
  refine ⟨⟨h.1.1, h.1.2.1, fun q hq => h.1.2.2 q ?_⟩, by rw [List.length_take]; exact Nat.le_trans (Nat.min_le_right _ _) h.2⟩
  obtain ⟨h1, h2⟩ := mem_enumL.mp hq
  refine mem_enumL.mpr ⟨h1, ?_⟩
  rw [List.map_take] at h2
  have h3 := List.getElem?_take (l := ls.map (trv ad)) (i := n) (j := q.1 - 0)
  rw [h3] at h2
  split at h2
  · exact h2
  · cases h2
theorem okV_getL {ls : List MV} (h : ∀ v ∈ ls, okV v) {a : Nat} {v : MV} (hv : getL ls a = some v) : okV v := by
  rw [getL_eq] at hv
  exact h v (List.mem_of_getElem? hv)
theorem popL_eq : ∀ (n : Nat) (acc st as st' : List MV), popL n acc st = some (as, st') → ∃ t, as = t ++ acc ∧ st = t.reverse ++ st' ∧ t.length = n
  | 0, acc, st, as, st', h => by cases h; exact ⟨[], rfl, rfl, rfl⟩
  | n + 1, acc, [], as, st', h => by cases h
  | n + 1, acc, v :: st, as, st', h => by
    obtain ⟨t, e1, e2, e3⟩ := popL_eq n (v :: acc) st as st' h
    exact ⟨t ++ [v], by simp [e1], by simp [e2], by simp [e3]⟩
/-- words that any later state keeps -/
def Tk (U : State) : Prop := ∀ w, inT w → va_Nw w U
theorem kw_on {w : Cond} (h : kw w = true) : w.onTables = true := by
  unfold kw at h
  rcases Bool.or_eq_true _ _ |>.mp h with h | h
  · exact (Bool.and_eq_true _ _ |>.mp h).1
  · cases w <;> first | rfl | cases h
theorem Tk.warm {s U : State} (hW : s.WarmedH U.vm) (h : Tk s) : Tk U := by
  intro w hw
  have h1 := h w hw
  have h2 := hw.2
  unfold kw at h2
  rcases Bool.or_eq_true _ _ |>.mp h2 with h3 | h3
  · exact word_at hW (Or.inl h3) h1
  · cases w <;> first | exact va_Nw.warmM hW h1 | cases h3
theorem Tk.use {s : State} {args : Array Value} (h : Tk s) {w : Cond} (hw : inT w) : w.before args s = true := va_Nw.use (kw_on hw.2) (h w hw)
theorem Tk.same {s U : State} (h : s.vm = U.vm) (k : Tk s) : Tk U := fun w hw => va_Nw.same (kw_on hw.2) h (k w hw)
/-- a store in a state -/
def RepU (D : va_G) (cA : Nat → ClassId) (ad : Nat × Nat → Nat) (L : Nat) (xs : Nat → Int32) (z : St) (U : State) : Prop := Hp D cA ad z U.heap ∧ va_K D vwCl (tysA cA) U ∧ Tk U ∧ va_X (ad (24, 0)) L xs U U.heap
def QcM (D : va_G) (cA : Nat → ClassId) (ad : Nat × Nat → Nat) (A : Nat → Prop) (L : Nat) (xs : Nat → Int32) (Q : Option MV → St → Prop) : Array Value → State → Outcome → State → Prop := fun _ st oc t => (∃ (r : Option Int32) (z : St), oc = .returned (r.map Value.int) ∧ Q (r.map Sum.inl) z ∧ RepU D cA ad L xs z t) ∧ va_F A st t
def rmF (f : Nat) : Room := { frames := f, cells := 0, slots := 0, locals := 38 * f }
end
section
/-! THE SMALL MACHINE IS SOUND: what its stretches reach, the machine reaches -/
/-- the classes by their numbers -/
theorem cl_at {o : Nat} (h : o < 10) : vwCl[o]? = some (cnm o, tOf o, nfK o) := by
  match o, h with
  | 0, _ => rfl | 1, _ => rfl | 2, _ => rfl | 3, _ => rfl | 4, _ => rfl | 5, _ => rfl | 6, _ => rfl | 7, _ => rfl | 8, _ => rfl | 9, _ => rfl
  | n + 10, h => exact absurd h (by omega)
theorem wx_at {o : Nat} (h : o < 10) : ∀ w ∈ u_ws (cnm o) (tOf o) (nfK o), inT w := by
  match o, h with
  | 0, _ => exact wx_0 | 1, _ => exact wx_1 | 2, _ => exact wx_2 | 3, _ => exact wx_3 | 4, _ => exact wx_4 | 5, _ => exact wx_5 | 6, _ => exact wx_6 | 7, _ => exact wx_7 | 8, _ => exact wx_8 | 9, _ => exact wx_9
  | n + 10, h => exact absurd h (by omega)
def ty0K (o : Nat) : Nat → FieldType := match o with
  | 0 => tyX0 | 1 => tyX1 | 2 => tyX2 | 3 => tyX3 | 4 => tyX4 | 5 => tyX5 | 6 => tyX6 | 7 => tyX7 | 8 => tyX8 | _ => tyX9
theorem ty_at {o : Nat} (h : o < 10) : ∀ k, k < nfK o → parseFieldDescriptor (tOf o k).2.2.1 = some (ty0K o k) := by
  match o, h with
  | 0, _ => exact tyX0_ok | 1, _ => exact tyX1_ok | 2, _ => exact tyX2_ok | 3, _ => exact tyX3_ok | 4, _ => exact tyX4_ok | 5, _ => exact tyX5_ok | 6, _ => exact tyX6_ok | 7, _ => exact tyX7_ok | 8, _ => exact tyX8_ok | 9, _ => exact tyX9_ok
  | n + 10, h => exact absurd h (by omega)
theorem nm_at {o : Nat} (h : o < 10) : ∀ a, a < nfK o → ∀ b, b < nfK o → a ≠ b → (tOf o a).2.1 ≠ (tOf o b).2.1 := by
  match o, h with
  | 0, _ => exact nmX0 | 1, _ => exact nmX1 | 2, _ => exact nmX2 | 3, _ => exact nmX3 | 4, _ => exact nmX4 | 5, _ => exact nmX5 | 6, _ => exact nmX6 | 7, _ => exact nmX7 | 8, _ => exact nmX8 | 9, _ => exact nmX9
  | n + 10, h => exact absurd h (by omega)
theorem tn_at : ∀ o, o < 10 → ∀ k, k < nfK o → (tOf o k).1 = cnm o := by decide +kernel
/-- what is put: fields that are no links are int or boolean, and not final -/
theorem ft_at : ∀ o, o < 10 → ∀ k, k < nfK o → lk o k 0 = none → (tOf o k).2.2.2 = false ∧ (ty0K o k = .int ∨ (ty0K o k = .boolean ∧ o = 2 ∧ k = 5)) := by decide +kernel
theorem ft_int : ∀ o, o < 10 → ∀ k, k < nfK o → lk o k 0 = none → ¬ (o = 2 ∧ k = 5) → ty0K o k = .int := by decide +kernel
theorem flT_lt : ∀ q ∈ flT, q.2.2.1 < 10 ∧ q.2.2.2 < nfK q.2.2.1 := by decide +kernel
theorem lk_none {c k i : Nat} (h : lk c k i = none) : ∀ j, lk c k j = none := by
  intro j
  unfold lk at h ⊢
  split at h <;> first
    | rfl
    | (cases h; done)
    | (split at h <;> first | rfl | (cases h; done))
section SS
variable {p : Program} {l : Launch} {e : Env} {R : Room} {s : State} {m : MethodId} {args : Array Value} {below : List Frame} {meth : Method} {c : Code} {cells slots : Nat} {QM : State → Prop}
variable {D : va_G} {cA : Nat → ClassId} {ad : Nat × Nat → Nat} {A : Nat → Prop} {L : Nat} {xs : Nat → Int32} {cc : ByteArray} {o nL : Nat} {rest : List Value} {pc : Nat} {lsA : Array Slot} {H : Heap} {locs : List Loc} {z : St}
/-- what stands fast within a frame -/
def FrOk (p : Program) (s : State) (m : MethodId) (args : Array Value) (meth : Method) (c : Code) (D : va_G) (cA : Nat → ClassId) (ad : Nat × Nat → Nat) (A : Nat → Prop) (L : Nat) (xs : Nat → Int32) (cc : ByteArray) (o nL : Nat) : Prop :=
  p.tables.exec = Jvm.exec ∧ c.code = cc ∧ c.maxLocals = nL ∧ s.vm.findClass (cnm o) = some m.cls ∧ meth.locks = false ∧ Tk s ∧ va_K D vwCl (tysA cA) s ∧ adOk ad A ∧ va_X (ad (24, 0)) L xs s s.heap ∧ ad (24, 0) < s.heap.size ∧ ¬ A (ad (24, 0))
theorem FrOk.ts (F : FrOk p s m args meth c D cA ad A L xs cc o nL) {w : Cond} (h : inT w) : w.before args s = true := F.2.2.2.2.2.1.use h
/-- the machine, from this place, these locals, this stack and this store on, comes to QM -/
def XwP (p : Program) (l : Launch) (e : Env) (R : Room) (s : State) (m : MethodId) (args : Array Value) (below : List Frame) (meth : Method) (c : Code) (cells slots : Nat) (QM : State → Prop) (D : va_G) (cA : Nat → ClassId) (ad : Nat × Nat → Nat) (A : Nat → Prop) (nL : Nat) (pc : Nat) (ls st : List MV) (z : St) : Prop :=
  (∀ v ∈ ls, okV v) → (∀ v ∈ st, okV v) → ∀ (H : Heap) (locs : List Loc) (lsA : Array Slot), Hp D cA ad z H → va_S A s.heap H locs → locOk ad nL lsA ls → W p l e R s m args below meth c H locs cells slots QM (F0 m pc lsA (st.map (trv ad)))
theorem s_get (F : FrOk p s m args meth c D cA ad A L xs cc o nL) {a b d i : Nat} (hfl : (o, a, b, d) ∈ flT) (hi : i < cntK b) (hH : Hp D cA ad z H) (hd : decode cc pc = .ok (.getfield a, 3))
    (kk : W p l e R s m args below meth c H locs cells slots QM (F0 m (pc + 3) lsA (trv ad (fv z b i d) :: rest))) : W p l e R s m args below meth c H locs cells slots QM (F0 m pc lsA (.ref (ad (b, i)) :: rest)) := by
  obtain ⟨hx, hb, hml, hown, hlk, hT, hK, hA, hX⟩ := id F
  have h1 := flT_ok _ hfl
  obtain ⟨h2, h3⟩ := flT_lt _ hfl
  simp only at h2 h3
  obtain ⟨k, hk⟩ := smW_get (cA := cA) (ad := ad) z (r := (b, i)) hi
  rw [cell_obj h2] at hk
  refine va_get (D := D) (cl := vwCl) (ci := b) (C := cnm b) (T := tOf b) (N := nfK b) (ref := cnm b) (Ts := u_ws (cnm b) (tOf b) (nfK b)) hx hb (fun w hw => F.ts (wx_at h2 w hw)) (fun w hw => hw) hown hK hH.1 k hk (cl_at h2) d h3 (F.ts h1) (fun x hx => by rw [← tn_at b h2 d h3]; exact hx) (v := trv ad (fv z b i d)) ?_ hd kk
  rw [List.getElem?_map, List.getElem?_range h3]
  rfl
theorem cell_putV {c i k : Nat} (hc : c < 10) (hk : k < nfK c) (hl : lk c k i = none) (z : St) (x : Int32) : cellD cA ad (putV z c i k x) (c, i) = .inr (c, ((List.range (nfK c)).map (fun k => trv ad (fv z c i k))).set k (.int x)) := by
  rw [cell_obj hc]
  congr 2
  apply List.ext_getElem?
  intro j
  by_cases hj : j = k
  · subst hj
    rw [List.getElem?_set_self (by simpa using hk), List.getElem?_map, List.getElem?_range hk]
    simp [fv, hl, putV, trv]
  · rw [List.getElem?_set_ne (Ne.symm hj), List.getElem?_map, List.getElem?_map]
    cases hr : (List.range (nfK c))[j]? with
    | none => rfl
    | some j' =>
      have : j' = j := by
        have hlt : j < nfK c := by simpa using (List.getElem?_eq_some_iff.mp hr).1
        rw [List.getElem?_range hlt] at hr
        exact (Option.some.inj hr).symm
      subst this
      simp only [Option.map_some, fv, putV]
      cases lk c j' i with
      | some r => rfl
      | none => simp [hj]
theorem fv_put {c i k c' i' k' : Nat} {z : St} {x : Int32} (h : (c', i') ≠ (c, i)) : fv (putV z c i k x) c' i' k' = fv z c' i' k' := by
  unfold fv putV
  cases lk c' k' i' with
  | some r => rfl
  | none =>
    have : ¬ (c' = c ∧ i' = i ∧ k' = k) := fun q => h (by rw [q.1, q.2.1])
    simp [this]
theorem cell_putV_ne {c i k : Nat} {z : St} {x : Int32} (r' : Nat × Nat) (h : r' ≠ (c, i)) : cellD cA ad (putV z c i k x) r' = cellD cA ad z r' := by
  obtain ⟨c', i'⟩ := r'
  have e1 : (putV z c i k x).2 = z.2 := rfl
  have e2 : (putV z c i k x).1 c' i' = z.1 c' i' := by
    funext d
    have : ¬ (c' = c ∧ i' = i ∧ d = k) := fun q => h (by rw [q.1, q.2.1])
    simp [putV, this]
  have e3 : (fun k' => trv ad (fv (putV z c i k x) c' i' k')) = (fun k' => trv ad (fv z c' i' k')) := by
    funext k'
    rw [fv_put h]
  unfold cellD
  simp only [e1, e2, e3]
theorem s_put (F : FrOk p s m args meth c D cA ad A L xs cc o nL) {a b d i : Nat} {x : Int32} (hfl : (o, a, b, d) ∈ flT) (hi : i < cntK b) (hl : lk b d i = none) (hbool : b = 2 ∧ d = 5 → x = 0 ∨ x = 1) (hH : Hp D cA ad z H) (hS : va_S A s.heap H locs) (hd : decode cc pc = .ok (.putfield a, 3))
    (kk : ∀ (H1 : Heap) (locs1 : List Loc), Hp D cA ad (putV z b i d x) H1 → va_S A s.heap H1 locs1 → W p l e R s m args below meth c H1 locs1 cells slots QM (F0 m (pc + 3) lsA rest)) : W p l e R s m args below meth c H locs cells slots QM (F0 m pc lsA (.int x :: .ref (ad (b, i)) :: rest)) := by
  obtain ⟨hx, hb, hml, hown, hlk, hT, hK, hA, hX⟩ := id F
  have h1 := flT_ok _ hfl
  obtain ⟨h2, h3⟩ := flT_lt _ hfl
  simp only at h2 h3
  obtain ⟨k, hk⟩ := smW_get (cA := cA) (ad := ad) z (r := (b, i)) hi
  have hk0 := hk
  rw [cell_obj h2] at hk
  obtain ⟨f1, f2⟩ := ft_at b h2 d h3 (lk_none hl 0)
  have hty := ty_at h2 d h3
  have hnf : narrow (ty0K b d) (.int x) = .int x ∧ fits (ty0K b d) (.int x) = true := by
    rcases f2 with e | ⟨e, e2, e3⟩
    · rw [e]; exact ⟨rfl, rfl⟩
    · rw [e]
      rcases hbool ⟨e2, e3⟩ with rfl | rfl <;> decide
  refine va_put (D := D) (cl := vwCl) (ci := b) (C := cnm b) (T := tOf b) (N := nfK b) (ref := cnm b) (Ts := u_ws (cnm b) (tOf b) (nfK b)) (ty := ty0K b d) (v := .int x) hx hb (fun w hw => F.ts (wx_at h2 w hw)) (fun w hw => hw) (ty0K b) (ty_at h2) (nm_at h2) hown hK hH.1 (smW_D hA z) hS k hk (cl_at h2) d h3 (F.ts h1) (fun x hx => by rw [← tn_at b h2 d h3]; exact hx) f1 hty hnf.1 hnf.2 (by simpa using h3) hd (fun H1 locs1 hP hD hS1 => ?_)
  refine kk H1 locs1 ⟨?_, hH.2⟩ hS1
  rw [← smW_set hA hk0 hi (cell_putV h2 h3 hl z x) (fun r' hr => cell_putV_ne r' hr)]
  exact hP
end SS
end
section
/-! arrays -/
theorem vp_of_inA {i : Int32} {n : Nat} (h : inA i n) : vp_in i n := by
  obtain ⟨h1, h2⟩ := h
  rintro (q | q)
  · rw [Int32.lt_iff_toInt_lt, Int32.toInt_zero] at q
    omega
  · have e : i.toNatClampNeg = i.toInt.toNat := rfl
    omega
theorem inA_lt {i : Int32} {n : Nat} (h : inA i n) : i.toNatClampNeg < n := Nat.not_le.mp fun q => vp_of_inA h (Or.inr q)
theorem ak_ge {q : Nat} (h : akind q < 9) : ¬ q < 11 := by
  intro hq
  have : ∀ q, q < 11 → akind q = 9 := by decide
  have := this q hq
  omega
theorem cell_arr {cA : Nat → ClassId} {ad : Nat × Nat → Nat} {z : St} {q n : Nat} (h : akind q < 3) : cellD cA ad z (q, n) = .inl (cA (atyK q), alen q, .inl (z.1 q n)) := by
  unfold cellD
  have h1 : ¬ q < 10 := fun e => ak_ge (q := q) (by omega) (by omega)
  have h2 : ¬ akind q = 3 := by omega
  rw [if_neg h1, if_neg h2]
theorem cell_refs {cA : Nat → ClassId} {ad : Nat × Nat → Nat} {z : St} {q n : Nat} (h : akind q = 3) : cellD cA ad z (q, n) = .inl (cA (atyK q), alen q, .inr (.inr (.inr (.inr (fun j => some (ad (el z.2 q n j))))))) := by
  unfold cellD
  have h1 : ¬ q < 10 := fun e => ak_ge (q := q) (by omega) (by omega)
  rw [if_neg h1, if_pos h]
theorem ak_cases {q : Nat} (h : akind q < 9) : 11 ≤ q ∧ q < 24 := by
  rcases Nat.lt_or_ge q 24 with a | a
  · have := ak_ge h
    omega
  · exfalso
    have : akind q = 9 := by unfold akind; split <;> first | rfl | omega
    omega
theorem aty0 : ∀ q, q < 24 → akind q = 0 → atyK q = 0 := by decide
theorem aty1 : ∀ q, q < 24 → akind q = 1 → atyK q = 1 := by decide
theorem aty2 : ∀ q, q < 24 → akind q = 2 → atyK q = 2 := by decide
theorem aty3 : ∀ q, q < 24 → akind q = 3 → 3 ≤ atyK q ∧ atyK q < 8 := by decide
theorem tys3 {cA : Nat → ClassId} : ∀ t, 3 ≤ t → t < 8 → ∃ C, (tysA cA)[t]? = some (cA t, .object C) := by
  intro t h1 h2
  match t, h1, h2 with
  | 3, _, _ => exact ⟨_, rfl⟩
  | 4, _, _ => exact ⟨_, rfl⟩
  | 5, _, _ => exact ⟨_, rfl⟩
  | 6, _, _ => exact ⟨_, rfl⟩
  | 7, _, _ => exact ⟨_, rfl⟩
section SA
variable {p : Program} {l : Launch} {e : Env} {R : Room} {s : State} {m : MethodId} {args : Array Value} {below : List Frame} {meth : Method} {c : Code} {cells slots : Nat} {QM : State → Prop}
variable {D : va_G} {cA : Nat → ClassId} {ad : Nat × Nat → Nat} {A : Nat → Prop} {L : Nat} {xs : Nat → Int32} {cc : ByteArray} {o nL : Nat} {rest : List Value} {pc : Nat} {lsA : Array Slot} {H : Heap} {locs : List Loc} {z : St}
theorem s_ild (F : FrOk p s m args meth c D cA ad A L xs cc o nL) {q n : Nat} {i : Int32} (hq : n < cntK q) (hk : akind q = 0) (hin : inA i (alen q)) (hH : Hp D cA ad z H) (hd : decode cc pc = .ok (.iaload, 1))
    (kk : W p l e R s m args below meth c H locs cells slots QM (F0 m (pc + 1) lsA (.int (z.1 q n i.toNatClampNeg) :: rest))) : W p l e R s m args below meth c H locs cells slots QM (F0 m pc lsA (.int i :: .ref (ad (q, n)) :: rest)) := by
  obtain ⟨hx, hb, hml, hown, hlk, hT, hK, hA, hX⟩ := id F
  obtain ⟨k, hk1⟩ := smW_get (cA := cA) (ad := ad) z (r := (q, n)) hq
  rw [cell_arr (by omega), aty0 q (ak_cases (by omega)).2 hk] at hk1
  exact va_iald (D := D) (cl := vwCl) hx hb hK hH.1 k 0 hk1 rfl (vp_of_inA hin) hd kk
theorem s_zld (F : FrOk p s m args meth c D cA ad A L xs cc o nL) {q n : Nat} {i : Int32} (hq : n < cntK q) (hk : akind q = 1) (hin : inA i (alen q)) (hH : Hp D cA ad z H) (hd : decode cc pc = .ok (.baload, 1))
    (kk : W p l e R s m args below meth c H locs cells slots QM (F0 m (pc + 1) lsA (.int (z.1 q n i.toNatClampNeg) :: rest))) : W p l e R s m args below meth c H locs cells slots QM (F0 m pc lsA (.int i :: .ref (ad (q, n)) :: rest)) := by
  obtain ⟨hx, hb, hml, hown, hlk, hT, hK, hA, hX⟩ := id F
  obtain ⟨k, hk1⟩ := smW_get (cA := cA) (ad := ad) z (r := (q, n)) hq
  rw [cell_arr (by omega), aty1 q (ak_cases (by omega)).2 hk] at hk1
  exact va_zald (D := D) (cl := vwCl) hx hb hK hH.1 k 1 hk1 rfl (vp_of_inA hin) hd kk
theorem s_bld (F : FrOk p s m args meth c D cA ad A L xs cc o nL) {q n : Nat} {i : Int32} (hq : n < cntK q) (hk : akind q = 2) (hin : inA i (alen q)) (hH : Hp D cA ad z H) (hd : decode cc pc = .ok (.baload, 1))
    (kk : W p l e R s m args below meth c H locs cells slots QM (F0 m (pc + 1) lsA (.int (z.1 q n i.toNatClampNeg) :: rest))) : W p l e R s m args below meth c H locs cells slots QM (F0 m pc lsA (.int i :: .ref (ad (q, n)) :: rest)) := by
  obtain ⟨hx, hb, hml, hown, hlk, hT, hK, hA, hX⟩ := id F
  obtain ⟨k, hk1⟩ := smW_get (cA := cA) (ad := ad) z (r := (q, n)) hq
  rw [cell_arr (by omega), aty2 q (ak_cases (by omega)).2 hk] at hk1
  exact va_bald (D := D) (cl := vwCl) hx hb hK hH.1 k 2 hk1 rfl (vp_of_inA hin) hd kk
theorem s_qld (F : FrOk p s m args meth c D cA ad A L xs cc o nL) {q n : Nat} {i : Int32} (hq : n < cntK q) (hk : akind q = 3) (hin : inA i (alen q)) (hH : Hp D cA ad z H) (hd : decode cc pc = .ok (.aaload, 1))
    (kk : W p l e R s m args below meth c H locs cells slots QM (F0 m (pc + 1) lsA (.ref (ad (el z.2 q n i.toNatClampNeg)) :: rest))) : W p l e R s m args below meth c H locs cells slots QM (F0 m pc lsA (.int i :: .ref (ad (q, n)) :: rest)) := by
  obtain ⟨hx, hb, hml, hown, hlk, hT, hK, hA, hX⟩ := id F
  obtain ⟨k, hk1⟩ := smW_get (cA := cA) (ad := ad) z (r := (q, n)) hq
  rw [cell_refs hk] at hk1
  obtain ⟨t1, t2⟩ := aty3 q (ak_cases (by omega)).2 hk
  obtain ⟨C, hC⟩ := tys3 (cA := cA) _ t1 t2
  exact va_aldq (D := D) (cl := vwCl) hx hb hK hH.1 k (atyK q) hk1 hC (vp_of_inA hin) hd kk
theorem cell_putA {q n k : Nat} {x : Int32} (h : akind q < 3) : cellD cA ad (putV z q n k x) (q, n) = .inl (cA (atyK q), alen q, .inl (upd (z.1 q n) k x)) := by
  rw [cell_arr h]
  congr 4
  funext d
  by_cases hd : d = k <;> simp [putV, upd, hd]
theorem s_ist (F : FrOk p s m args meth c D cA ad A L xs cc o nL) {q n : Nat} {i x : Int32} (hq : n < cntK q) (hk : akind q = 0) (hin : inA i (alen q)) (hH : Hp D cA ad z H) (hS : va_S A s.heap H locs) (hd : decode cc pc = .ok (.iastore, 1))
    (kk : ∀ (H1 : Heap) (locs1 : List Loc), Hp D cA ad (putV z q n i.toNatClampNeg x) H1 → va_S A s.heap H1 locs1 → W p l e R s m args below meth c H1 locs1 cells slots QM (F0 m (pc + 1) lsA rest)) : W p l e R s m args below meth c H locs cells slots QM (F0 m pc lsA (.int x :: .int i :: .ref (ad (q, n)) :: rest)) := by
  obtain ⟨hx, hb, hml, hown, hlk, hT, hK, hA, hX⟩ := id F
  obtain ⟨k, hk1⟩ := smW_get (cA := cA) (ad := ad) z (r := (q, n)) hq
  have hk0 := hk1
  have e0 := aty0 q (ak_cases (by omega)).2 hk
  rw [cell_arr (by omega), e0] at hk1
  refine va_iast (D := D) (cl := vwCl) hx hb hK hH.1 (smW_D hA z) hS k 0 hk1 rfl (vp_of_inA hin) hd (fun H1 locs1 hP hD hS1 => ?_)
  refine kk H1 locs1 ⟨?_, hH.2⟩ hS1
  rw [← smW_set hA hk0 hq (cell_putA (by omega)) (fun r' hr => cell_putV_ne r' hr), e0]
  exact hP
theorem s_zst (F : FrOk p s m args meth c D cA ad A L xs cc o nL) {q n : Nat} {i x : Int32} (hq : n < cntK q) (hk : akind q = 1) (hin : inA i (alen q)) (hv : x = 0 ∨ x = 1) (hH : Hp D cA ad z H) (hS : va_S A s.heap H locs) (hd : decode cc pc = .ok (.bastore, 1))
    (kk : ∀ (H1 : Heap) (locs1 : List Loc), Hp D cA ad (putV z q n i.toNatClampNeg x) H1 → va_S A s.heap H1 locs1 → W p l e R s m args below meth c H1 locs1 cells slots QM (F0 m (pc + 1) lsA rest)) : W p l e R s m args below meth c H locs cells slots QM (F0 m pc lsA (.int x :: .int i :: .ref (ad (q, n)) :: rest)) := by
  obtain ⟨hx, hb, hml, hown, hlk, hT, hK, hA, hX⟩ := id F
  obtain ⟨k, hk1⟩ := smW_get (cA := cA) (ad := ad) z (r := (q, n)) hq
  have hk0 := hk1
  have e0 := aty1 q (ak_cases (by omega)).2 hk
  rw [cell_arr (by omega), e0] at hk1
  have hn : vp_nar .boolean x = x := by rcases hv with rfl | rfl <;> decide
  refine va_zast (D := D) (cl := vwCl) hx hb hK hH.1 (smW_D hA z) hS k 1 hk1 rfl (vp_of_inA hin) hd (fun H1 locs1 hP hD hS1 => ?_)
  refine kk H1 locs1 ⟨?_, hH.2⟩ hS1
  rw [hn] at hP
  rw [← smW_set hA hk0 hq (cell_putA (by omega)) (fun r' hr => cell_putV_ne r' hr), e0]
  exact hP
theorem s_bst (F : FrOk p s m args meth c D cA ad A L xs cc o nL) {q n : Nat} {i x : Int32} (hq : n < cntK q) (hk : akind q = 2) (hin : inA i (alen q)) (hv : x.toInt8.toInt32 = x) (hH : Hp D cA ad z H) (hS : va_S A s.heap H locs) (hd : decode cc pc = .ok (.bastore, 1))
    (kk : ∀ (H1 : Heap) (locs1 : List Loc), Hp D cA ad (putV z q n i.toNatClampNeg x) H1 → va_S A s.heap H1 locs1 → W p l e R s m args below meth c H1 locs1 cells slots QM (F0 m (pc + 1) lsA rest)) : W p l e R s m args below meth c H locs cells slots QM (F0 m pc lsA (.int x :: .int i :: .ref (ad (q, n)) :: rest)) := by
  obtain ⟨hx, hb, hml, hown, hlk, hT, hK, hA, hX⟩ := id F
  obtain ⟨k, hk1⟩ := smW_get (cA := cA) (ad := ad) z (r := (q, n)) hq
  have hk0 := hk1
  have e0 := aty2 q (ak_cases (by omega)).2 hk
  rw [cell_arr (by omega), e0] at hk1
  have hn : vp_nar .byte x = x := hv
  refine va_bast (D := D) (cl := vwCl) hx hb hK hH.1 (smW_D hA z) hS k 2 hk1 rfl (vp_of_inA hin) hd (fun H1 locs1 hP hD hS1 => ?_)
  refine kk H1 locs1 ⟨?_, hH.2⟩ hS1
  rw [hn] at hP
  rw [← smW_set hA hk0 hq (cell_putA (by omega)) (fun r' hr => cell_putV_ne r' hr), e0]
  exact hP
theorem el_putP {n k y c i j : Nat} (h : (c, i) ≠ (14, n)) : el (putP z n k y).2 c i j = el z.2 c i j := by
  unfold el putP
  split <;> first
    | rfl
    | (rename_i e; have : ¬ i = n := fun q => h (by rw [q]); simp [this])
theorem cell_putP_ne {n k y : Nat} (r' : Nat × Nat) (h : r' ≠ (14, n)) : cellD cA ad (putP z n k y) r' = cellD cA ad z r' := by
  obtain ⟨c', i'⟩ := r'
  have e2 : (putP z n k y).1 = z.1 := rfl
  have e3 : (fun k' => trv ad (fv (putP z n k y) c' i' k')) = (fun k' => trv ad (fv z c' i' k')) := by
    funext k'
    unfold fv
    rw [e2]
  have e4 : (fun j => some (ad (el (putP z n k y).2 c' i' j))) = (fun j => some (ad (el z.2 c' i' j))) := by
    funext j
    rw [el_putP h]
  unfold cellD
  simp only [e2, e3, e4]
theorem s_qst (F : FrOk p s m args meth c D cA ad A L xs cc o nL) {n y : Nat} {i : Int32} (hq : n < 40) (hy : y < 200) (hin : inA i 5) (hH : Hp D cA ad z H) (hS : va_S A s.heap H locs) (hd : decode cc pc = .ok (.aastore, 1))
    (kk : ∀ (H1 : Heap) (locs1 : List Loc), Hp D cA ad (putP z n i.toNatClampNeg y) H1 → va_S A s.heap H1 locs1 → W p l e R s m args below meth c H1 locs1 cells slots QM (F0 m (pc + 1) lsA rest)) : W p l e R s m args below meth c H locs cells slots QM (F0 m pc lsA (.ref (ad (2, y)) :: .int i :: .ref (ad (14, n)) :: rest)) := by
  obtain ⟨hx, hb, hml, hown, hlk, hT, hK, hA, hX⟩ := id F
  obtain ⟨k, hk1⟩ := smW_get (cA := cA) (ad := ad) z (r := (14, n)) hq
  obtain ⟨k2, hk2⟩ := smW_get (cA := cA) (ad := ad) z (r := (2, y)) hy
  have hk0 := hk1
  rw [cell_refs rfl] at hk1
  rw [cell_obj (by decide)] at hk2
  refine va_astq (D := D) (cl := vwCl) (ci := 2) (r := (RX2, TX2, 6)) hx hb hK hH.1 (smW_D hA z) hS k 6 k2 hk1 rfl hk2 rfl (vp_of_inA hin) hd (fun H1 locs1 hP hD hS1 => ?_)
  refine kk H1 locs1 ⟨?_, fun i' j' h1 h2 => ?_⟩ hS1
  · rw [← smW_set (z' := putP z n i.toNatClampNeg y) hA hk0 hq (e := _) ?_ (fun r' hr => cell_putP_ne r' hr)]
    · exact hP
    · rw [cell_refs rfl]
      congr 7
      funext j
      by_cases hj : j = i.toNatClampNeg
      · subst hj; simp [el, putP, va_up]
      · simp [el, putP, va_up, hj]
  · show (if i' = n ∧ j' = i.toNatClampNeg then y else z.2 i' j') < 200
    split
    · exact hy
    · exact hH.2 i' j' h1 h2
theorem s_sld (F : FrOk p s m args meth c D cA ad A L xs cc o nL) {i : Int32} (hin : inA i L) (hS : va_S A s.heap H locs) (hd : decode cc pc = .ok (.iaload, 1))
    (kk : W p l e R s m args below meth c H locs cells slots QM (F0 m (pc + 1) lsA (.int (xs i.toNatClampNeg) :: rest))) : W p l e R s m args below meth c H locs cells slots QM (F0 m pc lsA (.int i :: .ref (ad (24, 0)) :: rest)) := by
  obtain ⟨hx, hb, hml, hown, hlk, hT, hK, hA, hX, hbl, hbA⟩ := id F
  exact va_sld hx hb hX hbl hbA hS (vp_of_inA hin) hd kk
theorem s_slen (F : FrOk p s m args meth c D cA ad A L xs cc o nL) (hS : va_S A s.heap H locs) (hd : decode cc pc = .ok (.arraylength, 1))
    (kk : W p l e R s m args below meth c H locs cells slots QM (F0 m (pc + 1) lsA (.int (Int32.ofNat L) :: rest))) : W p l e R s m args below meth c H locs cells slots QM (F0 m pc lsA (.ref (ad (24, 0)) :: rest)) := by
  obtain ⟨hx, hb, hml, hown, hlk, hT, hK, hA, hX, hbl, hbA⟩ := id F
  exact va_slen hx hb hX hbl hbA hS hd kk
end SA
end
section
/-! one step of the small machine is the machine's -/
theorem okV_cons {v : MV} {st : List MV} (h1 : okV v) (h2 : ∀ w ∈ st, okV w) : ∀ w ∈ v :: st, okV w := fun w hw => by
  rcases List.mem_cons.mp hw with rfl | h
  · exact h1
  · exact h2 w h
theorem okV_head {v : MV} {st : List MV} (h : ∀ w ∈ v :: st, okV w) : okV v := h v List.mem_cons_self
theorem okV_tail {v : MV} {st : List MV} (h : ∀ w ∈ v :: st, okV w) : ∀ w ∈ st, okV w := fun w hw => h w (List.mem_cons_of_mem _ hw)
theorem okR_obj {q i : Nat} (h : okR (q, i)) (hq : q < 24) : i < cntK q := by
  rcases h with h | h
  · exact h
  · cases h; omega
theorem boolW_t {b : Bool} {q : Prop} (h : boolW b q) : b = true ∧ q := by
  cases b with
  | true => exact ⟨rfl, h⟩
  | false => exact h.elim
theorem cat_sum (ad : Nat × Nat → Nat) (st : List MV) : ((st.map (trv ad)).map fun v => v.category).sum = st.length := by
  induction st with
  | nil => rfl
  | cons v st ih => simp only [List.map_cons, List.sum_cons, List.length_cons, trv_cat, ih]; omega
theorem cmpTF {b : Nat} {x y : Int32} (h : ¬ cmpT b x y) : cmpF b x y := by
  unfold cmpT at h
  unfold cmpF
  split at h <;> first | exact h | exact Classical.not_not.mp h | omega
theorem int_tgt {pc a : Nat} : (pc : Int) + ((a : Int) - (pc : Int)) = (a : Int) := by omega
section SC
variable {p : Program} {l : Launch} {e : Env} {R : Room} {s : State} {m : MethodId} {args : Array Value} {below : List Frame} {meth : Method} {c : Code} {cells slots : Nat} {QM : State → Prop}
variable {D : va_G} {cA : Nat → ClassId} {ad : Nat × Nat → Nat} {A : Nat → Prop} {L : Nat} {xs : Nat → Int32} {cc : ByteArray} {o nL : Nat} {pc : Nat} {lsA : Array Slot} {H : Heap} {locs : List Loc} {z : St}
theorem RepU.blind {U : State} {g : JFrame} {mk : MethodId} {a : Array Value} (h : RepU D cA ad L xs z U) : RepU D cA ad L xs z (U.calling g mk a) :=
  ⟨h.1, va_K.moved (u := U) (U := U.calling g mk a) (Vm.Alike.refl U.vm) h.2.1, Tk.same (s := U) (U := U.calling g mk a) rfl h.2.2.1, va_X.moved (u := U) (U := U.calling g mk a) (Vm.Alike.refl U.vm) h.2.2.2⟩
theorem pc_blind (as : List Value) : FrameBlind (va_Pc as (RepU D cA ad L xs z)) := fun a U g mk q => ⟨q.1, q.2.blind⟩
theorem rep_at (F : FrOk p s m args meth c D cA ad A L xs cc o nL) (hH : Hp D cA ad z H) (hS : va_S A s.heap H locs) : ∀ U : State, U.heap = H → s.WarmedH U.vm → RepU D cA ad L xs z U := by
  obtain ⟨hx, hb, hml, hown, hlk, hT, hK, hA, hX, hbl, hbA⟩ := F
  intro U hU hW
  exact ⟨by rw [hU]; exact hH, va_K.moved hW.alike hK, Tk.warm hW hT, (va_X.moved hW.alike hX).kept (by rw [hU]; exact hS.2.1 _ hbl hbA)⟩
theorem sm_call {Q' : Option MV → St → Prop} {a : Array Value} {rest st0 : List Value} (hr : va_Run p l e R s m args below meth c H locs cells slots 0 0 (F0 m pc lsA st0) rest (QcM D cA ad A L xs Q' a) A) (hS : va_S A s.heap H locs)
    (kk : ∀ (r : Option Int32) (z' : St) (H1 : Heap) (locs1 : List Loc), Q' (r.map Sum.inl) z' → Hp D cA ad z' H1 → va_S A s.heap H1 locs1 → W p l e R s m args below meth c H1 locs1 cells slots QM (F0 m (pc + 3) lsA ((r.map Value.int).toList ++ rest))) : W p l e R s m args below meth c H locs cells slots QM (F0 m pc lsA st0) := by
  intro T hT X
  obtain ⟨v, st₀, t, T', L', h0, X', hL, e1, e2, ⟨⟨r, z', hv, hq, hrep⟩, hz, hk⟩, st⟩ := hr T hT X
  cases hv
  rw [h0] at hz hk
  obtain ⟨t2, a1, b1⟩ := kk r z' T'.heap (locs ++ L') hq (by rw [e1]; exact hrep.1) ⟨Nat.le_trans hS.1 (by rw [e1]; exact hz), fun q h1 h2 => by rw [e1, hk q (Nat.lt_of_lt_of_le h1 hS.1) h2]; exact hS.2.1 q h1 h2, fun q hq => by
    rcases List.mem_append.mp hq with h | h
    · exact hS.2.2 q h
    · exact hL q h⟩ T' rfl X'
  exact ⟨t2, st t2 a1, b1⟩
/-- a callee's contract -/
def MetC (l : Launch) (D : va_G) (cA : Nat → ClassId) (ad : Nat × Nat → Nat) (A : Nat → Prop) (L : Nat) (xs : Nat → Int32) (f b : Nat) (as : List MV) (z : St) (Q : Option MV → St → Prop) : Prop :=
  Met l (mRow b).1 [Cond.code (mRow b).1 (mRow b).2.1 (mRow b).2.2.1 (mRow b).2.2.2.1] (rmF f) (va_Pc (as.map (trv ad)) (RepU D cA ad L xs z)) (QcM D cA ad A L xs Q) 0 0 A
theorem s_call (F : FrOk p s m args meth c D cA ad A L xs cc o nL) {a b d f : Nat} {as st : List MV} {Q' : Option MV → St → Prop} (hml : (o, a, b, (if d = 2 then 1 else 0)) ∈ mlT) (hni : b ∉ initL) (hst : (mRow b).2.2.2.2.2.2 = decide (¬ d = 0)) (hn : as.length = (mRow b).2.2.2.2.2.1)
    (hrecv : d = 0 → ∃ i as', as = .inr ((mRow b).2.2.2.2.1, i) :: as' ∧ (mRow b).2.2.2.2.1 < 10 ∧ i < cntK (mRow b).2.2.2.2.1)
    (hM : MetC l D cA ad A L xs f b as z Q') (hf1 : f + 1 ≤ R.frames) (hf2 : 38 * f + 38 ≤ R.locals) (hcs : cells ≤ R.cells ∧ slots ≤ R.slots) (hlen : st.length ≤ 8)
    (hH : Hp D cA ad z H) (hS : va_S A s.heap H locs) (hsz : lsA.size = nL) (hd : decode cc pc = .ok (if d = 0 then Instr.invokevirtual a else Instr.invokestatic a, 3))
    (kk : ∀ (r : Option Int32) (z' : St) (H1 : Heap) (locs1 : List Loc), Q' (r.map Sum.inl) z' → Hp D cA ad z' H1 → va_S A s.heap H1 locs1 → W p l e R s m args below meth c H1 locs1 cells slots QM (F0 m (pc + 3) lsA ((r.map Value.int).toList ++ st.map (trv ad)))) : W p l e R s m args below meth c H locs cells slots QM (F0 m pc lsA ((as.reverse ++ st).map (trv ad))) := by
  obtain ⟨hx, hb, hmlc, hown, hlk, hT, hK, hA, hX⟩ := id F
  obtain ⟨⟨w1, w2, w3⟩, ⟨h1, h2, h3, h4, h5, h6⟩, h7⟩ := mlT_ok _ hml
  simp only at w1 w2 w3 h1 h2 h3 h4 h5 h6 h7
  have hrm : 2 * (F0 m pc lsA ((as.reverse ++ st).map (trv ad))).monitorRoom + ((st.map (trv ad)).map fun v => v.category).sum ≤ 8 := lv_room (by rw [cat_sum]; exact hlen)
  have hloc : 8 + ((mRow b).2.2.1 + 11) + (rmF f).locals ≤ R.locals := by show 8 + ((mRow b).2.2.1 + 11) + 38 * f ≤ _; omega
  have hws : ∀ w ∈ [Cond.code (mRow b).1 (mRow b).2.1 (mRow b).2.2.1 (mRow b).2.2.2.1], ∀ (a' : Array Value) (U : State), s.WarmedH U.vm → w.before a' U = true := by
    intro w hw a' U hW
    rw [List.mem_singleton.mp hw]
    exact (Tk.warm hW hT).use w1
  by_cases hd0 : d = 0
  · subst hd0
    obtain ⟨i, as', rfl, hc11, hi⟩ := hrecv rfl
    have hstF : (mRow b).2.2.2.2.2.2 = false := hst
    rw [hstF] at w3 h2
    rw [if_neg (by decide)] at w3 h2
    rw [if_pos (by decide)] at h7
    obtain ⟨k, hk⟩ := smW_get (cA := cA) (ad := ad) z (r := ((mRow b).2.2.2.2.1, i)) hi
    rw [cell_obj hc11] at hk
    have hrc := va_recv hK hH.1 (cl_at hc11) hk
    rw [h4] at hrc
    have hsel : inT (.selects (mRow b).1.cls (mRow b).1 (mRow b).1) := by
      rcases w3.2 with q | q
      · exact absurd q (initL_ok _ (mlT_lt _ hml) hni)
      · exact q
    refine sm_call (va_runV (C := (mRow b).1.cls) (own := cnm o) (As := as'.map (trv ad)) (rest := st.map (trv ad)) (index := a) (Ts := []) (b := ad ((mRow b).2.2.2.2.1, i)) (n := as'.length) ⟨hx, hb, hmlc, hown, fun w hw => by cases hw⟩ hM
      ⟨⟨rfl, rfl, hf1, hloc, hws, List.mem_cons_self, hT.use w1, hT.use w2, h1, fun sig hsig => ?_, hT.use h7⟩, hT.use w3.1, hT.use hsel⟩
      ⟨pc_blind _, hrc, fun U hU hW => ⟨rfl, rep_at F hH hS U hU hW⟩⟩ rfl (by simp) hsz ?_ hrm hd ⟨hcs.1, hcs.2⟩) hS kk
    · rw [hsig] at h2
      have h9 := Option.some.inj h2
      rw [List.length_cons] at hn
      rw [← hn] at h9
      exact h9.symm
    · simp [trv]
  · have hstT : (mRow b).2.2.2.2.2.2 = true := by rw [hst]; exact decide_eq_true hd0
    rw [hstT] at w3 h2
    rw [if_pos rfl] at w3 h2
    have hsg : ∀ sig, parseMethodDescriptor (mRow b).1.desc = some sig → as.length = sig.parameters.length := fun sig hsig => by
      rw [hsig] at h2
      have h9 := Option.some.inj h2
      rw [Nat.sub_zero] at h9
      rw [hn, ← h9]
    rw [if_neg hd0] at hd
    by_cases hd2 : d = 2
    · rw [if_pos hd2, if_neg (by decide)] at h7
      refine sm_call (va_runSN (own := cnm o) (host := RX9) (As := as.map (trv ad)) (rest := st.map (trv ad)) (index := a) (Ts := []) (n := as.length) ⟨hx, hb, hmlc, hown, fun w hw => by cases hw⟩ hM
        ⟨⟨⟨rfl, rfl, hf1, hloc, hws, List.mem_cons_self⟩, hT.use w1, hT.use w2, h1, hsg, hT.use h7⟩, hT.use w3, trivial⟩
        ⟨pc_blind _, fun U hU hW => ⟨rfl, rep_at F hH hS U hU hW⟩⟩ rfl (by simp) hsz (by simp) hrm hd ⟨hcs.1, hcs.2⟩) hS kk
    · rw [if_neg hd2, if_pos rfl] at h7
      refine sm_call (va_runS (own := cnm o) (As := as.map (trv ad)) (rest := st.map (trv ad)) (index := a) (Ts := []) (n := as.length) ⟨hx, hb, hmlc, hown, fun w hw => by cases hw⟩ hM
        ⟨⟨rfl, rfl, hf1, hloc, hws, List.mem_cons_self, hT.use w1, hT.use w2, h1, hsg, hT.use h7⟩, hT.use w3⟩
        ⟨pc_blind _, fun U hU hW => ⟨rfl, rep_at F hH hS U hU hW⟩⟩ rfl (by simp) hsz (by simp) hrm hd ⟨hcs.1, hcs.2⟩) hS kk
end SC
end
section
/-! a whole step -/
theorem Int32_ofInt_toInt (x : Int32) : Int32.ofInt x.toInt = x := Int32.ofInt_toInt x
section SW
variable {p : Program} {l : Launch} {e : Env} {R : Room} {s : State} {m : MethodId} {args : Array Value} {below : List Frame} {meth : Method} {c : Code} {cells slots : Nat} {QM : State → Prop}
variable {D : va_G} {cA : Nat → ClassId} {ad : Nat × Nat → Nat} {A : Nat → Prop} {L : Nat} {xs : Nat → Int32} {cc : ByteArray} {o nL : Nat} {pc : Nat} {lsA : Array Slot} {H : Heap} {locs : List Loc} {z : St} {rest : List Value} {st : List MV} {ls : List MV}
theorem s_load (F : FrOk p s m args meth c D cA ad A L xs cc o nL) {a b : Nat} {v : MV} (hm : (match b with | 0 => decide (a < 4) | 1 => true | 2 => decide (a < 4) | _ => true) = true) (hd : decode cc pc = .ok (instrOf (pc, (2, a, b, 0), 0, []))) (hl : locOk ad nL lsA ls) (hv : getL ls a = some v) (hi : (b = 0 ∨ b = 1) → ∃ x, v = .inl x) (hr : ¬ (b = 0 ∨ b = 1) → ∃ r, v = .inr r)
    (kk : W p l e R s m args below meth c H locs cells slots QM (F0 m (nextPc (pc, (2, a, b, 0), 0, [])) lsA (trv ad v :: rest))) : W p l e R s m args below meth c H locs cells slots QM (F0 m pc lsA rest) := by
  obtain ⟨hx, hb, -⟩ := id F
  have hg := loc_get hl hv
  match b, hm, hd, hi, hr, kk with
  | 0, hm, hd, hi, _, kk =>
    obtain ⟨x, rfl⟩ := hi (Or.inl rfl)
    exact lv_iload_n hx hb hd (Nat.mod_eq_of_lt (of_decide_eq_true hm)) hg kk
  | 1, hm, hd, hi, _, kk =>
    obtain ⟨x, rfl⟩ := hi (Or.inr rfl)
    exact lv_iload hx hb hd hg kk
  | 2, hm, hd, _, hr, kk =>
    obtain ⟨x, rfl⟩ := hr (by omega)
    exact lv_aload_n hx hb hd (Nat.mod_eq_of_lt (of_decide_eq_true hm)) hg kk
  | n + 3, hm, hd, _, hr, kk =>
    obtain ⟨x, rfl⟩ := hr (by omega)
    exact lv_aload hx hb hd hg kk
theorem s_store (F : FrOk p s m args meth c D cA ad A L xs cc o nL) {a b : Nat} {v : MV} (ha : a < nL) (hm : (match b with | 0 => decide (a < 4) | 1 => true | 2 => decide (a < 4) | _ => true) = true) (hd : decode cc pc = .ok (instrOf (pc, (3, a, b, 0), 0, []))) (hl : locOk ad nL lsA ls) (hlen : a ≤ ls.length) (hi : (b = 0 ∨ b = 1) → ∃ x, v = .inl x) (hr : ¬ (b = 0 ∨ b = 1) → ∃ r, v = .inr r)
    (kk : ∀ lsB, locOk ad nL lsB (setL ls a v) → W p l e R s m args below meth c H locs cells slots QM (F0 m (nextPc (pc, (3, a, b, 0), 0, [])) lsB rest)) : W p l e R s m args below meth c H locs cells slots QM (F0 m pc lsA (trv ad v :: rest)) := by
  obtain ⟨hx, hb, -⟩ := id F
  match b, hm, hd, hi, hr, kk with
  | 0, hm, hd, hi, _, kk =>
    obtain ⟨x, rfl⟩ := hi (Or.inl rfl)
    exact lv_istore_n hx hb hd (Nat.mod_eq_of_lt (of_decide_eq_true hm)) hl.1 ha rfl (fun lsB hB => kk lsB (loc_set hl ha hlen _ rfl hB))
  | 1, hm, hd, hi, _, kk =>
    obtain ⟨x, rfl⟩ := hi (Or.inr rfl)
    exact lv_istore hx hb hd hl.1 ha rfl (fun lsB hB => kk lsB (loc_set hl ha hlen _ rfl hB))
  | 2, hm, hd, _, hr, kk =>
    obtain ⟨x, rfl⟩ := hr (by omega)
    exact lv_astore_n hx hb hd (Nat.mod_eq_of_lt (of_decide_eq_true hm)) hl.1 ha rfl (fun lsB hB => kk lsB (loc_set hl ha hlen _ rfl hB))
  | n + 3, hm, hd, _, hr, kk =>
    obtain ⟨x, rfl⟩ := hr (by omega)
    exact lv_astore hx hb hd hl.1 ha rfl (fun lsB hB => kk lsB (loc_set hl ha hlen _ rfl hB))
theorem s_bin (F : FrOk p s m args meth c D cA ad A L xs cc o nL) {a : Nat} {x y : Int32} {k : Int32 → Prop} (hd : decode cc pc = .ok (instrOf (pc, (4, a, 0, 0), 0, []))) (h : binW a x y k)
    (kk : ∀ v, k v → W p l e R s m args below meth c H locs cells slots QM (F0 m (nextPc (pc, (4, a, 0, 0), 0, [])) lsA (.int v :: rest))) : W p l e R s m args below meth c H locs cells slots QM (F0 m pc lsA (.int y :: .int x :: rest)) := by
  obtain ⟨hx, hb, -⟩ := id F
  match a, hd, h, kk with
  | 0, hd, h, kk => exact lv_iadd hx hb hd (kk _ h)
  | 1, hd, h, kk => exact lv_isub hx hb hd (kk _ h)
  | 2, hd, h, kk => exact lv_imul hx hb hd (kk _ h)
  | 3, hd, h, kk => exact lv_idiv hx hb hd h.1 (kk _ h.2)
  | 4, hd, h, kk => exact lv_irem hx hb hd h.1 (kk _ h.2)
  | 5, hd, h, kk => exact lv_iand hx hb hd (kk _ h)
  | 6, hd, h, kk => exact lv_iushr hx hb hd rfl (kk _ h)
  | 7, hd, h, kk => exact lv_ixor hx hb hd (kk _ h)
  | 8, hd, h, kk => exact lv_ishr hx hb hd (kk _ h)
  | n + 9, hd, h, kk => exact lv_ishl hx hb hd (kk _ h)
theorem toInt_lt {x y : Int32} : x < y ↔ x.toInt < y.toInt := Int32.lt_iff_toInt_lt
theorem toInt_le {x y : Int32} : x ≤ y ↔ x.toInt ≤ y.toInt := Int32.le_iff_toInt_le
theorem s_if (F : FrOk p s m args meth c D cA ad A L xs cc o nL) {a b : Nat} {x : Int32} (hb6 : b < 6) (hd : decode cc pc = .ok (.ifCond (cndOf b) ((a : Int) - (pc : Int)), 3))
    (kf : cmpF b x 0 → W p l e R s m args below meth c H locs cells slots QM (F0 m (pc + 3) lsA rest)) (kt : cmpT b x 0 → W p l e R s m args below meth c H locs cells slots QM (F0 m a lsA rest)) : W p l e R s m args below meth c H locs cells slots QM (F0 m pc lsA (.int x :: rest)) := by
  obtain ⟨hx, hb, -⟩ := id F
  match b, hb6, hd, kf, kt with
  | 0, _, hd, kf, kt => exact lv_if_eq hx hb hd int_tgt (fun h => kt h) (fun h => kf h)
  | 1, _, hd, kf, kt => exact lv_if_ne hx hb hd int_tgt (fun h => kt h) (fun h => kf h)
  | 2, _, hd, kf, kt => exact lv_if_lt hx hb hd int_tgt (fun h => kt (toInt_lt.mp h)) (fun h => kf (Int.not_lt.mp fun q => h (toInt_lt.mpr q)))
  | 3, _, hd, kf, kt => exact lv_if_ge hx hb hd int_tgt (fun h => kt (toInt_le.mp h)) (fun h => kf (Int.not_le.mp fun q => h (toInt_le.mpr q)))
  | 4, _, hd, kf, kt => exact lv_if_gt hx hb hd int_tgt (fun h => kt (toInt_lt.mp h)) (fun h => kf (Int.not_lt.mp fun q => h (toInt_lt.mpr q)))
  | 5, _, hd, kf, kt => exact lv_if_le hx hb hd int_tgt (fun h => kt (toInt_le.mp h)) (fun h => kf (Int.not_le.mp fun q => h (toInt_le.mpr q)))
theorem s_icmp (F : FrOk p s m args meth c D cA ad A L xs cc o nL) {a b : Nat} {x y : Int32} (hb6 : b < 6) (hd : decode cc pc = .ok (.if_icmp (cndOf b) ((a : Int) - (pc : Int)), 3))
    (kf : cmpF b x y → W p l e R s m args below meth c H locs cells slots QM (F0 m (pc + 3) lsA rest)) (kt : cmpT b x y → W p l e R s m args below meth c H locs cells slots QM (F0 m a lsA rest)) : W p l e R s m args below meth c H locs cells slots QM (F0 m pc lsA (.int y :: .int x :: rest)) := by
  obtain ⟨hx, hb, -⟩ := id F
  match b, hb6, hd, kf, kt with
  | 0, _, hd, kf, kt => exact lv_icmp_eq hx hb hd int_tgt (fun h => kt h) (fun h => kf h)
  | 1, _, hd, kf, kt => exact lv_icmp_ne hx hb hd int_tgt (fun h => kt h) (fun h => kf h)
  | 2, _, hd, kf, kt => exact lv_icmp_lt hx hb hd int_tgt (fun h => kt (toInt_lt.mp h)) (fun h => kf (Int.not_lt.mp fun q => h (toInt_lt.mpr q)))
  | 3, _, hd, kf, kt => exact lv_icmp_ge hx hb hd int_tgt (fun h => kt (toInt_le.mp h)) (fun h => kf (Int.not_le.mp fun q => h (toInt_le.mpr q)))
  | 4, _, hd, kf, kt => exact lv_icmp_gt hx hb hd int_tgt (fun h => kt (toInt_lt.mp h)) (fun h => kf (Int.not_lt.mp fun q => h (toInt_lt.mpr q)))
  | 5, _, hd, kf, kt => exact lv_icmp_le hx hb hd int_tgt (fun h => kt (toInt_le.mp h)) (fun h => kf (Int.not_le.mp fun q => h (toInt_le.mpr q)))
end SW
/-! switches -/
theorem ofNat_toInt {n : Nat} (h : n < 1000) : (Int32.ofNat n).toInt = (n : Int) := nI_toInt (by omega)
theorem swW_mem {x : Int32} {k : Nat → Prop} {d : Nat} : ∀ {cs : List (Nat × Nat)}, swW x k d cs → (∃ q ∈ cs, x = Int32.ofNat q.1 ∧ k q.2) ∨ ((∀ q ∈ cs, ¬ x = Int32.ofNat q.1) ∧ k d)
  | [], h => Or.inr ⟨fun q hq => (List.not_mem_nil hq).elim, h⟩
  | (v, t) :: cs, h => by
    by_cases hx : x = Int32.ofNat v
    · exact Or.inl ⟨(v, t), List.mem_cons_self, hx, h.1 hx⟩
    · rcases swW_mem (h.2 hx) with ⟨q, hq, h1⟩ | ⟨h1, h2⟩
      · exact Or.inl ⟨q, List.mem_cons_of_mem _ hq, h1⟩
      · refine Or.inr ⟨fun q hq => ?_, h2⟩
        rcases List.mem_cons.mp hq with rfl | hq
        · exact hx
        · exact h1 q hq
theorem sw_look {x : Int32} {k : Nat → Prop} {d pc : Nat} : ∀ {cs : List (Nat × Nat)}, swW x k d cs → (∀ q ∈ cs, q.1 < 1000) → ∃ t : Nat, Op.lookupswitch.offset (cs.map fun q => ((q.1 : Int), (q.2 : Int) - (pc : Int))) ((d : Int) - (pc : Int)) x.toInt = (t : Int) - (pc : Int) ∧ k t
  | [], h, _ => ⟨d, rfl, h⟩
  | (v, t) :: cs, h, hs => by
    by_cases hx : x = Int32.ofNat v
    · refine ⟨t, ?_, h.1 hx⟩
      rw [List.map_cons, Op.lookupswitch.offset_cons, if_pos]
      rw [hx]
      exact (ofNat_toInt (hs _ List.mem_cons_self)).symm
    · obtain ⟨t', h1, h2⟩ := sw_look (pc := pc) (h.2 hx) (fun q hq => hs q (List.mem_cons_of_mem _ hq))
      refine ⟨t', ?_, h2⟩
      rw [List.map_cons, Op.lookupswitch.offset_cons, if_neg]
      · exact h1
      · intro q
        apply hx
        apply Int32.toInt_inj.mp
        rw [ofNat_toInt (hs _ List.mem_cons_self)]
        exact q.symm
theorem sw_tab {x : Int32} {k : Nat → Prop} {d pc lo : Nat} {cs : List (Nat × Nat)} (h : swW x k d cs) (hs : ∀ q ∈ cs, q.1 < 1000) (hc : cs.map (fun q => q.1) = List.range' lo cs.length) :
    (∃ t : Nat, k t ∧ (lo : Int) ≤ x.toInt ∧ x.toInt < (lo : Int) + (cs.length : Int) ∧ (cs.map fun q => (q.2 : Int) - (pc : Int)).toArray[(x.toInt - (lo : Int)).toNat]? = some ((t : Int) - (pc : Int))) ∨ (k d ∧ (x.toInt < (lo : Int) ∨ (lo : Int) + (cs.length : Int) ≤ x.toInt)) := by
  have at' : ∀ (i : Nat) (q : Nat × Nat), cs[i]? = some q → q.1 = lo + i := by
    intro i q hq
    have h1 : (cs.map (fun q => q.1))[i]? = some q.1 := by rw [List.getElem?_map, hq]; rfl
    have hl : i < cs.length := (List.getElem?_eq_some_iff.mp hq).1
    rw [hc, List.getElem?_range' hl] at h1
    have := Option.some.inj h1
    omega
  rcases swW_mem h with ⟨q, hq, h1, h2⟩ | ⟨h1, h2⟩
  · left
    obtain ⟨i, hi⟩ := List.getElem?_of_mem hq
    have e1 := at' i q hi
    have e2 : x.toInt = (q.1 : Int) := by rw [h1]; exact ofNat_toInt (hs q hq)
    have hl : i < cs.length := (List.getElem?_eq_some_iff.mp hi).1
    refine ⟨q.2, h2, by omega, by omega, ?_⟩
    have e3 : (x.toInt - (lo : Int)).toNat = i := by omega
    rw [e3, List.getElem?_toArray, List.getElem?_map, hi]
    rfl
  · right
    refine ⟨h2, ?_⟩
    apply Classical.byContradiction
    intro hn
    have g1 : (lo : Int) ≤ x.toInt := by omega
    have g2 : x.toInt < (lo : Int) + (cs.length : Int) := by omega
    have hi : (x.toInt - (lo : Int)).toNat < cs.length := by omega
    have e1 := at' _ _ (List.getElem?_eq_getElem hi)
    have hm : cs[(x.toInt - (lo : Int)).toNat] ∈ cs := List.getElem_mem hi
    apply h1 _ hm
    apply Int32.toInt_inj.mp
    rw [ofNat_toInt (hs _ hm)]
    omega
section SX
variable {p : Program} {l : Launch} {e : Env} {R : Room} {s : State} {m : MethodId} {args : Array Value} {below : List Frame} {meth : Method} {c : Code} {cells slots : Nat} {QM : State → Prop}
variable {D : va_G} {cA : Nat → ClassId} {ad : Nat × Nat → Nat} {A : Nat → Prop} {L : Nat} {xs : Nat → Int32} {cc : ByteArray} {o nL : Nat} {pc : Nat} {lsA : Array Slot} {H : Heap} {locs : List Loc} {z : St} {rest : List Value} {st : List MV} {ls : List MV}
theorem last_range {cs : List (Nat × Nat)} {lo : Nat} (hc : cs.map (fun q => q.1) = List.range' lo cs.length) (hne : cs ≠ []) : ((cs.getLast?).getD (0, 0)).1 + 1 = lo + cs.length := by
  have hl : 0 < cs.length := List.length_pos_iff.mpr hne
  rw [List.getLast?_eq_getElem?]
  have hi : cs.length - 1 < cs.length := by omega
  have h1 : (cs.map (fun q => q.1))[cs.length - 1]? = some (cs[cs.length - 1]).1 := by rw [List.getElem?_map, List.getElem?_eq_getElem hi]; rfl
  rw [hc, List.getElem?_range' hi] at h1
  have := Option.some.inj h1
  rw [List.getElem?_eq_getElem hi]
  simp only [Option.getD_some]
  omega
theorem s_switch (F : FrOk p s m args meth c D cA ad A L xs cc o nL) {a b d : Nat} {cs : List (Nat × Nat)} {x : Int32} {k : Nat → Prop} (hm : moreOk o nL (pc, (18, a, b, d), 0, cs) = true) (hd : decode cc pc = .ok (instrOf (pc, (18, a, b, d), 0, cs))) (h : swW x k a cs)
    (kk : ∀ t, k t → W p l e R s m args below meth c H locs cells slots QM (F0 m t lsA rest)) : W p l e R s m args below meth c H locs cells slots QM (F0 m pc lsA (.int x :: rest)) := by
  obtain ⟨hx, hb, -⟩ := id F
  match d, hm, hd with
  | 0, hm, hd =>
    have hm : ((decide (cs.map (fun q => q.1) = (List.range' (cs.head?.getD (0, 0)).1 cs.length)) && decide (cs ≠ [])) && cs.all (fun q => decide (q.1 < 1000))) = true := hm
    rw [Bool.and_eq_true, Bool.and_eq_true, decide_eq_true_eq, decide_eq_true_eq, List.all_eq_true] at hm
    obtain ⟨⟨h1, h2⟩, h3⟩ := hm
    have h3 : ∀ q ∈ cs, q.1 < 1000 := fun q hq => of_decide_eq_true (h3 q hq)
    have hlast := last_range h1 h2
    rcases sw_tab (pc := pc) h h3 h1 with ⟨t, g1, g2, g3, g4⟩ | ⟨g1, g2⟩
    · exact lv_tableIn hx hb hd (by omega) (by omega) g4 int_tgt (kk t g1)
    · exact lv_tableOut hx hb hd (by omega) int_tgt (kk a g1)
  | n + 1, hm, hd =>
    have hm : (((cs.map fun q => ((q.1 : Int), (q.2 : Int) - (pc : Int))).zip ((cs.map fun q => ((q.1 : Int), (q.2 : Int) - (pc : Int))).drop 1)).all (fun (a, next) => a.1 < next.1) && cs.all (fun q => decide (q.1 < 1000))) = true := hm
    rw [Bool.and_eq_true] at hm
    have h3 : ∀ q ∈ cs, q.1 < 1000 := fun q hq => of_decide_eq_true (List.all_eq_true.mp hm.2 q hq)
    obtain ⟨t, g1, g2⟩ := sw_look (pc := pc) h h3
    exact lv_lookup hx hb hd hm.1 g1 int_tgt (kk t g2)
end SX
end
section
/-! THE STEP, whole; the stretch; the method -/
theorem virt_all : ∀ q ∈ mlT, (mRow q.2.2.1).2.2.2.2.2.2 = false → (mRow q.2.2.1).2.2.2.2.1 < 10 := by decide +kernel
theorem virt_lt {o a b n : Nat} (q : Nat) (h : (o, a, b, n) ∈ mlT) (hs : (mRow b).2.2.2.2.2.2 = decide (¬ (0 : Nat) = 0)) : (mRow b).2.2.2.2.1 < 10 := virt_all _ h hs
theorem inv_split {call : Nat → List MV → St → (Option MV → St → Prop) → Prop} {n w b d : Nat} {st : List MV} {z : St} {kk : List MV → St → Prop} {cs : List (Nat × Nat)} (h : (match cs with
      | (n, w) :: _ => (match popL n [] st with
        | some (as, st) => boolW (Nat.ble st.length 8) (match Nat.beq d 0 with
          | true => (match as with
            | .inr (q, _) :: _ => boolW (Nat.beq q w) (call b as z (fun r s => kk (pushW r st) s))
            | _ => False)
          | false => call b as z (fun r s => kk (pushW r st) s))
        | none => False)
      | [] => False)) (hcs : cs = [(n, w)]) : ∃ as st', st = as.reverse ++ st' ∧ as.length = n ∧ st'.length ≤ 8 ∧ call b as z (fun r s => kk (pushW r st') s) ∧ (d = 0 → ∃ i as', as = .inr (w, i) :: as') := by
  subst hcs
  have h : (match popL n [] st with
        | some (as, st) => boolW (Nat.ble st.length 8) (match Nat.beq d 0 with
          | true => (match as with
            | .inr (q, _) :: _ => boolW (Nat.beq q w) (call b as z (fun r s => kk (pushW r st) s))
            | _ => False)
          | false => call b as z (fun r s => kk (pushW r st) s))
        | none => False) := h
  cases hp : popL n [] st with
  | none => rw [hp] at h; exact h.elim
  | some pr =>
    obtain ⟨as, st'⟩ := pr
    rw [hp] at h
    obtain ⟨t, e1, e2, e3⟩ := popL_eq _ _ _ _ _ hp
    rw [List.append_nil] at e1
    subst e1
    obtain ⟨hlen, h2⟩ := boolW_t h
    refine ⟨as, st', e2, e3, Nat.le_of_ble_eq_true hlen, ?_⟩
    cases hd0 : Nat.beq d 0 with
    | false =>
      rw [hd0] at h2
      exact ⟨h2, fun e => by rw [e] at hd0; cases hd0⟩
    | true =>
      rw [hd0] at h2
      cases as with
      | nil => exact (h2 : False).elim
      | cons v as' => cases v with
        | inl x => exact (h2 : False).elim
        | inr r =>
          obtain ⟨q, i⟩ := r
          obtain ⟨hq, h3⟩ := boolW_t h2
          have hq := Nat.eq_of_beq_eq_true hq
          subst hq
          exact ⟨h3, fun _ => ⟨i, as', rfl⟩⟩
def idxOk (b a : Nat) : Bool := match b with
  | 0 => decide (a < 4) | 1 => true | 2 => decide (a < 4) | _ => true
section SL
variable {p : Program} {l : Launch} {e : Env} {R : Room} {s : State} {m : MethodId} {args : Array Value} {below : List Frame} {meth : Method} {c : Code} {cells slots : Nat} {QM : State → Prop}
variable {D : va_G} {cA : Nat → ClassId} {ad : Nat × Nat → Nat} {A : Nat → Prop} {L : Nat} {xs : Nat → Int32} {cc : ByteArray} {o nL : Nat} {H : Heap} {locs : List Loc} {lsA : Array Slot} {rest : List Value} {ls : List MV}
theorem s_loadI (F : FrOk p s m args meth c D cA ad A L xs cc o nL) {pc a b d : Nat} {c0 x : Int32} {cs : List (Nat × Nat)} (hm : idxOk b a = true) (hb1 : b ≤ 1) (hd : decode cc pc = .ok (instrOf (pc, (2, a, b, d), c0, cs))) (hg : lsA[a]? = some (.val (.int x)))
    (kk : W p l e R s m args below meth c H locs cells slots QM (F0 m (nextPc (pc, (2, a, b, d), c0, cs)) lsA (.int x :: rest))) : W p l e R s m args below meth c H locs cells slots QM (F0 m pc lsA rest) := by
  obtain ⟨hx, hb, -⟩ := id F
  match b, hm, hb1, hd, kk with
  | 0, hm, _, hd, kk => exact lv_iload_n hx hb hd (Nat.mod_eq_of_lt (of_decide_eq_true hm)) hg kk
  | 1, hm, _, hd, kk => exact lv_iload hx hb hd hg kk
theorem s_loadR (F : FrOk p s m args meth c D cA ad A L xs cc o nL) {pc a b d x : Nat} {c0 : Int32} {cs : List (Nat × Nat)} (hm : idxOk b a = true) (hb1 : 2 ≤ b) (hd : decode cc pc = .ok (instrOf (pc, (2, a, b, d), c0, cs))) (hg : lsA[a]? = some (.val (.ref x)))
    (kk : W p l e R s m args below meth c H locs cells slots QM (F0 m (nextPc (pc, (2, a, b, d), c0, cs)) lsA (.ref x :: rest))) : W p l e R s m args below meth c H locs cells slots QM (F0 m pc lsA rest) := by
  obtain ⟨hx, hb, -⟩ := id F
  match b, hm, hb1, hd, kk with
  | 2, hm, _, hd, kk => exact lv_aload_n hx hb hd (Nat.mod_eq_of_lt (of_decide_eq_true hm)) hg kk
  | n + 3, hm, _, hd, kk => exact lv_aload hx hb hd hg kk
theorem s_storeI (F : FrOk p s m args meth c D cA ad A L xs cc o nL) {pc a b d : Nat} {c0 x : Int32} {cs : List (Nat × Nat)} (ha : a < nL) (hlen : a ≤ ls.length) (hloc : locOk ad nL lsA ls) (hm : idxOk b a = true) (hb1 : b ≤ 1) (hd : decode cc pc = .ok (instrOf (pc, (3, a, b, d), c0, cs)))
    (kk : ∀ lsB, locOk ad nL lsB (setL ls a (.inl x)) → W p l e R s m args below meth c H locs cells slots QM (F0 m (nextPc (pc, (3, a, b, d), c0, cs)) lsB rest)) : W p l e R s m args below meth c H locs cells slots QM (F0 m pc lsA (.int x :: rest)) := by
  obtain ⟨hx, hb, -⟩ := id F
  match b, hm, hb1, hd, kk with
  | 0, hm, _, hd, kk => exact lv_istore_n hx hb hd (Nat.mod_eq_of_lt (of_decide_eq_true hm)) hloc.1 ha rfl (fun lsB hB => kk lsB (loc_set hloc ha hlen (.inl x) rfl hB))
  | 1, hm, _, hd, kk => exact lv_istore hx hb hd hloc.1 ha rfl (fun lsB hB => kk lsB (loc_set hloc ha hlen (.inl x) rfl hB))
theorem s_storeR (F : FrOk p s m args meth c D cA ad A L xs cc o nL) {pc a b d : Nat} {c0 : Int32} {r : Nat × Nat} {cs : List (Nat × Nat)} (ha : a < nL) (hlen : a ≤ ls.length) (hloc : locOk ad nL lsA ls) (hm : idxOk b a = true) (hb1 : 2 ≤ b) (hd : decode cc pc = .ok (instrOf (pc, (3, a, b, d), c0, cs)))
    (kk : ∀ lsB, locOk ad nL lsB (setL ls a (.inr r)) → W p l e R s m args below meth c H locs cells slots QM (F0 m (nextPc (pc, (3, a, b, d), c0, cs)) lsB rest)) : W p l e R s m args below meth c H locs cells slots QM (F0 m pc lsA (.ref (ad r) :: rest)) := by
  obtain ⟨hx, hb, -⟩ := id F
  match b, hm, hb1, hd, kk with
  | 2, hm, _, hd, kk => exact lv_astore_n hx hb hd (Nat.mod_eq_of_lt (of_decide_eq_true hm)) hloc.1 ha rfl (fun lsB hB => kk lsB (loc_set hloc ha hlen (.inr r) rfl hB))
  | n + 3, hm, _, hd, kk => exact lv_astore hx hb hd hloc.1 ha rfl (fun lsB hB => kk lsB (loc_set hloc ha hlen (.inr r) rfl hB))
theorem s_const (F : FrOk p s m args meth c D cA ad A L xs cc o nL) {pc a b d : Nat} {c0 : Int32} {cs : List (Nat × Nat)} (hm : moreOk o nL (pc, (1, a, b, d), c0, cs) = true) (hd : decode cc pc = .ok (instrOf (pc, (1, a, b, d), c0, cs)))
    (kk : W p l e R s m args below meth c H locs cells slots QM (F0 m (nextPc (pc, (1, a, b, d), c0, cs)) lsA (.int c0 :: rest))) : W p l e R s m args below meth c H locs cells slots QM (F0 m pc lsA rest) := by
  obtain ⟨hx, hb, hmlc, hown, hlkk, hT, hK, hA, hX⟩ := id F
  match b, hm, hd, kk with
  | 0, _, hd, kk => exact lv_iconst hx hb hd (Int32_ofInt_toInt c0) kk
  | 1, hm, hd, kk => exact lv_bipush hx hb hd (of_decide_eq_true hm) kk
  | 2, hm, hd, kk => exact lv_sipush hx hb hd (of_decide_eq_true hm) kk
  | n + 4, hm, hd, kk =>
    have hm : (o, a, c0) ∈ [(24, 7, (763049417 : Int32)), (24, 8, 2147483647)] := of_decide_eq_true hm
    have hc : inT (.constant (cnm o) a c0) := by
      rcases List.mem_cons.mp hm with q | hm
      · cases q; exact ck_7
      rcases List.mem_cons.mp hm with q | hm
      · cases q; exact ck_8
      cases hm
    exact lv_ldc hx hb hown (hT.use hc) hd kk
  | 3, hm, hd, kk =>
    have hm : (o, a, c0) ∈ [(25, 265, (1431655765 : Int32)), (25, 266, 858993459), (25, 267, 252645135)] := of_decide_eq_true hm
    have hc : inT (.constant (cnm o) a c0) := by
      rcases List.mem_cons.mp hm with q | hm
      · cases q; exact ck_265
      rcases List.mem_cons.mp hm with q | hm
      · cases q; exact ck_266
      rcases List.mem_cons.mp hm with q | hm
      · cases q; exact ck_267
      cases hm
    exact lv_ldcw hx hb hown (hT.use hc) hd kk
end SL
section SM
variable {p : Program} {l : Launch} {e : Env} {R : Room} {s : State} {m : MethodId} {args : Array Value} {below : List Frame} {meth : Method} {c : Code} {cells slots : Nat} {QM : State → Prop}
variable {D : va_G} {cA : Nat → ClassId} {ad : Nat × Nat → Nat} {A : Nat → Prop} {L : Nat} {xs : Nat → Int32} {cc : ByteArray} {o nL : Nat}
set_option maxHeartbeats 4000000 in
theorem step_sound (F : FrOk p s m args meth c D cA ad A L xs cc o nL) {call : Nat → List MV → St → (Option MV → St → Prop) → Prop} {ret : Nat} {Q : Option MV → St → Prop} {X : Nat → List MV → List MV → St → Prop} {k : List Ent → List MV → List MV → St → Prop} {j : Nat → List MV → List MV → St → Prop}
    (hcall : ∀ b as z Q', call b as z Q' → (∀ v ∈ as, okV v) → as.length = (mRow b).2.2.2.2.2.1 → b < 123 → ∃ f, f + 1 ≤ R.frames ∧ 38 * f + 38 ≤ R.locals ∧ MetC l D cA ad A L xs f b as z Q')
    (hR0 : ∀ v z H locs lsA pc, retW ret v (Q (some (.inl v)) z) → Hp D cA ad z H → va_S A s.heap H locs → decode cc pc = .ok (.ireturn, 1) → W p l e R s m args below meth c H locs cells slots QM (F0 m pc lsA [.int v]))
    (hR1 : ∀ z H locs lsA pc, ret = 2 → Q none z → Hp D cA ad z H → va_S A s.heap H locs → decode cc pc = .ok (.return_, 1) → W p l e R s m args below meth c H locs cells slots QM (F0 m pc lsA []))
    (hmin : 1 ≤ R.frames ∧ 21 ≤ R.locals)
    (hXX : ∀ pc ls st z, X pc ls st z → XwP p l e R s m args below meth c cells slots QM D cA ad A nL pc ls st z) (hcs : cells ≤ R.cells ∧ slots ≤ R.slots) :
    ∀ (pc op a b d : Nat) (c0 : Int32) (cs : List (Nat × Nat)) (es : List Ent) (ls st : List MV) (z : St), entOk o nL cc (pc, (op, a, b, d), c0, cs) = true →
    (∀ ls st z, k es ls st z → XwP p l e R s m args below meth c cells slots QM D cA ad A nL (nextPc (pc, (op, a, b, d), c0, cs)) ls st z) →
    (∀ t ls st z, j t ls st z → XwP p l e R s m args below meth c cells slots QM D cA ad A nL t ls st z) →
    stepW call L xs ret Q X k j ((pc, (op, a, b, d), c0, cs) :: es) ls st z → XwP p l e R s m args below meth c cells slots QM D cA ad A nL pc ls st z := by
  intro pc op a b d c0 cs es ls st z hok hk hj h hls hst H locs lsA hH hS hloc
  obtain ⟨hx, hb, hmlc, hown, hlkk, hT, hK, hA, hX⟩ := id F
  have hsz : lsA.size = nL := hloc.1.1
  obtain ⟨hdec, hmore⟩ : (op = 0 ∨ decode cc pc = .ok (instrOf (pc, (op, a, b, d), c0, cs))) ∧ moreOk o nL (pc, (op, a, b, d), c0, cs) = true := by
    unfold entOk at hok
    rw [Bool.and_eq_true, Bool.or_eq_true, decide_eq_true_eq, decide_eq_true_eq] at hok
    exact hok
  match op, hdec, hmore, hk, h with
  | 0, _, _, _, h => exact hXX _ _ _ _ h (by rw [takeL_eq]; exact fun v hv => hls v (List.mem_of_mem_take hv)) hst H locs lsA hH hS (loc_take hloc a)
  | 1, hdec, hmore, hk, h =>
    have hd := hdec.resolve_left (by decide)
    exact s_const F hmore hd (hk _ _ _ h hls (okV_cons trivial hst) H locs lsA hH hS hloc)
  | 2, hdec, hmore, hk, h =>
    have hd := hdec.resolve_left (by decide)
    cases hv : getL ls a with
    | none =>
      have h : (match getL ls a with | some (.inl x) => boolW (Nat.ble b 1) (k es ls (.inl x :: st) z) | some (.inr r) => boolW (Nat.ble 2 b) (k es ls (.inr r :: st) z) | none => False) := h
      rw [hv] at h
      exact h.elim
    | some v =>
      have hg := loc_get hloc hv
      cases v with
      | inl x =>
        have h : (match getL ls a with | some (.inl x) => boolW (Nat.ble b 1) (k es ls (.inl x :: st) z) | some (.inr r) => boolW (Nat.ble 2 b) (k es ls (.inr r :: st) z) | none => False) := h
        rw [hv] at h
        obtain ⟨hb1, h⟩ := boolW_t h
        have hb1 := Nat.le_of_ble_eq_true hb1
        exact s_loadI F hmore hb1 hd hg (hk _ _ _ h hls (okV_cons (v := .inl x) trivial hst) H locs lsA hH hS hloc)
      | inr r =>
        have h : (match getL ls a with | some (.inl x) => boolW (Nat.ble b 1) (k es ls (.inl x :: st) z) | some (.inr r) => boolW (Nat.ble 2 b) (k es ls (.inr r :: st) z) | none => False) := h
        rw [hv] at h
        obtain ⟨hb1, h⟩ := boolW_t h
        have hb1 := Nat.le_of_ble_eq_true hb1
        exact s_loadR F hmore hb1 hd hg (hk _ _ _ h hls (okV_cons (okV_getL hls hv) hst) H locs lsA hH hS hloc)
  | 3, hdec, hmore, hk, h =>
    have hd := hdec.resolve_left (by decide)
    have hmore : (decide (a < nL) && idxOk b a) = true := hmore
    rw [Bool.and_eq_true] at hmore
    have ha : a < nL := of_decide_eq_true hmore.1
    have hmore := hmore.2
    cases st with
    | nil => exact (h : False).elim
    | cons v st => cases v with
      | inl x =>
        obtain ⟨hb1, h⟩ := boolW_t h
        rw [Bool.and_eq_true] at hb1
        have hlen := Nat.le_of_ble_eq_true hb1.2
        have hb1 := Nat.le_of_ble_eq_true hb1.1
        exact s_storeI F ha hlen hloc hmore hb1 hd (fun lsB hB => hk _ _ _ h (setL_ok (v := .inl x) hls trivial a) (okV_tail hst) H locs lsB hH hS hB)
      | inr r =>
        obtain ⟨hb1, h⟩ := boolW_t h
        rw [Bool.and_eq_true] at hb1
        have hlen := Nat.le_of_ble_eq_true hb1.2
        have hb1 := Nat.le_of_ble_eq_true hb1.1
        exact s_storeR F ha hlen hloc hmore hb1 hd (fun lsB hB => hk _ _ _ h (setL_ok hls (okV_head hst) a) (okV_tail hst) H locs lsB hH hS hB)
  | 4, hdec, hmore, hk, h =>
    have hd := hdec.resolve_left (by decide)
    cases st with
    | nil => exact (h : False).elim
    | cons v1 st => cases v1 with
      | inr r => exact (h : False).elim
      | inl y => cases st with
        | nil => exact (h : False).elim
        | cons v2 st => cases v2 with
          | inr r => exact (h : False).elim
          | inl x =>
            have h : binW a x y (fun v => k es ls (.inl v :: st) z) := h
            refine s_bin (k := fun v => k es ls (.inl v :: st) z) F hd h (fun v hv => ?_)
            exact hk _ _ _ hv hls (okV_cons trivial (okV_tail (okV_tail hst))) H locs lsA hH hS hloc
  | 5, hdec, hmore, hk, h =>
    have hd := hdec.resolve_left (by decide)
    have ha : a < nL := of_decide_eq_true hmore
    have h : (match getL ls a with | some (.inl x) => k es (setL ls a (.inl (x + c0))) st z | _ => False) := h
    cases hv : getL ls a with
    | none => rw [hv] at h; exact h.elim
    | some v => cases v with
      | inr r => rw [hv] at h; exact h.elim
      | inl x =>
        rw [hv] at h
        have hlen : a < ls.length := by
          rw [getL_eq] at hv
          exact (List.getElem?_eq_some_iff.mp hv).1
        have hmem : (a, Value.int x) ∈ enumL 0 (ls.map (trv ad)) := mem_enumL.mpr ⟨Nat.zero_le _, by rw [getL_eq] at hv; simp [hv, trv]⟩
        obtain ⟨kx, hkx⟩ := List.getElem?_of_mem hmem
        refine lv_iinc hx hb hd hloc.1 hkx (by rw [Int32_ofInt_toInt]) ha rfl (fun lsB hB => ?_)
        exact hk _ _ _ h (setL_ok (v := .inl (x + c0)) hls trivial a) hst H locs lsB hH hS (loc_set hloc ha (by omega) (.inl (x + c0)) rfl hB)
  | 6, hdec, hmore, hk, h =>
    have hd := hdec.resolve_left (by decide)
    cases st with
    | nil => exact (h : False).elim
    | cons v1 st => cases v1 with
      | inr r => exact (h : False).elim
      | inl x => exact s_if F (of_decide_eq_true hmore) hd (fun q => hk _ _ _ (h.1 q) hls (okV_tail hst) H locs lsA hH hS hloc) (fun q => hj _ _ _ _ (h.2 q) hls (okV_tail hst) H locs lsA hH hS hloc)
  | 7, hdec, hmore, hk, h =>
    have hd := hdec.resolve_left (by decide)
    cases st with
    | nil => exact (h : False).elim
    | cons v1 st => cases v1 with
      | inr r => exact (h : False).elim
      | inl y => cases st with
        | nil => exact (h : False).elim
        | cons v2 st => cases v2 with
          | inr r => exact (h : False).elim
          | inl x => exact s_icmp F (of_decide_eq_true hmore) hd (fun q => hk _ _ _ (h.1 q) hls (okV_tail (okV_tail hst)) H locs lsA hH hS hloc) (fun q => hj _ _ _ _ (h.2 q) hls (okV_tail (okV_tail hst)) H locs lsA hH hS hloc)
  | 8, hdec, hmore, hk, h =>
    have hd := hdec.resolve_left (by decide)
    exact lv_goto hx hb hd int_tgt (hj _ _ _ _ h hls hst H locs lsA hH hS hloc)
  | 9, hdec, hmore, hk, h =>
    have hd := hdec.resolve_left (by decide)
    have hfl : (o, a, b, d) ∈ flT := of_decide_eq_true hmore
    have hb11 := (flT_lt _ hfl).1
    cases st with
    | nil => exact (h : False).elim
    | cons v1 st => cases v1 with
      | inl r => exact (h : False).elim
      | inr r =>
        obtain ⟨q, i⟩ := r
        have h' := boolW_t h; clear h; obtain ⟨hq, hz⟩ := h'
        have hq := Nat.eq_of_beq_eq_true hq
        subst hq
        have hi : i < cntK q := okR_obj (okV_head hst) (Nat.lt_trans hb11 (by decide))
        exact s_get F hfl hi hH hd (hk _ _ _ hz hls (okV_cons (okV_fv hi) (okV_tail hst)) H locs lsA hH hS hloc)
  | 10, hdec, hmore, hk, h =>
    have hd := hdec.resolve_left (by decide)
    have hfl : (o, a, b, d) ∈ flT := of_decide_eq_true hmore
    have hb11 := (flT_lt _ hfl).1
    cases st with
    | nil => exact (h : False).elim
    | cons v1 st => cases v1 with
      | inr r => exact (h : False).elim
      | inl x => cases st with
        | nil => exact (h : False).elim
        | cons v2 st => cases v2 with
          | inl r => exact (h : False).elim
          | inr r =>
            obtain ⟨q, i⟩ := r
            have h' := boolW_t h; clear h; obtain ⟨hq, hz⟩ := h'
            have hq := Nat.eq_of_beq_eq_true hq
            subst hq
            have hi : i < cntK q := okR_obj (okV_head (okV_tail hst)) (Nat.lt_trans hb11 (by decide))
            have h : (match lk q d i with | none => (match Nat.beq q 2 && Nat.beq d 5 with | true => (x = 0 ∨ x = 1) ∧ k es ls st (putV z q i d x) | false => k es ls st (putV z q i d x)) | some _ => False) := hz
            cases hl : lk q d i with
            | some r => rw [hl] at h; exact h.elim
            | none =>
              rw [hl] at h
              have h : (match Nat.beq q 2 && Nat.beq d 5 with | true => (x = 0 ∨ x = 1) ∧ k es ls st (putV z q i d x) | false => k es ls st (putV z q i d x)) := h
              cases hbb : Nat.beq q 2 && Nat.beq d 5 with
              | true =>
                rw [hbb] at h
                exact s_put F hfl hi hl (fun _ => h.1) hH hS hd (fun H1 locs1 hH1 hS1 => hk _ _ _ h.2 hls (okV_tail (okV_tail hst)) H1 locs1 lsA hH1 hS1 hloc)
              | false =>
                rw [hbb] at h
                exact s_put F hfl hi hl (fun hc => by rw [hc.1, hc.2] at hbb; cases hbb) hH hS hd (fun H1 locs1 hH1 hS1 => hk _ _ _ h hls (okV_tail (okV_tail hst)) H1 locs1 lsA hH1 hS1 hloc)
  | 11, hdec, hmore, hk, h =>
    have hd := hdec.resolve_left (by decide)
    cases st with
    | nil => exact (h : False).elim
    | cons v1 st => cases v1 with
      | inr r => exact (h : False).elim
      | inl i => cases st with
        | nil => exact (h : False).elim
        | cons v2 st => cases v2 with
          | inl r => exact (h : False).elim
          | inr r =>
            obtain ⟨q, n⟩ := r
            have hst2 := okV_tail (okV_tail hst)
            have hqn := okV_head (okV_tail hst)
            have h : (match Nat.beq q 24 with
              | true => boolW (Nat.beq a 0) (inA i L ∧ k es ls (.inl (xs i.toNatClampNeg) :: st) z)
              | false => (match akind q with
                | 0 => boolW (Nat.beq a 0) (inA i (alen q) ∧ k es ls (.inl (z.1 q n i.toNatClampNeg) :: st) z)
                | 1 => boolW (Nat.beq a 1) (inA i (alen q) ∧ k es ls (.inl (z.1 q n i.toNatClampNeg) :: st) z)
                | 2 => boolW (Nat.beq a 1) (inA i (alen q) ∧ k es ls (.inl (z.1 q n i.toNatClampNeg) :: st) z)
                | 3 => boolW (Nat.beq a 2) (inA i (alen q) ∧ k es ls (.inr (el z.2 q n i.toNatClampNeg) :: st) z)
                | _ => False)) := h
            cases hq : Nat.beq q 24 with
            | true =>
              rw [hq] at h
              have h' := boolW_t h; clear h; obtain ⟨ha, hin, hz⟩ := h'
              have ha := Nat.eq_of_beq_eq_true ha
              have hq := Nat.eq_of_beq_eq_true hq
              subst ha; subst hq
              have hn : n = 0 := by
                rcases hqn with h9 | h9
                · exact absurd h9 (Nat.not_lt_zero n)
                · exact congrArg Prod.snd h9
              subst hn
              exact s_sld F hin hS hd (hk _ _ _ hz hls (okV_cons (v := .inl _) trivial hst2) H locs lsA hH hS hloc)
            | false =>
              rw [hq] at h
              have hq24 : q ≠ 24 := fun e => by rw [e] at hq; cases hq
              have hcnt : n < cntK q := by
                rcases hqn with h9 | h9
                · exact h9
                · exact absurd (congrArg Prod.fst h9) hq24
              have h : (match akind q with
                | 0 => boolW (Nat.beq a 0) (inA i (alen q) ∧ k es ls (.inl (z.1 q n i.toNatClampNeg) :: st) z)
                | 1 => boolW (Nat.beq a 1) (inA i (alen q) ∧ k es ls (.inl (z.1 q n i.toNatClampNeg) :: st) z)
                | 2 => boolW (Nat.beq a 1) (inA i (alen q) ∧ k es ls (.inl (z.1 q n i.toNatClampNeg) :: st) z)
                | 3 => boolW (Nat.beq a 2) (inA i (alen q) ∧ k es ls (.inr (el z.2 q n i.toNatClampNeg) :: st) z)
                | _ => False) := h
              match hak : akind q, h with
              | 0, h =>
                have h' := boolW_t h; clear h; obtain ⟨ha, hin, hz⟩ := h'
                have ha := Nat.eq_of_beq_eq_true ha
                subst ha
                exact s_ild F hcnt hak hin hH hd (hk _ _ _ hz hls (okV_cons (v := .inl _) trivial hst2) H locs lsA hH hS hloc)
              | 1, h =>
                have h' := boolW_t h; clear h; obtain ⟨ha, hin, hz⟩ := h'
                have ha := Nat.eq_of_beq_eq_true ha
                subst ha
                exact s_zld F hcnt hak hin hH hd (hk _ _ _ hz hls (okV_cons (v := .inl _) trivial hst2) H locs lsA hH hS hloc)
              | 2, h =>
                have h' := boolW_t h; clear h; obtain ⟨ha, hin, hz⟩ := h'
                have ha := Nat.eq_of_beq_eq_true ha
                subst ha
                exact s_bld F hcnt hak hin hH hd (hk _ _ _ hz hls (okV_cons (v := .inl _) trivial hst2) H locs lsA hH hS hloc)
              | 3, h =>
                have h' := boolW_t h; clear h; obtain ⟨ha, hin, hz⟩ := h'
                have ha := Nat.eq_of_beq_eq_true ha
                subst ha
                exact s_qld F hcnt hak hin hH hd (hk _ _ _ hz hls (okV_cons (okR_el hH.2 hcnt hak (inA_lt hin)) hst2) H locs lsA hH hS hloc)
              | w + 4, h => exact (h : False).elim
  | 12, hdec, hmore, hk, h =>
    have hd := hdec.resolve_left (by decide)
    cases st with
    | nil => exact (h : False).elim
    | cons v0 st => cases st with
      | nil => cases v0 <;> exact (h : False).elim
      | cons v1 st => cases v1 with
        | inr r => cases v0 <;> exact (h : False).elim
        | inl i => cases st with
          | nil => cases v0 <;> exact (h : False).elim
          | cons v2 st => cases v2 with
            | inl r => cases v0 <;> exact (h : False).elim
            | inr r =>
              obtain ⟨q, n⟩ := r
              have hst2 := okV_tail (okV_tail (okV_tail hst))
              have hqn := okV_head (okV_tail (okV_tail hst))
              have hqn2 : q ≠ 24 → n < cntK q := fun hq24 => by
                rcases hqn with h9 | h9
                · exact h9
                · exact absurd (congrArg Prod.fst h9) hq24
              cases v0 with
              | inr w =>
                obtain ⟨w, y⟩ := w
                have h' := boolW_t h; clear h; obtain ⟨hb1, hin, hz⟩ := h'
                rw [Bool.and_eq_true, Bool.and_eq_true] at hb1
                have e1 := Nat.eq_of_beq_eq_true hb1.1
                have e2 := Nat.eq_of_beq_eq_true hb1.2.1
                have e3 := Nat.eq_of_beq_eq_true hb1.2.2
                subst e1; subst e2; subst e3
                have hy : y < 200 := okR_obj (okV_head hst) (by decide)
                exact s_qst F (hqn2 (by decide)) hy hin hH hS hd (fun H1 locs1 hH1 hS1 => hk _ _ _ hz hls hst2 H1 locs1 lsA hH1 hS1 hloc)
              | inl x =>
                have h : (match akind q with
                  | 0 => boolW (Nat.beq a 0) (inA i (alen q) ∧ k es ls st (putV z q n i.toNatClampNeg x))
                  | 1 => boolW (Nat.beq a 1) (inA i (alen q) ∧ (x = 0 ∨ x = 1) ∧ k es ls st (putV z q n i.toNatClampNeg x))
                  | 2 => boolW (Nat.beq a 1) (inA i (alen q) ∧ x.toInt8.toInt32 = x ∧ k es ls st (putV z q n i.toNatClampNeg x))
                  | _ => False) := h
                match hak : akind q, h with
                | 0, h =>
                  have h' := boolW_t h; clear h; obtain ⟨ha, hin, hz⟩ := h'
                  have ha := Nat.eq_of_beq_eq_true ha
                  subst ha
                  exact s_ist F (hqn2 (fun e => by rw [e] at hak; cases hak)) hak hin hH hS hd (fun H1 locs1 hH1 hS1 => hk _ _ _ hz hls hst2 H1 locs1 lsA hH1 hS1 hloc)
                | 1, h =>
                  have h' := boolW_t h; clear h; obtain ⟨ha, hin, hv, hz⟩ := h'
                  have ha := Nat.eq_of_beq_eq_true ha
                  subst ha
                  exact s_zst F (hqn2 (fun e => by rw [e] at hak; cases hak)) hak hin hv hH hS hd (fun H1 locs1 hH1 hS1 => hk _ _ _ hz hls hst2 H1 locs1 lsA hH1 hS1 hloc)
                | 2, h =>
                  have h' := boolW_t h; clear h; obtain ⟨ha, hin, hv, hz⟩ := h'
                  have ha := Nat.eq_of_beq_eq_true ha
                  subst ha
                  exact s_bst F (hqn2 (fun e => by rw [e] at hak; cases hak)) hak hin hv hH hS hd (fun H1 locs1 hH1 hS1 => hk _ _ _ hz hls hst2 H1 locs1 lsA hH1 hS1 hloc)
                | w + 3, h => exact (h : False).elim
  | 13, hdec, hmore, hk, h =>
    have hd := hdec.resolve_left (by decide)
    have hmore : (decide ((o, a, b, (if d = 2 then 1 else 0)) ∈ mlT) && (decide (cs = [((mRow b).2.2.2.2.2.1, (mRow b).2.2.2.2.1)]) && (decide ((mRow b).2.2.2.2.2.2 = decide (¬ d = 0)) && decide (b ∉ initL)))) = true := hmore
    rw [Bool.and_eq_true, Bool.and_eq_true, Bool.and_eq_true] at hmore
    have hml := of_decide_eq_true hmore.1
    have hcs1 := of_decide_eq_true hmore.2.1
    have hsta := of_decide_eq_true hmore.2.2.1
    have hni := of_decide_eq_true hmore.2.2.2
    have hd' : decode cc pc = .ok (if d = 0 then Instr.invokevirtual a else Instr.invokestatic a, 3) := by
      match d, hd with
      | 0, hd => exact hd
      | n + 1, hd => exact hd
    have hnx : nextPc (pc, (13, a, b, d), c0, cs) = pc + 3 := by
      match d with
      | 0 => rfl
      | n + 1 => rfl
    obtain ⟨as, st', e2, e3, hlen, hc, hrv⟩ := inv_split (call := call) (b := b) (d := d) (st := st) (z := z) (kk := fun st s => k es ls st s) h hcs1
    have hokt : ∀ v ∈ as, okV v := fun v hv => hst v (by rw [e2]; exact List.mem_append_left _ (List.mem_reverse.mpr hv))
    have hoks : ∀ v ∈ st', okV v := fun v hv => hst v (by rw [e2]; exact List.mem_append_right _ hv)
    obtain ⟨f, hf1, hf2, hM⟩ := hcall b as z _ hc hokt e3 (mlT_lt _ hml)
    rw [e2]
    refine s_call F hml hni hsta e3 (fun e => ?_) hM hf1 hf2 hcs hlen hH hS hsz hd' (fun r z' H1 locs1 hq hH1 hS1 => ?_)
    · obtain ⟨i, as', e4⟩ := hrv e
      have h11 := virt_lt 0 hml (by rw [hsta, e])
      refine ⟨i, as', e4, h11, ?_⟩
      rw [e4] at hokt
      exact okR_obj (okV_head hokt) (Nat.lt_trans h11 (by decide))
    · rw [← hnx]
      cases r with
      | none => exact hk _ _ _ hq hls hoks H1 locs1 lsA hH1 hS1 hloc
      | some x => exact hk _ _ _ hq hls (okV_cons (v := .inl x) trivial hoks) H1 locs1 lsA hH1 hS1 hloc
  | 14, hdec, hmore, hk, h =>
    have hd := hdec.resolve_left (by decide)
    match a, hd, h with
    | 0, hd, h =>
      cases st with
      | nil => exact (h : False).elim
      | cons v st => cases v with
        | inr r => cases st <;> exact (h : False).elim
        | inl x => cases st with
          | cons v2 st => exact (h : False).elim
          | nil => exact hR0 _ _ _ _ _ _ h hH hS hd
    | n + 1, hd, h =>
      cases st with
      | cons v2 st => exact (h : False).elim
      | nil =>
        obtain ⟨hr, h⟩ := boolW_t h
        exact hR1 _ _ _ _ _ (Nat.eq_of_beq_eq_true hr) h hH hS hd
  | 15, hdec, hmore, hk, h =>
    have hd := hdec.resolve_left (by decide)
    cases st with
    | nil => exact (h : False).elim
    | cons v st => exact lv_dup hx hb hd (trv_cat ad v) (hk _ _ _ h hls (okV_cons (okV_head hst) hst) H locs lsA hH hS hloc)
  | 16, hdec, hmore, hk, h =>
    have hd := hdec.resolve_left (by decide)
    cases st with
    | nil => exact (h : False).elim
    | cons v st => cases st with
      | nil => exact (h : False).elim
      | cons w st => exact lv_dup2_11 hx hb hd (trv_cat ad v) (trv_cat ad w) (hk _ _ _ h hls (okV_cons (okV_head hst) (okV_cons (okV_head (okV_tail hst)) hst)) H locs lsA hH hS hloc)
  | 17, hdec, hmore, hk, h =>
    have hd := hdec.resolve_left (by decide)
    cases st with
    | nil => exact (h : False).elim
    | cons v st => cases v with
      | inr r => exact (h : False).elim
      | inl x => exact lv_i2b hx hb hd rfl (hk _ _ _ h hls (okV_cons trivial (okV_tail hst)) H locs lsA hH hS hloc)
  | 18, hdec, hmore, hk, h =>
    have hd := hdec.resolve_left (by decide)
    cases st with
    | nil => exact (h : False).elim
    | cons v st => cases v with
      | inr r => exact (h : False).elim
      | inl x => exact s_switch (k := fun t => j t ls st z) F hmore hd h (fun t ht => hj _ _ _ _ ht hls (okV_tail hst) H locs lsA hH hS hloc)
  | 19, hdec, hmore, hk, h =>
    have hd := hdec.resolve_left (by decide)
    cases st with
    | nil => exact (h : False).elim
    | cons v st => cases v with
      | inl r => exact (h : False).elim
      | inr r =>
        obtain ⟨q, n⟩ := r
        have h' := boolW_t h; clear h; obtain ⟨hq, hz⟩ := h'
        have hq := Nat.eq_of_beq_eq_true hq
        subst hq
        have hn : n = 0 := by
          rcases okV_head hst with h9 | h9
          · exact absurd h9 (Nat.not_lt_zero n)
          · exact congrArg Prod.snd h9
        subst hn
        exact s_slen F hS hd (hk _ _ _ hz hls (okV_cons trivial (okV_tail hst)) H locs lsA hH hS hloc)
  | 20, hdec, hmore, hk, h =>
    have hd := hdec.resolve_left (by decide)
    have ho : (o, a) = (7, 22) := of_decide_eq_true hmore
    have ho1 : o = 7 := congrArg Prod.fst ho
    have ho2 : a = 22 := congrArg Prod.snd ho
    subst ho1; subst ho2
    cases st with
    | nil => exact (h : False).elim
    | cons v1 st => cases v1 with
      | inr r => exact (h : False).elim
      | inl y => cases st with
        | nil => exact (h : False).elim
        | cons v2 st => cases v2 with
          | inr r => exact (h : False).elim
          | inl x =>
            obtain ⟨hlen, h⟩ := boolW_t h
            have hlen := Nat.le_of_ble_eq_true hlen
            exact va_mmin hx hb (by rw [hmlc, hsz]) hown (hT.use mmin_ok.1) (hT.use mmin_ok.2.1) (hT.use mmin_ok.2.2.1) (hT.use mmin_ok.2.2.2) hmin.1 (by rw [cat_sum]; have := hmin.2; omega) hcs.1 hcs.2 hd (hk _ _ _ h hls (okV_cons trivial (okV_tail (okV_tail hst))) H locs lsA hH hS hloc)
  | n + 21, _, _, _, h => exact (h : False).elim
end SM
end
section
/-! stretches, bodies, methods -/
theorem fromPc_spec : ∀ (code : List Ent) (t : Nat), (∃ pre, code = pre ++ fromPc code t) ∧ ∀ e ∈ (fromPc code t).head?, e.1 = t
  | [], t => ⟨⟨[], rfl⟩, fun e h => by cases h⟩
  | e :: es, t => by
    show (∃ pre, e :: es = pre ++ (match Nat.beq e.1 t with | true => e :: es | false => fromPc es t)) ∧ ∀ e' ∈ (match Nat.beq e.1 t with | true => e :: es | false => fromPc es t).head?, e'.1 = t
    cases h : Nat.beq e.1 t with
    | true =>
      refine ⟨⟨[], rfl⟩, fun e' he => ?_⟩
      have : e' = e := by
        simp only [List.head?_cons, Option.mem_def, Option.some.injEq] at he
        exact he.symm
      rw [this]
      exact Nat.eq_of_beq_eq_true h
    | false =>
      obtain ⟨⟨pre, h1⟩, h2⟩ := fromPc_spec es t
      refine ⟨⟨e :: pre, ?_⟩, h2⟩
      rw [List.cons_append]
      exact congrArg (e :: ·) h1
theorem chain_suf : ∀ {pre : List Ent} {e f : Ent} {es : List Ent}, chainOk (pre ++ e :: f :: es) = true → f.1 = nextPc e
  | [], e, f, es, h => by
    have h : ((f.1 == nextPc e) && chainOk (f :: es)) = true := h
    rw [Bool.and_eq_true] at h
    exact of_decide_eq_true (by simpa using h.1)
  | [g], e, f, es, h => by
    have h : ((e.1 == nextPc g) && chainOk (e :: f :: es)) = true := h
    rw [Bool.and_eq_true] at h
    exact chain_suf (pre := []) h.2
  | g :: g2 :: pre, e, f, es, h => by
    have h : ((g2.1 == nextPc g) && chainOk (g2 :: (pre ++ e :: f :: es))) = true := h
    rw [Bool.and_eq_true] at h
    exact chain_suf (pre := g2 :: pre) h.2
theorem behind_spec {code es : List Ent} {t : Nat} (hc : chainOk code = true) (hs : ∃ pre, code = pre ++ es) (hh : ∀ e ∈ es.head?, e.1 = t) : (∃ pre, code = pre ++ behind es) ∧ ∀ e ∈ (behind es).head?, e.1 = t := by
  match es, hs, hh with
  | [], hs, hh => exact ⟨hs, hh⟩
  | (pc, (0, a), c) :: es, ⟨pre, hp⟩, hh =>
    refine ⟨⟨pre ++ [(pc, (0, a), c)], by rw [hp]; simp [behind]⟩, fun e he => ?_⟩
    have hpc : pc = t := hh _ rfl
    match es, he, hp with
    | f :: es, he, hp =>
      have : e = f := by
        simp only [behind, List.head?_cons, Option.mem_def, Option.some.injEq] at he
        exact he.symm
      rw [this]
      rw [hp] at hc
      have := chain_suf hc
      rw [this, ← hpc]
      rfl
  | (pc, (n + 1, a), c) :: es, hs, hh => exact ⟨hs, hh⟩
theorem lv_args_enum : ∀ (vs : List Value) (k : Nat), (∀ v ∈ vs, v.category = 1) → lv_args k vs = enumL k vs
  | [], k, _ => rfl
  | v :: vs, k, h => by
    have h1 : v.category = 1 := h v List.mem_cons_self
    show (k, v) :: lv_args (if v.category = 2 then k + 2 else k + 1) vs = (k, v) :: enumL (k + 1) vs
    rw [if_neg (by rw [h1]; decide), lv_args_enum vs (k + 1) (fun w hw => h w (List.mem_cons_of_mem _ hw))]
theorem lg_sl_len : ∀ (vs : List Value), (∀ v ∈ vs, v.category = 1) → (lg_sl vs).length = vs.length
  | [], _ => rfl
  | v :: vs, h => by
    have h1 : v.category = 1 := h v List.mem_cons_self
    have ih := lg_sl_len vs (fun w hw => h w (List.mem_cons_of_mem _ hw))
    unfold lg_sl at ih ⊢
    rw [List.flatMap_cons, List.length_append, ih, if_neg (by rw [h1]; decide)]
    simp only [List.length_cons, List.length_nil]
    omega
theorem trv_cats (ad : Nat × Nat → Nat) (as : List MV) : ∀ v ∈ as.map (trv ad), v.category = 1 := fun v hv => by
  obtain ⟨w, -, rfl⟩ := List.mem_map.mp hv
  exact trv_cat ad w
section SN
variable {p : Program} {l : Launch} {e : Env} {R : Room} {s : State} {m : MethodId} {args : Array Value} {below : List Frame} {meth : Method} {c : Code} {cells slots : Nat} {QM : State → Prop}
variable {D : va_G} {cA : Nat → ClassId} {ad : Nat × Nat → Nat} {A : Nat → Prop} {L : Nat} {xs : Nat → Int32} {cc : ByteArray} {o nL : Nat}
theorem wp_sound (F : FrOk p s m args meth c D cA ad A L xs cc o nL) {call : Nat → List MV → St → (Option MV → St → Prop) → Prop} {ret : Nat} {Q : Option MV → St → Prop} {X : Nat → List MV → List MV → St → Prop}
    (hcall : ∀ b as z Q', call b as z Q' → (∀ v ∈ as, okV v) → as.length = (mRow b).2.2.2.2.2.1 → b < 123 → ∃ f, f + 1 ≤ R.frames ∧ 38 * f + 38 ≤ R.locals ∧ MetC l D cA ad A L xs f b as z Q')
    (hR0 : ∀ v z H locs lsA pc, retW ret v (Q (some (.inl v)) z) → Hp D cA ad z H → va_S A s.heap H locs → decode cc pc = .ok (.ireturn, 1) → W p l e R s m args below meth c H locs cells slots QM (F0 m pc lsA [.int v]))
    (hR1 : ∀ z H locs lsA pc, ret = 2 → Q none z → Hp D cA ad z H → va_S A s.heap H locs → decode cc pc = .ok (.return_, 1) → W p l e R s m args below meth c H locs cells slots QM (F0 m pc lsA []))
    (hmin : 1 ≤ R.frames ∧ 21 ≤ R.locals)
    (hXX : ∀ pc ls st z, X pc ls st z → XwP p l e R s m args below meth c cells slots QM D cA ad A nL pc ls st z) (hcs : cells ≤ R.cells ∧ slots ≤ R.slots)
    {code : List Ent} (hall : code.all (entOk o nL cc) = true) (hch : chainOk code = true) :
    ∀ (n : Nat) (es : List Ent), (∃ pre, code = pre ++ es) → ∀ (ls st : List MV) (z : St), wp call L xs ret Q X code n es ls st z → ∀ pc, (∀ e ∈ es.head?, e.1 = pc) → XwP p l e R s m args below meth c cells slots QM D cA ad A nL pc ls st z := by
  intro n
  induction n with
  | zero => intro es _ ls st z h; exact (h : False).elim
  | succ n ih =>
    intro es hs ls st z h pc hpc
    have h : stepW call L xs ret Q X (wp call L xs ret Q X code n) (fun t ls st s => wp call L xs ret Q X code n (fromPc code t) ls st s) es ls st z := h
    match es, hs, hpc, h with
    | [], _, _, h => exact (h : False).elim
    | (pc0, (op, a, b, d), c0, cs) :: es, ⟨pre, hp⟩, hpc, h =>
      have e1 : pc0 = pc := hpc _ rfl
      subst e1
      refine step_sound F hcall hR0 hR1 hmin hXX hcs pc0 op a b d c0 cs es ls st z ?_ (fun ls st z hk => ?_) (fun t ls st z hj => ?_) h
      · exact List.all_eq_true.mp hall _ (by rw [hp]; exact List.mem_append_right _ List.mem_cons_self)
      · refine ih es ⟨pre ++ [(pc0, (op, a, b, d), c0, cs)], by rw [hp]; simp⟩ ls st z hk _ (fun f hf => ?_)
        match es, hf, hp with
        | f' :: es, hf, hp =>
          have : f = f' := by
            simp only [List.head?_cons, Option.mem_def, Option.some.injEq] at hf
            exact hf.symm
          rw [this]
          rw [hp] at hch
          exact chain_suf hch
      · obtain ⟨h1, h2⟩ := fromPc_spec code t
        exact ih _ h1 ls st z hj t h2
theorem body_sound (F : FrOk p s m args meth c D cA ad A L xs cc o nL) {call : Nat → List MV → St → (Option MV → St → Prop) → Prop} {ret : Nat} {Q : Option MV → St → Prop}
    (hcall : ∀ b as z Q', call b as z Q' → (∀ v ∈ as, okV v) → as.length = (mRow b).2.2.2.2.2.1 → b < 123 → ∃ f, f + 1 ≤ R.frames ∧ 38 * f + 38 ≤ R.locals ∧ MetC l D cA ad A L xs f b as z Q')
    (hR0 : ∀ v z H locs lsA pc, retW ret v (Q (some (.inl v)) z) → Hp D cA ad z H → va_S A s.heap H locs → decode cc pc = .ok (.ireturn, 1) → W p l e R s m args below meth c H locs cells slots QM (F0 m pc lsA [.int v]))
    (hR1 : ∀ z H locs lsA pc, ret = 2 → Q none z → Hp D cA ad z H → va_S A s.heap H locs → decode cc pc = .ok (.return_, 1) → W p l e R s m args below meth c H locs cells slots QM (F0 m pc lsA []))
    (hmin : 1 ≤ R.frames ∧ 21 ≤ R.locals) (hcs : cells ≤ R.cells ∧ slots ≤ R.slots)
    {code : List Ent} (hall : code.all (entOk o nL cc) = true) (hch : chainOk code = true) {pc : Nat} {ls st : List MV} {z : St} (h : bodyW call L xs ret Q code pc ls st z) :
    XwP p l e R s m args below meth c cells slots QM D cA ad A nL pc ls st z := by
  refine h (XwP p l e R s m args below meth c cells slots QM D cA ad A nL) (fun n pc ls st z hw => ?_)
  obtain ⟨h1, h2⟩ := fromPc_spec code pc
  obtain ⟨h3, h4⟩ := behind_spec hch h1 h2
  exact wp_sound F hcall hR0 hR1 hmin (fun _ _ _ _ q => q) hcs hall hch n _ h3 ls st z hw pc h4
end SN
theorem nargs_le : ∀ r ∈ mTab, r.2.2.2.2.2.1 ≤ r.2.2.1 := by decide +kernel
theorem mRow_mem {m : Nat} (h : m < 128) : mRow m ∈ mTab := by
  have h : m < mTab.length := h
  unfold mRow
  rw [List.getD_eq_getElem?_getD, List.getElem?_eq_getElem h]
  exact List.getElem_mem h
/-- EVERY METHOD of the small machine is one of the machine -/
theorem wpM_sound {l : Launch} {D : va_G} {cA : Nat → ClassId} {ad : Nat × Nat → Nat} {A : Nat → Prop} {L : Nat} {xs : Nat → Int32} (hA : adOk ad A) (hbA : ¬ A (ad (24, 0))) :
    ∀ (f b : Nat) (as : List MV) (z : St) (Q : Option MV → St → Prop), wpM L xs codT retT f b as z Q → (∀ v ∈ as, okV v) → as.length = (mRow b).2.2.2.2.2.1 → b < 123 → MetC l D cA ad A L xs f b as z Q := by
  intro f
  induction f with
  | zero => intro b as z Q h; exact (h : False).elim
  | succ f ih =>
    intro b as z Q h hok hlen hb123
    obtain ⟨k1, k2, k3, k4, k5, k6⟩ := mh_all _ (mRow_mem (m := b) (by omega))
    obtain ⟨d1, d2, d3, -⟩ := md_all b hb123
    have hnl := nargs_le _ (mRow_mem (m := b) (by omega))
    refine va_MetF (cc := (mRow b).2.1) (maxL := (mRow b).2.2.1) (ret := (mRow b).2.2.2.1) k3 rfl ?_
    intro p e s m args below meth c s₁ B hml hv
    obtain ⟨rfl, hH, hK, hT, hX⟩ := hv
    have hx := B.exec
    have hbt := B.bytes
    have hr := B.returns
    have hlocks := B.notSynchronized
    have hown : s.vm.findClass (cnm (mRow b).2.2.2.2.1) = some m.cls := by rw [k4]; exact findClass_of_methodNamed B.named
    have hbl : ad (24, 0) < s.heap.size := by
      obtain ⟨scr, h1, -⟩ := hX
      exact (Array.getElem?_eq_some_iff.mp h1).1
    have F : FrOk p s m (as.map (trv ad)).toArray meth c D cA ad A L xs (mRow b).2.1 (mRow b).2.2.2.2.1 (mRow b).2.2.1 := ⟨hx, hbt, hml, hown, hlocks, hT, hK, hA, hX, hbl, hbA⟩
    have hcat := trv_cats ad as
    have hll : (lg_sl (as.map (trv ad))).length ≤ (mRow b).2.2.1 := by rw [lg_sl_len _ hcat, List.length_map]; omega
    have hl := lv_entry (as.map (trv ad)) (n := (mRow b).2.2.1) hll
    rw [lv_args_enum _ _ hcat] at hl
    rw [lg_entry_eq]
    have hbody := h (wpM L xs codT retT f) (fun _ _ _ _ q => q)
    refine body_sound (cells := 0) (slots := 0) (QM := MQ below (QcM D cA ad A L xs Q) (as.map (trv ad)).toArray s 0 0 A) F (fun b' as' z' Q' hc hok' hlen' hb' => ?_) (fun v z' H locs lsA pc hret hH' hS' hd => ?_) (fun z' H locs lsA pc hret hq hH' hS' hd => ?_) ⟨?_, ?_⟩ ⟨Nat.le_refl _, Nat.le_refl _⟩ d1 d2 hbody hok (fun v hv => by cases hv) s.heap [] _ hH va_S.rf ⟨hl, by omega⟩
    · refine ⟨f, Nat.le_refl _, ?_, ih b' as' z' Q' hc hok' hlen' hb'⟩
      show 38 * f + 38 ≤ 38 * (f + 1)
      omega
    · have hq : ∀ t : State, t.heap = H → s.WarmedH t.vm → Q (some (.inl v)) z' → QcM D cA ad A L xs Q (as.map (trv ad)).toArray s (.returned (some (.int v))) t := fun t ht hW hq => ⟨⟨some v, z', rfl, hq, rep_at F hH' hS' t ht hW⟩, hS'.F ht⟩
      rw [← d3] at hret
      match hrt : (mRow b).2.2.2.1, hret with
      | some .int, hret => exact W.iret hx hbt (hr.trans hrt) (fun t ht hW => hq t ht hW hret) hS'.2.2 hd
      | some .boolean, hret => exact W.zret hx hbt (hr.trans hrt) (by rcases hret.1 with q | q <;> rw [q] <;> rfl) (fun t ht hW => hq t ht hW hret.2) hS'.2.2 hd
      | none, hret => exact (hret : False).elim
      | some .byte, hret => exact (hret : False).elim
      | some .char, hret => exact (hret : False).elim
      | some .short, hret => exact (hret : False).elim
      | some .long, hret => exact (hret : False).elim
      | some .float, hret => exact (hret : False).elim
      | some .double, hret => exact (hret : False).elim
      | some (.object _), hret => exact (hret : False).elim
      | some (.array _), hret => exact (hret : False).elim
    · rw [← d3] at hret
      match hrt : (mRow b).2.2.2.1, hret with
      | none, _ => exact W.vret hx hbt (hr.trans hrt) (fun t ht hW => ⟨⟨none, z', rfl, hq, rep_at F hH' hS' t ht hW⟩, hS'.F ht⟩) hS'.2.2 hd
      | some t, hret => exact absurd hret (by cases t <;> (intro q; cases q))
    · show 1 ≤ f + 1
      omega
    · show 21 ≤ 38 * (f + 1)
      omega
end
section
/-! words for the methods -/
def bI (b : Prop) [Decidable b] : Int32 := if b then nI 1 else nI 0
theorem bI_1 {b : Prop} [Decidable b] {Q : Option MV → St → Prop} {s : St} (h : Q (some (.inl (bI b))) s) (hb : b) : Q (some (.inl (nI 1))) s := by
  have e : bI b = nI 1 := if_pos hb
  rwa [e] at h
theorem bI_0 {b : Prop} [Decidable b] {Q : Option MV → St → Prop} {s : St} (h : Q (some (.inl (bI b))) s) (hb : ¬ b) : Q (some (.inl (nI 0))) s := by
  have e : bI b = nI 0 := if_neg hb
  rwa [e] at h
theorem bI_eq0 {b : Prop} [Decidable b] : bI b = 0 ↔ ¬ b := by
  unfold bI
  split
  · exact ⟨fun h => absurd h (by decide), fun h => absurd ‹b› h⟩
  · exact ⟨fun _ => ‹¬ b›, fun _ => rfl⟩
theorem bI_01 (b : Prop) [Decidable b] : bI b = 0 ∨ bI b = 1 := by
  unfold bI
  split
  · exact Or.inr rfl
  · exact Or.inl rfl
theorem nI_toI {n : Nat} (h : n < 2147483648) : (nI n).toInt = (n : Int) := nI_toInt h

theorem nI_mul (a b : Nat) : nI a * nI b = nI (a * b) := (Int32.ofNat_mul a b).symm
theorem nI_inj {a b : Nat} (ha : a < 2147483648) (hb : b < 2147483648) : nI a = nI b ↔ a = b :=
  ⟨fun h => by have := congrArg Int32.toInt h; rw [nI_toI ha, nI_toI hb] at this; omega, fun h => by rw [h]⟩
theorem nI_cl {n : Nat} (h : n < 2147483648) : (nI n).toNatClampNeg = n := nI_clamp h
theorem nI_ex {x : Int32} (h : 0 ≤ x.toInt) : ∃ n : Nat, x = nI n ∧ (n : Int) = x.toInt ∧ n < 2147483648 := by
  have h2 : x.toInt < 2147483648 := x.toInt_lt
  refine ⟨x.toInt.toNat, ?_, by omega, by omega⟩
  apply Int32.toInt_inj.mp
  rw [nI_toI (by omega)]
  omega
theorem nI_subI {a b : Nat} (ha : a < 1073741824) (hb : b < 1073741824) : (nI a - nI b).toInt = (a : Int) - (b : Int) := by
  rw [Int32.toInt_sub, nI_toI (by omega), nI_toI (by omega)]
  apply Int.bmod_eq_of_le <;> omega
theorem nI_sub {a b : Nat} (ha : a < 1073741824) (hb : b ≤ a) : nI a - nI b = nI (a - b) := by
  apply Int32.toInt_inj.mp
  rw [nI_subI ha (by omega), nI_toI (by omega)]
  omega
theorem bI_ne0 {b : Prop} [Decidable b] : ¬ bI b = 0 ↔ b := by rw [bI_eq0]; exact Classical.not_not

theorem nI1_ne : ¬ nI 1 = 0 := by decide
theorem bI_same {a b : Prop} [Decidable a] [Decidable b] (e : a ↔ b) : bI a = bI b := by
  unfold bI
  by_cases h1 : a
  · rw [if_pos h1, if_pos (e.mp h1)]
  · rw [if_neg h1, if_neg (fun q => h1 (e.mpr q))]
theorem nI_m1 {a : Nat} (ha : a < 1073741824) (h : 1 ≤ a) : nI a + -1 = nI (a - 1) := by
  rw [← nI_sub ha h, Int32.sub_eq_add_neg]
  rfl
theorem nI_dec (a : Nat) : nI a + -1 = nI a - nI 1 := by
  rw [Int32.sub_eq_add_neg]
  rfl
end
section
/-! THE NUMBERS: what the reference's row of numbers says; every answer is told by it -/
abbrev Fm : Type := Nat → Int32
def nn (x : Int32) : Nat := x.toNatClampNeg
def cS (F : Fm) : Nat := nn (F 1)
def cT (F : Fm) : Nat := nn (F 2)
def cR (F : Fm) : Nat := nn (F 3)
def cM (F : Fm) (r : Nat) : Nat := nn (F (165 + 6 * r))
/-- where map p of router r stands -/
def mA (r p : Nat) : Nat := 189 + 16 * (5 * r + p)
abbrev holdF (F : Fm) (k : Nat) (a z : Int32) : Prop := (F (5 + 3 * k + 1)).toInt ≤ a.toInt ∧ (a + z).toInt ≤ (F (5 + 3 * k + 1) + F (5 + 3 * k + 2)).toInt
def homeN (F : Fm) (a z : Int32) : Nat → Nat
  | 0 => 0
  | n + 1 => if holdF F (n + 1) a z ∧ (F (5 + 3 * (n + 1) + 2)).toInt < (F (5 + 3 * homeN F a z n + 2)).toInt then n + 1 else homeN F a z n
def homeF (F : Fm) (a z : Int32) : Nat := homeN F a z (cS F - 1)
def wayN (F : Fm) : Nat → Nat → Nat
  | 0, _ => 0
  | n + 1, k => if k = 0 then 1 else wayN F n (nn (F (5 + 3 * k))) + 1
def wayF (F : Fm) (k : Nat) : Nat := wayN F 8 k
abbrev upF (F : Fm) (k : Nat) : Prop := (F 0).toInt < (F (29 + 17 * k + 4)).toInt ∧ (F (29 + 17 * k + 5) = nI 1 ∨ F (29 + 17 * k + 9) = nI 1 ∨ F (29 + 17 * k + 13) = nI 1)
abbrev hasF (F : Fm) (k : Nat) (name : Int32) : Prop := (F (29 + 17 * k)).toInt ≤ name.toInt ∧ name.toInt < (F (29 + 17 * k) + F (29 + 17 * k + 1)).toInt
def betB (F : Fm) (n : Nat) (o : Option Nat) : Bool := match o with
  | none => true
  | some b => decide ((F (29 + 17 * n + 1)).toInt < (F (29 + 17 * b + 1)).toInt)
def ansN (F : Fm) (name : Int32) : Nat → Option Nat
  | 0 => none
  | n + 1 => if (upF F n ∧ hasF F n name ∧ homeF F (F (29 + 17 * n)) (F (29 + 17 * n + 1)) = homeF F name (nI 1)) ∧ betB F n (ansN F name n) = true then some n else ansN F name n
def ansF (F : Fm) (name : Int32) : Option Nat := ansN F name (cT F)
def optI (o : Option Nat) (d : Int32) : Int32 := match o with
  | some n => nI n
  | none => d
/-- lowest priority and sum of weights after k slots that stand at b -/
def lsN (F : Fm) (b : Nat) : Nat → Int32 × Int32
  | 0 => (nI 10, nI 0)
  | k + 1 => if F (b + 4 * k) = nI 1 ∧ (F (b + 4 * k + 2)).toInt ≤ (lsN F b k).1.toInt then (F (b + 4 * k + 2), if (F (b + 4 * k + 2)).toInt < (lsN F b k).1.toInt then F (b + 4 * k + 3) else (lsN F b k).2 + F (b + 4 * k + 3)) else lsN F b k
def choN (F : Fm) (b : Nat) (lo : Int32) : Nat → Nat → Int32 → Int32
  | 0, _, _ => -5
  | n + 1, k, left => if F (b + 4 * k) = nI 1 ∧ F (b + 4 * k + 2) = lo then (if (left - F (b + 4 * k + 3)).toInt < 0 then F (b + 4 * k + 1) else choN F b lo n (k + 1) (left - F (b + 4 * k + 3))) else choN F b lo n (k + 1) left
def choF (F : Fm) (b : Nat) (flow : Int32) : Int32 := choN F b (lsN F b 3).1 3 0 (if (lsN F b 3).2 = 0 then nI 0 else flow - flow / (lsN F b 3).2 * (lsN F b 3).2)
abbrev isAtF (F : Fm) (k : Nat) (place : Int32) : Prop := ((F (29 + 17 * k + 5) = nI 1 ∧ F (29 + 17 * k + 6) = place) ∨ (F (29 + 17 * k + 9) = nI 1 ∧ F (29 + 17 * k + 10) = place) ∨ (F (29 + 17 * k + 13) = nI 1 ∧ F (29 + 17 * k + 14) = place)) ∧ upF F k
def dropsF (F : Fm) (r p : Nat) : Fm := fun i => if i = 165 + 6 * r then F i - nI 1 else if mA r p ≤ i ∧ i < mA r (cM F r - 1) then F (i + 16) else F i
def roomF (F : Fm) (r c : Nat) : Fm := fun i => if mA r 1 ≤ i ∧ i < mA r c + 16 then F (i - 16) else F i
def usesF (F : Fm) (r p : Nat) : Fm := fun i => if mA r 0 ≤ i ∧ i < mA r 1 then F (i + 16 * p) else if mA r 1 ≤ i ∧ i < mA r (p + 1) then F (i - 16) else F i
def fillF (F : Fm) (r k : Nat) : Fm := fun i => if i = 165 + 6 * r then F i + nI 1 else if i = mA r 0 then nI k else if i = mA r 0 + 1 then F (29 + 17 * k + 3) else if i = mA r 0 + 2 then F 0 + F 4 else if i = mA r 0 + 3 then nI 0 else if mA r 0 + 4 ≤ i ∧ i < mA r 0 + 16 then F (29 + 17 * k + 5 + (i - (mA r 0 + 4))) else F i
/-- maps of site k among the first n go -/
def purgeF (r k : Nat) : Nat → Fm → Fm
  | 0, F => F
  | n + 1, F => purgeF r k n (if F (mA r n) = nI k then dropsF F r n else F)
def askedF (F : Fm) (r : Nat) (name : Int32) : Fm := fun i => if i = 165 + 6 * r + 1 then F i + nI 1 else if i = 165 + 6 * r + 2 then F i + nI (wayF F (homeF F name (nI 1))) else F i
def newF (F : Fm) (r k : Nat) : Fm :=
  let G := purgeF r k (cM F r) F
  let H := if cM G r = 5 then dropsF G r 4 else G
  fillF (roomF H r (cM H r)) r k
def asksF (F : Fm) (r : Nat) (name : Int32) : Bool × Fm := match ansF (askedF F r name) name with
  | none => (false, askedF F r name)
  | some k => (true, newF (askedF F r name) r k)
/-- maps among the first n that do not hold go -/
def endF (r : Nat) : Nat → Fm → Fm
  | 0, F => F
  | n + 1, F => endF r n (if (F (mA r n + 2)).toInt ≤ (F 0).toInt then dropsF F r n else F)
def tkB (F : Fm) (r n : Nat) (o : Option Nat) : Bool := match o with
  | none => decide ((F (29 + 17 * nn (F (mA r n)) + 1)).toInt < 257)
  | some b => decide ((F (29 + 17 * nn (F (mA r n)) + 1)).toInt < (F (29 + 17 * nn (F (mA r b)) + 1)).toInt)
def takeN (F : Fm) (r : Nat) (name : Int32) : Nat → Option Nat
  | 0 => none
  | n + 1 => if hasF F (nn (F (mA r n))) name ∧ tkB F r n (takeN F r name n) = true then some n else takeN F r name n
def plusF (F : Fm) (j : Nat) : Fm := fun i => if i = j then F i + nI 1 else F i
def proxF (name : Int32) : Int32 := nI 32 + name / nI 32
def restF (G : Fm) (r p : Nat) (name flow : Int32) : Int32 × Fm :=
  let G1 := usesF G r p
  let k := nn (G1 (mA r 0))
  let place := choF G1 (mA r 0 + 4) flow
  if isAtF G1 k place then (place, if G1 (mA r 0 + 1) = G1 (29 + 17 * k + 3) then G1 else fun i => if i = mA r 0 + 3 then nI 1 else G1 i)
  else match asksF (dropsF (plusF G1 (165 + 6 * r + 5)) r 0) r name with
    | (true, G3) => (choF G3 (mA r 0 + 4) flow, G3)
    | (false, G3) => (proxF name, plusF G3 (165 + 6 * r + 4))
def sendF (F : Fm) (r : Nat) (name flow : Int32) : Int32 × Fm :=
  let F1 := plusF F (165 + 6 * r + 3)
  let F2 := endF r (cM F1 r) F1
  match takeN F2 r name (cM F2 r) with
  | none => (match asksF F2 r name with
    | (true, F3) => restF F3 r 0 name flow
    | (false, F3) => (proxF name, plusF F3 (165 + 6 * r + 4)))
  | some p => if F2 (mA r p + 3) = nI 1 then (match asksF F2 r name with
      | (true, F3) => restF F3 r 0 name flow
      | (false, F3) => (proxF name, plusF (dropsF F3 r p) (165 + 6 * r + 4)))
    else restF F2 r p name flow
/-- a store whose row of numbers is F -/
def setN (s : St) (F : Fm) : St := (fun a b d => if a = 20 ∧ b = 0 then F d else s.1 a b d, s.2)
theorem setN_now (s : St) (F : Fm) (i : Nat) : (setN s F).1 20 0 i = F i := by
  show (if 20 = 20 ∧ 0 = 0 then F i else s.1 20 0 i) = F i
  rw [if_pos ⟨rfl, rfl⟩]
theorem setN_self (s : St) : setN s (s.1 20 0) = s := by
  unfold setN
  apply Prod.ext
  · funext a b d
    show (if a = 20 ∧ b = 0 then s.1 20 0 d else s.1 a b d) = _
    split
    · rename_i h; rw [h.1, h.2]
    · rfl
  · rfl
theorem setN_setN (s : St) (F G : Fm) : setN (setN s F) G = setN s G := by
  unfold setN
  apply Prod.ext
  · funext a b d
    show (if a = 20 ∧ b = 0 then G d else if a = 20 ∧ b = 0 then F d else s.1 a b d) = (if a = 20 ∧ b = 0 then G d else s.1 a b d)
    by_cases h : a = 20 ∧ b = 0
    · rw [if_pos h, if_pos h]
    · rw [if_neg h, if_neg h, if_neg h]
  · rfl
def putF (F : Fm) (i : Nat) (x : Int32) : Fm := fun j => if j = i then x else F j
theorem putF_at (F : Fm) (i : Nat) (x : Int32) : putF F i x i = x := if_pos rfl
theorem putF_ne (F : Fm) {i j : Nat} (x : Int32) (h : j ≠ i) : putF F i x j = F j := if_neg h
theorem putF_plus (F : Fm) (j : Nat) : putF F j (F j + nI 1) = plusF F j := by
  funext i
  unfold putF plusF
  split
  · rename_i h; rw [h]
  · rfl
theorem setN_put (s : St) (F : Fm) (i : Nat) (x : Int32) : putV (setN s F) 20 0 i x = setN s (putF F i x) := by
  unfold setN putV putF
  apply Prod.ext
  · funext a b d
    show (if a = 20 ∧ b = 0 ∧ d = i then x else if a = 20 ∧ b = 0 then F d else s.1 a b d) = (if a = 20 ∧ b = 0 then (if d = i then x else F d) else s.1 a b d)
    by_cases h1 : a = 20 <;> by_cases h2 : b = 0 <;> simp [h1, h2]
  · rfl
theorem setN_o {s : St} {F : Fm} {a b d : Nat} (h : a ≠ 20) : (setN s F).1 a b d = s.1 a b d := by
  show (if a = 20 ∧ b = 0 then F d else s.1 a b d) = _
  rw [if_neg fun q => h q.1]
theorem alen20 : alen 20 = 509 := rfl
theorem alen21 : alen 21 = 4072 := rfl
/-! what holds of the numbers, always -/
def WFserver (F : Fm) (k : Nat) : Prop := (∃ a z : Nat, F (5 + 3 * k + 1) = nI a ∧ F (5 + 3 * k + 2) = nI z ∧ 1 ≤ z ∧ a + z ≤ 256) ∧ (k = 0 → F (5 + 3 * k) = -5) ∧ (0 < k → ∃ p : Nat, p < k ∧ F (5 + 3 * k) = nI p)
def slotOk (F : Fm) (b : Nat) : Prop := (F b = nI 0 ∨ F b = nI 1) ∧ (F b = nI 1 → (0 ≤ (F (b + 1)).toInt ∧ (F (b + 1)).toInt < 32) ∧ (0 ≤ (F (b + 2)).toInt ∧ (F (b + 2)).toInt < 10) ∧ 1 ≤ (F (b + 3)).toInt ∧ (F (b + 3)).toInt ≤ 9)
def WFsite (F : Fm) (B k : Nat) : Prop := (∃ a z : Nat, F (29 + 17 * k) = nI a ∧ F (29 + 17 * k + 1) = nI z ∧ 1 ≤ z ∧ a + z ≤ 256) ∧ (1 ≤ (F (29 + 17 * k + 2)).toInt ∧ (F (29 + 17 * k + 2)).toInt ≤ 48) ∧ (1 ≤ (F (29 + 17 * k + 3)).toInt ∧ (F (29 + 17 * k + 3)).toInt ≤ (B : Int)) ∧ (0 ≤ (F (29 + 17 * k + 4)).toInt ∧ (F (29 + 17 * k + 4)).toInt ≤ 10300) ∧ ∀ j, j < 3 → slotOk F (29 + 17 * k + 5 + 4 * j)
def WFmap (F : Fm) (r p : Nat) : Prop := F (mA r p) = nI (nn (F (mA r p))) ∧ nn (F (mA r p)) < cT F ∧ (F (mA r p + 3) = nI 0 ∨ F (mA r p + 3) = nI 1) ∧ ∀ j, j < 3 → slotOk F (mA r p + 4 + 4 * j)
def WFrouter (F : Fm) (r : Nat) : Prop := F (165 + 6 * r) = nI (cM F r) ∧ cM F r ≤ 5 ∧ (∀ p, p < cM F r → WFmap F r p) ∧ ∀ p q, p < cM F r → q < cM F r → F (mA r p) = F (mA r q) → p = q
def WF (F : Fm) (B : Nat) : Prop := (F 1 = nI (cS F) ∧ 1 ≤ cS F ∧ cS F ≤ 8) ∧ (F 2 = nI (cT F) ∧ cT F ≤ 8) ∧ (F 3 = nI (cR F) ∧ cR F ≤ 4) ∧ (0 ≤ (F 0).toInt ∧ (F 0).toInt ≤ 10200) ∧ (1 ≤ (F 4).toInt ∧ (F 4).toInt ≤ 100) ∧ (∀ k, k < cS F → WFserver F k) ∧ (∀ k, k < cT F → WFsite F B k) ∧ ∀ r, r < cR F → WFrouter F r
section WFP
variable {F : Fm} {B : Nat}
theorem WF.s1 (h : WF F B) : F 1 = nI (cS F) := h.1.1
theorem WF.s2 (h : WF F B) : 1 ≤ cS F ∧ cS F ≤ 8 := h.1.2
theorem WF.t1 (h : WF F B) : F 2 = nI (cT F) := h.2.1.1
theorem WF.t2 (h : WF F B) : cT F ≤ 8 := h.2.1.2
theorem WF.r1 (h : WF F B) : F 3 = nI (cR F) := h.2.2.1.1
theorem WF.r2 (h : WF F B) : cR F ≤ 4 := h.2.2.1.2
theorem WF.h (h : WF F B) : 0 ≤ (F 0).toInt ∧ (F 0).toInt ≤ 10200 := h.2.2.2.1
theorem WF.l (h : WF F B) : 1 ≤ (F 4).toInt ∧ (F 4).toInt ≤ 100 := h.2.2.2.2.1
theorem WF.server (h : WF F B) {k : Nat} (hk : k < cS F) : WFserver F k := h.2.2.2.2.2.1 k hk
theorem WF.site (h : WF F B) {k : Nat} (hk : k < cT F) : WFsite F B k := h.2.2.2.2.2.2.1 k hk
theorem WF.router (h : WF F B) {r : Nat} (hr : r < cR F) : WFrouter F r := h.2.2.2.2.2.2.2 r hr
theorem WF.flag (h : WF F B) {k : Nat} (hk : k < cT F) (j : Nat) (hj : j < 3) : slotOk F (29 + 17 * k + 5 + 4 * j) := (h.site hk).2.2.2.2 j hj
end WFP
end
section
/-! THE REFERENCE'S SMALL METHODS -/
theorem bI_c {a b : Prop} [Decidable a] [Decidable b] {Q : Option MV → St → Prop} {s : St} (h : Q (some (.inl (bI a))) s) (e : b ↔ a) : Q (some (.inl (bI b))) s := by
  have : bI b = bI a := by
    unfold bI
    by_cases h1 : a
    · rw [if_pos h1, if_pos (e.mpr h1)]
    · rw [if_neg h1, if_neg (fun q => h1 (e.mp q))]
  rwa [this]
/-- a counting loop: from the head's state at k to that at k + 1, and out at n -/
theorem loopN {P : Nat → Prop} (n : Nat) (step : ∀ k, k < n → P (k + 1) → P k) (last : P n) (k : Nat) (hk : k ≤ n) : P k := by
  have : ∀ j k, k + j = n → P k := by
    intro j
    induction j with
    | zero => intro k h; have : k = n := by omega
              rw [this]; exact last
    | succ j ih => intro k h; exact step k (by omega) (ih (k + 1) (by omega))
  exact this (n - k) k (by omega)
section REF1
variable {L : Nat} {xs : Nat → Int32} {f k r p j B : Nat} {x y v a z : Int32} {s : St} {F : Fm} {Q : Option MV → St → Prop}
theorem homeN_le : ∀ n, homeN F a z n ≤ n
  | 0 => Nat.le_refl _
  | n + 1 => by
    unfold homeN
    split
    · exact Nat.le_refl _
    · exact Nat.le_succ_of_le (homeN_le n)
end REF1
end
section
/-! THE REFERENCE: ways, sites, answers -/
def upB (F : Fm) (k : Nat) : Nat → Bool
  | 0 => false
  | j + 1 => upB F k j || decide (F (29 + 17 * k + (5 + 4 * j)) = nI 1)
section REF2
variable {L : Nat} {xs : Nat → Int32} {f k r p j B : Nat} {x y v a z name flow : Int32} {s : St} {F : Fm} {Q : Option MV → St → Prop}
theorem wayN_eq {n : Nat} (hp : ∀ k, 0 < k → k < n → ∃ p : Nat, p < k ∧ F (5 + 3 * k) = nI p) (hn : n ≤ 8) : ∀ m m' k, k < n → k < m → k < m' → wayN F m k = wayN F m' k := by
  intro m
  induction m with
  | zero => intro m' k _ h; omega
  | succ m ih =>
    intro m' k hk hm hm'
    obtain ⟨m', rfl⟩ : ∃ q, m' = q + 1 := ⟨m' - 1, by omega⟩
    unfold wayN
    by_cases h0 : k = 0
    · rw [if_pos h0, if_pos h0]
    · rw [if_neg h0, if_neg h0]
      obtain ⟨p, h1, h2⟩ := hp k (by omega) hk
      have e : nn (F (5 + 3 * k)) = p := by rw [h2]; exact nI_cl (by omega)
      rw [e, ih m' p (by omega) (by omega) (by omega)]
theorem wayF_0 : wayF F 0 = 1 := by unfold wayF wayN; rw [if_pos rfl]
theorem WF.par (hw : WF F B) : ∀ k, 0 < k → k < cS F → ∃ p : Nat, p < k ∧ F (5 + 3 * k) = nI p := fun k h1 h2 => (hw.server h2).2.2 h1
theorem wayF_s (hw : WF F B) {p : Nat} (h0 : 0 < k) (hk : k < cS F) (hp : F (5 + 3 * k) = nI p) (hpk : p < k) : wayF F k = wayF F p + 1 := by
  have h8 := hw.s2
  unfold wayF
  rw [wayN_eq hw.par h8.2 8 (8 + 1) k hk (by omega) (by omega)]
  have e : nn (F (5 + 3 * k)) = p := by rw [hp]; exact nI_cl (by omega)
  show (if k = 0 then 1 else wayN F 8 (nn (F (5 + 3 * k))) + 1) = _
  rw [if_neg (by omega), e]
theorem wayF_le (hw : WF F B) : ∀ k, k < cS F → 1 ≤ wayF F k ∧ wayF F k ≤ k + 1 := by
  intro k
  induction k using Nat.strongRecOn with
  | ind k ih =>
    intro hk
    by_cases h0 : k = 0
    · subst h0; rw [wayF_0]; omega
    · obtain ⟨p, h1, h2⟩ := hw.par k (by omega) hk
      rw [wayF_s hw (by omega) hk h2 h1]
      have := ih p h1 (by omega)
      omega
theorem upB_3 : upB F k 3 = true ↔ (F (29 + 17 * k + 5) = nI 1 ∨ F (29 + 17 * k + 9) = nI 1 ∨ F (29 + 17 * k + 13) = nI 1) := by
  simp only [upB, Bool.or_eq_true, decide_eq_true_eq, Bool.false_eq_true, false_or, or_assoc, ← Nat.add_assoc, Nat.mul_zero, Nat.add_zero, Nat.mul_one]
end REF2
end
section
/-! THE REFERENCE: answers, choices, maps -/
def atB (F : Fm) (k : Nat) (place : Int32) : Nat → Bool
  | 0 => false
  | j + 1 => atB F k place j || (decide (F (29 + 17 * k + 5 + 4 * j) = nI 1) && decide (F (29 + 17 * k + 5 + 4 * j + 1) = place))
section REF3
variable {L : Nat} {xs : Nat → Int32} {f k r p j B : Nat} {x y v a z name flow place : Int32} {s : St} {F : Fm} {Q : Option MV → St → Prop}
theorem ansN_lt : ∀ n b, ansN F name n = some b → b < n
  | 0, b, h => by cases h
  | n + 1, b, h => by
    unfold ansN at h
    split at h
    · cases h; exact Nat.lt_succ_self _
    · exact Nat.lt_succ_of_lt (ansN_lt n b h)
theorem homeF_lt (hw : WF F B) : homeF F a z < 8 := by
  have := homeN_le (F := F) (a := a) (z := z) (cS F - 1)
  have h2 := hw.s2
  unfold homeF
  omega
theorem homeF_ltS (hw : WF F B) : homeF F a z < cS F := by
  have := homeN_le (F := F) (a := a) (z := z) (cS F - 1)
  have h2 := hw.s2
  unfold homeF
  omega
theorem optI_ne {o : Option Nat} (h : ∀ b, o = some b → b < 1000) : optI o (-5) = -5 ↔ o = none := by
  cases o with
  | none => exact ⟨fun _ => rfl, fun _ => rfl⟩
  | some b =>
    refine ⟨fun q => ?_, fun q => by cases q⟩
    have := congrArg Int32.toInt q
    have hb := h b rfl
    have e : (nI b).toInt = (b : Int) := nI_toI (by omega)
    have e2 : ((-5 : Int32)).toInt = -5 := by decide
    simp only [optI] at this
    omega
theorem nI_n5 {b : Nat} (h : b < 1000) : ¬ nI b = -5 := by
  intro q
  have := congrArg Int32.toInt q
  have e : (nI b).toInt = (b : Int) := nI_toI (by omega)
  have e2 : ((-5 : Int32)).toInt = -5 := by decide
  omega
/-! the maps of a router -/
def drK (F : Fm) (r p k : Nat) : Fm := fun i => if i = 165 + 6 * r then F i - nI 1 else if mA r p ≤ i ∧ i < k then F (i + 16) else F i
theorem drK_0 : drK F r p (mA r p) = putF F (165 + 6 * r) (F (165 + 6 * r) - nI 1) := by
  funext i
  unfold drK putF
  by_cases h : i = 165 + 6 * r
  · rw [if_pos h, if_pos h, h]
  · rw [if_neg h, if_neg h, if_neg (by omega)]
theorem drK_s (hk : mA r p ≤ k) (hr : r < 4) : putF (drK F r p k) k (drK F r p k (k + 16)) = drK F r p (k + 1) := by
  have hm : 189 ≤ mA r p := by unfold mA; omega
  funext i
  simp only [drK, putF]
  (repeat' split) <;> first | rfl | omega | (exfalso; omega) | (congr 1; omega)
theorem drK_c (hc : F (165 + 6 * r) = nI (cM F r)) (h1 : 1 ≤ cM F r) (h2 : cM F r ≤ 5) : drK F r p k (165 + 6 * r) = nI (cM F r - 1) := by
  show (if 165 + 6 * r = 165 + 6 * r then F (165 + 6 * r) - nI 1 else _) = _
  rw [if_pos rfl, hc, nI_sub (by omega) h1]
end REF3
end
section
/-! THE REFERENCE: room, use, choice -/
def rmK (F : Fm) (r c j : Nat) : Fm := fun i => if mA r c + 16 - j ≤ i ∧ i < mA r c + 16 then F (i - 16) else F i
section REF4
variable {L : Nat} {xs : Nat → Int32} {f k r p c j B b : Nat} {x y v a z name flow place : Int32} {s : St} {F : Fm} {Q : Option MV → St → Prop}
theorem rmK_0 : rmK F r c 0 = F := by
  funext i
  simp only [rmK]
  (repeat' split) <;> first | rfl | omega | (exfalso; omega) | (congr 1; omega)
theorem rmK_s (hj : j < 16 * c) : putF (rmK F r c j) (mA r c + 15 - j) (rmK F r c j (mA r c + 15 - j - 16)) = rmK F r c (j + 1) := by
  have hm : 189 + 16 * c ≤ mA r c := by unfold mA; omega
  funext i
  simp only [rmK, putF]
  (repeat' split) <;> first | rfl | omega | (exfalso; omega) | (congr 1; omega)
theorem rmK_e : rmK F r c (16 * c) = roomF F r c := by
  have hm : mA r c = mA r 1 + 16 * c - 16 := by unfold mA; omega
  have hm2 : 189 + 16 ≤ mA r 1 := by unfold mA; omega
  funext i
  simp only [rmK, roomF]
  (repeat' split) <;> first | rfl | omega | (exfalso; omega) | (congr 1; omega)
def usK (F : Fm) (r p m : Nat) : Fm := fun i => if mA r m ≤ i ∧ i < mA r (m + 1) then F (i + 16 * (p - m)) else if mA r (m + 1) ≤ i ∧ i < mA r (p + 1) then F (i - 16) else F i
def swK (G : Fm) (r m k : Nat) : Fm := fun i => if mA r m ≤ i ∧ i < mA r m + k then G (i + 16) else if mA r (m + 1) ≤ i ∧ i < mA r (m + 1) + k then G (i - 16) else G i
theorem usK_p : usK F r p p = F := by
  have hm : mA r (p + 1) = mA r p + 16 := by unfold mA; omega
  funext i
  simp only [usK]
  (repeat' split) <;> first | rfl | omega | (exfalso; omega) | (congr 1; omega)
theorem usK_0 : usK F r p 0 = usesF F r p := by
  funext i
  simp only [usK, usesF]
  (repeat' split) <;> first | rfl | omega | (exfalso; omega) | (congr 1; omega)
theorem swK_0 {G : Fm} : swK G r k 0 = G := by
  funext i
  simp only [swK]
  (repeat' split) <;> first | rfl | omega | (exfalso; omega) | (congr 1; omega)
theorem swK_s {G : Fm} {m : Nat} (hk : k < 16) : putF (putF (swK G r m k) (mA r (m + 1) + k) (swK G r m k (mA r m + k))) (mA r m + k) (swK G r m k (mA r (m + 1) + k)) = swK G r m (k + 1) := by
  have hm : mA r (m + 1) = mA r m + 16 := by unfold mA; omega
  have hm2 : 189 ≤ mA r m := by unfold mA; omega
  funext i
  simp only [swK, putF]
  (repeat' split) <;> first | rfl | omega | (exfalso; omega) | (congr 1; omega)
theorem swK_e {m : Nat} (hm : m < p) : swK (usK F r p (m + 1)) r m 16 = usK F r p m := by
  have hm1 : mA r (m + 1) = mA r m + 16 := by unfold mA; omega
  have hm2 : mA r (m + 1 + 1) = mA r m + 32 := by unfold mA; omega
  have hm3 : mA r (p + 1) = mA r m + 16 * (p - m) + 16 := by unfold mA; omega
  have hm4 : 189 ≤ mA r m := by unfold mA; omega
  funext i
  simp only [swK, usK]
  (repeat' split) <;> first | rfl | omega | (exfalso; omega) | (congr 1; omega)
end REF4
end
section
/-! what does not change, when other numbers change -/
section CG
variable {k r p c j B b n : Nat} {x y v a z name flow place : Int32} {F G : Fm}
theorem homeN_cg (h : ∀ i, i < 29 → G i = F i) : ∀ n, n < 8 → homeN G a z n = homeN F a z n := by
  intro n
  induction n with
  | zero => intro _; rfl
  | succ n ih =>
    intro hn
    have h3 := homeN_le (F := F) (a := a) (z := z) n
    unfold homeN holdF
    rw [ih (by omega), h (5 + 3 * (n + 1) + 1) (by omega), h (5 + 3 * (n + 1) + 2) (by omega), h (5 + 3 * homeN F a z n + 2) (by omega)]
theorem homeF_cg (hw : WF F B) (h : ∀ i, i < 29 → G i = F i) : homeF G a z = homeF F a z := by
  have h2 := hw.s2
  unfold homeF
  have e : cS G = cS F := by unfold cS; rw [h 1 (by omega)]
  rw [e, homeN_cg h _ (by omega)]
theorem wayF_cg (hw : WF F B) (h : ∀ i, i < 29 → G i = F i) (hk : k < cS F) : wayF G k = wayF F k := by
  have h2 := hw.s2
  have : ∀ m k, k < cS F → wayN G m k = wayN F m k := by
    intro m
    induction m with
    | zero => intro k _; rfl
    | succ m ih =>
      intro k hk
      unfold wayN
      by_cases h0 : k = 0
      · rw [if_pos h0, if_pos h0]
      · rw [if_neg h0, if_neg h0, h (5 + 3 * k) (by omega)]
        obtain ⟨p, h1, h3⟩ := hw.par k (by omega) hk
        have e : nn (F (5 + 3 * k)) = p := by rw [h3]; exact nI_cl (by omega)
        rw [e, ih p (by omega)]
  exact this 8 k hk
theorem upF_cg (h : ∀ i, i < 165 → G i = F i) (hk : k < 8) : upF G k ↔ upF F k := by
  unfold upF
  rw [h 0 (by omega), h (29 + 17 * k + 4) (by omega), h (29 + 17 * k + 5) (by omega), h (29 + 17 * k + 9) (by omega), h (29 + 17 * k + 13) (by omega)]
theorem ansF_cg (hw : WF F B) (h : ∀ i, i < 165 → G i = F i) : ansF G name = ansF F name := by
  have h2 := hw.t2
  have e : cT G = cT F := by unfold cT; rw [h 2 (by omega)]
  have : ∀ n, n ≤ 8 → ansN G name n = ansN F name n := by
    intro n
    induction n with
    | zero => intro _; rfl
    | succ n ih =>
      intro hn
      have hlt := ansN_lt (F := F) (name := name) n
      have e1 : betB G n (ansN G name n) = betB F n (ansN F name n) := by
        rw [ih (by omega)]
        cases ho : ansN F name n with
        | none => rfl
        | some b =>
          have := hlt b ho
          simp only [betB]
          rw [h (29 + 17 * n + 1) (by omega), h (29 + 17 * b + 1) (by omega)]
      unfold ansN
      rw [e1, ih (by omega)]
      have e2 : (upF G n ∧ hasF G n name ∧ homeF G (G (29 + 17 * n)) (G (29 + 17 * n + 1)) = homeF G name (nI 1)) ↔ (upF F n ∧ hasF F n name ∧ homeF F (F (29 + 17 * n)) (F (29 + 17 * n + 1)) = homeF F name (nI 1)) := by
        rw [upF_cg h (by omega), homeF_cg hw (fun i hi => h i (by omega)), homeF_cg hw (fun i hi => h i (by omega))]
        unfold hasF
        rw [h (29 + 17 * n) (by omega), h (29 + 17 * n + 1) (by omega)]
      by_cases hc : (upF F n ∧ hasF F n name ∧ homeF F (F (29 + 17 * n)) (F (29 + 17 * n + 1)) = homeF F name (nI 1)) ∧ betB F n (ansN F name n) = true
      · rw [if_pos hc, if_pos ⟨e2.mpr hc.1, hc.2⟩]
      · rw [if_neg hc, if_neg (fun q => hc ⟨e2.mp q.1, q.2⟩)]
  unfold ansF
  rw [e, this _ h2]
theorem slotOk_cg (h : ∀ i, b ≤ i → i < b + 4 → G i = F i) : slotOk F b → slotOk G b := by
  intro q
  unfold slotOk at q ⊢
  rw [h b (by omega) (by omega), h (b + 1) (by omega) (by omega), h (b + 2) (by omega) (by omega), h (b + 3) (by omega) (by omega)]
  exact q
theorem WFmap_cg (h : ∀ i, mA r p ≤ i → i < mA r p + 16 → G i = F i) (hT : cT G = cT F) (q : WFmap F r p) : WFmap G r p := by
  obtain ⟨q1, q2, q3, q4⟩ := q
  have e0 := h (mA r p) (by omega) (by omega)
  have e3 := h (mA r p + 3) (by omega) (by omega)
  refine ⟨by rw [e0]; exact q1, by rw [e0, hT]; exact q2, by rw [e3]; exact q3, fun j hj => slotOk_cg (fun i h1 h2 => h i (by omega) (by omega)) (q4 j hj)⟩
/-- the numbers below 165 are the same, and each router is well -/
theorem WF_upd (hw : WF F B) (h : ∀ i, i < 165 → G i = F i) (hr : ∀ r, r < cR F → WFrouter G r) : WF G B := by
  have e1 : cS G = cS F := by unfold cS; rw [h 1 (by omega)]
  have e2 : cT G = cT F := by unfold cT; rw [h 2 (by omega)]
  have e3 : cR G = cR F := by unfold cR; rw [h 3 (by omega)]
  have hs := hw.s2
  have ht := hw.t2
  refine ⟨?_, ?_, ?_, ?_, ?_, fun k hk => ?_, fun k hk => ?_, fun r hk => hr r (by omega)⟩
  · rw [h 1 (by omega), e1]; exact hw.1
  · rw [h 2 (by omega), e2]; exact hw.2.1
  · rw [h 3 (by omega), e3]; exact hw.2.2.1
  · rw [h 0 (by omega)]; exact hw.h
  · rw [h 4 (by omega)]; exact hw.l
  · rw [e1] at hk
    have q := hw.server hk
    unfold WFserver at q ⊢
    rw [h (5 + 3 * k) (by omega), h (5 + 3 * k + 1) (by omega), h (5 + 3 * k + 2) (by omega)]
    exact q
  · rw [e2] at hk
    have q := hw.site hk
    unfold WFsite at q ⊢
    rw [h (29 + 17 * k) (by omega), h (29 + 17 * k + 1) (by omega), h (29 + 17 * k + 2) (by omega), h (29 + 17 * k + 3) (by omega), h (29 + 17 * k + 4) (by omega)]
    exact ⟨q.1, q.2.1, q.2.2.1, q.2.2.2.1, fun j hj => slotOk_cg (fun i h1 h2 => h i (by omega)) (q.2.2.2.2 j hj)⟩
theorem WFrouter_cg (hT : cT G = cT F) (h0 : G (165 + 6 * r) = F (165 + 6 * r)) (h : ∀ i, mA r 0 ≤ i → i < mA r 5 → G i = F i) (q : WFrouter F r) : WFrouter G r := by
  obtain ⟨q1, q2, q3, q4⟩ := q
  have hm : ∀ p, mA r p = mA r 0 + 16 * p := fun p => by unfold mA; omega
  have e : cM G r = cM F r := by unfold cM; rw [h0]
  have h5 := hm 5
  refine ⟨by rw [e, h0]; exact q1, by rw [e]; exact q2, fun p hp => WFmap_cg (fun i a b => h i (by have := hm p; omega) (by have := hm p; omega)) hT (q3 p (by omega)), fun p1 p2 a b => ?_⟩
  have g1 := hm p1
  have g2 := hm p2
  rw [h (mA r p1) (by omega) (by omega), h (mA r p2) (by omega) (by omega)]
  exact q4 p1 p2 (by omega) (by omega)
/-- only counters of router r change -/
theorem WF_cnt (hw : WF F B) (hr : r < 4) (h : ∀ i, (i ≤ 165 + 6 * r ∨ 165 + 6 * r + 6 ≤ i) → G i = F i) : WF G B := by
  refine WF_upd hw (fun i hi => h i (by omega)) (fun r' hr' => ?_)
  have h4 := hw.r2
  have hm : mA r' 0 = 189 + 80 * r' := by unfold mA; omega
  refine WFrouter_cg (by unfold cT; rw [h 2 (by omega)]) (h _ (by omega)) (fun i a b => h i (by omega)) (hw.router hr')
end CG
end
section
/-! the maps of a router, moved: all stays well -/
section WO
variable {i k r p q c j B b n : Nat} {x y v a z name flow place : Int32} {F G : Fm}
theorem WFmap_sh (h : ∀ j, j < 16 → G (mA r q + j) = F (mA r p + j)) (hT : cT G = cT F) (w : WFmap F r p) : WFmap G r q := by
  obtain ⟨q1, q2, q3, q4⟩ := w
  have e0 : G (mA r q) = F (mA r p) := h 0 (by omega)
  have e3 := h 3 (by omega)
  refine ⟨by rw [e0]; exact q1, by rw [e0, hT]; exact q2, by rw [e3]; exact q3, fun j hj => ?_⟩
  have := q4 j hj
  unfold slotOk at this ⊢
  have g0 := h (4 + 4 * j) (by omega)
  have g1 := h (4 + 4 * j + 1) (by omega)
  have g2 := h (4 + 4 * j + 2) (by omega)
  have g3 := h (4 + 4 * j + 3) (by omega)
  simp only [← Nat.add_assoc] at g0 g1 g2 g3
  rw [g0, g1, g2, g3]
  exact this
theorem WFr_map (hT : cT G = cT F) (hc : G (165 + 6 * r) = nI (cM G r)) (h5 : cM G r ≤ 5) (sg : Nat → Nat) (h : ∀ q, q < cM G r → sg q < cM F r ∧ ∀ j, j < 16 → G (mA r q + j) = F (mA r (sg q) + j)) (hi : ∀ q1 q2, q1 < cM G r → q2 < cM G r → sg q1 = sg q2 → q1 = q2) (w : WFrouter F r) : WFrouter G r := by
  refine ⟨hc, h5, fun q hq => WFmap_sh (h q hq).2 hT (w.2.2.1 _ (h q hq).1), fun q1 q2 a b e => ?_⟩
  have e1 : G (mA r q1) = F (mA r (sg q1)) := (h q1 a).2 0 (by omega)
  have e2 : G (mA r q2) = F (mA r (sg q2)) := (h q2 b).2 0 (by omega)
  exact hi q1 q2 a b (w.2.2.2 _ _ (h q1 a).1 (h q2 b).1 (by rw [← e1, ← e2]; exact e))
theorem mA_eq (r p : Nat) : mA r p = 189 + 80 * r + 16 * p := by unfold mA; omega
theorem drops_lo (h : i < 165) : dropsF F r p i = F i := by
  have h1 := mA_eq r p
  simp only [dropsF]
  (repeat' split) <;> first | rfl | omega | (exfalso; omega) | (congr 1; omega)
theorem drops_c (w : WFrouter F r) (h1 : 0 < cM F r) : dropsF F r p (165 + 6 * r) = nI (cM F r - 1) ∧ cM (dropsF F r p) r = cM F r - 1 := by
  have e : dropsF F r p (165 + 6 * r) = nI (cM F r - 1) := by
    show (if 165 + 6 * r = 165 + 6 * r then F (165 + 6 * r) - nI 1 else _) = _
    rw [if_pos rfl]
    have h2 := w.1
    have h3 := w.2.1
    rw [h2, nI_sub (by omega) (by omega)]
  refine ⟨e, ?_⟩
  have h3 := w.2.1
  show nn (dropsF F r p (165 + 6 * r)) = _
  rw [e]
  exact nI_cl (by omega)
theorem drops_map (hr : r < 4) (hq : q < cM F r - 1) (hj : j < 16) : dropsF F r p (mA r q + j) = F (mA r (if p ≤ q then q + 1 else q) + j) := by
  have h1 := mA_eq r p
  have h2 := mA_eq r q
  have h3 := mA_eq r (cM F r - 1)
  have h4 := mA_eq r (q + 1)
  simp only [dropsF]
  by_cases hp : p ≤ q
  · rw [if_pos hp, if_neg (by omega), if_pos (by omega)]
    congr 1
    omega
  · rw [if_neg hp, if_neg (by omega), if_neg (by omega)]
theorem drops_o (hr : r < 4) (hi : i ≠ 165 + 6 * r) (h5 : cM F r ≤ 5) (hm : i < mA r 0 ∨ mA r 5 ≤ i) : dropsF F r p i = F i := by
  have h1 := mA_eq r p
  have h2 := mA_eq r 0
  have h3 := mA_eq r (cM F r - 1)
  have h4 := mA_eq r 5
  simp only [dropsF]
  rw [if_neg hi, if_neg (by omega)]
theorem WFr_drop (hr : r < 4) (w : WFrouter F r) (hp : p < cM F r) : WFrouter (dropsF F r p) r := by
  obtain ⟨e1, e2⟩ := drops_c (p := p) w (by omega)
  have h5 := w.2.1
  refine WFr_map (by unfold cT; rw [drops_lo (by omega)]) (by rw [e1, e2]) (by omega) (fun q => if p ≤ q then q + 1 else q) (fun q hq => ?_) (fun q1 q2 a b e => ?_) w
  · rw [e2] at hq
    exact ⟨by split <;> omega, fun j hj => drops_map hr hq hj⟩
  · split at e <;> split at e <;> omega
theorem WF_drop (hw : WF F B) (hr : r < cR F) (hp : p < cM F r) : WF (dropsF F r p) B := by
  have h4 := hw.r2
  refine WF_upd hw (fun i hi => drops_lo hi) (fun r' hr' => ?_)
  by_cases e : r' = r
  · subst e; exact WFr_drop (by omega) (hw.router hr) hp
  · have h1 := mA_eq r' 0
    have h2 := mA_eq r' 5
    have h3 := mA_eq r 0
    have h6 := mA_eq r 5
    have h7 := (hw.router hr).2.1
    exact WFrouter_cg (by unfold cT; rw [drops_lo (by omega)]) (drops_o (by omega) (by omega) h7 (by omega)) (fun i a b => drops_o (by omega) (by omega) h7 (by omega)) (hw.router hr')
theorem uses_lo (h : i < 189) : usesF F r p i = F i := by
  have h1 := mA_eq r 0
  have h2 := mA_eq r 1
  simp only [usesF]
  rw [if_neg (by omega), if_neg (by omega)]
theorem uses_o (hm : i < mA r 0 ∨ mA r (p + 1) ≤ i) : usesF F r p i = F i := by
  have h1 := mA_eq r 0
  have h2 := mA_eq r 1
  have h3 := mA_eq r (p + 1)
  simp only [usesF]
  rw [if_neg (by omega), if_neg (by omega)]
theorem uses_map (hj : j < 16) : usesF F r p (mA r q + j) = F (mA r (if q = 0 then p else if q ≤ p then q - 1 else q) + j) := by
  have h1 := mA_eq r p
  have h2 := mA_eq r q
  have h3 := mA_eq r 0
  have h4 := mA_eq r 1
  have h5 := mA_eq r (p + 1)
  have h6 := mA_eq r (q - 1)
  simp only [usesF]
  by_cases h0 : q = 0
  · rw [if_pos h0, if_pos (by omega)]
    congr 1
    omega
  · rw [if_neg h0, if_neg (by omega)]
    by_cases hp : q ≤ p
    · rw [if_pos hp, if_pos (by omega)]
      congr 1
      omega
    · rw [if_neg hp, if_neg (by omega)]
theorem uses_c : cM (usesF F r p) r = cM F r := by
  have h1 := mA_eq r 0
  unfold cM
  rw [uses_o (by omega)]
theorem WF_uses (hw : WF F B) (hr : r < cR F) (hp : p < cM F r) : WF (usesF F r p) B := by
  have h4 := hw.r2
  have hT : cT (usesF F r p) = cT F := by unfold cT; rw [uses_lo (by omega)]
  refine WF_upd hw (fun i hi => uses_lo (by omega)) (fun r' hr' => ?_)
  have h1 := mA_eq r' 0
  have h2 := mA_eq r' 5
  have h3 := mA_eq r 0
  have h6 := mA_eq r (p + 1)
  have h7 := (hw.router hr).2.1
  by_cases e : r' = r
  · subst e
    have w := hw.router hr
    refine WFr_map hT (by rw [uses_c, uses_lo (by omega)]; exact w.1) (by rw [uses_c]; exact h7) (fun q => if q = 0 then p else if q ≤ p then q - 1 else q) (fun q hq => ?_) (fun q1 q2 a b e => ?_) w
    · rw [uses_c] at hq
      exact ⟨by split <;> (try split) <;> omega, fun j hj => uses_map hj⟩
    · split at e <;> split at e <;> (try split at e) <;> (try split at e) <;> omega
  · exact WFrouter_cg hT (uses_lo (by omega)) (fun i a b => uses_o (by omega)) (hw.router hr')
end WO
end
section
/-! THE REFERENCE: asking -/
section REF5
variable {L : Nat} {xs : Nat → Int32} {f i k r p q c j n B b : Nat} {x y v a z name flow place : Int32} {s : St} {F G : Fm} {Q : Option MV → St → Prop}
theorem asked_o (h : i ≠ 165 + 6 * r + 1) (h2 : i ≠ 165 + 6 * r + 2) : askedF F r name i = F i := by
  simp only [askedF]
  rw [if_neg h, if_neg h2]
theorem asked_put (hw : WF F B) (hr : r < 4) : putF (putF F (165 + 6 * r + 1) (F (165 + 6 * r + 1) + nI 1)) (165 + 6 * r + 2) (putF F (165 + 6 * r + 1) (F (165 + 6 * r + 1) + nI 1) (165 + 6 * r + 2) + nI (wayF (putF F (165 + 6 * r + 1) (F (165 + 6 * r + 1) + nI 1)) (homeF (putF F (165 + 6 * r + 1) (F (165 + 6 * r + 1) + nI 1)) name (nI 1)))) = askedF F r name := by
  have hlo : ∀ i, i < 29 → putF F (165 + 6 * r + 1) (F (165 + 6 * r + 1) + nI 1) i = F i := fun i hi => putF_ne _ _ (by omega)
  rw [homeF_cg hw hlo, wayF_cg hw hlo (homeF_ltS hw)]
  funext i
  simp only [putF, askedF]
  (repeat' split) <;> first | rfl | omega | (exfalso; omega) | (subst_vars; rfl)
theorem WF_asked (hw : WF F B) (hr : r < 4) : WF (askedF F r name) B := WF_cnt hw hr (fun i hi => asked_o (by omega) (by omega))
theorem purge_le : ∀ n F, n ≤ cM F r → WF F B → r < cR F → WF (purgeF r k n F) B ∧ cM (purgeF r k n F) r ≤ cM F r ∧ ∀ i, i < 165 → purgeF r k n F i = F i := by
  intro n
  induction n with
  | zero => intro F _ hw hr; exact ⟨hw, Nat.le_refl _, fun _ _ => rfl⟩
  | succ n ih =>
    intro F hn hw hr
    have h4 := hw.r2
    unfold purgeF
    by_cases h : F (mA r n) = nI k
    · rw [if_pos h]
      have w := WF_drop hw hr (p := n) (by omega)
      obtain ⟨e1, e2⟩ := drops_c (p := n) (hw.router hr) (by omega)
      have e3 : cR (dropsF F r n) = cR F := by unfold cR; rw [drops_lo (by omega)]
      obtain ⟨g1, g2, g3⟩ := ih (dropsF F r n) (by omega) w (by omega)
      exact ⟨g1, by omega, fun i hi => by rw [g3 i hi, drops_lo hi]⟩
    · rw [if_neg h]
      exact ih F (by omega) hw hr
/-- behind the purge no map of site k is left -/
theorem purge_no : ∀ n F, n ≤ cM F r → WF F B → r < cR F → (∀ p, n ≤ p → p < cM F r → F (mA r p) ≠ nI k) → ∀ p, p < cM (purgeF r k n F) r → purgeF r k n F (mA r p) ≠ nI k := by
  intro n
  induction n with
  | zero => intro F _ hw hr h p hp; exact h p (by omega) hp
  | succ n ih =>
    intro F hn hw hr hno
    have h4 := hw.r2
    unfold purgeF
    by_cases h : F (mA r n) = nI k
    · rw [if_pos h]
      have w := WF_drop hw hr (p := n) (by omega)
      obtain ⟨e1, e2⟩ := drops_c (p := n) (hw.router hr) (by omega)
      have e3 : cR (dropsF F r n) = cR F := by unfold cR; rw [drops_lo (by omega)]
      refine ih (dropsF F r n) (by omega) w (by omega) (fun p h1 h2 => ?_)
      have e5 : dropsF F r n (mA r p) = F (mA r (if n ≤ p then p + 1 else p)) := drops_map (j := 0) (by omega) (by omega) (by omega)
      rw [e5, if_pos h1]
      exact hno _ (by omega) (by omega)
    · rw [if_neg h]
      refine ih F (by omega) hw hr (fun p h1 h2 => ?_)
      rcases Nat.lt_or_ge n p with g | g
      · exact hno p (by omega) h2
      · have : p = n := by omega
        rw [this]; exact h
def cutF (F : Fm) (r k : Nat) : Fm := if cM (purgeF r k (cM F r) F) r = 5 then dropsF (purgeF r k (cM F r) F) r 4 else purgeF r k (cM F r) F
theorem newF_eq : newF F r k = fillF (roomF (cutF F r k) r (cM (cutF F r k) r)) r k := rfl
theorem cut_ok (hw : WF F B) (hr : r < cR F) : WF (cutF F r k) B ∧ cM (cutF F r k) r ≤ 4 ∧ (∀ i, i < 165 → cutF F r k i = F i) ∧ ∀ p, p < cM (cutF F r k) r → cutF F r k (mA r p) ≠ nI k := by
  have h4 := hw.r2
  obtain ⟨g1, g2, g3⟩ := purge_le (k := k) (cM F r) F (Nat.le_refl _) hw hr
  have g4 := purge_no (k := k) (cM F r) F (Nat.le_refl _) hw hr (fun p a b => absurd a (by omega))
  have e3 : cR (purgeF r k (cM F r) F) = cR F := by unfold cR; rw [g3 3 (by omega)]
  have g5 := (g1.router (r := r) (by omega)).2.1
  unfold cutF
  by_cases h : cM (purgeF r k (cM F r) F) r = 5
  · rw [if_pos h]
    obtain ⟨e1, e2⟩ := drops_c (p := 4) (g1.router (r := r) (by omega)) (by omega)
    refine ⟨WF_drop g1 (by omega) (by omega), by omega, fun i hi => by rw [drops_lo hi, g3 i hi], fun p hp => ?_⟩
    have e5 : dropsF (purgeF r k (cM F r) F) r 4 (mA r p) = purgeF r k (cM F r) F (mA r (if 4 ≤ p then p + 1 else p)) := drops_map (j := 0) (by omega) (by omega) (by omega)
    rw [e5]
    apply g4
    split <;> omega
  · rw [if_neg h]
    exact ⟨g1, by omega, g3, g4⟩
end REF5
end
section
/-! THE REFERENCE: a new map -/
def newM (F : Fm) (k j : Nat) : Int32 := if j = 0 then nI k else if j = 1 then F (29 + 17 * k + 3) else if j = 2 then F 0 + F 4 else if j = 3 then nI 0 else F (29 + 17 * k + 5 + (j - 4))
section REF6
variable {L : Nat} {xs : Nat → Int32} {f i k r p q c j n B b : Nat} {x y v a z name flow place : Int32} {s : St} {F G : Fm} {Q : Option MV → St → Prop}
theorem fr_lo (h : i < 165) : fillF (roomF G r c) r k i = G i := by
  have h1 := mA_eq r 0
  have h2 := mA_eq r 1
  simp only [fillF, roomF]
  rw [if_neg (by omega), if_neg (by omega), if_neg (by omega), if_neg (by omega), if_neg (by omega), if_neg (by omega), if_neg (by omega)]
theorem fr_o (hr : r < 4) (h : i ≠ 165 + 6 * r) (hm : i < mA r 0 ∨ mA r (c + 1) ≤ i) : fillF (roomF G r c) r k i = G i := by
  have h1 := mA_eq r 0
  have h2 := mA_eq r 1
  have h3 := mA_eq r (c + 1)
  have h4 := mA_eq r c
  simp only [fillF, roomF]
  rw [if_neg (by omega), if_neg (by omega), if_neg (by omega), if_neg (by omega), if_neg (by omega), if_neg (by omega), if_neg (by omega)]
theorem fr_c (hr : r < 4) : fillF (roomF G r c) r k (165 + 6 * r) = G (165 + 6 * r) + nI 1 := by
  have h2 := mA_eq r 1
  show (if 165 + 6 * r = 165 + 6 * r then roomF G r c (165 + 6 * r) + nI 1 else _) = _
  rw [if_pos rfl]
  simp only [roomF]
  rw [if_neg (by omega)]
theorem fr_0 (hr : r < 4) (hk : k < 8) (hj : j < 16) : fillF (roomF G r c) r k (mA r 0 + j) = newM G k j := by
  have h1 := mA_eq r 0
  have h2 := mA_eq r 1
  have e : ∀ i, i < 165 → roomF G r c i = G i := fun i hi => by
    simp only [roomF]
    rw [if_neg (by omega)]
  simp only [fillF, newM]
  rw [if_neg (by omega)]
  by_cases h0 : j = 0
  · rw [if_pos (by omega), if_pos h0]
  rw [if_neg (by omega), if_neg h0]
  by_cases h0 : j = 1
  · rw [if_pos (by omega), if_pos h0, e _ (by omega)]
  rw [if_neg (by omega), if_neg h0]
  by_cases h0 : j = 2
  · rw [if_pos (by omega), if_pos h0, e _ (by omega), e _ (by omega)]
  rw [if_neg (by omega), if_neg h0]
  by_cases h0 : j = 3
  · rw [if_pos (by omega), if_pos h0]
  rw [if_neg (by omega), if_neg h0, if_pos (by omega), e _ (by omega)]
  congr 1
  omega
theorem fr_m (hr : r < 4) (h0 : 0 < q) (hq : q ≤ c) (hj : j < 16) : fillF (roomF G r c) r k (mA r q + j) = G (mA r (q - 1) + j) := by
  have h1 := mA_eq r 0
  have h2 := mA_eq r 1
  have h3 := mA_eq r q
  have h4 := mA_eq r c
  have h5 := mA_eq r (q - 1)
  simp only [fillF, roomF]
  rw [if_neg (by omega), if_neg (by omega), if_neg (by omega), if_neg (by omega), if_neg (by omega), if_neg (by omega), if_pos (by omega)]
  congr 1
  omega
theorem new_cM (hw : WF F B) (hr : r < cR F) : cM (newF F r k) r = cM (cutF F r k) r + 1 ∧ newF F r k (165 + 6 * r) = nI (cM (cutF F r k) r + 1) := by
  have h4 := hw.r2
  obtain ⟨g1, g2, g3, g4⟩ := cut_ok (k := k) hw hr
  have e3 : cR (cutF F r k) = cR F := by unfold cR; rw [g3 3 (by omega)]
  have w := (g1.router (r := r) (by omega)).1
  have e : newF F r k (165 + 6 * r) = nI (cM (cutF F r k) r + 1) := by
    rw [newF_eq, fr_c (by omega), w, nI_add]
  refine ⟨?_, e⟩
  show nn (newF F r k (165 + 6 * r)) = _
  rw [e]
  exact nI_cl (by omega)
theorem new_lo (hw : WF F B) (hr : r < cR F) (h : i < 165) : newF F r k i = F i := by
  rw [newF_eq, fr_lo h]
  exact (cut_ok (k := k) hw hr).2.2.1 i h
theorem WF_new (hw : WF F B) (hr : r < cR F) (hk : k < cT F) : WF (newF F r k) B := by
  have h4 := hw.r2
  have ht := hw.t2
  obtain ⟨g1, g2, g3, g4⟩ := cut_ok (k := k) hw hr
  have e3 : cR (cutF F r k) = cR F := by unfold cR; rw [g3 3 (by omega)]
  have eT : cT (newF F r k) = cT F := by unfold cT; rw [new_lo hw hr (by omega)]
  have eT2 : cT (cutF F r k) = cT F := by unfold cT; rw [g3 2 (by omega)]
  obtain ⟨c1, c2⟩ := new_cM (k := k) hw hr
  refine WF_upd hw (fun i hi => new_lo hw hr hi) (fun r' hr' => ?_)
  by_cases e : r' = r
  · subst e
    have w := g1.router (r := r') (by omega)
    have e0 : newF F r' k (mA r' 0) = nI k := fr_0 (j := 0) (by omega) (by omega) (by omega)
    have em : ∀ q, 0 < q → q < cM (newF F r' k) r' → ∀ j, j < 16 → newF F r' k (mA r' q + j) = cutF F r' k (mA r' (q - 1) + j) := fun q a b j hj => by rw [newF_eq]; exact fr_m (by omega) a (by omega) hj
    refine ⟨by rw [c1, c2], by omega, fun q hq => ?_, fun q1 q2 a b e => ?_⟩
    · by_cases h0 : q = 0
      · subst h0
        refine ⟨by rw [e0, show nn (nI k) = k from nI_cl (by omega)], by rw [e0, eT, show nn (nI k) = k from nI_cl (by omega)]; exact hk, Or.inl (by rw [newF_eq, fr_0 (by omega) (by omega) (by omega)]; rfl), fun j hj => ?_⟩
        have hs := hw.flag hk j hj
        have ej : ∀ t, t < 4 → newF F r' k (mA r' 0 + 4 + 4 * j + t) = F (29 + 17 * k + 5 + 4 * j + t) := fun t ht => by
          have e1 : mA r' 0 + 4 + 4 * j + t = mA r' 0 + (4 + 4 * j + t) := by omega
          rw [e1, newF_eq, fr_0 (by omega) (by omega) (by omega)]
          unfold newM
          rw [if_neg (by omega), if_neg (by omega), if_neg (by omega), if_neg (by omega), g3 _ (by omega)]
          congr 1
          omega
        unfold slotOk at hs ⊢
        have t0 := ej 0 (by omega)
        rw [Nat.add_zero, Nat.add_zero] at t0
        rw [t0, ej 1 (by omega), ej 2 (by omega), ej 3 (by omega)]
        exact hs
      · exact WFmap_sh (em q (by omega) hq) (by rw [eT, eT2]) (w.2.2.1 (q - 1) (by omega))
    · by_cases a0 : q1 = 0 <;> by_cases b0 : q2 = 0
      · omega
      · exfalso
        rw [a0, e0] at e
        have := em q2 (by omega) b 0 (by omega)
        rw [Nat.add_zero, Nat.add_zero] at this
        exact g4 (q2 - 1) (by omega) (by rw [← this, ← e])
      · exfalso
        rw [b0, e0] at e
        have := em q1 (by omega) a 0 (by omega)
        rw [Nat.add_zero, Nat.add_zero] at this
        exact g4 (q1 - 1) (by omega) (by rw [← this, e])
      · have t1 := em q1 (by omega) a 0 (by omega)
        have t2 := em q2 (by omega) b 0 (by omega)
        rw [Nat.add_zero, Nat.add_zero] at t1 t2
        have := w.2.2.2 (q1 - 1) (q2 - 1) (by omega) (by omega) (by rw [← t1, ← t2, e])
        omega
  · have h1 := mA_eq r' 0
    have h2 := mA_eq r' 5
    have h3 := mA_eq r 0
    have h6 := mA_eq r (cM (cutF F r k) r + 1)
    have w := g1.router (r := r') (by omega)
    refine WFrouter_cg (F := cutF F r k) (by rw [eT, eT2]) (by rw [newF_eq]; exact fr_o (by omega) (by omega) (by omega)) (fun i a b => by rw [newF_eq]; exact fr_o (by omega) (by omega) (by omega)) w
end REF6
end
section
/-! THE REFERENCE: asks, takes, sends -/
def flK (F : Fm) (r k j : Nat) : Fm := fun i => if i = 165 + 6 * r then F i + nI 1 else if i = mA r 0 then nI k else if i = mA r 0 + 1 then F (29 + 17 * k + 3) else if i = mA r 0 + 2 then F 0 + F 4 else if i = mA r 0 + 3 then nI 0 else if mA r 0 + 4 ≤ i ∧ i < mA r 0 + 4 + j then F (29 + 17 * k + 5 + (i - (mA r 0 + 4))) else F i
section REF7
variable {L : Nat} {xs : Nat → Int32} {f i k r p q c j n B b : Nat} {x y v a z name flow place : Int32} {s : St} {F G : Fm} {Q : Option MV → St → Prop}
theorem flK_0 (hr : r < 4) (hk : k < 8) : putF (putF (putF (putF (putF F (165 + 6 * r) (F (165 + 6 * r) + nI 1)) (mA r 0) (nI k)) (mA r 0 + 1) (F (29 + 17 * k + 3))) (mA r 0 + 2) (F 0 + F 4)) (mA r 0 + 3) (nI 0) = flK F r k 0 := by
  have hm := mA_eq r 0
  funext i
  simp only [putF, flK]
  (repeat' split) <;> first | rfl | omega | (exfalso; omega) | (subst_vars; rfl)
theorem flK_s (hr : r < 4) (hk : k < 8) (hj : j < 12) : putF (flK F r k j) (mA r 0 + 4 + j) (flK F r k j (29 + 17 * k + (5 + j))) = flK F r k (j + 1) := by
  have hm := mA_eq r 0
  have e : flK F r k j (29 + 17 * k + (5 + j)) = F (29 + 17 * k + 5 + j) := by
    simp only [flK]
    rw [if_neg (by omega), if_neg (by omega), if_neg (by omega), if_neg (by omega), if_neg (by omega), if_neg (by omega)]
    congr 1
    omega
  rw [e]
  funext i
  simp only [putF, flK]
  (repeat' split) <;> first | rfl | omega | (exfalso; omega) | (congr 1; omega)
theorem flK_e : flK F r k 12 = fillF F r k := by
  funext i
  simp only [flK, fillF]
theorem ansF_lt (h : ansF F name = some b) : b < cT F := ansN_lt _ _ h
theorem takeN_lt : ∀ n b, takeN F r name n = some b → b < n
  | 0, b, h => by cases h
  | n + 1, b, h => by
    unfold takeN at h
    split at h
    · cases h; exact Nat.lt_succ_self _
    · exact Nat.lt_succ_of_lt (takeN_lt n b h)
theorem end_ok : ∀ n F, n ≤ cM F r → WF F B → r < cR F → WF (endF r n F) B ∧ (∀ i, i < 165 → endF r n F i = F i) ∧ cM (endF r n F) r ≤ cM F r := by
  intro n
  induction n with
  | zero => intro F _ hw hr; exact ⟨hw, fun _ _ => rfl, Nat.le_refl _⟩
  | succ n ih =>
    intro F hn hw hr
    have h4 := hw.r2
    unfold endF
    by_cases h : (F (mA r n + 2)).toInt ≤ (F 0).toInt
    · rw [if_pos h]
      have w := WF_drop hw hr (p := n) (by omega)
      obtain ⟨e1, e2⟩ := drops_c (p := n) (hw.router hr) (by omega)
      have e3 : cR (dropsF F r n) = cR F := by unfold cR; rw [drops_lo (by omega)]
      obtain ⟨g1, g2, g3⟩ := ih (dropsF F r n) (by omega) w (by omega)
      exact ⟨g1, fun i hi => by rw [g2 i hi, drops_lo hi], by omega⟩
    · rw [if_neg h]
      exact ih F (by omega) hw hr
def tkS (F : Fm) (r : Nat) (o : Option Nat) : Int32 := match o with
  | none => nI 257
  | some b => F (29 + 17 * nn (F (mA r b)) + 1)
theorem takeN_s (n : Nat) : takeN F r name (n + 1) = if hasF F (nn (F (mA r n))) name ∧ (F (29 + 17 * nn (F (mA r n)) + 1)).toInt < (tkS F r (takeN F r name n)).toInt then some n else takeN F r name n := by
  rw [takeN]
  unfold tkB tkS
  cases takeN F r name n with
  | none => simp only [decide_eq_true_eq]; rfl
  | some b => simp only [decide_eq_true_eq]
end REF7
end
section
/-! THE REFERENCE: sends -/
section REF8
variable {L : Nat} {xs : Nat → Int32} {f i k r p q c j n B b : Nat} {x y v a z name flow place : Int32} {s : St} {F G : Fm} {Q : Option MV → St → Prop}
theorem asks_ok (hw : WF F B) (hr : r < cR F) : WF (asksF F r name).2 B ∧ (∀ i, i < 165 → (asksF F r name).2 i = F i) ∧ ((asksF F r name).1 = true → 1 ≤ cM (asksF F r name).2 r) ∧ ((asksF F r name).1 = false → (asksF F r name).2 = askedF F r name) := by
  have h4 := hw.r2
  have hwA := WF_asked (name := name) hw (show r < 4 by omega)
  have hrA : r < cR (askedF F r name) := by unfold cR; rw [asked_o (by omega) (by omega)]; exact hr
  have lo : ∀ i, i < 165 → askedF F r name i = F i := fun i hi => asked_o (by omega) (by omega)
  unfold asksF
  cases ho : ansF (askedF F r name) name with
  | none => exact ⟨hwA, lo, fun h => (nomatch h), fun _ => rfl⟩
  | some k =>
    have hk := ansF_lt ho
    refine ⟨WF_new hwA hrA hk, fun i hi => ?_, fun _ => ?_, fun h => (nomatch h)⟩
    · show newF _ _ _ i = _
      rw [new_lo hwA hrA hi, lo i hi]
    · show 1 ≤ cM (newF _ _ _) r
      rw [(new_cM hwA hrA).1]
      omega
theorem plus_o (h : i ≠ j) : plusF F j i = F i := if_neg h
theorem cR_of (h : ∀ i, i < 165 → G i = F i) : cR G = cR F := by unfold cR; rw [h 3 (by omega)]
theorem asked_cM (hr : r < 4) : cM (askedF F r name) r = cM F r := by unfold cM; rw [asked_o (by omega) (by omega)]
end REF8
end
section
/-! THE REFERENCE: its rows of states -/
/-- a store whose kept rows are G -/
def setK (s : St) (G : Fm) : St := (fun a b d => if a = 21 ∧ b = 0 then G d else s.1 a b d, s.2)
def keepG (G F : Fm) (c : Nat) : Fm := fun i => if 509 * c ≤ i ∧ i < 509 * c + 509 then F (i - 509 * c) else G i
def keK (G F : Fm) (c k : Nat) : Fm := fun i => if 509 * c ≤ i ∧ i < 509 * c + k then F (i - 509 * c) else G i
def mixF (F G : Fm) : Fm := fun i => if i < 509 then G i else F i
def miK (F G : Fm) (k : Nat) : Fm := fun i => if i < k then G i else F i
def shK (G : Fm) (k : Nat) : Fm := fun i => if i < k then G (i + 509) else G i
def recG (G F : Fm) (n : Nat) : Fm := if n = 5 then keepG (shK G 2036) F 4 else keepG G F n
def recN (n : Nat) : Nat := if n = 5 then 5 else n + 1
section REF9
variable {L : Nat} {xs : Nat → Int32} {f i k r p q c j n B b : Nat} {x y v a z name flow place : Int32} {s : St} {F G : Fm} {Q : Option MV → St → Prop}
theorem setK_k : (setK s G).1 21 0 i = G i := by
  show (if 21 = 21 ∧ 0 = 0 then G i else s.1 21 0 i) = G i
  rw [if_pos ⟨rfl, rfl⟩]
theorem setK_o {a b d : Nat} (h : a ≠ 21) : (setK s G).1 a b d = s.1 a b d := by
  show (if a = 21 ∧ b = 0 then G d else s.1 a b d) = _
  rw [if_neg fun q => h q.1]
theorem setNK_k : (setN (setK s G) F).1 21 0 i = G i := by rw [setN_o (by decide), setK_k]
theorem setNK_put : putV (setN (setK s G) F) 21 0 i x = setN (setK s (putF G i x)) F := by
  unfold setN setK putV putF
  apply Prod.ext
  · funext a b d
    show (if a = 21 ∧ b = 0 ∧ d = i then x else if a = 20 ∧ b = 0 then F d else if a = 21 ∧ b = 0 then G d else s.1 a b d) = (if a = 20 ∧ b = 0 then F d else if a = 21 ∧ b = 0 then (if d = i then x else G d) else s.1 a b d)
    by_cases h1 : a = 21 <;> by_cases h2 : b = 0 <;> simp [h1, h2]
  · rfl
theorem setNK_fv {d : Nat} : (setN (setK s G) F).1 10 0 d = s.1 10 0 d := by rw [setN_o (by decide), setK_o (by decide)]
theorem setNK_fvv (hs : s.1 10 0 i = x) (hl : lk 10 i 0 = none) : fv (setN (setK s G) F) 10 0 i = .inl x := by
  unfold fv
  rw [hl, setNK_fv, hs]
theorem setNK_fput : putV (setN (setK s G) F) 10 0 i x = setN (setK (putV s 10 0 i x) G) F := by
  unfold setN setK putV
  apply Prod.ext
  · funext a b d
    show (if a = 10 ∧ b = 0 ∧ d = i then x else if a = 20 ∧ b = 0 then F d else if a = 21 ∧ b = 0 then G d else s.1 a b d) = (if a = 20 ∧ b = 0 then F d else if a = 21 ∧ b = 0 then G d else if a = 10 ∧ b = 0 ∧ d = i then x else s.1 a b d)
    by_cases h1 : a = 10
    · subst h1; simp
    · simp [h1]
  · rfl
theorem putV_put : putV (putV s k b i x) k b i y = putV s k b i y := by
  unfold putV
  apply Prod.ext
  · funext a e d
    show (if a = k ∧ e = b ∧ d = i then y else if a = k ∧ e = b ∧ d = i then x else s.1 a e d) = (if a = k ∧ e = b ∧ d = i then y else s.1 a e d)
    split <;> rfl
  · rfl
theorem putV_at : (putV s k b i x).1 k b i = x := by
  show (if k = k ∧ b = b ∧ i = i then x else s.1 k b i) = x
  rw [if_pos ⟨rfl, rfl, rfl⟩]
theorem keK_0 : keK G F c 0 = G := by
  funext i
  simp only [keK]
  rw [if_neg (by omega)]
theorem keK_s : putF (keK G F c k) (509 * c + k) (F k) = keK G F c (k + 1) := by
  funext i
  simp only [putF, keK]
  (repeat' split) <;> first | rfl | omega | (exfalso; omega) | (congr 1; omega)
theorem miK_0 : miK F G 0 = F := by
  funext i
  simp only [miK]
  rw [if_neg (by omega)]
theorem miK_s : putF (miK F G k) k (G k) = miK F G (k + 1) := by
  funext i
  simp only [putF, miK]
  (repeat' split) <;> first | rfl | omega | (exfalso; omega) | (subst_vars; rfl)
theorem shK_0 : shK G 0 = G := by
  funext i
  simp only [shK]
  rw [if_neg (by omega)]
theorem shK_s : putF (shK G k) k (shK G k (k + 509)) = shK G (k + 1) := by
  have e : shK G k (k + 509) = G (k + 509) := by
    simp only [shK]
    rw [if_neg (by omega)]
  rw [e]
  funext i
  simp only [putF, shK]
  (repeat' split) <;> first | rfl | omega | (exfalso; omega) | (subst_vars; rfl)
end REF9
end
section
/-! THE REFERENCE: calls that change something -/
abbrev powB (z : Int32) : Prop := z = nI 1 ∨ z = nI 2 ∨ z = nI 4 ∨ z = nI 8 ∨ z = nI 16 ∨ z = nI 32 ∨ z = nI 64 ∨ z = nI 128 ∨ z = nI 256
abbrev blkB (a z : Int32) : Prop := powB z ∧ (0 ≤ a.toInt ∧ a.toInt ≤ 255) ∧ a - a / z * z = 0
abbrev iN (v : Int32) (n : Nat) : Prop := 0 ≤ v.toInt ∧ v.toInt < (n : Int)
abbrev meetF (F : Fm) (k : Nat) (a z : Int32) : Prop := a.toInt < (F (5 + 3 * k + 1) + F (5 + 3 * k + 2)).toInt ∧ (F (5 + 3 * k + 1)).toInt < (a + z).toInt
/-- a server of parent p meets the block -/
def anyM (F : Fm) (p a z : Int32) : Nat → Bool
  | 0 => false
  | n + 1 => anyM F p a z n || decide (1 ≤ n ∧ F (5 + 3 * n) = p ∧ meetF F n a z)
def serverF (F : Fm) (p a z : Int32) : Int32 × Fm :=
  if ¬ iN p (cS F) then (-1, F)
  else if ¬ (blkB a z ∧ holdF F (nn p) a z ∧ z.toInt < (F (5 + 3 * nn p + 2)).toInt) then (-2, F)
  else if anyM F p a z (cS F) = true then (-3, F)
  else if cS F = 8 then (-4, F)
  else (nI (cS F), fun i => if i = 5 + 3 * cS F then p else if i = 5 + 3 * cS F + 1 then a else if i = 5 + 3 * cS F + 2 then z else if i = 1 then F 1 + nI 1 else F i)
/-- a site has just this block -/
def anyS (F : Fm) (a z : Int32) : Nat → Bool
  | 0 => false
  | n + 1 => anyS F a z n || decide (F (29 + 17 * n) = a ∧ F (29 + 17 * n + 1) = z)
def siteF (F : Fm) (a z l : Int32) : Int32 × Fm :=
  if ¬ (blkB a z ∧ 1 ≤ l.toInt ∧ l.toInt ≤ 48) then (-2, F)
  else if anyS F a z (cT F) = true then (-3, F)
  else if cT F = 8 then (-4, F)
  else (nI (cT F), fun i => if i = 29 + 17 * cT F then a else if i = 29 + 17 * cT F + 1 then z else if i = 29 + 17 * cT F + 2 then l else if i = 29 + 17 * cT F + 3 then nI 1 else if 29 + 17 * cT F + 4 ≤ i ∧ i < 29 + 17 * cT F + 17 then nI 0 else if i = 2 then F 2 + nI 1 else F i)
def routerF (F : Fm) : Int32 × Fm :=
  if cR F = 4 then (-4, F)
  else (nI (cR F), fun i => if 165 + 6 * cR F ≤ i ∧ i < 165 + 6 * cR F + 6 then nI 0 else if i = 3 then F 3 + nI 1 else F i)
def fillSF (F : Fm) (k j v w x : Int32) : Int32 × Fm :=
  if ¬ (iN k (cT F) ∧ iN j 3) then (-1, F)
  else if ¬ (iN v 32 ∧ iN w 10 ∧ 1 ≤ x.toInt ∧ x.toInt ≤ 9) then (-2, F)
  else (F (29 + 17 * nn k + 3) + nI 1, fun i => if i = 29 + 17 * nn k + 5 + 4 * nn j then nI 1 else if i = 29 + 17 * nn k + 5 + 4 * nn j + 1 then v else if i = 29 + 17 * nn k + 5 + 4 * nn j + 2 then w else if i = 29 + 17 * nn k + 5 + 4 * nn j + 3 then x else if i = 29 + 17 * nn k + 3 then F i + nI 1 else F i)
def vacF (F : Fm) (k j : Int32) : Int32 × Fm :=
  if ¬ (iN k (cT F) ∧ iN j 3) then (-1, F)
  else if F (29 + 17 * nn k + 5 + 4 * nn j) = nI 0 then (-3, F)
  else (F (29 + 17 * nn k + 3) + nI 1, fun i => if i = 29 + 17 * nn k + 5 + 4 * nn j then nI 0 else if i = 29 + 17 * nn k + 3 then F i + nI 1 else F i)
def regF (F : Fm) (k : Int32) : Int32 × Fm :=
  if ¬ iN k (cT F) then (-1, F)
  else (F 0 + F (29 + 17 * nn k + 2), putF F (29 + 17 * nn k + 4) (F 0 + F (29 + 17 * nn k + 2)))
def unregF (F : Fm) (k : Int32) : Int32 × Fm :=
  if ¬ iN k (cT F) then (-1, F)
  else if ¬ (F 0).toInt < (F (29 + 17 * nn k + 4)).toInt then (-3, F)
  else (F (29 + 17 * nn k + 4) - F 0, putF F (29 + 17 * nn k + 4) (F 0))
def lifeF (F : Fm) (l : Int32) : Int32 × Fm :=
  if ¬ (1 ≤ l.toInt ∧ l.toInt ≤ 100) then (-2, F) else (F 4, putF F 4 l)
def passF (F : Fm) (h : Int32) : Int32 × Fm :=
  if ¬ (1 ≤ h.toInt ∧ h.toInt ≤ 99) then (-2, F)
  else if 9999 < (F 0 + h).toInt then (-3, F)
  else (F 0 + h, putF F 0 (F 0 + h))
def forgetF (F : Fm) (r : Int32) : Int32 × Fm :=
  if ¬ iN r (cR F) then (-1, F) else (F (165 + 6 * nn r), putF F (165 + 6 * nn r) (nI 0))
def letterF (F : Fm) (r name flow : Int32) : Int32 × Fm :=
  if ¬ iN r (cR F) then (-1, F)
  else if ¬ (iN name 256 ∧ iN flow 100) then (-2, F)
  else sendF F (nn r) name flow
/-- the store behind a call that is recorded -/
def recS (s : St) (G F : Fm) (n : Nat) (F' : Fm) : St := setN (setK (putV s 10 0 3 (nI (recN n))) (recG G F n)) F'
def doneS (s : St) (G F : Fm) (n : Nat) (o : Int32 × Fm) : St := if o.1.toInt < 0 then setN (setK s G) F else recS s G F n o.2
section REF10
variable {L : Nat} {xs : Nat → Int32} {f i k r p q c j n B b : Nat} {x y v a z name flow place : Int32} {s : St} {F G F' : Fm} {Q : Option MV → St → Prop}
theorem recS_eq {F' : Fm} : setN (recS s G F n F) F' = recS s G F n F' := setN_setN _ _ _
theorem recS_put : putV (recS s G F n F') 20 0 i x = recS s G F n (putF F' i x) := setN_put _ _ _ _
theorem recS_now : (recS s G F n F').1 20 0 i = F' i := setN_now _ _ _
theorem anyM_s (h : anyM F v a z n = true) : ∀ m, n ≤ m → anyM F v a z m = true := by
  intro m hm
  induction m with
  | zero => rw [show n = 0 by omega] at h; exact h
  | succ m ih =>
    by_cases e : n = m + 1
    · rw [← e]; exact h
    · show (_ || _) = true
      rw [ih (by omega)]
      rfl
theorem iN_nn (h : iN v n) (hn : n < 1000) : ∃ k : Nat, v = nI k ∧ k < n := by
  obtain ⟨k, e1, e2, e3⟩ := nI_ex h.1
  exact ⟨k, e1, by have := h.2; omega⟩
theorem iN_k (h : k < n) (hn : n < 1000) : iN (nI k) n := ⟨by rw [nI_toI (by omega)]; omega, by rw [nI_toI (by omega)]; omega⟩
theorem doneS_n {o : Int32 × Fm} (h : Q (some (.inl o.1)) (doneS s G F n o)) (e : o = (v, F')) (hv : v.toInt < 0) : Q (some (.inl v)) (setN (setK s G) F) := by
  subst e
  unfold doneS at h
  rw [if_pos hv] at h
  exact h
theorem doneS_p {o : Int32 × Fm} (h : Q (some (.inl o.1)) (doneS s G F n o)) (e : o = (v, F')) (hv : 0 ≤ v.toInt) : Q (some (.inl v)) (recS s G F n F') := by
  subst e
  unfold doneS at h
  rw [if_neg (show ¬ (v, F').1.toInt < 0 by dsimp only; omega)] at h
  exact h
theorem recS_go {P : Fm} {w : Int32} (h : Q (some (.inl v)) (recS s G F n F')) (hv : w = v) (hF : P = F') : Q (some (.inl w)) (setN (setK (putV s 10 0 3 (nI (recN n))) (recG G F n)) P) := by
  subst hv
  subst hF
  exact h
theorem loopD {P : Nat → Prop} (n : Nat) (step : ∀ k, k < n → P (k + 1) → P k) (last : P n) : ∀ k, k ≤ n → P k := fun k hk => loopN n step last k hk
end REF10
end
section
/-! THE REFERENCE: calls that change something, on -/
def zeK (F : Fm) (b k : Nat) : Fm := fun i => if b ≤ i ∧ i < b + k then nI 0 else F i
section REF11
variable {L : Nat} {xs : Nat → Int32} {f i k r p q c j n B b : Nat} {x y v a z w l name flow place : Int32} {s : St} {F G F' : Fm} {Q : Option MV → St → Prop}
theorem zeK_0 : zeK F b 0 = F := by
  funext i
  simp only [zeK]
  rw [if_neg (by omega)]
theorem zeK_s : putF (zeK F b k) (b + k) (nI 0) = zeK F b (k + 1) := by
  funext i
  simp only [putF, zeK]
  (repeat' split) <;> first | rfl | omega | (exfalso; omega) | (congr 1; omega)
end REF11
end
section
/-! THE REFERENCE: sites' calls -/
section REF12
variable {L : Nat} {xs : Nat → Int32} {f i k r p q c j n B b : Nat} {x y v a z w l name flow place : Int32} {s : St} {F G F' : Fm} {Q : Option MV → St → Prop}
theorem anyS_s (h : anyS F a z n = true) : ∀ m, n ≤ m → anyS F a z m = true := by
  intro m hm
  induction m with
  | zero => rw [show n = 0 by omega] at h; exact h
  | succ m ih =>
    by_cases e : n = m + 1
    · rw [← e]; exact h
    · show (_ || _) = true
      rw [ih (by omega)]
      rfl
end REF12
end
section
/-! THE REFERENCE: send, way, answer, undo, save, restore -/
section REF13
variable {L : Nat} {xs : Nat → Int32} {f i k r p q c j n B b : Nat} {x y v a z w l name flow place : Int32} {s : St} {F G F' : Fm} {Q : Option MV → St → Prop}
def answF (F : Fm) (name : Int32) : Int32 := if iN name 256 then optI (ansF F name) (-5) else -2
def wayA (F : Fm) (name which : Int32) : Int32 := if ¬ (iN name 256 ∧ iN which 2) then -2 else if which = nI 0 then nI (homeF F name (nI 1)) else nI (wayF F (homeF F name (nI 1)))
end REF13
end
section
/-! THE REFERENCE: undo, save, restore -/
section REF14
variable {L : Nat} {xs : Nat → Int32} {f i k r p q c j n B b : Nat} {x y v a z w l name flow place : Int32} {s : St} {F G F' : Fm} {Q : Option MV → St → Prop}
theorem setNK_22 : putV (setN (setK s G) F) 22 0 i x = setN (setK (putV s 22 0 i x) G) F := by
  unfold setN setK putV
  apply Prod.ext
  · funext a b d
    show (if a = 22 ∧ b = 0 ∧ d = i then x else if a = 20 ∧ b = 0 then F d else if a = 21 ∧ b = 0 then G d else s.1 a b d) = (if a = 20 ∧ b = 0 then F d else if a = 21 ∧ b = 0 then G d else if a = 22 ∧ b = 0 ∧ d = i then x else s.1 a b d)
    by_cases h1 : a = 22
    · subst h1; simp
    · simp [h1]
  · rfl
theorem setNK_22v : (setN (setK s G) F).1 22 0 i = s.1 22 0 i := by rw [setN_o (by decide), setK_o (by decide)]
theorem alen22 : alen 22 = 2 := rfl
theorem rowF (G : Fm) (c : Nat) : (fun k => G (509 * c + k)) = fun k => G (509 * c + k) := rfl
end REF14
end
section
/-! THE REFERENCE: counts -/
def cntB (p : Nat → Bool) : Nat → Nat
  | 0 => 0
  | n + 1 => cntB p n + (if p n = true then 1 else 0)
section REF15
variable {L : Nat} {xs : Nat → Int32} {f i k r q c j n B b : Nat} {x y v a z w l name flow place : Int32} {s : St} {F G F' : Fm} {Q : Option MV → St → Prop} {p : Nat → Bool}
theorem cntB_1 (h : p n = true) : cntB p (n + 1) = cntB p n + 1 := by show _ + (if _ then _ else _) = _; rw [if_pos h]
theorem cntB_0 (h : ¬ p n = true) : cntB p (n + 1) = cntB p n := by show _ + (if _ then _ else _) = _; rw [if_neg h]; rfl
theorem cntB_le : ∀ n, cntB p n ≤ n
  | 0 => Nat.le_refl _
  | n + 1 => by
    have := cntB_le n
    by_cases h : p n = true
    · rw [cntB_1 h]; omega
    · rw [cntB_0 h]; omega
def childP (F : Fm) (v : Int32) : Nat → Bool := fun k => decide (1 ≤ k ∧ F (5 + 3 * k) = v)
def upP (F : Fm) : Nat → Bool := fun k => decide (upF F k)
def homeP (F : Fm) (v : Int32) : Nat → Bool := fun k => decide (nI (homeF F (F (29 + 17 * k)) (F (29 + 17 * k + 1))) = v)
end REF15
end
section
/-! THE REFERENCE: sums -/
def sumN (F : Fm) (w : Nat) : Nat → Int32
  | 0 => nI 0
  | n + 1 => sumN F w n + F (165 + 6 * n + w)
def ansP (F : Fm) : Nat → Bool := fun k => decide (ansF F (nI k) ≠ none)
section REF16
variable {L : Nat} {xs : Nat → Int32} {f i k r q c j n B b w : Nat} {x y v a z l name flow place : Int32} {s : St} {F G F' : Fm} {Q : Option MV → St → Prop} {p : Nat → Bool}
def serverA (F : Fm) (v w : Int32) : Int32 := if ¬ iN v (cS F) then -1 else if ¬ iN w 6 then -2 else if w.toInt < 3 then F (5 + 3 * nn v + nn w) else if w.toInt = 3 then nI (cntB (childP F v) (cS F)) else if w.toInt = 4 then nI (wayF F (nn v)) else nI (cntB (homeP F v) (cT F))
def routA (F : Fm) (v w : Int32) : Int32 := if ¬ iN v (cR F) then -1 else if ¬ iN w 6 then -2 else F (165 + 6 * nn v + nn w)
def slotA (F : Fm) (v j w : Int32) : Int32 := if ¬ (iN v (cT F) ∧ iN j 3) then -1 else if ¬ iN w 3 then -2 else if F (29 + 17 * nn v + 5 + 4 * nn j) = nI 1 then F (29 + 17 * nn v + 5 + 4 * nn j + 1 + nn w) else -5
end REF16
end
section
/-! THE REFERENCE: server, share, map -/
section REF17
variable {L : Nat} {xs : Nat → Int32} {f i k r q c j n B b w : Nat} {x y v a z l name flow place : Int32} {s : St} {F G F' : Fm} {Q : Option MV → St → Prop} {p : Nat → Bool}
theorem ofN (m : Nat) : Int32.ofNat m = nI m := by unfold nI; rfl
theorem iN_of {a : Int32} {j n : Nat} (hq : a = Int32.ofNat j) (hj : j < n) (hn : n < 1000) : iN a n := by
  rw [hq, ofN]
  exact iN_k hj hn
end REF17
end
section
/-! THE REFERENCE: map, isAhead -/
def mapA (F : Fm) (v x w : Int32) : Int32 := if ¬ (iN v (cR F) ∧ iN x (cM F (nn v))) then -1 else if ¬ iN w 5 then -2 else if w.toInt < 4 then F (mA (nn v) (nn x) + nn w) else if (F 0).toInt < (F (mA (nn v) (nn x) + 2)).toInt then nI 1 else nI 0
section REF18
variable {L : Nat} {xs : Nat → Int32} {f i k r q c j n B b w m : Nat} {x y v a z l name flow place : Int32} {s : St} {F G F' : Fm} {Q : Option MV → St → Prop} {p : Nat → Bool}
abbrev aheadF (F : Fm) (k m : Nat) : Prop := (F 0).toInt < (F (29 + 17 * k + 4)).toInt ∧ ((F (29 + 17 * k + 4)).toInt < (F (29 + 17 * m + 4)).toInt ∨ (F (29 + 17 * k + 4) = F (29 + 17 * m + 4) ∧ k < m))
end REF18
end
section
/-! THE REFERENCE: map -/
section REF19
variable {L : Nat} {xs : Nat → Int32} {f i k r q c j n B b w m : Nat} {x y v a z l name flow place : Int32} {s : St} {F G F' : Fm} {Q : Option MV → St → Prop}
end REF19
end
section
/-! THE REFERENCE: share -/
def shaP (F : Fm) (k : Nat) (x : Int32) : Nat → Bool := fun j => decide (choF F (29 + 17 * k + 5) (nI j) = x)
def shareA (F : Fm) (v x : Int32) : Int32 := if ¬ iN v (cT F) then -1 else if ¬ iN x 32 then -2 else nI (cntB (shaP F (nn v) x) 100)
section REF20
variable {L : Nat} {xs : Nat → Int32} {f i k r q c j n B b w m : Nat} {x y v a z l name flow place : Int32} {s : St} {F G F' : Fm} {Q : Option MV → St → Prop}
end REF20
end
section
/-! THE REFERENCE: copiesOf, site, endingNext, total -/
def copP (F : Fm) (r : Nat) (v : Int32) : Nat → Bool := fun p => decide (F (mA r p) = v)
def copN (F : Fm) (v : Int32) : Nat → Nat
  | 0 => 0
  | r + 1 => copN F v r + cntB (copP F r v) (cM F r)
def siteA (F : Fm) (v w : Int32) : Int32 := if ¬ iN v (cT F) then -1 else if ¬ iN w 8 then -2 else if w.toInt < 5 then F (29 + 17 * nn v + nn w) else if w.toInt = 5 then nI (homeF F (F (29 + 17 * nn v)) (F (29 + 17 * nn v + 1))) else if w.toInt = 6 then bI (upF F (nn v)) else nI (copN F v (cR F))
def firN (p : Nat → Bool) : Nat → Nat → Option Nat
  | 0, _ => none
  | n + 1, k => if p k = true then some k else firN p n (k + 1)
def ahdP (F : Fm) (m : Nat) : Nat → Bool := fun k => decide (aheadF F k m)
def nxtP (F : Fm) (v : Int32) : Nat → Bool := fun k => decide ((F 0).toInt < (F (29 + 17 * k + 4)).toInt ∧ nI (cntB (ahdP F k) (cT F)) = v)
def nextA (F : Fm) (v : Int32) : Int32 := if v.toInt < 0 then -2 else optI (firN (nxtP F v) (cT F) 0) (-5)
section REF21
variable {L : Nat} {xs : Nat → Int32} {f i k r q c j n B b w m : Nat} {x y v a z l name flow place : Int32} {s : St} {F G F' : Fm} {Q : Option MV → St → Prop}
theorem firN_1 {p : Nat → Bool} (h : p k = true) : firN p (n + 1) k = some k := if_pos h
theorem firN_0 {p : Nat → Bool} (h : ¬ p k = true) : firN p (n + 1) k = firN p n (k + 1) := if_neg h
end REF21
end
section
/-! choices: which slot is chosen; letters end at a place -/
def ctr (F : Fm) (b : Nat) (lo : Int32) (k : Nat) : Int := if F (b + 4 * k) = nI 1 ∧ F (b + 4 * k + 2) = lo then (F (b + 4 * k + 3)).toInt else 0
def ctS (F : Fm) (b : Nat) (lo : Int32) : Nat → Int
  | 0 => 0
  | k + 1 => ctS F b lo k + ctr F b lo k
section REF22
variable {i k r p q c j n B b : Nat} {x y v a z lo left name flow place : Int32} {F G : Fm}
theorem ctr_nn (hs : slotOk F (b + 4 * k)) : 0 ≤ ctr F b lo k ∧ ctr F b lo k ≤ 9 := by
  unfold ctr
  split
  · rename_i h
    have := hs.2 h.1
    omega
  · omega
theorem ctS_zero : ∀ k, (∀ j, j < k → F (b + 4 * j) = nI 1 → F (b + 4 * j + 2) ≠ lo) → ctS F b lo k = 0
  | 0, _ => rfl
  | k + 1, h => by
    show ctS F b lo k + ctr F b lo k = 0
    rw [ctS_zero k (fun j hj => h j (by omega))]
    unfold ctr
    rw [if_neg (fun q => h k (by omega) q.1 q.2)]
    rfl
theorem ctS_le (hs : ∀ j, j < 3 → slotOk F (b + 4 * j)) : ∀ k, k ≤ 3 → 0 ≤ ctS F b lo k ∧ ctS F b lo k ≤ 9 * (k : Int)
  | 0, _ => by
    show 0 ≤ (0 : Int) ∧ (0 : Int) ≤ _
    omega
  | k + 1, h => by
    have h1 := ctS_le hs k (by omega)
    have h2 := ctr_nn (lo := lo) (hs k (by omega))
    show 0 ≤ ctS F b lo k + ctr F b lo k ∧ ctS F b lo k + ctr F b lo k ≤ _
    omega
theorem nI01 : ¬ nI 0 = nI 1 := by decide
set_option maxHeartbeats 4000000 in
set_option maxRecDepth 100000 in
theorem ls_ok (hs : ∀ j, j < 3 → slotOk F (b + 4 * j)) : ∀ k, k ≤ 3 → ((∀ j, j < k → F (b + 4 * j) = nI 0) ∧ lsN F b k = (nI 10, nI 0)) ∨ ((0 ≤ (lsN F b k).1.toInt ∧ (lsN F b k).1.toInt < 10) ∧ (∃ j, j < k ∧ F (b + 4 * j) = nI 1) ∧ (∀ j, j < k → F (b + 4 * j) = nI 1 → (lsN F b k).1.toInt ≤ (F (b + 4 * j + 2)).toInt) ∧ (lsN F b k).2.toInt = ctS F b (lsN F b k).1 k ∧ 1 ≤ (lsN F b k).2.toInt) := by
  intro k
  induction k with
  | zero => intro _; exact Or.inl ⟨fun j hj => absurd hj (by omega), rfl⟩
  | succ k ih =>
    intro hk
    have hsk := hs k (by omega)
    have ih := ih (by omega)
    have hle := ctS_le (lo := (lsN F b k).1) hs k (by omega)
    by_cases hf : F (b + 4 * k) = nI 1
    · have hb := hsk.2 hf
      by_cases hp : (F (b + 4 * k + 2)).toInt ≤ (lsN F b k).1.toInt
      · by_cases hl : (F (b + 4 * k + 2)).toInt < (lsN F b k).1.toInt
        · have e : lsN F b (k + 1) = (F (b + 4 * k + 2), F (b + 4 * k + 3)) := by
            rw [lsN, if_pos ⟨hf, hp⟩, if_pos hl]
          have hall : ∀ j, j < k → F (b + 4 * j) = nI 1 → (F (b + 4 * k + 2)).toInt < (F (b + 4 * j + 2)).toInt := by
            intro j hj hfj
            rcases ih with ih | ih
            · exact absurd ((ih.1 j hj).symm.trans hfj) nI01
            · have := ih.2.2.1 j hj hfj
              omega
          refine Or.inr ⟨by rw [e]; exact hb.2.1, ⟨k, by omega, hf⟩, fun j hj hfj => ?_, ?_, by rw [e]; exact hb.2.2.1⟩
          · rw [e]
            by_cases ejk : j = k
            · subst ejk; exact Int.le_refl _
            · exact Int.le_of_lt (hall j (by omega) hfj)
          · rw [e]
            dsimp only
            show _ = ctS F b (F (b + 4 * k + 2)) k + ctr F b (F (b + 4 * k + 2)) k
            rw [ctS_zero k (fun j hj hfj q => by have := hall j hj hfj; rw [q] at this; omega)]
            unfold ctr
            rw [if_pos ⟨hf, rfl⟩]
            omega
        · have e : lsN F b (k + 1) = (F (b + 4 * k + 2), (lsN F b k).2 + F (b + 4 * k + 3)) := by
            rw [lsN, if_pos ⟨hf, hp⟩, if_neg hl]
          have e2 : F (b + 4 * k + 2) = (lsN F b k).1 := Int32.toInt_inj.mp (by omega)
          rcases ih with ih | ih
          · have e3 : (lsN F b k).1 = nI 10 := by rw [ih.2]
            rw [e3] at hl
            have : (nI 10).toInt = 10 := by decide
            omega
          · have hadd : ((lsN F b k).2 + F (b + 4 * k + 3)).toInt = (lsN F b k).2.toInt + (F (b + 4 * k + 3)).toInt := by
              rw [Int32.toInt_add]
              apply Int.bmod_eq_of_le <;> omega
            refine Or.inr ⟨by rw [e]; exact hb.2.1, ⟨k, by omega, hf⟩, fun j hj hfj => ?_, ?_, ?_⟩
            · rw [e, e2]
              by_cases ejk : j = k
              · subst ejk
                show (lsN F b j).1.toInt ≤ _
                omega
              · exact ih.2.2.1 j (by omega) hfj
            · rw [e, e2]
              show _ = ctS F b (lsN F b k).1 k + ctr F b (lsN F b k).1 k
              unfold ctr
              rw [if_pos ⟨hf, e2⟩]
              have := ih.2.2.2.1
              show ((lsN F b k).2 + F (b + 4 * k + 3)).toInt = _
              omega
            · rw [e]
              have := ih.2.2.2.2
              show 1 ≤ ((lsN F b k).2 + F (b + 4 * k + 3)).toInt
              omega
      · have e : lsN F b (k + 1) = lsN F b k := by
          rw [lsN, if_neg (fun q => hp q.2)]
        rcases ih with ih | ih
        · exfalso
          have e3 : (lsN F b k).1 = nI 10 := by rw [ih.2]
          rw [e3] at hp
          have : (nI 10).toInt = 10 := by decide
          have hb2 := hb.2.1
          omega
        · refine Or.inr ⟨by rw [e]; exact ih.1, ⟨k, by omega, hf⟩, fun j hj hfj => ?_, ?_, by rw [e]; exact ih.2.2.2.2⟩
          · rw [e]
            by_cases ejk : j = k
            · subst ejk; omega
            · exact ih.2.2.1 j (by omega) hfj
          · rw [e]
            show _ = ctS F b (lsN F b k).1 k + ctr F b (lsN F b k).1 k
            unfold ctr
            rw [if_neg (fun q => by have := q.2; rw [this] at hp; omega)]
            have := ih.2.2.2.1
            omega
    · have h0 : F (b + 4 * k) = nI 0 := by
        rcases hsk.1 with h | h
        · exact h
        · exact absurd h hf
      have e : lsN F b (k + 1) = lsN F b k := by
        rw [lsN, if_neg (fun q => hf q.1)]
      rcases ih with ih | ih
      · left
        refine ⟨fun j hj => ?_, by rw [e]; exact ih.2⟩
        by_cases ejk : j = k
        · subst ejk; exact h0
        · exact ih.1 j (by omega)
      · obtain ⟨j0, g1, g2⟩ := ih.2.1
        refine Or.inr ⟨by rw [e]; exact ih.1, ⟨j0, by omega, g2⟩, fun j hj hfj => ?_, ?_, by rw [e]; exact ih.2.2.2.2⟩
        · rw [e]
          by_cases ejk : j = k
          · subst ejk; exact absurd hfj hf
          · exact ih.2.2.1 j (by omega) hfj
        · rw [e]
          show _ = ctS F b (lsN F b k).1 k + ctr F b (lsN F b k).1 k
          unfold ctr
          rw [if_neg (fun q => hf q.1)]
          have := ih.2.2.2.1
          omega
set_option maxHeartbeats 4000000 in
set_option maxRecDepth 100000 in
theorem rem_ok (ha : 0 ≤ a.toInt) (hz : 1 ≤ z.toInt) : (a - a / z * z).toInt = a.toInt % z.toInt := by
  have h1 := a.toInt_lt
  have h2 := z.toInt_lt
  have e1 : (a / z).toInt = a.toInt / z.toInt := by
    rw [Int32.toInt_div, Int.tdiv_eq_ediv_of_nonneg ha]
    have g1 : 0 ≤ a.toInt / z.toInt := Int.ediv_nonneg ha (by omega)
    have g2 : a.toInt / z.toInt ≤ a.toInt := Int.ediv_le_self _ ha
    apply Int.bmod_eq_of_le <;> omega
  have g3 : 0 ≤ a.toInt % z.toInt := Int.emod_nonneg _ (by omega)
  have g4 : z.toInt * (a.toInt / z.toInt) + a.toInt % z.toInt = a.toInt := Int.mul_ediv_add_emod _ _
  have g5 : 0 ≤ z.toInt * (a.toInt / z.toInt) := Int.mul_nonneg (by omega) (Int.ediv_nonneg ha (by omega))
  have e2 : (a / z * z).toInt = z.toInt * (a.toInt / z.toInt) := by
    rw [Int32.toInt_mul, e1, Int.mul_comm]
    apply Int.bmod_eq_of_le <;> omega
  rw [Int32.toInt_sub, e2]
  have e3 : a.toInt - z.toInt * (a.toInt / z.toInt) = a.toInt % z.toInt := by omega
  rw [e3]
  apply Int.bmod_eq_of_le <;> omega
theorem cho_at (hs : ∀ j, j < 3 → slotOk F (b + 4 * j)) : ∀ n k left, k + n = 3 → 0 ≤ left.toInt → left.toInt < ctS F b lo 3 - ctS F b lo k → ∃ j, j < 3 ∧ F (b + 4 * j) = nI 1 ∧ choN F b lo n k left = F (b + 4 * j + 1) := by
  intro n
  induction n with
  | zero =>
    intro k left hk h0 h1
    have : k = 3 := by omega
    subst this
    omega
  | succ n ih =>
    intro k left hk h0 h1
    have hsk := hs k (by omega)
    have hle := ctS_le (lo := lo) hs 3 (by omega)
    have hle2 := ctS_le (lo := lo) hs k (by omega)
    have e1 : ctS F b lo (k + 1) = ctS F b lo k + ctr F b lo k := rfl
    unfold choN
    by_cases hc : F (b + 4 * k) = nI 1 ∧ F (b + 4 * k + 2) = lo
    · have e2 : ctr F b lo k = (F (b + 4 * k + 3)).toInt := if_pos hc
      have hb := hsk.2 hc.1
      have hsub : (left - F (b + 4 * k + 3)).toInt = left.toInt - (F (b + 4 * k + 3)).toInt := by
        rw [Int32.toInt_sub]
        apply Int.bmod_eq_of_le <;> omega
      rw [if_pos hc]
      by_cases hl : (left - F (b + 4 * k + 3)).toInt < 0
      · rw [if_pos hl]
        exact ⟨k, by omega, hc.1, rfl⟩
      · rw [if_neg hl]
        exact ih (k + 1) _ (by omega) (by omega) (by omega)
    · have e2 : ctr F b lo k = 0 := if_neg hc
      rw [if_neg hc]
      exact ih (k + 1) _ (by omega) h0 (by omega)
theorem cho_none (h0 : ∀ j, j < 3 → F (b + 4 * j) = nI 0) : ∀ n k left, k + n = 3 → choN F b lo n k left = -5 := by
  intro n
  induction n with
  | zero => intro k left _; rfl
  | succ n ih =>
    intro k left hk
    unfold choN
    rw [if_neg (fun q => nI01 ((h0 k (by omega)).symm.trans q.1))]
    exact ih (k + 1) left (by omega)
theorem choF_cases (hs : ∀ j, j < 3 → slotOk F (b + 4 * j)) (hf : 0 ≤ flow.toInt) : ((∀ j, j < 3 → F (b + 4 * j) = nI 0) ∧ choF F b flow = -5) ∨ ((∃ j, j < 3 ∧ F (b + 4 * j) = nI 1) ∧ ∃ j, j < 3 ∧ F (b + 4 * j) = nI 1 ∧ choF F b flow = F (b + 4 * j + 1)) := by
  rcases ls_ok hs 3 (by omega) with h | h
  · left
    refine ⟨h.1, ?_⟩
    unfold choF
    exact cho_none h.1 3 0 _ rfl
  · right
    refine ⟨h.2.1, ?_⟩
    unfold choF
    have hz : ¬ (lsN F b 3).2 = 0 := fun q => by
      have := h.2.2.2.2
      rw [q] at this
      have : (0 : Int32).toInt = 0 := rfl
      omega
    rw [if_neg hz]
    have hr := rem_ok hf h.2.2.2.2
    have g3 := Int.emod_nonneg flow.toInt (b := (lsN F b 3).2.toInt) (by have := h.2.2.2.2; omega)
    have g4 := Int.emod_lt_of_pos flow.toInt (b := (lsN F b 3).2.toInt) (by have := h.2.2.2.2; omega)
    have h4 := h.2.2.2.1
    refine cho_at hs 3 0 _ rfl (by omega) ?_
    show _ < ctS F b _ 3 - 0
    omega
end REF22
end
section
/-! letters: what sending leaves well, and that it tells a place -/
section REF23
variable {i k r p q c j n B b : Nat} {x y v a z lo left name flow place : Int32} {F G : Fm}
theorem ansN_up : ∀ n b, ansN F name n = some b → upF F b ∧ hasF F b name
  | 0, b, h => by cases h
  | n + 1, b, h => by
    unfold ansN at h
    split at h
    · rename_i hc
      cases h
      exact ⟨hc.1.1, hc.1.2.1⟩
    · exact ansN_up n b h
theorem slot_pl (hs : slotOk F (b + 4 * j)) (h : F (b + 4 * j) = nI 1) : 0 ≤ (F (b + 4 * j + 1)).toInt ∧ (F (b + 4 * j + 1)).toInt < 32 := (hs.2 h).1
set_option maxHeartbeats 4000000 in
set_option maxRecDepth 100000 in
theorem isAt_pos (hw : WF F B) (hk : k < cT F) (h : isAtF F k place) : 0 ≤ place.toInt ∧ place.toInt < 32 := by
  rcases h.1 with ⟨h1, h2⟩ | ⟨h1, h2⟩ | ⟨h1, h2⟩
  · have := ((hw.flag hk 0 (by omega)).2 h1).1
    rw [← h2]; exact this
  · have := ((hw.flag hk 1 (by omega)).2 h1).1
    rw [← h2]; exact this
  · have := ((hw.flag hk 2 (by omega)).2 h1).1
    rw [← h2]; exact this
set_option maxHeartbeats 4000000 in
set_option maxRecDepth 100000 in
theorem prox_nn (h : iN name 256) : 32 ≤ (proxF name).toInt ∧ (proxF name).toInt < 40 := by
  have e32 : (nI 32).toInt = 32 := by decide
  have e1 : (name / nI 32).toInt = name.toInt / 32 := by
    rw [Int32.toInt_div, e32, Int.tdiv_eq_ediv_of_nonneg h.1]
    apply Int.bmod_eq_of_le <;> omega
  unfold proxF
  rw [Int32.toInt_add, e1, e32]
  have : (32 + name.toInt / 32).bmod 4294967296 = 32 + name.toInt / 32 := by
    apply Int.bmod_eq_of_le <;> omega
  rw [this]
  omega
set_option maxHeartbeats 4000000 in
set_option maxRecDepth 100000 in
theorem asks_cho (hw : WF F B) (hr : r < cR F) (hf : 0 ≤ flow.toInt) (h1 : (asksF F r name).1 = true) : 0 ≤ (choF (asksF F r name).2 (mA r 0 + 4) flow).toInt ∧ (choF (asksF F r name).2 (mA r 0 + 4) flow).toInt < 32 := by
  have h4 := hw.r2
  obtain ⟨a1, a2, a3, a4⟩ := asks_ok (name := name) hw hr
  have a3 := a3 h1
  have wA := a1.router (r := r) (by rw [cR_of a2]; exact hr)
  obtain ⟨-, -, -, hs⟩ := wA.2.2.1 0 (by omega)
  have hwA := WF_asked (name := name) hw (show r < 4 by omega)
  have m0 := mA_eq r 0
  cases ho : ansF (askedF F r name) name with
  | none =>
    have e : asksF F r name = (false, askedF F r name) := by unfold asksF; rw [ho]
    rw [e] at h1
    cases h1
  | some k =>
    have e : asksF F r name = (true, newF (askedF F r name) r k) := by unfold asksF; rw [ho]
    have hup := (ansN_up _ _ ho).1
    have hk := ansF_lt ho
    have hrA : r < cR (askedF F r name) := by unfold cR; rw [asked_o (by omega) (by omega)]; exact hr
    have ht := hwA.t2
    obtain ⟨g1, g2, g3, g4⟩ := cut_ok (k := k) hwA hrA
    have hfl : ∃ j, j < 3 ∧ (asksF F r name).2 (mA r 0 + 4 + 4 * j) = nI 1 := by
      have ex : ∃ j, j < 3 ∧ askedF F r name (29 + 17 * k + 5 + 4 * j) = nI 1 := by
        rcases hup.2 with h | h | h
        · exact ⟨0, by omega, h⟩
        · exact ⟨1, by omega, h⟩
        · exact ⟨2, by omega, h⟩
      obtain ⟨j, hj, hq⟩ := ex
      refine ⟨j, hj, ?_⟩
      rw [e]
      show newF (askedF F r name) r k (mA r 0 + 4 + 4 * j) = nI 1
      rw [newF_eq, show mA r 0 + 4 + 4 * j = mA r 0 + (4 + 4 * j) by omega, fr_0 (by omega) (by omega) (by omega)]
      unfold newM
      rw [if_neg (by omega), if_neg (by omega), if_neg (by omega), if_neg (by omega), g3 _ (by omega), show 29 + 17 * k + 5 + (4 + 4 * j - 4) = 29 + 17 * k + 5 + 4 * j by omega]
      exact hq
    rcases choF_cases (b := mA r 0 + 4) hs hf with h | h
    · obtain ⟨j, hj, hq⟩ := hfl
      exact absurd ((h.1 j hj).symm.trans hq) nI01
    · obtain ⟨j, hj, hq, hv⟩ := h.2
      rw [hv]
      exact slot_pl (hs j hj) hq
set_option maxHeartbeats 4000000 in
set_option maxRecDepth 100000 in
theorem WF_mark (hw : WF F B) (hr : r < cR F) (hc : 0 < cM F r) : WF (fun i => if i = mA r 0 + 3 then nI 1 else F i) B := by
  have h4 := hw.r2
  have m0 := mA_eq r 0
  have hlo : ∀ i, i < 189 → (fun i => if i = mA r 0 + 3 then nI 1 else F i) i = F i := fun i hi => if_neg (by omega)
  refine WF_upd hw (fun i hi => hlo i (by omega)) (fun r' hr' => ?_)
  have hT : cT (fun i => if i = mA r 0 + 3 then nI 1 else F i) = cT F := by unfold cT; rw [hlo 2 (by omega)]
  have w := hw.router hr'
  have hC : cM (fun i => if i = mA r 0 + 3 then nI 1 else F i) r' = cM F r' := by unfold cM; rw [hlo _ (by omega)]
  have ne : ∀ q, mA r' q ≠ mA r 0 + 3 := fun q => by have := mA_eq r' q; omega
  refine ⟨by rw [hC, hlo _ (by omega)]; exact w.1, by rw [hC]; exact w.2.1, fun q hq => ?_, fun q1 q2 h1 h2 => ?_⟩
  · rw [hC] at hq
    obtain ⟨g1, g2, g3, g4⟩ := w.2.2.1 q hq
    have e0 : (fun i => if i = mA r 0 + 3 then nI 1 else F i) (mA r' q) = F (mA r' q) := if_neg (ne q)
    refine ⟨by rw [e0]; exact g1, by rw [e0, hT]; exact g2, ?_, fun j hj => slotOk_cg (fun i a b => if_neg (by have := mA_eq r' q; omega)) (g4 j hj)⟩
    show (if mA r' q + 3 = mA r 0 + 3 then nI 1 else F (mA r' q + 3)) = nI 0 ∨ (if mA r' q + 3 = mA r 0 + 3 then nI 1 else F (mA r' q + 3)) = nI 1
    split
    · exact Or.inr rfl
    · exact g3
  · rw [hC] at h1 h2
    show (if mA r' q1 = mA r 0 + 3 then nI 1 else F (mA r' q1)) = (if mA r' q2 = mA r 0 + 3 then nI 1 else F (mA r' q2)) → _
    rw [if_neg (ne q1), if_neg (ne q2)]
    exact w.2.2.2 q1 q2 h1 h2
set_option maxHeartbeats 4000000 in
set_option maxRecDepth 100000 in
theorem rest_ok (hG : WF G B) (hr : r < cR G) (hp : p < cM G r) (hn : iN name 256) (hf : 0 ≤ flow.toInt) : WF (restF G r p name flow).2 B ∧ (∀ i, i < 165 → (restF G r p name flow).2 i = G i) ∧ 0 ≤ (restF G r p name flow).1.toInt := by
  have h4 := hG.r2
  have m0 := mA_eq r 0
  have hU := WF_uses hG hr hp
  have uR : r < cR (usesF G r p) := by unfold cR; rw [uses_lo (by omega)]; exact hr
  have uC : cM (usesF G r p) r = cM G r := uses_c
  have uL : ∀ i, i < 165 → usesF G r p i = G i := fun i hi => uses_lo (by omega)
  unfold restF
  dsimp only
  generalize hU' : usesF G r p = U at *
  have wU := hU.router uR
  obtain ⟨m1, m2, -, -⟩ := wU.2.2.1 0 (by omega)
  have hV : WF (plusF U (165 + 6 * r + 5)) B := WF_cnt (r := r) hU (by omega) (fun i hi => plus_o (by omega))
  have vR : r < cR (plusF U (165 + 6 * r + 5)) := by unfold cR; rw [plus_o (by omega)]; exact uR
  have vC : cM (plusF U (165 + 6 * r + 5)) r = cM G r := by unfold cM; rw [plus_o (by omega)]; exact uC
  have hD := WF_drop hV vR (p := 0) (by omega)
  have dR : r < cR (dropsF (plusF U (165 + 6 * r + 5)) r 0) := by unfold cR; rw [drops_lo (by omega)]; exact vR
  have dL : ∀ i, i < 165 → dropsF (plusF U (165 + 6 * r + 5)) r 0 i = G i := fun i hi => by rw [drops_lo hi, plus_o (by omega), uL i hi]
  by_cases hA : isAtF U (nn (U (mA r 0))) (choF U (mA r 0 + 4) flow)
  · rw [if_pos hA]
    refine ⟨?_, ?_, (isAt_pos hU m2 hA).1⟩
    · dsimp only
      split
      · exact hU
      · exact WF_mark hU uR (by omega)
    · intro i hi
      dsimp only
      split
      · exact uL i hi
      · dsimp only
        rw [if_neg (by omega)]; exact uL i hi
  · rw [if_neg hA]
    obtain ⟨a1, a2, a3, a4⟩ := asks_ok (name := name) hD dR
    have ac := asks_cho (flow := flow) (name := name) hD dR hf
    generalize hAs : asksF (dropsF (plusF U (165 + 6 * r + 5)) r 0) r name = A at *
    obtain ⟨ab, aG⟩ := A
    cases ab with
    | true => exact ⟨a1, fun i hi => (a2 i hi).trans (dL i hi), (ac rfl).1⟩
    | false => exact ⟨WF_cnt (r := r) a1 (by omega) (fun i hi => plus_o (by omega)), fun i hi => by
        show plusF aG (165 + 6 * r + 4) i = _
        rw [plus_o (by omega)]
        exact (a2 i hi).trans (dL i hi), by have := prox_nn hn; show 0 ≤ (proxF name).toInt; omega⟩
set_option maxHeartbeats 4000000 in
set_option maxRecDepth 100000 in
theorem send_ok (hw : WF F B) (hr : r < cR F) (hn : iN name 256) (hf : 0 ≤ flow.toInt) : WF (sendF F r name flow).2 B ∧ (∀ i, i < 165 → (sendF F r name flow).2 i = F i) ∧ 0 ≤ (sendF F r name flow).1.toInt := by
  have h4 := hw.r2
  have hw1 : WF (plusF F (165 + 6 * r + 3)) B := WF_cnt (r := r) hw (by omega) (fun i hi => plus_o (by omega))
  have hr1 : r < cR (plusF F (165 + 6 * r + 3)) := by unfold cR; rw [plus_o (by omega)]; exact hr
  obtain ⟨e1, e2, e3⟩ := end_ok (cM (plusF F (165 + 6 * r + 3)) r) _ (Nat.le_refl _) hw1 hr1
  have hl1 : ∀ i, i < 165 → plusF F (165 + 6 * r + 3) i = F i := fun i hi => plus_o (by omega)
  have px := prox_nn hn
  unfold sendF
  dsimp only
  generalize hF1 : plusF F (165 + 6 * r + 3) = F1 at *
  generalize hF2 : endF r (cM F1 r) F1 = F2 at *
  have hr2 : r < cR F2 := by rw [cR_of e2]; exact hr1
  have hl2 : ∀ i, i < 165 → F2 i = F i := fun i hi => (e2 i hi).trans (hl1 i hi)
  obtain ⟨a1, a2, a3, a4⟩ := asks_ok (name := name) e1 hr2
  have aR : r < cR (asksF F2 r name).2 := by rw [cR_of a2]; exact hr2
  have aC := asked_cM (F := F2) (name := name) (r := r) (by omega)
  generalize hAs : asksF F2 r name = A at *
  obtain ⟨ab, aG⟩ := A
  have go : ∀ H p, WF H B → r < cR H → p < cM H r → (∀ i, i < 165 → H i = F i) → WF (restF H r p name flow).2 B ∧ (∀ i, i < 165 → (restF H r p name flow).2 i = F i) ∧ 0 ≤ (restF H r p name flow).1.toInt := by
    intro H p g1 g2 g3 g4
    obtain ⟨t1, t2, t3⟩ := rest_ok (name := name) (flow := flow) g1 g2 g3 hn hf
    exact ⟨t1, fun i hi => (t2 i hi).trans (g4 i hi), t3⟩
  have al : ∀ i, i < 165 → aG i = F i := fun i hi => (a2 i hi).trans (hl2 i hi)
  cases ho : takeN F2 r name (cM F2 r) with
  | none =>
    cases ab with
    | true => exact go aG 0 a1 aR (a3 rfl) al
    | false => exact ⟨WF_cnt (r := r) a1 (by omega) (fun i hi => plus_o (by omega)), fun i hi => by
        show plusF aG (165 + 6 * r + 4) i = _
        rw [plus_o (by omega)]
        exact al i hi, by show 0 ≤ (proxF name).toInt; omega⟩
  | some p =>
    have hp := takeN_lt _ _ ho
    dsimp only
    by_cases hm : F2 (mA r p + 3) = nI 1
    · rw [if_pos hm]
      cases ab with
      | true => exact go aG 0 a1 aR (a3 rfl) al
      | false =>
        have e4 : aG = askedF F2 r name := a4 rfl
        have hpA : p < cM aG r := by rw [e4, aC]; exact hp
        exact ⟨WF_cnt (r := r) (WF_drop a1 aR hpA) (by omega) (fun i hi => plus_o (by omega)), fun i hi => by
          show plusF (dropsF aG r p) (165 + 6 * r + 4) i = _
          rw [plus_o (by omega), drops_lo hi]
          exact al i hi, by show 0 ≤ (proxF name).toInt; omega⟩
    · rw [if_neg hm]
      exact go F2 p e1 hr2 hp hl2
end REF23
end
section
/-! THE REFERENCE: wouldReach, wouldAsk -/
def reachA (F : Fm) (v name flow x : Int32) : Int32 := if ¬ iN v (cR F) then -1 else if ¬ ((iN name 256 ∧ iN flow 100) ∧ iN x 100) then -2 else (sendF (putF F 0 (F 0 + x)) (nn v) name flow).1
def askA (F : Fm) (v name flow : Int32) : Int32 := if ¬ iN v (cR F) then -1 else if ¬ (iN name 256 ∧ iN flow 100) then -2 else (sendF F (nn v) name flow).2 (165 + 6 * nn v + 1) - F (165 + 6 * nn v + 1)
section REF24
variable {L : Nat} {xs : Nat → Int32} {f i k r p q c j n B b w m : Nat} {x y v a z l name flow place : Int32} {s : St} {F G F' : Fm} {Q : Option MV → St → Prop}
set_option maxHeartbeats 4000000 in
set_option maxRecDepth 100000 in
theorem WF_cgr (hw : WF F B) (h : ∀ i, 0 < i → i < 509 → G i = F i) (h0 : 0 ≤ (G 0).toInt ∧ (G 0).toInt ≤ 10200) : WF G B := by
  have e1 : cS G = cS F := by unfold cS; rw [h 1 (by omega) (by omega)]
  have e2 : cT G = cT F := by unfold cT; rw [h 2 (by omega) (by omega)]
  have e3 : cR G = cR F := by unfold cR; rw [h 3 (by omega) (by omega)]
  have hs := hw.s2
  have ht := hw.t2
  have hr := hw.r2
  refine ⟨?_, ?_, ?_, h0, ?_, fun k hk => ?_, fun k hk => ?_, fun r hk => ?_⟩
  · rw [h 1 (by omega) (by omega), e1]; exact hw.1
  · rw [h 2 (by omega) (by omega), e2]; exact hw.2.1
  · rw [h 3 (by omega) (by omega), e3]; exact hw.2.2.1
  · rw [h 4 (by omega) (by omega)]; exact hw.l
  · rw [e1] at hk
    have q := hw.server hk
    unfold WFserver at q ⊢
    rw [h (5 + 3 * k) (by omega) (by omega), h (5 + 3 * k + 1) (by omega) (by omega), h (5 + 3 * k + 2) (by omega) (by omega)]
    exact q
  · rw [e2] at hk
    have q := hw.site hk
    unfold WFsite at q ⊢
    rw [h (29 + 17 * k) (by omega) (by omega), h (29 + 17 * k + 1) (by omega) (by omega), h (29 + 17 * k + 2) (by omega) (by omega), h (29 + 17 * k + 3) (by omega) (by omega), h (29 + 17 * k + 4) (by omega) (by omega)]
    exact ⟨q.1, q.2.1, q.2.2.1, q.2.2.2.1, fun j hj => slotOk_cg (fun i h1 h2 => h i (by omega) (by omega)) (q.2.2.2.2 j hj)⟩
  · rw [e3] at hk
    have m0 := mA_eq r 0
    have m5 := mA_eq r 5
    exact WFrouter_cg e2 (h _ (by omega) (by omega)) (fun i a b => h i (by omega) (by omega)) (hw.router hk)
theorem WF_hour (hw : WF F B) (h0 : 0 ≤ x.toInt ∧ x.toInt ≤ 10200) : WF (putF F 0 x) B := WF_cgr hw (fun i h1 h2 => putF_ne _ _ (by omega)) (by rw [putF_at]; exact h0)
theorem back_F (hi : i < 509) : mixF F' (fun k => keepG G F 7 (509 * 7 + k)) i = F i := by
  unfold mixF keepG
  rw [if_pos hi]
  dsimp only
  rw [if_pos (by omega), show 509 * 7 + i - 509 * 7 = i by omega]
theorem keep_lo (hi : i < 3563) : keepG G F 7 i = G i := by
  unfold keepG
  rw [if_neg (by omega)]
theorem add_hour (h1 : 0 ≤ a.toInt ∧ a.toInt ≤ 10000) (h2 : 0 ≤ x.toInt ∧ x.toInt ≤ 100) : (a + x).toInt = a.toInt + x.toInt := by
  rw [Int32.toInt_add]
  apply Int.bmod_eq_of_le <;> omega
theorem iN_let (h : iN name 256 ∧ iN flow 100) : (0 ≤ name.toInt ∧ name.toInt ≤ 255) ∧ 0 ≤ flow.toInt ∧ flow.toInt ≤ 99 := by omega
theorem iN_nlet (h : ¬ (iN name 256 ∧ iN flow 100)) : ¬ ((0 ≤ name.toInt ∧ name.toInt ≤ 255) ∧ 0 ≤ flow.toInt ∧ flow.toInt ≤ 99) := by omega
end REF24
end
section
/-! THE CLASS'S WORLDS: what a world's objects hold, told by the row of numbers -/
def cellsRep (s : St) (id : Nat) (F : Fm) (b : Nat) : Prop := ∀ j, j < 3 → (F (b + 4 * j) = nI 1 → s.1 15 id (j * 3) = F (b + 4 * j + 1) ∧ s.1 15 id (j * 3 + 1) = F (b + 4 * j + 2) ∧ s.1 15 id (j * 3 + 2) = F (b + 4 * j + 3)) ∧ (F (b + 4 * j) = nI 0 → s.1 15 id (j * 3 + 2) = 0)
def repServer (s : St) (w k : Nat) (F : Fm) : Prop := s.1 5 (8 * w + k) 1 = F (5 + 3 * k) ∧ s.1 1 (8 * w + k) 0 = F (5 + 3 * k + 1) ∧ s.1 1 (8 * w + k) 1 = F (5 + 3 * k + 2)
def repSite (s : St) (w k : Nat) (F : Fm) : Prop := s.1 1 (80 + (8 * w + k)) 0 = F (29 + 17 * k) ∧ s.1 1 (80 + (8 * w + k)) 1 = F (29 + 17 * k + 1) ∧ s.1 6 (8 * w + k) 2 = F (29 + 17 * k + 2) ∧ s.1 6 (8 * w + k) 3 = F (29 + 17 * k + 3) ∧ s.1 6 (8 * w + k) 4 = F (29 + 17 * k + 4) ∧ cellsRep s (8 * w + k) F (29 + 17 * k + 5)
def repMap (s : St) (y : Nat) (F : Fm) (r p : Nat) : Prop := s.1 2 y 2 = F (mA r p) ∧ s.1 2 y 3 = F (mA r p + 1) ∧ s.1 2 y 4 = F (mA r p + 2) ∧ s.1 2 y 5 = F (mA r p + 3) ∧ s.1 1 (160 + y) 0 = F (29 + 17 * nn (F (mA r p))) ∧ s.1 1 (160 + y) 1 = F (29 + 17 * nn (F (mA r p)) + 1) ∧ cellsRep s (80 + y) F (mA r p + 4)
def repRouter (s : St) (i : Nat) (F : Fm) (r : Nat) : Prop := s.1 4 i 1 = F (165 + 6 * r) ∧ s.1 4 i 2 = F (165 + 6 * r + 1) ∧ s.1 4 i 3 = F (165 + 6 * r + 2) ∧ s.1 4 i 4 = F (165 + 6 * r + 3) ∧ s.1 4 i 5 = F (165 + 6 * r + 4) ∧ s.1 4 i 6 = F (165 + 6 * r + 5) ∧ ∀ p, p < cM F r → repMap s (s.2 i p) F r p
def RepW (s : St) (w : Nat) (F : Fm) : Prop := (s.1 8 w 3 = F 1 ∧ s.1 8 w 4 = F 2 ∧ s.1 8 w 5 = F 3 ∧ s.1 8 w 6 = F 0 ∧ s.1 8 w 7 = F 4) ∧ (∀ k, k < cS F → repServer s w k F) ∧ (∀ k, k < cT F → repSite s w k F) ∧ ∀ r, r < cR F → repRouter s (4 * w + r) F r
def permOk (s : St) : Prop := ∀ i, i < 40 → (∀ j, j < 5 → 5 * i ≤ s.2 i j ∧ s.2 i j < 5 * i + 5) ∧ ∀ j j', j < 5 → j' < 5 → s.2 i j = s.2 i j' → j = j'
/-- the world to which an object belongs -/
def ownW (c i : Nat) : Nat := match c with
  | 8 => i
  | 5 => i / 8
  | 6 => i / 8
  | 4 => i / 4
  | 2 => i / 20
  | 1 => if i < 80 then i / 8 else if i < 160 then (i - 80) / 8 else (i - 160) / 20
  | 15 => if i < 80 then i / 8 else (i - 80) / 20
  | _ => 99
/-- all that belongs to world w is the same -/
def sameW (s s' : St) (w : Nat) : Prop := (∀ c i k, ownW c i = w → s'.1 c i k = s.1 c i k) ∧ ∀ i j, i / 4 = w → s'.2 i j = s.2 i j
section CR
variable {w k r p q i j B b y id : Nat} {x : Int32} {s s' : St} {F G : Fm}
theorem RepW.s1 (h : RepW s w F) : s.1 8 w 3 = F 1 := h.1.1
theorem RepW.t1 (h : RepW s w F) : s.1 8 w 4 = F 2 := h.1.2.1
theorem RepW.r1 (h : RepW s w F) : s.1 8 w 5 = F 3 := h.1.2.2.1
theorem RepW.h1 (h : RepW s w F) : s.1 8 w 6 = F 0 := h.1.2.2.2.1
theorem RepW.l1 (h : RepW s w F) : s.1 8 w 7 = F 4 := h.1.2.2.2.2
theorem RepW.server (h : RepW s w F) (hk : k < cS F) : repServer s w k F := h.2.1 k hk
theorem RepW.site (h : RepW s w F) (hk : k < cT F) : repSite s w k F := h.2.2.1 k hk
theorem RepW.router (h : RepW s w F) (hr : r < cR F) : repRouter s (4 * w + r) F r := h.2.2.2 r hr
theorem cellsRep_cg (h : ∀ k, s'.1 15 id k = s.1 15 id k) (q : cellsRep s id F b) : cellsRep s' id F b := by
  intro j hj
  rw [h, h, h]
  exact q j hj
theorem own_5 (hk : k < 8) : ownW 5 (8 * w + k) = w := by show (8 * w + k) / 8 = w; omega
theorem own_6 (hk : k < 8) : ownW 6 (8 * w + k) = w := by show (8 * w + k) / 8 = w; omega
theorem own_4 (hk : r < 4) : ownW 4 (4 * w + r) = w := by show (4 * w + r) / 4 = w; omega
theorem own_1a (hw : w < 10) (hk : k < 8) : ownW 1 (8 * w + k) = w := by
  show (if 8 * w + k < 80 then (8 * w + k) / 8 else _) = w
  rw [if_pos (by omega)]; omega
theorem own_1b (hw : w < 10) (hk : k < 8) : ownW 1 (80 + (8 * w + k)) = w := by
  show (if 80 + (8 * w + k) < 80 then _ else if 80 + (8 * w + k) < 160 then (80 + (8 * w + k) - 80) / 8 else _) = w
  rw [if_neg (by omega), if_pos (by omega)]; omega
theorem own_1c (h : y / 20 = w) : ownW 1 (160 + y) = w := by
  show (if 160 + y < 80 then _ else if 160 + y < 160 then _ else (160 + y - 160) / 20) = w
  rw [if_neg (by omega), if_neg (by omega)]; omega
theorem own_15a (hw : w < 10) (hk : k < 8) : ownW 15 (8 * w + k) = w := by
  show (if 8 * w + k < 80 then (8 * w + k) / 8 else _) = w
  rw [if_pos (by omega)]; omega
theorem own_15b (h : y / 20 = w) : ownW 15 (80 + y) = w := by
  show (if 80 + y < 80 then _ else (80 + y - 80) / 20) = w
  rw [if_neg (by omega)]; omega
theorem repMap_cg (h : sameW s s' w) (hy : y / 20 = w) (q : repMap s y F r p) : repMap s' y F r p := by
  obtain ⟨h1, h2⟩ := h
  have e2 : ∀ k, s'.1 2 y k = s.1 2 y k := fun k => h1 2 y k hy
  have e1 : ∀ k, s'.1 1 (160 + y) k = s.1 1 (160 + y) k := fun k => h1 1 (160 + y) k (own_1c hy)
  unfold repMap at q ⊢
  rw [e2, e2, e2, e2, e1, e1]
  exact ⟨q.1, q.2.1, q.2.2.1, q.2.2.2.1, q.2.2.2.2.1, q.2.2.2.2.2.1, cellsRep_cg (fun k => h1 15 _ k (own_15b hy)) q.2.2.2.2.2.2⟩
theorem perm_own (hp : permOk s) (hi : i < 40) (hj : j < 5) : s.2 i j / 20 = i / 4 := by
  have := (hp i hi).1 j hj
  omega
theorem RepW_cg (hw : WF F B) (hp : permOk s) (h10 : w < 10) (h : sameW s s' w) (q : RepW s w F) : RepW s' w F := by
  have h8 := hw.s2
  have ht := hw.t2
  have hr := hw.r2
  obtain ⟨h1, h2⟩ := id h
  refine ⟨?_, fun k hk => ?_, fun k hk => ?_, fun r hk => ?_⟩
  · have e : ∀ k, s'.1 8 w k = s.1 8 w k := fun k => h1 8 w k rfl
    rw [e, e, e, e, e]
    exact q.1
  · have g := q.server hk
    unfold repServer at g ⊢
    rw [h1 5 _ _ (own_5 (by omega)), h1 1 _ _ (own_1a h10 (by omega)), h1 1 _ _ (own_1a h10 (by omega))]
    exact g
  · have g := q.site hk
    unfold repSite at g ⊢
    rw [h1 6 _ _ (own_6 (by omega)), h1 6 _ _ (own_6 (by omega)), h1 6 _ _ (own_6 (by omega)), h1 1 _ _ (own_1b h10 (by omega)), h1 1 _ _ (own_1b h10 (by omega))]
    exact ⟨g.1, g.2.1, g.2.2.1, g.2.2.2.1, g.2.2.2.2.1, cellsRep_cg (fun k => h1 15 _ k (own_15a h10 (by omega))) g.2.2.2.2.2⟩
  · have g := q.router hk
    have h5 := (hw.router hk).2.1
    unfold repRouter at g ⊢
    have e : ∀ k, s'.1 4 (4 * w + r) k = s.1 4 (4 * w + r) k := fun k => h1 4 _ k (own_4 (by omega))
    rw [e, e, e, e, e, e]
    refine ⟨g.1, g.2.1, g.2.2.1, g.2.2.2.1, g.2.2.2.2.1, g.2.2.2.2.2.1, fun p hp' => ?_⟩
    rw [h2 _ _ (by omega)]
    exact repMap_cg h (by rw [perm_own hp (by omega) (by omega)]; omega) (g.2.2.2.2.2.2 p hp')
theorem putV_ne {c i k a b d : Nat} (h : a ≠ c ∨ b ≠ i ∨ d ≠ k) : (putV s c i k x).1 a b d = s.1 a b d := if_neg (fun q => by omega)
theorem putV_2 {c i k : Nat} : (putV s c i k x).2 = s.2 := rfl
end CR
end
section
/-! THE CLASS: blocks and slots, read -/
def noI (v : Int32) : Int32 := if v = -5 then -1 else v
theorem alen11 : alen 11 = 8 := rfl
theorem alen12 : alen 12 = 8 := rfl
theorem alen13 : alen 13 = 4 := rfl
theorem alen14 : alen 14 = 5 := rfl
theorem alen15 : alen 15 = 9 := rfl
theorem alen16 : alen 16 = 6 := rfl
theorem alen17 : alen 17 = 2 := rfl
theorem alen18 : alen 18 = 2 := rfl
theorem alen19 : alen 19 = 80 := rfl
section CLS1
variable {L : Nat} {xs : Nat → Int32} {f i k r p q c j n B b w m id : Nat} {x y v a z l lo v0 v1 name flow place : Int32} {s : St} {F G F' u : Fm} {Q : Option MV → St → Prop}
set_option maxHeartbeats 4000000 in
set_option maxRecDepth 100000 in
theorem c_holds (e0 : s.1 1 b 0 = v0) (e1 : s.1 1 b 1 = v1) (h : Q (some (.inl (bI (v0.toInt ≤ a.toInt ∧ (a + z).toInt ≤ (v0 + v1).toInt)))) s) : wpM L xs codT retT (f + 1) m_X1_holds [.inr (1, b), .inl a, .inl z] s Q := by
  subst e0; subst e1
  intro call hcall X hX; refine hX 1000 0 _ _ _ ?_
  repeat' (first | (intro hc) | (refine And.intro ?_ ?_) | (exact absurd nI_0 ‹cmpF 0 (nI 0) 0›) | (exact absurd ‹cmpT 0 (nI 1) 0› nI1_ne) | (exact absurd nI_0 ‹cmpT 1 (nI 0) 0›) | (exact absurd ‹cmpF 1 (nI 1) 0› nI1_ne) | (show wp _ _ _ _ _ _ _ _ _ _ _ _; conv => whnf))
  all_goals first
    | exact Or.inl rfl
    | exact Or.inr rfl
    | (refine bI_1 h ?_; clear h; (try clear hX hcall); (try clear h); (try simp (disch := omega) only [cmpT, cmpF, bI_eq0, bI_ne0, Classical.not_not, nI_toI, nI_cl, nI_inj, nI_add, nI_mul, nI_subI, takeL, setL, Int32.toInt_zero, Nat.add_zero, Nat.zero_mul, Nat.zero_add, alen11, alen12, alen13, alen14, alen15, alen16, alen17, alen18, alen19] at *); omega)
    | (refine bI_0 h ?_; clear h; (try clear hX hcall); (try clear h); (try simp (disch := omega) only [cmpT, cmpF, bI_eq0, bI_ne0, Classical.not_not, nI_toI, nI_cl, nI_inj, nI_add, nI_mul, nI_subI, takeL, setL, Int32.toInt_zero, Nat.add_zero, Nat.zero_mul, Nat.zero_add, alen11, alen12, alen13, alen14, alen15, alen16, alen17, alen18, alen19] at *); omega)
theorem has_1 (h : iN name 256) : (name + nI 1).toInt = name.toInt + 1 := by
  rw [Int32.toInt_add, nI_toI (by omega)]
  apply Int.bmod_eq_of_le <;> omega
set_option maxHeartbeats 4000000 in
set_option maxRecDepth 100000 in
theorem c_has (hn : iN name 256) (e0 : s.1 1 b 0 = v0) (e1 : s.1 1 b 1 = v1) (h : Q (some (.inl (bI (v0.toInt ≤ name.toInt ∧ name.toInt < (v0 + v1).toInt)))) s) : wpM L xs codT retT (f + 2) m_X1_has [.inr (1, b), .inl name] s Q := by
  have h1 := has_1 hn
  have e : bI (v0.toInt ≤ name.toInt ∧ name.toInt < (v0 + v1).toInt) = bI (v0.toInt ≤ name.toInt ∧ (name + nI 1).toInt ≤ (v0 + v1).toInt) := bI_same (by omega)
  rw [e] at h
  intro call hcall X hX; refine hX 1000 0 _ _ _ ?_
  repeat' (first | (intro hc) | (refine And.intro ?_ ?_) | (exact absurd nI_0 ‹cmpF 0 (nI 0) 0›) | (exact absurd ‹cmpT 0 (nI 1) 0› nI1_ne) | (exact absurd nI_0 ‹cmpT 1 (nI 0) 0›) | (exact absurd ‹cmpF 1 (nI 1) 0› nI1_ne) | (show wp _ _ _ _ _ _ _ _ _ _ _ _; conv => whnf) | (simp (disch := omega) only [nI_add, nI_mul, setN_now, setN_put, nI_cl, Nat.add_zero]) | (refine hcall _ _ _ _ ?_; first | (refine c_holds e0 e1 ?_) | fail))
  all_goals first
    | exact h
    | exact bI_01 _
set_option maxHeartbeats 4000000 in
set_option maxRecDepth 100000 in
theorem c_isAt (e0 : s.1 1 b 0 = v0) (e1 : s.1 1 b 1 = v1) (h : Q (some (.inl (bI (v0 = a ∧ v1 = z)))) s) : wpM L xs codT retT (f + 1) m_X1_isAt [.inr (1, b), .inl a, .inl z] s Q := by
  subst e0; subst e1
  intro call hcall X hX; refine hX 1000 0 _ _ _ ?_
  repeat' (first | (intro hc) | (refine And.intro ?_ ?_) | (exact absurd nI_0 ‹cmpF 0 (nI 0) 0›) | (exact absurd ‹cmpT 0 (nI 1) 0› nI1_ne) | (exact absurd nI_0 ‹cmpT 1 (nI 0) 0›) | (exact absurd ‹cmpF 1 (nI 1) 0› nI1_ne) | (show wp _ _ _ _ _ _ _ _ _ _ _ _; conv => whnf))
  all_goals first
    | exact Or.inl rfl
    | exact Or.inr rfl
    | exact bI_1 h ⟨by assumption, by assumption⟩
    | (refine bI_0 h ?_; rintro ⟨q1, q2⟩; contradiction)
set_option maxHeartbeats 4000000 in
set_option maxRecDepth 100000 in
theorem c_meets (e0 : s.1 1 b 0 = v0) (e1 : s.1 1 b 1 = v1) (h : Q (some (.inl (bI (a.toInt < (v0 + v1).toInt ∧ v0.toInt < (a + z).toInt)))) s) : wpM L xs codT retT (f + 1) m_X1_meets [.inr (1, b), .inl a, .inl z] s Q := by
  subst e0; subst e1
  intro call hcall X hX; refine hX 1000 0 _ _ _ ?_
  repeat' (first | (intro hc) | (refine And.intro ?_ ?_) | (exact absurd nI_0 ‹cmpF 0 (nI 0) 0›) | (exact absurd ‹cmpT 0 (nI 1) 0› nI1_ne) | (exact absurd nI_0 ‹cmpT 1 (nI 0) 0›) | (exact absurd ‹cmpF 1 (nI 1) 0› nI1_ne) | (show wp _ _ _ _ _ _ _ _ _ _ _ _; conv => whnf))
  all_goals first
    | exact Or.inl rfl
    | exact Or.inr rfl
    | (refine bI_1 h ?_; clear h; (try clear hX hcall); (try clear h); (try simp (disch := omega) only [cmpT, cmpF, bI_eq0, bI_ne0, Classical.not_not, nI_toI, nI_cl, nI_inj, nI_add, nI_mul, nI_subI, takeL, setL, Int32.toInt_zero, Nat.add_zero, Nat.zero_mul, Nat.zero_add, alen11, alen12, alen13, alen14, alen15, alen16, alen17, alen18, alen19] at *); omega)
    | (refine bI_0 h ?_; clear h; (try clear hX hcall); (try clear h); (try simp (disch := omega) only [cmpT, cmpF, bI_eq0, bI_ne0, Classical.not_not, nI_toI, nI_cl, nI_inj, nI_add, nI_mul, nI_subI, takeL, setL, Int32.toInt_zero, Nat.add_zero, Nat.zero_mul, Nat.zero_add, alen11, alen12, alen13, alen14, alen15, alen16, alen17, alen18, alen19] at *); omega)
theorem cells_z (hc : cellsRep s id F b) (hs : ∀ j, j < 3 → slotOk F (b + 4 * j)) (hk : k < 3) : s.1 15 id (k * 3 + 2) = 0 ↔ F (b + 4 * k) = nI 0 := by
  obtain ⟨h1, h2⟩ := hc k hk
  obtain ⟨g1, g2⟩ := hs k hk
  constructor
  · intro e
    rcases g1 with g | g
    · exact g
    · have t1 := (h1 g).2.2
      have t2 := (g2 g).2.2
      rw [← t1, e] at t2
      have : (0 : Int32).toInt = 0 := rfl
      omega
  · exact h2
set_option maxHeartbeats 4000000 in
set_option maxRecDepth 100000 in
theorem c_isEmpty (hc : cellsRep s id F b) (hs : ∀ j, j < 3 → slotOk F (b + 4 * j)) (hk : k < 3) (h : Q (some (.inl (bI (F (b + 4 * k) = nI 0)))) s) : wpM L xs codT retT (f + 1) m_X7_isEmpty [.inr (7, id), .inl (nI k)] s Q := by
  have hz := cells_z hc hs hk
  have e : bI (F (b + 4 * k) = nI 0) = bI (s.1 15 id (k * 3 + 2) = 0) := bI_same hz.symm
  rw [e] at h
  clear e hz
  intro call hcall X hX; refine hX 1000 0 _ _ _ ?_
  repeat' (first | (intro hc) | (refine And.intro ?_ ?_) | (exact absurd nI_0 ‹cmpF 0 (nI 0) 0›) | (exact absurd ‹cmpT 0 (nI 1) 0› nI1_ne) | (exact absurd nI_0 ‹cmpT 1 (nI 0) 0›) | (exact absurd ‹cmpF 1 (nI 1) 0› nI1_ne) | (show wp _ _ _ _ _ _ _ _ _ _ _ _; conv => whnf))
  all_goals first
    | exact Or.inl rfl
    | exact Or.inr rfl
    | (refine bI_1 h ?_; clear h; (try clear hX hcall); (try clear h); (try simp (disch := omega) only [cmpT, cmpF, bI_eq0, bI_ne0, Classical.not_not, nI_toI, nI_cl, nI_inj, nI_add, nI_mul, nI_subI, takeL, setL, Int32.toInt_zero, Nat.add_zero, Nat.zero_mul, Nat.zero_add, alen11, alen12, alen13, alen14, alen15, alen16, alen17, alen18, alen19] at *); first | assumption | omega)
    | (refine bI_0 h ?_; clear h; (try clear hX hcall); (try clear h); (try simp (disch := omega) only [cmpT, cmpF, bI_eq0, bI_ne0, Classical.not_not, nI_toI, nI_cl, nI_inj, nI_add, nI_mul, nI_subI, takeL, setL, Int32.toInt_zero, Nat.add_zero, Nat.zero_mul, Nat.zero_add, alen11, alen12, alen13, alen14, alen15, alen16, alen17, alen18, alen19] at *); first | assumption | omega)
    | (exfalso; (try clear hX hcall); (try clear h); (try simp (disch := omega) only [cmpT, cmpF, bI_eq0, bI_ne0, Classical.not_not, nI_toI, nI_cl, nI_inj, nI_add, nI_mul, nI_subI, takeL, setL, Int32.toInt_zero, Nat.add_zero, Nat.zero_mul, Nat.zero_add, alen11, alen12, alen13, alen14, alen15, alen16, alen17, alen18, alen19] at *); omega)
    | ((try clear hX hcall); (try clear h); (try simp (disch := omega) only [cmpT, cmpF, bI_eq0, bI_ne0, Classical.not_not, nI_toI, nI_cl, nI_inj, nI_add, nI_mul, nI_subI, takeL, setL, Int32.toInt_zero, Nat.add_zero, Nat.zero_mul, Nat.zero_add, alen11, alen12, alen13, alen14, alen15, alen16, alen17, alen18, alen19] at *); omega)
def sWt (F : Fm) (b : Nat) : Nat → Int
  | 0 => 0
  | k + 1 => sWt F b k + (if F (b + 4 * k) = nI 1 then (F (b + 4 * k + 3)).toInt else 0)
theorem cell_w (hc : cellsRep s id F b) (hs : ∀ j, j < 3 → slotOk F (b + 4 * j)) (hk : k < 3) : (s.1 15 id (k * 3 + 2)).toInt = (if F (b + 4 * k) = nI 1 then (F (b + 4 * k + 3)).toInt else 0) ∧ 0 ≤ (s.1 15 id (k * 3 + 2)).toInt ∧ (s.1 15 id (k * 3 + 2)).toInt ≤ 9 ∧ ((s.1 15 id (k * 3 + 2)).toInt = 0 ↔ F (b + 4 * k) = nI 0) := by
  obtain ⟨h1, h2⟩ := hc k hk
  obtain ⟨g1, g2⟩ := hs k hk
  rcases g1 with g | g
  · have e := h2 g
    rw [e, if_neg (fun q => nI01 (g.symm.trans q))]
    exact ⟨rfl, Int.le_refl _, by decide, fun _ => g, fun _ => rfl⟩
  · have e := (h1 g).2.2
    have t2 := (g2 g).2.2
    rw [e, if_pos g]
    exact ⟨rfl, by omega, by omega, fun q => by omega, fun q => absurd (q.symm.trans g) nI01⟩
set_option maxHeartbeats 4000000 in
set_option maxRecDepth 100000 in
theorem c_areEmpty (hc : cellsRep s id F b) (hs : ∀ j, j < 3 → slotOk F (b + 4 * j)) (h : Q (some (.inl (bI (¬ (F b = nI 1 ∨ F (b + 4) = nI 1 ∨ F (b + 8) = nI 1))))) s) : wpM L xs codT retT (f + 1) m_X7_areEmpty [.inr (7, id)] s Q := by
  have w0 := cell_w hc hs (k := 0) (by omega)
  have w1 := cell_w hc hs (k := 1) (by omega)
  have w2 := cell_w hc hs (k := 2) (by omega)
  have f0 := (hs 0 (by omega)).1
  have f1 := (hs 1 (by omega)).1
  have f2 := (hs 2 (by omega)).1
  simp only [Nat.mul_zero, Nat.mul_one, Nat.reduceMul, Nat.add_zero, Nat.reduceAdd, Nat.zero_add] at w0 w1 w2 f0 f1 f2
  intro call hcall X hX; refine hX 1000 0 _ _ _ ?_
  repeat' (first | (intro hc) | (refine And.intro ?_ ?_) | (exact absurd nI_0 ‹cmpF 0 (nI 0) 0›) | (exact absurd ‹cmpT 0 (nI 1) 0› nI1_ne) | (exact absurd nI_0 ‹cmpT 1 (nI 0) 0›) | (exact absurd ‹cmpF 1 (nI 1) 0› nI1_ne) | (show wp _ _ _ _ _ _ _ _ _ _ _ _; conv => whnf))
  simp only [takeL, setL]
  have loop : ∀ j k x, k + j = 3 → x = (if k = 0 then nI 0 else if k = 1 then nI 0 + s.1 15 id 2 else if k = 2 then nI 0 + s.1 15 id 2 + s.1 15 id 5 else nI 0 + s.1 15 id 2 + s.1 15 id 5 + s.1 15 id 8) → X 4 [.inr (7, id), .inl x, .inl (nI k)] [] s := by
    intro j
    induction j with
    | zero =>
      intro k x hk hx
      have hk3 : k = 3 := by omega
      subst hk3
      rw [if_neg (by omega), if_neg (by omega), if_neg (by omega)] at hx
      have ex : x.toInt = (s.1 15 id 2).toInt + (s.1 15 id 5).toInt + (s.1 15 id 8).toInt := by
        rw [hx]
        have e1 : (nI 0 + s.1 15 id 2).toInt = (s.1 15 id 2).toInt := by
          rw [Int32.toInt_add, nI_toI (by omega)]
          apply (Int.bmod_eq_of_le _ _).trans <;> omega
        have e2 : (nI 0 + s.1 15 id 2 + s.1 15 id 5).toInt = (s.1 15 id 2).toInt + (s.1 15 id 5).toInt := by
          rw [Int32.toInt_add, e1]
          apply Int.bmod_eq_of_le <;> omega
        rw [Int32.toInt_add, e2]
        apply Int.bmod_eq_of_le <;> omega
      clear hx
      refine hX 1000 4 _ _ _ ?_
      repeat' (first | (intro hc) | (refine And.intro ?_ ?_) | (exact absurd nI_0 ‹cmpF 0 (nI 0) 0›) | (exact absurd ‹cmpT 0 (nI 1) 0› nI1_ne) | (exact absurd nI_0 ‹cmpT 1 (nI 0) 0›) | (exact absurd ‹cmpF 1 (nI 1) 0› nI1_ne) | (show wp _ _ _ _ _ _ _ _ _ _ _ _; conv => whnf))
      all_goals first
        | exact Or.inl rfl
        | exact Or.inr rfl
        | ((try clear hX hcall); (try clear h); (try simp (disch := omega) only [cmpT, cmpF, bI_eq0, bI_ne0, Classical.not_not, nI_toI, nI_cl, nI_inj, nI_add, nI_mul, nI_subI, takeL, setL, Int32.toInt_zero, Nat.add_zero, Nat.zero_mul, Nat.zero_add, alen11, alen12, alen13, alen14, alen15, alen16, alen17, alen18, alen19] at *); omega)
        | (refine bI_1 h ?_; have hq : x = 0 := ‹cmpF 1 x 0›; rw [hq] at ex; have : (0 : Int32).toInt = 0 := rfl; have z0 := w0.2.2.2.mp (by omega); have z1 := w1.2.2.2.mp (by omega); have z2 := w2.2.2.2.mp (by omega); rintro (q | q | q); exact nI01 (z0.symm.trans q); exact nI01 (z1.symm.trans q); exact nI01 (z2.symm.trans q))
        | (refine bI_0 h ?_; have hq : ¬ x = 0 := ‹cmpT 1 x 0›; intro q; apply hq; apply Int32.toInt_inj.mp; rw [ex]; have t0 := w0.2.2.2.mpr (f0.resolve_right (fun t => q (Or.inl t))); have t1 := w1.2.2.2.mpr (f1.resolve_right (fun t => q (Or.inr (Or.inl t)))); have t2 := w2.2.2.2.mpr (f2.resolve_right (fun t => q (Or.inr (Or.inr t)))); rw [t0, t1, t2]; rfl)
    | succ j ih =>
      intro k x hk hx
      have ih := ih (k + 1) (x + s.1 15 id (k * 3 + 2)) (by omega) (by
        have hk3 : k = 0 ∨ k = 1 ∨ k = 2 := by omega
        rcases hk3 with t | t | t <;> subst t <;> rw [hx] <;> rfl)
      clear h hx w0 w1 w2 f0 f1 f2
      refine hX 1000 4 _ _ _ ?_
      repeat' (first | (intro hc) | (refine And.intro ?_ ?_) | (exact absurd nI_0 ‹cmpF 0 (nI 0) 0›) | (exact absurd ‹cmpT 0 (nI 1) 0› nI1_ne) | (exact absurd nI_0 ‹cmpT 1 (nI 0) 0›) | (exact absurd ‹cmpF 1 (nI 1) 0› nI1_ne) | (show wp _ _ _ _ _ _ _ _ _ _ _ _; conv => whnf))
      all_goals first
        | ((try clear hX hcall); (try clear h); (try simp (disch := omega) only [cmpT, cmpF, bI_eq0, bI_ne0, Classical.not_not, nI_toI, nI_cl, nI_inj, nI_add, nI_mul, nI_subI, takeL, setL, Int32.toInt_zero, Nat.add_zero, Nat.zero_mul, Nat.zero_add, alen11, alen12, alen13, alen14, alen15, alen16, alen17, alen18, alen19] at *); first | exact ih | omega)
        | (simp (disch := omega) only [takeL, setL, nI_mul, nI_add, nI_cl]; exact ih)
  exact loop 3 0 _ rfl (by rw [if_pos rfl])
end CLS1
end
section
/-! THE CLASS: slots, chosen -/
abbrev haveF (F : Fm) (b : Nat) (place : Int32) : Prop := (F b = nI 1 ∧ F (b + 1) = place) ∨ (F (b + 4) = nI 1 ∧ F (b + 5) = place) ∨ (F (b + 8) = nI 1 ∧ F (b + 9) = place)
theorem bF {b : Prop} [Decidable b] (hb : b) (h : bI b = 0) : False := bI_eq0.mp h hb
theorem bT {b : Prop} [Decidable b] (hb : ¬ b) (h : ¬ bI b = 0) : False := hb (bI_ne0.mp h)
theorem n01 {x : Int32} (h : x = nI 1) : ¬ x = nI 0 := fun q => nI01 (q.symm.trans h)
section CLS2
variable {L : Nat} {xs : Nat → Int32} {f i k r p q c j n B b w m sd : Nat} {x y v a z l lo v0 v1 name flow place : Int32} {s : St} {F G F' u : Fm} {Q : Option MV → St → Prop}
theorem cell_1 (cr : cellsRep s sd F b) (hk : k < 3) (h : F (b + 4 * k) = nI 1) : s.1 15 sd (k * 3) = F (b + 4 * k + 1) ∧ s.1 15 sd (k * 3 + 1) = F (b + 4 * k + 2) ∧ s.1 15 sd (k * 3 + 2) = F (b + 4 * k + 3) := (cr k hk).1 h
theorem flag_1 (hs : ∀ j, j < 3 → slotOk F (b + 4 * j)) (hk : k < 3) (h : ¬ F (b + 4 * k) = nI 0) : F (b + 4 * k) = nI 1 := (hs k hk).1.resolve_left h
set_option maxHeartbeats 4000000 in
set_option maxRecDepth 100000 in
theorem c_have (cr : cellsRep s sd F b) (hs : ∀ j, j < 3 → slotOk F (b + 4 * j)) (h : Q (some (.inl (bI (haveF F b place)))) s) : wpM L xs codT retT (f + 2) m_X7_have [.inr (7, sd), .inl place] s Q := by
  intro call hcall X hX; refine hX 1000 0 _ _ _ ?_
  repeat' (first | (intro hc) | (refine And.intro ?_ ?_) | (exact absurd nI_0 ‹cmpF 0 (nI 0) 0›) | (exact absurd ‹cmpT 0 (nI 1) 0› nI1_ne) | (exact absurd nI_0 ‹cmpT 1 (nI 0) 0›) | (exact absurd ‹cmpF 1 (nI 1) 0› nI1_ne) | (show wp _ _ _ _ _ _ _ _ _ _ _ _; conv => whnf))
  simp only [takeL, setL]
  have key : ∀ k, k < 3 → F (b + 4 * k) = nI 1 → F (b + 4 * k + 1) = place → haveF F b place := by
    intro k hk h1 h2
    have hk3 : k = 0 ∨ k = 1 ∨ k = 2 := by omega
    rcases hk3 with t | t | t <;> subst t
    · exact Or.inl ⟨h1, h2⟩
    · exact Or.inr (Or.inl ⟨h1, h2⟩)
    · exact Or.inr (Or.inr ⟨h1, h2⟩)
  have loop : ∀ j k, k + j = 3 → (∀ i, i < k → ¬ (F (b + 4 * i) = nI 1 ∧ F (b + 4 * i + 1) = place)) → X 2 [.inr (7, sd), .inl place, .inl (nI k)] [] s := by
    intro j
    induction j with
    | zero =>
      intro k hk hno
      have hk3 : k = 3 := by omega
      subst hk3
      have e : ¬ haveF F b place := by
        rintro (q | q | q)
        · exact hno 0 (by omega) q
        · exact hno 1 (by omega) q
        · exact hno 2 (by omega) q
      refine hX 1000 2 _ _ _ ?_
      repeat' (first | (intro hc) | (refine And.intro ?_ ?_) | (exact absurd nI_0 ‹cmpF 0 (nI 0) 0›) | (exact absurd ‹cmpT 0 (nI 1) 0› nI1_ne) | (exact absurd nI_0 ‹cmpT 1 (nI 0) 0›) | (exact absurd ‹cmpF 1 (nI 1) 0› nI1_ne) | (show wp _ _ _ _ _ _ _ _ _ _ _ _; conv => whnf))
      all_goals first
        | exact Or.inl rfl
        | exact Or.inr rfl
        | exact bI_0 h e
        | ((try clear hX hcall); (try clear h); (try simp (disch := omega) only [cmpT, cmpF, bI_eq0, bI_ne0, Classical.not_not, nI_toI, nI_cl, nI_inj, nI_add, nI_mul, nI_subI, takeL, setL, Int32.toInt_zero, Nat.add_zero, Nat.zero_mul, Nat.zero_add, alen11, alen12, alen13, alen14, alen15, alen16, alen17, alen18, alen19] at *); omega)
    | succ j ih =>
      intro k hk hno
      have hk3 : k < 3 := by omega
      by_cases hf : F (b + 4 * k) = nI 1
      · have c1 := (cell_1 cr hk3 hf).1
        by_cases hp : F (b + 4 * k + 1) = place
        · have e := key k hk3 hf hp
          clear ih
          refine hX 1000 2 _ _ _ ?_
          repeat' (first | (intro hc) | (refine And.intro ?_ ?_) | (exact absurd nI_0 ‹cmpF 0 (nI 0) 0›) | (exact absurd ‹cmpT 0 (nI 1) 0› nI1_ne) | (exact absurd nI_0 ‹cmpT 1 (nI 0) 0›) | (exact absurd ‹cmpF 1 (nI 1) 0› nI1_ne) | (show wp _ _ _ _ _ _ _ _ _ _ _ _; conv => whnf) | (simp (disch := omega) only [nI_add, nI_mul, setN_now, setN_put, nI_cl, Nat.add_zero]) | (refine hcall _ _ _ _ ?_; first | (refine c_isEmpty cr hs hk3 ?_) | fail))
          all_goals first
            | exact Or.inl rfl
            | exact Or.inr rfl
            | exact bI_1 h e
            | (exfalso; exact bT (n01 hf) (by assumption))
            | (clear hno key e; (try clear hX hcall); (try clear h); (try simp (disch := omega) only [cmpT, cmpF, bI_eq0, bI_ne0, Classical.not_not, nI_toI, nI_cl, nI_inj, nI_add, nI_mul, nI_subI, takeL, setL, Int32.toInt_zero, Nat.add_zero, Nat.zero_mul, Nat.zero_add, alen11, alen12, alen13, alen14, alen15, alen16, alen17, alen18, alen19] at *); first | omega | (exfalso; rw [c1] at *; contradiction))
        · have ih := ih (k + 1) (by omega) (fun i hi q => by
            by_cases e : i = k
            · subst e; exact hp q.2
            · exact hno i (by omega) q)
          refine hX 1000 2 _ _ _ ?_
          repeat' (first | (intro hc) | (refine And.intro ?_ ?_) | (exact absurd nI_0 ‹cmpF 0 (nI 0) 0›) | (exact absurd ‹cmpT 0 (nI 1) 0› nI1_ne) | (exact absurd nI_0 ‹cmpT 1 (nI 0) 0›) | (exact absurd ‹cmpF 1 (nI 1) 0› nI1_ne) | (show wp _ _ _ _ _ _ _ _ _ _ _ _; conv => whnf) | (simp (disch := omega) only [nI_add, nI_mul, setN_now, setN_put, nI_cl, Nat.add_zero]) | (refine hcall _ _ _ _ ?_; first | (refine c_isEmpty cr hs hk3 ?_) | fail))
          all_goals first
            | exact Or.inl rfl
            | exact Or.inr rfl
            | (exfalso; exact bT (n01 hf) (by assumption))
            | (clear hno key; (try clear hX hcall); (try clear h); (try simp (disch := omega) only [cmpT, cmpF, bI_eq0, bI_ne0, Classical.not_not, nI_toI, nI_cl, nI_inj, nI_add, nI_mul, nI_subI, takeL, setL, Int32.toInt_zero, Nat.add_zero, Nat.zero_mul, Nat.zero_add, alen11, alen12, alen13, alen14, alen15, alen16, alen17, alen18, alen19] at *); first | exact ih | omega | (exfalso; rw [c1] at *; contradiction))
      · have hf0 : F (b + 4 * k) = nI 0 := (hs k hk3).1.resolve_right hf
        have ih := ih (k + 1) (by omega) (fun i hi q => by
          by_cases e : i = k
          · subst e; exact hf q.1
          · exact hno i (by omega) q)
        refine hX 1000 2 _ _ _ ?_
        repeat' (first | (intro hc) | (refine And.intro ?_ ?_) | (exact absurd nI_0 ‹cmpF 0 (nI 0) 0›) | (exact absurd ‹cmpT 0 (nI 1) 0› nI1_ne) | (exact absurd nI_0 ‹cmpT 1 (nI 0) 0›) | (exact absurd ‹cmpF 1 (nI 1) 0› nI1_ne) | (show wp _ _ _ _ _ _ _ _ _ _ _ _; conv => whnf) | (simp (disch := omega) only [nI_add, nI_mul, setN_now, setN_put, nI_cl, Nat.add_zero]) | (refine hcall _ _ _ _ ?_; first | (refine c_isEmpty cr hs hk3 ?_) | fail))
        all_goals first
          | exact Or.inl rfl
          | exact Or.inr rfl
          | (exfalso; exact bF hf0 (by assumption))
          | (clear hno key; (try clear hX hcall); (try clear h); (try simp (disch := omega) only [cmpT, cmpF, bI_eq0, bI_ne0, Classical.not_not, nI_toI, nI_cl, nI_inj, nI_add, nI_mul, nI_subI, takeL, setL, Int32.toInt_zero, Nat.add_zero, Nat.zero_mul, Nat.zero_add, alen11, alen12, alen13, alen14, alen15, alen16, alen17, alen18, alen19] at *); first | exact ih | omega | contradiction)
  exact loop 3 0 rfl (fun i hi => absurd hi (by omega))
set_option maxHeartbeats 4000000 in
set_option maxRecDepth 100000 in
theorem c_lowestPriority (cr : cellsRep s sd F b) (hs : ∀ j, j < 3 → slotOk F (b + 4 * j)) (h : Q (some (.inl (lsN F b 3).1)) s) : wpM L xs codT retT (f + 2) m_X7_lowestPriority [.inr (7, sd)] s Q := by
  intro call hcall X hX; refine hX 1000 0 _ _ _ ?_
  repeat' (first | (intro hc) | (refine And.intro ?_ ?_) | (exact absurd nI_0 ‹cmpF 0 (nI 0) 0›) | (exact absurd ‹cmpT 0 (nI 1) 0› nI1_ne) | (exact absurd nI_0 ‹cmpT 1 (nI 0) 0›) | (exact absurd ‹cmpF 1 (nI 1) 0› nI1_ne) | (show wp _ _ _ _ _ _ _ _ _ _ _ _; conv => whnf))
  simp only [takeL, setL]
  refine loopN (P := fun k => X 5 [.inr (7, sd), .inl (lsN F b k).1, .inl (nI k)] [] s) 3 (fun k hk ih => ?_) ?_ 0 (by omega)
  · clear h
    by_cases hf : F (b + 4 * k) = nI 1
    · have c1 := (cell_1 cr hk hf).2.1
      have e : (lsN F b (k + 1)).1 = if F (b + 4 * k + 2) < (lsN F b k).1 then F (b + 4 * k + 2) else (lsN F b k).1 := by
        rw [lsN]
        by_cases g : F (b + 4 * k + 2) < (lsN F b k).1
        · have g' := toInt_lt.mp g
          rw [if_pos ⟨hf, by omega⟩, if_pos g]
        · have g' : ¬ (F (b + 4 * k + 2)).toInt < (lsN F b k).1.toInt := fun q => g (toInt_lt.mpr q)
          rw [if_neg g]
          by_cases g2 : (F (b + 4 * k + 2)).toInt ≤ (lsN F b k).1.toInt
          · rw [if_pos ⟨hf, g2⟩]
            exact Int32.toInt_inj.mp (by show (F (b + 4 * k + 2)).toInt = _; omega)
          · rw [if_neg (fun q => g2 q.2)]
      rw [e] at ih
      refine hX 1000 5 _ _ _ ?_
      repeat' (first | (intro hc) | (refine And.intro ?_ ?_) | (exact absurd nI_0 ‹cmpF 0 (nI 0) 0›) | (exact absurd ‹cmpT 0 (nI 1) 0› nI1_ne) | (exact absurd nI_0 ‹cmpT 1 (nI 0) 0›) | (exact absurd ‹cmpF 1 (nI 1) 0› nI1_ne) | (show wp _ _ _ _ _ _ _ _ _ _ _ _; conv => whnf) | (simp (disch := omega) only [nI_add, nI_mul, setN_now, setN_put, nI_cl, Nat.add_zero]) | (refine hcall _ _ _ _ ?_; first | (refine c_isEmpty cr hs hk ?_) | fail))
      all_goals first
        | exact Or.inl rfl
        | exact Or.inr rfl
        | (exfalso; exact bT (n01 hf) (by assumption))
        | (clear e; (try clear hX hcall); (try clear h); (try simp (disch := omega) only [cmpT, cmpF, bI_eq0, bI_ne0, Classical.not_not, nI_toI, nI_cl, nI_inj, nI_add, nI_mul, nI_subI, takeL, setL, Int32.toInt_zero, Nat.add_zero, Nat.zero_mul, Nat.zero_add, alen11, alen12, alen13, alen14, alen15, alen16, alen17, alen18, alen19] at *); first | (rw [c1]; exact ih) | omega)
    · have hf0 : F (b + 4 * k) = nI 0 := (hs k hk).1.resolve_right hf
      have e : (lsN F b (k + 1)).1 = (lsN F b k).1 := by rw [lsN, if_neg (fun q => hf q.1)]
      rw [e] at ih
      refine hX 1000 5 _ _ _ ?_
      repeat' (first | (intro hc) | (refine And.intro ?_ ?_) | (exact absurd nI_0 ‹cmpF 0 (nI 0) 0›) | (exact absurd ‹cmpT 0 (nI 1) 0› nI1_ne) | (exact absurd nI_0 ‹cmpT 1 (nI 0) 0›) | (exact absurd ‹cmpF 1 (nI 1) 0› nI1_ne) | (show wp _ _ _ _ _ _ _ _ _ _ _ _; conv => whnf) | (simp (disch := omega) only [nI_add, nI_mul, setN_now, setN_put, nI_cl, Nat.add_zero]) | (refine hcall _ _ _ _ ?_; first | (refine c_isEmpty cr hs hk ?_) | fail))
      all_goals first
        | exact Or.inl rfl
        | exact Or.inr rfl
        | (exfalso; exact bF hf0 (by assumption))
        | (clear e; (try clear hX hcall); (try clear h); (try simp (disch := omega) only [cmpT, cmpF, bI_eq0, bI_ne0, Classical.not_not, nI_toI, nI_cl, nI_inj, nI_add, nI_mul, nI_subI, takeL, setL, Int32.toInt_zero, Nat.add_zero, Nat.zero_mul, Nat.zero_add, alen11, alen12, alen13, alen14, alen15, alen16, alen17, alen18, alen19] at *); first | exact ih | omega | contradiction)
  · refine hX 1000 5 _ _ _ ?_
    repeat' (first | (intro hc) | (refine And.intro ?_ ?_) | (exact absurd nI_0 ‹cmpF 0 (nI 0) 0›) | (exact absurd ‹cmpT 0 (nI 1) 0› nI1_ne) | (exact absurd nI_0 ‹cmpT 1 (nI 0) 0›) | (exact absurd ‹cmpF 1 (nI 1) 0› nI1_ne) | (show wp _ _ _ _ _ _ _ _ _ _ _ _; conv => whnf))
    all_goals first
      | exact h
      | ((try clear hX hcall); (try clear h); (try simp (disch := omega) only [cmpT, cmpF, bI_eq0, bI_ne0, Classical.not_not, nI_toI, nI_cl, nI_inj, nI_add, nI_mul, nI_subI, takeL, setL, Int32.toInt_zero, Nat.add_zero, Nat.zero_mul, Nat.zero_add, alen11, alen12, alen13, alen14, alen15, alen16, alen17, alen18, alen19] at *); omega)
def ctV (F : Fm) (b : Nat) (lo : Int32) (k : Nat) : Int32 := if F (b + 4 * k) = nI 1 ∧ F (b + 4 * k + 2) = lo then F (b + 4 * k + 3) else nI 0
theorem ctV_i : (ctV F b lo k).toInt = ctr F b lo k := by
  unfold ctV ctr
  split <;> rfl
set_option maxHeartbeats 4000000 in
set_option maxRecDepth 100000 in
theorem c_weight (cr : cellsRep s sd F b) (hs : ∀ j, j < 3 → slotOk F (b + 4 * j)) (hk : k < 3) (h : Q (some (.inl (ctV F b lo k))) s) : wpM L xs codT retT (f + 2) m_X7_weightThatCounts [.inr (7, sd), .inl (nI k), .inl lo] s Q := by
  by_cases hf : F (b + 4 * k) = nI 1
  · have c1 := cell_1 cr hk hf
    by_cases hl : F (b + 4 * k + 2) = lo
    · have e : ctV F b lo k = F (b + 4 * k + 3) := if_pos ⟨hf, hl⟩
      rw [e] at h
      intro call hcall X hX; refine hX 1000 0 _ _ _ ?_
      repeat' (first | (intro hc) | (refine And.intro ?_ ?_) | (exact absurd nI_0 ‹cmpF 0 (nI 0) 0›) | (exact absurd ‹cmpT 0 (nI 1) 0› nI1_ne) | (exact absurd nI_0 ‹cmpT 1 (nI 0) 0›) | (exact absurd ‹cmpF 1 (nI 1) 0› nI1_ne) | (show wp _ _ _ _ _ _ _ _ _ _ _ _; conv => whnf) | (simp (disch := omega) only [nI_add, nI_mul, setN_now, setN_put, nI_cl, Nat.add_zero]) | (refine hcall _ _ _ _ ?_; first | (refine c_isEmpty cr hs hk ?_) | fail))
      all_goals first
        | exact Or.inl rfl
        | exact Or.inr rfl
        | (exfalso; exact bT (n01 hf) (by assumption))
        | (clear e; simp (disch := omega) only [nI_mul, nI_add, nI_cl, c1.2.2]; exact h)
        | (clear e; (try clear hX hcall); (try clear h); (try simp (disch := omega) only [cmpT, cmpF, bI_eq0, bI_ne0, Classical.not_not, nI_toI, nI_cl, nI_inj, nI_add, nI_mul, nI_subI, takeL, setL, Int32.toInt_zero, Nat.add_zero, Nat.zero_mul, Nat.zero_add, alen11, alen12, alen13, alen14, alen15, alen16, alen17, alen18, alen19] at *); first | omega | (rw [c1.2.1] at *; contradiction))
    · have e : ctV F b lo k = nI 0 := if_neg (fun q => hl q.2)
      rw [e] at h
      intro call hcall X hX; refine hX 1000 0 _ _ _ ?_
      repeat' (first | (intro hc) | (refine And.intro ?_ ?_) | (exact absurd nI_0 ‹cmpF 0 (nI 0) 0›) | (exact absurd ‹cmpT 0 (nI 1) 0› nI1_ne) | (exact absurd nI_0 ‹cmpT 1 (nI 0) 0›) | (exact absurd ‹cmpF 1 (nI 1) 0› nI1_ne) | (show wp _ _ _ _ _ _ _ _ _ _ _ _; conv => whnf) | (simp (disch := omega) only [nI_add, nI_mul, setN_now, setN_put, nI_cl, Nat.add_zero]) | (refine hcall _ _ _ _ ?_; first | (refine c_isEmpty cr hs hk ?_) | fail))
      all_goals first
        | exact Or.inl rfl
        | exact Or.inr rfl
        | (exfalso; exact bT (n01 hf) (by assumption))
        | exact h
        | (clear e; (try clear hX hcall); (try clear h); (try simp (disch := omega) only [cmpT, cmpF, bI_eq0, bI_ne0, Classical.not_not, nI_toI, nI_cl, nI_inj, nI_add, nI_mul, nI_subI, takeL, setL, Int32.toInt_zero, Nat.add_zero, Nat.zero_mul, Nat.zero_add, alen11, alen12, alen13, alen14, alen15, alen16, alen17, alen18, alen19] at *); first | omega | (rw [c1.2.1] at *; contradiction))
  · have hf0 : F (b + 4 * k) = nI 0 := (hs k hk).1.resolve_right hf
    have e : ctV F b lo k = nI 0 := if_neg (fun q => hf q.1)
    rw [e] at h
    intro call hcall X hX; refine hX 1000 0 _ _ _ ?_
    repeat' (first | (intro hc) | (refine And.intro ?_ ?_) | (exact absurd nI_0 ‹cmpF 0 (nI 0) 0›) | (exact absurd ‹cmpT 0 (nI 1) 0› nI1_ne) | (exact absurd nI_0 ‹cmpT 1 (nI 0) 0›) | (exact absurd ‹cmpF 1 (nI 1) 0› nI1_ne) | (show wp _ _ _ _ _ _ _ _ _ _ _ _; conv => whnf) | (simp (disch := omega) only [nI_add, nI_mul, setN_now, setN_put, nI_cl, Nat.add_zero]) | (refine hcall _ _ _ _ ?_; first | (refine c_isEmpty cr hs hk ?_) | fail))
    all_goals first
      | exact Or.inl rfl
      | exact Or.inr rfl
      | exact h
      | (exfalso; exact bF hf0 (by assumption))
      | (clear e; (try clear hX hcall); (try clear h); (try simp (disch := omega) only [cmpT, cmpF, bI_eq0, bI_ne0, Classical.not_not, nI_toI, nI_cl, nI_inj, nI_add, nI_mul, nI_subI, takeL, setL, Int32.toInt_zero, Nat.add_zero, Nat.zero_mul, Nat.zero_add, alen11, alen12, alen13, alen14, alen15, alen16, alen17, alen18, alen19] at *); omega)
theorem noI_0 (h : 0 ≤ v.toInt) : noI v = v := if_neg (fun q => by rw [q] at h; exact absurd h (by decide))
theorem noI_5 : noI (-5) = -1 := if_pos rfl
set_option maxHeartbeats 4000000 in
set_option maxRecDepth 100000 in
theorem c_placeFor (cr : cellsRep s sd F b) (hs : ∀ j, j < 3 → slotOk F (b + 4 * j)) (hf : 0 ≤ flow.toInt) (h : Q (some (.inl (noI (choF F b flow)))) s) : wpM L xs codT retT (f + 3) m_X7_placeFor [.inr (7, sd), .inl flow] s Q := by
  have hls := ls_ok hs 3 (by omega)
  have hfl : ∀ lo k, k < 3 → 0 ≤ (ctV F b lo k).toInt ∧ (ctV F b lo k).toInt ≤ 9 := fun lo k hk => by rw [ctV_i]; exact ctr_nn (hs k hk)
  have hct : ∀ lo k, k ≤ 3 → 0 ≤ ctS F b lo k ∧ ctS F b lo k ≤ 9 * (k : Int) := fun lo k hk => ctS_le hs k hk
  intro call hcall X hX; refine hX 1000 0 _ _ _ ?_
  repeat' (first | (intro hc) | (refine And.intro ?_ ?_) | (exact absurd nI_0 ‹cmpF 0 (nI 0) 0›) | (exact absurd ‹cmpT 0 (nI 1) 0› nI1_ne) | (exact absurd nI_0 ‹cmpT 1 (nI 0) 0›) | (exact absurd ‹cmpF 1 (nI 1) 0› nI1_ne) | (show wp _ _ _ _ _ _ _ _ _ _ _ _; conv => whnf) | (simp (disch := omega) only [nI_add, nI_mul, setN_now, setN_put, nI_cl, Nat.add_zero]) | (refine hcall _ _ _ _ ?_; first | (refine c_lowestPriority cr hs ?_) | fail))
  simp only [takeL, setL]
  generalize hlo : (lsN F b 3).1 = lo at *
  generalize hsu : (lsN F b 3).2 = su at *
  have sum : ∀ j k x, k + j = 3 → x.toInt = ctS F b lo k → (∀ x, x.toInt = ctS F b lo 3 → X 10 [.inr (7, sd), .inl flow, .inl lo, .inl x, .inl (nI 3)] [] s) → X 10 [.inr (7, sd), .inl flow, .inl lo, .inl x, .inl (nI k)] [] s := by
    clear h hls
    intro j
    induction j with
    | zero =>
      intro k x hk hx h
      have hk3 : k = 3 := by omega
      subst hk3
      exact h x hx
    | succ j ih =>
      intro k x hk hx h
      have g1 := hfl lo k (by omega)
      have g2 := hct lo k (by omega)
      have g3 : ctS F b lo (k + 1) = ctS F b lo k + ctr F b lo k := rfl
      have g4 : (ctV F b lo k).toInt = ctr F b lo k := ctV_i
      have ex : (x + ctV F b lo k).toInt = x.toInt + (ctV F b lo k).toInt := by
        rw [Int32.toInt_add]
        apply Int.bmod_eq_of_le <;> omega
      have ih := ih (k + 1) (x + ctV F b lo k) (by omega) (by omega) h
      clear h hfl hct
      refine hX 1000 10 _ _ _ ?_
      repeat' (first | (intro hc) | (refine And.intro ?_ ?_) | (exact absurd nI_0 ‹cmpF 0 (nI 0) 0›) | (exact absurd ‹cmpT 0 (nI 1) 0› nI1_ne) | (exact absurd nI_0 ‹cmpT 1 (nI 0) 0›) | (exact absurd ‹cmpF 1 (nI 1) 0› nI1_ne) | (show wp _ _ _ _ _ _ _ _ _ _ _ _; conv => whnf) | (simp (disch := omega) only [nI_add, nI_mul, setN_now, setN_put, nI_cl, Nat.add_zero]) | (refine hcall _ _ _ _ ?_; first | (refine c_weight cr hs (by omega) ?_) | fail))
      all_goals first
        | exact ih
        | ((try clear hX hcall); (try clear h); (try simp (disch := omega) only [cmpT, cmpF, bI_eq0, bI_ne0, Classical.not_not, nI_toI, nI_cl, nI_inj, nI_add, nI_mul, nI_subI, takeL, setL, Int32.toInt_zero, Nat.add_zero, Nat.zero_mul, Nat.zero_add, alen11, alen12, alen13, alen14, alen15, alen16, alen17, alen18, alen19] at *); first | exact ih | omega)
  refine sum 3 0 (nI 0) rfl rfl (fun x hx => ?_)
  clear sum
  rcases hls with hls | hls
  · have e0 : ∀ k, k ≤ 3 → ctS F b lo k = 0 := fun k hk => ctS_zero k (fun j hj q => absurd ((hls.1 j (by omega)).symm.trans q) nI01)
    have e5 : choF F b flow = -5 := by unfold choF; exact cho_none hls.1 3 0 _ rfl
    rw [e5, noI_5] at h
    have e3 := e0 3 (by omega)
    refine hX 1000 10 _ _ _ ?_
    repeat' (first | (intro hc) | (refine And.intro ?_ ?_) | (exact absurd nI_0 ‹cmpF 0 (nI 0) 0›) | (exact absurd ‹cmpT 0 (nI 1) 0› nI1_ne) | (exact absurd nI_0 ‹cmpT 1 (nI 0) 0›) | (exact absurd ‹cmpF 1 (nI 1) 0› nI1_ne) | (show wp _ _ _ _ _ _ _ _ _ _ _ _; conv => whnf))
    all_goals first
      | exact h
      | (exfalso; clear hfl hct; (try clear hX hcall); (try clear h); (try simp (disch := omega) only [cmpT, cmpF, bI_eq0, bI_ne0, Classical.not_not, nI_toI, nI_cl, nI_inj, nI_add, nI_mul, nI_subI, takeL, setL, Int32.toInt_zero, Nat.add_zero, Nat.zero_mul, Nat.zero_add, alen11, alen12, alen13, alen14, alen15, alen16, alen17, alen18, alen19] at *); omega)
  · have g5 := hls.2.2.2.1
    have g6 := hls.2.2.2.2
    have exs : x = su := Int32.toInt_inj.mp (by omega)
    subst exs
    have hz : ¬ x = 0 := fun q => by rw [q] at g6; exact absurd g6 (by decide)
    have ech : choF F b flow = choN F b lo 3 0 (flow - flow / x * x) := by unfold choF; rw [hsu, if_neg hz, hlo]
    rw [ech] at h
    have hr := rem_ok hf g6
    have m1 := Int.emod_nonneg flow.toInt (b := x.toInt) (by omega)
    have m2 := Int.emod_lt_of_pos flow.toInt (b := x.toInt) (by omega)
    have hmx : 0 ≤ (flow - flow / x * x).toInt ∧ (flow - flow / x * x).toInt < ctS F b lo 3 := by rw [hr]; omega
    have hm27 := hct lo 3 (by omega)
    generalize hmk : flow - flow / x * x = mk at *
    clear hr m1 m2
    have loop : ∀ j k left y, k + j = 3 → 0 ≤ left.toInt → left.toInt + y.toInt = mk.toInt → y.toInt = ctS F b lo k → Q (some (.inl (noI (choN F b lo j k left)))) s → X 49 [.inr (7, sd), .inl flow, .inl lo, .inl x, .inl mk, .inl y, .inl (nI k)] [] s := by
      clear h
      intro j
      induction j with
      | zero =>
        intro k left y hk h0 hl hy h
        have hk3 : k = 3 := by omega
        subst hk3
        refine hX 1000 49 _ _ _ ?_
        repeat' (first | (intro hc) | (refine And.intro ?_ ?_) | (exact absurd nI_0 ‹cmpF 0 (nI 0) 0›) | (exact absurd ‹cmpT 0 (nI 1) 0› nI1_ne) | (exact absurd nI_0 ‹cmpT 1 (nI 0) 0›) | (exact absurd ‹cmpF 1 (nI 1) 0› nI1_ne) | (show wp _ _ _ _ _ _ _ _ _ _ _ _; conv => whnf))
        all_goals first
          | exact h
          | (exfalso; clear hfl hct; (try clear hX hcall); (try clear h); (try simp (disch := omega) only [cmpT, cmpF, bI_eq0, bI_ne0, Classical.not_not, nI_toI, nI_cl, nI_inj, nI_add, nI_mul, nI_subI, takeL, setL, Int32.toInt_zero, Nat.add_zero, Nat.zero_mul, Nat.zero_add, alen11, alen12, alen13, alen14, alen15, alen16, alen17, alen18, alen19] at *); omega)
      | succ j ih =>
        intro k left y hk h0 hl hy h
        have hk3 : k < 3 := by omega
        have g1 := hfl lo k hk3
        have g2 := hct lo k (by omega)
        have g3 : ctS F b lo (k + 1) = ctS F b lo k + ctr F b lo k := rfl
        have g4 : (ctV F b lo k).toInt = ctr F b lo k := ctV_i
        have ex : (y + ctV F b lo k).toInt = y.toInt + (ctV F b lo k).toInt := by
          rw [Int32.toInt_add]
          apply Int.bmod_eq_of_le <;> omega
        by_cases hcn : F (b + 4 * k) = nI 1 ∧ F (b + 4 * k + 2) = lo
        · have ev : ctV F b lo k = F (b + 4 * k + 3) := if_pos hcn
          have hsub : (left - F (b + 4 * k + 3)).toInt = left.toInt - (F (b + 4 * k + 3)).toInt := by
            rw [Int32.toInt_sub]
            rw [ev] at g1
            apply Int.bmod_eq_of_le <;> omega
          rw [ev] at g1 g4 ex
          rw [choN, if_pos hcn] at h
          have c1 := (cell_1 cr hk3 hcn.1).1
          have hpl := slot_pl (hs k hk3) hcn.1
          by_cases hl2 : (left - F (b + 4 * k + 3)).toInt < 0
          · rw [if_pos hl2, noI_0 hpl.1, ← c1] at h
            clear ih
            refine hX 1000 49 _ _ _ ?_
            repeat' (first | (intro hc) | (refine And.intro ?_ ?_) | (exact absurd nI_0 ‹cmpF 0 (nI 0) 0›) | (exact absurd ‹cmpT 0 (nI 1) 0› nI1_ne) | (exact absurd nI_0 ‹cmpT 1 (nI 0) 0›) | (exact absurd ‹cmpF 1 (nI 1) 0› nI1_ne) | (show wp _ _ _ _ _ _ _ _ _ _ _ _; conv => whnf) | (rw [ev]) | (simp (disch := omega) only [nI_add, nI_mul, setN_now, setN_put, nI_cl, Nat.add_zero]) | (refine hcall _ _ _ _ ?_; first | (refine c_weight cr hs hk3 ?_) | fail))
            all_goals first
              | exact h
              | (simp (disch := omega) only [nI_mul, nI_add, nI_cl, Nat.add_zero]; exact h)
              | (clear hfl hct; (try clear hX hcall); (try clear h); (try simp (disch := omega) only [cmpT, cmpF, bI_eq0, bI_ne0, Classical.not_not, nI_toI, nI_cl, nI_inj, nI_add, nI_mul, nI_subI, takeL, setL, Int32.toInt_zero, Nat.add_zero, setN_now, alen20, alen11, alen12, alen13, alen14, alen15, alen16, alen17, alen18, alen19, (id ev)] at *); omega)
              | (exfalso; clear hfl hct; (try clear hX hcall); (try clear h); (try simp (disch := omega) only [cmpT, cmpF, bI_eq0, bI_ne0, Classical.not_not, nI_toI, nI_cl, nI_inj, nI_add, nI_mul, nI_subI, takeL, setL, Int32.toInt_zero, Nat.add_zero, setN_now, alen20, alen11, alen12, alen13, alen14, alen15, alen16, alen17, alen18, alen19, (id ev)] at *); omega)
          · rw [if_neg hl2] at h
            have ih := ih (k + 1) (left - F (b + 4 * k + 3)) (y + F (b + 4 * k + 3)) (by omega) (by omega) (by omega) (by omega) h
            clear h
            refine hX 1000 49 _ _ _ ?_
            repeat' (first | (intro hc) | (refine And.intro ?_ ?_) | (exact absurd nI_0 ‹cmpF 0 (nI 0) 0›) | (exact absurd ‹cmpT 0 (nI 1) 0› nI1_ne) | (exact absurd nI_0 ‹cmpT 1 (nI 0) 0›) | (exact absurd ‹cmpF 1 (nI 1) 0› nI1_ne) | (show wp _ _ _ _ _ _ _ _ _ _ _ _; conv => whnf) | (rw [ev]) | (simp (disch := omega) only [nI_add, nI_mul, setN_now, setN_put, nI_cl, Nat.add_zero]) | (refine hcall _ _ _ _ ?_; first | (refine c_weight cr hs hk3 ?_) | fail))
            all_goals first
              | exact ih
              | (clear hfl hct; (try clear hX hcall); (try clear h); (try simp (disch := omega) only [cmpT, cmpF, bI_eq0, bI_ne0, Classical.not_not, nI_toI, nI_cl, nI_inj, nI_add, nI_mul, nI_subI, takeL, setL, Int32.toInt_zero, Nat.add_zero, setN_now, alen20, alen11, alen12, alen13, alen14, alen15, alen16, alen17, alen18, alen19, (id ev)] at *); first | exact ih | omega)
        · have ev : ctV F b lo k = nI 0 := if_neg hcn
          rw [choN, if_neg hcn] at h
          rw [ev] at g4 ex
          have e00 : (nI 0).toInt = 0 := by decide
          have ih := ih (k + 1) left (y + nI 0) (by omega) h0 (by omega) (by omega) h
          clear h
          refine hX 1000 49 _ _ _ ?_
          repeat' (first | (intro hc) | (refine And.intro ?_ ?_) | (exact absurd nI_0 ‹cmpF 0 (nI 0) 0›) | (exact absurd ‹cmpT 0 (nI 1) 0› nI1_ne) | (exact absurd nI_0 ‹cmpT 1 (nI 0) 0›) | (exact absurd ‹cmpF 1 (nI 1) 0› nI1_ne) | (show wp _ _ _ _ _ _ _ _ _ _ _ _; conv => whnf) | (rw [ev]) | (simp (disch := omega) only [nI_add, nI_mul, setN_now, setN_put, nI_cl, Nat.add_zero]) | (refine hcall _ _ _ _ ?_; first | (refine c_weight cr hs hk3 ?_) | fail))
          all_goals first
            | exact ih
            | (clear hfl hct; (try clear hX hcall); (try clear h); (try simp (disch := omega) only [cmpT, cmpF, bI_eq0, bI_ne0, Classical.not_not, nI_toI, nI_cl, nI_inj, nI_add, nI_mul, nI_subI, takeL, setL, Int32.toInt_zero, Nat.add_zero, setN_now, alen20, alen11, alen12, alen13, alen14, alen15, alen16, alen17, alen18, alen19, (id ev)] at *); first | exact ih | omega)
    refine hX 1000 10 _ _ _ ?_
    repeat' (first | (intro hc) | (refine And.intro ?_ ?_) | (exact absurd nI_0 ‹cmpF 0 (nI 0) 0›) | (exact absurd ‹cmpT 0 (nI 1) 0› nI1_ne) | (exact absurd nI_0 ‹cmpT 1 (nI 0) 0›) | (exact absurd ‹cmpF 1 (nI 1) 0› nI1_ne) | (show wp _ _ _ _ _ _ _ _ _ _ _ _; conv => whnf))
    all_goals first
      | exact hz
      | exact hz (by assumption)
      | (exfalso; clear hfl hct loop; (try clear hX hcall); (try clear h); (try simp (disch := omega) only [cmpT, cmpF, bI_eq0, bI_ne0, Classical.not_not, nI_toI, nI_cl, nI_inj, nI_add, nI_mul, nI_subI, takeL, setL, Int32.toInt_zero, Nat.add_zero, Nat.zero_mul, Nat.zero_add, alen11, alen12, alen13, alen14, alen15, alen16, alen17, alen18, alen19] at *); omega)
      | ((try simp only [takeL, setL]); (try rw [hmk]); refine loop 3 0 mk (nI 0) rfl (by omega) ?_ rfl h; show mk.toInt + 0 = mk.toInt; omega)
end CLS2
end
section
/-! THE CLASS: slots, sites, worlds, read -/
section CLS3
variable {L : Nat} {xs : Nat → Int32} {f i k r p q c j n B b w m sd : Nat} {x y v a z l lo v0 v1 name flow place : Int32} {s : St} {F G F' u : Fm} {Q : Option MV → St → Prop}
theorem pl_ne (hs : ∀ j, j < 3 → slotOk F (b + 4 * j)) (hf : 0 ≤ flow.toInt) (hp : 0 ≤ place.toInt) : noI (choF F b flow) = place ↔ choF F b flow = place := by
  rcases choF_cases (b := b) hs hf with h | h
  · rw [h.2, noI_5]
    constructor
    · intro e; rw [← e] at hp; exact absurd hp (by decide)
    · intro e; rw [← e] at hp; exact absurd hp (by decide)
  · obtain ⟨j, hj, h1, h2⟩ := h.2
    rw [h2, noI_0 (slot_pl (hs j hj) h1).1]
set_option maxHeartbeats 4000000 in
set_option maxRecDepth 100000 in
theorem c_propertyOf (cr : cellsRep s sd F b) (hs : ∀ j, j < 3 → slotOk F (b + 4 * j)) (hk : k < 3) (h : Q (some (.inl (if ¬ iN a 3 then -2 else if F (b + 4 * k) = nI 1 then F (b + 4 * k + 1 + nn a) else -5))) s) : wpM L xs codT retT (f + 2) m_X7_propertyOf [.inr (7, sd), .inl (nI k), .inl a] s Q := by
  by_cases hb : iN a 3
  · obtain ⟨j, rfl, hj⟩ := iN_nn hb (by omega)
    rw [if_neg (fun q => q hb), show nn (nI j) = j from nI_cl (by omega)] at h
    by_cases hf : F (b + 4 * k) = nI 1
    · rw [if_pos hf] at h
      have c1 := cell_1 cr hk hf
      have ec : s.1 15 sd (k * 3 + j) = F (b + 4 * k + 1 + j) := by
        have hj3 : j = 0 ∨ j = 1 ∨ j = 2 := by omega
        rcases hj3 with t | t | t <;> subst t
        · exact c1.1
        · exact c1.2.1
        · exact c1.2.2
      intro call hcall X hX; refine hX 1000 0 _ _ _ ?_
      repeat' (first | (intro hc) | (refine And.intro ?_ ?_) | (exact absurd nI_0 ‹cmpF 0 (nI 0) 0›) | (exact absurd ‹cmpT 0 (nI 1) 0› nI1_ne) | (exact absurd nI_0 ‹cmpT 1 (nI 0) 0›) | (exact absurd ‹cmpF 1 (nI 1) 0› nI1_ne) | (show wp _ _ _ _ _ _ _ _ _ _ _ _; conv => whnf) | (simp (disch := omega) only [nI_add, nI_mul, setN_now, setN_put, nI_cl, Nat.add_zero]) | (refine hcall _ _ _ _ ?_; first | (refine c_isEmpty cr hs hk ?_) | fail))
      all_goals first
        | (exfalso; exact bT (n01 hf) (by assumption))
        | (simp (disch := omega) only [nI_mul, nI_add, nI_cl, ec]; exact h)
        | ((try clear hX hcall); (try clear h); (try simp (disch := omega) only [cmpT, cmpF, bI_eq0, bI_ne0, Classical.not_not, nI_toI, nI_cl, nI_inj, nI_add, nI_mul, nI_subI, takeL, setL, Int32.toInt_zero, Nat.add_zero, Nat.zero_mul, Nat.zero_add, alen11, alen12, alen13, alen14, alen15, alen16, alen17, alen18, alen19] at *); omega)
    · rw [if_neg hf] at h
      have hf0 : F (b + 4 * k) = nI 0 := (hs k hk).1.resolve_right hf
      intro call hcall X hX; refine hX 1000 0 _ _ _ ?_
      repeat' (first | (intro hc) | (refine And.intro ?_ ?_) | (exact absurd nI_0 ‹cmpF 0 (nI 0) 0›) | (exact absurd ‹cmpT 0 (nI 1) 0› nI1_ne) | (exact absurd nI_0 ‹cmpT 1 (nI 0) 0›) | (exact absurd ‹cmpF 1 (nI 1) 0› nI1_ne) | (show wp _ _ _ _ _ _ _ _ _ _ _ _; conv => whnf) | (simp (disch := omega) only [nI_add, nI_mul, setN_now, setN_put, nI_cl, Nat.add_zero]) | (refine hcall _ _ _ _ ?_; first | (refine c_isEmpty cr hs hk ?_) | fail))
      all_goals first
        | exact h
        | (exfalso; exact bF hf0 (by assumption))
        | ((try clear hX hcall); (try clear h); (try simp (disch := omega) only [cmpT, cmpF, bI_eq0, bI_ne0, Classical.not_not, nI_toI, nI_cl, nI_inj, nI_add, nI_mul, nI_subI, takeL, setL, Int32.toInt_zero, Nat.add_zero, Nat.zero_mul, Nat.zero_add, alen11, alen12, alen13, alen14, alen15, alen16, alen17, alen18, alen19] at *); omega)
  · rw [if_pos hb] at h
    intro call hcall X hX; refine hX 1000 0 _ _ _ ?_
    repeat' (first | (intro hc) | (refine And.intro ?_ ?_) | (exact absurd nI_0 ‹cmpF 0 (nI 0) 0›) | (exact absurd ‹cmpT 0 (nI 1) 0› nI1_ne) | (exact absurd nI_0 ‹cmpT 1 (nI 0) 0›) | (exact absurd ‹cmpF 1 (nI 1) 0› nI1_ne) | (show wp _ _ _ _ _ _ _ _ _ _ _ _; conv => whnf))
    all_goals first
      | exact h
      | ((try clear hX hcall); (try clear h); (try simp (disch := omega) only [cmpT, cmpF, bI_eq0, bI_ne0, Classical.not_not, nI_toI, nI_cl, nI_inj, nI_add, nI_mul, nI_subI, takeL, setL, Int32.toInt_zero, Nat.add_zero, Nat.zero_mul, Nat.zero_add, alen11, alen12, alen13, alen14, alen15, alen16, alen17, alen18, alen19] at *); omega)
set_option maxHeartbeats 4000000 in
set_option maxRecDepth 100000 in
theorem c_isRegistered (e4 : s.1 6 i 4 = v0) (h : Q (some (.inl (bI (v.toInt < v0.toInt)))) s) : wpM L xs codT retT (f + 1) m_X6_isRegistered [.inr (6, i), .inl v] s Q := by
  subst e4
  intro call hcall X hX; refine hX 1000 0 _ _ _ ?_
  repeat' (first | (intro hc) | (refine And.intro ?_ ?_) | (exact absurd nI_0 ‹cmpF 0 (nI 0) 0›) | (exact absurd ‹cmpT 0 (nI 1) 0› nI1_ne) | (exact absurd nI_0 ‹cmpT 1 (nI 0) 0›) | (exact absurd ‹cmpF 1 (nI 1) 0› nI1_ne) | (show wp _ _ _ _ _ _ _ _ _ _ _ _; conv => whnf))
  all_goals first
    | exact Or.inl rfl
    | exact Or.inr rfl
    | (refine bI_1 h ?_; clear h; (try clear hX hcall); (try clear h); (try simp (disch := omega) only [cmpT, cmpF, bI_eq0, bI_ne0, Classical.not_not, nI_toI, nI_cl, nI_inj, nI_add, nI_mul, nI_subI, takeL, setL, Int32.toInt_zero, Nat.add_zero, Nat.zero_mul, Nat.zero_add, alen11, alen12, alen13, alen14, alen15, alen16, alen17, alen18, alen19] at *); omega)
    | (refine bI_0 h ?_; clear h; (try clear hX hcall); (try clear h); (try simp (disch := omega) only [cmpT, cmpF, bI_eq0, bI_ne0, Classical.not_not, nI_toI, nI_cl, nI_inj, nI_add, nI_mul, nI_subI, takeL, setL, Int32.toInt_zero, Nat.add_zero, Nat.zero_mul, Nat.zero_add, alen11, alen12, alen13, alen14, alen15, alen16, alen17, alen18, alen19] at *); omega)
set_option maxHeartbeats 4000000 in
set_option maxRecDepth 100000 in
theorem c_isUp (e4 : s.1 6 i 4 = v0) (cr : cellsRep s i F b) (hs : ∀ j, j < 3 → slotOk F (b + 4 * j)) (h : Q (some (.inl (bI (v.toInt < v0.toInt ∧ (F b = nI 1 ∨ F (b + 4) = nI 1 ∨ F (b + 8) = nI 1))))) s) : wpM L xs codT retT (f + 2) m_X6_isUp [.inr (6, i), .inl v] s Q := by
  intro call hcall X hX; refine hX 1000 0 _ _ _ ?_
  repeat' (first | (intro hc) | (refine And.intro ?_ ?_) | (exact absurd nI_0 ‹cmpF 0 (nI 0) 0›) | (exact absurd ‹cmpT 0 (nI 1) 0› nI1_ne) | (exact absurd nI_0 ‹cmpT 1 (nI 0) 0›) | (exact absurd ‹cmpF 1 (nI 1) 0› nI1_ne) | (show wp _ _ _ _ _ _ _ _ _ _ _ _; conv => whnf) | (simp (disch := omega) only [nI_add, nI_mul, setN_now, setN_put, nI_cl, Nat.add_zero]) | (refine hcall _ _ _ _ ?_; first | (refine c_isRegistered e4 ?_) | (refine c_areEmpty cr hs ?_) | fail))
  all_goals first
    | exact Or.inl rfl
    | exact Or.inr rfl
    | exact bI_01 _
    | (refine bI_1 h ?_; clear h hX hcall; simp only [cmpT, cmpF, bI_eq0, bI_ne0, Classical.not_not] at *; exact ⟨by assumption, by assumption⟩)
    | (refine bI_0 h ?_; clear h hX hcall; simp only [cmpT, cmpF, bI_eq0, bI_ne0, Classical.not_not] at *; rintro ⟨q1, q2⟩; contradiction)
set_option maxHeartbeats 4000000 in
set_option maxRecDepth 100000 in
theorem c_isServer (e : s.1 8 w 3 = nI n) (h8 : n ≤ 8) (h : Q (some (.inl (bI (iN v n)))) s) : wpM L xs codT retT (f + 1) m_X8_isServer [.inr (8, w), .inl v] s Q := by
  intro call hcall X hX; refine hX 1000 0 _ _ _ ?_
  repeat' (first | (intro hc) | (refine And.intro ?_ ?_) | (exact absurd nI_0 ‹cmpF 0 (nI 0) 0›) | (exact absurd ‹cmpT 0 (nI 1) 0› nI1_ne) | (exact absurd nI_0 ‹cmpT 1 (nI 0) 0›) | (exact absurd ‹cmpF 1 (nI 1) 0› nI1_ne) | (show wp _ _ _ _ _ _ _ _ _ _ _ _; conv => whnf))
  all_goals first
    | exact Or.inl rfl
    | exact Or.inr rfl
    | (refine bI_1 h ?_; clear h; (try clear hX hcall); (try clear h); (try simp (disch := omega) only [cmpT, cmpF, bI_eq0, bI_ne0, Classical.not_not, nI_toI, nI_cl, nI_inj, nI_add, nI_mul, nI_subI, takeL, setL, Int32.toInt_zero, Nat.add_zero, setN_now, alen20, alen11, alen12, alen13, alen14, alen15, alen16, alen17, alen18, alen19, (id e)] at *); omega)
    | (refine bI_0 h ?_; clear h; (try clear hX hcall); (try clear h); (try simp (disch := omega) only [cmpT, cmpF, bI_eq0, bI_ne0, Classical.not_not, nI_toI, nI_cl, nI_inj, nI_add, nI_mul, nI_subI, takeL, setL, Int32.toInt_zero, Nat.add_zero, setN_now, alen20, alen11, alen12, alen13, alen14, alen15, alen16, alen17, alen18, alen19, (id e)] at *); omega)
set_option maxHeartbeats 4000000 in
set_option maxRecDepth 100000 in
theorem c_isSite (e : s.1 8 w 4 = nI n) (h8 : n ≤ 8) (h : Q (some (.inl (bI (iN v n)))) s) : wpM L xs codT retT (f + 1) m_X8_isSite [.inr (8, w), .inl v] s Q := by
  intro call hcall X hX; refine hX 1000 0 _ _ _ ?_
  repeat' (first | (intro hc) | (refine And.intro ?_ ?_) | (exact absurd nI_0 ‹cmpF 0 (nI 0) 0›) | (exact absurd ‹cmpT 0 (nI 1) 0› nI1_ne) | (exact absurd nI_0 ‹cmpT 1 (nI 0) 0›) | (exact absurd ‹cmpF 1 (nI 1) 0› nI1_ne) | (show wp _ _ _ _ _ _ _ _ _ _ _ _; conv => whnf))
  all_goals first
    | exact Or.inl rfl
    | exact Or.inr rfl
    | (refine bI_1 h ?_; clear h; (try clear hX hcall); (try clear h); (try simp (disch := omega) only [cmpT, cmpF, bI_eq0, bI_ne0, Classical.not_not, nI_toI, nI_cl, nI_inj, nI_add, nI_mul, nI_subI, takeL, setL, Int32.toInt_zero, Nat.add_zero, setN_now, alen20, alen11, alen12, alen13, alen14, alen15, alen16, alen17, alen18, alen19, (id e)] at *); omega)
    | (refine bI_0 h ?_; clear h; (try clear hX hcall); (try clear h); (try simp (disch := omega) only [cmpT, cmpF, bI_eq0, bI_ne0, Classical.not_not, nI_toI, nI_cl, nI_inj, nI_add, nI_mul, nI_subI, takeL, setL, Int32.toInt_zero, Nat.add_zero, setN_now, alen20, alen11, alen12, alen13, alen14, alen15, alen16, alen17, alen18, alen19, (id e)] at *); omega)
set_option maxHeartbeats 4000000 in
set_option maxRecDepth 100000 in
theorem c_isRouter (e : s.1 8 w 5 = nI n) (h8 : n ≤ 4) (h : Q (some (.inl (bI (iN v n)))) s) : wpM L xs codT retT (f + 1) m_X8_isRouter [.inr (8, w), .inl v] s Q := by
  intro call hcall X hX; refine hX 1000 0 _ _ _ ?_
  repeat' (first | (intro hc) | (refine And.intro ?_ ?_) | (exact absurd nI_0 ‹cmpF 0 (nI 0) 0›) | (exact absurd ‹cmpT 0 (nI 1) 0› nI1_ne) | (exact absurd nI_0 ‹cmpT 1 (nI 0) 0›) | (exact absurd ‹cmpF 1 (nI 1) 0› nI1_ne) | (show wp _ _ _ _ _ _ _ _ _ _ _ _; conv => whnf))
  all_goals first
    | exact Or.inl rfl
    | exact Or.inr rfl
    | (refine bI_1 h ?_; clear h; (try clear hX hcall); (try clear h); (try simp (disch := omega) only [cmpT, cmpF, bI_eq0, bI_ne0, Classical.not_not, nI_toI, nI_cl, nI_inj, nI_add, nI_mul, nI_subI, takeL, setL, Int32.toInt_zero, Nat.add_zero, setN_now, alen20, alen11, alen12, alen13, alen14, alen15, alen16, alen17, alen18, alen19, (id e)] at *); omega)
    | (refine bI_0 h ?_; clear h; (try clear hX hcall); (try clear h); (try simp (disch := omega) only [cmpT, cmpF, bI_eq0, bI_ne0, Classical.not_not, nI_toI, nI_cl, nI_inj, nI_add, nI_mul, nI_subI, takeL, setL, Int32.toInt_zero, Nat.add_zero, setN_now, alen20, alen11, alen12, alen13, alen14, alen15, alen16, alen17, alen18, alen19, (id e)] at *); omega)
set_option maxHeartbeats 4000000 in
set_option maxRecDepth 100000 in
theorem c_homeOf (hw : WF F B) (hR : RepW s w F) (h : Q (some (.inl (nI (homeF F a z)))) s) : wpM L xs codT retT (f + 2) m_X8_homeOf [.inr (8, w), .inl a, .inl z] s Q := by
  have s2 := hw.s2
  have e1 : s.1 8 w 3 = nI (cS F) := hR.s1.trans hw.s1
  intro call hcall X hX; refine hX 1000 0 _ _ _ ?_
  repeat' (first | (intro hc) | (refine And.intro ?_ ?_) | (exact absurd nI_0 ‹cmpF 0 (nI 0) 0›) | (exact absurd ‹cmpT 0 (nI 1) 0› nI1_ne) | (exact absurd nI_0 ‹cmpT 1 (nI 0) 0›) | (exact absurd ‹cmpF 1 (nI 1) 0› nI1_ne) | (show wp _ _ _ _ _ _ _ _ _ _ _ _; conv => whnf))
  simp only [takeL, setL]
  have loop : ∀ j, j ≤ cS F - 1 → X 5 [.inr (8, w), .inl a, .inl z, .inl (nI (homeN F a z j)), .inl (nI (j + 1))] [] s := by
    refine loopD (cS F - 1) (fun j hj ih => ?_) ?_
    · clear h
      have hle := homeN_le (F := F) (a := a) (z := z) j
      obtain ⟨r0, r1, r2⟩ := hR.server (k := j + 1) (by omega)
      obtain ⟨h0, h1, h2⟩ := hR.server (k := homeN F a z j) (by omega)
      have ih2 : X 5 [.inr (8, w), .inl a, .inl z, .inl (nI (if holdF F (j + 1) a z ∧ (F (5 + 3 * (j + 1) + 2)).toInt < (F (5 + 3 * homeN F a z j + 2)).toInt then j + 1 else homeN F a z j)), .inl (nI (j + 1 + 1))] [] s := ih
      clear ih
      generalize homeN F a z j = m at *
      refine hX 1000 5 _ _ _ ?_
      repeat' (first | (intro hc) | (refine And.intro ?_ ?_) | (exact absurd nI_0 ‹cmpF 0 (nI 0) 0›) | (exact absurd ‹cmpT 0 (nI 1) 0› nI1_ne) | (exact absurd nI_0 ‹cmpT 1 (nI 0) 0›) | (exact absurd ‹cmpF 1 (nI 1) 0› nI1_ne) | (show wp _ _ _ _ _ _ _ _ _ _ _ _; conv => whnf) | (simp (disch := omega) only [nI_cl]) | (simp (disch := omega) only [nI_add, nI_mul, setN_now, setN_put, nI_cl, Nat.add_zero]) | (refine hcall _ _ _ _ ?_; first | (refine c_holds r1 r2 ?_) | fail))
      all_goals first
        | (clear ih2; (try clear hX hcall); (try clear h); (try simp (disch := omega) only [cmpT, cmpF, bI_eq0, bI_ne0, Classical.not_not, nI_toI, nI_cl, nI_inj, nI_add, nI_mul, nI_subI, takeL, setL, Int32.toInt_zero, Nat.add_zero, setN_now, alen20, alen11, alen12, alen13, alen14, alen15, alen16, alen17, alen18, alen19, (id e1)] at *); omega)
        | (have hh : holdF F (j + 1) a z ∧ (F (5 + 3 * (j + 1) + 2)).toInt < (F (5 + 3 * m + 2)).toInt := ⟨bI_ne0.mp (by assumption), by clear ih2; (try clear hX hcall); (try clear h); (try simp (disch := omega) only [cmpT, cmpF, bI_eq0, bI_ne0, Classical.not_not, nI_toI, nI_cl, nI_inj, nI_add, nI_mul, nI_subI, takeL, setL, Int32.toInt_zero, Nat.add_zero, setN_now, alen20, alen11, alen12, alen13, alen14, alen15, alen16, alen17, alen18, alen19, (id r2), (id h2)] at *); omega⟩; rw [if_pos hh] at ih2; simp only [takeL, setL, nI_add]; exact ih2)
        | (have hh : ¬ (holdF F (j + 1) a z ∧ (F (5 + 3 * (j + 1) + 2)).toInt < (F (5 + 3 * m + 2)).toInt) := (by rintro ⟨q1, q2⟩; first | exact bF q1 (by assumption) | (clear ih2; (try clear hX hcall); (try clear h); (try simp (disch := omega) only [cmpT, cmpF, bI_eq0, bI_ne0, Classical.not_not, nI_toI, nI_cl, nI_inj, nI_add, nI_mul, nI_subI, takeL, setL, Int32.toInt_zero, Nat.add_zero, setN_now, alen20, alen11, alen12, alen13, alen14, alen15, alen16, alen17, alen18, alen19, (id r2), (id h2)] at *); omega)); rw [if_neg hh] at ih2; simp only [takeL, setL, nI_add]; exact ih2)
    · refine hX 1000 5 _ _ _ ?_
      repeat' (first | (intro hc) | (refine And.intro ?_ ?_) | (exact absurd nI_0 ‹cmpF 0 (nI 0) 0›) | (exact absurd ‹cmpT 0 (nI 1) 0› nI1_ne) | (exact absurd nI_0 ‹cmpT 1 (nI 0) 0›) | (exact absurd ‹cmpF 1 (nI 1) 0› nI1_ne) | (show wp _ _ _ _ _ _ _ _ _ _ _ _; conv => whnf))
      all_goals first
        | exact h
        | ((try clear hX hcall); (try clear h); (try simp (disch := omega) only [cmpT, cmpF, bI_eq0, bI_ne0, Classical.not_not, nI_toI, nI_cl, nI_inj, nI_add, nI_mul, nI_subI, takeL, setL, Int32.toInt_zero, Nat.add_zero, setN_now, alen20, alen11, alen12, alen13, alen14, alen15, alen16, alen17, alen18, alen19, (id e1)] at *); omega)
  exact loop 0 (by omega)
set_option maxHeartbeats 4000000 in
set_option maxRecDepth 100000 in
theorem c_homeOfSite (hw : WF F B) (hR : RepW s w F) (hk : k < cT F) (h : Q (some (.inl (nI (homeF F (F (29 + 17 * k)) (F (29 + 17 * k + 1)))))) s) : wpM L xs codT retT (f + 3) m_X8_homeOfSite [.inr (8, w), .inl (nI k)] s Q := by
  have t2 := hw.t2
  have e2 : s.1 8 w 4 = nI (cT F) := hR.t1.trans hw.t1
  obtain ⟨r0, r1, -⟩ := hR.site hk
  have hk2 := iN_k hk (by omega)
  rw [← r0, ← r1] at h
  intro call hcall X hX; refine hX 1000 0 _ _ _ ?_
  repeat' (first | (intro hc) | (refine And.intro ?_ ?_) | (exact absurd nI_0 ‹cmpF 0 (nI 0) 0›) | (exact absurd ‹cmpT 0 (nI 1) 0› nI1_ne) | (exact absurd nI_0 ‹cmpT 1 (nI 0) 0›) | (exact absurd ‹cmpF 1 (nI 1) 0› nI1_ne) | (show wp _ _ _ _ _ _ _ _ _ _ _ _; conv => whnf) | (simp (disch := omega) only [nI_cl]) | (simp (disch := omega) only [nI_add, nI_mul, setN_now, setN_put, nI_cl, Nat.add_zero]) | (refine hcall _ _ _ _ ?_; first | (refine c_isSite e2 t2 ?_) | (refine c_homeOf hw hR ?_) | fail))
  all_goals first
    | exact h
    | (exfalso; exact bF hk2 (by assumption))
    | (clear hk2; (try clear hX hcall); (try clear h); (try simp (disch := omega) only [cmpT, cmpF, bI_eq0, bI_ne0, Classical.not_not, nI_toI, nI_cl, nI_inj, nI_add, nI_mul, nI_subI, takeL, setL, Int32.toInt_zero, Nat.add_zero, Nat.zero_mul, Nat.zero_add, alen11, alen12, alen13, alen14, alen15, alen16, alen17, alen18, alen19] at *); omega)
set_option maxHeartbeats 4000000 in
set_option maxRecDepth 100000 in
theorem c_hopsTo (hw : WF F B) (hR : RepW s w F) (hk : k < cS F) (h : Q (some (.inl (nI (wayF F k)))) s) : wpM L xs codT retT (f + 2) m_X8_hopsTo [.inr (8, w), .inl (nI k)] s Q := by
  have s2 := hw.s2
  have e1 : s.1 8 w 3 = nI (cS F) := hR.s1.trans hw.s1
  have hl := wayF_le hw k hk
  intro call hcall X hX; refine hX 1000 0 _ _ _ ?_
  repeat' (first | (intro hc) | (refine And.intro ?_ ?_) | (exact absurd nI_0 ‹cmpF 0 (nI 0) 0›) | (exact absurd ‹cmpT 0 (nI 1) 0› nI1_ne) | (exact absurd nI_0 ‹cmpT 1 (nI 0) 0›) | (exact absurd ‹cmpF 1 (nI 1) 0› nI1_ne) | (show wp _ _ _ _ _ _ _ _ _ _ _ _; conv => whnf))
  simp only [takeL, setL]
  have loop : ∀ j c, j < cS F → c + wayF F j = wayF F k → X 4 [.inr (8, w), .inl (nI k), .inl (nI c), .inl (nI j)] [] s := by
    intro j
    induction j using Nat.strongRecOn with
    | ind j ih =>
      intro c hj cr
      have hlj := wayF_le hw j hj
      have hj2 := iN_k hj (by omega)
      obtain ⟨r0, -, -⟩ := hR.server hj
      by_cases h0 : j = 0
      · subst h0
        rw [wayF_0] at cr
        have ep : F (5 + 3 * 0) = -5 := (hw.server hj).2.1 rfl
        have ep2 : s.1 5 (8 * w + 0) 1 = -5 := r0.trans ep
        have hc1 : c + 1 = wayF F k := by omega
        have last : X 4 [.inr (8, w), .inl (nI k), .inl (nI (c + 1)), .inl (-5)] [] s := by
          have h5 : ¬ iN (-5) (cS F) := fun q => by have := q.1; exact absurd this (by decide)
          rw [hc1]
          refine hX 1000 4 _ _ _ ?_
          repeat' (first | (intro hc) | (refine And.intro ?_ ?_) | (exact absurd nI_0 ‹cmpF 0 (nI 0) 0›) | (exact absurd ‹cmpT 0 (nI 1) 0› nI1_ne) | (exact absurd nI_0 ‹cmpT 1 (nI 0) 0›) | (exact absurd ‹cmpF 1 (nI 1) 0› nI1_ne) | (show wp _ _ _ _ _ _ _ _ _ _ _ _; conv => whnf) | (simp (disch := omega) only [nI_add, nI_mul, setN_now, setN_put, nI_cl, Nat.add_zero]) | (refine hcall _ _ _ _ ?_; first | (refine c_isServer e1 s2.2 ?_) | fail))
          all_goals first
            | exact h
            | (exfalso; exact h5 (bI_ne0.mp (by assumption)))
        clear h ih
        refine hX 1000 4 _ _ _ ?_
        repeat' (first | (intro hc) | (refine And.intro ?_ ?_) | (exact absurd nI_0 ‹cmpF 0 (nI 0) 0›) | (exact absurd ‹cmpT 0 (nI 1) 0› nI1_ne) | (exact absurd nI_0 ‹cmpT 1 (nI 0) 0›) | (exact absurd ‹cmpF 1 (nI 1) 0› nI1_ne) | (show wp _ _ _ _ _ _ _ _ _ _ _ _; conv => whnf) | (simp (disch := omega) only [nI_cl]) | (simp (disch := omega) only [nI_add, nI_mul, setN_now, setN_put, nI_cl, Nat.add_zero]) | (refine hcall _ _ _ _ ?_; first | (refine c_isServer e1 s2.2 ?_) | fail))
        all_goals first
          | (exfalso; exact bF hj2 (by assumption))
          | (simp (disch := omega) only [takeL, setL, nI_add, nI_cl]; (first | rw [ep2] | rw [show s.1 5 (8 * w) 1 = -5 from ep2]); exact last)
          | (clear hX hcall last; simp (disch := omega) only [nI_toI, alen11]; omega)
          | (clear hj2; (try clear hX hcall); (try clear h); (try simp (disch := omega) only [cmpT, cmpF, bI_eq0, bI_ne0, Classical.not_not, nI_toI, nI_cl, nI_inj, nI_add, nI_mul, nI_subI, takeL, setL, Int32.toInt_zero, Nat.add_zero, Nat.zero_mul, Nat.zero_add, alen11, alen12, alen13, alen14, alen15, alen16, alen17, alen18, alen19] at *); omega)
      · obtain ⟨p, h4, h5⟩ := hw.par j (by omega) hj
        have e := wayF_s hw (by omega) hj h5 h4
        have ih := ih p h4 (c + 1) (by omega) (by omega)
        clear h
        refine hX 1000 4 _ _ _ ?_
        repeat' (first | (intro hc) | (refine And.intro ?_ ?_) | (exact absurd nI_0 ‹cmpF 0 (nI 0) 0›) | (exact absurd ‹cmpT 0 (nI 1) 0› nI1_ne) | (exact absurd nI_0 ‹cmpT 1 (nI 0) 0›) | (exact absurd ‹cmpF 1 (nI 1) 0› nI1_ne) | (show wp _ _ _ _ _ _ _ _ _ _ _ _; conv => whnf) | (simp (disch := omega) only [nI_cl]) | (simp (disch := omega) only [nI_add, nI_mul, setN_now, setN_put, nI_cl, Nat.add_zero]) | (refine hcall _ _ _ _ ?_; first | (refine c_isServer e1 s2.2 ?_) | fail))
        all_goals first
          | (exfalso; exact bF hj2 (by assumption))
          | (simp (disch := omega) only [takeL, setL, nI_add, nI_cl]; rw [r0, h5]; exact ih)
          | (clear hj2; (try clear hX hcall); (try clear h); (try simp (disch := omega) only [cmpT, cmpF, bI_eq0, bI_ne0, Classical.not_not, nI_toI, nI_cl, nI_inj, nI_add, nI_mul, nI_subI, takeL, setL, Int32.toInt_zero, Nat.add_zero, Nat.zero_mul, Nat.zero_add, alen11, alen12, alen13, alen14, alen15, alen16, alen17, alen18, alen19] at *); omega)
  exact loop k 0 hk (by omega)
end CLS3
end
section
/-! THE CLASS: answers, ends, counts -/
def szO (F : Fm) (o : Option Nat) : Int32 := match o with
  | none => nI 257
  | some b => F (29 + 17 * b + 1)
section CLS4
variable {L : Nat} {xs : Nat → Int32} {f i k r q c j n B b w m sd : Nat} {x y v a z l lo v0 v1 name flow place : Int32} {s : St} {F G F' u : Fm} {Q : Option MV → St → Prop}
theorem c_siteUp (hw : WF F B) (hR : RepW s w F) (hk : k < cT F) (h : Q (some (.inl (bI (upF F k)))) s) : wpM L xs codT retT (f + 2) m_X6_isUp [.inr (6, 8 * w + k), .inl (s.1 8 w 6)] s Q := by
  obtain ⟨-, -, -, -, r4, rc⟩ := hR.site hk
  refine c_isUp r4 rc (hw.flag hk) ?_
  rw [hR.h1]
  exact h
theorem c_siteReg (hR : RepW s w F) (hk : k < cT F) (h : Q (some (.inl (bI ((F 0).toInt < (F (29 + 17 * k + 4)).toInt)))) s) : wpM L xs codT retT (f + 1) m_X6_isRegistered [.inr (6, 8 * w + k), .inl (s.1 8 w 6)] s Q := by
  obtain ⟨-, -, -, -, r4, -⟩ := hR.site hk
  refine c_isRegistered r4 ?_
  rw [hR.h1]
  exact h
theorem c_siteHas (hR : RepW s w F) (hk : k < cT F) (hn : iN name 256) (h : Q (some (.inl (bI (hasF F k name)))) s) : wpM L xs codT retT (f + 2) m_X1_has [.inr (1, 80 + (8 * w + k)), .inl name] s Q := by
  obtain ⟨r0, r1, -⟩ := hR.site hk
  exact c_has hn r0 r1 h
theorem betB_z (hw : WF F B) (hk : k < cT F) {o : Option Nat} : betB F k o = true ↔ (F (29 + 17 * k + 1)).toInt < (szO F o).toInt := by
  cases o with
  | none =>
    obtain ⟨⟨a, z, -, e, h1, h2⟩, -⟩ := hw.site hk
    rw [e, nI_toI (by omega)]
    have : (szO F none).toInt = 257 := nI_toI (n := 257) (by decide)
    rw [this]
    exact ⟨fun _ => by omega, fun _ => rfl⟩
  | some b => exact ⟨fun h => of_decide_eq_true h, fun h => decide_eq_true h⟩
set_option maxHeartbeats 4000000 in
set_option maxRecDepth 100000 in
theorem c_answerFor (hw : WF F B) (hR : RepW s w F) (hn : iN name 256) (h : Q (some (.inl (optI (ansF F name) (-1)))) s) : wpM L xs codT retT (f + 3) m_X8_answerFor [.inr (8, w), .inl name] s Q := by
  have t2 := hw.t2
  have e2 : s.1 8 w 4 = nI (cT F) := hR.t1.trans hw.t1
  have hb1 := homeF_lt hw (a := name) (z := nI 1)
  intro call hcall X hX; refine hX 1000 0 _ _ _ ?_
  repeat' (first | (intro hc) | (refine And.intro ?_ ?_) | (exact absurd nI_0 ‹cmpF 0 (nI 0) 0›) | (exact absurd ‹cmpT 0 (nI 1) 0› nI1_ne) | (exact absurd nI_0 ‹cmpT 1 (nI 0) 0›) | (exact absurd ‹cmpF 1 (nI 1) 0› nI1_ne) | (show wp _ _ _ _ _ _ _ _ _ _ _ _; conv => whnf) | (simp (disch := omega) only [nI_add, nI_mul, setN_now, setN_put, nI_cl, Nat.add_zero]) | (refine hcall _ _ _ _ ?_; first | (refine c_homeOf hw hR ?_) | fail))
  simp only [takeL, setL]
  have loop : ∀ j, j ≤ cT F → X 17 [.inr (8, w), .inl name, .inl (nI (homeF F name (nI 1))), .inl (optI (ansN F name j) (-1)), .inl (szO F (ansN F name j)), .inl (nI j)] [] s := by
    refine loopD (cT F) (fun j hj ih => ?_) ?_
    · clear h
      obtain ⟨r0, r1, -⟩ := hR.site hj
      have hb2 := homeF_lt hw (a := F (29 + 17 * j)) (z := F (29 + 17 * j + 1))
      have hbz := betB_z hw hj (o := ansN F name j)
      by_cases hc : (upF F j ∧ hasF F j name ∧ homeF F (F (29 + 17 * j)) (F (29 + 17 * j + 1)) = homeF F name (nI 1)) ∧ betB F j (ansN F name j) = true
      · have e : ansN F name (j + 1) = some j := by rw [ansN, if_pos hc]
        rw [e] at ih
        have ih2 : X 17 [.inr (8, w), .inl name, .inl (nI (homeF F name (nI 1))), .inl (nI j), .inl (s.1 1 (80 + (8 * w + j)) 1), .inl (nI (j + 1))] [] s := by rw [r1]; exact ih
        clear ih e
        obtain ⟨⟨g1, g2, g3⟩, g4⟩ := hc
        have g4 := hbz.mp g4
        rw [← r1] at g4
        have g3' : homeF F (s.1 1 (80 + (8 * w + j)) 0) (s.1 1 (80 + (8 * w + j)) 1) = homeF F name (nI 1) := by rw [r0, r1]; exact g3
        clear hbz
        generalize ansN F name j = o at *
        refine hX 1000 17 _ _ _ ?_
        repeat' (first | (intro hc) | (refine And.intro ?_ ?_) | (exact absurd nI_0 ‹cmpF 0 (nI 0) 0›) | (exact absurd ‹cmpT 0 (nI 1) 0› nI1_ne) | (exact absurd nI_0 ‹cmpT 1 (nI 0) 0›) | (exact absurd ‹cmpF 1 (nI 1) 0› nI1_ne) | (show wp _ _ _ _ _ _ _ _ _ _ _ _; conv => whnf) | (simp (disch := omega) only [nI_cl]) | (simp (disch := omega) only [nI_add, nI_mul, setN_now, setN_put, nI_cl, Nat.add_zero]) | (refine hcall _ _ _ _ ?_; first | (refine c_siteHas hR hj hn ?_) | (refine c_siteUp hw hR hj ?_) | (refine c_homeOf hw hR ?_) | fail))
        all_goals first
          | (simp only [takeL, setL, nI_add]; exact ih2)
          | (exfalso; exact bF g1 (by assumption))
          | (exfalso; exact bF g2 (by assumption))
          | (exfalso; exact (by assumption : cmpT 1 (nI _) (nI _)) (by rw [g3']))
          | (clear ih2 g1 g2 g3 g3'; (try clear hX hcall); (try clear h); (try simp (disch := omega) only [cmpT, cmpF, bI_eq0, bI_ne0, Classical.not_not, nI_toI, nI_cl, nI_inj, nI_add, nI_mul, nI_subI, takeL, setL, Int32.toInt_zero, Nat.add_zero, setN_now, alen20, alen11, alen12, alen13, alen14, alen15, alen16, alen17, alen18, alen19, (id e2)] at *); omega)
      · have e : ansN F name (j + 1) = ansN F name j := by rw [ansN, if_neg hc]
        rw [e] at ih
        have hc2 : upF F j → hasF F j name → nI (homeF F (s.1 1 (80 + (8 * w + j)) 0) (s.1 1 (80 + (8 * w + j)) 1)) = nI (homeF F name (nI 1)) → ¬ (s.1 1 (80 + (8 * w + j)) 1).toInt < (szO F (ansN F name j)).toInt := by
          intro g1 g2 g3 g4
          rw [r0, r1] at g3
          rw [r1] at g4
          exact hc ⟨⟨g1, g2, (nI_inj (by omega) (by omega)).mp g3⟩, hbz.mpr g4⟩
        clear hbz hc e
        generalize ansN F name j = o at *
        refine hX 1000 17 _ _ _ ?_
        repeat' (first | (intro hc) | (refine And.intro ?_ ?_) | (exact absurd nI_0 ‹cmpF 0 (nI 0) 0›) | (exact absurd ‹cmpT 0 (nI 1) 0› nI1_ne) | (exact absurd nI_0 ‹cmpT 1 (nI 0) 0›) | (exact absurd ‹cmpF 1 (nI 1) 0› nI1_ne) | (show wp _ _ _ _ _ _ _ _ _ _ _ _; conv => whnf) | (simp (disch := omega) only [nI_cl]) | (simp (disch := omega) only [nI_add, nI_mul, setN_now, setN_put, nI_cl, Nat.add_zero]) | (refine hcall _ _ _ _ ?_; first | (refine c_siteHas hR hj hn ?_) | (refine c_siteUp hw hR hj ?_) | (refine c_homeOf hw hR ?_) | fail))
        all_goals first
          | (simp only [takeL, setL, nI_add]; exact ih)
          | (exfalso; exact hc2 (bI_ne0.mp (by assumption)) (bI_ne0.mp (by assumption)) (by assumption) (by assumption))
          | (clear ih hc2; (try clear hX hcall); (try clear h); (try simp (disch := omega) only [cmpT, cmpF, bI_eq0, bI_ne0, Classical.not_not, nI_toI, nI_cl, nI_inj, nI_add, nI_mul, nI_subI, takeL, setL, Int32.toInt_zero, Nat.add_zero, setN_now, alen20, alen11, alen12, alen13, alen14, alen15, alen16, alen17, alen18, alen19, (id e2)] at *); omega)
    · refine hX 1000 17 _ _ _ ?_
      repeat' (first | (intro hc) | (refine And.intro ?_ ?_) | (exact absurd nI_0 ‹cmpF 0 (nI 0) 0›) | (exact absurd ‹cmpT 0 (nI 1) 0› nI1_ne) | (exact absurd nI_0 ‹cmpT 1 (nI 0) 0›) | (exact absurd ‹cmpF 1 (nI 1) 0› nI1_ne) | (show wp _ _ _ _ _ _ _ _ _ _ _ _; conv => whnf))
      all_goals first
        | exact h
        | ((try clear hX hcall); (try clear h); (try simp (disch := omega) only [cmpT, cmpF, bI_eq0, bI_ne0, Classical.not_not, nI_toI, nI_cl, nI_inj, nI_add, nI_mul, nI_subI, takeL, setL, Int32.toInt_zero, Nat.add_zero, setN_now, alen20, alen11, alen12, alen13, alen14, alen15, alen16, alen17, alen18, alen19, (id e2)] at *); omega)
  exact loop 0 (by omega)
set_option maxHeartbeats 4000000 in
set_option maxRecDepth 100000 in
theorem c_endingAhead (hw : WF F B) (hR : RepW s w F) (hk : k < cT F) (h : Q (some (.inl (nI (cntB (ahdP F k) (cT F))))) s) : wpM L xs codT retT (f + 2) m_X8_sitesEndingAheadOf [.inr (8, w), .inl (nI k)] s Q := by
  have t2 := hw.t2
  have e2 : s.1 8 w 4 = nI (cT F) := hR.t1.trans hw.t1
  have hk2 := iN_k hk (by omega)
  obtain ⟨-, -, -, -, k4, -⟩ := hR.site hk
  intro call hcall X hX; refine hX 1000 0 _ _ _ ?_
  repeat' (first | (intro hc) | (refine And.intro ?_ ?_) | (exact absurd nI_0 ‹cmpF 0 (nI 0) 0›) | (exact absurd ‹cmpT 0 (nI 1) 0› nI1_ne) | (exact absurd nI_0 ‹cmpT 1 (nI 0) 0›) | (exact absurd ‹cmpF 1 (nI 1) 0› nI1_ne) | (show wp _ _ _ _ _ _ _ _ _ _ _ _; conv => whnf) | (simp (disch := omega) only [nI_cl]) | (simp (disch := omega) only [nI_add, nI_mul, setN_now, setN_put, nI_cl, Nat.add_zero]) | (refine hcall _ _ _ _ ?_; first | (refine c_isSite e2 t2 ?_) | fail))
  all_goals (try (exfalso; exact bF hk2 (by assumption)))
  all_goals (try (clear hk2; (try clear hX hcall); (try clear h); (try simp (disch := omega) only [cmpT, cmpF, bI_eq0, bI_ne0, Classical.not_not, nI_toI, nI_cl, nI_inj, nI_add, nI_mul, nI_subI, takeL, setL, Int32.toInt_zero, Nat.add_zero, Nat.zero_mul, Nat.zero_add, alen11, alen12, alen13, alen14, alen15, alen16, alen17, alen18, alen19] at *); omega))
  simp only [takeL, setL]
  have loop : ∀ j, j ≤ cT F → ∀ P : Nat → List MV → List MV → St → Prop, P = X → P 27 [.inr (8, w), .inl (nI k), .inl (s.1 6 (8 * w + k) 4), .inl (nI (cntB (ahdP F k) j)), .inl (nI j)] [] s := by
    refine loopD (cT F) (fun j hj ih => ?_) ?_
    · clear h
      intro P hP
      subst hP
      have ih := ih _ rfl
      obtain ⟨-, -, -, -, r4, -⟩ := hR.site hj
      by_cases ha : aheadF F j k
      · rw [cntB_1 (p := ahdP F k) (n := j) (decide_eq_true ha)] at ih
        obtain ⟨a1, a2⟩ := ha
        rw [← r4, ← k4] at a2
        refine hX 1000 27 _ _ _ ?_
        repeat' (first | (intro hc) | (refine And.intro ?_ ?_) | (exact absurd nI_0 ‹cmpF 0 (nI 0) 0›) | (exact absurd ‹cmpT 0 (nI 1) 0› nI1_ne) | (exact absurd nI_0 ‹cmpT 1 (nI 0) 0›) | (exact absurd ‹cmpF 1 (nI 1) 0› nI1_ne) | (show wp _ _ _ _ _ _ _ _ _ _ _ _; conv => whnf) | (simp (disch := omega) only [nI_cl]) | (simp (disch := omega) only [nI_add, nI_mul, setN_now, setN_put, nI_cl, Nat.add_zero]) | (refine hcall _ _ _ _ ?_; first | (refine c_siteReg hR hj ?_) | fail))
        all_goals (clear hX hcall; (try simp (disch := omega) only [cmpT, cmpF, nI_cl, nI_toI] at *))
        all_goals first
          | (simp only [takeL, setL, nI_add]; exact ih)
          | (exfalso; exact bF a1 (by assumption))
          | (exfalso; rcases a2 with a2 | a2 <;> first | omega | exact absurd a2.1 (by assumption))
          | (clear ih hk2; simp (disch := omega) only [(id e2), alen12, nI_toI] at *; first | omega | (rcases a2 with a2 | a2 <;> omega))
      · rw [cntB_0 (p := ahdP F k) (n := j) (fun q => ha (of_decide_eq_true q))] at ih
        have ha2 : (F 0).toInt < (F (29 + 17 * j + 4)).toInt → (s.1 6 (8 * w + j) 4).toInt < (s.1 6 (8 * w + k) 4).toInt → False := fun q1 q2 => ha ⟨q1, Or.inl (by rw [← r4, ← k4]; exact q2)⟩
        have ha3 : (F 0).toInt < (F (29 + 17 * j + 4)).toInt → s.1 6 (8 * w + j) 4 = s.1 6 (8 * w + k) 4 → j < k → False := fun q1 q2 q3 => ha ⟨q1, Or.inr ⟨by rw [← r4, ← k4]; exact q2, q3⟩⟩
        refine hX 1000 27 _ _ _ ?_
        repeat' (first | (intro hc) | (refine And.intro ?_ ?_) | (exact absurd nI_0 ‹cmpF 0 (nI 0) 0›) | (exact absurd ‹cmpT 0 (nI 1) 0› nI1_ne) | (exact absurd nI_0 ‹cmpT 1 (nI 0) 0›) | (exact absurd ‹cmpF 1 (nI 1) 0› nI1_ne) | (show wp _ _ _ _ _ _ _ _ _ _ _ _; conv => whnf) | (simp (disch := omega) only [nI_cl]) | (simp (disch := omega) only [nI_add, nI_mul, setN_now, setN_put, nI_cl, Nat.add_zero]) | (refine hcall _ _ _ _ ?_; first | (refine c_siteReg hR hj ?_) | fail))
        all_goals (clear hX hcall; (try simp (disch := omega) only [cmpT, cmpF, nI_cl, nI_toI] at *))
        all_goals first
          | (simp only [takeL, setL, nI_add]; exact ih)
          | (exfalso; exact ha2 (bI_ne0.mp (by assumption)) (by assumption))
          | (exfalso; refine ha3 (bI_ne0.mp (by assumption)) (by assumption) ?_; clear ih ha2 ha3; (try clear hX hcall); (try clear h); (try simp (disch := omega) only [cmpT, cmpF, bI_eq0, bI_ne0, Classical.not_not, nI_toI, nI_cl, nI_inj, nI_add, nI_mul, nI_subI, takeL, setL, Int32.toInt_zero, Nat.add_zero, Nat.zero_mul, Nat.zero_add, alen11, alen12, alen13, alen14, alen15, alen16, alen17, alen18, alen19] at *); omega)
          | (clear ih ha2 ha3 ha hk2; (try clear hX hcall); (try clear h); (try simp (disch := omega) only [cmpT, cmpF, bI_eq0, bI_ne0, Classical.not_not, nI_toI, nI_cl, nI_inj, nI_add, nI_mul, nI_subI, takeL, setL, Int32.toInt_zero, Nat.add_zero, setN_now, alen20, alen11, alen12, alen13, alen14, alen15, alen16, alen17, alen18, alen19, (id e2)] at *); omega)
    · intro P hP
      subst hP
      refine hX 1000 27 _ _ _ ?_
      repeat' (first | (intro hc) | (refine And.intro ?_ ?_) | (exact absurd nI_0 ‹cmpF 0 (nI 0) 0›) | (exact absurd ‹cmpT 0 (nI 1) 0› nI1_ne) | (exact absurd nI_0 ‹cmpT 1 (nI 0) 0›) | (exact absurd ‹cmpF 1 (nI 1) 0› nI1_ne) | (show wp _ _ _ _ _ _ _ _ _ _ _ _; conv => whnf))
      all_goals first
        | exact h
        | ((try clear hX hcall); (try clear h); (try simp (disch := omega) only [cmpT, cmpF, bI_eq0, bI_ne0, Classical.not_not, nI_toI, nI_cl, nI_inj, nI_add, nI_mul, nI_subI, takeL, setL, Int32.toInt_zero, Nat.add_zero, setN_now, alen20, alen11, alen12, alen13, alen14, alen15, alen16, alen17, alen18, alen19, (id e2)] at *); omega)
  exact loop 0 (by omega) X rfl
set_option maxHeartbeats 4000000 in
set_option maxRecDepth 100000 in
theorem c_siteEndingAt (hw : WF F B) (hR : RepW s w F) (h : Q (some (.inl (optI (firN (nxtP F v) (cT F) 0) (-1)))) s) : wpM L xs codT retT (f + 3) m_X8_siteEndingAt [.inr (8, w), .inl v] s Q := by
  have t2 := hw.t2
  have e2 : s.1 8 w 4 = nI (cT F) := hR.t1.trans hw.t1
  intro call hcall X hX; refine hX 1000 0 _ _ _ ?_
  repeat' (first | (intro hc) | (refine And.intro ?_ ?_) | (exact absurd nI_0 ‹cmpF 0 (nI 0) 0›) | (exact absurd ‹cmpT 0 (nI 1) 0› nI1_ne) | (exact absurd nI_0 ‹cmpT 1 (nI 0) 0›) | (exact absurd ‹cmpF 1 (nI 1) 0› nI1_ne) | (show wp _ _ _ _ _ _ _ _ _ _ _ _; conv => whnf))
  simp only [takeL, setL]
  have loop : ∀ j k, k + j = cT F → Q (some (.inl (optI (firN (nxtP F v) j k) (-1)))) s → X 2 [.inr (8, w), .inl v, .inl (nI k)] [] s := by
    clear h
    intro j
    induction j with
    | zero =>
      intro k hk h
      refine hX 1000 2 _ _ _ ?_
      repeat' (first | (intro hc) | (refine And.intro ?_ ?_) | (exact absurd nI_0 ‹cmpF 0 (nI 0) 0›) | (exact absurd ‹cmpT 0 (nI 1) 0› nI1_ne) | (exact absurd nI_0 ‹cmpT 1 (nI 0) 0›) | (exact absurd ‹cmpF 1 (nI 1) 0› nI1_ne) | (show wp _ _ _ _ _ _ _ _ _ _ _ _; conv => whnf))
      all_goals first
        | exact h
        | ((try clear hX hcall); (try clear h); (try simp (disch := omega) only [cmpT, cmpF, bI_eq0, bI_ne0, Classical.not_not, nI_toI, nI_cl, nI_inj, nI_add, nI_mul, nI_subI, takeL, setL, Int32.toInt_zero, Nat.add_zero, setN_now, alen20, alen11, alen12, alen13, alen14, alen15, alen16, alen17, alen18, alen19, (id e2)] at *); omega)
    | succ j ih =>
      intro k hk h
      have ih := ih (k + 1) (by omega)
      have hk2 : k < cT F := by omega
      by_cases hm : nxtP F v k = true
      · rw [firN_1 hm] at h
        obtain ⟨h1, h2⟩ := of_decide_eq_true hm
        clear ih
        refine hX 1000 2 _ _ _ ?_
        repeat' (first | (intro hc) | (refine And.intro ?_ ?_) | (exact absurd nI_0 ‹cmpF 0 (nI 0) 0›) | (exact absurd ‹cmpT 0 (nI 1) 0› nI1_ne) | (exact absurd nI_0 ‹cmpT 1 (nI 0) 0›) | (exact absurd ‹cmpF 1 (nI 1) 0› nI1_ne) | (show wp _ _ _ _ _ _ _ _ _ _ _ _; conv => whnf) | (simp (disch := omega) only [nI_cl]) | (simp (disch := omega) only [nI_add, nI_mul, setN_now, setN_put, nI_cl, Nat.add_zero]) | (refine hcall _ _ _ _ ?_; first | (refine c_siteReg hR hk2 ?_) | (refine c_endingAhead hw hR hk2 ?_) | fail))
        all_goals first
          | exact h
          | (exfalso; exact bF h1 (by assumption))
          | (exfalso; exact (by assumption : cmpT 1 (nI (cntB (ahdP F k) (cT F))) v) h2)
          | ((try clear hX hcall); (try clear h); (try simp (disch := omega) only [cmpT, cmpF, bI_eq0, bI_ne0, Classical.not_not, nI_toI, nI_cl, nI_inj, nI_add, nI_mul, nI_subI, takeL, setL, Int32.toInt_zero, Nat.add_zero, setN_now, alen20, alen11, alen12, alen13, alen14, alen15, alen16, alen17, alen18, alen19, (id e2)] at *); omega)
      · rw [firN_0 hm] at h
        have ih := ih h
        have hn2 : (F 0).toInt < (F (29 + 17 * k + 4)).toInt → ¬ nI (cntB (ahdP F k) (cT F)) = v := fun a b => hm (decide_eq_true ⟨a, b⟩)
        clear h
        refine hX 1000 2 _ _ _ ?_
        repeat' (first | (intro hc) | (refine And.intro ?_ ?_) | (exact absurd nI_0 ‹cmpF 0 (nI 0) 0›) | (exact absurd ‹cmpT 0 (nI 1) 0› nI1_ne) | (exact absurd nI_0 ‹cmpT 1 (nI 0) 0›) | (exact absurd ‹cmpF 1 (nI 1) 0› nI1_ne) | (show wp _ _ _ _ _ _ _ _ _ _ _ _; conv => whnf) | (simp (disch := omega) only [nI_cl]) | (simp (disch := omega) only [nI_add, nI_mul, setN_now, setN_put, nI_cl, Nat.add_zero]) | (refine hcall _ _ _ _ ?_; first | (refine c_siteReg hR hk2 ?_) | (refine c_endingAhead hw hR hk2 ?_) | fail))
        all_goals first
          | (simp only [takeL, setL, nI_add]; exact ih)
          | (exfalso; exact hn2 (bI_ne0.mp (by assumption)) (by assumption))
          | (clear ih hn2; (try clear hX hcall); (try clear h); (try simp (disch := omega) only [cmpT, cmpF, bI_eq0, bI_ne0, Classical.not_not, nI_toI, nI_cl, nI_inj, nI_add, nI_mul, nI_subI, takeL, setL, Int32.toInt_zero, Nat.add_zero, setN_now, alen20, alen11, alen12, alen13, alen14, alen15, alen16, alen17, alen18, alen19, (id e2)] at *); omega)
  exact loop (cT F) 0 (by omega) h
end CLS4
end
section
/-! THE CLASS: properties -/
def plP (F : Fm) (r : Nat) (v : Int32) : Nat → Bool := copP F r v
section CLS5
variable {L : Nat} {xs : Nat → Int32} {f i k r q c j n B b w m sd : Nat} {x y v a z l lo v0 v1 name flow place : Int32} {s : St} {F G F' u : Fm} {Q : Option MV → St → Prop} {P : Nat → Bool}
theorem firN_some : ∀ n k, firN P n k = some m → k ≤ m ∧ m < k + n ∧ P m = true := by
  intro n
  induction n with
  | zero => intro k h; cases h
  | succ n ih =>
    intro k h
    by_cases hk : P k = true
    · rw [firN_1 hk] at h
      cases h
      exact ⟨by omega, by omega, hk⟩
    · rw [firN_0 hk] at h
      have := ih _ h
      exact ⟨by omega, by omega, this.2.2⟩
theorem firN_none : ∀ n k, firN P n k = none → ∀ i, k ≤ i → i < k + n → ¬ P i = true := by
  intro n
  induction n with
  | zero => intro k _ i h1 h2; omega
  | succ n ih =>
    intro k h i h1 h2
    by_cases hk : P k = true
    · rw [firN_1 hk] at h; cases h
    · rw [firN_0 hk] at h
      by_cases e : i = k
      · subst e; exact hk
      · exact ih _ h i (by omega) (by omega)
theorem cnt_0 : ∀ n, (∀ i, i < n → ¬ P i = true) → cntB P n = 0
  | 0, _ => rfl
  | n + 1, h => by rw [cntB_0 (h n (by omega)), cnt_0 n (fun i hi => h i (by omega))]
theorem cnt_1 : ∀ n, m < n → P m = true → (∀ i, i < n → P i = true → i = m) → cntB P n = 1
  | 0, h, _, _ => absurd h (by omega)
  | n + 1, h, hm, hu => by
    by_cases e : m = n
    · subst e
      rw [cntB_1 hm, cnt_0 m (fun i hi q => by have := hu i (by omega) q; omega)]
    · rw [cntB_0 (fun q => e (hu n (by omega) q).symm), cnt_1 n (by omega) hm (fun i hi => hu i (by omega))]
theorem cop_cnt (hr : WFrouter F r) : cntB (copP F r v) (cM F r) = match firN (copP F r v) (cM F r) 0 with | none => 0 | some _ => 1 := by
  cases h : firN (copP F r v) (cM F r) 0 with
  | none => exact cnt_0 _ (fun i hi => firN_none _ _ h i (by omega) (by omega))
  | some m =>
    obtain ⟨h1, h2, h3⟩ := firN_some _ _ h
    have h4 : F (mA r m) = v := of_decide_eq_true h3
    exact cnt_1 _ (by omega) h3 (fun i hi q => hr.2.2.2 i m hi (by omega) ((of_decide_eq_true q).trans h4.symm))
set_option maxHeartbeats 4000000 in
set_option maxRecDepth 100000 in
theorem c_rProp (hr : repRouter s i F r) (h : Q (some (.inl (if ¬ iN a 6 then -2 else F (165 + 6 * r + nn a)))) s) : wpM L xs codT retT (f + 1) m_X4_property [.inr (4, i), .inl a] s Q := by
  obtain ⟨p0, p1, p2, p3, p4, p5, -⟩ := hr
  by_cases hb : iN a 6
  · obtain ⟨j, hq, hql⟩ := iN_nn hb (by omega)
    subst hq
    have ej : nn (nI j) = j := nI_cl (by omega)
    rw [if_neg (fun q => q hb), ej] at h
    have hj : j = 0 ∨ j = 1 ∨ j = 2 ∨ j = 3 ∨ j = 4 ∨ j = 5 := by omega
    rcases hj with hj | hj | hj | hj | hj | hj <;> subst hj
    · rw [Nat.add_zero, ← p0] at h
      intro call hcall X hX; refine hX 1000 0 _ _ _ ?_
      repeat' (first | (intro hc) | (refine And.intro ?_ ?_) | (exact absurd nI_0 ‹cmpF 0 (nI 0) 0›) | (exact absurd ‹cmpT 0 (nI 1) 0› nI1_ne) | (exact absurd nI_0 ‹cmpT 1 (nI 0) 0›) | (exact absurd ‹cmpF 1 (nI 1) 0› nI1_ne) | (show wp _ _ _ _ _ _ _ _ _ _ _ _; conv => whnf))
      all_goals first
        | exact h
        | exact absurd (ofN 0).symm (by assumption)
        | exact absurd (ofN 1).symm (by assumption)
        | exact absurd (ofN 2).symm (by assumption)
        | exact absurd (ofN 3).symm (by assumption)
        | exact absurd (ofN 4).symm (by assumption)
        | exact absurd (ofN 5).symm (by assumption)
        | (exfalso; clear hX hcall h hb; simp (disch := omega) only [ofN, nI_inj] at * <;> omega)
    · rw [← p1] at h
      intro call hcall X hX; refine hX 1000 0 _ _ _ ?_
      repeat' (first | (intro hc) | (refine And.intro ?_ ?_) | (exact absurd nI_0 ‹cmpF 0 (nI 0) 0›) | (exact absurd ‹cmpT 0 (nI 1) 0› nI1_ne) | (exact absurd nI_0 ‹cmpT 1 (nI 0) 0›) | (exact absurd ‹cmpF 1 (nI 1) 0› nI1_ne) | (show wp _ _ _ _ _ _ _ _ _ _ _ _; conv => whnf))
      all_goals first
        | exact h
        | exact absurd (ofN 0).symm (by assumption)
        | exact absurd (ofN 1).symm (by assumption)
        | exact absurd (ofN 2).symm (by assumption)
        | exact absurd (ofN 3).symm (by assumption)
        | exact absurd (ofN 4).symm (by assumption)
        | exact absurd (ofN 5).symm (by assumption)
        | (exfalso; clear hX hcall h hb; simp (disch := omega) only [ofN, nI_inj] at * <;> omega)
    · rw [← p2] at h
      intro call hcall X hX; refine hX 1000 0 _ _ _ ?_
      repeat' (first | (intro hc) | (refine And.intro ?_ ?_) | (exact absurd nI_0 ‹cmpF 0 (nI 0) 0›) | (exact absurd ‹cmpT 0 (nI 1) 0› nI1_ne) | (exact absurd nI_0 ‹cmpT 1 (nI 0) 0›) | (exact absurd ‹cmpF 1 (nI 1) 0› nI1_ne) | (show wp _ _ _ _ _ _ _ _ _ _ _ _; conv => whnf))
      all_goals first
        | exact h
        | exact absurd (ofN 0).symm (by assumption)
        | exact absurd (ofN 1).symm (by assumption)
        | exact absurd (ofN 2).symm (by assumption)
        | exact absurd (ofN 3).symm (by assumption)
        | exact absurd (ofN 4).symm (by assumption)
        | exact absurd (ofN 5).symm (by assumption)
        | (exfalso; clear hX hcall h hb; simp (disch := omega) only [ofN, nI_inj] at * <;> omega)
    · rw [← p3] at h
      intro call hcall X hX; refine hX 1000 0 _ _ _ ?_
      repeat' (first | (intro hc) | (refine And.intro ?_ ?_) | (exact absurd nI_0 ‹cmpF 0 (nI 0) 0›) | (exact absurd ‹cmpT 0 (nI 1) 0› nI1_ne) | (exact absurd nI_0 ‹cmpT 1 (nI 0) 0›) | (exact absurd ‹cmpF 1 (nI 1) 0› nI1_ne) | (show wp _ _ _ _ _ _ _ _ _ _ _ _; conv => whnf))
      all_goals first
        | exact h
        | exact absurd (ofN 0).symm (by assumption)
        | exact absurd (ofN 1).symm (by assumption)
        | exact absurd (ofN 2).symm (by assumption)
        | exact absurd (ofN 3).symm (by assumption)
        | exact absurd (ofN 4).symm (by assumption)
        | exact absurd (ofN 5).symm (by assumption)
        | (exfalso; clear hX hcall h hb; simp (disch := omega) only [ofN, nI_inj] at * <;> omega)
    · rw [← p4] at h
      intro call hcall X hX; refine hX 1000 0 _ _ _ ?_
      repeat' (first | (intro hc) | (refine And.intro ?_ ?_) | (exact absurd nI_0 ‹cmpF 0 (nI 0) 0›) | (exact absurd ‹cmpT 0 (nI 1) 0› nI1_ne) | (exact absurd nI_0 ‹cmpT 1 (nI 0) 0›) | (exact absurd ‹cmpF 1 (nI 1) 0› nI1_ne) | (show wp _ _ _ _ _ _ _ _ _ _ _ _; conv => whnf))
      all_goals first
        | exact h
        | exact absurd (ofN 0).symm (by assumption)
        | exact absurd (ofN 1).symm (by assumption)
        | exact absurd (ofN 2).symm (by assumption)
        | exact absurd (ofN 3).symm (by assumption)
        | exact absurd (ofN 4).symm (by assumption)
        | exact absurd (ofN 5).symm (by assumption)
        | (exfalso; clear hX hcall h hb; simp (disch := omega) only [ofN, nI_inj] at * <;> omega)
    · rw [← p5] at h
      intro call hcall X hX; refine hX 1000 0 _ _ _ ?_
      repeat' (first | (intro hc) | (refine And.intro ?_ ?_) | (exact absurd nI_0 ‹cmpF 0 (nI 0) 0›) | (exact absurd ‹cmpT 0 (nI 1) 0› nI1_ne) | (exact absurd nI_0 ‹cmpT 1 (nI 0) 0›) | (exact absurd ‹cmpF 1 (nI 1) 0› nI1_ne) | (show wp _ _ _ _ _ _ _ _ _ _ _ _; conv => whnf))
      all_goals first
        | exact h
        | exact absurd (ofN 0).symm (by assumption)
        | exact absurd (ofN 1).symm (by assumption)
        | exact absurd (ofN 2).symm (by assumption)
        | exact absurd (ofN 3).symm (by assumption)
        | exact absurd (ofN 4).symm (by assumption)
        | exact absurd (ofN 5).symm (by assumption)
        | (exfalso; clear hX hcall h hb; simp (disch := omega) only [ofN, nI_inj] at * <;> omega)
  · rw [if_pos hb] at h
    intro call hcall X hX; refine hX 1000 0 _ _ _ ?_
    repeat' (first | (intro hc) | (refine And.intro ?_ ?_) | (exact absurd nI_0 ‹cmpF 0 (nI 0) 0›) | (exact absurd ‹cmpT 0 (nI 1) 0› nI1_ne) | (exact absurd nI_0 ‹cmpT 1 (nI 0) 0›) | (exact absurd ‹cmpF 1 (nI 1) 0› nI1_ne) | (show wp _ _ _ _ _ _ _ _ _ _ _ _; conv => whnf))
    all_goals first
      | exact h
      | exact absurd (iN_of (show a = Int32.ofNat 0 by assumption) (by decide) (by decide)) hb
      | exact absurd (iN_of (show a = Int32.ofNat 1 by assumption) (by decide) (by decide)) hb
      | exact absurd (iN_of (show a = Int32.ofNat 2 by assumption) (by decide) (by decide)) hb
      | exact absurd (iN_of (show a = Int32.ofNat 3 by assumption) (by decide) (by decide)) hb
      | exact absurd (iN_of (show a = Int32.ofNat 4 by assumption) (by decide) (by decide)) hb
      | exact absurd (iN_of (show a = Int32.ofNat 5 by assumption) (by decide) (by decide)) hb
set_option maxHeartbeats 4000000 in
set_option maxRecDepth 100000 in
theorem c_placeOfSite (hw : WFrouter F r) (hr : repRouter s i F r) (hi : i < 40) (h : Q (some (.inl (optI (firN (copP F r v) (cM F r) 0) (-1)))) s) : wpM L xs codT retT (f + 1) m_X4_placeOfSite [.inr (4, i), .inl v] s Q := by
  have w5 := hw.2.1
  have e0 : s.1 4 i 1 = nI (cM F r) := hr.1.trans hw.1
  intro call hcall X hX; refine hX 1000 0 _ _ _ ?_
  repeat' (first | (intro hc) | (refine And.intro ?_ ?_) | (exact absurd nI_0 ‹cmpF 0 (nI 0) 0›) | (exact absurd ‹cmpT 0 (nI 1) 0› nI1_ne) | (exact absurd nI_0 ‹cmpT 1 (nI 0) 0›) | (exact absurd ‹cmpF 1 (nI 1) 0› nI1_ne) | (show wp _ _ _ _ _ _ _ _ _ _ _ _; conv => whnf))
  simp only [takeL, setL]
  have loop : ∀ j k, k + j = cM F r → Q (some (.inl (optI (firN (copP F r v) j k) (-1)))) s → X 2 [.inr (4, i), .inl v, .inl (nI k)] [] s := by
    clear h
    intro j
    induction j with
    | zero =>
      intro k hk h
      refine hX 1000 2 _ _ _ ?_
      repeat' (first | (intro hc) | (refine And.intro ?_ ?_) | (exact absurd nI_0 ‹cmpF 0 (nI 0) 0›) | (exact absurd ‹cmpT 0 (nI 1) 0› nI1_ne) | (exact absurd nI_0 ‹cmpT 1 (nI 0) 0›) | (exact absurd ‹cmpF 1 (nI 1) 0› nI1_ne) | (show wp _ _ _ _ _ _ _ _ _ _ _ _; conv => whnf))
      all_goals first
        | exact h
        | ((try clear hX hcall); (try clear h); (try simp (disch := omega) only [cmpT, cmpF, bI_eq0, bI_ne0, Classical.not_not, nI_toI, nI_cl, nI_inj, nI_add, nI_mul, nI_subI, takeL, setL, Int32.toInt_zero, Nat.add_zero, setN_now, alen20, alen11, alen12, alen13, alen14, alen15, alen16, alen17, alen18, alen19, (id e0)] at *); omega)
    | succ j ih =>
      intro k hk h
      have ih := ih (k + 1) (by omega)
      have m0 := (hr.2.2.2.2.2.2 k (by omega)).1
      by_cases hm : copP F r v k = true
      · rw [firN_1 hm] at h
        have h1 : s.1 2 (s.2 i k) 2 = v := m0.trans (of_decide_eq_true hm)
        clear ih m0
        refine hX 1000 2 _ _ _ ?_
        repeat' (first | (intro hc) | (refine And.intro ?_ ?_) | (exact absurd nI_0 ‹cmpF 0 (nI 0) 0›) | (exact absurd ‹cmpT 0 (nI 1) 0› nI1_ne) | (exact absurd nI_0 ‹cmpT 1 (nI 0) 0›) | (exact absurd ‹cmpF 1 (nI 1) 0› nI1_ne) | (show wp _ _ _ _ _ _ _ _ _ _ _ _; conv => whnf))
        all_goals first
          | exact h
          | (simp (disch := omega) only [cmpT, nI_cl] at *; contradiction)
          | ((try clear hX hcall); (try clear h); (try simp (disch := omega) only [cmpT, cmpF, bI_eq0, bI_ne0, Classical.not_not, nI_toI, nI_cl, nI_inj, nI_add, nI_mul, nI_subI, takeL, setL, Int32.toInt_zero, Nat.add_zero, setN_now, alen20, alen11, alen12, alen13, alen14, alen15, alen16, alen17, alen18, alen19, (id e0)] at *); omega)
      · rw [firN_0 hm] at h
        have ih := ih h
        have h1 : ¬ s.1 2 (s.2 i k) 2 = v := fun q => hm (decide_eq_true (m0.symm.trans q))
        clear h m0
        refine hX 1000 2 _ _ _ ?_
        repeat' (first | (intro hc) | (refine And.intro ?_ ?_) | (exact absurd nI_0 ‹cmpF 0 (nI 0) 0›) | (exact absurd ‹cmpT 0 (nI 1) 0› nI1_ne) | (exact absurd nI_0 ‹cmpT 1 (nI 0) 0›) | (exact absurd ‹cmpF 1 (nI 1) 0› nI1_ne) | (show wp _ _ _ _ _ _ _ _ _ _ _ _; conv => whnf))
        all_goals first
          | (simp only [takeL, setL, nI_add]; exact ih)
          | (exfalso; clear ih hX hcall; simp (disch := omega) only [cmpF, nI_cl] at *; contradiction)
          | (clear ih; (try clear hX hcall); (try clear h); (try simp (disch := omega) only [cmpT, cmpF, bI_eq0, bI_ne0, Classical.not_not, nI_toI, nI_cl, nI_inj, nI_add, nI_mul, nI_subI, takeL, setL, Int32.toInt_zero, Nat.add_zero, setN_now, alen20, alen11, alen12, alen13, alen14, alen15, alen16, alen17, alen18, alen19, (id e0)] at *); omega)
  exact loop (cM F r) 0 (by omega) h
theorem c_placeOfSiteE {o : Option Nat} (hw : WFrouter F r) (hr : repRouter s i F r) (hi : i < 40) (e : firN (copP F r v) (cM F r) 0 = o) (h : Q (some (.inl (optI o (-1)))) s) : wpM L xs codT retT (f + 1) m_X4_placeOfSite [.inr (4, i), .inl v] s Q := c_placeOfSite hw hr hi (by rw [e]; exact h)
set_option maxHeartbeats 4000000 in
set_option maxRecDepth 100000 in
theorem c_mapsOf (hw : WF F B) (hR : RepW s w F) (hw10 : w < 10) (h : Q (some (.inl (nI (copN F v (cR F))))) s) : wpM L xs codT retT (f + 2) m_X8_mapsOf [.inr (8, w), .inl v] s Q := by
  have r2 := hw.r2
  have e3 : s.1 8 w 5 = nI (cR F) := hR.r1.trans hw.r1
  intro call hcall X hX; refine hX 1000 0 _ _ _ ?_
  repeat' (first | (intro hc) | (refine And.intro ?_ ?_) | (exact absurd nI_0 ‹cmpF 0 (nI 0) 0›) | (exact absurd ‹cmpT 0 (nI 1) 0› nI1_ne) | (exact absurd nI_0 ‹cmpT 1 (nI 0) 0›) | (exact absurd ‹cmpF 1 (nI 1) 0› nI1_ne) | (show wp _ _ _ _ _ _ _ _ _ _ _ _; conv => whnf))
  simp only [takeL, setL]
  have loop : ∀ j, j ≤ cR F → X 4 [.inr (8, w), .inl v, .inl (nI (copN F v j)), .inl (nI j)] [] s := by
    refine loopD (cR F) (fun j hj ih => ?_) ?_
    · clear h
      have wr := hw.router hj
      have rr := hR.router hj
      have ih2 : X 4 [.inr (8, w), .inl v, .inl (nI (copN F v j + cntB (copP F j v) (cM F j))), .inl (nI (j + 1))] [] s := ih
      clear ih
      have w5 := wr.2.1
      rw [cop_cnt wr] at ih2
      cases ho : firN (copP F j v) (cM F j) 0 with
      | none =>
        rw [ho] at ih2
        refine hX 1000 4 _ _ _ ?_
        repeat' (first | (intro hc) | (refine And.intro ?_ ?_) | (exact absurd nI_0 ‹cmpF 0 (nI 0) 0›) | (exact absurd ‹cmpT 0 (nI 1) 0› nI1_ne) | (exact absurd nI_0 ‹cmpT 1 (nI 0) 0›) | (exact absurd ‹cmpF 1 (nI 1) 0› nI1_ne) | (show wp _ _ _ _ _ _ _ _ _ _ _ _; conv => whnf) | (simp (disch := omega) only [nI_cl]) | (simp (disch := omega) only [nI_add, nI_mul, setN_now, setN_put, nI_cl, Nat.add_zero]) | (refine hcall _ _ _ _ ?_; first | (refine c_placeOfSiteE wr rr (by omega) ho ?_) | fail))
        all_goals first
          | (simp only [takeL, setL, nI_add]; exact ih2)
          | (exfalso; exact (by assumption : cmpF 0 (optI none (-1)) (-1)) rfl)
          | (clear ih2; (try clear hX hcall); (try clear h); (try simp (disch := omega) only [cmpT, cmpF, bI_eq0, bI_ne0, Classical.not_not, nI_toI, nI_cl, nI_inj, nI_add, nI_mul, nI_subI, takeL, setL, Int32.toInt_zero, Nat.add_zero, setN_now, alen20, alen11, alen12, alen13, alen14, alen15, alen16, alen17, alen18, alen19, (id e3)] at *); omega)
      | some m =>
        rw [ho] at ih2
        have h1 := firN_some _ _ ho
        have hne : ¬ nI m = -1 := fun q => by
          have := congrArg Int32.toInt q
          rw [nI_toI (by omega)] at this
          have t : (-1 : Int32).toInt = -1 := by decide
          omega
        refine hX 1000 4 _ _ _ ?_
        repeat' (first | (intro hc) | (refine And.intro ?_ ?_) | (exact absurd nI_0 ‹cmpF 0 (nI 0) 0›) | (exact absurd ‹cmpT 0 (nI 1) 0› nI1_ne) | (exact absurd nI_0 ‹cmpT 1 (nI 0) 0›) | (exact absurd ‹cmpF 1 (nI 1) 0› nI1_ne) | (show wp _ _ _ _ _ _ _ _ _ _ _ _; conv => whnf) | (simp (disch := omega) only [nI_cl]) | (simp (disch := omega) only [nI_add, nI_mul, setN_now, setN_put, nI_cl, Nat.add_zero]) | (refine hcall _ _ _ _ ?_; first | (refine c_placeOfSiteE wr rr (by omega) ho ?_) | fail))
        all_goals first
          | (simp only [takeL, setL, nI_add]; exact ih2)
          | (exfalso; exact hne (by assumption : cmpT 0 (optI (some m) (-1)) (-1)))
          | (clear ih2 hne; (try clear hX hcall); (try clear h); (try simp (disch := omega) only [cmpT, cmpF, bI_eq0, bI_ne0, Classical.not_not, nI_toI, nI_cl, nI_inj, nI_add, nI_mul, nI_subI, takeL, setL, Int32.toInt_zero, Nat.add_zero, setN_now, alen20, alen11, alen12, alen13, alen14, alen15, alen16, alen17, alen18, alen19, (id e3)] at *); omega)
    · refine hX 1000 4 _ _ _ ?_
      repeat' (first | (intro hc) | (refine And.intro ?_ ?_) | (exact absurd nI_0 ‹cmpF 0 (nI 0) 0›) | (exact absurd ‹cmpT 0 (nI 1) 0› nI1_ne) | (exact absurd nI_0 ‹cmpT 1 (nI 0) 0›) | (exact absurd ‹cmpF 1 (nI 1) 0› nI1_ne) | (show wp _ _ _ _ _ _ _ _ _ _ _ _; conv => whnf))
      all_goals first
        | exact h
        | ((try clear hX hcall); (try clear h); (try simp (disch := omega) only [cmpT, cmpF, bI_eq0, bI_ne0, Classical.not_not, nI_toI, nI_cl, nI_inj, nI_add, nI_mul, nI_subI, takeL, setL, Int32.toInt_zero, Nat.add_zero, setN_now, alen20, alen11, alen12, alen13, alen14, alen15, alen16, alen17, alen18, alen19, (id e3)] at *); omega)
  exact loop 0 (by omega)
set_option maxHeartbeats 4000000 in
set_option maxRecDepth 100000 in
theorem c_sumOver (hw : WF F B) (hR : RepW s w F) (hk : k < 6) (h : Q (some (.inl (sumN F k (cR F)))) s) : wpM L xs codT retT (f + 2) m_X8_sumOverRouters [.inr (8, w), .inl (nI k)] s Q := by
  have r2 := hw.r2
  have e3 : s.1 8 w 5 = nI (cR F) := hR.r1.trans hw.r1
  have hk2 := iN_k hk (by omega)
  have ek : nn (nI k) = k := nI_cl (by omega)
  intro call hcall X hX; refine hX 1000 0 _ _ _ ?_
  repeat' (first | (intro hc) | (refine And.intro ?_ ?_) | (exact absurd nI_0 ‹cmpF 0 (nI 0) 0›) | (exact absurd ‹cmpT 0 (nI 1) 0› nI1_ne) | (exact absurd nI_0 ‹cmpT 1 (nI 0) 0›) | (exact absurd ‹cmpF 1 (nI 1) 0› nI1_ne) | (show wp _ _ _ _ _ _ _ _ _ _ _ _; conv => whnf))
  simp only [takeL, setL]
  have loop : ∀ j, j ≤ cR F → X 4 [.inr (8, w), .inl (nI k), .inl (sumN F k j), .inl (nI j)] [] s := by
    refine loopD (cR F) (fun j hj ih => ?_) ?_
    · clear h
      have rr := hR.router hj
      have ih2 : X 4 [.inr (8, w), .inl (nI k), .inl (sumN F k j + (if ¬ iN (nI k) 6 then -2 else F (165 + 6 * j + nn (nI k)))), .inl (nI (j + 1))] [] s := by rw [if_neg (fun q => q hk2), ek]; exact ih
      clear ih
      refine hX 1000 4 _ _ _ ?_
      repeat' (first | (intro hc) | (refine And.intro ?_ ?_) | (exact absurd nI_0 ‹cmpF 0 (nI 0) 0›) | (exact absurd ‹cmpT 0 (nI 1) 0› nI1_ne) | (exact absurd nI_0 ‹cmpT 1 (nI 0) 0›) | (exact absurd ‹cmpF 1 (nI 1) 0› nI1_ne) | (show wp _ _ _ _ _ _ _ _ _ _ _ _; conv => whnf) | (simp (disch := omega) only [nI_cl]) | (simp (disch := omega) only [nI_add, nI_mul, setN_now, setN_put, nI_cl, Nat.add_zero]) | (refine hcall _ _ _ _ ?_; first | (refine c_rProp rr ?_) | fail))
      all_goals first
        | (simp only [takeL, setL, nI_add]; exact ih2)
        | (clear ih2 hk2; (try clear hX hcall); (try clear h); (try simp (disch := omega) only [cmpT, cmpF, bI_eq0, bI_ne0, Classical.not_not, nI_toI, nI_cl, nI_inj, nI_add, nI_mul, nI_subI, takeL, setL, Int32.toInt_zero, Nat.add_zero, setN_now, alen20, alen11, alen12, alen13, alen14, alen15, alen16, alen17, alen18, alen19, (id e3)] at *); omega)
    · refine hX 1000 4 _ _ _ ?_
      repeat' (first | (intro hc) | (refine And.intro ?_ ?_) | (exact absurd nI_0 ‹cmpF 0 (nI 0) 0›) | (exact absurd ‹cmpT 0 (nI 1) 0› nI1_ne) | (exact absurd nI_0 ‹cmpT 1 (nI 0) 0›) | (exact absurd ‹cmpF 1 (nI 1) 0› nI1_ne) | (show wp _ _ _ _ _ _ _ _ _ _ _ _; conv => whnf))
      all_goals first
        | exact h
        | (clear hk2; (try clear hX hcall); (try clear h); (try simp (disch := omega) only [cmpT, cmpF, bI_eq0, bI_ne0, Classical.not_not, nI_toI, nI_cl, nI_inj, nI_add, nI_mul, nI_subI, takeL, setL, Int32.toInt_zero, Nat.add_zero, setN_now, alen20, alen11, alen12, alen13, alen14, alen15, alen16, alen17, alen18, alen19, (id e3)] at *); omega)
  exact loop 0 (by omega)
end CLS5
end
section
/-! THE CLASS: properties of servers and sites, totals -/
section CLS6
variable {L : Nat} {xs : Nat → Int32} {f i k r q c j n B b w m sd : Nat} {x y v a z l lo v0 v1 name flow place : Int32} {s : St} {F G F' u : Fm} {Q : Option MV → St → Prop} {P : Nat → Bool}
set_option maxHeartbeats 4000000 in
set_option maxRecDepth 100000 in
theorem c_childrenOf (hw : WF F B) (hR : RepW s w F) (hk : k < 1000) (h : Q (some (.inl (nI (cntB (childP F (nI k)) (cS F))))) s) : wpM L xs codT retT (f + 1) m_X8_childrenOf [.inr (8, w), .inl (nI k)] s Q := by
  have s2 := hw.s2
  have e1 : s.1 8 w 3 = nI (cS F) := hR.s1.trans hw.s1
  intro call hcall X hX; refine hX 1000 0 _ _ _ ?_
  repeat' (first | (intro hc) | (refine And.intro ?_ ?_) | (exact absurd nI_0 ‹cmpF 0 (nI 0) 0›) | (exact absurd ‹cmpT 0 (nI 1) 0› nI1_ne) | (exact absurd nI_0 ‹cmpT 1 (nI 0) 0›) | (exact absurd ‹cmpF 1 (nI 1) 0› nI1_ne) | (show wp _ _ _ _ _ _ _ _ _ _ _ _; conv => whnf))
  simp only [takeL, setL]
  have loop : ∀ j, j ≤ cS F → X 4 [.inr (8, w), .inl (nI k), .inl (nI (cntB (childP F (nI k)) j)), .inl (nI j)] [] s := by
    refine loopD (cS F) (fun j hj ih => ?_) ?_
    · clear h
      obtain ⟨r0, -, -⟩ := hR.server hj
      by_cases hm : childP F (nI k) j = true
      · rw [cntB_1 hm] at ih
        have hm2 : s.1 5 (8 * w + j) 1 = nI k := r0.trans (of_decide_eq_true hm).2
        clear hm
        refine hX 1000 4 _ _ _ ?_
        repeat' (first | (intro hc) | (refine And.intro ?_ ?_) | (exact absurd nI_0 ‹cmpF 0 (nI 0) 0›) | (exact absurd ‹cmpT 0 (nI 1) 0› nI1_ne) | (exact absurd nI_0 ‹cmpT 1 (nI 0) 0›) | (exact absurd ‹cmpF 1 (nI 1) 0› nI1_ne) | (show wp _ _ _ _ _ _ _ _ _ _ _ _; conv => whnf) | (simp (disch := omega) only [nI_cl]))
        all_goals (clear hX hcall; (try simp (disch := omega) only [cmpT, cmpF, nI_cl, nI_toI] at *))
        all_goals first
          | (simp only [takeL, setL, nI_add]; exact ih)
          | exact absurd hm2 (by assumption)
          | (clear ih; (try clear hX hcall); (try clear h); (try simp (disch := omega) only [cmpT, cmpF, bI_eq0, bI_ne0, Classical.not_not, nI_toI, nI_cl, nI_inj, nI_add, nI_mul, nI_subI, takeL, setL, Int32.toInt_zero, Nat.add_zero, setN_now, alen20, alen11, alen12, alen13, alen14, alen15, alen16, alen17, alen18, alen19, (id e1)] at *); omega)
      · rw [cntB_0 hm] at ih
        have hm2 : ¬ s.1 5 (8 * w + j) 1 = nI k := fun q => hm (decide_eq_true ⟨by
          by_cases h0 : j = 0
          · subst h0
            exfalso
            have ep : F (5 + 3 * 0) = -5 := (hw.server hj).2.1 rfl
            exact nI_n5 hk (q.symm.trans (r0.trans ep))
          · omega, r0.symm.trans q⟩)
        clear hm
        refine hX 1000 4 _ _ _ ?_
        repeat' (first | (intro hc) | (refine And.intro ?_ ?_) | (exact absurd nI_0 ‹cmpF 0 (nI 0) 0›) | (exact absurd ‹cmpT 0 (nI 1) 0› nI1_ne) | (exact absurd nI_0 ‹cmpT 1 (nI 0) 0›) | (exact absurd ‹cmpF 1 (nI 1) 0› nI1_ne) | (show wp _ _ _ _ _ _ _ _ _ _ _ _; conv => whnf) | (simp (disch := omega) only [nI_cl]))
        all_goals (clear hX hcall; (try simp (disch := omega) only [cmpT, cmpF, nI_cl, nI_toI] at *))
        all_goals first
          | (simp only [takeL, setL, nI_add]; exact ih)
          | (exfalso; contradiction)
          | (clear ih hm2; (try clear hX hcall); (try clear h); (try simp (disch := omega) only [cmpT, cmpF, bI_eq0, bI_ne0, Classical.not_not, nI_toI, nI_cl, nI_inj, nI_add, nI_mul, nI_subI, takeL, setL, Int32.toInt_zero, Nat.add_zero, setN_now, alen20, alen11, alen12, alen13, alen14, alen15, alen16, alen17, alen18, alen19, (id e1)] at *); omega)
    · refine hX 1000 4 _ _ _ ?_
      repeat' (first | (intro hc) | (refine And.intro ?_ ?_) | (exact absurd nI_0 ‹cmpF 0 (nI 0) 0›) | (exact absurd ‹cmpT 0 (nI 1) 0› nI1_ne) | (exact absurd nI_0 ‹cmpT 1 (nI 0) 0›) | (exact absurd ‹cmpF 1 (nI 1) 0› nI1_ne) | (show wp _ _ _ _ _ _ _ _ _ _ _ _; conv => whnf))
      all_goals first
        | exact h
        | ((try clear hX hcall); (try clear h); (try simp (disch := omega) only [cmpT, cmpF, bI_eq0, bI_ne0, Classical.not_not, nI_toI, nI_cl, nI_inj, nI_add, nI_mul, nI_subI, takeL, setL, Int32.toInt_zero, Nat.add_zero, setN_now, alen20, alen11, alen12, alen13, alen14, alen15, alen16, alen17, alen18, alen19, (id e1)] at *); omega)
  exact loop 0 (by omega)
set_option maxHeartbeats 4000000 in
set_option maxRecDepth 100000 in
theorem c_sitesAtHome (hw : WF F B) (hR : RepW s w F) (h : Q (some (.inl (nI (cntB (homeP F v) (cT F))))) s) : wpM L xs codT retT (f + 4) m_X8_sitesAtHome [.inr (8, w), .inl v] s Q := by
  have t2 := hw.t2
  have e2 : s.1 8 w 4 = nI (cT F) := hR.t1.trans hw.t1
  intro call hcall X hX; refine hX 1000 0 _ _ _ ?_
  repeat' (first | (intro hc) | (refine And.intro ?_ ?_) | (exact absurd nI_0 ‹cmpF 0 (nI 0) 0›) | (exact absurd ‹cmpT 0 (nI 1) 0› nI1_ne) | (exact absurd nI_0 ‹cmpT 1 (nI 0) 0›) | (exact absurd ‹cmpF 1 (nI 1) 0› nI1_ne) | (show wp _ _ _ _ _ _ _ _ _ _ _ _; conv => whnf))
  simp only [takeL, setL]
  have loop : ∀ j, j ≤ cT F → X 4 [.inr (8, w), .inl v, .inl (nI (cntB (homeP F v) j)), .inl (nI j)] [] s := by
    refine loopD (cT F) (fun j hj ih => ?_) ?_
    · clear h
      by_cases hm : homeP F v j = true
      · rw [cntB_1 hm] at ih
        have hm2 := of_decide_eq_true hm
        refine hX 1000 4 _ _ _ ?_
        repeat' (first | (intro hc) | (refine And.intro ?_ ?_) | (exact absurd nI_0 ‹cmpF 0 (nI 0) 0›) | (exact absurd ‹cmpT 0 (nI 1) 0› nI1_ne) | (exact absurd nI_0 ‹cmpT 1 (nI 0) 0›) | (exact absurd ‹cmpF 1 (nI 1) 0› nI1_ne) | (show wp _ _ _ _ _ _ _ _ _ _ _ _; conv => whnf) | (simp (disch := omega) only [nI_add, nI_mul, setN_now, setN_put, nI_cl, Nat.add_zero]) | (refine hcall _ _ _ _ ?_; first | (refine c_homeOfSite hw hR hj ?_) | fail))
        all_goals first
          | (simp only [takeL, setL, nI_add]; exact ih)
          | (exfalso; exact (by assumption : cmpT 1 (nI _) v) hm2)
          | (clear ih; (try clear hX hcall); (try clear h); (try simp (disch := omega) only [cmpT, cmpF, bI_eq0, bI_ne0, Classical.not_not, nI_toI, nI_cl, nI_inj, nI_add, nI_mul, nI_subI, takeL, setL, Int32.toInt_zero, Nat.add_zero, setN_now, alen20, alen11, alen12, alen13, alen14, alen15, alen16, alen17, alen18, alen19, (id e2)] at *); omega)
      · rw [cntB_0 hm] at ih
        have hm2 : ¬ nI (homeF F (F (29 + 17 * j)) (F (29 + 17 * j + 1))) = v := fun q => hm (decide_eq_true q)
        refine hX 1000 4 _ _ _ ?_
        repeat' (first | (intro hc) | (refine And.intro ?_ ?_) | (exact absurd nI_0 ‹cmpF 0 (nI 0) 0›) | (exact absurd ‹cmpT 0 (nI 1) 0› nI1_ne) | (exact absurd nI_0 ‹cmpT 1 (nI 0) 0›) | (exact absurd ‹cmpF 1 (nI 1) 0› nI1_ne) | (show wp _ _ _ _ _ _ _ _ _ _ _ _; conv => whnf) | (simp (disch := omega) only [nI_add, nI_mul, setN_now, setN_put, nI_cl, Nat.add_zero]) | (refine hcall _ _ _ _ ?_; first | (refine c_homeOfSite hw hR hj ?_) | fail))
        all_goals first
          | (simp only [takeL, setL, nI_add]; exact ih)
          | (exfalso; exact hm2 (by assumption : cmpF 1 (nI _) v))
          | (clear ih hm2; (try clear hX hcall); (try clear h); (try simp (disch := omega) only [cmpT, cmpF, bI_eq0, bI_ne0, Classical.not_not, nI_toI, nI_cl, nI_inj, nI_add, nI_mul, nI_subI, takeL, setL, Int32.toInt_zero, Nat.add_zero, setN_now, alen20, alen11, alen12, alen13, alen14, alen15, alen16, alen17, alen18, alen19, (id e2)] at *); omega)
    · refine hX 1000 4 _ _ _ ?_
      repeat' (first | (intro hc) | (refine And.intro ?_ ?_) | (exact absurd nI_0 ‹cmpF 0 (nI 0) 0›) | (exact absurd ‹cmpT 0 (nI 1) 0› nI1_ne) | (exact absurd nI_0 ‹cmpT 1 (nI 0) 0›) | (exact absurd ‹cmpF 1 (nI 1) 0› nI1_ne) | (show wp _ _ _ _ _ _ _ _ _ _ _ _; conv => whnf))
      all_goals first
        | exact h
        | ((try clear hX hcall); (try clear h); (try simp (disch := omega) only [cmpT, cmpF, bI_eq0, bI_ne0, Classical.not_not, nI_toI, nI_cl, nI_inj, nI_add, nI_mul, nI_subI, takeL, setL, Int32.toInt_zero, Nat.add_zero, setN_now, alen20, alen11, alen12, alen13, alen14, alen15, alen16, alen17, alen18, alen19, (id e2)] at *); omega)
  exact loop 0 (by omega)
set_option maxHeartbeats 4000000 in
set_option maxRecDepth 100000 in
theorem c_sitesUp (hw : WF F B) (hR : RepW s w F) (h : Q (some (.inl (nI (cntB (upP F) (cT F))))) s) : wpM L xs codT retT (f + 3) m_X8_sitesUp [.inr (8, w)] s Q := by
  have t2 := hw.t2
  have e2 : s.1 8 w 4 = nI (cT F) := hR.t1.trans hw.t1
  intro call hcall X hX; refine hX 1000 0 _ _ _ ?_
  repeat' (first | (intro hc) | (refine And.intro ?_ ?_) | (exact absurd nI_0 ‹cmpF 0 (nI 0) 0›) | (exact absurd ‹cmpT 0 (nI 1) 0› nI1_ne) | (exact absurd nI_0 ‹cmpT 1 (nI 0) 0›) | (exact absurd ‹cmpF 1 (nI 1) 0› nI1_ne) | (show wp _ _ _ _ _ _ _ _ _ _ _ _; conv => whnf))
  simp only [takeL, setL]
  have loop : ∀ j, j ≤ cT F → X 4 [.inr (8, w), .inl (nI (cntB (upP F) j)), .inl (nI j)] [] s := by
    refine loopD (cT F) (fun j hj ih => ?_) ?_
    · clear h
      by_cases hm : upP F j = true
      · rw [cntB_1 hm] at ih
        have hm2 := of_decide_eq_true hm
        refine hX 1000 4 _ _ _ ?_
        repeat' (first | (intro hc) | (refine And.intro ?_ ?_) | (exact absurd nI_0 ‹cmpF 0 (nI 0) 0›) | (exact absurd ‹cmpT 0 (nI 1) 0› nI1_ne) | (exact absurd nI_0 ‹cmpT 1 (nI 0) 0›) | (exact absurd ‹cmpF 1 (nI 1) 0› nI1_ne) | (show wp _ _ _ _ _ _ _ _ _ _ _ _; conv => whnf) | (simp (disch := omega) only [nI_cl]) | (simp (disch := omega) only [nI_add, nI_mul, setN_now, setN_put, nI_cl, Nat.add_zero]) | (refine hcall _ _ _ _ ?_; first | (refine c_siteUp hw hR hj ?_) | fail))
        all_goals first
          | (simp only [takeL, setL, nI_add]; exact ih)
          | (exfalso; exact bF hm2 (by assumption))
          | (clear ih; (try clear hX hcall); (try clear h); (try simp (disch := omega) only [cmpT, cmpF, bI_eq0, bI_ne0, Classical.not_not, nI_toI, nI_cl, nI_inj, nI_add, nI_mul, nI_subI, takeL, setL, Int32.toInt_zero, Nat.add_zero, setN_now, alen20, alen11, alen12, alen13, alen14, alen15, alen16, alen17, alen18, alen19, (id e2)] at *); omega)
      · rw [cntB_0 hm] at ih
        have hm2 : ¬ upF F j := fun q => hm (decide_eq_true q)
        refine hX 1000 4 _ _ _ ?_
        repeat' (first | (intro hc) | (refine And.intro ?_ ?_) | (exact absurd nI_0 ‹cmpF 0 (nI 0) 0›) | (exact absurd ‹cmpT 0 (nI 1) 0› nI1_ne) | (exact absurd nI_0 ‹cmpT 1 (nI 0) 0›) | (exact absurd ‹cmpF 1 (nI 1) 0› nI1_ne) | (show wp _ _ _ _ _ _ _ _ _ _ _ _; conv => whnf) | (simp (disch := omega) only [nI_cl]) | (simp (disch := omega) only [nI_add, nI_mul, setN_now, setN_put, nI_cl, Nat.add_zero]) | (refine hcall _ _ _ _ ?_; first | (refine c_siteUp hw hR hj ?_) | fail))
        all_goals first
          | (simp only [takeL, setL, nI_add]; exact ih)
          | (exfalso; exact bT hm2 (by assumption))
          | (clear ih hm2; (try clear hX hcall); (try clear h); (try simp (disch := omega) only [cmpT, cmpF, bI_eq0, bI_ne0, Classical.not_not, nI_toI, nI_cl, nI_inj, nI_add, nI_mul, nI_subI, takeL, setL, Int32.toInt_zero, Nat.add_zero, setN_now, alen20, alen11, alen12, alen13, alen14, alen15, alen16, alen17, alen18, alen19, (id e2)] at *); omega)
    · refine hX 1000 4 _ _ _ ?_
      repeat' (first | (intro hc) | (refine And.intro ?_ ?_) | (exact absurd nI_0 ‹cmpF 0 (nI 0) 0›) | (exact absurd ‹cmpT 0 (nI 1) 0› nI1_ne) | (exact absurd nI_0 ‹cmpT 1 (nI 0) 0›) | (exact absurd ‹cmpF 1 (nI 1) 0› nI1_ne) | (show wp _ _ _ _ _ _ _ _ _ _ _ _; conv => whnf))
      all_goals first
        | exact h
        | ((try clear hX hcall); (try clear h); (try simp (disch := omega) only [cmpT, cmpF, bI_eq0, bI_ne0, Classical.not_not, nI_toI, nI_cl, nI_inj, nI_add, nI_mul, nI_subI, takeL, setL, Int32.toInt_zero, Nat.add_zero, setN_now, alen20, alen11, alen12, alen13, alen14, alen15, alen16, alen17, alen18, alen19, (id e2)] at *); omega)
  exact loop 0 (by omega)
theorem c_answerForE {o : Option Nat} (hw : WF F B) (hR : RepW s w F) (hn : iN name 256) (e : ansF F name = o) (h : Q (some (.inl (optI o (-1)))) s) : wpM L xs codT retT (f + 3) m_X8_answerFor [.inr (8, w), .inl name] s Q := c_answerFor hw hR hn (by rw [e]; exact h)
theorem nI_m1n {b : Nat} (h : b < 1000) : ¬ nI b = -1 := by
  intro q
  have := congrArg Int32.toInt q
  have e : (nI b).toInt = (b : Int) := nI_toI (by omega)
  have e2 : ((-1 : Int32)).toInt = -1 := by decide
  omega
set_option maxHeartbeats 4000000 in
set_option maxRecDepth 100000 in
theorem c_namesWithAnswer (hw : WF F B) (hR : RepW s w F) (h : Q (some (.inl (nI (cntB (ansP F) 256)))) s) : wpM L xs codT retT (f + 4) m_X8_namesWithAnswer [.inr (8, w)] s Q := by
  have t2 := hw.t2
  intro call hcall X hX; refine hX 1000 0 _ _ _ ?_
  repeat' (first | (intro hc) | (refine And.intro ?_ ?_) | (exact absurd nI_0 ‹cmpF 0 (nI 0) 0›) | (exact absurd ‹cmpT 0 (nI 1) 0› nI1_ne) | (exact absurd nI_0 ‹cmpT 1 (nI 0) 0›) | (exact absurd ‹cmpF 1 (nI 1) 0› nI1_ne) | (show wp _ _ _ _ _ _ _ _ _ _ _ _; conv => whnf))
  simp only [takeL, setL]
  have loop : ∀ j, j ≤ 256 → X 4 [.inr (8, w), .inl (nI (cntB (ansP F) j)), .inl (nI j)] [] s := by
    refine loopD 256 (fun j hj ih => ?_) ?_
    · clear h
      have hj2 := iN_k hj (by omega)
      cases ho : ansF F (nI j) with
      | some b =>
        have hb := ansF_lt ho
        have hb5 : ¬ nI b = -1 := nI_m1n (by omega)
        rw [cntB_1 (p := ansP F) (n := j) (decide_eq_true (by rw [ho]; exact fun q => nomatch q))] at ih
        refine hX 1000 4 _ _ _ ?_
        repeat' (first | (intro hc) | (refine And.intro ?_ ?_) | (exact absurd nI_0 ‹cmpF 0 (nI 0) 0›) | (exact absurd ‹cmpT 0 (nI 1) 0› nI1_ne) | (exact absurd nI_0 ‹cmpT 1 (nI 0) 0›) | (exact absurd ‹cmpF 1 (nI 1) 0› nI1_ne) | (show wp _ _ _ _ _ _ _ _ _ _ _ _; conv => whnf) | (simp (disch := omega) only [nI_add, nI_mul, setN_now, setN_put, nI_cl, Nat.add_zero]) | (refine hcall _ _ _ _ ?_; first | (refine c_answerForE hw hR hj2 ho ?_) | fail))
        all_goals first
          | (simp only [takeL, setL, nI_add]; exact ih)
          | (exfalso; exact hb5 (by assumption : cmpT 0 (optI (some b) (-1)) (-1)))
          | (clear ih hb5 hj2; (try clear hX hcall); (try clear h); (try simp (disch := omega) only [cmpT, cmpF, bI_eq0, bI_ne0, Classical.not_not, nI_toI, nI_cl, nI_inj, nI_add, nI_mul, nI_subI, takeL, setL, Int32.toInt_zero, Nat.add_zero, Nat.zero_mul, Nat.zero_add, alen11, alen12, alen13, alen14, alen15, alen16, alen17, alen18, alen19] at *); omega)
      | none =>
        rw [cntB_0 (p := ansP F) (n := j) (fun q => of_decide_eq_true q ho)] at ih
        refine hX 1000 4 _ _ _ ?_
        repeat' (first | (intro hc) | (refine And.intro ?_ ?_) | (exact absurd nI_0 ‹cmpF 0 (nI 0) 0›) | (exact absurd ‹cmpT 0 (nI 1) 0› nI1_ne) | (exact absurd nI_0 ‹cmpT 1 (nI 0) 0›) | (exact absurd ‹cmpF 1 (nI 1) 0› nI1_ne) | (show wp _ _ _ _ _ _ _ _ _ _ _ _; conv => whnf) | (simp (disch := omega) only [nI_add, nI_mul, setN_now, setN_put, nI_cl, Nat.add_zero]) | (refine hcall _ _ _ _ ?_; first | (refine c_answerForE hw hR hj2 ho ?_) | fail))
        all_goals first
          | (simp only [takeL, setL, nI_add]; exact ih)
          | (exfalso; exact (by assumption : cmpF 0 (optI none (-1)) (-1)) rfl)
          | (clear ih hj2; (try clear hX hcall); (try clear h); (try simp (disch := omega) only [cmpT, cmpF, bI_eq0, bI_ne0, Classical.not_not, nI_toI, nI_cl, nI_inj, nI_add, nI_mul, nI_subI, takeL, setL, Int32.toInt_zero, Nat.add_zero, Nat.zero_mul, Nat.zero_add, alen11, alen12, alen13, alen14, alen15, alen16, alen17, alen18, alen19] at *); omega)
    · refine hX 1000 4 _ _ _ ?_
      repeat' (first | (intro hc) | (refine And.intro ?_ ?_) | (exact absurd nI_0 ‹cmpF 0 (nI 0) 0›) | (exact absurd ‹cmpT 0 (nI 1) 0› nI1_ne) | (exact absurd nI_0 ‹cmpT 1 (nI 0) 0›) | (exact absurd ‹cmpF 1 (nI 1) 0› nI1_ne) | (show wp _ _ _ _ _ _ _ _ _ _ _ _; conv => whnf))
      all_goals first
        | exact h
        | ((try clear hX hcall); (try clear h); (try simp (disch := omega) only [cmpT, cmpF, bI_eq0, bI_ne0, Classical.not_not, nI_toI, nI_cl, nI_inj, nI_add, nI_mul, nI_subI, takeL, setL, Int32.toInt_zero, Nat.add_zero, Nat.zero_mul, Nat.zero_add, alen11, alen12, alen13, alen14, alen15, alen16, alen17, alen18, alen19] at *); omega)
  exact loop 0 (by omega)
set_option maxHeartbeats 4000000 in
set_option maxRecDepth 100000 in
theorem c_serverProp (hw : WF F B) (hR : RepW s w F) (h : Q (some (.inl (serverA F v a))) s) : wpM L xs codT retT (f + 5) m_X8_serverProperty [.inr (8, w), .inl v, .inl a] s Q := by
  have s2 := hw.s2
  have e1 : s.1 8 w 3 = nI (cS F) := hR.s1.trans hw.s1
  by_cases hv : iN v (cS F)
  · obtain ⟨k, hp, hpl⟩ := iN_nn hv (by omega)
    subst hp
    have en : nn (nI k) = k := nI_cl (by omega)
    obtain ⟨r0, r1, r2⟩ := hR.server hpl
    by_cases hb : iN a 6
    · obtain ⟨j, hq, hql⟩ := iN_nn hb (by omega)
      subst hq
      have ej : nn (nI j) = j := nI_cl (by omega)
      have e : serverA F (nI k) (nI j) = if (nI j).toInt < 3 then F (5 + 3 * k + j) else if (nI j).toInt = 3 then nI (cntB (childP F (nI k)) (cS F)) else if (nI j).toInt = 4 then nI (wayF F k) else nI (cntB (homeP F (nI k)) (cT F)) := by unfold serverA; rw [if_neg (fun q => q hv), if_neg (fun q => q hb), en, ej]
      rw [e, nI_toI (by omega)] at h
      have hj : j = 0 ∨ j = 1 ∨ j = 2 ∨ j = 3 ∨ j = 4 ∨ j = 5 := by omega
      rcases hj with hj | hj | hj | hj | hj | hj <;> subst hj <;> (first | rw [if_pos (by omega)] at h | rw [if_neg (by omega), if_pos (by omega)] at h | rw [if_neg (by omega), if_neg (by omega), if_pos (by omega)] at h | rw [if_neg (by omega), if_neg (by omega), if_neg (by omega)] at h)
      all_goals
        intro call hcall X hX; refine hX 1000 0 _ _ _ ?_
        repeat' (first | (intro hc) | (refine And.intro ?_ ?_) | (exact absurd nI_0 ‹cmpF 0 (nI 0) 0›) | (exact absurd ‹cmpT 0 (nI 1) 0› nI1_ne) | (exact absurd nI_0 ‹cmpT 1 (nI 0) 0›) | (exact absurd ‹cmpF 1 (nI 1) 0› nI1_ne) | (show wp _ _ _ _ _ _ _ _ _ _ _ _; conv => whnf) | (simp (disch := omega) only [nI_cl]) | (simp (disch := omega) only [nI_add, nI_mul, setN_now, setN_put, nI_cl, Nat.add_zero]) | (refine hcall _ _ _ _ ?_; first | (refine c_isServer e1 s2.2 ?_) | (refine c_hopsTo hw hR hpl ?_) | (refine c_childrenOf hw hR (by omega) ?_) | (refine c_sitesAtHome hw hR ?_) | fail))
        all_goals first
          | exact h
          | (rw [r0]; exact h)
          | (rw [r1]; exact h)
          | (rw [r2]; exact h)
          | (exfalso; exact bF hv (by assumption))
          | exact absurd (ofN 0).symm (by assumption)
          | exact absurd (ofN 1).symm (by assumption)
          | exact absurd (ofN 2).symm (by assumption)
          | exact absurd (ofN 3).symm (by assumption)
          | exact absurd (ofN 4).symm (by assumption)
          | exact absurd (ofN 5).symm (by assumption)
          | (exfalso; clear hX hcall h hb hv e; simp (disch := omega) only [ofN, nI_inj] at * <;> omega)
          | (clear hb hv e; (try clear hX hcall); (try clear h); (try simp (disch := omega) only [cmpT, cmpF, bI_eq0, bI_ne0, Classical.not_not, nI_toI, nI_cl, nI_inj, nI_add, nI_mul, nI_subI, takeL, setL, Int32.toInt_zero, Nat.add_zero, Nat.zero_mul, Nat.zero_add, alen11, alen12, alen13, alen14, alen15, alen16, alen17, alen18, alen19] at *); omega)
    · have e : serverA F (nI k) a = -2 := by unfold serverA; rw [if_neg (fun q => q hv), if_pos hb]
      rw [e] at h
      intro call hcall X hX; refine hX 1000 0 _ _ _ ?_
      repeat' (first | (intro hc) | (refine And.intro ?_ ?_) | (exact absurd nI_0 ‹cmpF 0 (nI 0) 0›) | (exact absurd ‹cmpT 0 (nI 1) 0› nI1_ne) | (exact absurd nI_0 ‹cmpT 1 (nI 0) 0›) | (exact absurd ‹cmpF 1 (nI 1) 0› nI1_ne) | (show wp _ _ _ _ _ _ _ _ _ _ _ _; conv => whnf) | (simp (disch := omega) only [nI_cl]) | (simp (disch := omega) only [nI_add, nI_mul, setN_now, setN_put, nI_cl, Nat.add_zero]) | (refine hcall _ _ _ _ ?_; first | (refine c_isServer e1 s2.2 ?_) | fail))
      all_goals first
        | exact h
        | (exfalso; exact bF hv (by assumption))
        | exact absurd (iN_of (show a = Int32.ofNat 0 by assumption) (by decide) (by decide)) hb
        | exact absurd (iN_of (show a = Int32.ofNat 1 by assumption) (by decide) (by decide)) hb
        | exact absurd (iN_of (show a = Int32.ofNat 2 by assumption) (by decide) (by decide)) hb
        | exact absurd (iN_of (show a = Int32.ofNat 3 by assumption) (by decide) (by decide)) hb
        | exact absurd (iN_of (show a = Int32.ofNat 4 by assumption) (by decide) (by decide)) hb
        | exact absurd (iN_of (show a = Int32.ofNat 5 by assumption) (by decide) (by decide)) hb
  · have e : serverA F v a = -1 := by unfold serverA; rw [if_pos hv]
    rw [e] at h
    intro call hcall X hX; refine hX 1000 0 _ _ _ ?_
    repeat' (first | (intro hc) | (refine And.intro ?_ ?_) | (exact absurd nI_0 ‹cmpF 0 (nI 0) 0›) | (exact absurd ‹cmpT 0 (nI 1) 0› nI1_ne) | (exact absurd nI_0 ‹cmpT 1 (nI 0) 0›) | (exact absurd ‹cmpF 1 (nI 1) 0› nI1_ne) | (show wp _ _ _ _ _ _ _ _ _ _ _ _; conv => whnf) | (simp (disch := omega) only [nI_add, nI_mul, setN_now, setN_put, nI_cl, Nat.add_zero]) | (refine hcall _ _ _ _ ?_; first | (refine c_isServer e1 s2.2 ?_) | fail))
    all_goals first
      | exact h
      | (exfalso; exact bT hv (by assumption))
set_option maxHeartbeats 4000000 in
set_option maxRecDepth 100000 in
theorem c_siteProp (hw : WF F B) (hR : RepW s w F) (hw10 : w < 10) (h : Q (some (.inl (siteA F v a))) s) : wpM L xs codT retT (f + 4) m_X8_siteProperty [.inr (8, w), .inl v, .inl a] s Q := by
  have t2 := hw.t2
  have e2 : s.1 8 w 4 = nI (cT F) := hR.t1.trans hw.t1
  by_cases hv : iN v (cT F)
  · obtain ⟨k, hp, hpl⟩ := iN_nn hv (by omega)
    subst hp
    have en : nn (nI k) = k := nI_cl (by omega)
    obtain ⟨r0, r1, r2, r3, r4, -⟩ := hR.site hpl
    by_cases hb : iN a 8
    · obtain ⟨j, hq, hql⟩ := iN_nn hb (by omega)
      subst hq
      have ej : nn (nI j) = j := nI_cl (by omega)
      have e : siteA F (nI k) (nI j) = if (nI j).toInt < 5 then F (29 + 17 * k + j) else if (nI j).toInt = 5 then nI (homeF F (F (29 + 17 * k)) (F (29 + 17 * k + 1))) else if (nI j).toInt = 6 then bI (upF F k) else nI (copN F (nI k) (cR F)) := by unfold siteA; rw [if_neg (fun q => q hv), if_neg (fun q => q hb), en, ej]
      rw [e, nI_toI (by omega)] at h
      have hj : j = 0 ∨ j = 1 ∨ j = 2 ∨ j = 3 ∨ j = 4 ∨ j = 5 ∨ j = 6 ∨ j = 7 := by omega
      rcases hj with hj | hj | hj | hj | hj | hj | hj | hj <;> subst hj <;> (first | rw [if_pos (by omega)] at h | rw [if_neg (by omega), if_pos (by omega)] at h | rw [if_neg (by omega), if_neg (by omega), if_pos (by omega)] at h | rw [if_neg (by omega), if_neg (by omega), if_neg (by omega)] at h)
      all_goals
        intro call hcall X hX; refine hX 1000 0 _ _ _ ?_
        repeat' (first | (intro hc) | (refine And.intro ?_ ?_) | (exact absurd nI_0 ‹cmpF 0 (nI 0) 0›) | (exact absurd ‹cmpT 0 (nI 1) 0› nI1_ne) | (exact absurd nI_0 ‹cmpT 1 (nI 0) 0›) | (exact absurd ‹cmpF 1 (nI 1) 0› nI1_ne) | (show wp _ _ _ _ _ _ _ _ _ _ _ _; conv => whnf) | (simp (disch := omega) only [nI_cl]) | (simp (disch := omega) only [nI_add, nI_mul, setN_now, setN_put, nI_cl, Nat.add_zero]) | (refine hcall _ _ _ _ ?_; first | (refine c_isSite e2 t2 ?_) | (refine c_homeOfSite hw hR hpl ?_) | (refine c_siteUp hw hR hpl ?_) | (refine c_mapsOf hw hR hw10 ?_) | fail))
        all_goals first
          | exact h
          | (rw [r0]; exact h)
          | (rw [r1]; exact h)
          | (rw [r2]; exact h)
          | (rw [r3]; exact h)
          | (rw [r4]; exact h)
          | (refine bI_1 h ?_; exact bI_ne0.mp (by assumption))
          | (refine bI_0 h ?_; exact bI_eq0.mp (by assumption))
          | (exfalso; exact bF hv (by assumption))
          | exact absurd (ofN 0).symm (by assumption)
          | exact absurd (ofN 1).symm (by assumption)
          | exact absurd (ofN 2).symm (by assumption)
          | exact absurd (ofN 3).symm (by assumption)
          | exact absurd (ofN 4).symm (by assumption)
          | exact absurd (ofN 5).symm (by assumption)
          | exact absurd (ofN 6).symm (by assumption)
          | exact absurd (ofN 7).symm (by assumption)
          | (exfalso; clear hX hcall h hb hv e; simp (disch := omega) only [ofN, nI_inj] at * <;> omega)
          | (clear hb hv e; (try clear hX hcall); (try clear h); (try simp (disch := omega) only [cmpT, cmpF, bI_eq0, bI_ne0, Classical.not_not, nI_toI, nI_cl, nI_inj, nI_add, nI_mul, nI_subI, takeL, setL, Int32.toInt_zero, Nat.add_zero, Nat.zero_mul, Nat.zero_add, alen11, alen12, alen13, alen14, alen15, alen16, alen17, alen18, alen19] at *); omega)
    · have e : siteA F (nI k) a = -2 := by unfold siteA; rw [if_neg (fun q => q hv), if_pos hb]
      rw [e] at h
      intro call hcall X hX; refine hX 1000 0 _ _ _ ?_
      repeat' (first | (intro hc) | (refine And.intro ?_ ?_) | (exact absurd nI_0 ‹cmpF 0 (nI 0) 0›) | (exact absurd ‹cmpT 0 (nI 1) 0› nI1_ne) | (exact absurd nI_0 ‹cmpT 1 (nI 0) 0›) | (exact absurd ‹cmpF 1 (nI 1) 0› nI1_ne) | (show wp _ _ _ _ _ _ _ _ _ _ _ _; conv => whnf) | (simp (disch := omega) only [nI_cl]) | (simp (disch := omega) only [nI_add, nI_mul, setN_now, setN_put, nI_cl, Nat.add_zero]) | (refine hcall _ _ _ _ ?_; first | (refine c_isSite e2 t2 ?_) | fail))
      all_goals first
        | exact h
        | (exfalso; exact bF hv (by assumption))
        | exact absurd (iN_of (show a = Int32.ofNat 0 by assumption) (by decide) (by decide)) hb
        | exact absurd (iN_of (show a = Int32.ofNat 1 by assumption) (by decide) (by decide)) hb
        | exact absurd (iN_of (show a = Int32.ofNat 2 by assumption) (by decide) (by decide)) hb
        | exact absurd (iN_of (show a = Int32.ofNat 3 by assumption) (by decide) (by decide)) hb
        | exact absurd (iN_of (show a = Int32.ofNat 4 by assumption) (by decide) (by decide)) hb
        | exact absurd (iN_of (show a = Int32.ofNat 5 by assumption) (by decide) (by decide)) hb
        | exact absurd (iN_of (show a = Int32.ofNat 6 by assumption) (by decide) (by decide)) hb
        | exact absurd (iN_of (show a = Int32.ofNat 7 by assumption) (by decide) (by decide)) hb
  · have e : siteA F v a = -1 := by unfold siteA; rw [if_pos hv]
    rw [e] at h
    intro call hcall X hX; refine hX 1000 0 _ _ _ ?_
    repeat' (first | (intro hc) | (refine And.intro ?_ ?_) | (exact absurd nI_0 ‹cmpF 0 (nI 0) 0›) | (exact absurd ‹cmpT 0 (nI 1) 0› nI1_ne) | (exact absurd nI_0 ‹cmpT 1 (nI 0) 0›) | (exact absurd ‹cmpF 1 (nI 1) 0› nI1_ne) | (show wp _ _ _ _ _ _ _ _ _ _ _ _; conv => whnf) | (simp (disch := omega) only [nI_add, nI_mul, setN_now, setN_put, nI_cl, Nat.add_zero]) | (refine hcall _ _ _ _ ?_; first | (refine c_isSite e2 t2 ?_) | fail))
    all_goals first
      | exact h
      | (exfalso; exact bT hv (by assumption))
def totW (F : Fm) (j : Nat) : Int32 := match j with
  | 0 => F 0 | 1 => F 1 | 2 => F 2 | 3 => F 3 | 4 => nI (cntB (upP F) (cT F)) | 5 => sumN F 0 (cR F) | 6 => sumN F 1 (cR F) | 7 => sumN F 3 (cR F) | 8 => sumN F 4 (cR F) | 9 => sumN F 5 (cR F) | 10 => F 4 | 13 => nI (cntB (ansP F) 256) | _ => -2
set_option maxHeartbeats 4000000 in
set_option maxRecDepth 100000 in
theorem c_totalOf (hw : WF F B) (hR : RepW s w F) (hv : ¬ (v = nI 11 ∨ v = nI 12)) (h : Q (some (.inl (if iN v 14 then totW F (nn v) else -2))) s) : wpM L xs codT retT (f + 5) m_X8_totalOf [.inr (8, w), .inl v] s Q := by
  have w0 := hR.h1
  have w1 := hR.s1
  have w2 := hR.t1
  have w3 := hR.r1
  have w4 := hR.l1
  by_cases hb : iN v 14
  · obtain ⟨j, hq, hql⟩ := iN_nn hb (by omega)
    subst hq
    rw [if_pos hb, show nn (nI j) = j from nI_cl (by omega)] at h
    have hj : j = 0 ∨ j = 1 ∨ j = 2 ∨ j = 3 ∨ j = 4 ∨ j = 5 ∨ j = 6 ∨ j = 7 ∨ j = 8 ∨ j = 9 ∨ j = 10 ∨ j = 13 := by
      have h11 : j ≠ 11 := fun q => hv (Or.inl (by rw [q]))
      have h12 : j ≠ 12 := fun q => hv (Or.inr (by rw [q]))
      omega
    clear hv
    rcases hj with hj | hj | hj | hj | hj | hj | hj | hj | hj | hj | hj | hj <;> subst hj
    all_goals
      intro call hcall X hX; refine hX 1000 0 _ _ _ ?_
      repeat' (first | (intro hc) | (refine And.intro ?_ ?_) | (exact absurd nI_0 ‹cmpF 0 (nI 0) 0›) | (exact absurd ‹cmpT 0 (nI 1) 0› nI1_ne) | (exact absurd nI_0 ‹cmpT 1 (nI 0) 0›) | (exact absurd ‹cmpF 1 (nI 1) 0› nI1_ne) | (show wp _ _ _ _ _ _ _ _ _ _ _ _; conv => whnf) | (simp (disch := omega) only [nI_add, nI_mul, setN_now, setN_put, nI_cl, Nat.add_zero]) | (refine hcall _ _ _ _ ?_; first | (refine c_sitesUp hw hR ?_) | (refine c_sumOver hw hR (by omega) ?_) | (refine c_namesWithAnswer hw hR ?_) | fail))
      all_goals first
        | exact h
        | (rw [w0]; exact h)
        | (rw [w1]; exact h)
        | (rw [w2]; exact h)
        | (rw [w3]; exact h)
        | (rw [w4]; exact h)
        | exact absurd (ofN 0).symm (by assumption)
        | exact absurd (ofN 1).symm (by assumption)
        | exact absurd (ofN 2).symm (by assumption)
        | exact absurd (ofN 3).symm (by assumption)
        | exact absurd (ofN 4).symm (by assumption)
        | exact absurd (ofN 5).symm (by assumption)
        | exact absurd (ofN 6).symm (by assumption)
        | exact absurd (ofN 7).symm (by assumption)
        | exact absurd (ofN 8).symm (by assumption)
        | exact absurd (ofN 9).symm (by assumption)
        | exact absurd (ofN 10).symm (by assumption)
        | exact absurd (ofN 11).symm (by assumption)
        | exact absurd (ofN 12).symm (by assumption)
        | exact absurd (ofN 13).symm (by assumption)
        | (exfalso; clear hX hcall h hb w0 w1 w2 w3 w4; simp (disch := omega) only [ofN, nI_inj] at * <;> omega)
  · rw [if_neg hb] at h
    intro call hcall X hX; refine hX 1000 0 _ _ _ ?_
    repeat' (first | (intro hc) | (refine And.intro ?_ ?_) | (exact absurd nI_0 ‹cmpF 0 (nI 0) 0›) | (exact absurd ‹cmpT 0 (nI 1) 0› nI1_ne) | (exact absurd nI_0 ‹cmpT 1 (nI 0) 0›) | (exact absurd ‹cmpF 1 (nI 1) 0› nI1_ne) | (show wp _ _ _ _ _ _ _ _ _ _ _ _; conv => whnf))
    all_goals first
      | exact h
      | exact absurd (iN_of (show v = Int32.ofNat 0 by assumption) (by decide) (by decide)) hb
      | exact absurd (iN_of (show v = Int32.ofNat 1 by assumption) (by decide) (by decide)) hb
      | exact absurd (iN_of (show v = Int32.ofNat 2 by assumption) (by decide) (by decide)) hb
      | exact absurd (iN_of (show v = Int32.ofNat 3 by assumption) (by decide) (by decide)) hb
      | exact absurd (iN_of (show v = Int32.ofNat 4 by assumption) (by decide) (by decide)) hb
      | exact absurd (iN_of (show v = Int32.ofNat 5 by assumption) (by decide) (by decide)) hb
      | exact absurd (iN_of (show v = Int32.ofNat 6 by assumption) (by decide) (by decide)) hb
      | exact absurd (iN_of (show v = Int32.ofNat 7 by assumption) (by decide) (by decide)) hb
      | exact absurd (iN_of (show v = Int32.ofNat 8 by assumption) (by decide) (by decide)) hb
      | exact absurd (iN_of (show v = Int32.ofNat 9 by assumption) (by decide) (by decide)) hb
      | exact absurd (iN_of (show v = Int32.ofNat 10 by assumption) (by decide) (by decide)) hb
      | exact absurd (iN_of (show v = Int32.ofNat 11 by assumption) (by decide) (by decide)) hb
      | exact absurd (iN_of (show v = Int32.ofNat 12 by assumption) (by decide) (by decide)) hb
      | exact absurd (iN_of (show v = Int32.ofNat 13 by assumption) (by decide) (by decide)) hb
end CLS6
end
section
/-! THE CLASS: looking, as it is called -/
def totA (F : Fm) (n m : Int32) (v : Int32) : Int32 := if v = nI 11 then n else if v = nI 12 then m else if iN v 14 then totW F (nn v) else -2
section CLS7
variable {L : Nat} {xs : Nat → Int32} {f i k r p q c j n B b w m sd : Nat} {x y v a z l lo v0 v1 name flow place which : Int32} {s : St} {F G F' u : Fm} {Q : Option MV → St → Prop} {P : Nat → Bool}
set_option maxHeartbeats 4000000 in
set_option maxRecDepth 100000 in
theorem c_sSlot (h : Q (some (.inl (bI (iN v 3)))) s) : wpM L xs codT retT (f + 1) m_X9_isSlot [.inl v] s Q := by
  intro call hcall X hX; refine hX 1000 0 _ _ _ ?_
  repeat' (first | (intro hc) | (refine And.intro ?_ ?_) | (exact absurd nI_0 ‹cmpF 0 (nI 0) 0›) | (exact absurd ‹cmpT 0 (nI 1) 0› nI1_ne) | (exact absurd nI_0 ‹cmpT 1 (nI 0) 0›) | (exact absurd ‹cmpF 1 (nI 1) 0› nI1_ne) | (show wp _ _ _ _ _ _ _ _ _ _ _ _; conv => whnf))
  all_goals first
    | exact Or.inl rfl
    | exact Or.inr rfl
    | (refine bI_1 h ?_; clear h; (try clear hX hcall); (try clear h); (try simp (disch := omega) only [cmpT, cmpF, bI_eq0, bI_ne0, Classical.not_not, nI_toI, nI_cl, nI_inj, nI_add, nI_mul, nI_subI, takeL, setL, Int32.toInt_zero, Nat.add_zero, Nat.zero_mul, Nat.zero_add, alen11, alen12, alen13, alen14, alen15, alen16, alen17, alen18, alen19] at *); omega)
    | (refine bI_0 h ?_; clear h; (try clear hX hcall); (try clear h); (try simp (disch := omega) only [cmpT, cmpF, bI_eq0, bI_ne0, Classical.not_not, nI_toI, nI_cl, nI_inj, nI_add, nI_mul, nI_subI, takeL, setL, Int32.toInt_zero, Nat.add_zero, Nat.zero_mul, Nat.zero_add, alen11, alen12, alen13, alen14, alen15, alen16, alen17, alen18, alen19] at *); omega)
set_option maxHeartbeats 4000000 in
set_option maxRecDepth 100000 in
theorem c_sName (h : Q (some (.inl (bI (iN v 256)))) s) : wpM L xs codT retT (f + 1) m_X9_isName [.inl v] s Q := by
  intro call hcall X hX; refine hX 1000 0 _ _ _ ?_
  repeat' (first | (intro hc) | (refine And.intro ?_ ?_) | (exact absurd nI_0 ‹cmpF 0 (nI 0) 0›) | (exact absurd ‹cmpT 0 (nI 1) 0› nI1_ne) | (exact absurd nI_0 ‹cmpT 1 (nI 0) 0›) | (exact absurd ‹cmpF 1 (nI 1) 0› nI1_ne) | (show wp _ _ _ _ _ _ _ _ _ _ _ _; conv => whnf))
  all_goals first
    | exact Or.inl rfl
    | exact Or.inr rfl
    | (refine bI_1 h ?_; clear h; (try clear hX hcall); (try clear h); (try simp (disch := omega) only [cmpT, cmpF, bI_eq0, bI_ne0, Classical.not_not, nI_toI, nI_cl, nI_inj, nI_add, nI_mul, nI_subI, takeL, setL, Int32.toInt_zero, Nat.add_zero, Nat.zero_mul, Nat.zero_add, alen11, alen12, alen13, alen14, alen15, alen16, alen17, alen18, alen19] at *); omega)
    | (refine bI_0 h ?_; clear h; (try clear hX hcall); (try clear h); (try simp (disch := omega) only [cmpT, cmpF, bI_eq0, bI_ne0, Classical.not_not, nI_toI, nI_cl, nI_inj, nI_add, nI_mul, nI_subI, takeL, setL, Int32.toInt_zero, Nat.add_zero, Nat.zero_mul, Nat.zero_add, alen11, alen12, alen13, alen14, alen15, alen16, alen17, alen18, alen19] at *); omega)
set_option maxHeartbeats 4000000 in
set_option maxRecDepth 100000 in
theorem c_sFlow (h : Q (some (.inl (bI (iN v 100)))) s) : wpM L xs codT retT (f + 1) m_X9_isFlow [.inl v] s Q := by
  intro call hcall X hX; refine hX 1000 0 _ _ _ ?_
  repeat' (first | (intro hc) | (refine And.intro ?_ ?_) | (exact absurd nI_0 ‹cmpF 0 (nI 0) 0›) | (exact absurd ‹cmpT 0 (nI 1) 0› nI1_ne) | (exact absurd nI_0 ‹cmpT 1 (nI 0) 0›) | (exact absurd ‹cmpF 1 (nI 1) 0› nI1_ne) | (show wp _ _ _ _ _ _ _ _ _ _ _ _; conv => whnf))
  all_goals first
    | exact Or.inl rfl
    | exact Or.inr rfl
    | (refine bI_1 h ?_; clear h; (try clear hX hcall); (try clear h); (try simp (disch := omega) only [cmpT, cmpF, bI_eq0, bI_ne0, Classical.not_not, nI_toI, nI_cl, nI_inj, nI_add, nI_mul, nI_subI, takeL, setL, Int32.toInt_zero, Nat.add_zero, Nat.zero_mul, Nat.zero_add, alen11, alen12, alen13, alen14, alen15, alen16, alen17, alen18, alen19] at *); omega)
    | (refine bI_0 h ?_; clear h; (try clear hX hcall); (try clear h); (try simp (disch := omega) only [cmpT, cmpF, bI_eq0, bI_ne0, Classical.not_not, nI_toI, nI_cl, nI_inj, nI_add, nI_mul, nI_subI, takeL, setL, Int32.toInt_zero, Nat.add_zero, Nat.zero_mul, Nat.zero_add, alen11, alen12, alen13, alen14, alen15, alen16, alen17, alen18, alen19] at *); omega)
set_option maxHeartbeats 4000000 in
set_option maxRecDepth 100000 in
theorem c_sPlace (h : Q (some (.inl (bI (iN v 32)))) s) : wpM L xs codT retT (f + 1) m_X9_isPlaceOfSlot [.inl v] s Q := by
  intro call hcall X hX; refine hX 1000 0 _ _ _ ?_
  repeat' (first | (intro hc) | (refine And.intro ?_ ?_) | (exact absurd nI_0 ‹cmpF 0 (nI 0) 0›) | (exact absurd ‹cmpT 0 (nI 1) 0› nI1_ne) | (exact absurd nI_0 ‹cmpT 1 (nI 0) 0›) | (exact absurd ‹cmpF 1 (nI 1) 0› nI1_ne) | (show wp _ _ _ _ _ _ _ _ _ _ _ _; conv => whnf))
  all_goals first
    | exact Or.inl rfl
    | exact Or.inr rfl
    | (refine bI_1 h ?_; clear h; (try clear hX hcall); (try clear h); (try simp (disch := omega) only [cmpT, cmpF, bI_eq0, bI_ne0, Classical.not_not, nI_toI, nI_cl, nI_inj, nI_add, nI_mul, nI_subI, takeL, setL, Int32.toInt_zero, Nat.add_zero, Nat.zero_mul, Nat.zero_add, alen11, alen12, alen13, alen14, alen15, alen16, alen17, alen18, alen19] at *); omega)
    | (refine bI_0 h ?_; clear h; (try clear hX hcall); (try clear h); (try simp (disch := omega) only [cmpT, cmpF, bI_eq0, bI_ne0, Classical.not_not, nI_toI, nI_cl, nI_inj, nI_add, nI_mul, nI_subI, takeL, setL, Int32.toInt_zero, Nat.add_zero, Nat.zero_mul, Nat.zero_add, alen11, alen12, alen13, alen14, alen15, alen16, alen17, alen18, alen19] at *); omega)
set_option maxHeartbeats 4000000 in
set_option maxRecDepth 100000 in
theorem c_sSave (h : Q (some (.inl (bI (iN v 2)))) s) : wpM L xs codT retT (f + 1) m_X9_isSave [.inl v] s Q := by
  intro call hcall X hX; refine hX 1000 0 _ _ _ ?_
  repeat' (first | (intro hc) | (refine And.intro ?_ ?_) | (exact absurd nI_0 ‹cmpF 0 (nI 0) 0›) | (exact absurd ‹cmpT 0 (nI 1) 0› nI1_ne) | (exact absurd nI_0 ‹cmpT 1 (nI 0) 0›) | (exact absurd ‹cmpF 1 (nI 1) 0› nI1_ne) | (show wp _ _ _ _ _ _ _ _ _ _ _ _; conv => whnf))
  all_goals first
    | exact Or.inl rfl
    | exact Or.inr rfl
    | (refine bI_1 h ?_; clear h; (try clear hX hcall); (try clear h); (try simp (disch := omega) only [cmpT, cmpF, bI_eq0, bI_ne0, Classical.not_not, nI_toI, nI_cl, nI_inj, nI_add, nI_mul, nI_subI, takeL, setL, Int32.toInt_zero, Nat.add_zero, Nat.zero_mul, Nat.zero_add, alen11, alen12, alen13, alen14, alen15, alen16, alen17, alen18, alen19] at *); omega)
    | (refine bI_0 h ?_; clear h; (try clear hX hcall); (try clear h); (try simp (disch := omega) only [cmpT, cmpF, bI_eq0, bI_ne0, Classical.not_not, nI_toI, nI_cl, nI_inj, nI_add, nI_mul, nI_subI, takeL, setL, Int32.toInt_zero, Nat.add_zero, Nat.zero_mul, Nat.zero_add, alen11, alen12, alen13, alen14, alen15, alen16, alen17, alen18, alen19] at *); omega)
set_option maxHeartbeats 4000000 in
set_option maxRecDepth 100000 in
theorem c_isPlace (e : s.1 4 i 1 = nI n) (h5 : n ≤ 5) (h : Q (some (.inl (bI (iN v n)))) s) : wpM L xs codT retT (f + 1) m_X4_isPlace [.inr (4, i), .inl v] s Q := by
  intro call hcall X hX; refine hX 1000 0 _ _ _ ?_
  repeat' (first | (intro hc) | (refine And.intro ?_ ?_) | (exact absurd nI_0 ‹cmpF 0 (nI 0) 0›) | (exact absurd ‹cmpT 0 (nI 1) 0› nI1_ne) | (exact absurd nI_0 ‹cmpT 1 (nI 0) 0›) | (exact absurd ‹cmpF 1 (nI 1) 0› nI1_ne) | (show wp _ _ _ _ _ _ _ _ _ _ _ _; conv => whnf))
  all_goals first
    | exact Or.inl rfl
    | exact Or.inr rfl
    | (refine bI_1 h ?_; clear h; (try clear hX hcall); (try clear h); (try simp (disch := omega) only [cmpT, cmpF, bI_eq0, bI_ne0, Classical.not_not, nI_toI, nI_cl, nI_inj, nI_add, nI_mul, nI_subI, takeL, setL, Int32.toInt_zero, Nat.add_zero, setN_now, alen20, alen11, alen12, alen13, alen14, alen15, alen16, alen17, alen18, alen19, (id e)] at *); omega)
    | (refine bI_0 h ?_; clear h; (try clear hX hcall); (try clear h); (try simp (disch := omega) only [cmpT, cmpF, bI_eq0, bI_ne0, Classical.not_not, nI_toI, nI_cl, nI_inj, nI_add, nI_mul, nI_subI, takeL, setL, Int32.toInt_zero, Nat.add_zero, setN_now, alen20, alen11, alen12, alen13, alen14, alen15, alen16, alen17, alen18, alen19, (id e)] at *); omega)
set_option maxHeartbeats 4000000 in
set_option maxRecDepth 100000 in
theorem c_server (hw : WF F B) (hR : RepW s 0 F) (h : Q (some (.inl (serverA F v a))) s) : wpM L xs codT retT (f + 6) m_X9_server [.inr (9, 0), .inl v, .inl a] s Q := by
  have s2 := hw.s2
  have e1 : s.1 8 0 3 = nI (cS F) := hR.s1.trans hw.s1
  by_cases hv : iN v (cS F)
  · intro call hcall X hX; refine hX 1000 0 _ _ _ ?_
    repeat' (first | (intro hc) | (refine And.intro ?_ ?_) | (exact absurd nI_0 ‹cmpF 0 (nI 0) 0›) | (exact absurd ‹cmpT 0 (nI 1) 0› nI1_ne) | (exact absurd nI_0 ‹cmpT 1 (nI 0) 0›) | (exact absurd ‹cmpF 1 (nI 1) 0› nI1_ne) | (show wp _ _ _ _ _ _ _ _ _ _ _ _; conv => whnf) | (simp (disch := omega) only [nI_add, nI_mul, setN_now, setN_put, nI_cl, Nat.add_zero]) | (refine hcall _ _ _ _ ?_; first | (refine c_isServer e1 s2.2 ?_) | (refine c_serverProp hw hR ?_) | fail))
    all_goals first
      | exact h
      | (exfalso; exact bF hv (by assumption))
  · have e : serverA F v a = -1 := by unfold serverA; rw [if_pos hv]
    rw [e] at h
    intro call hcall X hX; refine hX 1000 0 _ _ _ ?_
    repeat' (first | (intro hc) | (refine And.intro ?_ ?_) | (exact absurd nI_0 ‹cmpF 0 (nI 0) 0›) | (exact absurd ‹cmpT 0 (nI 1) 0› nI1_ne) | (exact absurd nI_0 ‹cmpT 1 (nI 0) 0›) | (exact absurd ‹cmpF 1 (nI 1) 0› nI1_ne) | (show wp _ _ _ _ _ _ _ _ _ _ _ _; conv => whnf) | (simp (disch := omega) only [nI_add, nI_mul, setN_now, setN_put, nI_cl, Nat.add_zero]) | (refine hcall _ _ _ _ ?_; first | (refine c_isServer e1 s2.2 ?_) | fail))
    all_goals first
      | exact h
      | (exfalso; exact bT hv (by assumption))
set_option maxHeartbeats 4000000 in
set_option maxRecDepth 100000 in
theorem c_site (hw : WF F B) (hR : RepW s 0 F) (h : Q (some (.inl (siteA F v a))) s) : wpM L xs codT retT (f + 5) m_X9_site [.inr (9, 0), .inl v, .inl a] s Q := by
  have t2 := hw.t2
  have e2 : s.1 8 0 4 = nI (cT F) := hR.t1.trans hw.t1
  by_cases hv : iN v (cT F)
  · intro call hcall X hX; refine hX 1000 0 _ _ _ ?_
    repeat' (first | (intro hc) | (refine And.intro ?_ ?_) | (exact absurd nI_0 ‹cmpF 0 (nI 0) 0›) | (exact absurd ‹cmpT 0 (nI 1) 0› nI1_ne) | (exact absurd nI_0 ‹cmpT 1 (nI 0) 0›) | (exact absurd ‹cmpF 1 (nI 1) 0› nI1_ne) | (show wp _ _ _ _ _ _ _ _ _ _ _ _; conv => whnf) | (simp (disch := omega) only [nI_add, nI_mul, setN_now, setN_put, nI_cl, Nat.add_zero]) | (refine hcall _ _ _ _ ?_; first | (refine c_isSite e2 t2 ?_) | (refine c_siteProp hw hR (by omega) ?_) | fail))
    all_goals first
      | exact h
      | (exfalso; exact bF hv (by assumption))
  · have e : siteA F v a = -1 := by unfold siteA; rw [if_pos hv]
    rw [e] at h
    intro call hcall X hX; refine hX 1000 0 _ _ _ ?_
    repeat' (first | (intro hc) | (refine And.intro ?_ ?_) | (exact absurd nI_0 ‹cmpF 0 (nI 0) 0›) | (exact absurd ‹cmpT 0 (nI 1) 0› nI1_ne) | (exact absurd nI_0 ‹cmpT 1 (nI 0) 0›) | (exact absurd ‹cmpF 1 (nI 1) 0› nI1_ne) | (show wp _ _ _ _ _ _ _ _ _ _ _ _; conv => whnf) | (simp (disch := omega) only [nI_add, nI_mul, setN_now, setN_put, nI_cl, Nat.add_zero]) | (refine hcall _ _ _ _ ?_; first | (refine c_isSite e2 t2 ?_) | fail))
    all_goals first
      | exact h
      | (exfalso; exact bT hv (by assumption))
set_option maxHeartbeats 4000000 in
set_option maxRecDepth 100000 in
theorem c_slot (hw : WF F B) (hR : RepW s 0 F) (h : Q (some (.inl (slotA F v x a))) s) : wpM L xs codT retT (f + 3) m_X9_slot [.inr (9, 0), .inl v, .inl x, .inl a] s Q := by
  have t2 := hw.t2
  have e2 : s.1 8 0 4 = nI (cT F) := hR.t1.trans hw.t1
  by_cases hv : iN v (cT F)
  · obtain ⟨k, hp, hpl⟩ := iN_nn hv (by omega)
    subst hp
    have en : nn (nI k) = k := nI_cl (by omega)
    obtain ⟨-, -, -, -, -, cr⟩ := hR.site hpl
    by_cases hx : iN x 3
    · obtain ⟨j, hq, hql⟩ := iN_nn hx (by omega)
      subst hq
      have ej : nn (nI j) = j := nI_cl (by omega)
      have e : slotA F (nI k) (nI j) a = if ¬ iN a 3 then -2 else if F (29 + 17 * k + 5 + 4 * j) = nI 1 then F (29 + 17 * k + 5 + 4 * j + 1 + nn a) else -5 := by unfold slotA; rw [if_neg (fun q => q ⟨hv, hx⟩), en, ej]
      rw [e] at h
      intro call hcall X hX; refine hX 1000 0 _ _ _ ?_
      repeat' (first | (intro hc) | (refine And.intro ?_ ?_) | (exact absurd nI_0 ‹cmpF 0 (nI 0) 0›) | (exact absurd ‹cmpT 0 (nI 1) 0› nI1_ne) | (exact absurd nI_0 ‹cmpT 1 (nI 0) 0›) | (exact absurd ‹cmpF 1 (nI 1) 0› nI1_ne) | (show wp _ _ _ _ _ _ _ _ _ _ _ _; conv => whnf) | (simp (disch := omega) only [nI_cl]) | (simp (disch := omega) only [nI_add, nI_mul, setN_now, setN_put, nI_cl, Nat.add_zero]) | (refine hcall _ _ _ _ ?_; first | (refine c_isSite e2 t2 ?_) | (refine c_sSlot ?_) | (refine c_propertyOf cr (hw.flag hpl) hql ?_) | fail))
      all_goals first
        | exact h
        | (exfalso; exact bF hv (by assumption))
        | (exfalso; exact bF hx (by assumption))
        | (clear h hv hx e; (try clear hX hcall); (try clear h); (try simp (disch := omega) only [cmpT, cmpF, bI_eq0, bI_ne0, Classical.not_not, nI_toI, nI_cl, nI_inj, nI_add, nI_mul, nI_subI, takeL, setL, Int32.toInt_zero, Nat.add_zero, Nat.zero_mul, Nat.zero_add, alen11, alen12, alen13, alen14, alen15, alen16, alen17, alen18, alen19] at *); omega)
    · have e : slotA F (nI k) x a = -1 := by unfold slotA; rw [if_pos (fun q => hx q.2)]
      rw [e] at h
      intro call hcall X hX; refine hX 1000 0 _ _ _ ?_
      repeat' (first | (intro hc) | (refine And.intro ?_ ?_) | (exact absurd nI_0 ‹cmpF 0 (nI 0) 0›) | (exact absurd ‹cmpT 0 (nI 1) 0› nI1_ne) | (exact absurd nI_0 ‹cmpT 1 (nI 0) 0›) | (exact absurd ‹cmpF 1 (nI 1) 0› nI1_ne) | (show wp _ _ _ _ _ _ _ _ _ _ _ _; conv => whnf) | (simp (disch := omega) only [nI_add, nI_mul, setN_now, setN_put, nI_cl, Nat.add_zero]) | (refine hcall _ _ _ _ ?_; first | (refine c_isSite e2 t2 ?_) | (refine c_sSlot ?_) | fail))
      all_goals first
        | exact h
        | (exfalso; exact bF hv (by assumption))
        | (exfalso; exact bT hx (by assumption))
  · have e : slotA F v x a = -1 := by unfold slotA; rw [if_pos (fun q => hv q.1)]
    rw [e] at h
    intro call hcall X hX; refine hX 1000 0 _ _ _ ?_
    repeat' (first | (intro hc) | (refine And.intro ?_ ?_) | (exact absurd nI_0 ‹cmpF 0 (nI 0) 0›) | (exact absurd ‹cmpT 0 (nI 1) 0› nI1_ne) | (exact absurd nI_0 ‹cmpT 1 (nI 0) 0›) | (exact absurd ‹cmpF 1 (nI 1) 0› nI1_ne) | (show wp _ _ _ _ _ _ _ _ _ _ _ _; conv => whnf) | (simp (disch := omega) only [nI_add, nI_mul, setN_now, setN_put, nI_cl, Nat.add_zero]) | (refine hcall _ _ _ _ ?_; first | (refine c_isSite e2 t2 ?_) | fail))
    all_goals first
      | exact h
      | (exfalso; exact bT hv (by assumption))
set_option maxHeartbeats 4000000 in
set_option maxRecDepth 100000 in
theorem c_router (hw : WF F B) (hR : RepW s 0 F) (h : Q (some (.inl (routA F v a))) s) : wpM L xs codT retT (f + 2) m_X9_router [.inr (9, 0), .inl v, .inl a] s Q := by
  have r2 := hw.r2
  have e3 : s.1 8 0 5 = nI (cR F) := hR.r1.trans hw.r1
  by_cases hv : iN v (cR F)
  · obtain ⟨k, hp, hpl⟩ := iN_nn hv (by omega)
    subst hp
    have en : nn (nI k) = k := nI_cl (by omega)
    have rr := hR.router hpl
    have e : routA F (nI k) a = if ¬ iN a 6 then -2 else F (165 + 6 * k + nn a) := by unfold routA; rw [if_neg (fun q => q hv), en]
    rw [e] at h
    intro call hcall X hX; refine hX 1000 0 _ _ _ ?_
    repeat' (first | (intro hc) | (refine And.intro ?_ ?_) | (exact absurd nI_0 ‹cmpF 0 (nI 0) 0›) | (exact absurd ‹cmpT 0 (nI 1) 0› nI1_ne) | (exact absurd nI_0 ‹cmpT 1 (nI 0) 0›) | (exact absurd ‹cmpF 1 (nI 1) 0› nI1_ne) | (show wp _ _ _ _ _ _ _ _ _ _ _ _; conv => whnf) | (simp (disch := omega) only [nI_cl]) | (simp (disch := omega) only [nI_add, nI_mul, setN_now, setN_put, nI_cl, Nat.add_zero]) | (refine hcall _ _ _ _ ?_; first | (refine c_isRouter e3 r2 ?_) | (refine c_rProp rr ?_) | fail))
    all_goals first
      | exact h
      | (exfalso; exact bF hv (by assumption))
      | (clear h hv e; (try clear hX hcall); (try clear h); (try simp (disch := omega) only [cmpT, cmpF, bI_eq0, bI_ne0, Classical.not_not, nI_toI, nI_cl, nI_inj, nI_add, nI_mul, nI_subI, takeL, setL, Int32.toInt_zero, Nat.add_zero, Nat.zero_mul, Nat.zero_add, alen11, alen12, alen13, alen14, alen15, alen16, alen17, alen18, alen19] at *); omega)
  · have e : routA F v a = -1 := by unfold routA; rw [if_pos hv]
    rw [e] at h
    intro call hcall X hX; refine hX 1000 0 _ _ _ ?_
    repeat' (first | (intro hc) | (refine And.intro ?_ ?_) | (exact absurd nI_0 ‹cmpF 0 (nI 0) 0›) | (exact absurd ‹cmpT 0 (nI 1) 0› nI1_ne) | (exact absurd nI_0 ‹cmpT 1 (nI 0) 0›) | (exact absurd ‹cmpF 1 (nI 1) 0› nI1_ne) | (show wp _ _ _ _ _ _ _ _ _ _ _ _; conv => whnf) | (simp (disch := omega) only [nI_add, nI_mul, setN_now, setN_put, nI_cl, Nat.add_zero]) | (refine hcall _ _ _ _ ?_; first | (refine c_isRouter e3 r2 ?_) | fail))
    all_goals first
      | exact h
      | (exfalso; exact bT hv (by assumption))
set_option maxHeartbeats 4000000 in
set_option maxRecDepth 100000 in
theorem c_mProp (hm : repMap s k F r p) (hw : WFmap F r p) (e0 : x = F 0) (h : Q (some (.inl (if ¬ iN a 5 then -2 else if a.toInt < 4 then F (mA r p + nn a) else if (F 0).toInt < (F (mA r p + 2)).toInt then nI 1 else nI 0))) s) : wpM L xs codT retT (f + 2) m_X2_property [.inr (2, k), .inl a, .inl x] s Q := by
  obtain ⟨m0, m1, m2, m3, -⟩ := hm
  obtain ⟨-, -, w3, -⟩ := hw
  subst e0
  by_cases hb : iN a 5
  · obtain ⟨j, hq, hql⟩ := iN_nn hb (by omega)
    subst hq
    rw [if_neg (fun q => q hb), show nn (nI j) = j from nI_cl (by omega), nI_toI (by omega)] at h
    have hj : j = 0 ∨ j = 1 ∨ j = 2 ∨ j = 3 ∨ j = 4 := by omega
    rcases hj with hj | hj | hj | hj | hj <;> subst hj <;> (first | rw [if_pos (by omega)] at h | rw [if_neg (by omega)] at h)
    · rw [Nat.add_zero, ← m0] at h
      intro call hcall X hX; refine hX 1000 0 _ _ _ ?_
      repeat' (first | (intro hc) | (refine And.intro ?_ ?_) | (exact absurd nI_0 ‹cmpF 0 (nI 0) 0›) | (exact absurd ‹cmpT 0 (nI 1) 0› nI1_ne) | (exact absurd nI_0 ‹cmpT 1 (nI 0) 0›) | (exact absurd ‹cmpF 1 (nI 1) 0› nI1_ne) | (show wp _ _ _ _ _ _ _ _ _ _ _ _; conv => whnf))
      all_goals first
        | exact h
        | exact absurd (ofN 0).symm (by assumption)
        | (exfalso; clear hX hcall h hb m0 m1 m2 m3 w3; simp (disch := omega) only [ofN, nI_inj] at * <;> omega)
    · rw [← m1] at h
      intro call hcall X hX; refine hX 1000 0 _ _ _ ?_
      repeat' (first | (intro hc) | (refine And.intro ?_ ?_) | (exact absurd nI_0 ‹cmpF 0 (nI 0) 0›) | (exact absurd ‹cmpT 0 (nI 1) 0› nI1_ne) | (exact absurd nI_0 ‹cmpT 1 (nI 0) 0›) | (exact absurd ‹cmpF 1 (nI 1) 0› nI1_ne) | (show wp _ _ _ _ _ _ _ _ _ _ _ _; conv => whnf))
      all_goals first
        | exact h
        | exact absurd (ofN 1).symm (by assumption)
        | (exfalso; clear hX hcall h hb m0 m1 m2 m3 w3; simp (disch := omega) only [ofN, nI_inj] at * <;> omega)
    · rw [← m2] at h
      intro call hcall X hX; refine hX 1000 0 _ _ _ ?_
      repeat' (first | (intro hc) | (refine And.intro ?_ ?_) | (exact absurd nI_0 ‹cmpF 0 (nI 0) 0›) | (exact absurd ‹cmpT 0 (nI 1) 0› nI1_ne) | (exact absurd nI_0 ‹cmpT 1 (nI 0) 0›) | (exact absurd ‹cmpF 1 (nI 1) 0› nI1_ne) | (show wp _ _ _ _ _ _ _ _ _ _ _ _; conv => whnf))
      all_goals first
        | exact h
        | exact absurd (ofN 2).symm (by assumption)
        | (exfalso; clear hX hcall h hb m0 m1 m2 m3 w3; simp (disch := omega) only [ofN, nI_inj] at * <;> omega)
    · rcases w3 with w3 | w3
      · rw [w3] at h
        have m3 : s.1 2 k 5 = 0 := m3.trans (w3.trans nI_0)
        intro call hcall X hX; refine hX 1000 0 _ _ _ ?_
        repeat' (first | (intro hc) | (refine And.intro ?_ ?_) | (exact absurd nI_0 ‹cmpF 0 (nI 0) 0›) | (exact absurd ‹cmpT 0 (nI 1) 0› nI1_ne) | (exact absurd nI_0 ‹cmpT 1 (nI 0) 0›) | (exact absurd ‹cmpF 1 (nI 1) 0› nI1_ne) | (show wp _ _ _ _ _ _ _ _ _ _ _ _; conv => whnf))
        all_goals first
          | exact h
          | exact absurd m3 (by assumption)
          | exact absurd (ofN 3).symm (by assumption)
          | (exfalso; clear hX hcall h hb m0 m1 m2 m3 w3; simp (disch := omega) only [ofN, nI_inj] at * <;> omega)
      · rw [w3] at h
        have m3 : ¬ s.1 2 k 5 = 0 := fun q => nI1_ne ((m3.trans w3).symm.trans q)
        intro call hcall X hX; refine hX 1000 0 _ _ _ ?_
        repeat' (first | (intro hc) | (refine And.intro ?_ ?_) | (exact absurd nI_0 ‹cmpF 0 (nI 0) 0›) | (exact absurd ‹cmpT 0 (nI 1) 0› nI1_ne) | (exact absurd nI_0 ‹cmpT 1 (nI 0) 0›) | (exact absurd ‹cmpF 1 (nI 1) 0› nI1_ne) | (show wp _ _ _ _ _ _ _ _ _ _ _ _; conv => whnf))
        all_goals first
          | exact h
          | (exfalso; exact m3 (by assumption))
          | exact absurd (ofN 3).symm (by assumption)
          | (exfalso; clear hX hcall h hb m0 m1 m2 m3 w3; simp (disch := omega) only [ofN, nI_inj] at * <;> omega)
    · rw [← m2] at h
      have hold : ∀ {f : Nat} {Q : Option MV → St → Prop}, Q (some (.inl (bI ((F 0).toInt < (s.1 2 k 4).toInt)))) s → wpM L xs codT retT (f + 1) m_X2_isHolding [.inr (2, k), .inl (F 0)] s Q := by
        clear h
        intro f Q h
        intro call hcall X hX; refine hX 1000 0 _ _ _ ?_
        repeat' (first | (intro hc) | (refine And.intro ?_ ?_) | (exact absurd nI_0 ‹cmpF 0 (nI 0) 0›) | (exact absurd ‹cmpT 0 (nI 1) 0› nI1_ne) | (exact absurd nI_0 ‹cmpT 1 (nI 0) 0›) | (exact absurd ‹cmpF 1 (nI 1) 0› nI1_ne) | (show wp _ _ _ _ _ _ _ _ _ _ _ _; conv => whnf))
        all_goals first
          | exact Or.inl rfl
          | exact Or.inr rfl
          | (refine bI_1 h ?_; clear h; (try clear hX hcall); (try clear h); (try simp (disch := omega) only [cmpT, cmpF, bI_eq0, bI_ne0, Classical.not_not, nI_toI, nI_cl, nI_inj, nI_add, nI_mul, nI_subI, takeL, setL, Int32.toInt_zero, Nat.add_zero, Nat.zero_mul, Nat.zero_add, alen11, alen12, alen13, alen14, alen15, alen16, alen17, alen18, alen19] at *); omega)
          | (refine bI_0 h ?_; clear h; (try clear hX hcall); (try clear h); (try simp (disch := omega) only [cmpT, cmpF, bI_eq0, bI_ne0, Classical.not_not, nI_toI, nI_cl, nI_inj, nI_add, nI_mul, nI_subI, takeL, setL, Int32.toInt_zero, Nat.add_zero, Nat.zero_mul, Nat.zero_add, alen11, alen12, alen13, alen14, alen15, alen16, alen17, alen18, alen19] at *); omega)
      by_cases ht : (F 0).toInt < (s.1 2 k 4).toInt
      · rw [if_pos ht] at h
        intro call hcall X hX; refine hX 1000 0 _ _ _ ?_
        repeat' (first | (intro hc) | (refine And.intro ?_ ?_) | (exact absurd nI_0 ‹cmpF 0 (nI 0) 0›) | (exact absurd ‹cmpT 0 (nI 1) 0› nI1_ne) | (exact absurd nI_0 ‹cmpT 1 (nI 0) 0›) | (exact absurd ‹cmpF 1 (nI 1) 0› nI1_ne) | (show wp _ _ _ _ _ _ _ _ _ _ _ _; conv => whnf) | (simp (disch := omega) only [nI_add, nI_mul, setN_now, setN_put, nI_cl, Nat.add_zero]) | (refine hcall _ _ _ _ ?_; first | (refine hold ?_) | fail))
        all_goals first
          | exact h
          | (exfalso; exact bF ht (by assumption))
          | exact absurd (ofN 4).symm (by assumption)
          | (exfalso; clear hX hcall h hb m0 m1 m2 m3 w3; simp (disch := omega) only [ofN, nI_inj] at * <;> omega)
      · rw [if_neg ht] at h
        intro call hcall X hX; refine hX 1000 0 _ _ _ ?_
        repeat' (first | (intro hc) | (refine And.intro ?_ ?_) | (exact absurd nI_0 ‹cmpF 0 (nI 0) 0›) | (exact absurd ‹cmpT 0 (nI 1) 0› nI1_ne) | (exact absurd nI_0 ‹cmpT 1 (nI 0) 0›) | (exact absurd ‹cmpF 1 (nI 1) 0› nI1_ne) | (show wp _ _ _ _ _ _ _ _ _ _ _ _; conv => whnf) | (simp (disch := omega) only [nI_add, nI_mul, setN_now, setN_put, nI_cl, Nat.add_zero]) | (refine hcall _ _ _ _ ?_; first | (refine hold ?_) | fail))
        all_goals first
          | exact h
          | (exfalso; exact bT ht (by assumption))
          | exact absurd (ofN 4).symm (by assumption)
          | (exfalso; clear hX hcall h hb m0 m1 m2 m3 w3; simp (disch := omega) only [ofN, nI_inj] at * <;> omega)
  · rw [if_pos hb] at h
    intro call hcall X hX; refine hX 1000 0 _ _ _ ?_
    repeat' (first | (intro hc) | (refine And.intro ?_ ?_) | (exact absurd nI_0 ‹cmpF 0 (nI 0) 0›) | (exact absurd ‹cmpT 0 (nI 1) 0› nI1_ne) | (exact absurd nI_0 ‹cmpT 1 (nI 0) 0›) | (exact absurd ‹cmpF 1 (nI 1) 0› nI1_ne) | (show wp _ _ _ _ _ _ _ _ _ _ _ _; conv => whnf))
    all_goals first
      | exact h
      | exact absurd (iN_of (show a = Int32.ofNat 0 by assumption) (by decide) (by decide)) hb
      | exact absurd (iN_of (show a = Int32.ofNat 1 by assumption) (by decide) (by decide)) hb
      | exact absurd (iN_of (show a = Int32.ofNat 2 by assumption) (by decide) (by decide)) hb
      | exact absurd (iN_of (show a = Int32.ofNat 3 by assumption) (by decide) (by decide)) hb
      | exact absurd (iN_of (show a = Int32.ofNat 4 by assumption) (by decide) (by decide)) hb
set_option maxHeartbeats 4000000 in
set_option maxRecDepth 100000 in
theorem c_map (hw : WF F B) (hR : RepW s 0 F) (h : Q (some (.inl (mapA F v x a))) s) : wpM L xs codT retT (f + 3) m_X9_map [.inr (9, 0), .inl v, .inl x, .inl a] s Q := by
  have r2 := hw.r2
  have e3 : s.1 8 0 5 = nI (cR F) := hR.r1.trans hw.r1
  by_cases hv : iN v (cR F)
  · obtain ⟨k, hp, hpl⟩ := iN_nn hv (by omega)
    subst hp
    have en : nn (nI k) = k := nI_cl (by omega)
    have rr := hR.router hpl
    have wr := hw.router hpl
    have w5 := wr.2.1
    have ec : s.1 4 (4 * 0 + k) 1 = nI (cM F k) := rr.1.trans wr.1
    by_cases hx : iN x (cM F k)
    · obtain ⟨p, hq, hql⟩ := iN_nn hx (by omega)
      subst hq
      have ep : nn (nI p) = p := nI_cl (by omega)
      have e : mapA F (nI k) (nI p) a = if ¬ iN a 5 then -2 else if a.toInt < 4 then F (mA k p + nn a) else if (F 0).toInt < (F (mA k p + 2)).toInt then nI 1 else nI 0 := by unfold mapA; rw [en, ep, if_neg (fun q => q ⟨hv, hx⟩)]
      rw [e] at h
      have mm := rr.2.2.2.2.2.2 p hql
      have wm := wr.2.2.1 p hql
      intro call hcall X hX; refine hX 1000 0 _ _ _ ?_
      repeat' (first | (intro hc) | (refine And.intro ?_ ?_) | (exact absurd nI_0 ‹cmpF 0 (nI 0) 0›) | (exact absurd ‹cmpT 0 (nI 1) 0› nI1_ne) | (exact absurd nI_0 ‹cmpT 1 (nI 0) 0›) | (exact absurd ‹cmpF 1 (nI 1) 0› nI1_ne) | (show wp _ _ _ _ _ _ _ _ _ _ _ _; conv => whnf) | (simp (disch := omega) only [nI_cl]) | (simp (disch := omega) only [nI_add, nI_mul, setN_now, setN_put, nI_cl, Nat.add_zero]) | (refine hcall _ _ _ _ ?_; first | (refine c_isRouter e3 r2 ?_) | (refine c_isPlace ec w5 ?_) | (refine c_mProp mm wm hR.h1 ?_) | fail))
      all_goals first
        | exact h
        | (exfalso; exact bF hv (by assumption))
        | (exfalso; exact bF hx (by assumption))
        | (simp (disch := omega) only [nI_toI, nI_cl, nI_add, nI_mul, alen11, alen12, alen13, alen14, alen15, alen16, alen17, alen18, alen19]; omega)
    · have e : mapA F (nI k) x a = -1 := by unfold mapA; rw [en, if_pos (fun q => hx q.2)]
      rw [e] at h
      intro call hcall X hX; refine hX 1000 0 _ _ _ ?_
      repeat' (first | (intro hc) | (refine And.intro ?_ ?_) | (exact absurd nI_0 ‹cmpF 0 (nI 0) 0›) | (exact absurd ‹cmpT 0 (nI 1) 0› nI1_ne) | (exact absurd nI_0 ‹cmpT 1 (nI 0) 0›) | (exact absurd ‹cmpF 1 (nI 1) 0› nI1_ne) | (show wp _ _ _ _ _ _ _ _ _ _ _ _; conv => whnf) | (simp (disch := omega) only [nI_cl]) | (simp (disch := omega) only [nI_add, nI_mul, setN_now, setN_put, nI_cl, Nat.add_zero]) | (refine hcall _ _ _ _ ?_; first | (refine c_isRouter e3 r2 ?_) | (refine c_isPlace ec w5 ?_) | fail))
      all_goals first
        | exact h
        | (exfalso; exact bF hv (by assumption))
        | (exfalso; exact bT hx (by assumption))
        | (simp (disch := omega) only [nI_toI, nI_cl, nI_add, nI_mul, alen11, alen12, alen13, alen14, alen15, alen16, alen17, alen18, alen19]; omega)
  · have e : mapA F v x a = -1 := by unfold mapA; rw [if_pos (fun q => hv q.1)]
    rw [e] at h
    intro call hcall X hX; refine hX 1000 0 _ _ _ ?_
    repeat' (first | (intro hc) | (refine And.intro ?_ ?_) | (exact absurd nI_0 ‹cmpF 0 (nI 0) 0›) | (exact absurd ‹cmpT 0 (nI 1) 0› nI1_ne) | (exact absurd nI_0 ‹cmpT 1 (nI 0) 0›) | (exact absurd ‹cmpF 1 (nI 1) 0› nI1_ne) | (show wp _ _ _ _ _ _ _ _ _ _ _ _; conv => whnf) | (simp (disch := omega) only [nI_add, nI_mul, setN_now, setN_put, nI_cl, Nat.add_zero]) | (refine hcall _ _ _ _ ?_; first | (refine c_isRouter e3 r2 ?_) | fail))
    all_goals first
      | exact h
      | (exfalso; exact bT hv (by assumption))
set_option maxHeartbeats 4000000 in
set_option maxRecDepth 100000 in
theorem c_answer (hw : WF F B) (hR : RepW s 0 F) (h : Q (some (.inl (answF F name))) s) : wpM L xs codT retT (f + 4) m_X9_answer [.inr (9, 0), .inl name] s Q := by
  have t2 := hw.t2
  by_cases hb : iN name 256
  · have e : answF F name = optI (ansF F name) (-5) := if_pos hb
    rw [e] at h
    cases ho : ansF F name with
    | none =>
      rw [ho] at h
      intro call hcall X hX; refine hX 1000 0 _ _ _ ?_
      repeat' (first | (intro hc) | (refine And.intro ?_ ?_) | (exact absurd nI_0 ‹cmpF 0 (nI 0) 0›) | (exact absurd ‹cmpT 0 (nI 1) 0› nI1_ne) | (exact absurd nI_0 ‹cmpT 1 (nI 0) 0›) | (exact absurd ‹cmpF 1 (nI 1) 0› nI1_ne) | (show wp _ _ _ _ _ _ _ _ _ _ _ _; conv => whnf) | (simp (disch := omega) only [nI_add, nI_mul, setN_now, setN_put, nI_cl, Nat.add_zero]) | (refine hcall _ _ _ _ ?_; first | (refine c_sName ?_) | (refine c_answerForE hw hR hb ho ?_) | fail))
      all_goals first
        | exact h
        | (exfalso; exact bF hb (by assumption))
        | (exfalso; exact (by assumption : cmpT 1 (optI none (-1)) (-1)) rfl)
    | some k =>
      rw [ho] at h
      have hk := ansF_lt ho
      have hn := nI_m1n (b := k) (by omega)
      intro call hcall X hX; refine hX 1000 0 _ _ _ ?_
      repeat' (first | (intro hc) | (refine And.intro ?_ ?_) | (exact absurd nI_0 ‹cmpF 0 (nI 0) 0›) | (exact absurd ‹cmpT 0 (nI 1) 0› nI1_ne) | (exact absurd nI_0 ‹cmpT 1 (nI 0) 0›) | (exact absurd ‹cmpF 1 (nI 1) 0› nI1_ne) | (show wp _ _ _ _ _ _ _ _ _ _ _ _; conv => whnf) | (simp (disch := omega) only [nI_add, nI_mul, setN_now, setN_put, nI_cl, Nat.add_zero]) | (refine hcall _ _ _ _ ?_; first | (refine c_sName ?_) | (refine c_answerForE hw hR hb ho ?_) | fail))
      all_goals first
        | exact h
        | (exfalso; exact bF hb (by assumption))
        | (exfalso; exact hn (by assumption : cmpF 1 (optI (some k) (-1)) (-1)))
  · have e : answF F name = -2 := if_neg hb
    rw [e] at h
    intro call hcall X hX; refine hX 1000 0 _ _ _ ?_
    repeat' (first | (intro hc) | (refine And.intro ?_ ?_) | (exact absurd nI_0 ‹cmpF 0 (nI 0) 0›) | (exact absurd ‹cmpT 0 (nI 1) 0› nI1_ne) | (exact absurd nI_0 ‹cmpT 1 (nI 0) 0›) | (exact absurd ‹cmpF 1 (nI 1) 0› nI1_ne) | (show wp _ _ _ _ _ _ _ _ _ _ _ _; conv => whnf) | (simp (disch := omega) only [nI_add, nI_mul, setN_now, setN_put, nI_cl, Nat.add_zero]) | (refine hcall _ _ _ _ ?_; first | (refine c_sName ?_) | fail))
    all_goals first
      | exact h
      | (exfalso; exact bT hb (by assumption))
set_option maxHeartbeats 4000000 in
set_option maxRecDepth 100000 in
theorem c_endingNext (hw : WF F B) (hR : RepW s 0 F) (h : Q (some (.inl (nextA F v))) s) : wpM L xs codT retT (f + 4) m_X9_endingNext [.inr (9, 0), .inl v] s Q := by
  have t2 := hw.t2
  by_cases hv : v.toInt < 0
  · have e : nextA F v = -2 := if_pos hv
    rw [e] at h
    intro call hcall X hX; refine hX 1000 0 _ _ _ ?_
    repeat' (first | (intro hc) | (refine And.intro ?_ ?_) | (exact absurd nI_0 ‹cmpF 0 (nI 0) 0›) | (exact absurd ‹cmpT 0 (nI 1) 0› nI1_ne) | (exact absurd nI_0 ‹cmpT 1 (nI 0) 0›) | (exact absurd ‹cmpF 1 (nI 1) 0› nI1_ne) | (show wp _ _ _ _ _ _ _ _ _ _ _ _; conv => whnf))
    all_goals first
      | exact h
      | ((try clear hX hcall); (try clear h); (try simp (disch := omega) only [cmpT, cmpF, bI_eq0, bI_ne0, Classical.not_not, nI_toI, nI_cl, nI_inj, nI_add, nI_mul, nI_subI, takeL, setL, Int32.toInt_zero, Nat.add_zero, Nat.zero_mul, Nat.zero_add, alen11, alen12, alen13, alen14, alen15, alen16, alen17, alen18, alen19] at *); omega)
  · have e : nextA F v = optI (firN (nxtP F v) (cT F) 0) (-5) := if_neg hv
    rw [e] at h
    have cE : ∀ {f : Nat} {o : Option Nat} {Q : Option MV → St → Prop}, firN (nxtP F v) (cT F) 0 = o → Q (some (.inl (optI o (-1)))) s → wpM L xs codT retT (f + 3) m_X8_siteEndingAt [.inr (8, 0), .inl v] s Q := fun e h => c_siteEndingAt hw hR (by rw [e]; exact h)
    cases ho : firN (nxtP F v) (cT F) 0 with
    | none =>
      rw [ho] at h
      intro call hcall X hX; refine hX 1000 0 _ _ _ ?_
      repeat' (first | (intro hc) | (refine And.intro ?_ ?_) | (exact absurd nI_0 ‹cmpF 0 (nI 0) 0›) | (exact absurd ‹cmpT 0 (nI 1) 0› nI1_ne) | (exact absurd nI_0 ‹cmpT 1 (nI 0) 0›) | (exact absurd ‹cmpF 1 (nI 1) 0› nI1_ne) | (show wp _ _ _ _ _ _ _ _ _ _ _ _; conv => whnf) | (simp (disch := omega) only [nI_add, nI_mul, setN_now, setN_put, nI_cl, Nat.add_zero]) | (refine hcall _ _ _ _ ?_; first | (refine cE ho ?_) | fail))
      all_goals first
        | exact h
        | (exfalso; exact (by assumption : cmpT 1 (optI none (-1)) (-1)) rfl)
        | (exfalso; clear h e cE; (try clear hX hcall); (try clear h); (try simp (disch := omega) only [cmpT, cmpF, bI_eq0, bI_ne0, Classical.not_not, nI_toI, nI_cl, nI_inj, nI_add, nI_mul, nI_subI, takeL, setL, Int32.toInt_zero, Nat.add_zero, Nat.zero_mul, Nat.zero_add, alen11, alen12, alen13, alen14, alen15, alen16, alen17, alen18, alen19] at *); omega)
    | some k =>
      rw [ho] at h
      have hk := (firN_some _ _ ho).2.1
      have hn := nI_m1n (b := k) (by omega)
      intro call hcall X hX; refine hX 1000 0 _ _ _ ?_
      repeat' (first | (intro hc) | (refine And.intro ?_ ?_) | (exact absurd nI_0 ‹cmpF 0 (nI 0) 0›) | (exact absurd ‹cmpT 0 (nI 1) 0› nI1_ne) | (exact absurd nI_0 ‹cmpT 1 (nI 0) 0›) | (exact absurd ‹cmpF 1 (nI 1) 0› nI1_ne) | (show wp _ _ _ _ _ _ _ _ _ _ _ _; conv => whnf) | (simp (disch := omega) only [nI_add, nI_mul, setN_now, setN_put, nI_cl, Nat.add_zero]) | (refine hcall _ _ _ _ ?_; first | (refine cE ho ?_) | fail))
      all_goals first
        | exact h
        | (exfalso; exact hn (by assumption : cmpF 1 (optI (some k) (-1)) (-1)))
        | (exfalso; clear h e cE; (try clear hX hcall); (try clear h); (try simp (disch := omega) only [cmpT, cmpF, bI_eq0, bI_ne0, Classical.not_not, nI_toI, nI_cl, nI_inj, nI_add, nI_mul, nI_subI, takeL, setL, Int32.toInt_zero, Nat.add_zero, Nat.zero_mul, Nat.zero_add, alen11, alen12, alen13, alen14, alen15, alen16, alen17, alen18, alen19] at *); omega)
set_option maxHeartbeats 4000000 in
set_option maxRecDepth 100000 in
theorem c_total (hw : WF F B) (hR : RepW s 0 F) (h : Q (some (.inl (totA F (s.1 3 0 2) (s.1 0 0 1) v))) s) : wpM L xs codT retT (f + 6) m_X9_total [.inr (9, 0), .inl v] s Q := by
  by_cases h11 : v = nI 11
  · have e : totA F (s.1 3 0 2) (s.1 0 0 1) v = s.1 3 0 2 := if_pos h11
    rw [e] at h
    subst h11
    intro call hcall X hX; refine hX 1000 0 _ _ _ ?_
    repeat' (first | (intro hc) | (refine And.intro ?_ ?_) | (exact absurd nI_0 ‹cmpF 0 (nI 0) 0›) | (exact absurd ‹cmpT 0 (nI 1) 0› nI1_ne) | (exact absurd nI_0 ‹cmpT 1 (nI 0) 0›) | (exact absurd ‹cmpF 1 (nI 1) 0› nI1_ne) | (show wp _ _ _ _ _ _ _ _ _ _ _ _; conv => whnf))
    all_goals first
      | exact h
      | exact absurd (ofN 11).symm (by assumption)
      | (exfalso; clear hX hcall h e; simp (disch := omega) only [ofN, nI_inj] at * <;> omega)
  · by_cases h12 : v = nI 12
    · have e : totA F (s.1 3 0 2) (s.1 0 0 1) v = s.1 0 0 1 := by unfold totA; rw [if_neg h11, if_pos h12]
      rw [e] at h
      subst h12
      intro call hcall X hX; refine hX 1000 0 _ _ _ ?_
      repeat' (first | (intro hc) | (refine And.intro ?_ ?_) | (exact absurd nI_0 ‹cmpF 0 (nI 0) 0›) | (exact absurd ‹cmpT 0 (nI 1) 0› nI1_ne) | (exact absurd nI_0 ‹cmpT 1 (nI 0) 0›) | (exact absurd ‹cmpF 1 (nI 1) 0› nI1_ne) | (show wp _ _ _ _ _ _ _ _ _ _ _ _; conv => whnf))
      all_goals first
        | exact h
        | exact absurd (ofN 12).symm (by assumption)
        | (exfalso; clear hX hcall h e; simp (disch := omega) only [ofN, nI_inj] at * <;> omega)
    · have e : totA F (s.1 3 0 2) (s.1 0 0 1) v = if iN v 14 then totW F (nn v) else -2 := by unfold totA; rw [if_neg h11, if_neg h12]
      rw [e] at h
      have hno : ¬ (v = nI 11 ∨ v = nI 12) := fun q => q.elim h11 h12
      intro call hcall X hX; refine hX 1000 0 _ _ _ ?_
      repeat' (first | (intro hc) | (refine And.intro ?_ ?_) | (exact absurd nI_0 ‹cmpF 0 (nI 0) 0›) | (exact absurd ‹cmpT 0 (nI 1) 0› nI1_ne) | (exact absurd nI_0 ‹cmpT 1 (nI 0) 0›) | (exact absurd ‹cmpF 1 (nI 1) 0› nI1_ne) | (show wp _ _ _ _ _ _ _ _ _ _ _ _; conv => whnf) | (simp (disch := omega) only [nI_add, nI_mul, setN_now, setN_put, nI_cl, Nat.add_zero]) | (refine hcall _ _ _ _ ?_; first | (refine c_totalOf hw hR hno ?_) | fail))
      all_goals first
        | exact h
        | (exfalso; exact h11 ((by assumption : v = Int32.ofNat 11).trans (ofN 11)))
        | (exfalso; exact h12 ((by assumption : v = Int32.ofNat 12).trans (ofN 12)))
end CLS7
end
section
/-! THE CLASS: what changes, and what stays -/
def Upd (s s' : St) (w : Nat) : Prop := (∀ c i k, ownW c i ≠ w → s'.1 c i k = s.1 c i k) ∧ (∀ i j, i / 4 ≠ w → s'.2 i j = s.2 i j) ∧ (permOk s → permOk s')
/-- the router to which an object belongs -/
def ownR (c j : Nat) : Nat := match c with
  | 4 => j
  | 2 => j / 5
  | 1 => if j < 160 then 999 else (j - 160) / 5
  | 15 => if j < 80 then 999 else (j - 80) / 5
  | _ => 999
def sameR (s s' : St) (i : Nat) : Prop := (∀ c j k, ownR c j = i → s'.1 c j k = s.1 c j k) ∧ ∀ j, s'.2 i j = s.2 i j
def bcE (x : Int32) : Int32 :=
  let sh : Int32 → Int32 → Int32 := fun x y => (x.toUInt32 >>> (y.toUInt32 &&& Int32.toUInt32 31)).toInt32
  let a := x - (sh x (nI 1) &&& nI 1431655765)
  let b := (a &&& nI 858993459) + (sh a (nI 2) &&& nI 858993459)
  let c := (b + sh b (nI 4)) &&& nI 252645135
  let d := c + sh c (nI 8)
  (d + sh d (nI 16)) &&& nI 63
section CLS8
variable {L : Nat} {xs : Nat → Int32} {f i k r p q c j n B b w w' m sd : Nat} {x y v a z l lo v0 v1 name flow place which : Int32} {s s' t : St} {F G F' u : Fm} {Q : Option MV → St → Prop} {P : Nat → Bool}
theorem Upd.refl : Upd s s w := ⟨fun _ _ _ _ => rfl, fun _ _ _ => rfl, fun h => h⟩
theorem Upd.trans (h1 : Upd s s' w) (h2 : Upd s' t w) : Upd s t w := ⟨fun c i k h => (h2.1 c i k h).trans (h1.1 c i k h), fun i j h => (h2.2.1 i j h).trans (h1.2.1 i j h), fun h => h2.2.2 (h1.2.2 h)⟩
theorem permOk_of (h : ∀ i j, s'.2 i j = s.2 i j) (hp : permOk s) : permOk s' := fun i hi => ⟨fun j hj => by rw [h]; exact (hp i hi).1 j hj, fun j j' a b => by rw [h, h]; exact (hp i hi).2 j j' a b⟩
theorem Upd_put (h : ownW c i = w) : Upd s (putV s c i k x) w := ⟨fun c' i' k' h' => putV_ne (by
  by_cases e1 : c' = c
  · by_cases e2 : i' = i
    · subst e1; subst e2; exact absurd h h'
    · exact Or.inr (Or.inl e2)
  · exact Or.inl e1), fun _ _ _ => rfl, fun h => permOk_of (fun _ _ => rfl) h⟩
theorem Upd.put (h : Upd s s' w) (ho : ownW c i = w) : Upd s (putV s' c i k x) w := h.trans (Upd_put ho)
theorem Upd.same (h : Upd s s' w) (hw : w' ≠ w) : sameW s s' w' := ⟨fun c i k e => h.1 c i k (by rw [e]; exact hw), fun i j e => h.2.1 i j (by rw [e]; exact hw)⟩
/-- what other worlds hold stays -/
theorem Upd.rep (h : Upd s s' w) (hw : w' ≠ w) (hF : WF F B) (hp : permOk s) (h10 : w' < 10) (hR : RepW s w' F) : RepW s' w' F := RepW_cg hF hp h10 (h.same hw) hR
theorem repServer_cg (h5 : ∀ j, s'.1 5 (8 * w + k) j = s.1 5 (8 * w + k) j) (h1 : ∀ j, s'.1 1 (8 * w + k) j = s.1 1 (8 * w + k) j) (hF : ∀ i, 5 + 3 * k ≤ i → i < 5 + 3 * k + 3 → F' i = F i) (q : repServer s w k F) : repServer s' w k F' := by
  unfold repServer at q ⊢
  rw [h5, h1, h1, hF _ (by omega) (by omega), hF _ (by omega) (by omega), hF _ (by omega) (by omega)]
  exact q
theorem cellsRep_cg2 {b' : Nat} (h : ∀ k, k < 9 → s'.1 15 n k = s.1 15 m k) (hF : ∀ i, i < 12 → F' (b' + i) = F (b + i)) (q : cellsRep s m F b) : cellsRep s' n F' b' := by
  intro j hj
  have e0 := hF (4 * j) (by omega)
  have e1 := hF (4 * j + 1) (by omega)
  have e2 := hF (4 * j + 2) (by omega)
  have e3 := hF (4 * j + 3) (by omega)
  rw [h _ (by omega), h _ (by omega), h _ (by omega)]
  simp only [← Nat.add_assoc] at e0 e1 e2 e3
  rw [e0, e1, e2, e3]
  exact q j hj
theorem repSite_cg (h6 : ∀ j, s'.1 6 (8 * w + k) j = s.1 6 (8 * w + k) j) (h1 : ∀ j, s'.1 1 (80 + (8 * w + k)) j = s.1 1 (80 + (8 * w + k)) j) (h15 : ∀ j, j < 9 → s'.1 15 (8 * w + k) j = s.1 15 (8 * w + k) j) (hF : ∀ i, 29 + 17 * k ≤ i → i < 29 + 17 * k + 17 → F' i = F i) (q : repSite s w k F) : repSite s' w k F' := by
  unfold repSite at q ⊢
  rw [h6, h6, h6, h1, h1, hF _ (by omega) (by omega), hF _ (by omega) (by omega), hF _ (by omega) (by omega), hF _ (by omega) (by omega), hF _ (by omega) (by omega)]
  exact ⟨q.1, q.2.1, q.2.2.1, q.2.2.2.1, q.2.2.2.2.1, cellsRep_cg2 h15 (fun i hi => hF _ (by omega) (by omega)) q.2.2.2.2.2⟩
theorem repMap_F {y p' : Nat} (hT : nn (F (mA r p)) < cT F) (hm : ∀ j, j < 16 → F' (mA r p' + j) = F (mA r p + j)) (hb : ∀ t, t < cT F → F' (29 + 17 * t) = F (29 + 17 * t) ∧ F' (29 + 17 * t + 1) = F (29 + 17 * t + 1)) (q : repMap s y F r p) : repMap s y F' r p' := by
  have e0 : F' (mA r p') = F (mA r p) := hm 0 (by omega)
  unfold repMap at q ⊢
  rw [e0, hm 1 (by omega), hm 2 (by omega), hm 3 (by omega), (hb _ hT).1, (hb _ hT).2]
  exact ⟨q.1, q.2.1, q.2.2.1, q.2.2.2.1, q.2.2.2.2.1, q.2.2.2.2.2.1, cellsRep_cg2 (fun _ _ => rfl) (fun i hi => by
    have := hm (4 + i) (by omega)
    simp only [← Nat.add_assoc] at this
    exact this) q.2.2.2.2.2.2⟩
theorem ownR_1 {y : Nat} : ownR 1 (160 + y) = y / 5 := by
  show (if 160 + y < 160 then 999 else (160 + y - 160) / 5) = _
  rw [if_neg (by omega), show 160 + y - 160 = y by omega]
theorem ownR_15 {y : Nat} : ownR 15 (80 + y) = y / 5 := by
  show (if 80 + y < 80 then 999 else (80 + y - 80) / 5) = _
  rw [if_neg (by omega), show 80 + y - 80 = y by omega]
theorem repMap_s {y : Nat} (h : ∀ c j k, ownR c j = i → s'.1 c j k = s.1 c j k) (hy : y / 5 = i) (q : repMap s y F r p) : repMap s' y F r p := by
  have e2 : ∀ k, s'.1 2 y k = s.1 2 y k := fun k => h 2 y k hy
  have e1 : ∀ k, s'.1 1 (160 + y) k = s.1 1 (160 + y) k := fun k => h 1 (160 + y) k (ownR_1.trans hy)
  have e15 : ∀ k, s'.1 15 (80 + y) k = s.1 15 (80 + y) k := fun k => h 15 (80 + y) k (ownR_15.trans hy)
  unfold repMap at q ⊢
  rw [e2, e2, e2, e2, e1, e1]
  exact ⟨q.1, q.2.1, q.2.2.1, q.2.2.2.1, q.2.2.2.2.1, q.2.2.2.2.2.1, cellsRep_cg e15 q.2.2.2.2.2.2⟩
theorem perm_5 (hp : permOk s) (hi : i < 40) (hj : j < 5) : s.2 i j / 5 = i := by
  have := (hp i hi).1 j hj
  omega
theorem repRouter_s (hw : WFrouter F r) (hp : permOk s) (hi : i < 40) (h : sameR s s' i) (q : repRouter s i F r) : repRouter s' i F r := by
  obtain ⟨h1, h2⟩ := h
  have w5 := hw.2.1
  unfold repRouter at q ⊢
  rw [h1 4 i 1 rfl, h1 4 i 2 rfl, h1 4 i 3 rfl, h1 4 i 4 rfl, h1 4 i 5 rfl, h1 4 i 6 rfl]
  refine ⟨q.1, q.2.1, q.2.2.1, q.2.2.2.1, q.2.2.2.2.1, q.2.2.2.2.2.1, fun p hp' => ?_⟩
  rw [h2]
  exact repMap_s h1 (perm_5 hp hi (by omega)) (q.2.2.2.2.2.2 p hp')
theorem repRouter_F (hw : WFrouter F r) (h0 : ∀ i, 165 + 6 * r ≤ i → i < 165 + 6 * r + 6 → F' i = F i) (hm : ∀ i, mA r 0 ≤ i → i < mA r 5 → F' i = F i) (hb : ∀ t, t < cT F → F' (29 + 17 * t) = F (29 + 17 * t) ∧ F' (29 + 17 * t + 1) = F (29 + 17 * t + 1)) (q : repRouter s i F r) : repRouter s i F' r := by
  have w5 := hw.2.1
  have m0 := mA_eq r 0
  have m5 := mA_eq r 5
  have ec : cM F' r = cM F r := by unfold cM; rw [h0 _ (by omega) (by omega)]
  unfold repRouter at q ⊢
  rw [h0 _ (by omega) (by omega), h0 _ (by omega) (by omega), h0 _ (by omega) (by omega), h0 _ (by omega) (by omega), h0 _ (by omega) (by omega), h0 _ (by omega) (by omega), ec]
  exact ⟨q.1, q.2.1, q.2.2.1, q.2.2.2.1, q.2.2.2.2.1, q.2.2.2.2.2.1, fun p hp => repMap_F (hw.2.2.1 p hp).2.1 (fun j hj => hm _ (by have := mA_eq r p; omega) (by have := mA_eq r p; omega)) hb (q.2.2.2.2.2.2 p hp)⟩
theorem sameR_put (h : ownR c j ≠ i) : sameR s (putV s c j k x) i := ⟨fun c' j' k' e => putV_ne (by
  by_cases e1 : c' = c
  · by_cases e2 : j' = j
    · subst e1; subst e2; exact absurd e h
    · exact Or.inr (Or.inl e2)
  · exact Or.inl e1), fun _ => rfl⟩
theorem sameR.trans (h1 : sameR s s' i) (h2 : sameR s' t i) : sameR s t i := ⟨fun c j k e => (h2.1 c j k e).trans (h1.1 c j k e), fun j => (h2.2 j).trans (h1.2 j)⟩
theorem sameR.refl : sameR s s i := ⟨fun _ _ _ _ => rfl, fun _ => rfl⟩
theorem sameR.put (h : sameR s s' i) (ho : ownR c j ≠ i) : sameR s (putV s' c j k x) i := h.trans (sameR_put ho)
/-- another row of numbers that agrees below 509 -/
theorem RepW_F (hw : WF F B) (h : ∀ i, i < 509 → F' i = F i) (q : RepW s w F) : RepW s w F' := by
  have s2 := hw.s2
  have t2 := hw.t2
  have r2 := hw.r2
  have e1 : cS F' = cS F := by unfold cS; rw [h 1 (by omega)]
  have e2 : cT F' = cT F := by unfold cT; rw [h 2 (by omega)]
  have e3 : cR F' = cR F := by unfold cR; rw [h 3 (by omega)]
  refine ⟨?_, fun k hk => ?_, fun k hk => ?_, fun r hk => ?_⟩
  · rw [h 1 (by omega), h 2 (by omega), h 3 (by omega), h 0 (by omega), h 4 (by omega)]
    exact q.1
  · exact repServer_cg (fun _ => rfl) (fun _ => rfl) (fun i a b => h i (by omega)) (q.server (by omega))
  · exact repSite_cg (fun _ => rfl) (fun _ => rfl) (fun _ _ => rfl) (fun i a b => h i (by omega)) (q.site (by omega))
  · have m0 := mA_eq r 0
    have m5 := mA_eq r 5
    exact repRouter_F (hw.router (by omega)) (fun i a b => h i (by omega)) (fun i a b => h i (by omega)) (fun t ht => ⟨h _ (by omega), h _ (by omega)⟩) (q.router (by omega))
theorem bc_ok : ∀ n, n < 257 → 1 ≤ n → (bcE (nI n) = nI 1 ↔ powB (nI n)) := by decide +kernel
set_option maxHeartbeats 4000000 in
set_option maxRecDepth 100000 in
theorem c_bitCount (h : Q (some (.inl (bcE v))) s) : wpM L xs codT retT (f + 1) m_J6_bitCount_0f7a4 [.inl v] s Q := by
  intro call hcall X hX; refine hX 1000 0 _ _ _ ?_
  repeat' (first | (intro hc) | (refine And.intro ?_ ?_) | (exact absurd nI_0 ‹cmpF 0 (nI 0) 0›) | (exact absurd ‹cmpT 0 (nI 1) 0› nI1_ne) | (exact absurd nI_0 ‹cmpT 1 (nI 0) 0›) | (exact absurd ‹cmpF 1 (nI 1) 0› nI1_ne) | (show wp _ _ _ _ _ _ _ _ _ _ _ _; conv => whnf))
  exact h
set_option maxHeartbeats 4000000 in
set_option maxRecDepth 100000 in
theorem c_isBlock (h : Q (some (.inl (bI (blkB a z)))) s) : wpM L xs codT retT (f + 2) m_X9_isBlock [.inl a, .inl z] s Q := by
  have pw : powB z → 1 ≤ z.toInt ∧ z.toInt ≤ 256 := by
    rintro (q | q | q | q | q | q | q | q | q) <;> rw [q, nI_toI (by decide)] <;> omega
  by_cases hz : 1 ≤ z.toInt ∧ z.toInt ≤ 256
  · obtain ⟨n, rfl, e2, e3⟩ := nI_ex (show 0 ≤ z.toInt by omega)
    have hb := bc_ok n (by omega) (by omega)
    have hn0 : ¬ nI n = 0 := fun q => by rw [q] at hz; exact absurd hz.1 (by decide)
    by_cases hp : powB (nI n)
    · have hb1 := hb.mpr hp
      by_cases ha : iN a 256
      · by_cases hr : a - a / nI n * nI n = 0
        · have e : bI (blkB a (nI n)) = nI 1 := if_pos ⟨hp, by omega, hr⟩
          rw [e] at h
          intro call hcall X hX; refine hX 1000 0 _ _ _ ?_
          repeat' (first | (intro hc) | (refine And.intro ?_ ?_) | (exact absurd nI_0 ‹cmpF 0 (nI 0) 0›) | (exact absurd ‹cmpT 0 (nI 1) 0› nI1_ne) | (exact absurd nI_0 ‹cmpT 1 (nI 0) 0›) | (exact absurd ‹cmpF 1 (nI 1) 0› nI1_ne) | (show wp _ _ _ _ _ _ _ _ _ _ _ _; conv => whnf) | (simp (disch := omega) only [nI_add, nI_mul, setN_now, setN_put, nI_cl, Nat.add_zero]) | (refine hcall _ _ _ _ ?_; first | (refine c_bitCount ?_) | (refine c_sName ?_) | fail))
          all_goals first
            | exact Or.inl rfl
            | exact Or.inr rfl
            | exact h
            | exact hn0
            | (exfalso; exact hn0 (by assumption))
            | (exfalso; exact bF ha (by assumption))
            | (exfalso; exact (by assumption : cmpF 0 (bcE (nI n)) (nI 1)) hb1)
            | (exfalso; exact (by assumption : cmpT 1 (a - a / nI n * nI n) 0) hr)
            | (exfalso; clear h hp hb hr e ha; (try clear hX hcall); (try clear h); (try simp (disch := omega) only [cmpT, cmpF, bI_eq0, bI_ne0, Classical.not_not, nI_toI, nI_cl, nI_inj, nI_add, nI_mul, nI_subI, takeL, setL, Int32.toInt_zero, Nat.add_zero, Nat.zero_mul, Nat.zero_add, alen11, alen12, alen13, alen14, alen15, alen16, alen17, alen18, alen19] at *); omega)
        · have e : bI (blkB a (nI n)) = nI 0 := if_neg (fun q => hr q.2.2)
          rw [e] at h
          intro call hcall X hX; refine hX 1000 0 _ _ _ ?_
          repeat' (first | (intro hc) | (refine And.intro ?_ ?_) | (exact absurd nI_0 ‹cmpF 0 (nI 0) 0›) | (exact absurd ‹cmpT 0 (nI 1) 0› nI1_ne) | (exact absurd nI_0 ‹cmpT 1 (nI 0) 0›) | (exact absurd ‹cmpF 1 (nI 1) 0› nI1_ne) | (show wp _ _ _ _ _ _ _ _ _ _ _ _; conv => whnf) | (simp (disch := omega) only [nI_add, nI_mul, setN_now, setN_put, nI_cl, Nat.add_zero]) | (refine hcall _ _ _ _ ?_; first | (refine c_bitCount ?_) | (refine c_sName ?_) | fail))
          all_goals first
            | exact Or.inl rfl
            | exact Or.inr rfl
            | exact h
            | exact hn0
            | (exfalso; exact hn0 (by assumption))
            | (exfalso; exact bF ha (by assumption))
            | (exfalso; exact (by assumption : cmpF 0 (bcE (nI n)) (nI 1)) hb1)
            | (exfalso; exact hr (by assumption : cmpF 1 (a - a / nI n * nI n) 0))
            | (exfalso; clear h hp hb hr e ha; (try clear hX hcall); (try clear h); (try simp (disch := omega) only [cmpT, cmpF, bI_eq0, bI_ne0, Classical.not_not, nI_toI, nI_cl, nI_inj, nI_add, nI_mul, nI_subI, takeL, setL, Int32.toInt_zero, Nat.add_zero, Nat.zero_mul, Nat.zero_add, alen11, alen12, alen13, alen14, alen15, alen16, alen17, alen18, alen19] at *); omega)
      · have e : bI (blkB a (nI n)) = nI 0 := if_neg (fun q => ha (by have := q.2.1; omega))
        rw [e] at h
        intro call hcall X hX; refine hX 1000 0 _ _ _ ?_
        repeat' (first | (intro hc) | (refine And.intro ?_ ?_) | (exact absurd nI_0 ‹cmpF 0 (nI 0) 0›) | (exact absurd ‹cmpT 0 (nI 1) 0› nI1_ne) | (exact absurd nI_0 ‹cmpT 1 (nI 0) 0›) | (exact absurd ‹cmpF 1 (nI 1) 0› nI1_ne) | (show wp _ _ _ _ _ _ _ _ _ _ _ _; conv => whnf) | (simp (disch := omega) only [nI_add, nI_mul, setN_now, setN_put, nI_cl, Nat.add_zero]) | (refine hcall _ _ _ _ ?_; first | (refine c_bitCount ?_) | (refine c_sName ?_) | fail))
        all_goals first
          | exact Or.inl rfl
          | exact Or.inr rfl
          | exact h
          | exact hn0
          | (exfalso; exact bT ha (by assumption))
          | (exfalso; exact (by assumption : cmpF 0 (bcE (nI n)) (nI 1)) hb1)
          | (exfalso; clear h hp hb e ha; (try clear hX hcall); (try clear h); (try simp (disch := omega) only [cmpT, cmpF, bI_eq0, bI_ne0, Classical.not_not, nI_toI, nI_cl, nI_inj, nI_add, nI_mul, nI_subI, takeL, setL, Int32.toInt_zero, Nat.add_zero, Nat.zero_mul, Nat.zero_add, alen11, alen12, alen13, alen14, alen15, alen16, alen17, alen18, alen19] at *); omega)
    · have hb1 : ¬ bcE (nI n) = nI 1 := fun q => hp (hb.mp q)
      have e : bI (blkB a (nI n)) = nI 0 := if_neg (fun q => hp q.1)
      rw [e] at h
      intro call hcall X hX; refine hX 1000 0 _ _ _ ?_
      repeat' (first | (intro hc) | (refine And.intro ?_ ?_) | (exact absurd nI_0 ‹cmpF 0 (nI 0) 0›) | (exact absurd ‹cmpT 0 (nI 1) 0› nI1_ne) | (exact absurd nI_0 ‹cmpT 1 (nI 0) 0›) | (exact absurd ‹cmpF 1 (nI 1) 0› nI1_ne) | (show wp _ _ _ _ _ _ _ _ _ _ _ _; conv => whnf) | (simp (disch := omega) only [nI_add, nI_mul, setN_now, setN_put, nI_cl, Nat.add_zero]) | (refine hcall _ _ _ _ ?_; first | (refine c_bitCount ?_) | (refine c_sName ?_) | fail))
      all_goals first
        | exact Or.inl rfl
        | exact Or.inr rfl
        | exact h
        | exact hn0
        | (exfalso; exact hb1 (by assumption : cmpT 0 (bcE (nI n)) (nI 1)))
        | (exfalso; clear h hp hb e; (try clear hX hcall); (try clear h); (try simp (disch := omega) only [cmpT, cmpF, bI_eq0, bI_ne0, Classical.not_not, nI_toI, nI_cl, nI_inj, nI_add, nI_mul, nI_subI, takeL, setL, Int32.toInt_zero, Nat.add_zero, Nat.zero_mul, Nat.zero_add, alen11, alen12, alen13, alen14, alen15, alen16, alen17, alen18, alen19] at *); omega)
  · have e : bI (blkB a z) = nI 0 := if_neg (fun q => hz (pw q.1))
    rw [e] at h
    clear pw
    intro call hcall X hX; refine hX 1000 0 _ _ _ ?_
    repeat' (first | (intro hc) | (refine And.intro ?_ ?_) | (exact absurd nI_0 ‹cmpF 0 (nI 0) 0›) | (exact absurd ‹cmpT 0 (nI 1) 0› nI1_ne) | (exact absurd nI_0 ‹cmpT 1 (nI 0) 0›) | (exact absurd ‹cmpF 1 (nI 1) 0› nI1_ne) | (show wp _ _ _ _ _ _ _ _ _ _ _ _; conv => whnf) | (simp (disch := omega) only [nI_add, nI_mul, setN_now, setN_put, nI_cl, Nat.add_zero]) | (refine hcall _ _ _ _ ?_; first | (refine c_bitCount ?_) | (refine c_sName ?_) | fail))
    all_goals first
      | exact Or.inl rfl
      | exact Or.inr rfl
      | exact h
      | (exfalso; clear h e; (try clear hX hcall); (try clear h); (try simp (disch := omega) only [cmpT, cmpF, bI_eq0, bI_ne0, Classical.not_not, nI_toI, nI_cl, nI_inj, nI_add, nI_mul, nI_subI, takeL, setL, Int32.toInt_zero, Nat.add_zero, Nat.zero_mul, Nat.zero_add, alen11, alen12, alen13, alen14, alen15, alen16, alen17, alen18, alen19] at *); omega)
      | (intro q; apply hz; rw [q]; clear h e; (try clear hX hcall); (try clear h); (try simp (disch := omega) only [cmpT, cmpF, bI_eq0, bI_ne0, Classical.not_not, nI_toI, nI_cl, nI_inj, nI_add, nI_mul, nI_subI, takeL, setL, Int32.toInt_zero, Nat.add_zero, Nat.zero_mul, Nat.zero_add, alen11, alen12, alen13, alen14, alen15, alen16, alen17, alen18, alen19] at *); omega)
      | fail
end CLS8
end
section
/-! WHAT EACH CALL LEAVES WELL -/
section WFS
variable {i k r p q c j n B B' b w m : Nat} {x y v a z l lo left name flow place : Int32} {F G : Fm}
/-- well, and the hour is one of the document's -/
def WFh (F : Fm) (B : Nat) : Prop := WF F B ∧ (F 0).toInt ≤ 9999
theorem WFsite_mono (hB : B ≤ B') (h : WFsite F B k) : WFsite F B' k := ⟨h.1, h.2.1, ⟨h.2.2.1.1, by have := h.2.2.1.2; omega⟩, h.2.2.2⟩
theorem WF_mono (hB : B ≤ B') (h : WF F B) : WF F B' := ⟨h.1, h.2.1, h.2.2.1, h.2.2.2.1, h.2.2.2.2.1, h.2.2.2.2.2.1, fun k hk => WFsite_mono hB (h.site hk), h.2.2.2.2.2.2.2⟩
theorem WFh_mono (hB : B ≤ B') (h : WFh F B) : WFh F B' := ⟨WF_mono hB h.1, h.2⟩
theorem WFsite_cg (h : ∀ i, 29 + 17 * k ≤ i → i < 29 + 17 * k + 17 → G i = F i) (q : WFsite F B k) : WFsite G B k := by
  unfold WFsite at q ⊢
  rw [h (29 + 17 * k) (by omega) (by omega), h (29 + 17 * k + 1) (by omega) (by omega), h (29 + 17 * k + 2) (by omega) (by omega), h (29 + 17 * k + 3) (by omega) (by omega), h (29 + 17 * k + 4) (by omega) (by omega)]
  exact ⟨q.1, q.2.1, q.2.2.1, q.2.2.2.1, fun j hj => slotOk_cg (fun i h1 h2 => h i (by omega) (by omega)) (q.2.2.2.2 j hj)⟩
theorem WFserver_cg (h : ∀ i, 5 + 3 * k ≤ i → i < 5 + 3 * k + 3 → G i = F i) (q : WFserver F k) : WFserver G k := by
  unfold WFserver at q ⊢
  rw [h (5 + 3 * k) (by omega) (by omega), h (5 + 3 * k + 1) (by omega) (by omega), h (5 + 3 * k + 2) (by omega) (by omega)]
  exact q
theorem WFr_cg2 (hT : cT F ≤ cT G) (h0 : G (165 + 6 * r) = F (165 + 6 * r)) (h : ∀ i, mA r 0 ≤ i → i < mA r 5 → G i = F i) (q : WFrouter F r) : WFrouter G r := by
  obtain ⟨q1, q2, q3, q4⟩ := q
  have hm : ∀ p, mA r p = mA r 0 + 16 * p := fun p => by unfold mA; omega
  have e : cM G r = cM F r := by unfold cM; rw [h0]
  have h5 := hm 5
  refine ⟨by rw [e, h0]; exact q1, by rw [e]; exact q2, fun p hp => ?_, fun p1 p2 a b => ?_⟩
  · rw [e] at hp
    obtain ⟨t1, t2, t3, t4⟩ := q3 p hp
    have g1 := hm p
    have e0 := h (mA r p) (by omega) (by omega)
    have e3 := h (mA r p + 3) (by omega) (by omega)
    exact ⟨by rw [e0]; exact t1, by rw [e0]; omega, by rw [e3]; exact t3, fun j hj => slotOk_cg (fun i h1 h2 => h i (by omega) (by omega)) (t4 j hj)⟩
  · have g1 := hm p1
    have g2 := hm p2
    rw [h (mA r p1) (by omega) (by omega), h (mA r p2) (by omega) (by omega)]
    exact q4 p1 p2 (by omega) (by omega)
set_option maxHeartbeats 4000000 in
set_option maxRecDepth 100000 in
theorem WF_site1 (hw : WF F B) (hk : k < cT F) (hB : B ≤ B') (h : ∀ i, i < 29 + 17 * k + 2 ∨ 29 + 17 * k + 17 ≤ i → G i = F i) (hs : WFsite G B' k) : WF G B' := by
  have t2 := hw.t2
  have s2 := hw.s2
  have r2 := hw.r2
  have e1 : cS G = cS F := by unfold cS; rw [h 1 (by omega)]
  have e2 : cT G = cT F := by unfold cT; rw [h 2 (by omega)]
  have e3 : cR G = cR F := by unfold cR; rw [h 3 (by omega)]
  refine ⟨?_, ?_, ?_, ?_, ?_, fun k' hk' => ?_, fun k' hk' => ?_, fun r hk' => ?_⟩
  · rw [h 1 (by omega), e1]; exact hw.1
  · rw [h 2 (by omega), e2]; exact hw.2.1
  · rw [h 3 (by omega), e3]; exact hw.2.2.1
  · rw [h 0 (by omega)]; exact hw.h
  · rw [h 4 (by omega)]; exact hw.l
  · exact WFserver_cg (fun i a b => h i (by omega)) (hw.server (by omega))
  · by_cases e : k' = k
    · subst e; exact hs
    · exact WFsite_mono hB (WFsite_cg (fun i a b => h i (by omega)) (hw.site (by omega)))
  · have m0 := mA_eq r 0
    exact WFr_cg2 (by omega) (h _ (by omega)) (fun i a b => h i (by omega)) (hw.router (by omega))
set_option maxHeartbeats 4000000 in
set_option maxRecDepth 100000 in
theorem reg_ok (hw : WFh F B) : WFh (regF F v).2 B := by
  obtain ⟨hw, h9⟩ := hw
  have t2 := hw.t2
  have hh := hw.h
  unfold regF
  by_cases hv : iN v (cT F)
  · rw [if_neg (fun q => q hv)]
    obtain ⟨k, rfl, hk⟩ := iN_nn hv (by omega)
    rw [show nn (nI k) = k from nI_cl (by omega)]
    have ws := hw.site hk
    have wl := ws.2.1
    have ea := add_hour (a := F 0) (x := F (29 + 17 * k + 2)) (by omega) (by omega)
    refine ⟨WF_site1 hw hk (Nat.le_refl _) (fun i hi => putF_ne _ _ (by omega)) ?_, by show (putF F _ _ 0).toInt ≤ 9999; rw [putF_ne _ _ (by omega)]; exact h9⟩
    unfold WFsite
    dsimp only
    simp (disch := omega) only [putF_ne, putF_at]
    exact ⟨ws.1, ws.2.1, ws.2.2.1, by omega, fun j hj => slotOk_cg (fun i a b => putF_ne _ _ (by omega)) (ws.2.2.2.2 j hj)⟩
  · rw [if_pos hv]; exact ⟨hw, h9⟩
set_option maxHeartbeats 4000000 in
set_option maxRecDepth 100000 in
theorem unreg_ok (hw : WFh F B) : WFh (unregF F v).2 B := by
  obtain ⟨hw, h9⟩ := hw
  have t2 := hw.t2
  have hh := hw.h
  unfold unregF
  by_cases hv : iN v (cT F)
  · rw [if_neg (fun q => q hv)]
    obtain ⟨k, rfl, hk⟩ := iN_nn hv (by omega)
    rw [show nn (nI k) = k from nI_cl (by omega)]
    by_cases hu : (F 0).toInt < (F (29 + 17 * k + 4)).toInt
    · rw [if_neg (fun q => q hu)]
      have ws := hw.site hk
      refine ⟨WF_site1 hw hk (Nat.le_refl _) (fun i hi => putF_ne _ _ (by omega)) ?_, by show (putF F _ _ 0).toInt ≤ 9999; rw [putF_ne _ _ (by omega)]; exact h9⟩
      unfold WFsite
      dsimp only
      simp (disch := omega) only [putF_ne, putF_at]
      exact ⟨ws.1, ws.2.1, ws.2.2.1, by omega, fun j hj => slotOk_cg (fun i a b => putF_ne _ _ (by omega)) (ws.2.2.2.2 j hj)⟩
    · rw [if_pos hu]; exact ⟨hw, h9⟩
  · rw [if_pos hv]; exact ⟨hw, h9⟩
set_option maxHeartbeats 4000000 in
set_option maxRecDepth 100000 in
theorem life_ok (hw : WFh F B) : WFh (lifeF F v).2 B := by
  obtain ⟨hw, h9⟩ := hw
  unfold lifeF
  by_cases hv : 1 ≤ v.toInt ∧ v.toInt ≤ 100
  · rw [if_neg (fun q => q hv)]
    show WFh (putF F 4 v) B
    have lo : ∀ i, i ≠ 4 → putF F 4 v i = F i := fun i hi => putF_ne _ _ hi
    have s2 := hw.s2
    have t2 := hw.t2
    have r2 := hw.r2
    have e1 : cS (putF F 4 v) = cS F := by unfold cS; rw [lo 1 (by omega)]
    have e2 : cT (putF F 4 v) = cT F := by unfold cT; rw [lo 2 (by omega)]
    have e3 : cR (putF F 4 v) = cR F := by unfold cR; rw [lo 3 (by omega)]
    refine ⟨⟨?_, ?_, ?_, ?_, ?_, fun k' hk' => ?_, fun k' hk' => ?_, fun r hk' => ?_⟩, by show (putF F 4 v 0).toInt ≤ 9999; rw [lo 0 (by omega)]; exact h9⟩
    · rw [lo 1 (by omega), e1]; exact hw.1
    · rw [lo 2 (by omega), e2]; exact hw.2.1
    · rw [lo 3 (by omega), e3]; exact hw.2.2.1
    · rw [lo 0 (by omega)]; exact hw.h
    · rw [putF_at]; exact hv
    · exact WFserver_cg (fun i a b => lo i (by omega)) (hw.server (by omega))
    · exact WFsite_cg (fun i a b => lo i (by omega)) (hw.site (by omega))
    · have m0 := mA_eq r 0
      exact WFr_cg2 (by omega) (lo _ (by omega)) (fun i a b => lo i (by omega)) (hw.router (by omega))
  · rw [if_pos hv]; exact ⟨hw, h9⟩
set_option maxHeartbeats 4000000 in
set_option maxRecDepth 100000 in
theorem pass_ok (hw : WFh F B) : WFh (passF F v).2 B := by
  obtain ⟨hw, h9⟩ := hw
  have hh := hw.h
  unfold passF
  by_cases hv : 1 ≤ v.toInt ∧ v.toInt ≤ 99
  · rw [if_neg (fun q => q hv)]
    have ea := add_hour (a := F 0) (x := v) (by omega) (by omega)
    by_cases hu : 9999 < (F 0 + v).toInt
    · rw [if_pos hu]; exact ⟨hw, h9⟩
    · rw [if_neg hu]
      exact ⟨WF_hour hw (by omega), by show (putF F 0 (F 0 + v) 0).toInt ≤ 9999; rw [putF_at]; omega⟩
  · rw [if_pos hv]; exact ⟨hw, h9⟩
set_option maxHeartbeats 4000000 in
set_option maxRecDepth 100000 in
theorem forget_ok (hw : WFh F B) : WFh (forgetF F v).2 B := by
  obtain ⟨hw, h9⟩ := hw
  have r2 := hw.r2
  unfold forgetF
  by_cases hv : iN v (cR F)
  · rw [if_neg (fun q => q hv)]
    obtain ⟨k, rfl, hk⟩ := iN_nn hv (by omega)
    rw [show nn (nI k) = k from nI_cl (by omega)]
    show WFh (putF F (165 + 6 * k) (nI 0)) B
    refine ⟨WF_upd hw (fun i hi => putF_ne _ _ (by omega)) (fun r hr => ?_), by show (putF F _ _ 0).toInt ≤ 9999; rw [putF_ne _ _ (by omega)]; exact h9⟩
    by_cases e : r = k
    · subst e
      have e0 : cM (putF F (165 + 6 * r) (nI 0)) r = 0 := by unfold cM; rw [putF_at]; decide
      refine ⟨by rw [e0, putF_at], by omega, fun p hp => absurd hp (by omega), fun p1 p2 h1 => absurd h1 (by omega)⟩
    · have m0 := mA_eq r 0
      have eT : cT (putF F (165 + 6 * k) (nI 0)) = cT F := by unfold cT; rw [putF_ne _ _ (by omega)]
      exact WFr_cg2 (by omega) (putF_ne _ _ (by omega)) (fun i a b => putF_ne _ _ (by omega)) (hw.router hr)
  · rw [if_pos hv]; exact ⟨hw, h9⟩
set_option maxHeartbeats 4000000 in
set_option maxRecDepth 100000 in
theorem letter_ok (hw : WFh F B) : WFh (letterF F v name flow).2 B := by
  obtain ⟨hw, h9⟩ := hw
  have r2 := hw.r2
  unfold letterF
  by_cases hv : iN v (cR F)
  · rw [if_neg (fun q => q hv)]
    obtain ⟨k, rfl, hk⟩ := iN_nn hv (by omega)
    rw [show nn (nI k) = k from nI_cl (by omega)]
    by_cases hb : iN name 256 ∧ iN flow 100
    · rw [if_neg (fun q => q hb)]
      obtain ⟨a1, a2, a3⟩ := send_ok (flow := flow) hw hk hb.1 hb.2.1
      exact ⟨a1, by rw [a2 0 (by omega)]; exact h9⟩
    · rw [if_pos hb]; exact ⟨hw, h9⟩
  · rw [if_pos hv]; exact ⟨hw, h9⟩
end WFS
end
section
/-! THE CLASS: what the world's calls change: settings, hours, registrations, slots -/
section CLS9
variable {L : Nat} {xs : Nat → Int32} {f i k r p q c j n B b w w' m sd : Nat} {x y v a z l lo v0 v1 name flow place which : Int32} {s s' t : St} {F G F' u : Fm} {Q : Option MV → St → Prop} {P : Nat → Bool}
theorem own_8 : ownW 8 w = w := rfl
/-- only the head of a world changes, and its counts stay -/
theorem RepW_head (hw : WF F B) (hp : permOk s) (h10 : w < 10) (hR : RepW s w F) (hs : ∀ c j k, c ≠ 8 → s'.1 c j k = s.1 c j k) (hs2 : s'.2 = s.2) (hF : ∀ i, 4 < i → F' i = F i) (hc : cS F' = cS F ∧ cT F' = cT F ∧ cR F' = cR F) (h0 : s'.1 8 w 3 = F' 1 ∧ s'.1 8 w 4 = F' 2 ∧ s'.1 8 w 5 = F' 3 ∧ s'.1 8 w 6 = F' 0 ∧ s'.1 8 w 7 = F' 4) : RepW s' w F' := by
  have s2 := hw.s2
  have t2 := hw.t2
  have r2 := hw.r2
  refine ⟨h0, fun k hk => ?_, fun k hk => ?_, fun r hk => ?_⟩
  · exact repServer_cg (fun j => hs _ _ _ (by decide)) (fun j => hs _ _ _ (by decide)) (fun i a b => hF i (by omega)) (hR.server (by omega))
  · exact repSite_cg (fun j => hs _ _ _ (by decide)) (fun j => hs _ _ _ (by decide)) (fun j _ => hs _ _ _ (by decide)) (fun i a b => hF i (by omega)) (hR.site (by omega))
  · have m0 := mA_eq r 0
    have wr := hw.router (r := r) (by omega)
    have g := repRouter_s (s' := s') wr hp (by omega) ⟨fun c j k e => hs c j k (fun q => by subst q; have e : 999 = 4 * w + r := e; omega), fun j => by rw [hs2]⟩ (hR.router (by omega))
    exact repRouter_F wr (fun i a b => hF i (by omega)) (fun i a b => hF i (by omega)) (fun t ht => ⟨hF _ (by omega), hF _ (by omega)⟩) g
set_option maxHeartbeats 4000000 in
set_option maxRecDepth 100000 in
theorem c_mapLife (hw : WF F B) (hp : permOk s) (h10 : w < 10) (hR : RepW s w F) (h : ∀ s', Upd s s' w → RepW s' w (lifeF F v).2 → Q (some (.inl (lifeF F v).1)) s') : wpM L xs codT retT (f + 1) m_X8_changeMapLife [.inr (8, w), .inl v] s Q := by
  by_cases hl : 1 ≤ v.toInt ∧ v.toInt ≤ 100
  · have e : lifeF F v = (F 4, putF F 4 v) := by unfold lifeF; rw [if_neg (fun q => q hl)]
    rw [e] at h
    dsimp only at h
    have h := h (putV s 8 w 7 v) (Upd_put rfl) (RepW_head hw hp h10 hR (fun c j k q => putV_ne (Or.inl q)) rfl (fun i hi => putF_ne _ _ (by omega)) ⟨by unfold cS; rw [putF_ne _ _ (by omega)], by unfold cT; rw [putF_ne _ _ (by omega)], by unfold cR; rw [putF_ne _ _ (by omega)]⟩ ⟨by rw [putV_ne (by omega), putF_ne _ _ (by omega)]; exact hR.s1, by rw [putV_ne (by omega), putF_ne _ _ (by omega)]; exact hR.t1, by rw [putV_ne (by omega), putF_ne _ _ (by omega)]; exact hR.r1, by rw [putV_ne (by omega), putF_ne _ _ (by omega)]; exact hR.h1, by rw [putV_at, putF_at]⟩)
    rw [← hR.l1] at h
    intro call hcall X hX; refine hX 1000 0 _ _ _ ?_
    repeat' (first | (intro hc) | (refine And.intro ?_ ?_) | (exact absurd nI_0 ‹cmpF 0 (nI 0) 0›) | (exact absurd ‹cmpT 0 (nI 1) 0› nI1_ne) | (exact absurd nI_0 ‹cmpT 1 (nI 0) 0›) | (exact absurd ‹cmpF 1 (nI 1) 0› nI1_ne) | (show wp _ _ _ _ _ _ _ _ _ _ _ _; conv => whnf))
    all_goals first
      | exact h
      | ((try clear hX hcall); (try clear h); (try simp (disch := omega) only [cmpT, cmpF, bI_eq0, bI_ne0, Classical.not_not, nI_toI, nI_cl, nI_inj, nI_add, nI_mul, nI_subI, takeL, setL, Int32.toInt_zero, Nat.add_zero, Nat.zero_mul, Nat.zero_add, alen11, alen12, alen13, alen14, alen15, alen16, alen17, alen18, alen19] at *); omega)
  · have e : lifeF F v = (-2, F) := by unfold lifeF; rw [if_pos hl]
    rw [e] at h
    dsimp only at h
    have h := h s Upd.refl hR
    intro call hcall X hX; refine hX 1000 0 _ _ _ ?_
    repeat' (first | (intro hc) | (refine And.intro ?_ ?_) | (exact absurd nI_0 ‹cmpF 0 (nI 0) 0›) | (exact absurd ‹cmpT 0 (nI 1) 0› nI1_ne) | (exact absurd nI_0 ‹cmpT 1 (nI 0) 0›) | (exact absurd ‹cmpF 1 (nI 1) 0› nI1_ne) | (show wp _ _ _ _ _ _ _ _ _ _ _ _; conv => whnf))
    all_goals first
      | exact h
      | ((try clear hX hcall); (try clear h); (try simp (disch := omega) only [cmpT, cmpF, bI_eq0, bI_ne0, Classical.not_not, nI_toI, nI_cl, nI_inj, nI_add, nI_mul, nI_subI, takeL, setL, Int32.toInt_zero, Nat.add_zero, Nat.zero_mul, Nat.zero_add, alen11, alen12, alen13, alen14, alen15, alen16, alen17, alen18, alen19] at *); omega)
theorem hour_ok (hw : WF F B) (hp : permOk s) (h10 : w < 10) (hR : RepW s w F) : RepW (putV s 8 w 6 x) w (putF F 0 x) := RepW_head hw hp h10 hR (fun c j k q => putV_ne (Or.inl q)) rfl (fun i hi => putF_ne _ _ (by omega)) ⟨by unfold cS; rw [putF_ne _ _ (by omega)], by unfold cT; rw [putF_ne _ _ (by omega)], by unfold cR; rw [putF_ne _ _ (by omega)]⟩ ⟨by rw [putV_ne (by omega), putF_ne _ _ (by omega)]; exact hR.s1, by rw [putV_ne (by omega), putF_ne _ _ (by omega)]; exact hR.t1, by rw [putV_ne (by omega), putF_ne _ _ (by omega)]; exact hR.r1, by rw [putV_at, putF_at], by rw [putV_ne (by omega), putF_ne _ _ (by omega)]; exact hR.l1⟩
set_option maxHeartbeats 4000000 in
set_option maxRecDepth 100000 in
theorem c_letPass (hw : WFh F B) (hp : permOk s) (h10 : w < 10) (hR : RepW s w F) (h : ∀ s', Upd s s' w → RepW s' w (passF F v).2 → Q (some (.inl (passF F v).1)) s') : wpM L xs codT retT (f + 1) m_X8_letPass [.inr (8, w), .inl v] s Q := by
  obtain ⟨hw, h9⟩ := hw
  have hh := hw.h
  have e0 := hR.h1
  by_cases hl : 1 ≤ v.toInt ∧ v.toInt ≤ 99
  · have ea := add_hour (a := F 0) (x := v) (by omega) (by omega)
    by_cases h3 : 9999 < (F 0 + v).toInt
    · have e : passF F v = (-3, F) := by unfold passF; rw [if_neg (fun q => q hl), if_pos h3]
      rw [e] at h
      dsimp only at h
      have h := h s Upd.refl hR
      intro call hcall X hX; refine hX 1000 0 _ _ _ ?_
      repeat' (first | (intro hc) | (refine And.intro ?_ ?_) | (exact absurd nI_0 ‹cmpF 0 (nI 0) 0›) | (exact absurd ‹cmpT 0 (nI 1) 0› nI1_ne) | (exact absurd nI_0 ‹cmpT 1 (nI 0) 0›) | (exact absurd ‹cmpF 1 (nI 1) 0› nI1_ne) | (show wp _ _ _ _ _ _ _ _ _ _ _ _; conv => whnf) | (rw [e0]))
      all_goals first
        | exact h
        | (clear e; (try clear hX hcall); (try clear h); (try simp (disch := omega) only [cmpT, cmpF, bI_eq0, bI_ne0, Classical.not_not, nI_toI, nI_cl, nI_inj, nI_add, nI_mul, nI_subI, takeL, setL, Int32.toInt_zero, Nat.add_zero, setN_now, alen20, alen11, alen12, alen13, alen14, alen15, alen16, alen17, alen18, alen19, (id e0)] at *); omega)
    · have e : passF F v = (F 0 + v, putF F 0 (F 0 + v)) := by unfold passF; rw [if_neg (fun q => q hl), if_neg h3]
      rw [e] at h
      dsimp only at h
      have h := h (putV s 8 w 6 (F 0 + v)) (Upd_put rfl) (hour_ok hw hp h10 hR)
      intro call hcall X hX; refine hX 1000 0 _ _ _ ?_
      repeat' (first | (intro hc) | (refine And.intro ?_ ?_) | (exact absurd nI_0 ‹cmpF 0 (nI 0) 0›) | (exact absurd ‹cmpT 0 (nI 1) 0› nI1_ne) | (exact absurd nI_0 ‹cmpT 1 (nI 0) 0›) | (exact absurd ‹cmpF 1 (nI 1) 0› nI1_ne) | (show wp _ _ _ _ _ _ _ _ _ _ _ _; conv => whnf) | (rw [e0]) | (rw [putV_at]))
      all_goals first
        | exact h
        | (rw [putV_at]; exact h)
        | (clear e; (try clear hX hcall); (try clear h); (try simp (disch := omega) only [cmpT, cmpF, bI_eq0, bI_ne0, Classical.not_not, nI_toI, nI_cl, nI_inj, nI_add, nI_mul, nI_subI, takeL, setL, Int32.toInt_zero, Nat.add_zero, setN_now, alen20, alen11, alen12, alen13, alen14, alen15, alen16, alen17, alen18, alen19, (id e0)] at *); omega)
  · have e : passF F v = (-2, F) := by unfold passF; rw [if_pos hl]
    rw [e] at h
    dsimp only at h
    have h := h s Upd.refl hR
    intro call hcall X hX; refine hX 1000 0 _ _ _ ?_
    repeat' (first | (intro hc) | (refine And.intro ?_ ?_) | (exact absurd nI_0 ‹cmpF 0 (nI 0) 0›) | (exact absurd ‹cmpT 0 (nI 1) 0› nI1_ne) | (exact absurd nI_0 ‹cmpT 1 (nI 0) 0›) | (exact absurd ‹cmpF 1 (nI 1) 0› nI1_ne) | (show wp _ _ _ _ _ _ _ _ _ _ _ _; conv => whnf))
    all_goals first
      | exact h
      | (clear e; (try clear hX hcall); (try clear h); (try simp (disch := omega) only [cmpT, cmpF, bI_eq0, bI_ne0, Classical.not_not, nI_toI, nI_cl, nI_inj, nI_add, nI_mul, nI_subI, takeL, setL, Int32.toInt_zero, Nat.add_zero, Nat.zero_mul, Nat.zero_add, alen11, alen12, alen13, alen14, alen15, alen16, alen17, alen18, alen19] at *); omega)
def ownS (c j : Nat) : Nat := match c with
  | 6 => j
  | 1 => if j < 80 then 999 else if j < 160 then j - 80 else 999
  | 15 => if j < 80 then j else 999
  | _ => 999
/-- only site k of world w changes -/
theorem RepW_site (hw : WF F B) (hp : permOk s) (h10 : w < 10) (hk : k < cT F) (hR : RepW s w F) (hs : ∀ c j m, ownS c j ≠ 8 * w + k → s'.1 c j m = s.1 c j m) (hs2 : s'.2 = s.2) (hF : ∀ i, i < 29 + 17 * k + 2 ∨ 29 + 17 * k + 17 ≤ i → F' i = F i) (hn : repSite s' w k F') : RepW s' w F' := by
  have s2 := hw.s2
  have t2 := hw.t2
  have r2 := hw.r2
  have e1 : cS F' = cS F := by unfold cS; rw [hF 1 (by omega)]
  have e2 : cT F' = cT F := by unfold cT; rw [hF 2 (by omega)]
  have e3 : cR F' = cR F := by unfold cR; rw [hF 3 (by omega)]
  have o8 : ∀ m, s'.1 8 w m = s.1 8 w m := fun m => hs 8 w m (fun q => by have q : 999 = 8 * w + k := q; omega)
  refine ⟨?_, fun k' hk' => ?_, fun k' hk' => ?_, fun r hk' => ?_⟩
  · rw [o8, o8, o8, o8, o8, hF 0 (by omega), hF 1 (by omega), hF 2 (by omega), hF 3 (by omega), hF 4 (by omega)]
    exact hR.1
  · exact repServer_cg (fun j => hs _ _ _ (fun q => by have q : 999 = 8 * w + k := q; omega)) (fun j => hs _ _ _ (fun q => by have q : (if 8 * w + k' < 80 then 999 else if 8 * w + k' < 160 then 8 * w + k' - 80 else 999) = 8 * w + k := q; rw [if_pos (by omega)] at q; omega)) (fun i a b => hF i (by omega)) (hR.server (by omega))
  · by_cases e : k' = k
    · subst e; exact hn
    · exact repSite_cg (fun j => hs _ _ _ (fun q => by have q : 8 * w + k' = 8 * w + k := q; omega)) (fun j => hs _ _ _ (fun q => by have q : (if 80 + (8 * w + k') < 80 then 999 else if 80 + (8 * w + k') < 160 then 80 + (8 * w + k') - 80 else 999) = 8 * w + k := q; rw [if_neg (by omega), if_pos (by omega)] at q; omega)) (fun j _ => hs _ _ _ (fun q => by have q : (if 8 * w + k' < 80 then 8 * w + k' else 999) = 8 * w + k := q; rw [if_pos (by omega)] at q; omega)) (fun i a b => hF i (by omega)) (hR.site (by omega))
  · have m0 := mA_eq r 0
    have wr := hw.router (r := r) (by omega)
    have g := repRouter_s (s' := s') wr hp (i := 4 * w + r) (by omega) ⟨fun c j m e => hs c j m (fun q => by
      unfold ownR at e
      unfold ownS at q
      split at q
      · simp only at e; omega
      · simp only at e; split at e <;> split at q <;> (try split at q) <;> omega
      · simp only at e; split at e <;> split at q <;> omega
      · omega), fun j => by rw [hs2]⟩ (hR.router (by omega))
    exact repRouter_F wr (fun i a b => hF i (by omega)) (fun i a b => hF i (by omega)) (fun t ht => ⟨hF _ (by omega), hF _ (by omega)⟩) g
theorem site_put (h : ∀ c j m, ownS c j ≠ n → s'.1 c j m = s.1 c j m) (ho : ownS c i = n) : ∀ c' j m, ownS c' j ≠ n → (putV s' c i k x).1 c' j m = s.1 c' j m := fun c' j m e => (putV_ne (by
  by_cases e1 : c' = c
  · by_cases e2 : j = i
    · subst e1; subst e2; exact absurd ho e
    · exact Or.inr (Or.inl e2)
  · exact Or.inl e1)).trans (h c' j m e)
theorem site_0 : ∀ c j m, ownS c j ≠ n → s.1 c j m = s.1 c j m := fun _ _ _ _ => rfl
theorem cellsRep_p (hc : c ≠ 15 ∨ i ≠ n) (q : cellsRep s n F b) : cellsRep (putV s c i k x) n F b := cellsRep_cg (fun m => putV_ne (by omega)) q
set_option maxHeartbeats 4000000 in
set_option maxRecDepth 100000 in
theorem c_startReg (hw : WFh F B) (hp : permOk s) (h10 : w < 10) (hR : RepW s w F) (h : ∀ s', Upd s s' w → RepW s' w (regF F v).2 → Q (some (.inl (regF F v).1)) s') : wpM L xs codT retT (f + 2) m_X8_startRegistration [.inr (8, w), .inl v] s Q := by
  obtain ⟨hw, h9⟩ := hw
  have t2 := hw.t2
  have e2 : s.1 8 w 4 = nI (cT F) := hR.t1.trans hw.t1
  by_cases hv : iN v (cT F)
  · obtain ⟨k, rfl, hk⟩ := iN_nn hv (by omega)
    have e : regF F (nI k) = (F 0 + F (29 + 17 * k + 2), putF F (29 + 17 * k + 4) (F 0 + F (29 + 17 * k + 2))) := by unfold regF; rw [if_neg (fun q => q hv), show nn (nI k) = k from nI_cl (by omega)]
    rw [e] at h
    dsimp only at h
    obtain ⟨r0, r1, r2, r3, r4, rc⟩ := hR.site hk
    have h := h (putV s 6 (8 * w + k) 4 (F 0 + F (29 + 17 * k + 2))) (Upd_put (own_6 (by omega))) (RepW_site hw hp h10 hk hR (site_put site_0 rfl) rfl (fun i hi => putF_ne _ _ (by omega)) ⟨by rw [putV_ne (by omega), putF_ne _ _ (by omega)]; exact r0, by rw [putV_ne (by omega), putF_ne _ _ (by omega)]; exact r1, by rw [putV_ne (by omega), putF_ne _ _ (by omega)]; exact r2, by rw [putV_ne (by omega), putF_ne _ _ (by omega)]; exact r3, by rw [putV_at, putF_at], cellsRep_p (Or.inl (by decide)) (cellsRep_cg2 (fun _ _ => rfl) (fun i hi => putF_ne _ _ (by omega)) rc)⟩)
    have e0 := hR.h1
    intro call hcall X hX; refine hX 1000 0 _ _ _ ?_
    repeat' (first | (intro hc) | (refine And.intro ?_ ?_) | (exact absurd nI_0 ‹cmpF 0 (nI 0) 0›) | (exact absurd ‹cmpT 0 (nI 1) 0› nI1_ne) | (exact absurd nI_0 ‹cmpT 1 (nI 0) 0›) | (exact absurd ‹cmpF 1 (nI 1) 0› nI1_ne) | (show wp _ _ _ _ _ _ _ _ _ _ _ _; conv => whnf) | (simp (disch := omega) only [nI_cl]) | (rw [e0, r2]) | (rw [putV_at]) | (simp (disch := omega) only [nI_add, nI_mul, setN_now, setN_put, nI_cl, Nat.add_zero]) | (refine hcall _ _ _ _ ?_; first | (refine c_isSite e2 t2 ?_) | fail))
    all_goals first
      | exact h
      | (exfalso; exact bF hv (by assumption))
      | (simp (disch := omega) only [nI_cl, putV_at, e0, r2]; exact h)
      | (clear h hv e; (try clear hX hcall); (try clear h); (try simp (disch := omega) only [cmpT, cmpF, bI_eq0, bI_ne0, Classical.not_not, nI_toI, nI_cl, nI_inj, nI_add, nI_mul, nI_subI, takeL, setL, Int32.toInt_zero, Nat.add_zero, Nat.zero_mul, Nat.zero_add, alen11, alen12, alen13, alen14, alen15, alen16, alen17, alen18, alen19] at *); omega)
  · have e : regF F v = (-1, F) := by unfold regF; rw [if_pos hv]
    rw [e] at h
    dsimp only at h
    have h := h s Upd.refl hR
    intro call hcall X hX; refine hX 1000 0 _ _ _ ?_
    repeat' (first | (intro hc) | (refine And.intro ?_ ?_) | (exact absurd nI_0 ‹cmpF 0 (nI 0) 0›) | (exact absurd ‹cmpT 0 (nI 1) 0› nI1_ne) | (exact absurd nI_0 ‹cmpT 1 (nI 0) 0›) | (exact absurd ‹cmpF 1 (nI 1) 0› nI1_ne) | (show wp _ _ _ _ _ _ _ _ _ _ _ _; conv => whnf) | (simp (disch := omega) only [nI_add, nI_mul, setN_now, setN_put, nI_cl, Nat.add_zero]) | (refine hcall _ _ _ _ ?_; first | (refine c_isSite e2 t2 ?_) | fail))
    all_goals first
      | exact h
      | (exfalso; exact bT hv (by assumption))
set_option maxHeartbeats 4000000 in
set_option maxRecDepth 100000 in
theorem c_endReg (hw : WFh F B) (hp : permOk s) (h10 : w < 10) (hR : RepW s w F) (h : ∀ s', Upd s s' w → RepW s' w (unregF F v).2 → Q (some (.inl (unregF F v).1)) s') : wpM L xs codT retT (f + 2) m_X8_endRegistration [.inr (8, w), .inl v] s Q := by
  obtain ⟨hw, h9⟩ := hw
  have t2 := hw.t2
  have e2 : s.1 8 w 4 = nI (cT F) := hR.t1.trans hw.t1
  by_cases hv : iN v (cT F)
  · obtain ⟨k, rfl, hk⟩ := iN_nn hv (by omega)
    have en : nn (nI k) = k := nI_cl (by omega)
    obtain ⟨r0, r1, r2, r3, r4, rc⟩ := hR.site hk
    have e0 := hR.h1
    by_cases hr : (F 0).toInt < (F (29 + 17 * k + 4)).toInt
    · have e : unregF F (nI k) = (F (29 + 17 * k + 4) - F 0, putF F (29 + 17 * k + 4) (F 0)) := by unfold unregF; rw [if_neg (fun q => q hv), en, if_neg (fun q => q hr)]
      rw [e] at h
      dsimp only at h
      have h := h (putV s 6 (8 * w + k) 4 (F 0)) (Upd_put (own_6 (by omega))) (RepW_site hw hp h10 hk hR (site_put site_0 rfl) rfl (fun i hi => putF_ne _ _ (by omega)) ⟨by rw [putV_ne (by omega), putF_ne _ _ (by omega)]; exact r0, by rw [putV_ne (by omega), putF_ne _ _ (by omega)]; exact r1, by rw [putV_ne (by omega), putF_ne _ _ (by omega)]; exact r2, by rw [putV_ne (by omega), putF_ne _ _ (by omega)]; exact r3, by rw [putV_at, putF_at], cellsRep_p (Or.inl (by decide)) (cellsRep_cg2 (fun _ _ => rfl) (fun i hi => putF_ne _ _ (by omega)) rc)⟩)
      intro call hcall X hX; refine hX 1000 0 _ _ _ ?_
      repeat' (first | (intro hc) | (refine And.intro ?_ ?_) | (exact absurd nI_0 ‹cmpF 0 (nI 0) 0›) | (exact absurd ‹cmpT 0 (nI 1) 0› nI1_ne) | (exact absurd nI_0 ‹cmpT 1 (nI 0) 0›) | (exact absurd ‹cmpF 1 (nI 1) 0› nI1_ne) | (show wp _ _ _ _ _ _ _ _ _ _ _ _; conv => whnf) | (simp (disch := omega) only [nI_cl]) | (rw [e0]) | (rw [r4]) | (simp (disch := omega) only [nI_add, nI_mul, setN_now, setN_put, nI_cl, Nat.add_zero]) | (refine hcall _ _ _ _ ?_; first | (refine c_isSite e2 t2 ?_) | (refine c_siteReg hR hk ?_) | fail))
      all_goals first
        | exact h
        | (exfalso; exact bF hv (by assumption))
        | (exfalso; exact bF hr (by assumption))
        | (simp (disch := omega) only [nI_cl, e0, r4]; exact h)
        | (clear h hv e; (try clear hX hcall); (try clear h); (try simp (disch := omega) only [cmpT, cmpF, bI_eq0, bI_ne0, Classical.not_not, nI_toI, nI_cl, nI_inj, nI_add, nI_mul, nI_subI, takeL, setL, Int32.toInt_zero, Nat.add_zero, Nat.zero_mul, Nat.zero_add, alen11, alen12, alen13, alen14, alen15, alen16, alen17, alen18, alen19] at *); omega)
    · have e : unregF F (nI k) = (-3, F) := by unfold unregF; rw [if_neg (fun q => q hv), en, if_pos hr]
      rw [e] at h
      dsimp only at h
      have h := h s Upd.refl hR
      intro call hcall X hX; refine hX 1000 0 _ _ _ ?_
      repeat' (first | (intro hc) | (refine And.intro ?_ ?_) | (exact absurd nI_0 ‹cmpF 0 (nI 0) 0›) | (exact absurd ‹cmpT 0 (nI 1) 0› nI1_ne) | (exact absurd nI_0 ‹cmpT 1 (nI 0) 0›) | (exact absurd ‹cmpF 1 (nI 1) 0› nI1_ne) | (show wp _ _ _ _ _ _ _ _ _ _ _ _; conv => whnf) | (simp (disch := omega) only [nI_cl]) | (simp (disch := omega) only [nI_add, nI_mul, setN_now, setN_put, nI_cl, Nat.add_zero]) | (refine hcall _ _ _ _ ?_; first | (refine c_isSite e2 t2 ?_) | (refine c_siteReg hR hk ?_) | fail))
      all_goals first
        | exact h
        | (exfalso; exact bF hv (by assumption))
        | (exfalso; exact bT hr (by assumption))
        | (clear h hv e; (try clear hX hcall); (try clear h); (try simp (disch := omega) only [cmpT, cmpF, bI_eq0, bI_ne0, Classical.not_not, nI_toI, nI_cl, nI_inj, nI_add, nI_mul, nI_subI, takeL, setL, Int32.toInt_zero, Nat.add_zero, Nat.zero_mul, Nat.zero_add, alen11, alen12, alen13, alen14, alen15, alen16, alen17, alen18, alen19] at *); omega)
  · have e : unregF F v = (-1, F) := by unfold unregF; rw [if_pos hv]
    rw [e] at h
    dsimp only at h
    have h := h s Upd.refl hR
    intro call hcall X hX; refine hX 1000 0 _ _ _ ?_
    repeat' (first | (intro hc) | (refine And.intro ?_ ?_) | (exact absurd nI_0 ‹cmpF 0 (nI 0) 0›) | (exact absurd ‹cmpT 0 (nI 1) 0› nI1_ne) | (exact absurd nI_0 ‹cmpT 1 (nI 0) 0›) | (exact absurd ‹cmpF 1 (nI 1) 0› nI1_ne) | (show wp _ _ _ _ _ _ _ _ _ _ _ _; conv => whnf) | (simp (disch := omega) only [nI_add, nI_mul, setN_now, setN_put, nI_cl, Nat.add_zero]) | (refine hcall _ _ _ _ ?_; first | (refine c_isSite e2 t2 ?_) | fail))
    all_goals first
      | exact h
      | (exfalso; exact bT hv (by assumption))
end CLS9
end
section
/-! THE CLASS: slots set and emptied, new routers, servers, sites -/
section CLS10
variable {L : Nat} {xs : Nat → Int32} {f i k r p q c j n B b w w' m sd : Nat} {x y v a z l lo v0 v1 name flow place which : Int32} {s s' t : St} {F G F' u : Fm} {Q : Option MV → St → Prop} {P : Nat → Bool}
set_option maxHeartbeats 4000000 in
set_option maxRecDepth 100000 in
theorem RepW_router (hw : WF F B) (hp : permOk s) (h10 : w < 10) (hr : r < cR F) (hR : RepW s w F) (hs : ∀ c j m, ownR c j ≠ 4 * w + r → s'.1 c j m = s.1 c j m) (hs2 : ∀ i j, i ≠ 4 * w + r → s'.2 i j = s.2 i j) (hF : ∀ i, (i < 165 + 6 * r ∨ 165 + 6 * r + 6 ≤ i) → (i < mA r 0 ∨ mA r 5 ≤ i) → F' i = F i) (hn : repRouter s' (4 * w + r) F' r) : RepW s' w F' := by
  have s2 := hw.s2
  have t2 := hw.t2
  have r2 := hw.r2
  have m0 := mA_eq r 0
  have m5 := mA_eq r 5
  have lo : ∀ i, i < 165 → F' i = F i := fun i hi => hF i (by omega) (by omega)
  have e1 : cS F' = cS F := by unfold cS; rw [lo 1 (by omega)]
  have e2 : cT F' = cT F := by unfold cT; rw [lo 2 (by omega)]
  have e3 : cR F' = cR F := by unfold cR; rw [lo 3 (by omega)]
  have o8 : ∀ m, s'.1 8 w m = s.1 8 w m := fun m => hs 8 w m (fun q => by have q : 999 = 4 * w + r := q; omega)
  refine ⟨?_, fun k hk => ?_, fun k hk => ?_, fun r' hk => ?_⟩
  · rw [o8, o8, o8, o8, o8, lo 0 (by omega), lo 1 (by omega), lo 2 (by omega), lo 3 (by omega), lo 4 (by omega)]
    exact hR.1
  · exact repServer_cg (fun j => hs _ _ _ (fun q => by have q : 999 = 4 * w + r := q; omega)) (fun j => hs _ _ _ (fun q => by have q : (if 8 * w + k < 160 then 999 else (8 * w + k - 160) / 5) = 4 * w + r := q; rw [if_pos (by omega)] at q; omega)) (fun i a b => lo i (by omega)) (hR.server (by omega))
  · exact repSite_cg (fun j => hs _ _ _ (fun q => by have q : 999 = 4 * w + r := q; omega)) (fun j => hs _ _ _ (fun q => by have q : (if 80 + (8 * w + k) < 160 then 999 else (80 + (8 * w + k) - 160) / 5) = 4 * w + r := q; rw [if_pos (by omega)] at q; omega)) (fun j _ => hs _ _ _ (fun q => by have q : (if 8 * w + k < 80 then 999 else (8 * w + k - 80) / 5) = 4 * w + r := q; rw [if_pos (by omega)] at q; omega)) (fun i a b => lo i (by omega)) (hR.site (by omega))
  · by_cases e : r' = r
    · subst e; exact hn
    · have n0 := mA_eq r' 0
      have n5 := mA_eq r' 5
      have wr := hw.router (r := r') (by omega)
      have g := repRouter_s (s' := s') wr hp (i := 4 * w + r') (by omega) ⟨fun c j m e => hs c j m (by omega), fun j => hs2 _ _ (by omega)⟩ (hR.router (by omega))
      exact repRouter_F wr (fun i a b => hF i (by omega) (by omega)) (fun i a b => hF i (by omega) (by omega)) (fun t ht => ⟨lo _ (by omega), lo _ (by omega)⟩) g
set_option maxHeartbeats 4000000 in
set_option maxRecDepth 100000 in
theorem c_fill (hk : k < 3) (h : Q none (putV (putV (putV s 15 sd (k * 3) v) 15 sd (k * 3 + 1) a) 15 sd (k * 3 + 2) z)) : wpM L xs codT retT (f + 2) m_X7_fill [.inr (7, sd), .inl (nI k), .inl v, .inl a, .inl z] s Q := by
  have hk2 := iN_k hk (by omega)
  intro call hcall X hX; refine hX 1000 0 _ _ _ ?_
  repeat' (first | (intro hc) | (refine And.intro ?_ ?_) | (exact absurd nI_0 ‹cmpF 0 (nI 0) 0›) | (exact absurd ‹cmpT 0 (nI 1) 0› nI1_ne) | (exact absurd nI_0 ‹cmpT 1 (nI 0) 0›) | (exact absurd ‹cmpF 1 (nI 1) 0› nI1_ne) | (show wp _ _ _ _ _ _ _ _ _ _ _ _; conv => whnf) | (simp (disch := omega) only [nI_add, nI_mul, setN_now, setN_put, nI_cl, Nat.add_zero]) | (refine hcall _ _ _ _ ?_; first | (refine c_sSlot ?_) | fail))
  all_goals first
    | (exfalso; exact bF hk2 (by assumption))
    | exact h
    | (simp (disch := omega) only [nI_mul, nI_add, nI_cl, Nat.add_zero]; exact h)
    | (simp (disch := omega) only [nI_toI, nI_cl, nI_add, nI_mul, alen11, alen12, alen13, alen14, alen15, alen16, alen17, alen18, alen19]; omega)
set_option maxHeartbeats 4000000 in
set_option maxRecDepth 100000 in
theorem c_fillSlot (hw : WF F B) (hp : permOk s) (h10 : w < 10) (hR : RepW s w F) (h : ∀ s', Upd s s' w → RepW s' w (fillSF F v a z x y).2 → Q (some (.inl (fillSF F v a z x y).1)) s') : wpM L xs codT retT (f + 3) m_X8_fillSlot [.inr (8, w), .inl v, .inl a, .inl z, .inl x, .inl y] s Q := by
  have t2 := hw.t2
  have e2 : s.1 8 w 4 = nI (cT F) := hR.t1.trans hw.t1
  by_cases hv : iN v (cT F)
  · by_cases ha : iN a 3
    · obtain ⟨k, hp1, hk⟩ := iN_nn hv (by omega)
      obtain ⟨j, hp2, hj⟩ := iN_nn ha (by omega)
      subst hp1; subst hp2
      have en : nn (nI k) = k := nI_cl (by omega)
      have ej : nn (nI j) = j := nI_cl (by omega)
      obtain ⟨r0, r1, r2, r3, r4, rc⟩ := hR.site hk
      by_cases hz : iN z 32
      · by_cases hxy : iN x 10 ∧ 1 ≤ y.toInt ∧ y.toInt ≤ 9
        · have e : fillSF F (nI k) (nI j) z x y = (F (29 + 17 * k + 3) + nI 1, fun i => if i = 29 + 17 * k + 5 + 4 * j then nI 1 else if i = 29 + 17 * k + 5 + 4 * j + 1 then z else if i = 29 + 17 * k + 5 + 4 * j + 2 then x else if i = 29 + 17 * k + 5 + 4 * j + 3 then y else if i = 29 + 17 * k + 3 then F i + nI 1 else F i) := by
            unfold fillSF
            rw [if_neg (fun q => q ⟨hv, ha⟩), en, ej, if_neg (fun q => q ⟨hz, hxy⟩)]
          rw [e] at h
          dsimp only at h
          have h := h (putV (putV (putV (putV s 15 (8 * w + k) (j * 3) z) 15 (8 * w + k) (j * 3 + 1) x) 15 (8 * w + k) (j * 3 + 2) y) 6 (8 * w + k) 3 (F (29 + 17 * k + 3) + nI 1)) ((((Upd_put (own_15a h10 (by omega))).put (own_15a h10 (by omega))).put (own_15a h10 (by omega))).put (own_6 (by omega)))
          have h := h (RepW_site hw hp h10 hk hR (site_put (site_put (site_put (site_put site_0 (if_pos (by omega))) (if_pos (by omega))) (if_pos (by omega))) rfl) rfl (fun i hi => by
            (try dsimp only)
            rw [if_neg (by omega), if_neg (by omega), if_neg (by omega), if_neg (by omega), if_neg (by omega)]) ⟨by
            dsimp only
            simp (disch := omega) only [putV_ne, if_neg]
            exact r0, by
            dsimp only
            simp (disch := omega) only [putV_ne, if_neg]
            exact r1, by
            dsimp only
            simp (disch := omega) only [putV_ne, if_neg]
            exact r2, by
            dsimp only
            simp (disch := omega) only [putV_at, if_neg, if_true], by
            dsimp only
            simp (disch := omega) only [putV_ne, if_neg]
            exact r4, fun j' hj' => by
            dsimp only
            by_cases ejj : j' = j
            · subst ejj
              simp (disch := omega) only [putV_ne, putV_at, if_neg, if_true]
              exact ⟨fun _ => by simp, fun q => absurd q.symm nI01⟩
            · simp (disch := omega) only [putV_ne, if_neg]
              exact rc j' hj'⟩)
          intro call hcall X hX; refine hX 1000 0 _ _ _ ?_
          repeat' (first | (intro hc) | (refine And.intro ?_ ?_) | (exact absurd nI_0 ‹cmpF 0 (nI 0) 0›) | (exact absurd ‹cmpT 0 (nI 1) 0› nI1_ne) | (exact absurd nI_0 ‹cmpT 1 (nI 0) 0›) | (exact absurd ‹cmpF 1 (nI 1) 0› nI1_ne) | (show wp _ _ _ _ _ _ _ _ _ _ _ _; conv => whnf) | (simp (disch := omega) only [nI_cl, putV_ne, putV_at, r3]) | (simp (disch := omega) only [nI_add, nI_mul, setN_now, setN_put, nI_cl, Nat.add_zero]) | (refine hcall _ _ _ _ ?_; first | (refine c_isSite e2 t2 ?_) | (refine c_sSlot ?_) | (refine c_sPlace ?_) | (refine c_fill hj ?_) | fail))
          all_goals first
            | exact h
            | (exfalso; exact bF hv (by assumption))
            | (exfalso; exact bF ha (by assumption))
            | (exfalso; exact bF hz (by assumption))
            | (simp (disch := omega) only [nI_cl, putV_ne, putV_at, r3]; exact h)
            | (simp (disch := omega) only [nI_toI, nI_cl, nI_add, nI_mul, alen11, alen12, alen13, alen14, alen15, alen16, alen17, alen18, alen19]; omega)
            | (exfalso; clear h e hv ha; (try clear hX hcall); (try clear h); (try simp (disch := omega) only [cmpT, cmpF, bI_eq0, bI_ne0, Classical.not_not, nI_toI, nI_cl, nI_inj, nI_add, nI_mul, nI_subI, takeL, setL, Int32.toInt_zero, Nat.add_zero, Nat.zero_mul, Nat.zero_add, alen11, alen12, alen13, alen14, alen15, alen16, alen17, alen18, alen19] at *); omega)
        · have e : fillSF F (nI k) (nI j) z x y = (-2, F) := by
            unfold fillSF
            rw [if_neg (fun q => q ⟨hv, ha⟩), if_pos (fun q => hxy q.2)]
          rw [e] at h
          have h := h s Upd.refl hR
          intro call hcall X hX; refine hX 1000 0 _ _ _ ?_
          repeat' (first | (intro hc) | (refine And.intro ?_ ?_) | (exact absurd nI_0 ‹cmpF 0 (nI 0) 0›) | (exact absurd ‹cmpT 0 (nI 1) 0› nI1_ne) | (exact absurd nI_0 ‹cmpT 1 (nI 0) 0›) | (exact absurd ‹cmpF 1 (nI 1) 0› nI1_ne) | (show wp _ _ _ _ _ _ _ _ _ _ _ _; conv => whnf) | (simp (disch := omega) only [nI_add, nI_mul, setN_now, setN_put, nI_cl, Nat.add_zero]) | (refine hcall _ _ _ _ ?_; first | (refine c_isSite e2 t2 ?_) | (refine c_sSlot ?_) | (refine c_sPlace ?_) | fail))
          all_goals first
            | exact h
            | (exfalso; exact bF hv (by assumption))
            | (exfalso; exact bF ha (by assumption))
            | (exfalso; exact bF hz (by assumption))
            | (exfalso; clear h e hv ha hz; (try clear hX hcall); (try clear h); (try simp (disch := omega) only [cmpT, cmpF, bI_eq0, bI_ne0, Classical.not_not, nI_toI, nI_cl, nI_inj, nI_add, nI_mul, nI_subI, takeL, setL, Int32.toInt_zero, Nat.add_zero, Nat.zero_mul, Nat.zero_add, alen11, alen12, alen13, alen14, alen15, alen16, alen17, alen18, alen19] at *); omega)
      · have e : fillSF F (nI k) (nI j) z x y = (-2, F) := by
          unfold fillSF
          rw [if_neg (fun q => q ⟨hv, ha⟩), if_pos (fun q => hz q.1)]
        rw [e] at h
        have h := h s Upd.refl hR
        intro call hcall X hX; refine hX 1000 0 _ _ _ ?_
        repeat' (first | (intro hc) | (refine And.intro ?_ ?_) | (exact absurd nI_0 ‹cmpF 0 (nI 0) 0›) | (exact absurd ‹cmpT 0 (nI 1) 0› nI1_ne) | (exact absurd nI_0 ‹cmpT 1 (nI 0) 0›) | (exact absurd ‹cmpF 1 (nI 1) 0› nI1_ne) | (show wp _ _ _ _ _ _ _ _ _ _ _ _; conv => whnf) | (simp (disch := omega) only [nI_add, nI_mul, setN_now, setN_put, nI_cl, Nat.add_zero]) | (refine hcall _ _ _ _ ?_; first | (refine c_isSite e2 t2 ?_) | (refine c_sSlot ?_) | (refine c_sPlace ?_) | fail))
        all_goals first
          | exact h
          | (exfalso; exact bF hv (by assumption))
          | (exfalso; exact bF ha (by assumption))
          | (exfalso; exact bT hz (by assumption))
    · have e : fillSF F v a z x y = (-1, F) := by
        unfold fillSF
        rw [if_pos (fun q => ha q.2)]
      rw [e] at h
      have h := h s Upd.refl hR
      intro call hcall X hX; refine hX 1000 0 _ _ _ ?_
      repeat' (first | (intro hc) | (refine And.intro ?_ ?_) | (exact absurd nI_0 ‹cmpF 0 (nI 0) 0›) | (exact absurd ‹cmpT 0 (nI 1) 0› nI1_ne) | (exact absurd nI_0 ‹cmpT 1 (nI 0) 0›) | (exact absurd ‹cmpF 1 (nI 1) 0› nI1_ne) | (show wp _ _ _ _ _ _ _ _ _ _ _ _; conv => whnf) | (simp (disch := omega) only [nI_add, nI_mul, setN_now, setN_put, nI_cl, Nat.add_zero]) | (refine hcall _ _ _ _ ?_; first | (refine c_isSite e2 t2 ?_) | (refine c_sSlot ?_) | fail))
      all_goals first
        | exact h
        | (exfalso; exact bF hv (by assumption))
        | (exfalso; exact bT ha (by assumption))
  · have e : fillSF F v a z x y = (-1, F) := by
      unfold fillSF
      rw [if_pos (fun q => hv q.1)]
    rw [e] at h
    have h := h s Upd.refl hR
    intro call hcall X hX; refine hX 1000 0 _ _ _ ?_
    repeat' (first | (intro hc) | (refine And.intro ?_ ?_) | (exact absurd nI_0 ‹cmpF 0 (nI 0) 0›) | (exact absurd ‹cmpT 0 (nI 1) 0› nI1_ne) | (exact absurd nI_0 ‹cmpT 1 (nI 0) 0›) | (exact absurd ‹cmpF 1 (nI 1) 0› nI1_ne) | (show wp _ _ _ _ _ _ _ _ _ _ _ _; conv => whnf) | (simp (disch := omega) only [nI_add, nI_mul, setN_now, setN_put, nI_cl, Nat.add_zero]) | (refine hcall _ _ _ _ ?_; first | (refine c_isSite e2 t2 ?_) | fail))
    all_goals first
      | exact h
      | (exfalso; exact bT hv (by assumption))
set_option maxHeartbeats 4000000 in
set_option maxRecDepth 100000 in
theorem c_vacateSlot (hw : WF F B) (hp : permOk s) (h10 : w < 10) (hR : RepW s w F) (h : ∀ s', Upd s s' w → RepW s' w (vacF F v a).2 → Q (some (.inl (vacF F v a).1)) s') : wpM L xs codT retT (f + 3) m_X8_vacateSlot [.inr (8, w), .inl v, .inl a] s Q := by
  have t2 := hw.t2
  have e2 : s.1 8 w 4 = nI (cT F) := hR.t1.trans hw.t1
  by_cases hv : iN v (cT F)
  · by_cases ha : iN a 3
    · obtain ⟨k, hp1, hk⟩ := iN_nn hv (by omega)
      obtain ⟨j, hp2, hj⟩ := iN_nn ha (by omega)
      subst hp1; subst hp2
      have en : nn (nI k) = k := nI_cl (by omega)
      have ej : nn (nI j) = j := nI_cl (by omega)
      obtain ⟨r0, r1, r2, r3, r4, rc⟩ := hR.site hk
      by_cases hz : F (29 + 17 * k + 5 + 4 * j) = nI 0
      · have e : vacF F (nI k) (nI j) = (-3, F) := by
          unfold vacF
          rw [if_neg (fun q => q ⟨hv, ha⟩), en, ej, if_pos hz]
        rw [e] at h
        have h := h s Upd.refl hR
        intro call hcall X hX; refine hX 1000 0 _ _ _ ?_
        repeat' (first | (intro hc) | (refine And.intro ?_ ?_) | (exact absurd nI_0 ‹cmpF 0 (nI 0) 0›) | (exact absurd ‹cmpT 0 (nI 1) 0› nI1_ne) | (exact absurd nI_0 ‹cmpT 1 (nI 0) 0›) | (exact absurd ‹cmpF 1 (nI 1) 0› nI1_ne) | (show wp _ _ _ _ _ _ _ _ _ _ _ _; conv => whnf) | (simp (disch := omega) only [nI_cl]) | (simp (disch := omega) only [nI_add, nI_mul, setN_now, setN_put, nI_cl, Nat.add_zero]) | (refine hcall _ _ _ _ ?_; first | (refine c_isSite e2 t2 ?_) | (refine c_sSlot ?_) | (refine c_isEmpty rc (hw.flag hk) hj ?_) | fail))
        all_goals first
          | exact h
          | (exfalso; exact bF hv (by assumption))
          | (exfalso; exact bF ha (by assumption))
          | (exfalso; exact bF hz (by assumption))
          | (simp (disch := omega) only [nI_toI, nI_cl, nI_add, nI_mul, alen11, alen12, alen13, alen14, alen15, alen16, alen17, alen18, alen19]; omega)
      · have e : vacF F (nI k) (nI j) = (F (29 + 17 * k + 3) + nI 1, fun i => if i = 29 + 17 * k + 5 + 4 * j then nI 0 else if i = 29 + 17 * k + 3 then F i + nI 1 else F i) := by
          unfold vacF
          rw [if_neg (fun q => q ⟨hv, ha⟩), en, ej, if_neg hz]
        rw [e] at h
        dsimp only at h
        have h := h (putV (putV (putV (putV s 15 (8 * w + k) (j * 3) (nI 0)) 15 (8 * w + k) (j * 3 + 1) (nI 0)) 15 (8 * w + k) (j * 3 + 2) (nI 0)) 6 (8 * w + k) 3 (F (29 + 17 * k + 3) + nI 1)) ((((Upd_put (own_15a h10 (by omega))).put (own_15a h10 (by omega))).put (own_15a h10 (by omega))).put (own_6 (by omega)))
        have h := h (RepW_site hw hp h10 hk hR (site_put (site_put (site_put (site_put site_0 (if_pos (by omega))) (if_pos (by omega))) (if_pos (by omega))) rfl) rfl (fun i hi => by
          (try dsimp only)
          rw [if_neg (by omega), if_neg (by omega)]) ⟨by
          dsimp only
          simp (disch := omega) only [putV_ne, if_neg]
          exact r0, by
          dsimp only
          simp (disch := omega) only [putV_ne, if_neg]
          exact r1, by
          dsimp only
          simp (disch := omega) only [putV_ne, if_neg]
          exact r2, by
          dsimp only
          simp (disch := omega) only [putV_at, if_neg, if_true], by
          dsimp only
          simp (disch := omega) only [putV_ne, if_neg]
          exact r4, fun j' hj' => by
          dsimp only
          by_cases ejj : j' = j
          · subst ejj
            simp (disch := omega) only [putV_ne, putV_at, if_neg, if_true]
            exact ⟨fun q => absurd q nI01, fun _ => nI_0⟩
          · simp (disch := omega) only [putV_ne, if_neg]
            exact rc j' hj'⟩)
        intro call hcall X hX; refine hX 1000 0 _ _ _ ?_
        repeat' (first | (intro hc) | (refine And.intro ?_ ?_) | (exact absurd nI_0 ‹cmpF 0 (nI 0) 0›) | (exact absurd ‹cmpT 0 (nI 1) 0› nI1_ne) | (exact absurd nI_0 ‹cmpT 1 (nI 0) 0›) | (exact absurd ‹cmpF 1 (nI 1) 0› nI1_ne) | (show wp _ _ _ _ _ _ _ _ _ _ _ _; conv => whnf) | (simp (disch := omega) only [nI_cl, putV_ne, putV_at, r3]) | (simp (disch := omega) only [nI_add, nI_mul, setN_now, setN_put, nI_cl, Nat.add_zero]) | (refine hcall _ _ _ _ ?_; first | (refine c_isSite e2 t2 ?_) | (refine c_sSlot ?_) | (refine c_isEmpty rc (hw.flag hk) hj ?_) | (refine c_fill hj ?_) | fail))
        all_goals first
          | exact h
          | (exfalso; exact bF hv (by assumption))
          | (exfalso; exact bF ha (by assumption))
          | (exfalso; exact bT hz (by assumption))
          | (simp (disch := omega) only [nI_cl, putV_ne, putV_at, r3]; exact h)
          | (simp (disch := omega) only [nI_toI, nI_cl, nI_add, nI_mul, alen11, alen12, alen13, alen14, alen15, alen16, alen17, alen18, alen19]; omega)
    · have e : vacF F v a = (-1, F) := by
        unfold vacF
        rw [if_pos (fun q => ha q.2)]
      rw [e] at h
      have h := h s Upd.refl hR
      intro call hcall X hX; refine hX 1000 0 _ _ _ ?_
      repeat' (first | (intro hc) | (refine And.intro ?_ ?_) | (exact absurd nI_0 ‹cmpF 0 (nI 0) 0›) | (exact absurd ‹cmpT 0 (nI 1) 0› nI1_ne) | (exact absurd nI_0 ‹cmpT 1 (nI 0) 0›) | (exact absurd ‹cmpF 1 (nI 1) 0› nI1_ne) | (show wp _ _ _ _ _ _ _ _ _ _ _ _; conv => whnf) | (simp (disch := omega) only [nI_add, nI_mul, setN_now, setN_put, nI_cl, Nat.add_zero]) | (refine hcall _ _ _ _ ?_; first | (refine c_isSite e2 t2 ?_) | (refine c_sSlot ?_) | fail))
      all_goals first
        | exact h
        | (exfalso; exact bF hv (by assumption))
        | (exfalso; exact bT ha (by assumption))
  · have e : vacF F v a = (-1, F) := by
      unfold vacF
      rw [if_pos (fun q => hv q.1)]
    rw [e] at h
    have h := h s Upd.refl hR
    intro call hcall X hX; refine hX 1000 0 _ _ _ ?_
    repeat' (first | (intro hc) | (refine And.intro ?_ ?_) | (exact absurd nI_0 ‹cmpF 0 (nI 0) 0›) | (exact absurd ‹cmpT 0 (nI 1) 0› nI1_ne) | (exact absurd nI_0 ‹cmpT 1 (nI 0) 0›) | (exact absurd ‹cmpF 1 (nI 1) 0› nI1_ne) | (show wp _ _ _ _ _ _ _ _ _ _ _ _; conv => whnf) | (simp (disch := omega) only [nI_add, nI_mul, setN_now, setN_put, nI_cl, Nat.add_zero]) | (refine hcall _ _ _ _ ?_; first | (refine c_isSite e2 t2 ?_) | fail))
    all_goals first
      | exact h
      | (exfalso; exact bT hv (by assumption))
set_option maxHeartbeats 4000000 in
set_option maxRecDepth 100000 in
theorem c_emptyCache (hw : WF F B) (hp : permOk s) (h10 : w < 10) (hR : RepW s w F) (h : ∀ s', Upd s s' w → RepW s' w (forgetF F v).2 → Q (some (.inl (forgetF F v).1)) s') : wpM L xs codT retT (f + 2) m_X8_emptyCache [.inr (8, w), .inl v] s Q := by
  have r2 := hw.r2
  have e3 : s.1 8 w 5 = nI (cR F) := hR.r1.trans hw.r1
  by_cases hv : iN v (cR F)
  · obtain ⟨k, hp1, hk⟩ := iN_nn hv (by omega)
    subst hp1
    have en : nn (nI k) = k := nI_cl (by omega)
    have rr := hR.router hk
    have r1 := rr.1
    have e : forgetF F (nI k) = (F (165 + 6 * k), putF F (165 + 6 * k) (nI 0)) := by
      unfold forgetF
      rw [if_neg (fun q => q hv), en]
    rw [e] at h
    dsimp only at h
    have m0 := mA_eq k 0
    have h := h (putV s 4 (4 * w + k) 1 (nI 0)) (Upd_put (own_4 (by omega))) (RepW_router hw hp h10 hk hR (fun c j m e => putV_ne (by
      by_cases e1 : c = 4
      · right; left; intro e2; subst e1; subst e2; exact e rfl
      · exact Or.inl e1)) (fun _ _ _ => rfl) (fun i h1 h2 => putF_ne _ _ (by omega)) ⟨by rw [putV_at, putF_at], by
        rw [putV_ne (by omega), putF_ne _ _ (by omega)]; exact rr.2.1, by
        rw [putV_ne (by omega), putF_ne _ _ (by omega)]; exact rr.2.2.1, by
        rw [putV_ne (by omega), putF_ne _ _ (by omega)]; exact rr.2.2.2.1, by
        rw [putV_ne (by omega), putF_ne _ _ (by omega)]; exact rr.2.2.2.2.1, by
        rw [putV_ne (by omega), putF_ne _ _ (by omega)]; exact rr.2.2.2.2.2.1, fun p hp' => by
        have e0 : cM (putF F (165 + 6 * k) (nI 0)) k = 0 := by unfold cM; rw [putF_at]; exact nI_cl (by omega)
        omega⟩)
    rw [← r1] at h
    intro call hcall X hX; refine hX 1000 0 _ _ _ ?_
    repeat' (first | (intro hc) | (refine And.intro ?_ ?_) | (exact absurd nI_0 ‹cmpF 0 (nI 0) 0›) | (exact absurd ‹cmpT 0 (nI 1) 0› nI1_ne) | (exact absurd nI_0 ‹cmpT 1 (nI 0) 0›) | (exact absurd ‹cmpF 1 (nI 1) 0› nI1_ne) | (show wp _ _ _ _ _ _ _ _ _ _ _ _; conv => whnf) | (simp (disch := omega) only [nI_cl]) | (simp (disch := omega) only [nI_add, nI_mul, setN_now, setN_put, nI_cl, Nat.add_zero]) | (refine hcall _ _ _ _ ?_; first | (refine c_isRouter e3 r2 ?_) | fail))
    all_goals first
      | exact h
      | (exfalso; exact bF hv (by assumption))
      | (simp (disch := omega) only [nI_cl]; exact h)
      | (simp (disch := omega) only [nI_toI, nI_cl, nI_add, nI_mul, alen11, alen12, alen13, alen14, alen15, alen16, alen17, alen18, alen19]; omega)
  · have e : forgetF F v = (-1, F) := by
      unfold forgetF
      rw [if_pos hv]
    rw [e] at h
    have h := h s Upd.refl hR
    intro call hcall X hX; refine hX 1000 0 _ _ _ ?_
    repeat' (first | (intro hc) | (refine And.intro ?_ ?_) | (exact absurd nI_0 ‹cmpF 0 (nI 0) 0›) | (exact absurd ‹cmpT 0 (nI 1) 0› nI1_ne) | (exact absurd nI_0 ‹cmpT 1 (nI 0) 0›) | (exact absurd ‹cmpF 1 (nI 1) 0› nI1_ne) | (show wp _ _ _ _ _ _ _ _ _ _ _ _; conv => whnf) | (simp (disch := omega) only [nI_add, nI_mul, setN_now, setN_put, nI_cl, Nat.add_zero]) | (refine hcall _ _ _ _ ?_; first | (refine c_isRouter e3 r2 ?_) | fail))
    all_goals first
      | exact h
      | (exfalso; exact bT hv (by assumption))
end CLS10
end
section
/-! THE CLASS: new routers, sites, servers -/
section CLS11
variable {L : Nat} {xs : Nat → Int32} {f i k r p q c j n B b w w' m sd : Nat} {x y v a z l lo v0 v1 name flow place which : Int32} {s s' t : St} {F G F' u : Fm} {Q : Option MV → St → Prop} {P : Nat → Bool}
set_option maxHeartbeats 4000000 in
set_option maxRecDepth 100000 in
theorem c_routerStart (h : ∀ s', (∀ c j m, ¬ (c = 4 ∧ j = i) → s'.1 c j m = s.1 c j m) → s'.2 = s.2 → (∀ m, 1 ≤ m → m < 7 → s'.1 4 i m = nI 0) → Q none s') : wpM L xs codT retT (f + 1) m_X4_start [.inr (4, i)] s Q := by
  have h := h (putV (putV (putV (putV (putV (putV s 4 i 1 (nI 0)) 4 i 2 (nI 0)) 4 i 3 (nI 0)) 4 i 4 (nI 0)) 4 i 5 (nI 0)) 4 i 6 (nI 0)) (fun c j m e => by simp (disch := omega) only [putV_ne]) rfl (fun m h1 h2 => by
    have hm : m = 1 ∨ m = 2 ∨ m = 3 ∨ m = 4 ∨ m = 5 ∨ m = 6 := by omega
    rcases hm with t | t | t | t | t | t <;> subst t <;> simp (disch := omega) only [putV_ne, putV_at])
  intro call hcall X hX; refine hX 1000 0 _ _ _ ?_
  repeat' (first | (intro hc) | (refine And.intro ?_ ?_) | (exact absurd nI_0 ‹cmpF 0 (nI 0) 0›) | (exact absurd ‹cmpT 0 (nI 1) 0› nI1_ne) | (exact absurd nI_0 ‹cmpT 1 (nI 0) 0›) | (exact absurd ‹cmpF 1 (nI 1) 0› nI1_ne) | (show wp _ _ _ _ _ _ _ _ _ _ _ _; conv => whnf))
  exact h
theorem addI1 (h : n < 1000) : nI n + nI 1 - nI 1 = nI n := by rw [nI_add, nI_sub (by omega) (by omega), Nat.add_sub_cancel]
set_option maxHeartbeats 4000000 in
set_option maxRecDepth 100000 in
theorem c_newRouter (hw : WF F B) (hp : permOk s) (h10 : w < 10) (hR : RepW s w F) (h : ∀ s', Upd s s' w → RepW s' w (routerF F).2 → Q (some (.inl (routerF F).1)) s') : wpM L xs codT retT (f + 2) m_X8_newRouter [.inr (8, w)] s Q := by
  have r2 := hw.r2
  have s2 := hw.s2
  have t2 := hw.t2
  have e3 : s.1 8 w 5 = nI (cR F) := hR.r1.trans hw.r1
  by_cases h4 : cR F = 4
  · have e : routerF F = (-4, F) := by unfold routerF; rw [if_pos h4]
    rw [e] at h
    have h := h s Upd.refl hR
    rw [h4] at e3
    intro call hcall X hX; refine hX 1000 0 _ _ _ ?_
    repeat' (first | (intro hc) | (refine And.intro ?_ ?_) | (exact absurd nI_0 ‹cmpF 0 (nI 0) 0›) | (exact absurd ‹cmpT 0 (nI 1) 0› nI1_ne) | (exact absurd nI_0 ‹cmpT 1 (nI 0) 0›) | (exact absurd ‹cmpF 1 (nI 1) 0› nI1_ne) | (show wp _ _ _ _ _ _ _ _ _ _ _ _; conv => whnf))
    all_goals first
      | exact h
      | (clear h e; (try clear hX hcall); (try clear h); (try simp (disch := omega) only [cmpT, cmpF, bI_eq0, bI_ne0, Classical.not_not, nI_toI, nI_cl, nI_inj, nI_add, nI_mul, nI_subI, takeL, setL, Int32.toInt_zero, Nat.add_zero, setN_now, alen20, alen11, alen12, alen13, alen14, alen15, alen16, alen17, alen18, alen19, (id e3)] at *); omega)
  · have e : routerF F = (nI (cR F), fun i => if 165 + 6 * cR F ≤ i ∧ i < 165 + 6 * cR F + 6 then nI 0 else if i = 3 then F 3 + nI 1 else F i) := by unfold routerF; rw [if_neg h4]
    rw [e] at h
    dsimp only at h
    have hF : ∀ i, i ≠ 3 → (i < 165 + 6 * cR F ∨ 165 + 6 * cR F + 6 ≤ i) → (fun i => if 165 + 6 * cR F ≤ i ∧ i < 165 + 6 * cR F + 6 then nI 0 else if i = 3 then F 3 + nI 1 else F i) i = F i := fun i h1 h2 => by
      dsimp only
      rw [if_neg (by omega), if_neg h1]
    have hF3 : (fun i => if 165 + 6 * cR F ≤ i ∧ i < 165 + 6 * cR F + 6 then nI 0 else if i = 3 then F 3 + nI 1 else F i) 3 = nI (cR F + 1) := by
      dsimp only
      rw [if_neg (by omega), if_pos rfl, hw.r1, nI_add]
    have hF0 : ∀ i, 165 + 6 * cR F ≤ i → i < 165 + 6 * cR F + 6 → (fun i => if 165 + 6 * cR F ≤ i ∧ i < 165 + 6 * cR F + 6 then nI 0 else if i = 3 then F 3 + nI 1 else F i) i = nI 0 := fun i h1 h2 => by
      dsimp only
      rw [if_pos ⟨h1, h2⟩]
    generalize hG : (fun i => if 165 + 6 * cR F ≤ i ∧ i < 165 + 6 * cR F + 6 then nI 0 else if i = 3 then F 3 + nI 1 else F i) = F1 at *
    have fin : ∀ s', (∀ c j m, ¬ (c = 4 ∧ j = 4 * w + cR F) → s'.1 c j m = s.1 c j m) → s'.2 = s.2 → (∀ m, 1 ≤ m → m < 7 → s'.1 4 (4 * w + cR F) m = nI 0) → Q (some (.inl (nI (cR F)))) (putV s' 8 w 5 (nI (cR F + 1))) := by
      intro s' o1 o2 o3
      have eS : cS F1 = cS F := by unfold cS; rw [hF 1 (by omega) (by omega)]
      have eT : cT F1 = cT F := by unfold cT; rw [hF 2 (by omega) (by omega)]
      have eR : cR F1 = cR F + 1 := by unfold cR at hF3 ⊢; rw [hF3]; exact nI_cl (by unfold cR at r2; omega)
      refine h _ ⟨fun c i m hc => ?_, fun i j hi => ?_, fun g => permOk_of (fun i j => ?_) g⟩ ⟨?_, fun k hk => ?_, fun k hk => ?_, fun r hk => ?_⟩
      · rw [putV_ne (by
          by_cases e1 : c = 8
          · right; left; intro e2; subst e1; subst e2; exact hc rfl
          · exact Or.inl e1)]
        exact o1 c i m (fun q => hc (by obtain ⟨q1, q2⟩ := q; subst q1; subst q2; exact own_4 (by omega)))
      · show s'.2 i j = s.2 i j
        rw [o2]
      · show s'.2 i j = s.2 i j
        rw [o2]
      · have o8 : ∀ m, s'.1 8 w m = s.1 8 w m := fun m => o1 8 w m (by omega)
        refine ⟨?_, ?_, ?_, ?_, ?_⟩
        · rw [putV_ne (by omega), o8, hF 1 (by omega) (by omega)]; exact hR.s1
        · rw [putV_ne (by omega), o8, hF 2 (by omega) (by omega)]; exact hR.t1
        · rw [putV_at, hF3]
        · rw [putV_ne (by omega), o8, hF 0 (by omega) (by omega)]; exact hR.h1
        · rw [putV_ne (by omega), o8, hF 4 (by omega) (by omega)]; exact hR.l1
      · exact repServer_cg (fun j => (putV_ne (by omega)).trans (o1 _ _ _ (by omega))) (fun j => (putV_ne (by omega)).trans (o1 _ _ _ (by omega))) (fun i a b => hF i (by omega) (by omega)) (hR.server (by omega))
      · exact repSite_cg (fun j => (putV_ne (by omega)).trans (o1 _ _ _ (by omega))) (fun j => (putV_ne (by omega)).trans (o1 _ _ _ (by omega))) (fun j _ => (putV_ne (by omega)).trans (o1 _ _ _ (by omega))) (fun i a b => hF i (by omega) (by omega)) (hR.site (by omega))
      · have m0 := mA_eq r 0
        by_cases er : r = cR F
        · subst er
          have p0 : ∀ m, 1 ≤ m → m < 7 → (putV s' 8 w 5 (nI (cR F + 1))).1 4 (4 * w + cR F) m = nI 0 := fun m g1 g2 => (putV_ne (by omega)).trans (o3 m g1 g2)
          refine ⟨?_, ?_, ?_, ?_, ?_, ?_, fun p hp' => ?_⟩
          · rw [p0 _ (by omega) (by omega), hF0 _ (by omega) (by omega)]
          · rw [p0 _ (by omega) (by omega), hF0 _ (by omega) (by omega)]
          · rw [p0 _ (by omega) (by omega), hF0 _ (by omega) (by omega)]
          · rw [p0 _ (by omega) (by omega), hF0 _ (by omega) (by omega)]
          · rw [p0 _ (by omega) (by omega), hF0 _ (by omega) (by omega)]
          · rw [p0 _ (by omega) (by omega), hF0 _ (by omega) (by omega)]
          · exfalso
            have e0 : cM F1 (cR F) = 0 := by
              show nn (F1 (165 + 6 * cR F)) = 0
              rw [hF0 _ (by omega) (by omega)]; exact nI_cl (by omega)
            omega
        · have wr := hw.router (r := r) (by omega)
          have g := repRouter_s (s' := putV s' 8 w 5 (nI (cR F + 1))) wr hp (i := 4 * w + r) (by omega) ⟨fun c j m e => (putV_ne (by
            by_cases e1 : c = 8
            · subst e1; have e : 999 = 4 * w + r := e; omega
            · exact Or.inl e1)).trans (o1 c j m (fun q => by obtain ⟨q1, q2⟩ := q; subst q1; subst q2; have e : 4 * w + cR F = 4 * w + r := e; omega)), fun j => by show s'.2 _ j = _; rw [o2]⟩ (hR.router (by omega))
          exact repRouter_F wr (fun i a b => hF i (by omega) (by omega)) (fun i a b => hF i (by omega) (by omega)) (fun t ht => ⟨hF _ (by omega) (by omega), hF _ (by omega) (by omega)⟩) g
    clear h
    intro call hcall X hX; refine hX 1000 0 _ _ _ ?_
    repeat' (first | (intro hc) | (refine And.intro ?_ ?_) | (exact absurd nI_0 ‹cmpF 0 (nI 0) 0›) | (exact absurd ‹cmpT 0 (nI 1) 0› nI1_ne) | (exact absurd nI_0 ‹cmpT 1 (nI 0) 0›) | (exact absurd ‹cmpF 1 (nI 1) 0› nI1_ne) | (show wp _ _ _ _ _ _ _ _ _ _ _ _; conv => whnf) | (simp (disch := omega) only [nI_cl]) | (rw [e3]) | (simp (disch := omega) only [nI_add, nI_mul, setN_now, setN_put, nI_cl, Nat.add_zero]) | (refine hcall _ _ _ _ ?_; first | (refine c_routerStart (fun s1 o1 o2 o3 => ?_)) | fail))
    all_goals (try (clear e; (try clear hX hcall); (try clear h); (try simp (disch := omega) only [cmpT, cmpF, bI_eq0, bI_ne0, Classical.not_not, nI_toI, nI_cl, nI_inj, nI_add, nI_mul, nI_subI, takeL, setL, Int32.toInt_zero, Nat.add_zero, setN_now, alen20, alen11, alen12, alen13, alen14, alen15, alen16, alen17, alen18, alen19, (id e3)] at *); omega))
    have e4 : s1.1 8 w 5 = nI (cR F) := (o1 8 w 5 (by omega)).trans e3
    have hf := fin s1 o1 o2 o3
    rw [e4, putV_at, nI_add, nI_sub (by omega) (by omega), Nat.add_sub_cancel]
    exact hf
end CLS11
end
section
/-! THE CLASS: new sites -/
section CLS12
variable {L : Nat} {xs : Nat → Int32} {f i k r p q c j n B b w w' m sd : Nat} {x y v a z l lo v0 v1 name flow place which : Int32} {s s' t : St} {F G F' u : Fm} {Q : Option MV → St → Prop} {P : Nat → Bool}
set_option maxHeartbeats 4000000 in
set_option maxRecDepth 100000 in
theorem c_become (h : Q none (putV (putV s 1 b 0 a) 1 b 1 z)) : wpM L xs codT retT (f + 1) m_X1_become [.inr (1, b), .inl a, .inl z] s Q := by
  intro call hcall X hX; refine hX 1000 0 _ _ _ ?_
  repeat' (first | (intro hc) | (refine And.intro ?_ ?_) | (exact absurd nI_0 ‹cmpF 0 (nI 0) 0›) | (exact absurd ‹cmpT 0 (nI 1) 0› nI1_ne) | (exact absurd nI_0 ‹cmpT 1 (nI 0) 0›) | (exact absurd ‹cmpF 1 (nI 1) 0› nI1_ne) | (show wp _ _ _ _ _ _ _ _ _ _ _ _; conv => whnf))
  exact h
set_option maxHeartbeats 4000000 in
set_option maxRecDepth 100000 in
theorem c_siteStart (h80 : i < 80) (h : ∀ s', (∀ c j m, ownS c j ≠ i → s'.1 c j m = s.1 c j m) → s'.2 = s.2 → s'.1 1 (80 + i) 0 = a → s'.1 1 (80 + i) 1 = z → s'.1 6 i 2 = l → s'.1 6 i 3 = nI 1 → s'.1 6 i 4 = nI 0 → (∀ m, m < 9 → s'.1 15 i m = nI 0) → Q none s') : wpM L xs codT retT (f + 3) m_X6_start [.inr (6, i), .inl a, .inl z, .inl l] s Q := by
  have oS1 : ownS 1 (80 + i) = i := by
    show (if 80 + i < 80 then 999 else if 80 + i < 160 then 80 + i - 80 else 999) = i
    rw [if_neg (by omega), if_pos (by omega)]; omega
  have oS15 : ownS 15 i = i := if_pos h80
  intro call hcall X hX; refine hX 1000 0 _ _ _ ?_
  repeat' (first | (intro hc) | (refine And.intro ?_ ?_) | (exact absurd nI_0 ‹cmpF 0 (nI 0) 0›) | (exact absurd ‹cmpT 0 (nI 1) 0› nI1_ne) | (exact absurd nI_0 ‹cmpT 1 (nI 0) 0›) | (exact absurd ‹cmpF 1 (nI 1) 0› nI1_ne) | (show wp _ _ _ _ _ _ _ _ _ _ _ _; conv => whnf) | (simp (disch := omega) only [nI_add, nI_mul, setN_now, setN_put, nI_cl, Nat.add_zero]) | (refine hcall _ _ _ _ ?_; first | (refine c_become ?_) | fail))
  simp only [takeL, setL, pushW]
  have loop : ∀ j k s', k + j = 3 → (∀ c j m, ownS c j ≠ i → s'.1 c j m = s.1 c j m) → s'.2 = s.2 → s'.1 1 (80 + i) 0 = a → s'.1 1 (80 + i) 1 = z → s'.1 6 i 2 = l → s'.1 6 i 3 = nI 1 → s'.1 6 i 4 = nI 0 → (∀ m, m < 3 * k → s'.1 15 i m = nI 0) → X 27 [.inr (6, i), .inl a, .inl z, .inl l, .inl (nI k)] [] s' := by
    intro j
    induction j with
    | zero =>
      intro k s' hk g1 g2 g3 g4 g5 g6 g7 g8
      have h := h s' g1 g2 g3 g4 g5 g6 g7 (fun m hm => g8 m (by omega))
      refine hX 1000 27 _ _ _ ?_
      repeat' (first | (intro hc) | (refine And.intro ?_ ?_) | (exact absurd nI_0 ‹cmpF 0 (nI 0) 0›) | (exact absurd ‹cmpT 0 (nI 1) 0› nI1_ne) | (exact absurd nI_0 ‹cmpT 1 (nI 0) 0›) | (exact absurd ‹cmpF 1 (nI 1) 0› nI1_ne) | (show wp _ _ _ _ _ _ _ _ _ _ _ _; conv => whnf))
      all_goals first
        | exact h
        | ((try clear hX hcall); (try clear h); (try simp (disch := omega) only [cmpT, cmpF, bI_eq0, bI_ne0, Classical.not_not, nI_toI, nI_cl, nI_inj, nI_add, nI_mul, nI_subI, takeL, setL, Int32.toInt_zero, Nat.add_zero, Nat.zero_mul, Nat.zero_add, alen11, alen12, alen13, alen14, alen15, alen16, alen17, alen18, alen19] at *); omega)
    | succ j ih =>
      intro k s' hk g1 g2 g3 g4 g5 g6 g7 g8
      have hk3 : k < 3 := by omega
      have ih := ih (k + 1) (putV (putV (putV s' 15 i (k * 3) (nI 0)) 15 i (k * 3 + 1) (nI 0)) 15 i (k * 3 + 2) (nI 0)) (by omega) (site_put (site_put (site_put g1 oS15) oS15) oS15) g2 (by simp (disch := omega) only [putV_ne]; exact g3) (by simp (disch := omega) only [putV_ne]; exact g4) (by simp (disch := omega) only [putV_ne]; exact g5) (by simp (disch := omega) only [putV_ne]; exact g6) (by simp (disch := omega) only [putV_ne]; exact g7) (fun m hm => by
        have hm3 : m = k * 3 ∨ m = k * 3 + 1 ∨ m = k * 3 + 2 ∨ m < 3 * k := by omega
        rcases hm3 with t | t | t | t
        · subst t; simp (disch := omega) only [putV_ne, putV_at]
        · subst t; simp (disch := omega) only [putV_ne, putV_at]
        · subst t; simp (disch := omega) only [putV_at]
        · simp (disch := omega) only [putV_ne]; exact g8 m t)
      clear h
      refine hX 1000 27 _ _ _ ?_
      repeat' (first | (intro hc) | (refine And.intro ?_ ?_) | (exact absurd nI_0 ‹cmpF 0 (nI 0) 0›) | (exact absurd ‹cmpT 0 (nI 1) 0› nI1_ne) | (exact absurd nI_0 ‹cmpT 1 (nI 0) 0›) | (exact absurd ‹cmpF 1 (nI 1) 0› nI1_ne) | (show wp _ _ _ _ _ _ _ _ _ _ _ _; conv => whnf) | (simp (disch := omega) only [nI_add, nI_mul, setN_now, setN_put, nI_cl, Nat.add_zero]) | (refine hcall _ _ _ _ ?_; first | (refine c_fill hk3 ?_) | fail))
      all_goals first
        | (simp only [takeL, setL, nI_add, pushW]; exact ih)
        | ((try clear hX hcall); (try clear h); (try simp (disch := omega) only [cmpT, cmpF, bI_eq0, bI_ne0, Classical.not_not, nI_toI, nI_cl, nI_inj, nI_add, nI_mul, nI_subI, takeL, setL, Int32.toInt_zero, Nat.add_zero, Nat.zero_mul, Nat.zero_add, alen11, alen12, alen13, alen14, alen15, alen16, alen17, alen18, alen19] at *); omega)
  refine loop 3 0 _ rfl ?_ rfl ?_ ?_ ?_ ?_ ?_ (fun m hm => absurd hm (by omega))
  · exact site_put (site_put (site_put (site_put (site_put site_0 oS1) oS1) rfl) rfl) rfl
  · simp (disch := omega) only [putV_ne, putV_at]
  · simp (disch := omega) only [putV_ne, putV_at]
  · simp (disch := omega) only [putV_ne, putV_at]
  · simp (disch := omega) only [putV_ne, putV_at]
  · simp (disch := omega) only [putV_at]
theorem ownS_W (h : ownS c j = 8 * w + k) (hk : k < 8) (hw : w < 10) : ownW c j = w := by
  unfold ownS at h
  split at h
  · show j / 8 = w; omega
  · show (if j < 80 then j / 8 else if j < 160 then (j - 80) / 8 else (j - 160) / 20) = w
    split at h
    · omega
    · split at h
      · rw [if_neg (by omega), if_pos (by omega)]; omega
      · omega
  · show (if j < 80 then j / 8 else (j - 80) / 20) = w
    split at h
    · rw [if_pos (by omega)]; omega
    · omega
  · omega
set_option maxHeartbeats 4000000 in
set_option maxRecDepth 100000 in
theorem c_newSite (hw : WF F B) (hp : permOk s) (h10 : w < 10) (hR : RepW s w F) (h : ∀ s', Upd s s' w → RepW s' w (siteF F a z l).2 → Q (some (.inl (siteF F a z l).1)) s') : wpM L xs codT retT (f + 4) m_X8_newSite [.inr (8, w), .inl a, .inl z, .inl l] s Q := by
  have r2 := hw.r2
  have s2 := hw.s2
  have t2 := hw.t2
  have e2 : s.1 8 w 4 = nI (cT F) := hR.t1.trans hw.t1
  by_cases hb : blkB a z ∧ 1 ≤ l.toInt ∧ l.toInt ≤ 48
  · have e0 : siteF F a z l = if anyS F a z (cT F) = true then (-3, F) else if cT F = 8 then (-4, F) else (nI (cT F), fun i => if i = 29 + 17 * cT F then a else if i = 29 + 17 * cT F + 1 then z else if i = 29 + 17 * cT F + 2 then l else if i = 29 + 17 * cT F + 3 then nI 1 else if 29 + 17 * cT F + 4 ≤ i ∧ i < 29 + 17 * cT F + 17 then nI 0 else if i = 2 then F 2 + nI 1 else F i) := by
      unfold siteF
      rw [if_neg (fun q => q hb)]
    have loop : ∀ (call : Nat → List MV → St → (Option MV → St → Prop) → Prop), (∀ (m : Nat) (as : List MV) (s : St) (Q : Option MV → St → Prop), wpM L xs codT retT (f + 3) m as s Q → call m as s Q) → ∀ X : Nat → List MV → List MV → St → Prop, (∀ (n pc : Nat) (ls st : List MV) (s : St), wp call L xs (retT m_X8_newSite) Q X (codT m_X8_newSite) n (behind (fromPc (codT m_X8_newSite) pc)) ls st s → X pc ls st s) → ∀ j, j ≤ cT F → anyS F a z j = false → X 25 [.inr (8, w), .inl a, .inl z, .inl l, .inl (nI j)] [] s := by
      intro call hcall X hX
      refine loopD (cT F) (fun j hj ih ha => ?_) (fun ha => ?_)
      · obtain ⟨r0, r1, -⟩ := hR.site hj
        by_cases hm : F (29 + 17 * j) = a ∧ F (29 + 17 * j + 1) = z
        · have ha2 : anyS F a z (j + 1) = true := by
            show (_ || decide _) = true
            rw [decide_eq_true hm, Bool.or_true]
          rw [if_pos (anyS_s ha2 (cT F) (by omega))] at e0
          rw [e0] at h
          have h := h s Upd.refl hR
          clear ih e0
          refine hX 1000 25 _ _ _ ?_
          repeat' (first | (intro hc) | (refine And.intro ?_ ?_) | (exact absurd nI_0 ‹cmpF 0 (nI 0) 0›) | (exact absurd ‹cmpT 0 (nI 1) 0› nI1_ne) | (exact absurd nI_0 ‹cmpT 1 (nI 0) 0›) | (exact absurd ‹cmpF 1 (nI 1) 0› nI1_ne) | (show wp _ _ _ _ _ _ _ _ _ _ _ _; conv => whnf) | (simp (disch := omega) only [nI_cl]) | (simp (disch := omega) only [nI_add, nI_mul, setN_now, setN_put, nI_cl, Nat.add_zero]) | (refine hcall _ _ _ _ ?_; first | (refine c_isAt r0 r1 ?_) | fail))
          all_goals first
            | exact h
            | (exfalso; exact bF hm (by assumption))
            | (clear h hm; (try clear hX hcall); (try clear h); (try simp (disch := omega) only [cmpT, cmpF, bI_eq0, bI_ne0, Classical.not_not, nI_toI, nI_cl, nI_inj, nI_add, nI_mul, nI_subI, takeL, setL, Int32.toInt_zero, Nat.add_zero, setN_now, alen20, alen11, alen12, alen13, alen14, alen15, alen16, alen17, alen18, alen19, (id e2)] at *); omega)
        · have ha2 : anyS F a z (j + 1) = false := by
            show (_ || decide _) = false
            rw [ha, decide_eq_false hm]
            rfl
          replace ih := ih ha2
          clear h e0
          refine hX 1000 25 _ _ _ ?_
          repeat' (first | (intro hc) | (refine And.intro ?_ ?_) | (exact absurd nI_0 ‹cmpF 0 (nI 0) 0›) | (exact absurd ‹cmpT 0 (nI 1) 0› nI1_ne) | (exact absurd nI_0 ‹cmpT 1 (nI 0) 0›) | (exact absurd ‹cmpF 1 (nI 1) 0› nI1_ne) | (show wp _ _ _ _ _ _ _ _ _ _ _ _; conv => whnf) | (simp (disch := omega) only [nI_cl]) | (simp (disch := omega) only [nI_add, nI_mul, setN_now, setN_put, nI_cl, Nat.add_zero]) | (refine hcall _ _ _ _ ?_; first | (refine c_isAt r0 r1 ?_) | fail))
          all_goals first
            | (simp only [takeL, setL, nI_add]; exact ih)
            | (exfalso; exact bT hm (by assumption))
            | (clear ih hm; (try clear hX hcall); (try clear h); (try simp (disch := omega) only [cmpT, cmpF, bI_eq0, bI_ne0, Classical.not_not, nI_toI, nI_cl, nI_inj, nI_add, nI_mul, nI_subI, takeL, setL, Int32.toInt_zero, Nat.add_zero, setN_now, alen20, alen11, alen12, alen13, alen14, alen15, alen16, alen17, alen18, alen19, (id e2)] at *); omega)
      · rw [if_neg (by rw [ha]; decide)] at e0
        by_cases h8 : cT F = 8
        · rw [if_pos h8] at e0
          rw [e0] at h
          have h := h s Upd.refl hR
          clear e0
          refine hX 1000 25 _ _ _ ?_
          repeat' (first | (intro hc) | (refine And.intro ?_ ?_) | (exact absurd nI_0 ‹cmpF 0 (nI 0) 0›) | (exact absurd ‹cmpT 0 (nI 1) 0› nI1_ne) | (exact absurd nI_0 ‹cmpT 1 (nI 0) 0›) | (exact absurd ‹cmpF 1 (nI 1) 0› nI1_ne) | (show wp _ _ _ _ _ _ _ _ _ _ _ _; conv => whnf))
          all_goals first
            | exact h
            | (clear h; (try clear hX hcall); (try clear h); (try simp (disch := omega) only [cmpT, cmpF, bI_eq0, bI_ne0, Classical.not_not, nI_toI, nI_cl, nI_inj, nI_add, nI_mul, nI_subI, takeL, setL, Int32.toInt_zero, Nat.add_zero, setN_now, alen20, alen11, alen12, alen13, alen14, alen15, alen16, alen17, alen18, alen19, (id e2)] at *); omega)
        · rw [if_neg h8] at e0
          rw [e0] at h
          dsimp only at h
          have hF : ∀ i, i ≠ 2 → (i < 29 + 17 * cT F ∨ 29 + 17 * cT F + 17 ≤ i) → (fun i => if i = 29 + 17 * cT F then a else if i = 29 + 17 * cT F + 1 then z else if i = 29 + 17 * cT F + 2 then l else if i = 29 + 17 * cT F + 3 then nI 1 else if 29 + 17 * cT F + 4 ≤ i ∧ i < 29 + 17 * cT F + 17 then nI 0 else if i = 2 then F 2 + nI 1 else F i) i = F i := fun i h1 h2 => by
            dsimp only
            rw [if_neg (by omega), if_neg (by omega), if_neg (by omega), if_neg (by omega), if_neg (by omega), if_neg h1]
          have hF2 : (fun i => if i = 29 + 17 * cT F then a else if i = 29 + 17 * cT F + 1 then z else if i = 29 + 17 * cT F + 2 then l else if i = 29 + 17 * cT F + 3 then nI 1 else if 29 + 17 * cT F + 4 ≤ i ∧ i < 29 + 17 * cT F + 17 then nI 0 else if i = 2 then F 2 + nI 1 else F i) 2 = nI (cT F + 1) := by
            dsimp only
            rw [if_neg (by omega), if_neg (by omega), if_neg (by omega), if_neg (by omega), if_neg (by omega), if_pos rfl, hw.t1, nI_add]
          have f0 : (fun i => if i = 29 + 17 * cT F then a else if i = 29 + 17 * cT F + 1 then z else if i = 29 + 17 * cT F + 2 then l else if i = 29 + 17 * cT F + 3 then nI 1 else if 29 + 17 * cT F + 4 ≤ i ∧ i < 29 + 17 * cT F + 17 then nI 0 else if i = 2 then F 2 + nI 1 else F i) (29 + 17 * cT F) = a := if_pos rfl
          have f1 : (fun i => if i = 29 + 17 * cT F then a else if i = 29 + 17 * cT F + 1 then z else if i = 29 + 17 * cT F + 2 then l else if i = 29 + 17 * cT F + 3 then nI 1 else if 29 + 17 * cT F + 4 ≤ i ∧ i < 29 + 17 * cT F + 17 then nI 0 else if i = 2 then F 2 + nI 1 else F i) (29 + 17 * cT F + 1) = z := by
            dsimp only
            rw [if_neg (by omega), if_pos rfl]
          have f2 : (fun i => if i = 29 + 17 * cT F then a else if i = 29 + 17 * cT F + 1 then z else if i = 29 + 17 * cT F + 2 then l else if i = 29 + 17 * cT F + 3 then nI 1 else if 29 + 17 * cT F + 4 ≤ i ∧ i < 29 + 17 * cT F + 17 then nI 0 else if i = 2 then F 2 + nI 1 else F i) (29 + 17 * cT F + 2) = l := by
            dsimp only
            rw [if_neg (by omega), if_neg (by omega), if_pos rfl]
          have f3 : (fun i => if i = 29 + 17 * cT F then a else if i = 29 + 17 * cT F + 1 then z else if i = 29 + 17 * cT F + 2 then l else if i = 29 + 17 * cT F + 3 then nI 1 else if 29 + 17 * cT F + 4 ≤ i ∧ i < 29 + 17 * cT F + 17 then nI 0 else if i = 2 then F 2 + nI 1 else F i) (29 + 17 * cT F + 3) = nI 1 := by
            dsimp only
            rw [if_neg (by omega), if_neg (by omega), if_neg (by omega), if_pos rfl]
          have f4 : ∀ i, 29 + 17 * cT F + 4 ≤ i → i < 29 + 17 * cT F + 17 → (fun i => if i = 29 + 17 * cT F then a else if i = 29 + 17 * cT F + 1 then z else if i = 29 + 17 * cT F + 2 then l else if i = 29 + 17 * cT F + 3 then nI 1 else if 29 + 17 * cT F + 4 ≤ i ∧ i < 29 + 17 * cT F + 17 then nI 0 else if i = 2 then F 2 + nI 1 else F i) i = nI 0 := fun i h1 h2 => by
            dsimp only
            rw [if_neg (by omega), if_neg (by omega), if_neg (by omega), if_neg (by omega), if_pos ⟨h1, h2⟩]
          generalize hG : (fun i => if i = 29 + 17 * cT F then a else if i = 29 + 17 * cT F + 1 then z else if i = 29 + 17 * cT F + 2 then l else if i = 29 + 17 * cT F + 3 then nI 1 else if 29 + 17 * cT F + 4 ≤ i ∧ i < 29 + 17 * cT F + 17 then nI 0 else if i = 2 then F 2 + nI 1 else F i) = F1 at *
          have fin : ∀ s', (∀ c j m, ownS c j ≠ 8 * w + cT F → s'.1 c j m = s.1 c j m) → s'.2 = s.2 → s'.1 1 (80 + (8 * w + cT F)) 0 = a → s'.1 1 (80 + (8 * w + cT F)) 1 = z → s'.1 6 (8 * w + cT F) 2 = l → s'.1 6 (8 * w + cT F) 3 = nI 1 → s'.1 6 (8 * w + cT F) 4 = nI 0 → (∀ m, m < 9 → s'.1 15 (8 * w + cT F) m = nI 0) → Q (some (.inl (nI (cT F)))) (putV s' 8 w 4 (nI (cT F + 1))) := by
            intro s' o1 o2 q0 q1 q2 q3 q4 q5
            have eS : cS F1 = cS F := by unfold cS; rw [hF 1 (by omega) (by omega)]
            have eR : cR F1 = cR F := by unfold cR; rw [hF 3 (by omega) (by omega)]
            have eT : cT F1 = cT F + 1 := by unfold cT at hF2 ⊢; rw [hF2]; exact nI_cl (by unfold cT at t2; omega)
            have o8 : ∀ m, s'.1 8 w m = s.1 8 w m := fun m => o1 8 w m (fun q => by have q : 999 = 8 * w + cT F := q; omega)
            refine h _ ⟨fun c i m hc => ?_, fun i j hi => ?_, fun g => permOk_of (fun i j => ?_) g⟩ ⟨?_, fun k hk => ?_, fun k hk => ?_, fun r hk => ?_⟩
            · rw [putV_ne (by
                by_cases e1 : c = 8
                · right; left; intro e2; subst e1; subst e2; exact hc rfl
                · exact Or.inl e1)]
              exact o1 c i m (fun q => hc (ownS_W q (by omega) h10))
            · show s'.2 i j = s.2 i j
              rw [o2]
            · show s'.2 i j = s.2 i j
              rw [o2]
            · refine ⟨?_, ?_, ?_, ?_, ?_⟩
              · rw [putV_ne (by omega), o8, hF 1 (by omega) (by omega)]; exact hR.s1
              · rw [putV_at, hF2]
              · rw [putV_ne (by omega), o8, hF 3 (by omega) (by omega)]; exact hR.r1
              · rw [putV_ne (by omega), o8, hF 0 (by omega) (by omega)]; exact hR.h1
              · rw [putV_ne (by omega), o8, hF 4 (by omega) (by omega)]; exact hR.l1
            · exact repServer_cg (fun j => (putV_ne (by omega)).trans (o1 _ _ _ (fun q => by have q : 999 = 8 * w + cT F := q; omega))) (fun j => (putV_ne (by omega)).trans (o1 _ _ _ (fun q => by have q : (if 8 * w + k < 80 then 999 else if 8 * w + k < 160 then 8 * w + k - 80 else 999) = 8 * w + cT F := q; rw [if_pos (by omega)] at q; omega))) (fun i a b => hF i (by omega) (by omega)) (hR.server (by omega))
            · by_cases e : k = cT F
              · subst e
                refine ⟨?_, ?_, ?_, ?_, ?_, fun j hj => ?_⟩
                · rw [putV_ne (by omega), q0, f0]
                · rw [putV_ne (by omega), q1, f1]
                · rw [putV_ne (by omega), q2, f2]
                · rw [putV_ne (by omega), q3, f3]
                · rw [putV_ne (by omega), q4, f4 _ (by omega) (by omega)]
                · rw [f4 _ (by omega) (by omega)]
                  refine ⟨fun q => absurd q nI01, fun _ => ?_⟩
                  rw [putV_ne (by omega), q5 _ (by omega)]
                  exact nI_0
              · exact repSite_cg (fun j => (putV_ne (by omega)).trans (o1 _ _ _ (fun q => by have q : 8 * w + k = 8 * w + cT F := q; omega))) (fun j => (putV_ne (by omega)).trans (o1 _ _ _ (fun q => by have q : (if 80 + (8 * w + k) < 80 then 999 else if 80 + (8 * w + k) < 160 then 80 + (8 * w + k) - 80 else 999) = 8 * w + cT F := q; rw [if_neg (by omega), if_pos (by omega)] at q; omega))) (fun j _ => (putV_ne (by omega)).trans (o1 _ _ _ (fun q => by have q : (if 8 * w + k < 80 then 8 * w + k else 999) = 8 * w + cT F := q; rw [if_pos (by omega)] at q; omega))) (fun i a b => hF i (by omega) (by omega)) (hR.site (by omega))
            · have m0 := mA_eq r 0
              have wr := hw.router (r := r) (by omega)
              have g := repRouter_s (s' := putV s' 8 w 4 (nI (cT F + 1))) wr hp (i := 4 * w + r) (by omega) ⟨fun c j m e => (putV_ne (by
                by_cases e1 : c = 8
                · subst e1; have e : 999 = 4 * w + r := e; omega
                · exact Or.inl e1)).trans (o1 c j m (fun q => by
                unfold ownR at e
                unfold ownS at q
                split at q
                · simp only at e; omega
                · simp only at e; split at e <;> split at q <;> (try split at q) <;> omega
                · simp only at e; split at e <;> split at q <;> omega
                · omega)), fun j => by show s'.2 _ j = _; rw [o2]⟩ (hR.router (by omega))
              exact repRouter_F wr (fun i a b => hF i (by omega) (by omega)) (fun i a b => hF i (by omega) (by omega)) (fun t ht => ⟨hF _ (by omega) (by omega), hF _ (by omega) (by omega)⟩) g
          clear h e0
          refine hX 1000 25 _ _ _ ?_
          repeat' (first | (intro hc) | (refine And.intro ?_ ?_) | (exact absurd nI_0 ‹cmpF 0 (nI 0) 0›) | (exact absurd ‹cmpT 0 (nI 1) 0› nI1_ne) | (exact absurd nI_0 ‹cmpT 1 (nI 0) 0›) | (exact absurd ‹cmpF 1 (nI 1) 0› nI1_ne) | (show wp _ _ _ _ _ _ _ _ _ _ _ _; conv => whnf) | (rw [e2]) | (simp (disch := omega) only [nI_cl]) | (simp (disch := omega) only [nI_add, nI_mul, setN_now, setN_put, nI_cl, Nat.add_zero]) | (refine hcall _ _ _ _ ?_; first | (refine c_siteStart (i := 8 * w + cT F) (by omega) (fun s1 o1 o2 q0 q1 q2 q3 q4 q5 => ?_)) | fail))
          all_goals (try ((try clear hX hcall); (try clear h); (try simp (disch := omega) only [cmpT, cmpF, bI_eq0, bI_ne0, Classical.not_not, nI_toI, nI_cl, nI_inj, nI_add, nI_mul, nI_subI, takeL, setL, Int32.toInt_zero, Nat.add_zero, setN_now, alen20, alen11, alen12, alen13, alen14, alen15, alen16, alen17, alen18, alen19, (id e2)] at *); omega))
          have e4 : s1.1 8 w 4 = nI (cT F) := (o1 8 w 4 (fun q => by have q : 999 = 8 * w + cT F := q; omega)).trans e2
          have hf := fin s1 o1 o2 q0 q1 q2 q3 q4 q5
          rw [e4, putV_at, nI_add, nI_sub (by omega) (by omega), Nat.add_sub_cancel]
          exact hf
    obtain ⟨hb1, hb2⟩ := hb
    intro call hcall X hX
    have loop := loop call hcall X hX
    clear h e0
    refine hX 1000 0 _ _ _ ?_
    repeat' (first | (intro hc) | (refine And.intro ?_ ?_) | (exact absurd nI_0 ‹cmpF 0 (nI 0) 0›) | (exact absurd ‹cmpT 0 (nI 1) 0› nI1_ne) | (exact absurd nI_0 ‹cmpT 1 (nI 0) 0›) | (exact absurd ‹cmpF 1 (nI 1) 0› nI1_ne) | (show wp _ _ _ _ _ _ _ _ _ _ _ _; conv => whnf) | (simp (disch := omega) only [nI_add, nI_mul, setN_now, setN_put, nI_cl, Nat.add_zero]) | (refine hcall _ _ _ _ ?_; first | (refine c_isBlock ?_) | fail))
    all_goals first
      | exact loop 0 (by omega) rfl
      | (exfalso; exact bF hb1 (by assumption))
      | (clear loop hb1; (try clear hX hcall); (try clear h); (try simp (disch := omega) only [cmpT, cmpF, bI_eq0, bI_ne0, Classical.not_not, nI_toI, nI_cl, nI_inj, nI_add, nI_mul, nI_subI, takeL, setL, Int32.toInt_zero, Nat.add_zero, Nat.zero_mul, Nat.zero_add, alen11, alen12, alen13, alen14, alen15, alen16, alen17, alen18, alen19] at *); omega)
  · have e : siteF F a z l = (-2, F) := by
      unfold siteF
      rw [if_pos hb]
    rw [e] at h
    have h := h s Upd.refl hR
    intro call hcall X hX; refine hX 1000 0 _ _ _ ?_
    repeat' (first | (intro hc) | (refine And.intro ?_ ?_) | (exact absurd nI_0 ‹cmpF 0 (nI 0) 0›) | (exact absurd ‹cmpT 0 (nI 1) 0› nI1_ne) | (exact absurd nI_0 ‹cmpT 1 (nI 0) 0›) | (exact absurd ‹cmpF 1 (nI 1) 0› nI1_ne) | (show wp _ _ _ _ _ _ _ _ _ _ _ _; conv => whnf) | (simp (disch := omega) only [nI_add, nI_mul, setN_now, setN_put, nI_cl, Nat.add_zero]) | (refine hcall _ _ _ _ ?_; first | (refine c_isBlock ?_) | fail))
    all_goals first
      | exact h
      | (exfalso; apply hb; refine ⟨bI_ne0.mp (by assumption), ?_⟩; clear h hb; (try clear hX hcall); (try clear h); (try simp (disch := omega) only [cmpT, cmpF, bI_eq0, bI_ne0, Classical.not_not, nI_toI, nI_cl, nI_inj, nI_add, nI_mul, nI_subI, takeL, setL, Int32.toInt_zero, Nat.add_zero, Nat.zero_mul, Nat.zero_add, alen11, alen12, alen13, alen14, alen15, alen16, alen17, alen18, alen19] at *); omega)
end CLS12
end
section
/-! THE CLASS: new servers -/
section CLS13
variable {L : Nat} {xs : Nat → Int32} {f i k r p q c j n B b w w' m sd : Nat} {x y v a z l lo v0 v1 name flow place which : Int32} {s s' t : St} {F G F' u : Fm} {Q : Option MV → St → Prop} {P : Nat → Bool}
set_option maxHeartbeats 4000000 in
set_option maxRecDepth 100000 in
theorem c_newServer (hw : WF F B) (hp : permOk s) (h10 : w < 10) (hR : RepW s w F) (h : ∀ s', Upd s s' w → RepW s' w (serverF F v a z).2 → Q (some (.inl (serverF F v a z).1)) s') : wpM L xs codT retT (f + 3) m_X8_newServer [.inr (8, w), .inl v, .inl a, .inl z] s Q := by
  have r2 := hw.r2
  have s2 := hw.s2
  have t2 := hw.t2
  have e1 : s.1 8 w 3 = nI (cS F) := hR.s1.trans hw.s1
  by_cases hv : iN v (cS F)
  · obtain ⟨p, hp1, hpl⟩ := iN_nn hv (by omega)
    subst hp1
    have en : nn (nI p) = p := nI_cl (by omega)
    obtain ⟨p0, p1, p2⟩ := hR.server hpl
    by_cases hb1 : blkB a z
    · by_cases hb2 : holdF F p a z
      · by_cases hb3 : z.toInt < (F (5 + 3 * p + 2)).toInt
        · have e0 : serverF F (nI p) a z = if anyM F (nI p) a z (cS F) = true then (-3, F) else if cS F = 8 then (-4, F) else (nI (cS F), fun i => if i = 5 + 3 * cS F then nI p else if i = 5 + 3 * cS F + 1 then a else if i = 5 + 3 * cS F + 2 then z else if i = 1 then F 1 + nI 1 else F i) := by
            unfold serverF
            rw [if_neg (fun q => q hv), en, if_neg (fun q => q ⟨hb1, hb2, hb3⟩)]
          have hb3' : z.toInt < (s.1 1 (8 * w + p) 1).toInt := by rw [p2]; exact hb3
          intro call hcall X hX; refine hX 1000 0 _ _ _ ?_
          repeat' (first | (intro hc) | (refine And.intro ?_ ?_) | (exact absurd nI_0 ‹cmpF 0 (nI 0) 0›) | (exact absurd ‹cmpT 0 (nI 1) 0› nI1_ne) | (exact absurd nI_0 ‹cmpT 1 (nI 0) 0›) | (exact absurd ‹cmpF 1 (nI 1) 0› nI1_ne) | (show wp _ _ _ _ _ _ _ _ _ _ _ _; conv => whnf) | (simp (disch := omega) only [nI_cl]) | (simp (disch := omega) only [nI_add, nI_mul, setN_now, setN_put, nI_cl, Nat.add_zero]) | (refine hcall _ _ _ _ ?_; first | (refine c_isServer e1 s2.2 ?_) | (refine c_isBlock ?_) | (refine c_holds p1 p2 ?_) | fail))
          all_goals (try (exfalso; exact bF hv (by assumption)))
          all_goals (try (exfalso; exact bF hb1 (by assumption)))
          all_goals (try (exfalso; exact bF hb2 (by assumption)))
          all_goals (try (simp (disch := omega) only [nI_toI, nI_cl, nI_add, nI_mul, alen11, alen12, alen13, alen14, alen15, alen16, alen17, alen18, alen19]; omega))
          all_goals (try (exfalso; clear h e0 hb1 hb2 hv; (try clear hX hcall); (try clear h); (try simp (disch := omega) only [cmpT, cmpF, bI_eq0, bI_ne0, Classical.not_not, nI_toI, nI_cl, nI_inj, nI_add, nI_mul, nI_subI, takeL, setL, Int32.toInt_zero, Nat.add_zero, Nat.zero_mul, Nat.zero_add, alen11, alen12, alen13, alen14, alen15, alen16, alen17, alen18, alen19] at *); omega))
          simp (disch := omega) only [takeL, setL, nI_cl]
          have loop : ∀ j, j ≤ cS F → anyM F (nI p) a z j = false → X 54 [.inr (8, w), .inl (nI p), .inl a, .inl z, .inr (1, 8 * w + p), .inl (nI j)] [] s := by
            refine loopD (cS F) (fun j hj ih ha => ?_) (fun ha => ?_)
            · obtain ⟨r0, r1, rr2⟩ := hR.server hj
              by_cases hm : 1 ≤ j ∧ F (5 + 3 * j) = nI p ∧ meetF F j a z
              · have ha2 : anyM F (nI p) a z (j + 1) = true := by
                  show (_ || decide _) = true
                  rw [decide_eq_true hm, Bool.or_true]
                rw [if_pos (anyM_s ha2 (cS F) (by omega))] at e0
                rw [e0] at h
                have h := h s Upd.refl hR
                have hm1 : s.1 5 (8 * w + j) 1 = nI p := r0.trans hm.2.1
                have hm2 := hm.2.2
                clear ih e0
                refine hX 1000 54 _ _ _ ?_
                repeat' (first | (intro hc) | (refine And.intro ?_ ?_) | (exact absurd nI_0 ‹cmpF 0 (nI 0) 0›) | (exact absurd ‹cmpT 0 (nI 1) 0› nI1_ne) | (exact absurd nI_0 ‹cmpT 1 (nI 0) 0›) | (exact absurd ‹cmpF 1 (nI 1) 0› nI1_ne) | (show wp _ _ _ _ _ _ _ _ _ _ _ _; conv => whnf) | (simp (disch := omega) only [nI_cl]) | (simp (disch := omega) only [nI_add, nI_mul, setN_now, setN_put, nI_cl, Nat.add_zero]) | (refine hcall _ _ _ _ ?_; first | (refine c_meets r1 rr2 ?_) | fail))
                all_goals first
                  | exact h
                  | (exfalso; exact bF hm2 (by assumption))
                  | (simp (disch := omega) only [nI_toI, nI_cl, nI_add, nI_mul, alen11, alen12, alen13, alen14, alen15, alen16, alen17, alen18, alen19]; omega)
                  | (exfalso; clear h hm hm2 hX hcall; simp (disch := omega) only [cmpT, cmpF, nI_cl] at *; contradiction)
                  | (clear h hm hm2 hv hb1 hb2; (try clear hX hcall); (try clear h); (try simp (disch := omega) only [cmpT, cmpF, bI_eq0, bI_ne0, Classical.not_not, nI_toI, nI_cl, nI_inj, nI_add, nI_mul, nI_subI, takeL, setL, Int32.toInt_zero, Nat.add_zero, setN_now, alen20, alen11, alen12, alen13, alen14, alen15, alen16, alen17, alen18, alen19, (id e1)] at *); omega)
              · have ha2 : anyM F (nI p) a z (j + 1) = false := by
                  show (_ || decide _) = false
                  rw [ha, decide_eq_false hm]
                  rfl
                replace ih := ih ha2
                have hm2 : s.1 5 (8 * w + j) 1 = nI p → ¬ meetF F j a z := fun q1 q2 => by
                  by_cases h0 : j = 0
                  · subst h0
                    have ep : F (5 + 3 * 0) = -5 := (hw.server hj).2.1 rfl
                    exact nI_n5 (by omega) (q1.symm.trans (r0.trans ep))
                  · exact hm ⟨by omega, r0.symm.trans q1, q2⟩
                clear h e0 hm
                refine hX 1000 54 _ _ _ ?_
                repeat' (first | (intro hc) | (refine And.intro ?_ ?_) | (exact absurd nI_0 ‹cmpF 0 (nI 0) 0›) | (exact absurd ‹cmpT 0 (nI 1) 0› nI1_ne) | (exact absurd nI_0 ‹cmpT 1 (nI 0) 0›) | (exact absurd ‹cmpF 1 (nI 1) 0› nI1_ne) | (show wp _ _ _ _ _ _ _ _ _ _ _ _; conv => whnf) | (simp (disch := omega) only [nI_cl]) | (simp (disch := omega) only [nI_add, nI_mul, setN_now, setN_put, nI_cl, Nat.add_zero]) | (refine hcall _ _ _ _ ?_; first | (refine c_meets r1 rr2 ?_) | fail))
                all_goals first
                  | (simp only [takeL, setL, nI_add]; exact ih)
                  | (simp (disch := omega) only [nI_toI, nI_cl, nI_add, nI_mul, alen11, alen12, alen13, alen14, alen15, alen16, alen17, alen18, alen19]; omega)
                  | (exfalso; refine hm2 ?_ (bI_ne0.mp (by assumption)); clear hm2 ih hX hcall; simp (disch := omega) only [cmpT, cmpF, nI_cl] at *; assumption)
                  | (clear ih hm2 hv hb1 hb2; (try clear hX hcall); (try clear h); (try simp (disch := omega) only [cmpT, cmpF, bI_eq0, bI_ne0, Classical.not_not, nI_toI, nI_cl, nI_inj, nI_add, nI_mul, nI_subI, takeL, setL, Int32.toInt_zero, Nat.add_zero, setN_now, alen20, alen11, alen12, alen13, alen14, alen15, alen16, alen17, alen18, alen19, (id e1)] at *); omega)
            · rw [if_neg (by rw [ha]; decide)] at e0
              by_cases h8 : cS F = 8
              · rw [if_pos h8] at e0
                rw [e0] at h
                have h := h s Upd.refl hR
                clear e0
                refine hX 1000 54 _ _ _ ?_
                repeat' (first | (intro hc) | (refine And.intro ?_ ?_) | (exact absurd nI_0 ‹cmpF 0 (nI 0) 0›) | (exact absurd ‹cmpT 0 (nI 1) 0› nI1_ne) | (exact absurd nI_0 ‹cmpT 1 (nI 0) 0›) | (exact absurd ‹cmpF 1 (nI 1) 0› nI1_ne) | (show wp _ _ _ _ _ _ _ _ _ _ _ _; conv => whnf))
                all_goals first
                  | exact h
                  | (clear h hv hb1 hb2; (try clear hX hcall); (try clear h); (try simp (disch := omega) only [cmpT, cmpF, bI_eq0, bI_ne0, Classical.not_not, nI_toI, nI_cl, nI_inj, nI_add, nI_mul, nI_subI, takeL, setL, Int32.toInt_zero, Nat.add_zero, setN_now, alen20, alen11, alen12, alen13, alen14, alen15, alen16, alen17, alen18, alen19, (id e1)] at *); omega)
              · rw [if_neg h8] at e0
                rw [e0] at h
                dsimp only at h
                have hF : ∀ i, i ≠ 1 → (i < 5 + 3 * cS F ∨ 5 + 3 * cS F + 3 ≤ i) → (fun i => if i = 5 + 3 * cS F then nI p else if i = 5 + 3 * cS F + 1 then a else if i = 5 + 3 * cS F + 2 then z else if i = 1 then F 1 + nI 1 else F i) i = F i := fun i h1 h2 => by
                  dsimp only
                  rw [if_neg (by omega), if_neg (by omega), if_neg (by omega), if_neg h1]
                have hF1 : (fun i => if i = 5 + 3 * cS F then nI p else if i = 5 + 3 * cS F + 1 then a else if i = 5 + 3 * cS F + 2 then z else if i = 1 then F 1 + nI 1 else F i) 1 = nI (cS F + 1) := by
                  dsimp only
                  rw [if_neg (by omega), if_neg (by omega), if_neg (by omega), if_pos rfl, hw.s1, nI_add]
                have f0 : (fun i => if i = 5 + 3 * cS F then nI p else if i = 5 + 3 * cS F + 1 then a else if i = 5 + 3 * cS F + 2 then z else if i = 1 then F 1 + nI 1 else F i) (5 + 3 * cS F) = nI p := if_pos rfl
                have f1 : (fun i => if i = 5 + 3 * cS F then nI p else if i = 5 + 3 * cS F + 1 then a else if i = 5 + 3 * cS F + 2 then z else if i = 1 then F 1 + nI 1 else F i) (5 + 3 * cS F + 1) = a := by
                  dsimp only
                  rw [if_neg (by omega), if_pos rfl]
                have f2 : (fun i => if i = 5 + 3 * cS F then nI p else if i = 5 + 3 * cS F + 1 then a else if i = 5 + 3 * cS F + 2 then z else if i = 1 then F 1 + nI 1 else F i) (5 + 3 * cS F + 2) = z := by
                  dsimp only
                  rw [if_neg (by omega), if_neg (by omega), if_pos rfl]
                generalize hG : (fun i => if i = 5 + 3 * cS F then nI p else if i = 5 + 3 * cS F + 1 then a else if i = 5 + 3 * cS F + 2 then z else if i = 1 then F 1 + nI 1 else F i) = F1 at *
                have fin : Q (some (.inl (nI (cS F)))) (putV (putV (putV (putV s 1 (8 * w + cS F) 0 a) 1 (8 * w + cS F) 1 z) 5 (8 * w + cS F) 1 (nI p)) 8 w 3 (nI (cS F + 1))) := by
                  have eT : cT F1 = cT F := by unfold cT; rw [hF 2 (by omega) (by omega)]
                  have eR : cR F1 = cR F := by unfold cR; rw [hF 3 (by omega) (by omega)]
                  have eS : cS F1 = cS F + 1 := by unfold cS at hF1 ⊢; rw [hF1]; exact nI_cl (by unfold cS at s2; omega)
                  refine h _ ((((Upd_put (own_1a h10 (by omega))).put (own_1a h10 (by omega))).put (own_5 (by omega))).put rfl) ⟨?_, fun k hk => ?_, fun k hk => ?_, fun r hk => ?_⟩
                  · refine ⟨?_, ?_, ?_, ?_, ?_⟩
                    · rw [putV_at, hF1]
                    · simp (disch := omega) only [putV_ne]; rw [hF 2 (by omega) (by omega)]; exact hR.t1
                    · simp (disch := omega) only [putV_ne]; rw [hF 3 (by omega) (by omega)]; exact hR.r1
                    · simp (disch := omega) only [putV_ne]; rw [hF 0 (by omega) (by omega)]; exact hR.h1
                    · simp (disch := omega) only [putV_ne]; rw [hF 4 (by omega) (by omega)]; exact hR.l1
                  · by_cases e : k = cS F
                    · subst e
                      refine ⟨?_, ?_, ?_⟩
                      · simp (disch := omega) only [putV_ne, putV_at]; rw [f0]
                      · simp (disch := omega) only [putV_ne, putV_at]; rw [f1]
                      · simp (disch := omega) only [putV_ne, putV_at]; rw [f2]
                    · exact repServer_cg (fun j => by simp (disch := omega) only [putV_ne]) (fun j => by simp (disch := omega) only [putV_ne]) (fun i a b => hF i (by omega) (by omega)) (hR.server (by omega))
                  · exact repSite_cg (fun j => by simp (disch := omega) only [putV_ne]) (fun j => by simp (disch := omega) only [putV_ne]) (fun j _ => by simp (disch := omega) only [putV_ne]) (fun i a b => hF i (by omega) (by omega)) (hR.site (by omega))
                  · have m0 := mA_eq r 0
                    have wr := hw.router (r := r) (by omega)
                    have o1 : ∀ m, m < 80 → ownR 1 m = 999 := fun m hm => if_pos (by omega)
                    have g := repRouter_s (s' := putV (putV (putV (putV s 1 (8 * w + cS F) 0 a) 1 (8 * w + cS F) 1 z) 5 (8 * w + cS F) 1 (nI p)) 8 w 3 (nI (cS F + 1))) wr hp (i := 4 * w + r) (by omega) ((((sameR_put (by rw [o1 _ (by omega)]; omega)).put (by rw [o1 _ (by omega)]; omega)).put (fun q => by have q : 999 = 4 * w + r := q; omega)).put (fun q => by have q : 999 = 4 * w + r := q; omega)) (hR.router (by omega))
                    exact repRouter_F wr (fun i a b => hF i (by omega) (by omega)) (fun i a b => hF i (by omega) (by omega)) (fun t ht => ⟨hF _ (by omega) (by omega), hF _ (by omega) (by omega)⟩) g
                clear h e0
                have q1 : ∀ x y : Int32, (putV (putV s 1 (8 * w + cS F) 0 x) 1 (8 * w + cS F) 1 y).1 8 w 3 = nI (cS F) := fun x y => by simp (disch := omega) only [putV_ne]; exact e1
                have q2 : ∀ x y y2 : Int32, (putV (putV (putV s 1 (8 * w + cS F) 0 x) 1 (8 * w + cS F) 1 y) 5 (8 * w + cS F) 1 y2).1 8 w 3 = nI (cS F) := fun x y y2 => by simp (disch := omega) only [putV_ne]; exact e1
                refine hX 1000 54 _ _ _ ?_
                repeat' (first | (intro hc) | (refine And.intro ?_ ?_) | (exact absurd nI_0 ‹cmpF 0 (nI 0) 0›) | (exact absurd ‹cmpT 0 (nI 1) 0› nI1_ne) | (exact absurd nI_0 ‹cmpT 1 (nI 0) 0›) | (exact absurd ‹cmpF 1 (nI 1) 0› nI1_ne) | (show wp _ _ _ _ _ _ _ _ _ _ _ _; conv => whnf) | (rw [e1]) | (rw [q1]) | (rw [q2]) | (simp (disch := omega) only [nI_cl]) | (simp (disch := omega) only [nI_add, nI_mul, setN_now, setN_put, nI_cl, Nat.add_zero]) | (refine hcall _ _ _ _ ?_; first | (refine c_become ?_) | fail))
                all_goals first
                  | exact fin
                  | (rw [q2, putV_at, nI_add, nI_sub (by omega) (by omega), Nat.add_sub_cancel]; exact fin)
                  | (rw [putV_at, nI_add, nI_sub (by omega) (by omega), Nat.add_sub_cancel]; exact fin)
                  | (simp (disch := omega) only [nI_toI, nI_cl, nI_add, nI_mul, alen11, alen12, alen13, alen14, alen15, alen16, alen17, alen18, alen19]; omega)
                  | (rw [putV_at, nI_sub (by omega) (by omega), Nat.add_sub_cancel]; exact fin)
                  | (clear fin hv hb1 hb2; (try clear hX hcall); (try clear h); (try simp (disch := omega) only [cmpT, cmpF, bI_eq0, bI_ne0, Classical.not_not, nI_toI, nI_cl, nI_inj, nI_add, nI_mul, nI_subI, takeL, setL, Int32.toInt_zero, Nat.add_zero, setN_now, alen20, alen11, alen12, alen13, alen14, alen15, alen16, alen17, alen18, alen19, (id e1)] at *); omega)
          exact loop 0 (by omega) rfl
        · have e : serverF F (nI p) a z = (-2, F) := by
            unfold serverF
            rw [if_neg (fun q => q hv), en, if_pos (fun q => hb3 q.2.2)]
          rw [e] at h
          have h := h s Upd.refl hR
          have hb3' : ¬ z.toInt < (s.1 1 (8 * w + p) 1).toInt := by rw [p2]; exact hb3
          intro call hcall X hX; refine hX 1000 0 _ _ _ ?_
          repeat' (first | (intro hc) | (refine And.intro ?_ ?_) | (exact absurd nI_0 ‹cmpF 0 (nI 0) 0›) | (exact absurd ‹cmpT 0 (nI 1) 0› nI1_ne) | (exact absurd nI_0 ‹cmpT 1 (nI 0) 0›) | (exact absurd ‹cmpF 1 (nI 1) 0› nI1_ne) | (show wp _ _ _ _ _ _ _ _ _ _ _ _; conv => whnf) | (simp (disch := omega) only [nI_cl]) | (simp (disch := omega) only [nI_add, nI_mul, setN_now, setN_put, nI_cl, Nat.add_zero]) | (refine hcall _ _ _ _ ?_; first | (refine c_isServer e1 s2.2 ?_) | (refine c_isBlock ?_) | (refine c_holds p1 p2 ?_) | fail))
          all_goals first
            | exact h
            | (exfalso; exact bF hv (by assumption))
            | (exfalso; exact bF hb1 (by assumption))
            | (exfalso; exact bF hb2 (by assumption))
            | (simp (disch := omega) only [nI_toI, nI_cl, nI_add, nI_mul, alen11, alen12, alen13, alen14, alen15, alen16, alen17, alen18, alen19]; omega)
            | (exfalso; clear h e hb1 hb2 hv; (try clear hX hcall); (try clear h); (try simp (disch := omega) only [cmpT, cmpF, bI_eq0, bI_ne0, Classical.not_not, nI_toI, nI_cl, nI_inj, nI_add, nI_mul, nI_subI, takeL, setL, Int32.toInt_zero, Nat.add_zero, Nat.zero_mul, Nat.zero_add, alen11, alen12, alen13, alen14, alen15, alen16, alen17, alen18, alen19] at *); omega)
      · have e : serverF F (nI p) a z = (-2, F) := by
          unfold serverF
          rw [if_neg (fun q => q hv), en, if_pos (fun q => hb2 q.2.1)]
        rw [e] at h
        have h := h s Upd.refl hR
        intro call hcall X hX; refine hX 1000 0 _ _ _ ?_
        repeat' (first | (intro hc) | (refine And.intro ?_ ?_) | (exact absurd nI_0 ‹cmpF 0 (nI 0) 0›) | (exact absurd ‹cmpT 0 (nI 1) 0› nI1_ne) | (exact absurd nI_0 ‹cmpT 1 (nI 0) 0›) | (exact absurd ‹cmpF 1 (nI 1) 0› nI1_ne) | (show wp _ _ _ _ _ _ _ _ _ _ _ _; conv => whnf) | (simp (disch := omega) only [nI_cl]) | (simp (disch := omega) only [nI_add, nI_mul, setN_now, setN_put, nI_cl, Nat.add_zero]) | (refine hcall _ _ _ _ ?_; first | (refine c_isServer e1 s2.2 ?_) | (refine c_isBlock ?_) | (refine c_holds p1 p2 ?_) | fail))
        all_goals first
          | exact h
          | (exfalso; exact bF hv (by assumption))
          | (exfalso; exact bF hb1 (by assumption))
          | (exfalso; exact bT hb2 (by assumption))
          | (simp (disch := omega) only [nI_toI, nI_cl, nI_add, nI_mul, alen11, alen12, alen13, alen14, alen15, alen16, alen17, alen18, alen19]; omega)
    · have e : serverF F (nI p) a z = (-2, F) := by
        unfold serverF
        rw [if_neg (fun q => q hv), en, if_pos (fun q => hb1 q.1)]
      rw [e] at h
      have h := h s Upd.refl hR
      intro call hcall X hX; refine hX 1000 0 _ _ _ ?_
      repeat' (first | (intro hc) | (refine And.intro ?_ ?_) | (exact absurd nI_0 ‹cmpF 0 (nI 0) 0›) | (exact absurd ‹cmpT 0 (nI 1) 0› nI1_ne) | (exact absurd nI_0 ‹cmpT 1 (nI 0) 0›) | (exact absurd ‹cmpF 1 (nI 1) 0› nI1_ne) | (show wp _ _ _ _ _ _ _ _ _ _ _ _; conv => whnf) | (simp (disch := omega) only [nI_cl]) | (simp (disch := omega) only [nI_add, nI_mul, setN_now, setN_put, nI_cl, Nat.add_zero]) | (refine hcall _ _ _ _ ?_; first | (refine c_isServer e1 s2.2 ?_) | (refine c_isBlock ?_) | fail))
      all_goals first
        | exact h
        | (exfalso; exact bF hv (by assumption))
        | (exfalso; exact bT hb1 (by assumption))
        | (simp (disch := omega) only [nI_toI, nI_cl, nI_add, nI_mul, alen11, alen12, alen13, alen14, alen15, alen16, alen17, alen18, alen19]; omega)
  · have e : serverF F v a z = (-1, F) := by unfold serverF; rw [if_pos hv]
    rw [e] at h
    have h := h s Upd.refl hR
    intro call hcall X hX; refine hX 1000 0 _ _ _ ?_
    repeat' (first | (intro hc) | (refine And.intro ?_ ?_) | (exact absurd nI_0 ‹cmpF 0 (nI 0) 0›) | (exact absurd ‹cmpT 0 (nI 1) 0› nI1_ne) | (exact absurd nI_0 ‹cmpT 1 (nI 0) 0›) | (exact absurd ‹cmpF 1 (nI 1) 0› nI1_ne) | (show wp _ _ _ _ _ _ _ _ _ _ _ _; conv => whnf) | (simp (disch := omega) only [nI_add, nI_mul, setN_now, setN_put, nI_cl, Nat.add_zero]) | (refine hcall _ _ _ _ ?_; first | (refine c_isServer e1 s2.2 ?_) | fail))
    all_goals first
      | exact h
      | (exfalso; exact bT hv (by assumption))
end CLS13
end
section
/-! THE CLASS: the rows of maps -/
def setP (s : St) (i : Nat) (P : Nat → Nat) : St := (s.1, fun a b => if a = i then P b else s.2 a b)
def dropP (P : Nat → Nat) (p n : Nat) : Nat → Nat := fun b => if b = n - 1 then P p else if p ≤ b ∧ b < n - 1 then P (b + 1) else P b
def drK2 (P : Nat → Nat) (p m : Nat) : Nat → Nat := fun b => if p ≤ b ∧ b < m then P (b + 1) else P b
def frontP (P : Nat → Nat) (p : Nat) : Nat → Nat := fun b => if b = 0 then P p else if 0 < b ∧ b ≤ p then P (b - 1) else P b
def frK2 (P : Nat → Nat) (p m : Nat) : Nat → Nat := fun b => if m < b ∧ b ≤ p then P (b - 1) else P b
section CLS14
variable {L : Nat} {xs : Nat → Int32} {f i k r p q c j n B b w w' m sd : Nat} {x y v a z l lo v0 v1 name flow place which : Int32} {s s' t : St} {F G F' u : Fm} {Q : Option MV → St → Prop} {P : Nat → Nat}
theorem setP_at : (setP s i P).2 i j = P j := if_pos rfl
theorem setP_o {i' : Nat} (h : i' ≠ i) : (setP s i P).2 i' j = s.2 i' j := if_neg h
theorem setP_1 {a b d : Nat} : (setP s i P).1 a b d = s.1 a b d := rfl
theorem setP_self : setP s i (s.2 i) = s := by
  unfold setP
  apply Prod.ext
  · rfl
  · funext a b
    show (if a = i then s.2 i b else s.2 a b) = s.2 a b
    split
    · rename_i h; rw [h]
    · rfl
theorem setP_put {y : Nat} : putP (setP s i P) i k y = setP s i (fun b => if b = k then y else P b) := by
  unfold setP putP
  apply Prod.ext
  · rfl
  · funext a b
    show (if a = i ∧ b = k then y else if a = i then P b else s.2 a b) = (if a = i then (if b = k then y else P b) else s.2 a b)
    by_cases h1 : a = i <;> by_cases h2 : b = k <;> simp [h1, h2]
theorem putP_putV {c j m y : Nat} : putP (putV s c j k x) i m y = putV (putP s i m y) c j k x := rfl
theorem drK2_0 : drK2 P p p = P := by
  funext b
  simp only [drK2]
  rw [if_neg (by omega)]
theorem drK2_s (h : p ≤ m) : (fun b => if b = m then drK2 P p m (m + 1) else drK2 P p m b) = drK2 P p (m + 1) := by
  funext b
  simp only [drK2]
  (repeat' split) <;> first | rfl | omega | (exfalso; omega) | (congr 1; omega)
theorem drK2_e : (fun b => if b = n - 1 then P p else drK2 P p (n - 1) b) = dropP P p n := rfl
theorem frK2_0 : frK2 P p p = P := by
  funext b
  simp only [frK2]
  rw [if_neg (by omega)]
theorem frK2_s (h : m + 1 ≤ p) : (fun b => if b = m + 1 then frK2 P p (m + 1) m else frK2 P p (m + 1) b) = frK2 P p m := by
  funext b
  simp only [frK2]
  (repeat' split) <;> first | rfl | omega | (exfalso; omega) | (congr 1; omega)
theorem frK2_e : (fun b => if b = 0 then P p else frK2 P p 0 b) = frontP P p := rfl
set_option maxHeartbeats 4000000 in
set_option maxRecDepth 100000 in
theorem c_drop (e : s.1 4 i 1 = nI n) (h5 : n ≤ 5) (hp : p < n) (h : Q none (putV (setP s i (dropP (s.2 i) p n)) 4 i 1 (nI (n - 1)))) : wpM L xs codT retT (f + 2) m_X4_drop [.inr (4, i), .inl (nI p)] s Q := by
  have hp2 := iN_k hp (by omega)
  have e' : ∀ P, (setP s i P).1 4 i 1 = nI n := fun _ => e
  intro call hcall X hX; refine hX 1000 0 _ _ _ ?_
  repeat' (first | (intro hc) | (refine And.intro ?_ ?_) | (exact absurd nI_0 ‹cmpF 0 (nI 0) 0›) | (exact absurd ‹cmpT 0 (nI 1) 0› nI1_ne) | (exact absurd nI_0 ‹cmpT 1 (nI 0) 0›) | (exact absurd ‹cmpF 1 (nI 1) 0› nI1_ne) | (show wp _ _ _ _ _ _ _ _ _ _ _ _; conv => whnf) | (simp (disch := omega) only [nI_add, nI_mul, setN_now, setN_put, nI_cl, Nat.add_zero]) | (refine hcall _ _ _ _ ?_; first | (refine c_isPlace e h5 ?_) | fail))
  all_goals (try (exfalso; exact bF hp2 (by assumption)))
  all_goals (try (simp (disch := omega) only [nI_toI, nI_cl, nI_add, nI_mul, alen11, alen12, alen13, alen14, alen15, alen16, alen17, alen18, alen19]; omega))
  simp (disch := omega) only [takeL, setL, nI_cl]
  have loop : ∀ P, P = s.2 i → X 18 [.inr (4, i), .inl (nI p), .inr (2, s.2 i p), .inl (nI p)] [] (setP s i P) := by
    intro P hP
    have h : Q none (putV (setP s i (dropP P p n)) 4 i 1 (nI (n - 1))) := by rw [hP]; exact h
    have eP : s.2 i p = P p := by rw [hP]
    rw [eP]
    clear eP hP
    rw [← drK2_0 (P := P) (p := p)]
    refine loopN (P := fun m => p ≤ m → X 18 [.inr (4, i), .inl (nI p), .inr (2, drK2 P p p p), .inl (nI m)] [] (setP s i (drK2 P p m))) (n - 1) (fun m hm ih hpm => ?_) (fun hpm => ?_) p (by omega) (Nat.le_refl _)
    · have ih := ih (by omega)
      rw [← drK2_s hpm] at ih
      clear h
      refine hX 1000 18 _ _ _ ?_
      repeat' (first | (intro hc) | (refine And.intro ?_ ?_) | (exact absurd nI_0 ‹cmpF 0 (nI 0) 0›) | (exact absurd ‹cmpT 0 (nI 1) 0› nI1_ne) | (exact absurd nI_0 ‹cmpT 1 (nI 0) 0›) | (exact absurd ‹cmpF 1 (nI 1) 0› nI1_ne) | (show wp _ _ _ _ _ _ _ _ _ _ _ _; conv => whnf) | (rw [e']) | (simp (disch := omega) only [nI_cl, nI_sub, setP_at, setP_put]))
      all_goals first
        | (simp (disch := omega) only [takeL, setL, nI_add, nI_cl, setP_at, setP_put]; exact ih)
        | (simp (disch := omega) only [nI_toI, nI_cl, nI_add, nI_mul, alen11, alen12, alen13, alen14, alen15, alen16, alen17, alen18, alen19]; omega)
        | (clear ih hp2; simp (disch := omega) only [cmpT, cmpF, e', nI_sub, nI_toI, nI_subI] at *; omega)
    · refine hX 1000 18 _ _ _ ?_
      repeat' (first | (intro hc) | (refine And.intro ?_ ?_) | (exact absurd nI_0 ‹cmpF 0 (nI 0) 0›) | (exact absurd ‹cmpT 0 (nI 1) 0› nI1_ne) | (exact absurd nI_0 ‹cmpT 1 (nI 0) 0›) | (exact absurd ‹cmpF 1 (nI 1) 0› nI1_ne) | (show wp _ _ _ _ _ _ _ _ _ _ _ _; conv => whnf) | (rw [e']) | (simp (disch := omega) only [nI_cl, nI_sub, setP_at, setP_put, putV_at, putP_putV]))
      all_goals first
        | (rw [drK2_0]; exact h)
        | (simp (disch := omega) only [nI_cl, nI_sub, setP_at, setP_put, putV_at, putP_putV, e', drK2_0]; exact h)
        | (simp (disch := omega) only [nI_toI, nI_cl, nI_add, nI_mul, alen11, alen12, alen13, alen14, alen15, alen16, alen17, alen18, alen19]; omega)
        | (clear h hp2; simp (disch := omega) only [cmpT, cmpF, e', nI_sub, nI_toI, nI_subI, putV_at, alen14] at *; omega)
  have hl := loop _ rfl
  rw [setP_self] at hl
  exact hl
set_option maxHeartbeats 4000000 in
set_option maxRecDepth 100000 in
theorem c_dropNo (e : s.1 4 i 1 = nI n) (h5 : n ≤ 5) (hp : ¬ iN v n) (h : Q none s) : wpM L xs codT retT (f + 2) m_X4_drop [.inr (4, i), .inl v] s Q := by
  intro call hcall X hX; refine hX 1000 0 _ _ _ ?_
  repeat' (first | (intro hc) | (refine And.intro ?_ ?_) | (exact absurd nI_0 ‹cmpF 0 (nI 0) 0›) | (exact absurd ‹cmpT 0 (nI 1) 0› nI1_ne) | (exact absurd nI_0 ‹cmpT 1 (nI 0) 0›) | (exact absurd ‹cmpF 1 (nI 1) 0› nI1_ne) | (show wp _ _ _ _ _ _ _ _ _ _ _ _; conv => whnf) | (simp (disch := omega) only [nI_add, nI_mul, setN_now, setN_put, nI_cl, Nat.add_zero]) | (refine hcall _ _ _ _ ?_; first | (refine c_isPlace e h5 ?_) | fail))
  all_goals first
    | exact h
    | (exfalso; exact bT hp (by assumption))
set_option maxHeartbeats 4000000 in
set_option maxRecDepth 100000 in
theorem c_front (e : s.1 4 i 1 = nI n) (h5 : n ≤ 5) (hp : p < n) (h : Q none (setP s i (frontP (s.2 i) p))) : wpM L xs codT retT (f + 2) m_X4_moveToFront [.inr (4, i), .inl (nI p)] s Q := by
  have hp2 := iN_k hp (by omega)
  intro call hcall X hX; refine hX 1000 0 _ _ _ ?_
  repeat' (first | (intro hc) | (refine And.intro ?_ ?_) | (exact absurd nI_0 ‹cmpF 0 (nI 0) 0›) | (exact absurd ‹cmpT 0 (nI 1) 0› nI1_ne) | (exact absurd nI_0 ‹cmpT 1 (nI 0) 0›) | (exact absurd ‹cmpF 1 (nI 1) 0› nI1_ne) | (show wp _ _ _ _ _ _ _ _ _ _ _ _; conv => whnf) | (simp (disch := omega) only [nI_add, nI_mul, setN_now, setN_put, nI_cl, Nat.add_zero]) | (refine hcall _ _ _ _ ?_; first | (refine c_isPlace e h5 ?_) | fail))
  all_goals (try (exfalso; exact bF hp2 (by assumption)))
  all_goals (try (simp (disch := omega) only [nI_toI, nI_cl, nI_add, nI_mul, alen11, alen12, alen13, alen14, alen15, alen16, alen17, alen18, alen19]; omega))
  simp (disch := omega) only [takeL, setL, nI_cl]
  have loop : ∀ P, P = s.2 i → X 18 [.inr (4, i), .inl (nI p), .inr (2, s.2 i p), .inl (nI p)] [] (setP s i P) := by
    intro P hP
    have h : Q none (setP s i (frontP P p)) := by rw [hP]; exact h
    have eP : s.2 i p = P p := by rw [hP]
    rw [eP]
    clear eP hP
    have lp : ∀ m, m ≤ p → X 18 [.inr (4, i), .inl (nI p), .inr (2, P p), .inl (nI m)] [] (setP s i (frK2 P p m)) := by
      intro m
      induction m with
      | zero =>
        intro _
        refine hX 1000 18 _ _ _ ?_
        repeat' (first | (intro hc) | (refine And.intro ?_ ?_) | (exact absurd nI_0 ‹cmpF 0 (nI 0) 0›) | (exact absurd ‹cmpT 0 (nI 1) 0› nI1_ne) | (exact absurd nI_0 ‹cmpT 1 (nI 0) 0›) | (exact absurd ‹cmpF 1 (nI 1) 0› nI1_ne) | (show wp _ _ _ _ _ _ _ _ _ _ _ _; conv => whnf) | (simp (disch := omega) only [nI_cl, nI_sub, setP_at, setP_put]))
        all_goals first
          | exact h
          | (simp (disch := omega) only [nI_cl, nI_sub, setP_at, setP_put]; exact h)
          | (simp (disch := omega) only [nI_toI, nI_cl, nI_add, nI_mul, alen11, alen12, alen13, alen14, alen15, alen16, alen17, alen18, alen19]; omega)
          | (clear h hp2; simp (disch := omega) only [cmpT, cmpF, nI_toI, Int32.toInt_zero] at *; omega)
      | succ m ih =>
        intro hm
        have ih := ih (by omega)
        rw [← frK2_s hm] at ih
        clear h
        refine hX 1000 18 _ _ _ ?_
        repeat' (first | (intro hc) | (refine And.intro ?_ ?_) | (exact absurd nI_0 ‹cmpF 0 (nI 0) 0›) | (exact absurd ‹cmpT 0 (nI 1) 0› nI1_ne) | (exact absurd nI_0 ‹cmpT 1 (nI 0) 0›) | (exact absurd ‹cmpF 1 (nI 1) 0› nI1_ne) | (show wp _ _ _ _ _ _ _ _ _ _ _ _; conv => whnf) | (simp (disch := omega) only [nI_cl, nI_sub, setP_at, setP_put, Nat.add_sub_cancel]))
        all_goals first
          | (simp (disch := omega) only [takeL, setL, nI_m1, nI_cl, setP_at, setP_put, Nat.add_sub_cancel]; exact ih)
          | (simp (disch := omega) only [nI_toI, nI_cl, nI_add, nI_mul, alen11, alen12, alen13, alen14, alen15, alen16, alen17, alen18, alen19]; omega)
          | (clear ih hp2; simp (disch := omega) only [cmpT, cmpF, nI_toI, Int32.toInt_zero, nI_sub] at *; omega)
    have g := lp p (Nat.le_refl _)
    rw [frK2_0] at g
    exact g
  have hl := loop _ rfl
  rw [setP_self] at hl
  exact hl
theorem permOk_set (hp : permOk s) (hi : i < 40) (g : Nat → Nat) (hg : ∀ j, j < 5 → g j < 5 ∧ P j = s.2 i (g j)) (hj : ∀ j j', j < 5 → j' < 5 → g j = g j' → j = j') : permOk (setP s i P) := by
  intro i' hi'
  by_cases e : i' = i
  · subst e
    refine ⟨fun j h => ?_, fun j j' h1 h2 h3 => ?_⟩
    · rw [setP_at, (hg j h).2]
      exact (hp i' hi).1 _ (hg j h).1
    · rw [setP_at, setP_at, (hg j h1).2, (hg j' h2).2] at h3
      exact hj j j' h1 h2 ((hp i' hi).2 _ _ (hg j h1).1 (hg j' h2).1 h3)
  · refine ⟨fun j h => ?_, fun j j' h1 h2 h3 => ?_⟩
    · rw [setP_o e]; exact (hp i' hi').1 j h
    · rw [setP_o e, setP_o e] at h3; exact (hp i' hi').2 j j' h1 h2 h3
theorem permOk_put (hp : permOk s) {c : Nat} : permOk (putV s c i k x) := permOk_of (fun _ _ => rfl) hp
theorem perm_drop (hp : permOk s) (hi : i < 40) (h5 : n ≤ 5) (hq : p < n) : permOk (setP s i (dropP (s.2 i) p n)) := permOk_set hp hi (fun b => if b = n - 1 then p else if p ≤ b ∧ b < n - 1 then b + 1 else b) (fun j hj => ⟨by (repeat' split) <;> omega, by
  show (if j = n - 1 then s.2 i p else if p ≤ j ∧ j < n - 1 then s.2 i (j + 1) else s.2 i j) = _
  (repeat' split) <;> rfl⟩) (fun j j' a b e => by
  (try dsimp only at e)
  (repeat' split at e) <;> omega)
theorem perm_front (hp : permOk s) (hi : i < 40) (hq : p < 5) : permOk (setP s i (frontP (s.2 i) p)) := permOk_set hp hi (fun b => if b = 0 then p else if 0 < b ∧ b ≤ p then b - 1 else b) (fun j hj => ⟨by (repeat' split) <;> omega, by
  show (if j = 0 then s.2 i p else if 0 < j ∧ j ≤ p then s.2 i (j - 1) else s.2 i j) = _
  (repeat' split) <;> rfl⟩) (fun j j' a b e => by
  (try dsimp only at e)
  (repeat' split at e) <;> omega)
theorem repMap_t {y : Nat} (h : ∀ c j k, c ≠ 4 → s'.1 c j k = s.1 c j k) (q : repMap s y F r p) : repMap s' y F r p := by
  unfold repMap at q ⊢
  rw [h 2 _ _ (by decide), h 2 _ _ (by decide), h 2 _ _ (by decide), h 2 _ _ (by decide), h 1 _ _ (by decide), h 1 _ _ (by decide)]
  exact ⟨q.1, q.2.1, q.2.2.1, q.2.2.2.1, q.2.2.2.2.1, q.2.2.2.2.2.1, cellsRep_cg (fun k => h 15 _ k (by decide)) q.2.2.2.2.2.2⟩
set_option maxHeartbeats 4000000 in
set_option maxRecDepth 100000 in
theorem rep_drop (hw : WFrouter F r) (hr : r < 4) (ht : cT F ≤ 8) (q : repRouter s i F r) (hp : p < cM F r) : repRouter (putV (setP s i (dropP (s.2 i) p (cM F r))) 4 i 1 (nI (cM F r - 1))) i (dropsF F r p) r := by
  have w5 := hw.2.1
  obtain ⟨d1, d2⟩ := drops_c (p := p) hw (by omega)
  have m0 := mA_eq r 0
  have m5 := mA_eq r 5
  have dc : ∀ k, 0 < k → k < 6 → dropsF F r p (165 + 6 * r + k) = F (165 + 6 * r + k) := fun k h1 h2 => drops_o hr (by omega) w5 (by omega)
  refine ⟨by rw [putV_at, d1], ?_, ?_, ?_, ?_, ?_, fun b hb => ?_⟩
  · rw [putV_ne (by omega), dc 1 (by omega) (by omega)]; exact q.2.1
  · rw [putV_ne (by omega), dc 2 (by omega) (by omega)]; exact q.2.2.1
  · rw [putV_ne (by omega), dc 3 (by omega) (by omega)]; exact q.2.2.2.1
  · rw [putV_ne (by omega), dc 4 (by omega) (by omega)]; exact q.2.2.2.2.1
  · rw [putV_ne (by omega), dc 5 (by omega) (by omega)]; exact q.2.2.2.2.2.1
  · rw [d2] at hb
    have eb : (putV (setP s i (dropP (s.2 i) p (cM F r))) 4 i 1 (nI (cM F r - 1))).2 i b = s.2 i (if p ≤ b then b + 1 else b) := by
      show (setP s i (dropP (s.2 i) p (cM F r))).2 i b = _
      rw [setP_at]
      unfold dropP
      rw [if_neg (by omega)]
      by_cases h : p ≤ b
      · rw [if_pos ⟨h, hb⟩, if_pos h]
      · rw [if_neg (fun q => h q.1), if_neg h]
    rw [eb]
    have hb2 : (if p ≤ b then b + 1 else b) < cM F r := by split <;> omega
    refine repMap_t (s := s) (fun c j k hc => (putV_ne (Or.inl hc)).trans rfl) (repMap_F (hw.2.2.1 _ hb2).2.1 (fun j hj => drops_map hr hb hj) (fun t ht' => ⟨drops_lo (by omega), drops_lo (by omega)⟩) (q.2.2.2.2.2.2 _ hb2))
set_option maxHeartbeats 4000000 in
set_option maxRecDepth 100000 in
theorem rep_front (hw : WFrouter F r) (hr : r < 4) (ht : cT F ≤ 8) (q : repRouter s i F r) (hp : p < cM F r) : repRouter (setP s i (frontP (s.2 i) p)) i (usesF F r p) r := by
  have w5 := hw.2.1
  have m0 := mA_eq r 0
  refine ⟨?_, ?_, ?_, ?_, ?_, ?_, fun b hb => ?_⟩
  · rw [uses_lo (by omega)]; exact q.1
  · rw [uses_lo (by omega)]; exact q.2.1
  · rw [uses_lo (by omega)]; exact q.2.2.1
  · rw [uses_lo (by omega)]; exact q.2.2.2.1
  · rw [uses_lo (by omega)]; exact q.2.2.2.2.1
  · rw [uses_lo (by omega)]; exact q.2.2.2.2.2.1
  · rw [uses_c] at hb
    have eb : (setP s i (frontP (s.2 i) p)).2 i b = s.2 i (if b = 0 then p else if b ≤ p then b - 1 else b) := by
      rw [setP_at]
      unfold frontP
      (repeat' split) <;> first | rfl | omega
    rw [eb]
    have hb2 : (if b = 0 then p else if b ≤ p then b - 1 else b) < cM F r := by (repeat' split) <;> omega
    exact repMap_t (s := s) (fun c j k hc => rfl) (repMap_F (hw.2.2.1 _ hb2).2.1 (fun j hj => uses_map hj) (fun t ht' => ⟨uses_lo (by omega), uses_lo (by omega)⟩) (q.2.2.2.2.2.2 _ hb2))
end CLS14
end
section
/-! THE CLASS: maps that end, the map that is taken, new maps -/
/-- only the counts and the order of router i's maps change -/
def Rupd (s s' : St) (i : Nat) : Prop := (∀ c j k, ¬ (c = 4 ∧ j = i) → s'.1 c j k = s.1 c j k) ∧ ∀ i' j, i' ≠ i → s'.2 i' j = s.2 i' j
def cpC (s : St) (a b m : Nat) : St := (fun c i k => if c = 15 ∧ i = a ∧ k < m then s.1 15 b k else s.1 c i k, s.2)
section CLS15
variable {L : Nat} {xs : Nat → Int32} {f i k r p q c j n B b w w' m sd : Nat} {x y v a z l lo v0 v1 name flow place which : Int32} {s s' t : St} {F G F' u : Fm} {Q : Option MV → St → Prop} {P : Nat → Nat}
theorem Rupd.refl : Rupd s s i := ⟨fun _ _ _ _ => rfl, fun _ _ _ => rfl⟩
theorem Rupd.trans (h1 : Rupd s s' i) (h2 : Rupd s' t i) : Rupd s t i := ⟨fun c j k e => (h2.1 c j k e).trans (h1.1 c j k e), fun i' j e => (h2.2 i' j e).trans (h1.2 i' j e)⟩
theorem Rupd_drop : Rupd s (putV (setP s i P) 4 i k x) i := ⟨fun c j m e => (putV_ne (by
  by_cases h1 : c = 4
  · by_cases h2 : j = i
    · exact absurd ⟨h1, h2⟩ e
    · exact Or.inr (Or.inl h2)
  · exact Or.inl h1)).trans rfl, fun i' j e => setP_o e⟩
theorem Rupd_front : Rupd s (setP s i P) i := ⟨fun c j m e => rfl, fun i' j e => setP_o e⟩
set_option maxHeartbeats 4000000 in
set_option maxRecDepth 100000 in
theorem c_isHolding (e : s.1 2 k 4 = v) (h : Q (some (.inl (bI (x.toInt < v.toInt)))) s) : wpM L xs codT retT (f + 1) m_X2_isHolding [.inr (2, k), .inl x] s Q := by
  subst e
  intro call hcall X hX; refine hX 1000 0 _ _ _ ?_
  repeat' (first | (intro hc) | (refine And.intro ?_ ?_) | (exact absurd nI_0 ‹cmpF 0 (nI 0) 0›) | (exact absurd ‹cmpT 0 (nI 1) 0› nI1_ne) | (exact absurd nI_0 ‹cmpT 1 (nI 0) 0›) | (exact absurd ‹cmpF 1 (nI 1) 0› nI1_ne) | (show wp _ _ _ _ _ _ _ _ _ _ _ _; conv => whnf))
  all_goals first
    | exact Or.inl rfl
    | exact Or.inr rfl
    | (refine bI_1 h ?_; clear h; (try clear hX hcall); (try clear h); (try simp (disch := omega) only [cmpT, cmpF, bI_eq0, bI_ne0, Classical.not_not, nI_toI, nI_cl, nI_inj, nI_add, nI_mul, nI_subI, takeL, setL, Int32.toInt_zero, Nat.add_zero, Nat.zero_mul, Nat.zero_add, alen11, alen12, alen13, alen14, alen15, alen16, alen17, alen18, alen19] at *); omega)
    | (refine bI_0 h ?_; clear h; (try clear hX hcall); (try clear h); (try simp (disch := omega) only [cmpT, cmpF, bI_eq0, bI_ne0, Classical.not_not, nI_toI, nI_cl, nI_inj, nI_add, nI_mul, nI_subI, takeL, setL, Int32.toInt_zero, Nat.add_zero, Nat.zero_mul, Nat.zero_add, alen11, alen12, alen13, alen14, alen15, alen16, alen17, alen18, alen19] at *); omega)
theorem m1_no {n : Nat} : ¬ iN (-1) n := fun q => absurd q.1 (by decide)
set_option maxHeartbeats 4000000 in
set_option maxRecDepth 100000 in
theorem c_dropEnded (hw : WF F B) (hi : i < 40) (hp : permOk s) (hr : r < cR F) (hR : repRouter s i F r) (h : ∀ s', Rupd s s' i → permOk s' → repRouter s' i (endF r (cM F r) F) r → Q none s') : wpM L xs codT retT (f + 3) m_X4_dropEnded [.inr (4, i), .inl (F 0)] s Q := by
  have r2 := hw.r2
  have t2 := hw.t2
  generalize hG : endF r (cM F r) F = G at *
  intro call hcall X hX; refine hX 1000 0 _ _ _ ?_
  repeat' (first | (intro hc) | (refine And.intro ?_ ?_) | (exact absurd nI_0 ‹cmpF 0 (nI 0) 0›) | (exact absurd ‹cmpT 0 (nI 1) 0› nI1_ne) | (exact absurd nI_0 ‹cmpT 1 (nI 0) 0›) | (exact absurd ‹cmpF 1 (nI 1) 0› nI1_ne) | (show wp _ _ _ _ _ _ _ _ _ _ _ _; conv => whnf))
  simp only [takeL, setL]
  have loop : ∀ m s' F', m ≤ 5 → WF F' B → r < cR F' → repRouter s' i F' r → permOk s' → Rupd s s' i → F' 0 = F 0 → cT F' ≤ 8 → endF r (Nat.min m (cM F' r)) F' = G → X 2 [.inr (4, i), .inl (F 0), .inl (nI m - nI 1)] [] s' := by
    intro m
    induction m with
    | zero =>
      intro s' F' hm w1 w2 w3 w4 w5 w6 w7 hE
      have hE : F' = G := by rw [← hE, show Nat.min 0 (cM F' r) = 0 from Nat.zero_min _]; rfl
      subst hE
      have h := h s' w5 w4 w3
      refine hX 1000 2 _ _ _ ?_
      repeat' (first | (intro hc) | (refine And.intro ?_ ?_) | (exact absurd nI_0 ‹cmpF 0 (nI 0) 0›) | (exact absurd ‹cmpT 0 (nI 1) 0› nI1_ne) | (exact absurd nI_0 ‹cmpT 1 (nI 0) 0›) | (exact absurd ‹cmpF 1 (nI 1) 0› nI1_ne) | (show wp _ _ _ _ _ _ _ _ _ _ _ _; conv => whnf))
      all_goals first
        | exact h
        | (clear h hX hcall; simp (disch := omega) only [cmpT, cmpF, nI_subI, Int32.toInt_zero] at *; omega)
    | succ m ih =>
      intro s' F' hm w1 w2 w3 w4 w5 w6 w7 hE
      have wr := w1.router w2
      have w55 := wr.2.1
      have e1 : s'.1 4 i 1 = nI (cM F' r) := w3.1.trans wr.1
      have em : nI (m + 1) - nI 1 = nI m := by rw [nI_sub (by omega) (by omega), Nat.add_sub_cancel]
      rw [em]
      by_cases hpl : m < cM F' r
      · have hpl2 := iN_k hpl (by omega)
        have emin : Nat.min (m + 1) (cM F' r) = m + 1 := Nat.min_eq_left (by omega)
        rw [emin] at hE
        have hE : endF r m (if (F' (mA r m + 2)).toInt ≤ (F' 0).toInt then dropsF F' r m else F') = G := hE
        have e4 := (w3.2.2.2.2.2.2 m hpl).2.2.1
        by_cases hd : (F' (mA r m + 2)).toInt ≤ (F' 0).toInt
        · rw [if_pos hd] at hE
          have d := drops_c (p := m) wr (by omega)
          have ih := ih _ (dropsF F' r m) (by omega) (WF_drop w1 w2 hpl) (by unfold cR; rw [drops_lo (by omega)]; exact w2) (rep_drop wr (by omega) w7 w3 hpl) (permOk_put (perm_drop w4 hi w55 hpl)) (w5.trans Rupd_drop) (by rw [drops_lo (by omega)]; exact w6) (by unfold cT; rw [drops_lo (by omega)]; exact w7) (by rw [show Nat.min m (cM (dropsF F' r m) r) = m from Nat.min_eq_left (by omega)]; exact hE)
          have hh : ¬ (F 0).toInt < (F' (mA r m + 2)).toInt := by rw [← w6]; omega
          refine hX 1000 2 _ _ _ ?_
          repeat' (first | (intro hc) | (refine And.intro ?_ ?_) | (exact absurd nI_0 ‹cmpF 0 (nI 0) 0›) | (exact absurd ‹cmpT 0 (nI 1) 0› nI1_ne) | (exact absurd nI_0 ‹cmpT 1 (nI 0) 0›) | (exact absurd ‹cmpF 1 (nI 1) 0› nI1_ne) | (show wp _ _ _ _ _ _ _ _ _ _ _ _; conv => whnf) | (simp (disch := omega) only [nI_cl]) | (simp (disch := omega) only [nI_add, nI_mul, setN_now, setN_put, nI_cl, Nat.add_zero]) | (refine hcall _ _ _ _ ?_; first | (refine c_isPlace e1 w55 ?_) | (refine c_isHolding e4 ?_) | (refine c_drop e1 w55 hpl ?_) | fail))
          all_goals first
            | (simp only [takeL, setL, pushW, nI_dec]; exact ih)
            | (exfalso; exact bF hpl2 (by assumption))
            | (exfalso; exact bT hh (by assumption))
            | (simp (disch := omega) only [nI_toI, nI_cl, nI_add, nI_mul, alen11, alen12, alen13, alen14, alen15, alen16, alen17, alen18, alen19]; omega)
            | (clear ih hpl2 hh hX hcall; simp (disch := omega) only [cmpT, cmpF, nI_toI, Int32.toInt_zero] at *; omega)
        · rw [if_neg hd] at hE
          have ih := ih s' F' (by omega) w1 w2 w3 w4 w5 w6 w7 (by rw [show Nat.min m (cM F' r) = m from Nat.min_eq_left (by omega)]; exact hE)
          have hh : (F 0).toInt < (F' (mA r m + 2)).toInt := by rw [← w6]; omega
          refine hX 1000 2 _ _ _ ?_
          repeat' (first | (intro hc) | (refine And.intro ?_ ?_) | (exact absurd nI_0 ‹cmpF 0 (nI 0) 0›) | (exact absurd ‹cmpT 0 (nI 1) 0› nI1_ne) | (exact absurd nI_0 ‹cmpT 1 (nI 0) 0›) | (exact absurd ‹cmpF 1 (nI 1) 0› nI1_ne) | (show wp _ _ _ _ _ _ _ _ _ _ _ _; conv => whnf) | (simp (disch := omega) only [nI_cl]) | (simp (disch := omega) only [nI_add, nI_mul, setN_now, setN_put, nI_cl, Nat.add_zero]) | (refine hcall _ _ _ _ ?_; first | (refine c_isPlace e1 w55 ?_) | (refine c_isHolding e4 ?_) | fail))
          all_goals first
            | (simp only [takeL, setL, pushW, nI_dec]; exact ih)
            | (exfalso; exact bF hpl2 (by assumption))
            | (exfalso; exact bF hh (by assumption))
            | (simp (disch := omega) only [nI_toI, nI_cl, nI_add, nI_mul, alen11, alen12, alen13, alen14, alen15, alen16, alen17, alen18, alen19]; omega)
            | (clear ih hpl2 hh hX hcall; simp (disch := omega) only [cmpT, cmpF, nI_toI, Int32.toInt_zero] at *; omega)
      · have hpl2 : ¬ iN (nI m) (cM F' r) := fun q => by have := q.2; rw [nI_toI (by omega)] at this; omega
        have ih := ih s' F' (by omega) w1 w2 w3 w4 w5 w6 w7 (by
          rw [← hE]
          congr 1
          show min m (cM F' r) = min (m + 1) (cM F' r)
          omega)
        refine hX 1000 2 _ _ _ ?_
        repeat' (first | (intro hc) | (refine And.intro ?_ ?_) | (exact absurd nI_0 ‹cmpF 0 (nI 0) 0›) | (exact absurd ‹cmpT 0 (nI 1) 0› nI1_ne) | (exact absurd nI_0 ‹cmpT 1 (nI 0) 0›) | (exact absurd ‹cmpF 1 (nI 1) 0› nI1_ne) | (show wp _ _ _ _ _ _ _ _ _ _ _ _; conv => whnf) | (simp (disch := omega) only [nI_cl]) | (simp (disch := omega) only [nI_add, nI_mul, setN_now, setN_put, nI_cl, Nat.add_zero]) | (refine hcall _ _ _ _ ?_; first | (refine c_isPlace e1 w55 ?_) | fail))
        all_goals first
          | (simp only [takeL, setL, pushW, nI_dec]; exact ih)
          | (exfalso; exact bT hpl2 (by assumption))
          | (simp (disch := omega) only [nI_toI, nI_cl, nI_add, nI_mul, alen11, alen12, alen13, alen14, alen15, alen16, alen17, alen18, alen19]; omega)
          | (clear ih hpl2 hX hcall; simp (disch := omega) only [cmpT, cmpF, nI_toI, Int32.toInt_zero] at *; omega)
  have e54 : nI 4 = nI 5 - nI 1 := by rw [nI_sub (by omega) (by omega)]
  have hc5 := (hw.router hr).2.1
  rw [e54]
  exact loop 5 s F (by omega) hw hr hR hp Rupd.refl rfl t2 (by rw [show Nat.min 5 (cM F r) = cM F r from Nat.min_eq_right hc5]; exact hG)
set_option maxHeartbeats 4000000 in
set_option maxRecDepth 100000 in
theorem c_placeOfSmallest (hw : WF F B) (hr : r < cR F) (hR : repRouter s i F r) (hn : iN name 256) (h : Q (some (.inl (optI (takeN F r name (cM F r)) (-1)))) s) : wpM L xs codT retT (f + 3) m_X4_placeOfSmallest [.inr (4, i), .inl name] s Q := by
  have wr := hw.router hr
  have w5 := wr.2.1
  have t2 := hw.t2
  have e1 : s.1 4 i 1 = nI (cM F r) := hR.1.trans wr.1
  intro call hcall X hX; refine hX 1000 0 _ _ _ ?_
  repeat' (first | (intro hc) | (refine And.intro ?_ ?_) | (exact absurd nI_0 ‹cmpF 0 (nI 0) 0›) | (exact absurd ‹cmpT 0 (nI 1) 0› nI1_ne) | (exact absurd nI_0 ‹cmpT 1 (nI 0) 0›) | (exact absurd ‹cmpF 1 (nI 1) 0› nI1_ne) | (show wp _ _ _ _ _ _ _ _ _ _ _ _; conv => whnf))
  simp only [takeL, setL]
  have loop : ∀ j, j ≤ cM F r → X 9 [.inr (4, i), .inl name, .inl (optI (takeN F r name j) (-1)), .inl (tkS F r (takeN F r name j)), .inl (nI j)] [] s := by
    refine loopD (cM F r) (fun j hj ih => ?_) ?_
    · clear h
      obtain ⟨w1, w2, -, -⟩ := wr.2.2.1 j hj
      obtain ⟨-, -, -, -, b0, b1, -⟩ := hR.2.2.2.2.2.2 j hj
      generalize ht : nn (F (mA r j)) = d at *
      rw [takeN_s, ht] at ih
      by_cases hc : hasF F d name ∧ (F (29 + 17 * d + 1)).toInt < (tkS F r (takeN F r name j)).toInt
      · rw [if_pos hc] at ih
        have ih : X 9 [.inr (4, i), .inl name, .inl (nI j), .inl (s.1 1 (160 + s.2 i j) 1), .inl (nI (j + 1))] [] s := by
          rw [b1]
          simp only [optI, tkS, ht] at ih
          exact ih
        obtain ⟨c1, c2⟩ := hc
        rw [← b1] at c2
        generalize takeN F r name j = o at *
        refine hX 1000 9 _ _ _ ?_
        repeat' (first | (intro hc) | (refine And.intro ?_ ?_) | (exact absurd nI_0 ‹cmpF 0 (nI 0) 0›) | (exact absurd ‹cmpT 0 (nI 1) 0› nI1_ne) | (exact absurd nI_0 ‹cmpT 1 (nI 0) 0›) | (exact absurd ‹cmpF 1 (nI 1) 0› nI1_ne) | (show wp _ _ _ _ _ _ _ _ _ _ _ _; conv => whnf) | (simp (disch := omega) only [nI_cl]) | (simp (disch := omega) only [nI_add, nI_mul, setN_now, setN_put, nI_cl, Nat.add_zero]) | (refine hcall _ _ _ _ ?_; first | (refine c_has hn b0 b1 ?_) | fail))
        all_goals first
          | (simp only [takeL, setL, nI_add]; exact ih)
          | (exfalso; exact bF c1 (by assumption))
          | (simp (disch := omega) only [nI_toI, nI_cl, nI_add, nI_mul, alen11, alen12, alen13, alen14, alen15, alen16, alen17, alen18, alen19]; omega)
          | (clear ih c1; (try clear hX hcall); (try clear h); (try simp (disch := omega) only [cmpT, cmpF, bI_eq0, bI_ne0, Classical.not_not, nI_toI, nI_cl, nI_inj, nI_add, nI_mul, nI_subI, takeL, setL, Int32.toInt_zero, Nat.add_zero, setN_now, alen20, alen11, alen12, alen13, alen14, alen15, alen16, alen17, alen18, alen19, (id e1)] at *); omega)
      · rw [if_neg hc] at ih
        have hc2 : hasF F d name → ¬ (s.1 1 (160 + s.2 i j) 1).toInt < (tkS F r (takeN F r name j)).toInt := fun g1 g2 => hc ⟨g1, by rw [← b1]; exact g2⟩
        clear hc
        generalize takeN F r name j = o at *
        refine hX 1000 9 _ _ _ ?_
        repeat' (first | (intro hc) | (refine And.intro ?_ ?_) | (exact absurd nI_0 ‹cmpF 0 (nI 0) 0›) | (exact absurd ‹cmpT 0 (nI 1) 0› nI1_ne) | (exact absurd nI_0 ‹cmpT 1 (nI 0) 0›) | (exact absurd ‹cmpF 1 (nI 1) 0› nI1_ne) | (show wp _ _ _ _ _ _ _ _ _ _ _ _; conv => whnf) | (simp (disch := omega) only [nI_cl]) | (simp (disch := omega) only [nI_add, nI_mul, setN_now, setN_put, nI_cl, Nat.add_zero]) | (refine hcall _ _ _ _ ?_; first | (refine c_has hn b0 b1 ?_) | fail))
        all_goals first
          | (simp only [takeL, setL, nI_add]; exact ih)
          | (exfalso; exact hc2 (bI_ne0.mp (by assumption)) (by assumption))
          | (simp (disch := omega) only [nI_toI, nI_cl, nI_add, nI_mul, alen11, alen12, alen13, alen14, alen15, alen16, alen17, alen18, alen19]; omega)
          | (clear ih hc2; (try clear hX hcall); (try clear h); (try simp (disch := omega) only [cmpT, cmpF, bI_eq0, bI_ne0, Classical.not_not, nI_toI, nI_cl, nI_inj, nI_add, nI_mul, nI_subI, takeL, setL, Int32.toInt_zero, Nat.add_zero, setN_now, alen20, alen11, alen12, alen13, alen14, alen15, alen16, alen17, alen18, alen19, (id e1)] at *); omega)
    · refine hX 1000 9 _ _ _ ?_
      repeat' (first | (intro hc) | (refine And.intro ?_ ?_) | (exact absurd nI_0 ‹cmpF 0 (nI 0) 0›) | (exact absurd ‹cmpT 0 (nI 1) 0› nI1_ne) | (exact absurd nI_0 ‹cmpT 1 (nI 0) 0›) | (exact absurd ‹cmpF 1 (nI 1) 0› nI1_ne) | (show wp _ _ _ _ _ _ _ _ _ _ _ _; conv => whnf))
      all_goals first
        | exact h
        | ((try clear hX hcall); (try clear h); (try simp (disch := omega) only [cmpT, cmpF, bI_eq0, bI_ne0, Classical.not_not, nI_toI, nI_cl, nI_inj, nI_add, nI_mul, nI_subI, takeL, setL, Int32.toInt_zero, Nat.add_zero, setN_now, alen20, alen11, alen12, alen13, alen14, alen15, alen16, alen17, alen18, alen19, (id e1)] at *); omega)
  exact loop 0 (by omega)
theorem cpC_0 {a b : Nat} : cpC s a b 0 = s := by
  unfold cpC
  apply Prod.ext
  · funext c i k
    show (if c = 15 ∧ i = a ∧ k < 0 then _ else _) = _
    rw [if_neg (by omega)]
  · rfl
theorem cpC_at {a b : Nat} : (cpC s a b m).1 15 b m = s.1 15 b m := by
  show (if 15 = 15 ∧ b = a ∧ m < m then _ else _) = _
  rw [if_neg (by omega)]
theorem cpC_s {a b : Nat} : putV (cpC s a b m) 15 a m (s.1 15 b m) = cpC s a b (m + 1) := by
  unfold putV cpC
  apply Prod.ext
  · funext c i k
    show (if c = 15 ∧ i = a ∧ k = m then s.1 15 b m else if c = 15 ∧ i = a ∧ k < m then s.1 15 b k else s.1 c i k) = (if c = 15 ∧ i = a ∧ k < m + 1 then s.1 15 b k else s.1 c i k)
    by_cases h1 : c = 15 <;> by_cases h2 : i = a <;> simp [h1, h2]
    by_cases h3 : k = m
    · subst h3; simp
    · by_cases h4 : k < m
      · rw [if_neg h3, if_pos h4, if_pos (by omega)]
      · rw [if_neg h3, if_neg h4, if_neg (by omega)]
  · rfl
theorem cpC_o {a b c i k : Nat} (h : ¬ (c = 15 ∧ i = a)) : (cpC s a b m).1 c i k = s.1 c i k := by
  show (if c = 15 ∧ i = a ∧ k < m then _ else _) = _
  rw [if_neg (fun q => h ⟨q.1, q.2.1⟩)]
theorem cpC_in {a b k : Nat} (h : k < m) : (cpC s a b m).1 15 a k = s.1 15 b k := by
  show (if 15 = 15 ∧ a = a ∧ k < m then _ else _) = _
  rw [if_pos ⟨rfl, rfl, h⟩]
set_option maxHeartbeats 4000000 in
set_option maxRecDepth 100000 in
theorem c_slotsCopy {a b : Nat} (h : Q none (cpC s a b 9)) : wpM L xs codT retT (f + 1) m_X7_copyFrom [.inr (7, a), .inr (7, b)] s Q := by
  intro call hcall X hX; refine hX 1000 0 _ _ _ ?_
  repeat' (first | (intro hc) | (refine And.intro ?_ ?_) | (exact absurd nI_0 ‹cmpF 0 (nI 0) 0›) | (exact absurd ‹cmpT 0 (nI 1) 0› nI1_ne) | (exact absurd nI_0 ‹cmpT 1 (nI 0) 0›) | (exact absurd ‹cmpF 1 (nI 1) 0› nI1_ne) | (show wp _ _ _ _ _ _ _ _ _ _ _ _; conv => whnf))
  simp only [takeL, setL]
  have loop : ∀ j, j ≤ 9 → X 2 [.inr (7, a), .inr (7, b), .inl (nI j)] [] (cpC s a b j) := by
    refine loopD 9 (fun j hj ih => ?_) ?_
    · clear h
      rw [← cpC_s] at ih
      refine hX 1000 2 _ _ _ ?_
      repeat' (first | (intro hc) | (refine And.intro ?_ ?_) | (exact absurd nI_0 ‹cmpF 0 (nI 0) 0›) | (exact absurd ‹cmpT 0 (nI 1) 0› nI1_ne) | (exact absurd nI_0 ‹cmpT 1 (nI 0) 0›) | (exact absurd ‹cmpF 1 (nI 1) 0› nI1_ne) | (show wp _ _ _ _ _ _ _ _ _ _ _ _; conv => whnf))
      all_goals first
        | (simp (disch := omega) only [nI_toI, nI_cl, nI_add, nI_mul, alen11, alen12, alen13, alen14, alen15, alen16, alen17, alen18, alen19]; omega)
        | (simp (disch := omega) only [takeL, setL, nI_add, nI_cl, cpC_at]; exact ih)
        | (clear ih; (try clear hX hcall); (try clear h); (try simp (disch := omega) only [cmpT, cmpF, bI_eq0, bI_ne0, Classical.not_not, nI_toI, nI_cl, nI_inj, nI_add, nI_mul, nI_subI, takeL, setL, Int32.toInt_zero, Nat.add_zero, Nat.zero_mul, Nat.zero_add, alen11, alen12, alen13, alen14, alen15, alen16, alen17, alen18, alen19] at *); omega)
    · refine hX 1000 2 _ _ _ ?_
      repeat' (first | (intro hc) | (refine And.intro ?_ ?_) | (exact absurd nI_0 ‹cmpF 0 (nI 0) 0›) | (exact absurd ‹cmpT 0 (nI 1) 0› nI1_ne) | (exact absurd nI_0 ‹cmpT 1 (nI 0) 0›) | (exact absurd ‹cmpF 1 (nI 1) 0› nI1_ne) | (show wp _ _ _ _ _ _ _ _ _ _ _ _; conv => whnf))
      all_goals first
        | exact h
        | ((try clear hX hcall); (try clear h); (try simp (disch := omega) only [cmpT, cmpF, bI_eq0, bI_ne0, Classical.not_not, nI_toI, nI_cl, nI_inj, nI_add, nI_mul, nI_subI, takeL, setL, Int32.toInt_zero, Nat.add_zero, Nat.zero_mul, Nat.zero_add, alen11, alen12, alen13, alen14, alen15, alen16, alen17, alen18, alen19] at *); omega)
  have hl := loop 0 (by omega)
  rw [cpC_0] at hl
  exact hl
set_option maxHeartbeats 4000000 in
set_option maxRecDepth 100000 in
theorem c_blockCopy {a b : Nat} (h : Q none (putV (putV s 1 a 0 (s.1 1 b 0)) 1 a 1 (s.1 1 b 1))) : wpM L xs codT retT (f + 1) m_X1_copyFrom [.inr (1, a), .inr (1, b)] s Q := by
  have e : (putV s 1 a 0 (s.1 1 b 0)).1 1 b 1 = s.1 1 b 1 := putV_ne (by omega)
  intro call hcall X hX; refine hX 1000 0 _ _ _ ?_
  repeat' (first | (intro hc) | (refine And.intro ?_ ?_) | (exact absurd nI_0 ‹cmpF 0 (nI 0) 0›) | (exact absurd ‹cmpT 0 (nI 1) 0› nI1_ne) | (exact absurd nI_0 ‹cmpT 1 (nI 0) 0›) | (exact absurd ‹cmpF 1 (nI 1) 0› nI1_ne) | (show wp _ _ _ _ _ _ _ _ _ _ _ _; conv => whnf))
  rw [e]
  exact h
set_option maxHeartbeats 4000000 in
set_option maxRecDepth 100000 in
theorem c_mapBecome {y j : Nat} (hj : j < 80) (h : ∀ s', (∀ c j' m, ¬ (c = 1 ∧ j' = 160 + y) → ¬ (c = 15 ∧ j' = 80 + y) → ¬ (c = 2 ∧ j' = y) → s'.1 c j' m = s.1 c j' m) → s'.2 = s.2 → s'.1 1 (160 + y) 0 = s.1 1 (80 + j) 0 → s'.1 1 (160 + y) 1 = s.1 1 (80 + j) 1 → (∀ m, m < 9 → s'.1 15 (80 + y) m = s.1 15 j m) → s'.1 2 y 2 = v → s'.1 2 y 3 = s.1 6 j 3 → s'.1 2 y 4 = x → s'.1 2 y 5 = nI 0 → Q none s') : wpM L xs codT retT (f + 2) m_X2_become [.inr (2, y), .inl v, .inr (6, j), .inl x] s Q := by
  have e3 : (putV (cpC (putV (putV s 1 (160 + y) 0 (s.1 1 (80 + j) 0)) 1 (160 + y) 1 (s.1 1 (80 + j) 1)) (80 + y) j 9) 2 y 2 v).1 6 j 3 = s.1 6 j 3 := by
    rw [putV_ne (by omega), cpC_o (by omega)]
    simp (disch := omega) only [putV_ne]
  have h := h (putV (putV (putV (putV (cpC (putV (putV s 1 (160 + y) 0 (s.1 1 (80 + j) 0)) 1 (160 + y) 1 (s.1 1 (80 + j) 1)) (80 + y) j 9) 2 y 2 v) 2 y 3 (s.1 6 j 3)) 2 y 4 x) 2 y 5 (nI 0)) (fun c j' m h1 h2 h3 => by
      simp (disch := omega) only [putV_ne]
      rw [cpC_o h2]
      simp (disch := omega) only [putV_ne]) rfl (by
      simp (disch := omega) only [putV_ne]
      rw [cpC_o (by omega)]
      simp (disch := omega) only [putV_ne, putV_at]) (by
      simp (disch := omega) only [putV_ne]
      rw [cpC_o (by omega)]
      simp (disch := omega) only [putV_at]) (fun m hm => by
      simp (disch := omega) only [putV_ne]
      rw [cpC_in hm]
      simp (disch := omega) only [putV_ne]) (by simp (disch := omega) only [putV_ne, putV_at]) (by simp (disch := omega) only [putV_ne, putV_at]) (by simp (disch := omega) only [putV_ne, putV_at]) (by simp (disch := omega) only [putV_at])
  intro call hcall X hX; refine hX 1000 0 _ _ _ ?_
  repeat' (first | (intro hc) | (refine And.intro ?_ ?_) | (exact absurd nI_0 ‹cmpF 0 (nI 0) 0›) | (exact absurd ‹cmpT 0 (nI 1) 0› nI1_ne) | (exact absurd nI_0 ‹cmpT 1 (nI 0) 0›) | (exact absurd ‹cmpF 1 (nI 1) 0› nI1_ne) | (show wp _ _ _ _ _ _ _ _ _ _ _ _; conv => whnf) | (rw [e3]) | (simp (disch := omega) only [nI_add, nI_mul, setN_now, setN_put, nI_cl, Nat.add_zero]) | (refine hcall _ _ _ _ ?_; first | (refine c_blockCopy ?_) | (refine c_slotsCopy ?_) | fail))
  all_goals first
    | exact h
    | exact Or.inl nI_0
    | (rw [e3]; exact h)
    | exact Or.inl rfl
end CLS15
end
section
/-! THE CLASS: a new map in a cache -/
section CLS16
variable {L : Nat} {xs : Nat → Int32} {f i k r p q c j n B b w w' m sd : Nat} {x y v a z l lo v0 v1 name flow place which : Int32} {s s' s2 s3 t : St} {F G C F' u : Fm} {Q : Option MV → St → Prop} {P : Nat → Nat}
theorem purge_none : ∀ n F, (∀ p, p < n → F (mA r p) ≠ nI k) → purgeF r k n F = F
  | 0, F, _ => rfl
  | n + 1, F, h => by
    unfold purgeF
    rw [if_neg (h n (by omega))]
    exact purge_none n F (fun p hp => h p (by omega))
theorem purge_some (hw : WFrouter F r) (hr : r < 4) (hp : p < cM F r) (e : F (mA r p) = nI k) : ∀ n, p < n → n ≤ cM F r → purgeF r k n F = dropsF F r p
  | 0, h, _ => absurd h (by omega)
  | n + 1, h1, h2 => by
    unfold purgeF
    by_cases en : n = p
    · subst en
      rw [if_pos e]
      refine purge_none n _ (fun q hq g => ?_)
      have e5 : dropsF F r n (mA r q) = F (mA r (if n ≤ q then q + 1 else q)) := drops_map (j := 0) hr (by omega) (by omega)
      rw [e5, if_neg (by omega)] at g
      have := hw.2.2.2 q n (by omega) hp (g.trans e.symm)
      omega
    · rw [if_neg (fun g => en (hw.2.2.2 n p (by omega) hp (g.trans e.symm)))]
      exact purge_some hw hr hp e n (by omega) (by omega)
theorem cut_none (h : firN (copP F r (nI k)) (cM F r) 0 = none) : cutF F r k = if cM F r = 5 then dropsF F r 4 else F := by
  have e : purgeF r k (cM F r) F = F := purge_none _ _ (fun p hp g => firN_none _ _ h p (by omega) (by omega) (decide_eq_true g))
  unfold cutF
  rw [e]
theorem cut_some (hw : WFrouter F r) (hr : r < 4) (h : firN (copP F r (nI k)) (cM F r) 0 = some p) : cutF F r k = dropsF F r p ∧ p < cM F r := by
  obtain ⟨h1, h2, h3⟩ := firN_some _ _ h
  have h4 : F (mA r p) = nI k := of_decide_eq_true h3
  have e : purgeF r k (cM F r) F = dropsF F r p := purge_some hw hr (by omega) h4 _ (by omega) (Nat.le_refl _)
  have w5 := hw.2.1
  have d := drops_c (p := p) hw (by omega)
  unfold cutF
  rw [e, if_neg (by omega)]
  exact ⟨rfl, by omega⟩
set_option maxHeartbeats 4000000 in
set_option maxRecDepth 100000 in
theorem c_dropR (hw : WFrouter F r) (hr : r < 4) (ht : cT F ≤ 8) (hi : i < 40) (hp : permOk s) (q : repRouter s i F r) (hpl : p < cM F r) (h : ∀ s', Rupd s s' i → permOk s' → repRouter s' i (dropsF F r p) r → Q none s') : wpM L xs codT retT (f + 2) m_X4_drop [.inr (4, i), .inl (nI p)] s Q :=
  c_drop (q.1.trans hw.1) hw.2.1 hpl (h _ Rupd_drop (permOk_put (perm_drop hp hi hw.2.1 hpl)) (rep_drop hw hr ht q hpl))
set_option maxHeartbeats 4000000 in
set_option maxRecDepth 100000 in
theorem c_frontR (hw : WFrouter F r) (hr : r < 4) (ht : cT F ≤ 8) (hi : i < 40) (hp : permOk s) (q : repRouter s i F r) (hpl : p < cM F r) (h : ∀ s', Rupd s s' i → permOk s' → repRouter s' i (usesF F r p) r → Q none s') : wpM L xs codT retT (f + 2) m_X4_moveToFront [.inr (4, i), .inl (nI p)] s Q :=
  c_front (q.1.trans hw.1) hw.2.1 hpl (h _ Rupd_front (perm_front hp hi (by have := hw.2.1; omega)) (rep_front hw hr ht q hpl))
set_option maxHeartbeats 4000000 in
set_option maxRecDepth 100000 in
theorem rep_new (hw : WF F B) (hr : r < cR F) (hk : k < cT F) (h10 : w < 10) (hR : RepW s w F) (u2 : Rupd s s2 (4 * w + r)) (p2 : permOk s2) (q2 : repRouter s2 (4 * w + r) (cutF F r k) r) (o1 : ∀ c j' m, ¬ (c = 1 ∧ j' = 160 + s2.2 (4 * w + r) (cM (cutF F r k) r)) → ¬ (c = 15 ∧ j' = 80 + s2.2 (4 * w + r) (cM (cutF F r k) r)) → ¬ (c = 2 ∧ j' = s2.2 (4 * w + r) (cM (cutF F r k) r)) → s3.1 c j' m = s2.1 c j' m) (o2 : s3.2 = s2.2) (b0 : s3.1 1 (160 + s2.2 (4 * w + r) (cM (cutF F r k) r)) 0 = s2.1 1 (80 + (8 * w + k)) 0) (b1 : s3.1 1 (160 + s2.2 (4 * w + r) (cM (cutF F r k) r)) 1 = s2.1 1 (80 + (8 * w + k)) 1) (b15 : ∀ m, m < 9 → s3.1 15 (80 + s2.2 (4 * w + r) (cM (cutF F r k) r)) m = s2.1 15 (8 * w + k) m) (m2 : s3.1 2 (s2.2 (4 * w + r) (cM (cutF F r k) r)) 2 = nI k) (m3 : s3.1 2 (s2.2 (4 * w + r) (cM (cutF F r k) r)) 3 = s2.1 6 (8 * w + k) 3) (m4 : s3.1 2 (s2.2 (4 * w + r) (cM (cutF F r k) r)) 4 = F 0 + F 4) (m5 : s3.1 2 (s2.2 (4 * w + r) (cM (cutF F r k) r)) 5 = nI 0) : (∀ c j m, ownR c j ≠ 4 * w + r → (setP (putV s3 4 (4 * w + r) 1 (nI (cM (cutF F r k) r + 1))) (4 * w + r) (frontP (s3.2 (4 * w + r)) (cM (cutF F r k) r))).1 c j m = s.1 c j m) ∧ (∀ i j, i ≠ 4 * w + r → (setP (putV s3 4 (4 * w + r) 1 (nI (cM (cutF F r k) r + 1))) (4 * w + r) (frontP (s3.2 (4 * w + r)) (cM (cutF F r k) r))).2 i j = s.2 i j) ∧ permOk (setP (putV s3 4 (4 * w + r) 1 (nI (cM (cutF F r k) r + 1))) (4 * w + r) (frontP (s3.2 (4 * w + r)) (cM (cutF F r k) r))) ∧ repRouter (setP (putV s3 4 (4 * w + r) 1 (nI (cM (cutF F r k) r + 1))) (4 * w + r) (frontP (s3.2 (4 * w + r)) (cM (cutF F r k) r))) (4 * w + r) (newF F r k) r := by
  have r2 := hw.r2
  have t2 := hw.t2
  have ev : ∀ j, s3.1 4 (4 * w + r) j = s2.1 4 (4 * w + r) j := fun j => o1 4 _ j (by omega) (by omega) (by omega)
  obtain ⟨g1, g2, g3, g4⟩ := cut_ok (k := k) hw hr
  have gR : r < cR (cutF F r k) := by unfold cR; rw [g3 3 (by omega)]; exact hr
  have wC := g1.router gR
  obtain ⟨nc1, nc2⟩ := new_cM (k := k) hw hr
  have wN := (WF_new hw hr hk).router (show r < cR (newF F r k) by unfold cR; rw [new_lo hw hr (by omega)]; exact hr)
  have m0 := mA_eq r 0
  have m5' := mA_eq r 5
  have i40 : 4 * w + r < 40 := by omega
  have rng := (p2 (4 * w + r) i40).1
  have inj := (p2 (4 * w + r) i40).2
  have hy := rng (cM (cutF F r k) r) (by omega)
  have hC : cT (cutF F r k) = cT F := by unfold cT; rw [g3 2 (by omega)]
  generalize hn : cM (cutF F r k) r = n at *
  generalize hyy : s2.2 (4 * w + r) n = y at *
  have oR1 := ownR_1 (y := y)
  have oR15 := ownR_15 (y := y)
  obtain ⟨r0, r1, -, r3, -, rc⟩ := hR.site hk
  have os : ∀ c j m, c ≠ 4 → s2.1 c j m = s.1 c j m := fun c j m hc => u2.1 c j m (fun g => hc g.1)
  refine ⟨fun c j m hc => ?_, fun i j hi => ?_, ?_, ?_⟩
  · rw [setP_1, putV_ne (by
      by_cases e1 : c = 4
      · right; left; intro e2; subst e1; subst e2; exact hc rfl
      · exact Or.inl e1), o1 c j m (fun g => hc (by obtain ⟨e1, e2⟩ := g; rw [e1, e2]; omega)) (fun g => hc (by obtain ⟨e1, e2⟩ := g; rw [e1, e2]; omega)) (fun g => hc (by obtain ⟨e1, e2⟩ := g; rw [e1, e2]; show y / 5 = _; omega))]
    exact u2.1 c j m (fun g => hc (by obtain ⟨e1, e2⟩ := g; rw [e1, e2]; rfl))
  · rw [setP_o hi]
    show s3.2 i j = _
    rw [o2]
    exact u2.2 i j hi
  · exact perm_front (s := putV s3 4 (4 * w + r) 1 (nI (n + 1))) (permOk_of (fun i j => by show s3.2 i j = s2.2 i j; rw [o2]) p2) i40 (by omega)
  · have fo : ∀ j, 0 < j → j < 6 → newF F r k (165 + 6 * r + j) = cutF F r k (165 + 6 * r + j) := fun j h1 h2 => by
      rw [newF_eq]; exact fr_o (by omega) (by omega) (by omega)
    have st : ∀ c j m, c ≠ 4 → (setP (putV s3 4 (4 * w + r) 1 (nI (n + 1))) (4 * w + r) (frontP (s3.2 (4 * w + r)) n)).1 c j m = s3.1 c j m := fun c j m hc => by rw [setP_1, putV_ne (Or.inl hc)]
    refine ⟨?_, ?_, ?_, ?_, ?_, ?_, fun q hq => ?_⟩
    · rw [setP_1, putV_at, nc2]
    · rw [setP_1, putV_ne (by omega), fo 1 (by omega) (by omega), ev]; exact q2.2.1
    · rw [setP_1, putV_ne (by omega), fo 2 (by omega) (by omega), ev]; exact q2.2.2.1
    · rw [setP_1, putV_ne (by omega), fo 3 (by omega) (by omega), ev]; exact q2.2.2.2.1
    · rw [setP_1, putV_ne (by omega), fo 4 (by omega) (by omega), ev]; exact q2.2.2.2.2.1
    · rw [setP_1, putV_ne (by omega), fo 5 (by omega) (by omega), ev]; exact q2.2.2.2.2.2.1
    · rw [nc1] at hq
      have en0 : ∀ j, j < 16 → newF F r k (mA r 0 + j) = newM (cutF F r k) k j := fun j hj => by rw [newF_eq]; exact fr_0 (by omega) (by omega) hj
      by_cases hq0 : q = 0
      · subst hq0
        have eP : (setP (putV s3 4 (4 * w + r) 1 (nI (n + 1))) (4 * w + r) (frontP (s3.2 (4 * w + r)) n)).2 (4 * w + r) 0 = y := by
          rw [setP_at]
          unfold frontP
          rw [if_pos rfl, o2, hyy]
        rw [eP]
        have en00 : newF F r k (mA r 0) = nI k := by rw [show mA r 0 = mA r 0 + 0 from rfl, en0 0 (by omega)]; rfl
        have enk : nn (newF F r k (mA r 0)) = k := by rw [en00]; exact nI_cl (by omega)
        unfold repMap
        rw [enk, st 2 y _ (by decide), st 2 y _ (by decide), st 2 y _ (by decide), st 2 y _ (by decide), st 1 _ _ (by decide), st 1 _ _ (by decide)]
        refine ⟨m2.trans en00.symm, ?_, ?_, ?_, ?_, ?_, ?_⟩
        · rw [m3, os 6 _ _ (by decide), r3, en0 1 (by omega)]
          unfold newM
          rw [if_neg (by omega), if_pos rfl, g3 _ (by omega)]
        · rw [m4, en0 2 (by omega)]
          unfold newM
          rw [if_neg (by omega), if_neg (by omega), if_pos rfl, g3 _ (by omega), g3 _ (by omega)]
        · rw [m5, en0 3 (by omega)]
          rfl
        · rw [b0, os 1 _ _ (by decide), r0, new_lo hw hr (by omega)]
        · rw [b1, os 1 _ _ (by decide), r1, new_lo hw hr (by omega)]
        · refine cellsRep_cg2 (s := s) (m := 8 * w + k) (b := 29 + 17 * k + 5) (fun j hj => ?_) (fun j hj => ?_) rc
          · rw [st 15 _ _ (by decide), b15 j hj, os 15 _ _ (by decide)]
          · rw [show mA r 0 + 4 + j = mA r 0 + (4 + j) by omega, en0 (4 + j) (by omega)]
            unfold newM
            rw [if_neg (by omega), if_neg (by omega), if_neg (by omega), if_neg (by omega), g3 _ (by omega), show 4 + j - 4 = j by omega]
      · have eP : (setP (putV s3 4 (4 * w + r) 1 (nI (n + 1))) (4 * w + r) (frontP (s3.2 (4 * w + r)) n)).2 (4 * w + r) q = s2.2 (4 * w + r) (q - 1) := by
          rw [setP_at]
          unfold frontP
          rw [if_neg hq0, if_pos (by omega), o2]
        rw [eP]
        have hq1 : q - 1 < n := by omega
        have ne : s2.2 (4 * w + r) (q - 1) ≠ y := fun g => by
          have := inj (q - 1) n (by omega) (by omega) (g.trans hyy.symm)
          omega
        have hrm := q2.2.2.2.2.2.2 (q - 1) (by omega)
        have hrm3 : repMap s3 (s2.2 (4 * w + r) (q - 1)) (cutF F r k) r (q - 1) := by
          unfold repMap at hrm ⊢
          have t2' : ∀ j, s3.1 2 (s2.2 (4 * w + r) (q - 1)) j = s2.1 2 (s2.2 (4 * w + r) (q - 1)) j := fun j => o1 2 _ j (by omega) (by omega) (by omega)
          have t1 : ∀ j, s3.1 1 (160 + s2.2 (4 * w + r) (q - 1)) j = s2.1 1 (160 + s2.2 (4 * w + r) (q - 1)) j := fun j => o1 1 _ j (by omega) (by omega) (by omega)
          have t15 : ∀ j, s3.1 15 (80 + s2.2 (4 * w + r) (q - 1)) j = s2.1 15 (80 + s2.2 (4 * w + r) (q - 1)) j := fun j => o1 15 _ j (by omega) (by omega) (by omega)
          rw [t2', t2', t2', t2', t1, t1]
          exact ⟨hrm.1, hrm.2.1, hrm.2.2.1, hrm.2.2.2.1, hrm.2.2.2.2.1, hrm.2.2.2.2.2.1, cellsRep_cg t15 hrm.2.2.2.2.2.2⟩
        refine repMap_t (s := s3) st (repMap_F (wC.2.2.1 (q - 1) (by omega)).2.1 (fun j hj => ?_) (fun t ht => ?_) hrm3)
        · rw [newF_eq]; exact fr_m (by omega) (by omega) (by omega) hj
        · rw [hC] at ht
          exact ⟨(new_lo hw hr (by omega)).trans (g3 _ (by omega)).symm, (new_lo hw hr (by omega)).trans (g3 _ (by omega)).symm⟩
end CLS16
end
section
/-! THE CLASS: asking -/
section CLS17
variable {L : Nat} {xs : Nat → Int32} {f i k r p q c j n B b w w' m sd : Nat} {x y v a z l lo v0 v1 name flow place which : Int32} {s s' s2 s3 t : St} {F G C F' u : Fm} {Q : Option MV → St → Prop} {P : Nat → Nat}
set_option maxHeartbeats 4000000 in
set_option maxRecDepth 100000 in
theorem c_addMap (hw : WF F B) (h10 : w < 10) (hp : permOk s) (hR : RepW s w F) (hr : r < cR F) (hk : k < cT F) (h : ∀ s', (∀ c j m, ownR c j ≠ 4 * w + r → s'.1 c j m = s.1 c j m) → (∀ i j, i ≠ 4 * w + r → s'.2 i j = s.2 i j) → permOk s' → repRouter s' (4 * w + r) (newF F r k) r → Q none s') : wpM L xs codT retT (f + 3) m_X4_addMap [.inr (4, 4 * w + r), .inl (nI k), .inr (6, 8 * w + k), .inl (F 0 + F 4)] s Q := by
  have r2 := hw.r2
  have t2 := hw.t2
  have rr := hR.router hr
  have wr := hw.router hr
  have w5 := wr.2.1
  have i40 : 4 * w + r < 40 := by omega
  obtain ⟨g1, g2, g3, g4⟩ := cut_ok (k := k) hw hr
  have gR : r < cR (cutF F r k) := by unfold cR; rw [g3 3 (by omega)]; exact hr
  have wC := g1.router gR
  cases ho : firN (copP F r (nI k)) (cM F r) 0 with
  | none =>
    have e1 : s.1 4 (4 * w + r) 1 = nI (cM F r) := rr.1.trans wr.1
    have hcu := cut_none ho
    by_cases h5 : cM F r = 5
    · rw [if_pos h5] at hcu
      have h45 : 4 < cM F r := by omega
      intro call hcall X hX; refine hX 1000 0 _ _ _ ?_
      repeat' (first | (intro hc) | (refine And.intro ?_ ?_) | (exact absurd nI_0 ‹cmpF 0 (nI 0) 0›) | (exact absurd ‹cmpT 0 (nI 1) 0› nI1_ne) | (exact absurd nI_0 ‹cmpT 1 (nI 0) 0›) | (exact absurd ‹cmpF 1 (nI 1) 0› nI1_ne) | (show wp _ _ _ _ _ _ _ _ _ _ _ _; conv => whnf) | (simp (disch := omega) only [nI_add, nI_mul, setN_now, setN_put, nI_cl, Nat.add_zero]) | (refine hcall _ _ _ _ ?_; first | (refine c_placeOfSiteE wr rr i40 ho ?_) | (refine c_dropNo e1 w5 m1_no ?_) | (refine c_dropR wr (by omega) t2 i40 hp rr h45 (fun s2 u2 p2 q2 => ?_)) | fail))
      all_goals (try (exfalso; clear h wC g1 g2 g3 g4 gR hcu; (try clear hX hcall); (try clear h); (try simp (disch := omega) only [cmpT, cmpF, bI_eq0, bI_ne0, Classical.not_not, nI_toI, nI_cl, nI_inj, nI_add, nI_mul, nI_subI, takeL, setL, Int32.toInt_zero, Nat.add_zero, setN_now, alen20, alen11, alen12, alen13, alen14, alen15, alen16, alen17, alen18, alen19, (id e1)] at *); omega))
      all_goals (rw [← hcu] at q2)
      all_goals (have e2 : s2.1 4 (4 * w + r) 1 = nI (cM (cutF F r k) r) := q2.1.trans wC.1)
      all_goals (try (rw [e2]; (simp (disch := omega) only [nI_toI, nI_cl, nI_add, nI_mul, alen11, alen12, alen13, alen14, alen15, alen16, alen17, alen18, alen19]; omega)))
      repeat' (first | (intro hc) | (refine And.intro ?_ ?_) | (exact absurd nI_0 ‹cmpF 0 (nI 0) 0›) | (exact absurd ‹cmpT 0 (nI 1) 0› nI1_ne) | (exact absurd nI_0 ‹cmpT 1 (nI 0) 0›) | (exact absurd ‹cmpF 1 (nI 1) 0› nI1_ne) | (show wp _ _ _ _ _ _ _ _ _ _ _ _; conv => whnf) | (rw [e2]) | (simp (disch := omega) only [nI_cl]) | (simp (disch := omega) only [nI_add, nI_mul, setN_now, setN_put, nI_cl, Nat.add_zero]) | (refine hcall _ _ _ _ ?_; first | (refine c_mapBecome (by omega) (fun s3 o1 o2 b0 b1 b15 m2 m3 m4 m5 => ?_)) | fail))
      all_goals (try (simp (disch := omega) only [nI_toI, nI_cl, nI_add, nI_mul, alen11, alen12, alen13, alen14, alen15, alen16, alen17, alen18, alen19]; omega))
      have e3 : s3.1 4 (4 * w + r) 1 = nI (cM (cutF F r k) r) := (o1 4 _ 1 (by omega) (by omega) (by omega)).trans e2
      obtain ⟨z1, z2, z3, z4⟩ := rep_new hw hr hk h10 hR u2 p2 q2 o1 o2 b0 b1 b15 m2 m3 m4 m5
      have hf := h _ z1 z2 z3 z4
      rw [e3, putV_at, nI_add, nI_sub (by omega) (by omega), Nat.add_sub_cancel]
      refine hcall _ _ _ _ ?_
      refine c_front (n := cM (cutF F r k) r + 1) (putV_at) (by omega) (by omega) ?_
      exact hf
    · rw [if_neg h5] at hcu
      have q2 : repRouter s (4 * w + r) (cutF F r k) r := by rw [hcu]; exact rr
      have e2 : s.1 4 (4 * w + r) 1 = nI (cM (cutF F r k) r) := q2.1.trans wC.1
      intro call hcall X hX; refine hX 1000 0 _ _ _ ?_
      repeat' (first | (intro hc) | (refine And.intro ?_ ?_) | (exact absurd nI_0 ‹cmpF 0 (nI 0) 0›) | (exact absurd ‹cmpT 0 (nI 1) 0› nI1_ne) | (exact absurd nI_0 ‹cmpT 1 (nI 0) 0›) | (exact absurd ‹cmpF 1 (nI 1) 0› nI1_ne) | (show wp _ _ _ _ _ _ _ _ _ _ _ _; conv => whnf) | (rw [e2]) | (simp (disch := omega) only [nI_cl]) | (simp (disch := omega) only [nI_add, nI_mul, setN_now, setN_put, nI_cl, Nat.add_zero]) | (refine hcall _ _ _ _ ?_; first | (refine c_placeOfSiteE wr rr i40 ho ?_) | (refine c_dropNo e1 w5 m1_no ?_) | (refine c_mapBecome (by omega) (fun s3 o1 o2 b0 b1 b15 m2 m3 m4 m5 => ?_)) | fail))
      all_goals (try (simp (disch := omega) only [nI_toI, nI_cl, nI_add, nI_mul, alen11, alen12, alen13, alen14, alen15, alen16, alen17, alen18, alen19]; omega))
      all_goals (try (exfalso; clear h wC g1 g3 g4 gR hcu q2 e2; (try clear hX hcall); (try clear h); (try simp (disch := omega) only [cmpT, cmpF, bI_eq0, bI_ne0, Classical.not_not, nI_toI, nI_cl, nI_inj, nI_add, nI_mul, nI_subI, takeL, setL, Int32.toInt_zero, Nat.add_zero, setN_now, alen20, alen11, alen12, alen13, alen14, alen15, alen16, alen17, alen18, alen19, (id e1)] at *); omega))
      have e3 : s3.1 4 (4 * w + r) 1 = nI (cM (cutF F r k) r) := (o1 4 _ 1 (by omega) (by omega) (by omega)).trans e2
      obtain ⟨z1, z2, z3, z4⟩ := rep_new hw hr hk h10 hR Rupd.refl hp q2 o1 o2 b0 b1 b15 m2 m3 m4 m5
      have hf := h _ z1 z2 z3 z4
      rw [e3, putV_at, nI_add, nI_sub (by omega) (by omega), Nat.add_sub_cancel]
      refine hcall _ _ _ _ ?_
      refine c_front (n := cM (cutF F r k) r + 1) (putV_at) (by omega) (by omega) ?_
      exact hf
  | some p =>
    obtain ⟨hcu, hpl⟩ := cut_some wr (by omega) ho
    have d := drops_c (p := p) wr (by omega)
    intro call hcall X hX; refine hX 1000 0 _ _ _ ?_
    repeat' (first | (intro hc) | (refine And.intro ?_ ?_) | (exact absurd nI_0 ‹cmpF 0 (nI 0) 0›) | (exact absurd ‹cmpT 0 (nI 1) 0› nI1_ne) | (exact absurd nI_0 ‹cmpT 1 (nI 0) 0›) | (exact absurd ‹cmpF 1 (nI 1) 0› nI1_ne) | (show wp _ _ _ _ _ _ _ _ _ _ _ _; conv => whnf) | (simp (disch := omega) only [nI_add, nI_mul, setN_now, setN_put, nI_cl, Nat.add_zero]) | (refine hcall _ _ _ _ ?_; first | (refine c_placeOfSiteE wr rr i40 ho ?_) | (refine c_dropR wr (by omega) t2 i40 hp rr hpl (fun s2 u2 p2 q2 => ?_)) | fail))
    all_goals (rw [← hcu] at q2)
    all_goals (have e2 : s2.1 4 (4 * w + r) 1 = nI (cM (cutF F r k) r) := q2.1.trans wC.1)
    all_goals (try (exfalso; clear h wC g1 g3 g4 gR hcu q2; (try clear hX hcall); (try clear h); (try simp (disch := omega) only [cmpT, cmpF, bI_eq0, bI_ne0, Classical.not_not, nI_toI, nI_cl, nI_inj, nI_add, nI_mul, nI_subI, takeL, setL, Int32.toInt_zero, Nat.add_zero, setN_now, alen20, alen11, alen12, alen13, alen14, alen15, alen16, alen17, alen18, alen19, (id e2)] at *); omega))
    all_goals (try (rw [e2]; (simp (disch := omega) only [nI_toI, nI_cl, nI_add, nI_mul, alen11, alen12, alen13, alen14, alen15, alen16, alen17, alen18, alen19]; omega)))
    repeat' (first | (intro hc) | (refine And.intro ?_ ?_) | (exact absurd nI_0 ‹cmpF 0 (nI 0) 0›) | (exact absurd ‹cmpT 0 (nI 1) 0› nI1_ne) | (exact absurd nI_0 ‹cmpT 1 (nI 0) 0›) | (exact absurd ‹cmpF 1 (nI 1) 0› nI1_ne) | (show wp _ _ _ _ _ _ _ _ _ _ _ _; conv => whnf) | (rw [e2]) | (simp (disch := omega) only [nI_cl]) | (simp (disch := omega) only [nI_add, nI_mul, setN_now, setN_put, nI_cl, Nat.add_zero]) | (refine hcall _ _ _ _ ?_; first | (refine c_mapBecome (by omega) (fun s3 o1 o2 b0 b1 b15 m2 m3 m4 m5 => ?_)) | fail))
    all_goals (try (simp (disch := omega) only [nI_toI, nI_cl, nI_add, nI_mul, alen11, alen12, alen13, alen14, alen15, alen16, alen17, alen18, alen19]; omega))
    all_goals (try (exfalso; clear h wC g1 g3 g4 gR hcu q2; (try clear hX hcall); (try clear h); (try simp (disch := omega) only [cmpT, cmpF, bI_eq0, bI_ne0, Classical.not_not, nI_toI, nI_cl, nI_inj, nI_add, nI_mul, nI_subI, takeL, setL, Int32.toInt_zero, Nat.add_zero, setN_now, alen20, alen11, alen12, alen13, alen14, alen15, alen16, alen17, alen18, alen19, (id e2)] at *); omega))
    have e3 : s3.1 4 (4 * w + r) 1 = nI (cM (cutF F r k) r) := (o1 4 _ 1 (by omega) (by omega) (by omega)).trans e2
    obtain ⟨z1, z2, z3, z4⟩ := rep_new hw hr hk h10 hR u2 p2 q2 o1 o2 b0 b1 b15 m2 m3 m4 m5
    have hf := h _ z1 z2 z3 z4
    rw [e3, putV_at, nI_add, nI_sub (by omega) (by omega), Nat.add_sub_cancel]
    refine hcall _ _ _ _ ?_
    refine c_front (n := cM (cutF F r k) r + 1) (putV_at) (by omega) (by omega) ?_
    exact hf
set_option maxHeartbeats 4000000 in
set_option maxRecDepth 100000 in
theorem RepW_cnt (hw : WF F B) (hp : permOk s) (h10 : w < 10) (hr : r < cR F) (hR : RepW s w F) (hk : k < 6) (h0 : 0 < k) : RepW (putV s 4 (4 * w + r) (k + 1) x) w (putF F (165 + 6 * r + k) x) := by
  have r2 := hw.r2
  have m0 := mA_eq r 0
  have rr := hR.router hr
  have wr := hw.router hr
  have w5 := wr.2.1
  have eF : ∀ i, i ≠ 165 + 6 * r + k → putF F (165 + 6 * r + k) x i = F i := fun i hi => putF_ne _ _ hi
  refine RepW_router hw hp h10 hr hR (fun c j m e => putV_ne (by
    by_cases e1 : c = 4
    · right; left; intro e2; subst e1; subst e2; exact e rfl
    · exact Or.inl e1)) (fun _ _ _ => rfl) (fun i h1 h2 => eF i (by omega)) ?_
  have g := repRouter_F (F' := putF F (165 + 6 * r + k) x) (s := s) (i := 4 * w + r) (F := F) (r := r)
  have ec : cM (putF F (165 + 6 * r + k) x) r = cM F r := by unfold cM; rw [eF _ (by omega)]
  have one : ∀ j, j < 6 → (putV s 4 (4 * w + r) (k + 1) x).1 4 (4 * w + r) (j + 1) = putF F (165 + 6 * r + k) x (165 + 6 * r + j) := by
    intro j hj
    by_cases e : j = k
    · subst e; rw [putV_at, putF_at]
    · rw [putV_ne (by omega), eF _ (by omega)]
      have hj6 : j = 0 ∨ j = 1 ∨ j = 2 ∨ j = 3 ∨ j = 4 ∨ j = 5 := by omega
      rcases hj6 with t | t | t | t | t | t <;> subst t
      · exact rr.1
      · exact rr.2.1
      · exact rr.2.2.1
      · exact rr.2.2.2.1
      · exact rr.2.2.2.2.1
      · exact rr.2.2.2.2.2.1
  refine ⟨one 0 (by omega), one 1 (by omega), one 2 (by omega), one 3 (by omega), one 4 (by omega), one 5 (by omega), fun p hp' => ?_⟩
  rw [ec] at hp'
  exact repMap_t (s := s) (fun c j k hc => putV_ne (Or.inl hc)) (repMap_F (wr.2.2.1 p hp').2.1 (fun j hj => eF _ (by have := mA_eq r p; omega)) (fun t ht => ⟨eF _ (by have := hw.t2; omega), eF _ (by have := hw.t2; omega)⟩) (rr.2.2.2.2.2.2 p hp'))
theorem new_o (hw : WF F B) (hr : r < cR F) (h1 : i < 165 + 6 * r ∨ 165 + 6 * r + 6 ≤ i) (h2 : i < mA r 0 ∨ mA r 5 ≤ i) : newF F r k i = F i := by
  have r2 := hw.r2
  have m0 := mA_eq r 0
  have m5 := mA_eq r 5
  have wr := hw.router hr
  have w5 := wr.2.1
  obtain ⟨g1, g2, g3, g4⟩ := cut_ok (k := k) hw hr
  have mc := mA_eq r (cM (cutF F r k) r + 1)
  rw [newF_eq, fr_o (by omega) (by omega) (by omega)]
  cases ho : firN (copP F r (nI k)) (cM F r) 0 with
  | none =>
    rw [cut_none ho]
    split
    · exact drops_o (by omega) (by omega) w5 (by omega)
    · rfl
  | some p =>
    rw [(cut_some wr (by omega) ho).1]
    exact drops_o (by omega) (by omega) w5 (by omega)
theorem Upd_r (h1 : ∀ c j m, ownR c j ≠ 4 * w + r → s'.1 c j m = s.1 c j m) (h2 : ∀ i j, i ≠ 4 * w + r → s'.2 i j = s.2 i j) (h3 : permOk s → permOk s') (hr : r < 4) (h10 : w < 10) : Upd s s' w := ⟨fun c i k hc => h1 c i k (fun e => hc (by
  unfold ownR at e
  split at e
  · show i / 4 = w; omega
  · show i / 20 = w; omega
  · show (if i < 80 then i / 8 else if i < 160 then (i - 80) / 8 else (i - 160) / 20) = w
    split at e
    · omega
    · rw [if_neg (by omega), if_neg (by omega)]; omega
  · show (if i < 80 then i / 8 else (i - 80) / 20) = w
    split at e
    · omega
    · rw [if_neg (by omega)]; omega
  · omega)), fun i j hi => h2 i j (fun e => hi (by omega)), h3⟩
set_option maxHeartbeats 4000000 in
set_option maxRecDepth 100000 in
theorem c_ask (hw : WF F B) (h10 : w < 10) (hp : permOk s) (hR : RepW s w F) (hr : r < cR F) (hn : iN name 256) (h : ∀ s', Upd s s' w → RepW s' w (asksF F r name).2 → Q (some (.inl (bI ((asksF F r name).1 = true)))) s') : wpM L xs codT retT (f + 4) m_X8_ask [.inr (8, w), .inr (4, 4 * w + r), .inl name] s Q := by
  have r2 := hw.r2
  have rr := hR.router hr
  have hw1 : WF (putF F (165 + 6 * r + 1) (F (165 + 6 * r + 1) + nI 1)) B := WF_cnt (r := r) hw (by omega) (fun i hi => putF_ne _ _ (by omega))
  have hr1 : r < cR (putF F (165 + 6 * r + 1) (F (165 + 6 * r + 1) + nI 1)) := by unfold cR; rw [putF_ne _ _ (by omega)]; exact hr
  have hR1 := RepW_cnt (x := F (165 + 6 * r + 1) + nI 1) hw hp h10 hr hR (k := 1) (by omega) (by omega)
  have hwA := WF_asked (name := name) hw (show r < 4 by omega)
  have hrA : r < cR (askedF F r name) := by unfold cR; rw [asked_o (by omega) (by omega)]; exact hr
  have rr1 := hR1.router hr1
  have hR2 := RepW_cnt (x := putF F (165 + 6 * r + 1) (F (165 + 6 * r + 1) + nI 1) (165 + 6 * r + 2) + nI (wayF (putF F (165 + 6 * r + 1) (F (165 + 6 * r + 1) + nI 1)) (homeF (putF F (165 + 6 * r + 1) (F (165 + 6 * r + 1) + nI 1)) name (nI 1)))) hw1 (permOk_put hp) h10 hr1 hR1 (k := 2) (by omega) (by omega)
  rw [asked_put hw (by omega)] at hR2
  have e0 : s.1 4 (4 * w + r) 2 = F (165 + 6 * r + 1) := rr.2.1
  have e1 : (putV s 4 (4 * w + r) 2 (F (165 + 6 * r + 1) + nI 1)).1 4 (4 * w + r) 3 = putF F (165 + 6 * r + 1) (F (165 + 6 * r + 1) + nI 1) (165 + 6 * r + 2) := rr1.2.2.1
  have hk1 := homeF_ltS hw1 (a := name) (z := nI 1)
  generalize hX1 : F (165 + 6 * r + 1) + nI 1 = x1 at *
  generalize hF1 : putF F (165 + 6 * r + 1) x1 = F1 at *
  generalize hX2 : F1 (165 + 6 * r + 2) + nI (wayF F1 (homeF F1 name (nI 1))) = x2 at *
  have hU : Upd s (putV (putV s 4 (4 * w + r) (1 + 1) x1) 4 (4 * w + r) (2 + 1) x2) w := (Upd_put (own_4 (by omega))).put (own_4 (by omega))
  have p2 := hU.2.2 hp
  generalize hA : askedF F r name = A at *
  have tA := hwA.t2
  have eT : (putV (putV s 4 (4 * w + r) (1 + 1) x1) 4 (4 * w + r) (2 + 1) x2).1 8 w 4 = nI (cT A) := hR2.t1.trans hwA.t1
  cases ho : ansF A name with
  | none =>
    have e : asksF F r name = (false, A) := by unfold asksF; rw [hA, ho]
    rw [e] at h
    have h := h _ hU hR2
    intro call hcall X hX; refine hX 1000 0 _ _ _ ?_
    repeat' (first | (intro hc) | (refine And.intro ?_ ?_) | (exact absurd nI_0 ‹cmpF 0 (nI 0) 0›) | (exact absurd ‹cmpT 0 (nI 1) 0› nI1_ne) | (exact absurd nI_0 ‹cmpT 1 (nI 0) 0›) | (exact absurd ‹cmpF 1 (nI 1) 0› nI1_ne) | (show wp _ _ _ _ _ _ _ _ _ _ _ _; conv => whnf) | (rw [e0]) | (rw [hX1]) | (rw [e1]) | (rw [hX2]) | (simp (disch := omega) only [nI_add, nI_mul, setN_now, setN_put, nI_cl, Nat.add_zero]) | (refine hcall _ _ _ _ ?_; first | (refine c_homeOf hw1 hR1 ?_) | (refine c_hopsTo hw1 hR1 hk1 ?_) | (refine c_answerForE hwA hR2 hn ho ?_) | (refine c_isSite eT tA ?_) | fail))
    all_goals first
      | exact Or.inl rfl
      | exact Or.inr rfl
      | exact h
      | exact Or.inl nI_0
      | (exfalso; exact bT m1_no (by assumption))
  | some k =>
    have hk := ansF_lt ho
    have hk2 := iN_k hk (by omega)
    have e : asksF F r name = (true, newF A r k) := by unfold asksF; rw [hA, ho]
    rw [e] at h
    have e6 := hR2.h1
    have e7 := hR2.l1
    have fin : ∀ s', (∀ c j m, ownR c j ≠ 4 * w + r → s'.1 c j m = (putV (putV s 4 (4 * w + r) (1 + 1) x1) 4 (4 * w + r) (2 + 1) x2).1 c j m) → (∀ i j, i ≠ 4 * w + r → s'.2 i j = (putV (putV s 4 (4 * w + r) (1 + 1) x1) 4 (4 * w + r) (2 + 1) x2).2 i j) → permOk s' → repRouter s' (4 * w + r) (newF A r k) r → Q (some (.inl (nI 1))) s' := by
      intro s' o1 o2 o3 o4
      refine h s' (hU.trans (Upd_r o1 o2 (fun _ => o3) (by omega) h10)) ?_
      exact RepW_router hwA p2 h10 hrA hR2 o1 o2 (fun i h1 h2 => new_o hwA hrA h1 h2) o4
    clear h
    intro call hcall X hX; refine hX 1000 0 _ _ _ ?_
    repeat' (first | (intro hc) | (refine And.intro ?_ ?_) | (exact absurd nI_0 ‹cmpF 0 (nI 0) 0›) | (exact absurd ‹cmpT 0 (nI 1) 0› nI1_ne) | (exact absurd nI_0 ‹cmpT 1 (nI 0) 0›) | (exact absurd ‹cmpF 1 (nI 1) 0› nI1_ne) | (show wp _ _ _ _ _ _ _ _ _ _ _ _; conv => whnf) | (rw [e0]) | (rw [hX1]) | (rw [e1]) | (rw [hX2]) | (rw [e6]) | (rw [e7]) | (rw [show optI (some k) (-1) = nI k from rfl]) | (simp (disch := omega) only [nI_cl]) | (simp (disch := omega) only [nI_add, nI_mul, setN_now, setN_put, nI_cl, Nat.add_zero]) | (refine hcall _ _ _ _ ?_; first | (refine c_homeOf hw1 hR1 ?_) | (refine c_hopsTo hw1 hR1 hk1 ?_) | (refine c_answerForE hwA hR2 hn ho ?_) | (refine c_isSite eT tA ?_) | (refine c_addMap hwA h10 p2 hR2 hrA hk (fun s2 o1 o2 o3 o4 => ?_)) | fail))
    all_goals first
      | exact Or.inl rfl
      | exact Or.inr rfl
      | exact fin _ o1 o2 o3 o4
      | (exfalso; exact bF hk2 (by assumption))
      | (simp (disch := omega) only [show optI (some k) (-1) = nI k from rfl, nI_toI, nI_cl, alen12]; omega)
      | (simp (disch := omega) only [nI_toI, nI_cl, nI_add, nI_mul, alen11, alen12, alen13, alen14, alen15, alen16, alen17, alen18, alen19]; omega)
end CLS17
end
section
/-! THE CLASS: letters -/
def restU (U : Fm) (r : Nat) (name flow : Int32) : Int32 × Fm :=
  if isAtF U (nn (U (mA r 0))) (choF U (mA r 0 + 4) flow) then (choF U (mA r 0 + 4) flow, if U (mA r 0 + 1) = U (29 + 17 * nn (U (mA r 0)) + 3) then U else fun i => if i = mA r 0 + 3 then nI 1 else U i)
  else match asksF (dropsF (plusF U (165 + 6 * r + 5)) r 0) r name with
    | (true, G3) => (choF G3 (mA r 0 + 4) flow, G3)
    | (false, G3) => (proxF name, plusF G3 (165 + 6 * r + 4))
section CLS18
variable {L : Nat} {xs : Nat → Int32} {f i k r p q c j n B b w w' m sd : Nat} {x y v a z l lo v0 v1 name flow place which : Int32} {s s' s2 s3 t : St} {F G C F' U u : Fm} {Q : Option MV → St → Prop} {P : Nat → Nat}
theorem rest_eq : restF G r p name flow = restU (usesF G r p) r name flow := rfl
theorem uses_0 : usesF F r 0 = F := by
  funext i
  simp only [usesF, Nat.zero_add, Nat.mul_zero, Nat.add_zero]
  (repeat' split) <;> first | rfl | omega | (exfalso; omega)
theorem Rupd.own (h : Rupd s s' i) : ∀ c j m, ownR c j ≠ i → s'.1 c j m = s.1 c j m := fun c j m hc => h.1 c j m (fun e => hc (by obtain ⟨e1, e2⟩ := e; rw [e1, e2]; rfl))
theorem Rupd.upd (h : Rupd s s' (4 * w + r)) (hr : r < 4) (h10 : w < 10) (h3 : permOk s') : Upd s s' w := Upd_r h.own h.2 (fun _ => h3) hr h10
set_option maxHeartbeats 4000000 in
set_option maxRecDepth 100000 in
theorem c_dropW (hw : WF F B) (hp : permOk s) (h10 : w < 10) (hr : r < cR F) (hR : RepW s w F) (hpl : p < cM F r) (h : ∀ s', Upd s s' w → permOk s' → RepW s' w (dropsF F r p) → Q none s') : wpM L xs codT retT (f + 2) m_X4_drop [.inr (4, 4 * w + r), .inl (nI p)] s Q := by
  have r2 := hw.r2
  have w5 := (hw.router hr).2.1
  exact c_dropR (hw.router hr) (by omega) hw.t2 (by omega) hp (hR.router hr) hpl (fun s' u p' q => h s' (u.upd (by omega) h10 p') p' (RepW_router hw hp h10 hr hR u.own u.2 (fun i h1 h2 => drops_o (by omega) (by omega) w5 h2) q))
set_option maxHeartbeats 4000000 in
set_option maxRecDepth 100000 in
theorem c_frontW (hw : WF F B) (hp : permOk s) (h10 : w < 10) (hr : r < cR F) (hR : RepW s w F) (hpl : p < cM F r) (h : ∀ s', Upd s s' w → permOk s' → RepW s' w (usesF F r p) → Q none s') : wpM L xs codT retT (f + 2) m_X4_moveToFront [.inr (4, 4 * w + r), .inl (nI p)] s Q := by
  have r2 := hw.r2
  have w5 := (hw.router hr).2.1
  have m1 := mA_eq r (p + 1)
  have m5 := mA_eq r 5
  exact c_frontR (hw.router hr) (by omega) hw.t2 (by omega) hp (hR.router hr) hpl (fun s' u p' q => h s' (u.upd (by omega) h10 p') p' (RepW_router hw hp h10 hr hR u.own u.2 (fun i h1 h2 => uses_o (by omega)) q))
theorem end_o (hr : r < 4) (h1 : i < 165 + 6 * r ∨ 165 + 6 * r + 6 ≤ i) (h2 : i < mA r 0 ∨ mA r 5 ≤ i) : ∀ n F, n ≤ cM F r → WF F B → r < cR F → endF r n F i = F i := by
  intro n
  induction n with
  | zero => intro F _ hw hr'; rfl
  | succ n ih =>
    intro F hn hw hr'
    unfold endF
    have wr := hw.router hr'
    have w5 := wr.2.1
    by_cases h : (F (mA r n + 2)).toInt ≤ (F 0).toInt
    · rw [if_pos h]
      have d := drops_c (p := n) wr (by omega)
      rw [ih _ (by omega) (WF_drop hw hr' (by omega)) (by unfold cR; rw [drops_lo (by omega)]; exact hr')]
      exact drops_o hr (by omega) w5 h2
    · rw [if_neg h]
      exact ih F (by omega) hw hr'
set_option maxHeartbeats 4000000 in
set_option maxRecDepth 100000 in
theorem c_endedW (hw : WF F B) (hp : permOk s) (h10 : w < 10) (hr : r < cR F) (hR : RepW s w F) (hx : x = F 0) (h : ∀ s', Upd s s' w → permOk s' → RepW s' w (endF r (cM F r) F) → Q none s') : wpM L xs codT retT (f + 3) m_X4_dropEnded [.inr (4, 4 * w + r), .inl x] s Q := by
  have r2 := hw.r2
  subst hx
  exact c_dropEnded hw (by omega) hp hr (hR.router hr) (fun s' u p' q => h s' (u.upd (by omega) h10 p') p' (RepW_router hw hp h10 hr hR u.own u.2 (fun i h1 h2 => end_o (by omega) h1 h2 _ F (Nat.le_refl _) hw hr) q))
set_option maxHeartbeats 4000000 in
set_option maxRecDepth 100000 in
theorem c_goByProxy (h : Q (some (.inl (proxF name))) (putV s 4 i 5 (s.1 4 i 5 + nI 1))) : wpM L xs codT retT (f + 1) m_X8_goByProxy [.inr (8, w), .inr (4, i), .inl name] s Q := by
  intro call hcall X hX; refine hX 1000 0 _ _ _ ?_
  repeat' (first | (intro hc) | (refine And.intro ?_ ?_) | (exact absurd nI_0 ‹cmpF 0 (nI 0) 0›) | (exact absurd ‹cmpT 0 (nI 1) 0› nI1_ne) | (exact absurd nI_0 ‹cmpT 1 (nI 0) 0›) | (exact absurd ‹cmpF 1 (nI 1) 0› nI1_ne) | (show wp _ _ _ _ _ _ _ _ _ _ _ _; conv => whnf))
  all_goals first
    | exact h
    | (intro q; exact absurd q (by decide))
    | (exfalso; exact absurd (by assumption : nI 32 = 0) (by decide))
theorem have_at : haveF F (29 + 17 * k + 5) place ↔ ((F (29 + 17 * k + 5) = nI 1 ∧ F (29 + 17 * k + 6) = place) ∨ (F (29 + 17 * k + 9) = nI 1 ∧ F (29 + 17 * k + 10) = place) ∨ (F (29 + 17 * k + 13) = nI 1 ∧ F (29 + 17 * k + 14) = place)) := Iff.rfl
set_option maxHeartbeats 4000000 in
set_option maxRecDepth 100000 in
theorem c_placeByMap {y : Nat} (hw : WF F B) (hR : RepW s w F) (hm : repMap s y F r p) (wm : WFmap F r p) (hf : 0 ≤ flow.toInt) (h1 : isAtF F (nn (F (mA r p))) (choF F (mA r p + 4) flow) → ∀ s', s' = (if F (mA r p + 1) = F (29 + 17 * nn (F (mA r p)) + 3) then s else putV s 2 y 5 (nI 1)) → Q (some (.inl (choF F (mA r p + 4) flow))) s') (h2 : ¬ isAtF F (nn (F (mA r p))) (choF F (mA r p + 4) flow) → Q (some (.inl (-1))) s) : wpM L xs codT retT (f + 4) m_X8_placeByMap [.inr (8, w), .inr (2, y), .inl flow] s Q := by
  have t2 := hw.t2
  have e2 : s.1 8 w 4 = nI (cT F) := hR.t1.trans hw.t1
  obtain ⟨m0, m1, -, -, -, -, mc⟩ := hm
  obtain ⟨w0, wk, -, ws⟩ := wm
  generalize hk : nn (F (mA r p)) = k at *
  have ms : s.1 2 y 2 = nI k := m0.trans w0
  have hk2 := iN_k wk (by omega)
  have hk3 : iN (s.1 2 y 2) (cT F) := by rw [ms]; exact hk2
  obtain ⟨-, -, -, k3, -, kc⟩ := hR.site wk
  have hpos : isAtF F k (choF F (mA r p + 4) flow) → noI (choF F (mA r p + 4) flow) = choF F (mA r p + 4) flow := fun q => noI_0 (isAt_pos hw wk q).1
  have hno : ¬ isAtF F k (choF F (mA r p + 4) flow) → upF F k → ¬ haveF F (29 + 17 * k + 5) (noI (choF F (mA r p + 4) flow)) := by
    intro g1 g2 g3
    rcases choF_cases (b := mA r p + 4) ws hf with c | c
    · rw [c.2, noI_5] at g3
      have pl : ∀ j, j < 3 → F (29 + 17 * k + 5 + 4 * j) = nI 1 → F (29 + 17 * k + 5 + 4 * j + 1) ≠ -1 := fun j hj hq e => by
        have := (slot_pl (hw.flag wk j hj) hq).1
        rw [e] at this
        exact absurd this (by decide)
      rcases g3 with ⟨q1, q2⟩ | ⟨q1, q2⟩ | ⟨q1, q2⟩
      · exact pl 0 (by omega) q1 q2
      · exact pl 1 (by omega) q1 q2
      · exact pl 2 (by omega) q1 q2
    · obtain ⟨j, hj, hq, hv⟩ := c.2
      have := (slot_pl (ws j hj) hq).1
      rw [noI_0 (by rw [hv]; exact this)] at g3
      exact g1 ⟨have_at.mp g3, g2⟩
  generalize hch : choF F (mA r p + 4) flow = ch at *
  have hpf : ∀ {f : Nat} {Q : Option MV → St → Prop}, Q (some (.inl (noI ch))) s → wpM L xs codT retT (f + 3) m_X7_placeFor [.inr (7, 80 + y), .inl flow] s Q := fun h => c_placeFor mc ws hf (by rw [hch]; exact h)
  by_cases hA : isAtF F k ch
  · have h := h1 hA
    have e := hpos hA
    have hup := hA.2
    have hhv : haveF F (29 + 17 * k + 5) (noI ch) := by rw [e]; exact have_at.mpr hA.1
    clear h1 h2 hno hpos
    by_cases hv : F (mA r p + 1) = F (29 + 17 * k + 3)
    · have h := h s (by rw [if_pos hv])
      rw [← e] at h
      rw [← m1, ← k3] at hv
      intro call hcall X hX; refine hX 1000 0 _ _ _ ?_
      repeat' (first | (intro hc) | (refine And.intro ?_ ?_) | (exact absurd nI_0 ‹cmpF 0 (nI 0) 0›) | (exact absurd ‹cmpT 0 (nI 1) 0› nI1_ne) | (exact absurd nI_0 ‹cmpT 1 (nI 0) 0›) | (exact absurd ‹cmpF 1 (nI 1) 0› nI1_ne) | (show wp _ _ _ _ _ _ _ _ _ _ _ _; conv => whnf) | (rw [ms]) | (simp (disch := omega) only [nI_cl]) | (simp (disch := omega) only [nI_add, nI_mul, setN_now, setN_put, nI_cl, Nat.add_zero]) | (refine hcall _ _ _ _ ?_; first | (refine hpf ?_) | (refine c_isSite e2 t2 ?_) | (refine c_siteUp hw hR wk ?_) | (refine c_have kc (hw.flag wk) ?_) | fail))
      all_goals first
        | exact h
        | (exfalso; exact bF hk3 (by assumption))
        | (exfalso; exact bF hup (by assumption))
        | (exfalso; exact bF hhv (by assumption))
        | (rw [ms]; (simp (disch := omega) only [nI_toI, nI_cl, nI_add, nI_mul, alen11, alen12, alen13, alen14, alen15, alen16, alen17, alen18, alen19]; omega))
        | (simp (disch := omega) only [nI_toI, nI_cl, nI_add, nI_mul, alen11, alen12, alen13, alen14, alen15, alen16, alen17, alen18, alen19]; omega)
        | (exfalso; clear h hX hcall hk2 hk3 hup hhv hA hpf; simp (disch := omega) only [cmpT, cmpF, ms, nI_cl] at *; contradiction)
    · have h := h _ rfl
      rw [if_neg hv, ← e] at h
      rw [← m1, ← k3] at hv
      intro call hcall X hX; refine hX 1000 0 _ _ _ ?_
      repeat' (first | (intro hc) | (refine And.intro ?_ ?_) | (exact absurd nI_0 ‹cmpF 0 (nI 0) 0›) | (exact absurd ‹cmpT 0 (nI 1) 0› nI1_ne) | (exact absurd nI_0 ‹cmpT 1 (nI 0) 0›) | (exact absurd ‹cmpF 1 (nI 1) 0› nI1_ne) | (show wp _ _ _ _ _ _ _ _ _ _ _ _; conv => whnf) | (rw [ms]) | (simp (disch := omega) only [nI_cl]) | (simp (disch := omega) only [nI_add, nI_mul, setN_now, setN_put, nI_cl, Nat.add_zero]) | (refine hcall _ _ _ _ ?_; first | (refine hpf ?_) | (refine c_isSite e2 t2 ?_) | (refine c_siteUp hw hR wk ?_) | (refine c_have kc (hw.flag wk) ?_) | fail))
      all_goals first
        | exact h
        | exact Or.inr rfl
        | (exfalso; exact bF hk3 (by assumption))
        | (exfalso; exact bF hup (by assumption))
        | (exfalso; exact bF hhv (by assumption))
        | (rw [ms]; (simp (disch := omega) only [nI_toI, nI_cl, nI_add, nI_mul, alen11, alen12, alen13, alen14, alen15, alen16, alen17, alen18, alen19]; omega))
        | (simp (disch := omega) only [nI_toI, nI_cl, nI_add, nI_mul, alen11, alen12, alen13, alen14, alen15, alen16, alen17, alen18, alen19]; omega)
        | (exfalso; clear h hX hcall hk2 hk3 hup hhv hA hpf; simp (disch := omega) only [cmpT, cmpF, ms, nI_cl] at *; contradiction)
  · have h := h2 hA
    have hno := hno hA
    clear h1 h2 hpos
    intro call hcall X hX; refine hX 1000 0 _ _ _ ?_
    repeat' (first | (intro hc) | (refine And.intro ?_ ?_) | (exact absurd nI_0 ‹cmpF 0 (nI 0) 0›) | (exact absurd ‹cmpT 0 (nI 1) 0› nI1_ne) | (exact absurd nI_0 ‹cmpT 1 (nI 0) 0›) | (exact absurd ‹cmpF 1 (nI 1) 0› nI1_ne) | (show wp _ _ _ _ _ _ _ _ _ _ _ _; conv => whnf) | (rw [ms]) | (simp (disch := omega) only [nI_cl]) | (simp (disch := omega) only [nI_add, nI_mul, setN_now, setN_put, nI_cl, Nat.add_zero]) | (refine hcall _ _ _ _ ?_; first | (refine hpf ?_) | (refine c_isSite e2 t2 ?_) | (refine c_siteUp hw hR wk ?_) | (refine c_have kc (hw.flag wk) ?_) | fail))
    all_goals first
      | exact h
      | (exfalso; exact bF hk3 (by assumption))
      | (exfalso; exact hno (bI_ne0.mp (by assumption)) (bI_ne0.mp (by assumption)))
      | (rw [ms]; (simp (disch := omega) only [nI_toI, nI_cl, nI_add, nI_mul, alen11, alen12, alen13, alen14, alen15, alen16, alen17, alen18, alen19]; omega))
      | (simp (disch := omega) only [nI_toI, nI_cl, nI_add, nI_mul, alen11, alen12, alen13, alen14, alen15, alen16, alen17, alen18, alen19]; omega)
end CLS18
end
section
/-! THE CLASS: sending -/
section CLS19
variable {L : Nat} {xs : Nat → Int32} {f i k r p q c j n B b w w' m sd : Nat} {x y v a z l lo v0 v1 name flow place which : Int32} {s s' s2 s3 t : St} {F G C F' U u : Fm} {Q : Option MV → St → Prop} {P : Nat → Nat}
theorem RepW_plus (hw : WF F B) (hp : permOk s) (h10 : w < 10) (hr : r < cR F) (hR : RepW s w F) (hk : k < 6) (h0 : 0 < k) : RepW (putV s 4 (4 * w + r) (k + 1) (F (165 + 6 * r + k) + nI 1)) w (plusF F (165 + 6 * r + k)) := by
  rw [← putF_plus]
  exact RepW_cnt hw hp h10 hr hR hk h0
theorem c_askE {A : Bool × Fm} (hw : WF F B) (h10 : w < 10) (hp : permOk s) (hR : RepW s w F) (hr : r < cR F) (hn : iN name 256) (e : asksF F r name = A) (h : ∀ s', Upd s s' w → RepW s' w A.2 → Q (some (.inl (bI (A.1 = true)))) s') : wpM L xs codT retT (f + 4) m_X8_ask [.inr (8, w), .inr (4, 4 * w + r), .inl name] s Q := c_ask hw h10 hp hR hr hn (by rw [e]; exact h)
theorem c_endedE (hw : WF F B) (hp : permOk s) (h10 : w < 10) (hr : r < cR F) (hR : RepW s w F) (hx : x = F 0) (e : endF r (cM F r) F = G) (h : ∀ s', Upd s s' w → permOk s' → RepW s' w G → Q none s') : wpM L xs codT retT (f + 3) m_X4_dropEnded [.inr (4, 4 * w + r), .inl x] s Q := c_endedW hw hp h10 hr hR hx (by rw [e]; exact h)
set_option maxHeartbeats 4000000 in
set_option maxRecDepth 100000 in
theorem RepW_mark {y : Nat} (hw : WF F B) (hp : permOk s) (h10 : w < 10) (hr : r < cR F) (hR : RepW s w F) (h0 : 0 < cM F r) (hy : s.2 (4 * w + r) 0 = y) : RepW (putV s 2 y 5 (nI 1)) w (fun i => if i = mA r 0 + 3 then nI 1 else F i) := by
  have r2 := hw.r2
  have t2 := hw.t2
  have m0 := mA_eq r 0
  have m5 := mA_eq r 5
  have rr := hR.router hr
  have wr := hw.router hr
  have w5 := wr.2.1
  have i40 : 4 * w + r < 40 := by omega
  have hy5 := perm_5 hp i40 (j := 0) (by omega)
  rw [hy] at hy5
  have eF : ∀ i, i ≠ mA r 0 + 3 → (fun i => if i = mA r 0 + 3 then nI 1 else F i) i = F i := fun i hi => if_neg hi
  have eF3 : (fun i => if i = mA r 0 + 3 then nI 1 else F i) (mA r 0 + 3) = nI 1 := if_pos rfl
  generalize hG : (fun i => if i = mA r 0 + 3 then nI 1 else F i) = G at *
  have ec : cM G r = cM F r := by unfold cM; rw [eF _ (by omega)]
  refine RepW_router hw hp h10 hr hR (fun c j m e => putV_ne (by
    by_cases e1 : c = 2
    · right; left; intro e2; subst e1; subst e2; exact e hy5
    · exact Or.inl e1)) (fun _ _ _ => rfl) (fun i h1 h2 => eF i (by omega)) ?_
  refine ⟨?_, ?_, ?_, ?_, ?_, ?_, fun p hp' => ?_⟩
  · rw [putV_ne (by omega), eF _ (by omega)]; exact rr.1
  · rw [putV_ne (by omega), eF _ (by omega)]; exact rr.2.1
  · rw [putV_ne (by omega), eF _ (by omega)]; exact rr.2.2.1
  · rw [putV_ne (by omega), eF _ (by omega)]; exact rr.2.2.2.1
  · rw [putV_ne (by omega), eF _ (by omega)]; exact rr.2.2.2.2.1
  · rw [putV_ne (by omega), eF _ (by omega)]; exact rr.2.2.2.2.2.1
  · rw [ec] at hp'
    have mp := mA_eq r p
    have hm := rr.2.2.2.2.2.2 p hp'
    have wk := (wr.2.2.1 p hp').2.1
    have e0 : G (mA r p) = F (mA r p) := eF _ (by omega)
    show repMap (putV s 2 y 5 (nI 1)) (s.2 (4 * w + r) p) G r p
    unfold repMap at hm ⊢
    rw [e0, eF (mA r p + 1) (by omega), eF (mA r p + 2) (by omega), eF (29 + 17 * nn (F (mA r p))) (by omega), eF (29 + 17 * nn (F (mA r p)) + 1) (by omega)]
    have cc : cellsRep (putV s 2 y 5 (nI 1)) (80 + s.2 (4 * w + r) p) G (mA r p + 4) := cellsRep_cg2 (s := s) (fun k _ => putV_ne (by omega)) (fun i hi => eF _ (by omega)) hm.2.2.2.2.2.2
    rw [putV_ne (by omega), putV_ne (by omega), putV_ne (by omega), putV_ne (c := 2) (a := 1) (by omega), putV_ne (c := 2) (a := 1) (by omega)]
    refine ⟨hm.1, hm.2.1, hm.2.2.1, ?_, hm.2.2.2.2.1, hm.2.2.2.2.2.1, cc⟩
    by_cases h00 : p = 0
    · subst h00
      rw [hy, putV_at, eF3]
    · have ne : s.2 (4 * w + r) p ≠ y := fun g => by
        have := (hp (4 * w + r) i40).2 p 0 (by omega) (by omega) (g.trans hy.symm)
        omega
      rw [putV_ne (by omega), eF _ (by omega)]
      exact hm.2.2.2.1
set_option maxHeartbeats 4000000 in
set_option maxRecDepth 100000 in
theorem c_sendLetter (hw : WF F B) (h10 : w < 10) (hp : permOk s) (hR : RepW s w F) (h : ∀ s', Upd s s' w → RepW s' w (letterF F v name flow).2 → Q (some (.inl (letterF F v name flow).1)) s') : wpM L xs codT retT (f + 5) m_X8_sendLetter [.inr (8, w), .inl v, .inl name, .inl flow] s Q := by
  have r2 := hw.r2
  have e3 : s.1 8 w 5 = nI (cR F) := hR.r1.trans hw.r1
  by_cases hv : iN v (cR F)
  · obtain ⟨r, hp1, hr⟩ := iN_nn hv (by omega)
    subst hp1
    have en : nn (nI r) = r := nI_cl (by omega)
    by_cases hb1 : iN name 256
    · by_cases hb2 : iN flow 100
      · have e : letterF F (nI r) name flow = sendF F r name flow := by unfold letterF; rw [if_neg (fun q => q hv), if_neg (fun q => q ⟨hb1, hb2⟩), en]
        rw [e] at h
        clear e
        have hf := hb2.1
        have hw1 : WF (plusF F (165 + 6 * r + 3)) B := WF_cnt (r := r) hw (by omega) (fun i hi => plus_o (by omega))
        have hr1 : r < cR (plusF F (165 + 6 * r + 3)) := by unfold cR; rw [plus_o (by omega)]; exact hr
        have hR1 := RepW_plus hw hp h10 hr hR (k := 3) (by omega) (by omega)
        have hU1 : Upd s (putV s 4 (4 * w + r) (3 + 1) (F (165 + 6 * r + 3) + nI 1)) w := Upd_put (own_4 (by omega))
        have hp1 := hU1.2.2 hp
        have le3 : s.1 4 (4 * w + r) 4 = F (165 + 6 * r + 3) := (hR.router hr).2.2.2.1
        obtain ⟨e1, e2, e3'⟩ := end_ok (cM (plusF F (165 + 6 * r + 3)) r) _ (Nat.le_refl _) hw1 hr1
        have hho := hR1.h1
        unfold sendF at h
        dsimp only at h
        generalize hx1 : F (165 + 6 * r + 3) + nI 1 = x1 at *
        generalize hF1 : plusF F (165 + 6 * r + 3) = F1 at *
        generalize hF2 : endF r (cM F1 r) F1 = F2 at *
        have hr2 : r < cR F2 := by rw [cR_of e2]; exact hr1
        have w2 := e1.router hr2
        intro call hcall X hX
        have rest : ∀ s1 U x, Upd s s1 w → RepW s1 w U → WF U B → r < cR U → 0 < cM U r → (∀ s', Upd s s' w → RepW s' w (restU U r name flow).2 → Q (some (.inl (restU U r name flow).1)) s') → X 122 [.inr (8, w), .inl (nI r), .inl name, .inl flow, .inr (4, 4 * w + r), .inl x] [] s1 := by
          clear h
          intro s1 U x u1 R1 W1 c1 c0 h
          have p1 := u1.2.2 hp
          have rrU := R1.router c1
          have wU := W1.router c1
          have hm := rrU.2.2.2.2.2.2 0 c0
          have wm := wU.2.2.1 0 c0
          have hmark := RepW_mark W1 p1 h10 c1 R1 c0 rfl
          have hy20 := perm_own p1 (i := 4 * w + r) (j := 0) (by omega) (by omega)
          unfold restU at h
          by_cases hA : isAtF U (nn (U (mA r 0))) (choF U (mA r 0 + 4) flow)
          · rw [if_pos hA] at h
            dsimp only at h
            have hne : ¬ choF U (mA r 0 + 4) flow = -1 := fun q => by
              have := (isAt_pos W1 wm.2.1 hA).1
              rw [q] at this
              exact absurd this (by decide)
            have h : ∀ s', s' = (if U (mA r 0 + 1) = U (29 + 17 * nn (U (mA r 0)) + 3) then s1 else putV s1 2 (s1.2 (4 * w + r) 0) 5 (nI 1)) → Q (some (.inl (choF U (mA r 0 + 4) flow))) s' := by
              intro s' hs'
              by_cases hq : U (mA r 0 + 1) = U (29 + 17 * nn (U (mA r 0)) + 3)
              · rw [if_pos hq] at hs' h
                subst hs'
                exact h _ u1 R1
              · rw [if_neg hq] at hs' h
                subst hs'
                exact h _ (u1.put (show s1.2 (4 * w + r) 0 / 20 = w by omega)) hmark
            refine hX 1000 122 _ _ _ ?_
            repeat' (first | (intro hc) | (refine And.intro ?_ ?_) | (exact absurd nI_0 ‹cmpF 0 (nI 0) 0›) | (exact absurd ‹cmpT 0 (nI 1) 0› nI1_ne) | (exact absurd nI_0 ‹cmpT 1 (nI 0) 0›) | (exact absurd ‹cmpF 1 (nI 1) 0› nI1_ne) | (show wp _ _ _ _ _ _ _ _ _ _ _ _; conv => whnf) | (simp (disch := omega) only [nI_cl]) | (simp (disch := omega) only [nI_add, nI_mul, setN_now, setN_put, nI_cl, Nat.add_zero]) | (refine hcall _ _ _ _ ?_; first | (refine c_placeByMap W1 R1 hm wm hf (fun _ s2 hs2 => ?_) (fun hno => absurd hA hno)) | fail))
            all_goals first
              | exact h _ hs2
              | (exfalso; exact hne (by assumption : cmpT 0 (choF U (mA r 0 + 4) flow) (-1)))
              | (simp (disch := omega) only [nI_toI, nI_cl, nI_add, nI_mul, alen11, alen12, alen13, alen14, alen15, alen16, alen17, alen18, alen19]; omega)
          · rw [if_neg hA] at h
            have hV : WF (plusF U (165 + 6 * r + 5)) B := WF_cnt (r := r) W1 (by omega) (fun i hi => plus_o (by omega))
            have vR : r < cR (plusF U (165 + 6 * r + 5)) := by unfold cR; rw [plus_o (by omega)]; exact c1
            have vC : cM (plusF U (165 + 6 * r + 5)) r = cM U r := by unfold cM; rw [plus_o (by omega)]
            have hRV := RepW_plus W1 p1 h10 c1 R1 (k := 5) (by omega) (by omega)
            have uV : Upd s (putV s1 4 (4 * w + r) (5 + 1) (U (165 + 6 * r + 5) + nI 1)) w := u1.put (own_4 (by omega))
            have pV := uV.2.2 hp
            have o5 : s1.1 4 (4 * w + r) 6 = U (165 + 6 * r + 5) := rrU.2.2.2.2.2.1
            have hD := WF_drop hV vR (p := 0) (by omega)
            have dR : r < cR (dropsF (plusF U (165 + 6 * r + 5)) r 0) := by unfold cR; rw [drops_lo (by omega)]; exact vR
            obtain ⟨a1, a2, a3, a4⟩ := asks_ok (name := name) hD dR
            have aR : r < cR (asksF (dropsF (plusF U (165 + 6 * r + 5)) r 0) r name).2 := by rw [cR_of a2]; exact dR
            have acho := asks_cho (flow := flow) (name := name) hD dR hf
            generalize hAs : asksF (dropsF (plusF U (165 + 6 * r + 5)) r 0) r name = A at *
            obtain ⟨ab, aG⟩ := A
            replace aR : r < cR aG := aR
            replace a1 : WF aG B := a1
            replace a3 : ab = true → 1 ≤ cM aG r := a3
            replace acho : ab = true → 0 ≤ (choF aG (mA r 0 + 4) flow).toInt ∧ (choF aG (mA r 0 + 4) flow).toInt < 32 := acho
            have pr : ∀ s3, Upd s s3 w → RepW s3 w aG → ab = false → Q (some (.inl (proxF name))) (putV s3 4 (4 * w + r) 5 (s3.1 4 (4 * w + r) 5 + nI 1)) := by
              intro s3 u3 R3 hab
              subst hab
              have q5 : s3.1 4 (4 * w + r) 5 = aG (165 + 6 * r + 4) := (R3.router aR).2.2.2.2.1
              rw [q5]
              exact h _ (u3.put (own_4 (by omega))) (RepW_plus a1 (u3.2.2 hp) h10 aR R3 (k := 4) (by omega) (by omega))
            have pc : ∀ s3, Upd s s3 w → RepW s3 w aG → ab = true → Q (some (.inl (noI (choF aG (mA r 0 + 4) flow)))) s3 ∧ cellsRep s3 (80 + s3.2 (4 * w + r) 0) aG (mA r 0 + 4) ∧ ∀ j, j < 3 → slotOk aG (mA r 0 + 4 + 4 * j) := by
              intro s3 u3 R3 hab
              subst hab
              have c3 := a3 rfl
              refine ⟨?_, ((R3.router aR).2.2.2.2.2.2 0 (by omega)).2.2.2.2.2.2, ((a1.router aR).2.2.1 0 (by omega)).2.2.2⟩
              rw [noI_0 (acho rfl).1]
              exact h _ u3 R3
            clear h
            refine hX 1000 122 _ _ _ ?_
            repeat' (first | (intro hc) | (refine And.intro ?_ ?_) | (exact absurd nI_0 ‹cmpF 0 (nI 0) 0›) | (exact absurd ‹cmpT 0 (nI 1) 0› nI1_ne) | (exact absurd nI_0 ‹cmpT 1 (nI 0) 0›) | (exact absurd ‹cmpF 1 (nI 1) 0› nI1_ne) | (show wp _ _ _ _ _ _ _ _ _ _ _ _; conv => whnf) | (rw [o5]) | (simp (disch := omega) only [nI_cl]) | (simp (disch := omega) only [nI_add, nI_mul, setN_now, setN_put, nI_cl, Nat.add_zero]) | (refine hcall _ _ _ _ ?_; first | (refine c_placeByMap W1 R1 hm wm hf (fun hyes => absurd hyes hA) (fun _ => ?_)) | (refine c_dropW hV pV h10 vR hRV (by omega) (fun s2 u2 p2 R2 => ?_)) | (refine c_askE hD h10 p2 R2 dR hb1 hAs (fun s3 u3 R3 => ?_)) | (refine c_goByProxy ?_) | (refine c_placeFor (pc _ (uV.trans (u2.trans u3)) R3 (bI_ne0.mp (by assumption))).2.1 (pc _ (uV.trans (u2.trans u3)) R3 (bI_ne0.mp (by assumption))).2.2 hf ?_) | fail))
            all_goals first
              | exact pr _ (uV.trans (u2.trans u3)) R3 (by have q := bI_eq0.mp (by assumption : bI (ab = true) = 0); cases ab with | true => exact absurd rfl q | false => rfl)
              | exact (pc _ (uV.trans (u2.trans u3)) R3 (bI_ne0.mp (by assumption))).1
              | (exfalso; exact (by assumption : cmpF 0 (-1) (-1)) rfl)
              | (simp (disch := omega) only [nI_toI, nI_cl, nI_add, nI_mul, alen11, alen12, alen13, alen14, alen15, alen16, alen17, alen18, alen19]; omega)
        obtain ⟨a1, a2, a3, a4⟩ := asks_ok (name := name) e1 hr2
        have aR : r < cR (asksF F2 r name).2 := by rw [cR_of a2]; exact hr2
        have aC := asked_cM (F := F2) (name := name) (r := r) (by omega)
        generalize hAs : asksF F2 r name = A at *
        obtain ⟨ab, aG⟩ := A
        replace aR : r < cR aG := aR
        replace a1 : WF aG B := a1
        replace a3 : ab = true → 1 ≤ cM aG r := a3
        replace a4 : ab = false → aG = askedF F2 r name := a4
        have wA := a1.router aR
        have w25 := w2.2.1
        have wA5 := wA.2.1
        refine hX 1000 0 _ _ _ ?_
        cases ho : takeN F2 r name (cM F2 r) with
        | none =>
          rw [ho] at h
          dsimp only at h
          have ePl : ∀ {f : Nat} {s2 : St} {Q : Option MV → St → Prop}, RepW s2 w F2 → Q (some (.inl (-1))) s2 → wpM L xs codT retT (f + 3) m_X4_placeOfSmallest [.inr (4, 4 * w + r), .inl name] s2 Q := fun hR2 h => c_placeOfSmallest e1 hr2 (hR2.router hr2) hb1 (by rw [ho]; exact h)
          have pr : ∀ s3, Upd s s3 w → RepW s3 w aG → ab = false → Q (some (.inl (proxF name))) (putV s3 4 (4 * w + r) 5 (s3.1 4 (4 * w + r) 5 + nI 1)) := by
            intro s3 u3 R3 hab
            subst hab
            have q5 : s3.1 4 (4 * w + r) 5 = aG (165 + 6 * r + 4) := (R3.router aR).2.2.2.2.1
            rw [q5]
            exact h _ (u3.put (own_4 (by omega))) (RepW_plus a1 (u3.2.2 hp) h10 aR R3 (k := 4) (by omega) (by omega))
          have go : ∀ s3, Upd s s3 w → RepW s3 w aG → ab = true → X 122 [.inr (8, w), .inl (nI r), .inl name, .inl flow, .inr (4, 4 * w + r), .inl (-1)] [] s3 := by
            intro s3 u3 R3 hab
            subst hab
            refine rest s3 aG (-1) u3 R3 a1 aR (a3 rfl) ?_
            have e4 : restF aG r 0 name flow = restU aG r name flow := by rw [rest_eq, uses_0]
            rw [← e4]
            exact h
          clear h rest
          repeat' (first | (intro hc) | (refine And.intro ?_ ?_) | (exact absurd nI_0 ‹cmpF 0 (nI 0) 0›) | (exact absurd ‹cmpT 0 (nI 1) 0› nI1_ne) | (exact absurd nI_0 ‹cmpT 1 (nI 0) 0›) | (exact absurd ‹cmpF 1 (nI 1) 0› nI1_ne) | (show wp _ _ _ _ _ _ _ _ _ _ _ _; conv => whnf) | (rw [le3]) | (rw [hx1]) | (simp (disch := omega) only [nI_cl]) | (simp (disch := omega) only [nI_add, nI_mul, setN_now, setN_put, nI_cl, Nat.add_zero]) | (refine hcall _ _ _ _ ?_; first | (refine c_isRouter e3 r2 ?_) | (refine c_sName ?_) | (refine c_sFlow ?_) | (refine c_endedE hw1 hp1 h10 hr1 hR1 hho hF2 (fun s2 u2 p2 R2 => ?_)) | (refine ePl R2 ?_) | (refine c_isPlace ((R2.router hr2).1.trans w2.1) w25 ?_) | (refine c_askE e1 h10 p2 R2 hr2 hb1 hAs (fun s3 u3 R3 => ?_)) | (refine c_dropNo ((R3.router aR).1.trans wA.1) wA5 m1_no ?_) | (refine c_goByProxy ?_) | fail))
          all_goals first
            | exact pr _ (hU1.trans (u2.trans u3)) R3 (by have q := bI_eq0.mp (by assumption : bI (ab = true) = 0); cases ab with | true => exact absurd rfl q | false => rfl)
            | exact go _ (hU1.trans (u2.trans u3)) R3 (bI_ne0.mp (by assumption))
            | (exfalso; exact bF hv (by assumption))
            | (exfalso; exact bF hb1 (by assumption))
            | (exfalso; exact bF hb2 (by assumption))
            | (exfalso; exact bT m1_no (by assumption))
            | (simp (disch := omega) only [nI_toI, nI_cl, nI_add, nI_mul, alen11, alen12, alen13, alen14, alen15, alen16, alen17, alen18, alen19]; omega)
        | some p =>
          rw [ho] at h
          dsimp only at h
          have hpl := takeN_lt _ _ ho
          have hpl2 := iN_k hpl (by omega)
          have mp := mA_eq r p
          have ePl : ∀ {f : Nat} {s2 : St} {Q : Option MV → St → Prop}, RepW s2 w F2 → Q (some (.inl (nI p))) s2 → wpM L xs codT retT (f + 3) m_X4_placeOfSmallest [.inr (4, 4 * w + r), .inl name] s2 Q := fun hR2 h => c_placeOfSmallest e1 hr2 (hR2.router hr2) hb1 (by rw [ho]; exact h)
          have mk : ∀ {s2 : St}, RepW s2 w F2 → s2.1 2 (s2.2 (4 * w + r) p) 5 = F2 (mA r p + 3) := fun hR2 => ((hR2.router hr2).2.2.2.2.2.2 p hpl).2.2.2.1
          by_cases hm : F2 (mA r p + 3) = nI 1
          · rw [if_pos hm] at h
            have mk1 : ∀ {s2 : St}, RepW s2 w F2 → ¬ s2.1 2 (s2.2 (4 * w + r) (nI p).toNatClampNeg) 5 = 0 := fun hR2 q => nI1_ne (hm.symm.trans ((mk hR2).symm.trans (by rw [nI_cl (by omega)] at q; exact q)))
            have dpl : ab = false → p < cM aG r := fun q => by rw [a4 q, aC]; exact hpl
            have pr : ∀ s3, Upd s s3 w → RepW s3 w (dropsF aG r p) → ab = false → Q (some (.inl (proxF name))) (putV s3 4 (4 * w + r) 5 (s3.1 4 (4 * w + r) 5 + nI 1)) := by
              intro s3 u3 R3 hab
              have dp := dpl hab
              subst hab
              have dR : r < cR (dropsF aG r p) := by unfold cR; rw [drops_lo (by omega)]; exact aR
              have q5 : s3.1 4 (4 * w + r) 5 = dropsF aG r p (165 + 6 * r + 4) := (R3.router dR).2.2.2.2.1
              rw [q5]
              exact h _ (u3.put (own_4 (by omega))) (RepW_plus (WF_drop a1 aR dp) (u3.2.2 hp) h10 dR R3 (k := 4) (by omega) (by omega))
            have go : ∀ s3, Upd s s3 w → RepW s3 w aG → ab = true → X 122 [.inr (8, w), .inl (nI r), .inl name, .inl flow, .inr (4, 4 * w + r), .inl (nI p)] [] s3 := by
              intro s3 u3 R3 hab
              subst hab
              refine rest s3 aG (nI p) u3 R3 a1 aR (a3 rfl) ?_
              have e4 : restF aG r 0 name flow = restU aG r name flow := by rw [rest_eq, uses_0]
              rw [← e4]
              exact h
            have ab0 : bI (ab = true) = 0 → ab = false := fun q => by
              have q := bI_eq0.mp q
              cases ab with
              | true => exact absurd rfl q
              | false => rfl
            clear h rest
            repeat' (first | (intro hc) | (refine And.intro ?_ ?_) | (exact absurd nI_0 ‹cmpF 0 (nI 0) 0›) | (exact absurd ‹cmpT 0 (nI 1) 0› nI1_ne) | (exact absurd nI_0 ‹cmpT 1 (nI 0) 0›) | (exact absurd ‹cmpF 1 (nI 1) 0› nI1_ne) | (show wp _ _ _ _ _ _ _ _ _ _ _ _; conv => whnf) | (rw [le3]) | (rw [hx1]) | (simp (disch := omega) only [nI_cl]) | (simp (disch := omega) only [nI_add, nI_mul, setN_now, setN_put, nI_cl, Nat.add_zero]) | (refine hcall _ _ _ _ ?_; first | (refine c_isRouter e3 r2 ?_) | (refine c_sName ?_) | (refine c_sFlow ?_) | (refine c_endedE hw1 hp1 h10 hr1 hR1 hho hF2 (fun s2 u2 p2 R2 => ?_)) | (refine ePl R2 ?_) | (refine c_isPlace ((R2.router hr2).1.trans w2.1) w25 ?_) | (refine c_askE e1 h10 p2 R2 hr2 hb1 hAs (fun s3 u3 R3 => ?_)) | (refine c_dropW a1 (u3.2.2 p2) h10 aR R3 (dpl (ab0 (by assumption))) (fun s4 u4 p4 R4 => ?_)) | (refine c_goByProxy ?_) | fail))
            all_goals first
              | exact pr _ (hU1.trans (u2.trans (u3.trans u4))) R4 (ab0 (by assumption))
              | exact go _ (hU1.trans (u2.trans u3)) R3 (bI_ne0.mp (by assumption))
              | (exfalso; exact bF hv (by assumption))
              | (exfalso; exact bF hb1 (by assumption))
              | (exfalso; exact bF hb2 (by assumption))
              | (exfalso; exact bF hpl2 (by assumption))
              | (exfalso; exact mk1 R2 (by assumption))
              | (simp (disch := omega) only [nI_toI, nI_cl, nI_add, nI_mul, alen11, alen12, alen13, alen14, alen15, alen16, alen17, alen18, alen19]; omega)
          · rw [if_neg hm] at h
            have mk0 : ∀ {s2 : St}, RepW s2 w F2 → s2.1 2 (s2.2 (4 * w + r) (nI p).toNatClampNeg) 5 = 0 := fun {s2} hR2 => (by rw [nI_cl (by omega)]; exact mk hR2 : s2.1 2 (s2.2 (4 * w + r) (nI p).toNatClampNeg) 5 = F2 (mA r p + 3)).trans (((w2.2.2.1 p hpl).2.2.1.resolve_right hm).trans nI_0)
            have go : ∀ s3, Upd s s3 w → RepW s3 w (usesF F2 r p) → X 122 [.inr (8, w), .inl (nI r), .inl name, .inl flow, .inr (4, 4 * w + r), .inl (nI p)] [] s3 := by
              intro s3 u3 R3
              refine rest s3 (usesF F2 r p) (nI p) u3 R3 (WF_uses e1 hr2 hpl) (by unfold cR; rw [uses_lo (by omega)]; exact hr2) (by rw [uses_c]; omega) ?_
              rw [← rest_eq]
              exact h
            clear h rest
            repeat' (first | (intro hc) | (refine And.intro ?_ ?_) | (exact absurd nI_0 ‹cmpF 0 (nI 0) 0›) | (exact absurd ‹cmpT 0 (nI 1) 0› nI1_ne) | (exact absurd nI_0 ‹cmpT 1 (nI 0) 0›) | (exact absurd ‹cmpF 1 (nI 1) 0› nI1_ne) | (show wp _ _ _ _ _ _ _ _ _ _ _ _; conv => whnf) | (rw [le3]) | (rw [hx1]) | (simp (disch := omega) only [nI_cl]) | (simp (disch := omega) only [nI_add, nI_mul, setN_now, setN_put, nI_cl, Nat.add_zero]) | (refine hcall _ _ _ _ ?_; first | (refine c_isRouter e3 r2 ?_) | (refine c_sName ?_) | (refine c_sFlow ?_) | (refine c_endedE hw1 hp1 h10 hr1 hR1 hho hF2 (fun s2 u2 p2 R2 => ?_)) | (refine ePl R2 ?_) | (refine c_isPlace ((R2.router hr2).1.trans w2.1) w25 ?_) | (refine c_frontW e1 p2 h10 hr2 R2 hpl (fun s3 u3 p3 R3 => ?_)) | fail))
            all_goals first
              | exact go _ (hU1.trans (u2.trans u3)) R3
              | (exfalso; exact bF hv (by assumption))
              | (exfalso; exact bF hb1 (by assumption))
              | (exfalso; exact bF hb2 (by assumption))
              | (exfalso; exact bF hpl2 (by assumption))
              | (exfalso; exact (by assumption : ¬ s2.1 2 (s2.2 (4 * w + r) (nI p).toNatClampNeg) 5 = 0) (mk0 R2))
              | (simp (disch := omega) only [nI_toI, nI_cl, nI_add, nI_mul, alen11, alen12, alen13, alen14, alen15, alen16, alen17, alen18, alen19]; omega)
      · have e : letterF F (nI r) name flow = (-2, F) := by unfold letterF; rw [if_neg (fun q => q hv), if_pos (fun q => hb2 q.2)]
        rw [e] at h
        have h := h s Upd.refl hR
        intro call hcall X hX; refine hX 1000 0 _ _ _ ?_
        repeat' (first | (intro hc) | (refine And.intro ?_ ?_) | (exact absurd nI_0 ‹cmpF 0 (nI 0) 0›) | (exact absurd ‹cmpT 0 (nI 1) 0› nI1_ne) | (exact absurd nI_0 ‹cmpT 1 (nI 0) 0›) | (exact absurd ‹cmpF 1 (nI 1) 0› nI1_ne) | (show wp _ _ _ _ _ _ _ _ _ _ _ _; conv => whnf) | (simp (disch := omega) only [nI_add, nI_mul, setN_now, setN_put, nI_cl, Nat.add_zero]) | (refine hcall _ _ _ _ ?_; first | (refine c_isRouter e3 r2 ?_) | (refine c_sName ?_) | (refine c_sFlow ?_) | fail))
        all_goals first
          | exact h
          | (exfalso; exact bF hv (by assumption))
          | (exfalso; exact bF hb1 (by assumption))
          | (exfalso; exact bT hb2 (by assumption))
    · have e : letterF F (nI r) name flow = (-2, F) := by unfold letterF; rw [if_neg (fun q => q hv), if_pos (fun q => hb1 q.1)]
      rw [e] at h
      have h := h s Upd.refl hR
      intro call hcall X hX; refine hX 1000 0 _ _ _ ?_
      repeat' (first | (intro hc) | (refine And.intro ?_ ?_) | (exact absurd nI_0 ‹cmpF 0 (nI 0) 0›) | (exact absurd ‹cmpT 0 (nI 1) 0› nI1_ne) | (exact absurd nI_0 ‹cmpT 1 (nI 0) 0›) | (exact absurd ‹cmpF 1 (nI 1) 0› nI1_ne) | (show wp _ _ _ _ _ _ _ _ _ _ _ _; conv => whnf) | (simp (disch := omega) only [nI_add, nI_mul, setN_now, setN_put, nI_cl, Nat.add_zero]) | (refine hcall _ _ _ _ ?_; first | (refine c_isRouter e3 r2 ?_) | (refine c_sName ?_) | (refine c_sFlow ?_) | fail))
      all_goals first
        | exact h
        | (exfalso; exact bF hv (by assumption))
        | (exfalso; exact bT hb1 (by assumption))
  · have e : letterF F v name flow = (-1, F) := by unfold letterF; rw [if_pos hv]
    rw [e] at h
    have h := h s Upd.refl hR
    intro call hcall X hX; refine hX 1000 0 _ _ _ ?_
    repeat' (first | (intro hc) | (refine And.intro ?_ ?_) | (exact absurd nI_0 ‹cmpF 0 (nI 0) 0›) | (exact absurd ‹cmpT 0 (nI 1) 0› nI1_ne) | (exact absurd nI_0 ‹cmpT 1 (nI 0) 0›) | (exact absurd ‹cmpF 1 (nI 1) 0› nI1_ne) | (show wp _ _ _ _ _ _ _ _ _ _ _ _; conv => whnf) | (simp (disch := omega) only [nI_add, nI_mul, setN_now, setN_put, nI_cl, Nat.add_zero]) | (refine hcall _ _ _ _ ?_; first | (refine c_isRouter e3 r2 ?_) | fail))
    all_goals first
      | exact h
      | (exfalso; exact bT hv (by assumption))
end CLS19
end
section
/-! THE CLASS: copies -/
section CLS20
variable {L : Nat} {xs : Nat → Int32} {f i i2 k r p q c j n B b w w' w2 m sd : Nat} {x y v z l lo v0 v1 name flow place which : Int32} {s s' s2 s3 t : St} {F G C F' U u : Fm} {Q : Option MV → St → Prop} {P : Nat → Nat}
set_option maxHeartbeats 4000000 in
set_option maxRecDepth 100000 in
theorem c_serverCopy {a : Nat} (h : ∀ s', (∀ c j m, ¬ (c = 1 ∧ j = a) → ¬ (c = 5 ∧ j = a) → s'.1 c j m = s.1 c j m) → s'.2 = s.2 → s'.1 1 a 0 = s.1 1 b 0 → s'.1 1 a 1 = s.1 1 b 1 → s'.1 5 a 1 = s.1 5 b 1 → Q none s') : wpM L xs codT retT (f + 2) m_X5_copyFrom [.inr (5, a), .inr (5, b)] s Q := by
  have h := h (putV (putV (putV s 1 a 0 (s.1 1 b 0)) 1 a 1 (s.1 1 b 1)) 5 a 1 (s.1 5 b 1)) (fun c j m h1 h2 => by simp (disch := omega) only [putV_ne]) rfl (by simp (disch := omega) only [putV_ne, putV_at]) (by simp (disch := omega) only [putV_ne, putV_at]) (by simp (disch := omega) only [putV_at])
  have e : (putV (putV s 1 a 0 (s.1 1 b 0)) 1 a 1 (s.1 1 b 1)).1 5 b 1 = s.1 5 b 1 := by simp (disch := omega) only [putV_ne]
  intro call hcall X hX; refine hX 1000 0 _ _ _ ?_
  repeat' (first | (intro hc) | (refine And.intro ?_ ?_) | (exact absurd nI_0 ‹cmpF 0 (nI 0) 0›) | (exact absurd ‹cmpT 0 (nI 1) 0› nI1_ne) | (exact absurd nI_0 ‹cmpT 1 (nI 0) 0›) | (exact absurd ‹cmpF 1 (nI 1) 0› nI1_ne) | (show wp _ _ _ _ _ _ _ _ _ _ _ _; conv => whnf) | (simp (disch := omega) only [nI_add, nI_mul, setN_now, setN_put, nI_cl, Nat.add_zero]) | (refine hcall _ _ _ _ ?_; first | (refine c_blockCopy ?_) | fail))
  rw [e]
  exact h
set_option maxHeartbeats 4000000 in
set_option maxRecDepth 100000 in
theorem c_siteCopy {a : Nat} (ha : a < 80) (hb : b < 80) (h : ∀ s', (∀ c j m, ownS c j ≠ a → s'.1 c j m = s.1 c j m) → s'.2 = s.2 → s'.1 1 (80 + a) 0 = s.1 1 (80 + b) 0 → s'.1 1 (80 + a) 1 = s.1 1 (80 + b) 1 → (∀ m, m < 9 → s'.1 15 a m = s.1 15 b m) → s'.1 6 a 2 = s.1 6 b 2 → s'.1 6 a 3 = s.1 6 b 3 → s'.1 6 a 4 = s.1 6 b 4 → Q none s') : wpM L xs codT retT (f + 2) m_X6_copyFrom [.inr (6, a), .inr (6, b)] s Q := by
  have oS1 : ownS 1 (80 + a) = a := by
    show (if 80 + a < 80 then 999 else if 80 + a < 160 then 80 + a - 80 else 999) = a
    rw [if_neg (by omega), if_pos (by omega)]; omega
  have oS15 : ownS 15 a = a := if_pos ha
  have e : ∀ m, (cpC (putV (putV s 1 (80 + a) 0 (s.1 1 (80 + b) 0)) 1 (80 + a) 1 (s.1 1 (80 + b) 1)) a b 9).1 6 b m = s.1 6 b m := fun m => by
    rw [cpC_o (by omega)]
    simp (disch := omega) only [putV_ne]
  have e3 : (putV (cpC (putV (putV s 1 (80 + a) 0 (s.1 1 (80 + b) 0)) 1 (80 + a) 1 (s.1 1 (80 + b) 1)) a b 9) 6 a 2 (s.1 6 b 2)).1 6 b 3 = s.1 6 b 3 := by rw [putV_ne (by omega), e]
  have e4 : (putV (putV (cpC (putV (putV s 1 (80 + a) 0 (s.1 1 (80 + b) 0)) 1 (80 + a) 1 (s.1 1 (80 + b) 1)) a b 9) 6 a 2 (s.1 6 b 2)) 6 a 3 (s.1 6 b 3)).1 6 b 4 = s.1 6 b 4 := by rw [putV_ne (by omega), putV_ne (by omega), e]
  have h := h (putV (putV (putV (cpC (putV (putV s 1 (80 + a) 0 (s.1 1 (80 + b) 0)) 1 (80 + a) 1 (s.1 1 (80 + b) 1)) a b 9) 6 a 2 (s.1 6 b 2)) 6 a 3 (s.1 6 b 3)) 6 a 4 (s.1 6 b 4)) (fun c j m hc => by
      refine site_put (site_put (site_put (fun c j m hc => ?_) rfl) rfl) rfl c j m hc
      rw [cpC_o (fun q => hc (by obtain ⟨q1, q2⟩ := q; rw [q1, q2]; exact oS15))]
      exact site_put (site_put site_0 oS1) oS1 c j m hc) rfl (by
      simp (disch := omega) only [putV_ne]
      rw [cpC_o (by omega)]
      simp (disch := omega) only [putV_ne, putV_at]) (by
      simp (disch := omega) only [putV_ne]
      rw [cpC_o (by omega)]
      simp (disch := omega) only [putV_at]) (fun m hm => by
      simp (disch := omega) only [putV_ne]
      rw [cpC_in hm]
      simp (disch := omega) only [putV_ne]) (by simp (disch := omega) only [putV_ne, putV_at]) (by simp (disch := omega) only [putV_ne, putV_at]) (by simp (disch := omega) only [putV_at])
  intro call hcall X hX; refine hX 1000 0 _ _ _ ?_
  repeat' (first | (intro hc) | (refine And.intro ?_ ?_) | (exact absurd nI_0 ‹cmpF 0 (nI 0) 0›) | (exact absurd ‹cmpT 0 (nI 1) 0› nI1_ne) | (exact absurd nI_0 ‹cmpT 1 (nI 0) 0›) | (exact absurd ‹cmpF 1 (nI 1) 0› nI1_ne) | (show wp _ _ _ _ _ _ _ _ _ _ _ _; conv => whnf) | (rw [e]) | (rw [e3]) | (rw [e4]) | (simp (disch := omega) only [nI_add, nI_mul, setN_now, setN_put, nI_cl, Nat.add_zero]) | (refine hcall _ _ _ _ ?_; first | (refine c_blockCopy ?_) | (refine c_slotsCopy ?_) | fail))
  all_goals first
    | exact h
    | (rw [e4]; exact h)
set_option maxHeartbeats 4000000 in
set_option maxRecDepth 100000 in
theorem c_mapCopy {y1 y2 : Nat} (hb : s.1 2 y2 5 = 0 ∨ s.1 2 y2 5 = 1) (h : ∀ s', (∀ c j' m, ¬ (c = 1 ∧ j' = 160 + y1) → ¬ (c = 15 ∧ j' = 80 + y1) → ¬ (c = 2 ∧ j' = y1) → s'.1 c j' m = s.1 c j' m) → s'.2 = s.2 → s'.1 1 (160 + y1) 0 = s.1 1 (160 + y2) 0 → s'.1 1 (160 + y1) 1 = s.1 1 (160 + y2) 1 → (∀ m, m < 9 → s'.1 15 (80 + y1) m = s.1 15 (80 + y2) m) → s'.1 2 y1 2 = s.1 2 y2 2 → s'.1 2 y1 3 = s.1 2 y2 3 → s'.1 2 y1 4 = s.1 2 y2 4 → s'.1 2 y1 5 = s.1 2 y2 5 → Q none s') : wpM L xs codT retT (f + 2) m_X2_copyFrom [.inr (2, y1), .inr (2, y2)] s Q := by
  have e2 : ∀ m, (cpC (putV (putV s 1 (160 + y1) 0 (s.1 1 (160 + y2) 0)) 1 (160 + y1) 1 (s.1 1 (160 + y2) 1)) (80 + y1) (80 + y2) 9).1 2 y2 m = s.1 2 y2 m := fun m => by
    rw [cpC_o (by omega)]
    simp (disch := omega) only [putV_ne]
  have e3 : ∀ x, (putV (cpC (putV (putV s 1 (160 + y1) 0 (s.1 1 (160 + y2) 0)) 1 (160 + y1) 1 (s.1 1 (160 + y2) 1)) (80 + y1) (80 + y2) 9) 2 y1 2 x).1 2 y2 3 = s.1 2 y2 3 := fun x => by rw [putV_ne (by omega), e2]
  have e4 : ∀ x x', (putV (putV (cpC (putV (putV s 1 (160 + y1) 0 (s.1 1 (160 + y2) 0)) 1 (160 + y1) 1 (s.1 1 (160 + y2) 1)) (80 + y1) (80 + y2) 9) 2 y1 2 x) 2 y1 3 x').1 2 y2 4 = s.1 2 y2 4 := fun x x' => by rw [putV_ne (by omega), putV_ne (by omega), e2]
  have e5 : ∀ x x' x'', (putV (putV (putV (cpC (putV (putV s 1 (160 + y1) 0 (s.1 1 (160 + y2) 0)) 1 (160 + y1) 1 (s.1 1 (160 + y2) 1)) (80 + y1) (80 + y2) 9) 2 y1 2 x) 2 y1 3 x') 2 y1 4 x'').1 2 y2 5 = s.1 2 y2 5 := fun x x' x'' => by rw [putV_ne (by omega), putV_ne (by omega), putV_ne (by omega), e2]
  have h := h (putV (putV (putV (putV (cpC (putV (putV s 1 (160 + y1) 0 (s.1 1 (160 + y2) 0)) 1 (160 + y1) 1 (s.1 1 (160 + y2) 1)) (80 + y1) (80 + y2) 9) 2 y1 2 (s.1 2 y2 2)) 2 y1 3 (s.1 2 y2 3)) 2 y1 4 (s.1 2 y2 4)) 2 y1 5 (s.1 2 y2 5)) (fun c j' m h1 h2 h3 => by
      simp (disch := omega) only [putV_ne]
      rw [cpC_o h2]
      simp (disch := omega) only [putV_ne]) rfl (by
      simp (disch := omega) only [putV_ne]
      rw [cpC_o (by omega)]
      simp (disch := omega) only [putV_ne, putV_at]) (by
      simp (disch := omega) only [putV_ne]
      rw [cpC_o (by omega)]
      simp (disch := omega) only [putV_at]) (fun m hm => by
      simp (disch := omega) only [putV_ne]
      rw [cpC_in hm]
      simp (disch := omega) only [putV_ne]) (by simp (disch := omega) only [putV_ne, putV_at]) (by simp (disch := omega) only [putV_ne, putV_at]) (by simp (disch := omega) only [putV_ne, putV_at]) (by simp (disch := omega) only [putV_at])
  intro call hcall X hX; refine hX 1000 0 _ _ _ ?_
  repeat' (first | (intro hc) | (refine And.intro ?_ ?_) | (exact absurd nI_0 ‹cmpF 0 (nI 0) 0›) | (exact absurd ‹cmpT 0 (nI 1) 0› nI1_ne) | (exact absurd nI_0 ‹cmpT 1 (nI 0) 0›) | (exact absurd ‹cmpF 1 (nI 1) 0› nI1_ne) | (show wp _ _ _ _ _ _ _ _ _ _ _ _; conv => whnf) | (rw [e2]) | (rw [e3]) | (rw [e4]) | (rw [e5]) | (simp (disch := omega) only [nI_add, nI_mul, setN_now, setN_put, nI_cl, Nat.add_zero]) | (refine hcall _ _ _ _ ?_; first | (refine c_blockCopy ?_) | (refine c_slotsCopy ?_) | fail))
  all_goals first
    | exact h
    | exact hb
    | (rw [e5]; exact h)
    | (rw [e5]; exact hb)
set_option maxHeartbeats 4000000 in
set_option maxRecDepth 100000 in
theorem c_routerCopy (hw : WFrouter F r) (hp : permOk s) (hi : i < 40) (hi2 : i2 < 40) (hne : i ≠ i2) (q : repRouter s i2 F r) (h : ∀ s', (∀ c j m, ownR c j ≠ i → s'.1 c j m = s.1 c j m) → s'.2 = s.2 → repRouter s' i F r → Q none s') : wpM L xs codT retT (f + 3) m_X4_copyFrom [.inr (4, i), .inr (4, i2)] s Q := by
  have w5 := hw.2.1
  have e0 : s.1 4 i2 1 = nI (cM F r) := q.1.trans hw.1
  have rng := (hp i hi).1
  have inj := (hp i hi).2
  have rng2 := (hp i2 hi2).1
  intro call hcall X hX; refine hX 1000 0 _ _ _ ?_
  repeat' (first | (intro hc) | (refine And.intro ?_ ?_) | (exact absurd nI_0 ‹cmpF 0 (nI 0) 0›) | (exact absurd ‹cmpT 0 (nI 1) 0› nI1_ne) | (exact absurd nI_0 ‹cmpT 1 (nI 0) 0›) | (exact absurd ‹cmpF 1 (nI 1) 0› nI1_ne) | (show wp _ _ _ _ _ _ _ _ _ _ _ _; conv => whnf))
  simp only [takeL, setL]
  have loop : ∀ j, j ≤ cM F r → ∀ s', (∀ c j m, ownR c j ≠ i → s'.1 c j m = s.1 c j m) → s'.2 = s.2 → s'.1 4 i 1 = nI (cM F r) → (∀ p, p < j → repMap s' (s.2 i p) F r p) → X 10 [.inr (4, i), .inr (4, i2), .inl (nI j)] [] s' := by
    refine loopD (cM F r) (fun j hj ih s' o1 o2 o3 o4 => ?_) (fun s' o1 o2 o3 o4 => ?_)
    · clear h
      have e2 : ∀ a b, s'.2 a b = s.2 a b := fun a b => by rw [o2]
      have y1 := rng j (by omega)
      have y2 := rng2 j (by omega)
      have wm := hw.2.2.1 j hj
      have hm := q.2.2.2.2.2.2 j hj
      have sm : repMap s' (s.2 i2 j) F r j := repMap_s (i := i2) (fun c j k hc => o1 c j k (by omega)) (by omega) hm
      have hb : s'.1 2 (s.2 i2 j) 5 = 0 ∨ s'.1 2 (s.2 i2 j) 5 = 1 := by
        rcases wm.2.2.1 with g | g
        · exact Or.inl (sm.2.2.2.1.trans (g.trans nI_0))
        · exact Or.inr (sm.2.2.2.1.trans g)
      refine hX 1000 10 _ _ _ ?_
      repeat' (first | (intro hc) | (refine And.intro ?_ ?_) | (exact absurd nI_0 ‹cmpF 0 (nI 0) 0›) | (exact absurd ‹cmpT 0 (nI 1) 0› nI1_ne) | (exact absurd nI_0 ‹cmpT 1 (nI 0) 0›) | (exact absurd ‹cmpF 1 (nI 1) 0› nI1_ne) | (show wp _ _ _ _ _ _ _ _ _ _ _ _; conv => whnf) | (rw [o2]) | (rw [o3]) | (simp (disch := omega) only [nI_cl]) | (simp (disch := omega) only [nI_add, nI_mul, setN_now, setN_put, nI_cl, Nat.add_zero]) | (refine hcall _ _ _ _ ?_; first | (refine c_mapCopy hb (fun s3 g1 g2 b0 b1 b15 m2 m3 m4 m5 => ?_)) | fail))
      all_goals (try (simp (disch := omega) only [nI_toI, nI_cl, nI_add, nI_mul, alen11, alen12, alen13, alen14, alen15, alen16, alen17, alen18, alen19]; omega))
      all_goals (try (exfalso; clear ih o1 hb; (try clear hX hcall); (try clear h); (try simp (disch := omega) only [cmpT, cmpF, bI_eq0, bI_ne0, Classical.not_not, nI_toI, nI_cl, nI_inj, nI_add, nI_mul, nI_subI, takeL, setL, Int32.toInt_zero, Nat.add_zero, setN_now, alen20, alen11, alen12, alen13, alen14, alen15, alen16, alen17, alen18, alen19, (id o3)] at *); omega))
      simp only [takeL, setL, nI_add, pushW]
      refine ih s3 (fun c a k hc => (g1 c a k (fun g => hc (by obtain ⟨t1, t2⟩ := g; rw [t1, t2, ownR_1]; omega)) (fun g => hc (by obtain ⟨t1, t2⟩ := g; rw [t1, t2, ownR_15]; omega)) (fun g => hc (by obtain ⟨t1, t2⟩ := g; rw [t1, t2]; show s.2 i j / 5 = i; omega))).trans (o1 c a k hc)) (g2.trans o2) ((g1 4 i 1 (by omega) (by omega) (by omega)).trans o3) (fun p hp' => ?_)
      by_cases e : p = j
      · subst e
        unfold repMap at sm ⊢
        rw [m2, m3, m4, m5, b0, b1]
        exact ⟨sm.1, sm.2.1, sm.2.2.1, sm.2.2.2.1, sm.2.2.2.2.1, sm.2.2.2.2.2.1, cellsRep_cg2 b15 (fun _ _ => rfl) sm.2.2.2.2.2.2⟩
      · have hp2 := o4 p (by omega)
        have ne : s.2 i p ≠ s.2 i j := fun g => e (inj p j (by omega) (by omega) g)
        unfold repMap at hp2 ⊢
        have t2 : ∀ k, s3.1 2 (s.2 i p) k = s'.1 2 (s.2 i p) k := fun k => g1 2 _ k (by omega) (by omega) (by omega)
        have t1 : ∀ k, s3.1 1 (160 + s.2 i p) k = s'.1 1 (160 + s.2 i p) k := fun k => g1 1 _ k (by omega) (by omega) (by omega)
        have t15 : ∀ k, s3.1 15 (80 + s.2 i p) k = s'.1 15 (80 + s.2 i p) k := fun k => g1 15 _ k (by omega) (by omega) (by omega)
        rw [t2, t2, t2, t2, t1, t1]
        exact ⟨hp2.1, hp2.2.1, hp2.2.2.1, hp2.2.2.2.1, hp2.2.2.2.2.1, hp2.2.2.2.2.2.1, cellsRep_cg t15 hp2.2.2.2.2.2.2⟩
    · have rd : ∀ k, s'.1 4 i2 k = s.1 4 i2 k := fun k => o1 4 i2 k (by show i2 ≠ i; omega)
      have d3 : ∀ x, (putV s' 4 i 2 x).1 4 i2 3 = s.1 4 i2 3 := fun x => by rw [putV_ne (by omega), rd]
      have d4 : ∀ x x', (putV (putV s' 4 i 2 x) 4 i 3 x').1 4 i2 4 = s.1 4 i2 4 := fun x x' => by rw [putV_ne (by omega), putV_ne (by omega), rd]
      have d5 : ∀ x x' x'', (putV (putV (putV s' 4 i 2 x) 4 i 3 x') 4 i 4 x'').1 4 i2 5 = s.1 4 i2 5 := fun x x' x'' => by rw [putV_ne (by omega), putV_ne (by omega), putV_ne (by omega), rd]
      have d6 : ∀ x x' x'' x3, (putV (putV (putV (putV s' 4 i 2 x) 4 i 3 x') 4 i 4 x'') 4 i 5 x3).1 4 i2 6 = s.1 4 i2 6 := fun x x' x'' x3 => by rw [putV_ne (by omega), putV_ne (by omega), putV_ne (by omega), putV_ne (by omega), rd]
      have hf := h (putV (putV (putV (putV (putV s' 4 i 2 (s.1 4 i2 2)) 4 i 3 (s.1 4 i2 3)) 4 i 4 (s.1 4 i2 4)) 4 i 5 (s.1 4 i2 5)) 4 i 6 (s.1 4 i2 6)) (fun c a k hc => by
        have ne4 : c ≠ 4 ∨ a ≠ i := by
          by_cases e1 : c = 4
          · right; intro e2; apply hc; rw [e1, e2]; rfl
          · exact Or.inl e1
        rw [putV_ne (by omega), putV_ne (by omega), putV_ne (by omega), putV_ne (by omega), putV_ne (by omega)]
        exact o1 c a k hc) o2 ⟨by simp (disch := omega) only [putV_ne]; exact o3.trans hw.1.symm, by simp (disch := omega) only [putV_ne, putV_at]; exact q.2.1, by simp (disch := omega) only [putV_ne, putV_at]; exact q.2.2.1, by simp (disch := omega) only [putV_ne, putV_at]; exact q.2.2.2.1, by simp (disch := omega) only [putV_ne, putV_at]; exact q.2.2.2.2.1, by simp (disch := omega) only [putV_at]; exact q.2.2.2.2.2.1, fun p hp' => by
        show repMap _ (s'.2 i p) F r p
        rw [o2]
        exact repMap_t (s := s') (fun c a k hc => by simp (disch := omega) only [putV_ne]) (o4 p hp')⟩
      clear h
      refine hX 1000 10 _ _ _ ?_
      repeat' (first | (intro hc) | (refine And.intro ?_ ?_) | (exact absurd nI_0 ‹cmpF 0 (nI 0) 0›) | (exact absurd ‹cmpT 0 (nI 1) 0› nI1_ne) | (exact absurd nI_0 ‹cmpT 1 (nI 0) 0›) | (exact absurd ‹cmpF 1 (nI 1) 0› nI1_ne) | (show wp _ _ _ _ _ _ _ _ _ _ _ _; conv => whnf) | (rw [rd]) | (rw [d3]) | (rw [d4]) | (rw [d5]) | (rw [d6]))
      all_goals first
        | exact hf
        | (rw [d6]; exact hf)
        | (clear hf; (try clear hX hcall); (try clear h); (try simp (disch := omega) only [cmpT, cmpF, bI_eq0, bI_ne0, Classical.not_not, nI_toI, nI_cl, nI_inj, nI_add, nI_mul, nI_subI, takeL, setL, Int32.toInt_zero, Nat.add_zero, setN_now, alen20, alen11, alen12, alen13, alen14, alen15, alen16, alen17, alen18, alen19, (id o3)] at *); omega)
  have eP : (putV s 4 i 1 (s.1 4 i2 1)).2 = s.2 := rfl
  refine loop 0 (by omega) _ (fun c a k hc => putV_ne (by
    by_cases e1 : c = 4
    · right; left; intro e2; apply hc; rw [e1, e2]; rfl
    · exact Or.inl e1)) eP (by rw [putV_at, e0]) (fun p hp' => absurd hp' (by omega))
end CLS20
end
section
/-! THE CLASS: copies of worlds -/
section CLS21
variable {L : Nat} {xs : Nat → Int32} {f i i2 k r p q c j n B b w w' w2 m sd : Nat} {x y v z l lo v0 v1 name flow place which : Int32} {s s' s2 s3 t : St} {F G C F' U u : Fm} {Q : Option MV → St → Prop} {P : Nat → Nat}
theorem ownS_n1 (hk : k < 8) (h10 : w < 10) : ownS 1 (8 * w + k) = 999 := if_pos (by omega)
theorem Upd_s (h1 : ∀ c j m, ownS c j ≠ 8 * w + k → s'.1 c j m = s.1 c j m) (h2 : s'.2 = s.2) (hk : k < 8) (h10 : w < 10) : Upd s s' w := ⟨fun c i m hc => h1 c i m (fun e => hc (ownS_W e hk h10)), fun i j _ => by rw [h2], fun h => permOk_of (fun i j => by rw [h2]) h⟩
set_option maxHeartbeats 4000000 in
set_option maxRecDepth 100000 in
theorem c_worldCopy (hw : WF F B) (hp : permOk s) (h10 : w < 10) (h10' : w2 < 10) (hne : w ≠ w2) (hR : RepW s w2 F) (h : ∀ s', Upd s s' w → RepW s' w F → Q none s') : wpM L xs codT retT (f + 4) m_X8_copyFrom [.inr (8, w), .inr (8, w2)] s Q := by
  have s2 := hw.s2
  have t2 := hw.t2
  have r2 := hw.r2
  have src : ∀ {s1}, Upd s s1 w → RepW s1 w2 F := fun u => u.rep (Ne.symm hne) hw hp h10' hR
  have e1 : s.1 8 w2 3 = nI (cS F) := hR.s1.trans hw.s1
  intro call hcall X hX; refine hX 1000 0 _ _ _ ?_
  repeat' (first | (intro hc) | (refine And.intro ?_ ?_) | (exact absurd nI_0 ‹cmpF 0 (nI 0) 0›) | (exact absurd ‹cmpT 0 (nI 1) 0› nI1_ne) | (exact absurd nI_0 ‹cmpT 1 (nI 0) 0›) | (exact absurd ‹cmpF 1 (nI 1) 0› nI1_ne) | (show wp _ _ _ _ _ _ _ _ _ _ _ _; conv => whnf))
  simp only [takeL, setL]
  have loop3 : ∀ j, j ≤ cR F → ∀ s1, Upd s s1 w → s1.1 8 w 3 = nI (cS F) → s1.1 8 w 4 = nI (cT F) → s1.1 8 w 5 = nI (cR F) → (∀ k, k < cS F → repServer s1 w k F) → (∀ k, k < cT F → repSite s1 w k F) → (∀ r, r < j → repRouter s1 (4 * w + r) F r) → X 88 [.inr (8, w), .inr (8, w2), .inl (nI j)] [] s1 := by
    refine loopD (cR F) (fun j hj ih s1 u o3 o4 o5 aS aT aR => ?_) (fun s1 u o3 o4 o5 aS aT aR => ?_)
    · clear h
      have p1 := u.2.2 hp
      have R1 := src u
      have wr := hw.router hj
      refine hX 1000 88 _ _ _ ?_
      repeat' (first | (intro hc) | (refine And.intro ?_ ?_) | (exact absurd nI_0 ‹cmpF 0 (nI 0) 0›) | (exact absurd ‹cmpT 0 (nI 1) 0› nI1_ne) | (exact absurd nI_0 ‹cmpT 1 (nI 0) 0›) | (exact absurd ‹cmpF 1 (nI 1) 0› nI1_ne) | (show wp _ _ _ _ _ _ _ _ _ _ _ _; conv => whnf) | (rw [o5]) | (simp (disch := omega) only [nI_cl]) | (simp (disch := omega) only [nI_add, nI_mul, setN_now, setN_put, nI_cl, Nat.add_zero]) | (refine hcall _ _ _ _ ?_; first | (refine c_routerCopy wr p1 (by omega) (by omega) (by omega) (R1.router hj) (fun s3 g1 g2 q3 => ?_)) | fail))
      all_goals (try (simp (disch := omega) only [nI_toI, nI_cl, nI_add, nI_mul, alen11, alen12, alen13, alen14, alen15, alen16, alen17, alen18, alen19]; omega))
      all_goals (try (exfalso; clear ih; (try clear hX hcall); (try clear h); (try simp (disch := omega) only [cmpT, cmpF, bI_eq0, bI_ne0, Classical.not_not, nI_toI, nI_cl, nI_inj, nI_add, nI_mul, nI_subI, takeL, setL, Int32.toInt_zero, Nat.add_zero, setN_now, alen20, alen11, alen12, alen13, alen14, alen15, alen16, alen17, alen18, alen19, (id o5)] at *); omega))
      simp only [takeL, setL, nI_add, pushW]
      have o8 : ∀ m, s3.1 8 w m = s1.1 8 w m := fun m => g1 8 w m (fun q => by have q : 999 = 4 * w + j := q; omega)
      refine ih s3 (u.trans (Upd_r g1 (fun i j _ => by rw [g2]) (fun hp' => permOk_of (fun i j => by rw [g2]) hp') (by omega) h10)) ((o8 3).trans o3) ((o8 4).trans o4) ((o8 5).trans o5) (fun k hk => ?_) (fun k hk => ?_) (fun r hr' => ?_)
      · exact repServer_cg (fun m => g1 _ _ _ (fun q => by have q : 999 = 4 * w + j := q; omega)) (fun m => g1 _ _ _ (fun q => by have q : (if 8 * w + k < 160 then 999 else (8 * w + k - 160) / 5) = 4 * w + j := q; rw [if_pos (by omega)] at q; omega)) (fun _ _ _ => rfl) (aS k hk)
      · exact repSite_cg (fun m => g1 _ _ _ (fun q => by have q : 999 = 4 * w + j := q; omega)) (fun m => g1 _ _ _ (fun q => by have q : (if 80 + (8 * w + k) < 160 then 999 else (80 + (8 * w + k) - 160) / 5) = 4 * w + j := q; rw [if_pos (by omega)] at q; omega)) (fun m _ => g1 _ _ _ (fun q => by have q : (if 8 * w + k < 80 then 999 else (8 * w + k - 80) / 5) = 4 * w + j := q; rw [if_pos (by omega)] at q; omega)) (fun _ _ _ => rfl) (aT k hk)
      · by_cases e : r = j
        · subst e; exact q3
        · exact repRouter_s (hw.router (by omega)) p1 (by omega) ⟨fun c a m e' => g1 c a m (by omega), fun a => by rw [g2]⟩ (aR r (by omega))
    · have p1 := u.2.2 hp
      have R1 := src u
      have f6 := R1.h1
      have f7 : (putV s1 8 w 6 (F 0)).1 8 w2 7 = F 4 := by rw [putV_ne (by omega)]; exact R1.l1
      have hf := h (putV (putV s1 8 w 6 (F 0)) 8 w 7 (F 4)) ((u.put rfl).put rfl) ⟨⟨by simp (disch := omega) only [putV_ne]; exact o3.trans hw.s1.symm, by simp (disch := omega) only [putV_ne]; exact o4.trans hw.t1.symm, by simp (disch := omega) only [putV_ne]; exact o5.trans hw.r1.symm, by simp (disch := omega) only [putV_ne, putV_at], by simp (disch := omega) only [putV_at]⟩, fun k hk => repServer_cg (fun m => by simp (disch := omega) only [putV_ne]) (fun m => by simp (disch := omega) only [putV_ne]) (fun _ _ _ => rfl) (aS k hk), fun k hk => repSite_cg (fun m => by simp (disch := omega) only [putV_ne]) (fun m => by simp (disch := omega) only [putV_ne]) (fun m _ => by simp (disch := omega) only [putV_ne]) (fun _ _ _ => rfl) (aT k hk), fun r hr' => repRouter_s (hw.router hr') p1 (by omega) ((sameR_put (fun q => by have q : 999 = 4 * w + r := q; omega)).put (fun q => by have q : 999 = 4 * w + r := q; omega)) (aR r hr')⟩
      clear h
      refine hX 1000 88 _ _ _ ?_
      repeat' (first | (intro hc) | (refine And.intro ?_ ?_) | (exact absurd nI_0 ‹cmpF 0 (nI 0) 0›) | (exact absurd ‹cmpT 0 (nI 1) 0› nI1_ne) | (exact absurd nI_0 ‹cmpT 1 (nI 0) 0›) | (exact absurd ‹cmpF 1 (nI 1) 0› nI1_ne) | (show wp _ _ _ _ _ _ _ _ _ _ _ _; conv => whnf) | (rw [f6]) | (rw [f7]))
      all_goals first
        | exact hf
        | (rw [f7]; exact hf)
        | (clear hf; (try clear hX hcall); (try clear h); (try simp (disch := omega) only [cmpT, cmpF, bI_eq0, bI_ne0, Classical.not_not, nI_toI, nI_cl, nI_inj, nI_add, nI_mul, nI_subI, takeL, setL, Int32.toInt_zero, Nat.add_zero, setN_now, alen20, alen11, alen12, alen13, alen14, alen15, alen16, alen17, alen18, alen19, (id o5)] at *); omega)
  have loop2 : ∀ j, j ≤ cT F → ∀ s1, Upd s s1 w → s1.1 8 w 3 = nI (cS F) → s1.1 8 w 4 = nI (cT F) → (∀ k, k < cS F → repServer s1 w k F) → (∀ k, k < j → repSite s1 w k F) → X 49 [.inr (8, w), .inr (8, w2), .inl (nI j)] [] s1 := by
    refine loopD (cT F) (fun j hj ih s1 u o3 o4 aS aT => ?_) (fun s1 u o3 o4 aS aT => ?_)
    · clear h loop3
      have p1 := u.2.2 hp
      have R1 := src u
      obtain ⟨z0, z1, z2, z3, z4, zc⟩ := R1.site hj
      refine hX 1000 49 _ _ _ ?_
      repeat' (first | (intro hc) | (refine And.intro ?_ ?_) | (exact absurd nI_0 ‹cmpF 0 (nI 0) 0›) | (exact absurd ‹cmpT 0 (nI 1) 0› nI1_ne) | (exact absurd nI_0 ‹cmpT 1 (nI 0) 0›) | (exact absurd ‹cmpF 1 (nI 1) 0› nI1_ne) | (show wp _ _ _ _ _ _ _ _ _ _ _ _; conv => whnf) | (rw [o4]) | (simp (disch := omega) only [nI_cl]) | (simp (disch := omega) only [nI_add, nI_mul, setN_now, setN_put, nI_cl, Nat.add_zero]) | (refine hcall _ _ _ _ ?_; first | (refine c_siteCopy (a := 8 * w + j) (b := 8 * w2 + j) (by omega) (by omega) (fun s3 g1 g2 b0 b1 b15 m2 m3 m4 => ?_)) | fail))
      all_goals (try (simp (disch := omega) only [nI_toI, nI_cl, nI_add, nI_mul, alen11, alen12, alen13, alen14, alen15, alen16, alen17, alen18, alen19]; omega))
      all_goals (try (exfalso; clear ih; (try clear hX hcall); (try clear h); (try simp (disch := omega) only [cmpT, cmpF, bI_eq0, bI_ne0, Classical.not_not, nI_toI, nI_cl, nI_inj, nI_add, nI_mul, nI_subI, takeL, setL, Int32.toInt_zero, Nat.add_zero, setN_now, alen20, alen11, alen12, alen13, alen14, alen15, alen16, alen17, alen18, alen19, (id o4)] at *); omega))
      simp only [takeL, setL, nI_add, pushW]
      have o8 : ∀ m, s3.1 8 w m = s1.1 8 w m := fun m => g1 8 w m (fun q => by have q : 999 = 8 * w + j := q; omega)
      refine ih s3 (u.trans (Upd_s g1 g2 (by omega) h10)) ((o8 3).trans o3) ((o8 4).trans o4) (fun k hk => ?_) (fun k hk => ?_)
      · exact repServer_cg (fun m => g1 _ _ _ (fun q => by have q : 999 = 8 * w + j := q; omega)) (fun m => g1 _ _ _ (fun q => by rw [ownS_n1 (by omega) h10] at q; omega)) (fun _ _ _ => rfl) (aS k hk)
      · by_cases e : k = j
        · subst e
          exact ⟨b0.trans z0, b1.trans z1, m2.trans z2, m3.trans z3, m4.trans z4, cellsRep_cg2 b15 (fun _ _ => rfl) zc⟩
        · exact repSite_cg (fun m => g1 _ _ _ (fun q => by have q : 8 * w + k = 8 * w + j := q; omega)) (fun m => g1 _ _ _ (fun q => by have q : (if 80 + (8 * w + k) < 80 then 999 else if 80 + (8 * w + k) < 160 then 80 + (8 * w + k) - 80 else 999) = 8 * w + j := q; rw [if_neg (by omega), if_pos (by omega)] at q; omega)) (fun m _ => g1 _ _ _ (fun q => by have q : (if 8 * w + k < 80 then 8 * w + k else 999) = 8 * w + j := q; rw [if_pos (by omega)] at q; omega)) (fun _ _ _ => rfl) (aT k (by omega))
    · have R1 := src u
      have p1 := u.2.2 hp
      have f5 : s1.1 8 w2 5 = nI (cR F) := R1.r1.trans hw.r1
      have hf := loop3 0 (by omega) (putV s1 8 w 5 (nI (cR F))) (u.put rfl) ((putV_ne (by omega)).trans o3) ((putV_ne (by omega)).trans o4) putV_at (fun k hk => repServer_cg (fun m => by simp (disch := omega) only [putV_ne]) (fun m => by simp (disch := omega) only [putV_ne]) (fun _ _ _ => rfl) (aS k hk)) (fun k hk => repSite_cg (fun m => by simp (disch := omega) only [putV_ne]) (fun m => by simp (disch := omega) only [putV_ne]) (fun m _ => by simp (disch := omega) only [putV_ne]) (fun _ _ _ => rfl) (aT k hk)) (fun r hr' => absurd hr' (by omega))
      clear h loop3
      refine hX 1000 49 _ _ _ ?_
      repeat' (first | (intro hc) | (refine And.intro ?_ ?_) | (exact absurd nI_0 ‹cmpF 0 (nI 0) 0›) | (exact absurd ‹cmpT 0 (nI 1) 0› nI1_ne) | (exact absurd nI_0 ‹cmpT 1 (nI 0) 0›) | (exact absurd ‹cmpF 1 (nI 1) 0› nI1_ne) | (show wp _ _ _ _ _ _ _ _ _ _ _ _; conv => whnf) | (rw [f5]))
      all_goals first
        | exact hf
        | (rw [f5]; exact hf)
        | (simp only [takeL, setL]; rw [f5]; exact hf)
        | (clear hf; (try clear hX hcall); (try clear h); (try simp (disch := omega) only [cmpT, cmpF, bI_eq0, bI_ne0, Classical.not_not, nI_toI, nI_cl, nI_inj, nI_add, nI_mul, nI_subI, takeL, setL, Int32.toInt_zero, Nat.add_zero, setN_now, alen20, alen11, alen12, alen13, alen14, alen15, alen16, alen17, alen18, alen19, (id o4)] at *); omega)
  have loop1 : ∀ j, j ≤ cS F → ∀ s1, Upd s s1 w → s1.1 8 w 3 = nI (cS F) → (∀ k, k < j → repServer s1 w k F) → X 10 [.inr (8, w), .inr (8, w2), .inl (nI j)] [] s1 := by
    refine loopD (cS F) (fun j hj ih s1 u o3 aS => ?_) (fun s1 u o3 aS => ?_)
    · clear h loop3 loop2
      have p1 := u.2.2 hp
      have R1 := src u
      obtain ⟨z0, z1, z2⟩ := R1.server hj
      refine hX 1000 10 _ _ _ ?_
      repeat' (first | (intro hc) | (refine And.intro ?_ ?_) | (exact absurd nI_0 ‹cmpF 0 (nI 0) 0›) | (exact absurd ‹cmpT 0 (nI 1) 0› nI1_ne) | (exact absurd nI_0 ‹cmpT 1 (nI 0) 0›) | (exact absurd ‹cmpF 1 (nI 1) 0› nI1_ne) | (show wp _ _ _ _ _ _ _ _ _ _ _ _; conv => whnf) | (rw [o3]) | (simp (disch := omega) only [nI_cl]) | (simp (disch := omega) only [nI_add, nI_mul, setN_now, setN_put, nI_cl, Nat.add_zero]) | (refine hcall _ _ _ _ ?_; first | (refine c_serverCopy (fun s3 g1 g2 b0 b1 m1 => ?_)) | fail))
      all_goals (try (simp (disch := omega) only [nI_toI, nI_cl, nI_add, nI_mul, alen11, alen12, alen13, alen14, alen15, alen16, alen17, alen18, alen19]; omega))
      all_goals (try (exfalso; clear ih; (try clear hX hcall); (try clear h); (try simp (disch := omega) only [cmpT, cmpF, bI_eq0, bI_ne0, Classical.not_not, nI_toI, nI_cl, nI_inj, nI_add, nI_mul, nI_subI, takeL, setL, Int32.toInt_zero, Nat.add_zero, setN_now, alen20, alen11, alen12, alen13, alen14, alen15, alen16, alen17, alen18, alen19, (id o3)] at *); omega))
      simp only [takeL, setL, nI_add, pushW]
      refine ih s3 (u.trans ⟨fun c i m hc => g1 c i m (fun g => hc (by obtain ⟨q1, q2⟩ := g; rw [q1, q2]; exact own_1a h10 (by omega))) (fun g => hc (by obtain ⟨q1, q2⟩ := g; rw [q1, q2]; exact own_5 (by omega))), fun i j _ => by rw [g2], fun hp' => permOk_of (fun i j => by rw [g2]) hp'⟩) ((g1 8 w 3 (by omega) (by omega)).trans o3) (fun k hk => ?_)
      by_cases e : k = j
      · subst e
        exact ⟨m1.trans z0, b0.trans z1, b1.trans z2⟩
      · exact repServer_cg (fun m => g1 _ _ _ (by omega) (by omega)) (fun m => g1 _ _ _ (by omega) (by omega)) (fun _ _ _ => rfl) (aS k (by omega))
    · have R1 := src u
      have p1 := u.2.2 hp
      have f4 : s1.1 8 w2 4 = nI (cT F) := R1.t1.trans hw.t1
      have hf := loop2 0 (by omega) (putV s1 8 w 4 (nI (cT F))) (u.put rfl) ((putV_ne (by omega)).trans o3) putV_at (fun k hk => repServer_cg (fun m => by simp (disch := omega) only [putV_ne]) (fun m => by simp (disch := omega) only [putV_ne]) (fun _ _ _ => rfl) (aS k hk)) (fun r hr' => absurd hr' (by omega))
      clear h loop3 loop2
      refine hX 1000 10 _ _ _ ?_
      repeat' (first | (intro hc) | (refine And.intro ?_ ?_) | (exact absurd nI_0 ‹cmpF 0 (nI 0) 0›) | (exact absurd ‹cmpT 0 (nI 1) 0› nI1_ne) | (exact absurd nI_0 ‹cmpT 1 (nI 0) 0›) | (exact absurd ‹cmpF 1 (nI 1) 0› nI1_ne) | (show wp _ _ _ _ _ _ _ _ _ _ _ _; conv => whnf) | (rw [f4]))
      all_goals first
        | exact hf
        | (rw [f4]; exact hf)
        | (simp only [takeL, setL]; rw [f4]; exact hf)
        | (clear hf; (try clear hX hcall); (try clear h); (try simp (disch := omega) only [cmpT, cmpF, bI_eq0, bI_ne0, Classical.not_not, nI_toI, nI_cl, nI_inj, nI_add, nI_mul, nI_subI, takeL, setL, Int32.toInt_zero, Nat.add_zero, setN_now, alen20, alen11, alen12, alen13, alen14, alen15, alen16, alen17, alen18, alen19, (id o3)] at *); omega)
  have hf := loop1 0 (by omega) (putV s 8 w 3 (nI (cS F))) (Upd_put rfl) putV_at (fun k hk => absurd hk (by omega))
  rw [e1]
  exact hf
end CLS21
end
section
/-! THE CLASS: its history -/
def rowG (G : Fm) (c : Nat) : Fm := fun k => G (509 * c + k)
/-- what is not of worlds, history or saves stays -/
def Fr (s s' : St) : Prop := ∀ c i k, (c = 0 ∨ c = 19 ∨ c = 10 ∨ 20 ≤ c ∨ c = 18) → s'.1 c i k = s.1 c i k
def savR (s : St) (G : Fm) (B : Nat) : Prop := ∀ j, j < 2 → (s.1 18 0 j = 0 ∨ s.1 18 0 j = 1) ∧ (¬ s.1 18 0 j = 0 → RepW s (8 + j) (rowG G (5 + j)) ∧ WFh (rowG G (5 + j)) B)
def hisR (s : St) (G : Fm) (o n : Nat) (B : Nat) : Prop := o < 6 ∧ n ≤ 5 ∧ s.1 3 0 1 = nI o ∧ s.1 3 0 2 = nI n ∧ ∀ i, i < n → RepW s (2 + (o + i) % 6) (rowG G i) ∧ WFh (rowG G i) B
/-- the class stands for: the present F, the kept rows G, n states -/
def CL (s : St) (F G : Fm) (n B : Nat) : Prop := permOk s ∧ (RepW s 0 F ∧ WFh F B) ∧ (∃ o, hisR s G o n B) ∧ savR s G B
/-- the same, with a draft of F0 -/
def DR (s : St) (F0 F G : Fm) (n B : Nat) : Prop := permOk s ∧ (RepW s 0 F ∧ WFh F B) ∧ (∃ o, hisR s G o n B ∧ RepW s (2 + (o + n) % 6) F0 ∧ WFh F0 B) ∧ savR s G B
section CLS22
variable {L : Nat} {xs : Nat → Int32} {f i i2 k r p q c j n o B B' b w w' w2 m sd : Nat} {x y v z l lo v0 v1 name flow place which : Int32} {s s' s2 s3 t : St} {F F0 F1 G C F' U u : Fm} {Q : Option MV → St → Prop} {P : Nat → Nat}
theorem Fr.refl : Fr s s := fun _ _ _ _ => rfl
theorem Fr.trans (h1 : Fr s s') (h2 : Fr s' t) : Fr s t := fun c i k h => (h2 c i k h).trans (h1 c i k h)
theorem own_99 (h : c = 0 ∨ c = 19 ∨ c = 10 ∨ 20 ≤ c ∨ c = 3 ∨ c = 18) : ownW c i = 99 := by
  unfold ownW
  split <;> first | omega | rfl
theorem Upd.fr (h : Upd s s' w) (h10 : w < 10) : Fr s s' := fun c i k hc => h.1 c i k (by rw [own_99 (by omega)]; omega)
theorem Upd.kk (h : Upd s s' w) (h10 : w < 10) (hc : c = 3 ∨ c = 18) : s'.1 c i k = s.1 c i k := h.1 c i k (by rw [own_99 (by omega)]; omega)
theorem Fr_put (h : c = 3) : Fr s (putV s c i k x) := fun c' i' k' hc => putV_ne (by omega)
theorem fm_ok : ∀ a, a < 12 → 0 ≤ (nI a ^^^ nI 6).toInt ∧ nI a - nI a / nI 6 * nI 6 = nI (a % 6) := by decide +kernel
set_option maxHeartbeats 4000000 in
set_option maxRecDepth 100000 in
theorem c_floorMod {a : Nat} (ha : a < 12) (h : Q (some (.inl (nI (a % 6)))) s) : wpM L xs codT retT (f + 1) m_J9_floorMod_7cf53 [.inl (nI a), .inl (nI 6)] s Q := by
  obtain ⟨h1, h2⟩ := fm_ok a ha
  have h6 : ¬ nI 6 = 0 := by decide
  intro call hcall X hX; refine hX 1000 0 _ _ _ ?_
  repeat' (first | (intro hc) | (refine And.intro ?_ ?_) | (exact absurd nI_0 ‹cmpF 0 (nI 0) 0›) | (exact absurd ‹cmpT 0 (nI 1) 0› nI1_ne) | (exact absurd nI_0 ‹cmpT 1 (nI 0) 0›) | (exact absurd ‹cmpF 1 (nI 1) 0› nI1_ne) | (show wp _ _ _ _ _ _ _ _ _ _ _ _; conv => whnf))
  all_goals first
    | exact h6
    | (rw [h2]; exact h)
    | (exfalso; exact h6 (by assumption))
    | (exfalso; clear h hX hcall h2; simp only [cmpT, cmpF, Int32.toInt_zero] at *; omega)
set_option maxHeartbeats 4000000 in
set_option maxRecDepth 100000 in
theorem c_row (hi : i ≤ 5) (ho : o < 6) (e : s.1 3 0 1 = nI o) (h : Q (some (.inl (nI ((o + i) % 6)))) s) : wpM L xs codT retT (f + 2) m_X3_row [.inr (3, 0), .inl (nI i)] s Q := by
  intro call hcall X hX; refine hX 1000 0 _ _ _ ?_
  repeat' (first | (intro hc) | (refine And.intro ?_ ?_) | (exact absurd nI_0 ‹cmpF 0 (nI 0) 0›) | (exact absurd ‹cmpT 0 (nI 1) 0› nI1_ne) | (exact absurd nI_0 ‹cmpT 1 (nI 0) 0›) | (exact absurd ‹cmpF 1 (nI 1) 0› nI1_ne) | (show wp _ _ _ _ _ _ _ _ _ _ _ _; conv => whnf) | (rw [e]) | (simp (disch := omega) only [nI_add, nI_mul, setN_now, setN_put, nI_cl, Nat.add_zero]) | (refine hcall _ _ _ _ ?_; first | (refine c_floorMod (a := o + i) (by omega) ?_) | fail))
  all_goals exact h
set_option maxHeartbeats 4000000 in
set_option maxRecDepth 100000 in
theorem c_draft (hC : CL s F G n B) (h : ∀ s', Fr s s' → DR s' F F G n B → Q none s') : wpM L xs codT retT (f + 5) m_X3_draft [.inr (3, 0), .inr (8, 0)] s Q := by
  obtain ⟨hp, ⟨hR, hW⟩, ⟨o, ho6, hn, ho, hct, hh⟩, hs⟩ := hC
  have hm : (o + n) % 6 < 6 := Nat.mod_lt _ (by omega)
  have h : ∀ s', Upd s s' (2 + (o + n) % 6) → RepW s' (2 + (o + n) % 6) F → Q none s' := fun s' u R => h s' (u.fr (by omega)) ⟨u.2.2 hp, ⟨u.rep (by omega) hW.1 hp (by omega) hR, hW⟩, ⟨o, ⟨ho6, hn, (u.kk (by omega) (by omega)).trans ho, (u.kk (by omega) (by omega)).trans hct, fun i hi => by
    obtain ⟨g1, g2⟩ := hh i hi
    refine ⟨u.rep ?_ g2.1 hp (by omega) g1, g2⟩
    omega⟩, R, hW⟩, fun j hj => by
    obtain ⟨g1, g2⟩ := hs j hj
    rw [u.kk (by omega) (by omega)]
    exact ⟨g1, fun q => ⟨u.rep (by omega) (g2 q).2.1 hp (by omega) (g2 q).1, (g2 q).2⟩⟩⟩
  have ef : fv s 3 0 2 = .inl (nI n) := by
    show (Sum.inl (s.1 3 0 2) : MV) = _
    rw [hct]
  intro call hcall X hX; refine hX 1000 0 _ _ _ ?_
  repeat' (first | (intro hc) | (refine And.intro ?_ ?_) | (exact absurd nI_0 ‹cmpF 0 (nI 0) 0›) | (exact absurd ‹cmpT 0 (nI 1) 0› nI1_ne) | (exact absurd nI_0 ‹cmpT 1 (nI 0) 0›) | (exact absurd ‹cmpF 1 (nI 1) 0› nI1_ne) | (show wp _ _ _ _ _ _ _ _ _ _ _ _; conv => whnf) | (rw [ef]) | (simp (disch := omega) only [nI_cl]) | (simp (disch := omega) only [nI_add, nI_mul, setN_now, setN_put, nI_cl, Nat.add_zero]) | (refine hcall _ _ _ _ ?_; first | (refine c_row hn ho6 ho ?_) | (refine c_worldCopy hW.1 hp (w := 2 + (o + n) % 6) (w2 := 0) (by omega) (by omega) (by omega) hR (fun s' u R => ?_)) | fail))
  all_goals first
    | exact h _ u R
    | (simp (disch := omega) only [nI_toI, nI_cl, nI_add, nI_mul, alen11, alen12, alen13, alen14, alen15, alen16, alen17, alen18, alen19]; omega)
theorem WFh_F (h : ∀ i, i < 509 → F' i = F i) (hw : WFh F B) : WFh F' B := ⟨WF_cgr hw.1 (fun i _ hi => h i hi) (by rw [h 0 (by omega)]; exact hw.1.h), by rw [h 0 (by omega)]; exact hw.2⟩
theorem rec_row (hn : n ≤ 5) (h : i < recN n) (hk : k < 509) : rowG (recG G F0 n) i k = if i + 1 = recN n then F0 k else if n = 5 then rowG G (i + 1) k else rowG G i k := by
  unfold recN at h ⊢
  unfold rowG recG
  by_cases h5 : n = 5
  · rw [if_pos h5, if_pos h5] at *
    rw [if_pos h5]
    show keepG (shK G 2036) F0 4 (509 * i + k) = _
    unfold keepG shK
    by_cases h4 : i = 4
    · rw [if_pos (by omega), if_pos (by omega)]
      rw [show 509 * i + k - 509 * 4 = k by omega]
    · rw [if_neg (by omega), if_pos (by omega), if_neg (by omega)]
      rw [show 509 * i + k + 509 = 509 * (i + 1) + k by omega]
  · rw [if_neg h5, if_neg h5] at *
    rw [if_neg h5]
    show keepG G F0 n (509 * i + k) = _
    unfold keepG
    by_cases h4 : i = n
    · rw [if_pos (by omega), if_pos (by omega)]
      rw [show 509 * i + k - 509 * n = k by omega]
    · rw [if_neg (by omega), if_neg (by omega)]
theorem rec_sav (hn : n ≤ 5) (hj : j < 2) : rowG (recG G F0 n) (5 + j) k = rowG G (5 + j) k := by
  unfold rowG recG
  by_cases h5 : n = 5
  · rw [if_pos h5]
    unfold keepG shK
    rw [if_neg (by omega), if_neg (by omega)]
  · rw [if_neg h5]
    unfold keepG
    rw [if_neg (by omega)]
theorem RepW_put (h : c = 3 ∨ c = 18) (hw : WF F B) (hp : permOk s) (h10 : w < 10) (hR : RepW s w F) : RepW (putV s c i k x) w F := RepW_cg hw hp h10 ⟨fun c' i' k' e => putV_ne (by
  by_cases e1 : c' = c
  · exfalso
    rw [e1, own_99 (by omega)] at e
    omega
  · exact Or.inl e1), fun _ _ _ => rfl⟩ hR
set_option maxHeartbeats 4000000 in
set_option maxRecDepth 100000 in
theorem c_keepDraft (hD : DR s F0 F G n B) (h : ∀ s', Fr s s' → CL s' F (recG G F0 n) (recN n) B → Q none s') : wpM L xs codT retT (f + 3) m_X3_keepDraft [.inr (3, 0)] s Q := by
  obtain ⟨hp, ⟨hR, hW⟩, ⟨o, ⟨ho6, hn, ho, hct, hh⟩, hdR, hdW⟩, hs⟩ := hD
  have sv : ∀ s1, (∀ w F, w < 10 → WF F B → RepW s w F → RepW s1 w F) → (∀ j, s1.1 18 0 j = s.1 18 0 j) → savR s1 (recG G F0 n) B := fun s1 k1 k2 j hj => by
    obtain ⟨g1, g2⟩ := hs j hj
    rw [k2]
    exact ⟨g1, fun q => ⟨RepW_F (g2 q).2.1 (fun i hi => rec_sav hn hj) (k1 _ _ (by omega) (g2 q).2.1 (g2 q).1), WFh_F (fun i hi => rec_sav hn hj) (g2 q).2⟩⟩
  by_cases h5 : n = 5
  · subst h5
    have eN : recN 5 = 5 := rfl
    have k1 : ∀ w F, w < 10 → WF F B → RepW s w F → RepW (putV s 3 0 1 (nI ((o + 1) % 6))) w F := fun w F h10 w1 q => RepW_put (Or.inl rfl) w1 hp h10 q
    have h := h (putV s 3 0 1 (nI ((o + 1) % 6))) (Fr_put rfl) ⟨permOk_put hp, ⟨k1 _ _ (by omega) hW.1 hR, hW⟩, ⟨(o + 1) % 6, Nat.mod_lt _ (by omega), by rw [eN]; omega, putV_at, by rw [putV_ne (by omega), eN]; exact hct, fun i hi => by
      rw [eN] at hi
      by_cases h4 : i = 4
      · have e1 : 2 + ((o + 1) % 6 + i) % 6 = 2 + (o + 5) % 6 := by omega
        have er : ∀ k, k < 509 → rowG (recG G F0 5) i k = F0 k := fun k hk => by rw [rec_row (by omega) (by rw [eN]; omega) hk, if_pos (by rw [eN]; omega)]
        rw [e1]
        exact ⟨RepW_F hdW.1 er (k1 _ _ (by omega) hdW.1 hdR), WFh_F er hdW⟩
      · have e1 : 2 + ((o + 1) % 6 + i) % 6 = 2 + (o + (i + 1)) % 6 := by omega
        have er : ∀ k, k < 509 → rowG (recG G F0 5) i k = rowG G (i + 1) k := fun k hk => by rw [rec_row (by omega) (by rw [eN]; omega) hk, if_neg (by rw [eN]; omega), if_pos rfl]
        obtain ⟨g1, g2⟩ := hh (i + 1) (by omega)
        rw [e1]
        exact ⟨RepW_F g2.1 er (k1 _ _ (by omega) g2.1 g1), WFh_F er g2⟩⟩, sv _ k1 (fun j => putV_ne (by omega))⟩
    intro call hcall X hX; refine hX 1000 0 _ _ _ ?_
    repeat' (first | (intro hc) | (refine And.intro ?_ ?_) | (exact absurd nI_0 ‹cmpF 0 (nI 0) 0›) | (exact absurd ‹cmpT 0 (nI 1) 0› nI1_ne) | (exact absurd nI_0 ‹cmpT 1 (nI 0) 0›) | (exact absurd ‹cmpF 1 (nI 1) 0› nI1_ne) | (show wp _ _ _ _ _ _ _ _ _ _ _ _; conv => whnf) | (simp (disch := omega) only [nI_add, nI_mul, setN_now, setN_put, nI_cl, Nat.add_zero]) | (refine hcall _ _ _ _ ?_; first | (refine c_row (i := 1) (by omega) ho6 ho ?_) | fail))
    all_goals first
      | exact h
      | (clear h sv k1; (try clear hX hcall); (try clear h); (try simp (disch := omega) only [cmpT, cmpF, bI_eq0, bI_ne0, Classical.not_not, nI_toI, nI_cl, nI_inj, nI_add, nI_mul, nI_subI, takeL, setL, Int32.toInt_zero, Nat.add_zero, setN_now, alen20, alen11, alen12, alen13, alen14, alen15, alen16, alen17, alen18, alen19, (id hct)] at *); omega)
  · have eN : recN n = n + 1 := if_neg h5
    have k1 : ∀ w F, w < 10 → WF F B → RepW s w F → RepW (putV s 3 0 2 (nI (n + 1))) w F := fun w F h10 w1 q => RepW_put (Or.inl rfl) w1 hp h10 q
    have h := h (putV s 3 0 2 (nI (n + 1))) (Fr_put rfl) ⟨permOk_put hp, ⟨k1 _ _ (by omega) hW.1 hR, hW⟩, ⟨o, ho6, by omega, by rw [putV_ne (by omega)]; exact ho, by rw [putV_at, eN], fun i hi => by
      rw [eN] at hi
      by_cases h4 : i = n
      · have er : ∀ k, k < 509 → rowG (recG G F0 n) i k = F0 k := fun k hk => by rw [rec_row hn (by rw [eN]; omega) hk, if_pos (by rw [eN]; omega)]
        rw [h4] at er ⊢
        exact ⟨RepW_F hdW.1 er (k1 _ _ (by omega) hdW.1 hdR), WFh_F er hdW⟩
      · have er : ∀ k, k < 509 → rowG (recG G F0 n) i k = rowG G i k := fun k hk => by rw [rec_row hn (by rw [eN]; omega) hk, if_neg (by rw [eN]; omega), if_neg h5]
        obtain ⟨g1, g2⟩ := hh i (by omega)
        exact ⟨RepW_F g2.1 er (k1 _ _ (by omega) g2.1 g1), WFh_F er g2⟩⟩, sv _ k1 (fun j => putV_ne (by omega))⟩
    intro call hcall X hX; refine hX 1000 0 _ _ _ ?_
    repeat' (first | (intro hc) | (refine And.intro ?_ ?_) | (exact absurd nI_0 ‹cmpF 0 (nI 0) 0›) | (exact absurd ‹cmpT 0 (nI 1) 0› nI1_ne) | (exact absurd nI_0 ‹cmpT 1 (nI 0) 0›) | (exact absurd ‹cmpF 1 (nI 1) 0› nI1_ne) | (show wp _ _ _ _ _ _ _ _ _ _ _ _; conv => whnf) | (rw [hct]) | (simp (disch := omega) only [nI_add, nI_mul, setN_now, setN_put, nI_cl, Nat.add_zero]) | (refine hcall _ _ _ _ ?_; first | (refine c_row (i := 1) (by omega) ho6 ho ?_) | fail))
    all_goals first
      | exact h
      | (clear h sv k1; (try clear hX hcall); (try clear h); (try simp (disch := omega) only [cmpT, cmpF, bI_eq0, bI_ne0, Classical.not_not, nI_toI, nI_cl, nI_inj, nI_add, nI_mul, nI_subI, takeL, setL, Int32.toInt_zero, Nat.add_zero, setN_now, alen20, alen11, alen12, alen13, alen14, alen15, alen16, alen17, alen18, alen19, (id hct)] at *); omega)
set_option maxHeartbeats 4000000 in
set_option maxRecDepth 100000 in
theorem c_recorded (hD : DR s F0 F G n B) (h0 : v.toInt < 0 → Q (some (.inl v)) s) (h1 : 0 ≤ v.toInt → ∀ s', Fr s s' → CL s' F (recG G F0 n) (recN n) B → Q (some (.inl v)) s') : wpM L xs codT retT (f + 4) m_X9_recorded [.inr (9, 0), .inl v] s Q := by
  by_cases hv : v.toInt < 0
  · have h := h0 hv
    clear h0 h1
    intro call hcall X hX; refine hX 1000 0 _ _ _ ?_
    repeat' (first | (intro hc) | (refine And.intro ?_ ?_) | (exact absurd nI_0 ‹cmpF 0 (nI 0) 0›) | (exact absurd ‹cmpT 0 (nI 1) 0› nI1_ne) | (exact absurd nI_0 ‹cmpT 1 (nI 0) 0›) | (exact absurd ‹cmpF 1 (nI 1) 0› nI1_ne) | (show wp _ _ _ _ _ _ _ _ _ _ _ _; conv => whnf))
    all_goals first
      | exact h
      | (clear h; (try clear hX hcall); (try clear h); (try simp (disch := omega) only [cmpT, cmpF, bI_eq0, bI_ne0, Classical.not_not, nI_toI, nI_cl, nI_inj, nI_add, nI_mul, nI_subI, takeL, setL, Int32.toInt_zero, Nat.add_zero, Nat.zero_mul, Nat.zero_add, alen11, alen12, alen13, alen14, alen15, alen16, alen17, alen18, alen19] at *); omega)
  · have h := h1 (by omega)
    clear h0 h1
    intro call hcall X hX; refine hX 1000 0 _ _ _ ?_
    repeat' (first | (intro hc) | (refine And.intro ?_ ?_) | (exact absurd nI_0 ‹cmpF 0 (nI 0) 0›) | (exact absurd ‹cmpT 0 (nI 1) 0› nI1_ne) | (exact absurd nI_0 ‹cmpT 1 (nI 0) 0›) | (exact absurd ‹cmpF 1 (nI 1) 0› nI1_ne) | (show wp _ _ _ _ _ _ _ _ _ _ _ _; conv => whnf) | (simp (disch := omega) only [nI_add, nI_mul, setN_now, setN_put, nI_cl, Nat.add_zero]) | (refine hcall _ _ _ _ ?_; first | (refine c_keepDraft hD (fun s' fr cl => ?_)) | fail))
    all_goals first
      | exact h _ fr cl
      | (clear h; (try clear hX hcall); (try clear h); (try simp (disch := omega) only [cmpT, cmpF, bI_eq0, bI_ne0, Classical.not_not, nI_toI, nI_cl, nI_inj, nI_add, nI_mul, nI_subI, takeL, setL, Int32.toInt_zero, Nat.add_zero, Nat.zero_mul, Nat.zero_add, alen11, alen12, alen13, alen14, alen15, alen16, alen17, alen18, alen19] at *); omega)
theorem DR.cl (h : DR s F0 F G n B) : CL s F G n B := ⟨h.1, h.2.1, h.2.2.1.imp (fun o q => q.1), h.2.2.2⟩
/-- a call on the present, behind a draft -/
theorem DR.upd (hD : DR s F0 F G n B) (u : Upd s s' 0) (R : RepW s' 0 F') (hW : WFh F' B') (hB : B ≤ B') : DR s' F0 F' G n B' := by
  obtain ⟨hp, ⟨hR, -⟩, ⟨o, ⟨ho6, hn, ho, hct, hh⟩, hdR, hdW⟩, hs⟩ := hD
  refine ⟨u.2.2 hp, ⟨R, hW⟩, ⟨o, ⟨ho6, hn, (u.kk (by omega) (by omega)).trans ho, (u.kk (by omega) (by omega)).trans hct, fun i hi => ?_⟩, u.rep (by omega) hdW.1 hp (by omega) hdR, WFh_mono hB hdW⟩, fun j hj => ?_⟩
  · obtain ⟨g1, g2⟩ := hh i hi
    exact ⟨u.rep (by omega) g2.1 hp (by omega) g1, WFh_mono hB g2⟩
  · obtain ⟨g1, g2⟩ := hs j hj
    rw [u.kk (by omega) (by omega)]
    exact ⟨g1, fun q => ⟨u.rep (by omega) (g2 q).2.1 hp (by omega) (g2 q).1, WFh_mono hB (g2 q).2⟩⟩
end CLS22
end
section
/-! WHAT NEW SERVERS, SITES, ROUTERS, SLOTS LEAVE WELL; answers below 0 change nothing -/
section CLS23
variable {i k r p q c j n B B' b w m : Nat} {x y v a z l lo left name flow place : Int32} {F G : Fm}
theorem pow_n (h : powB z) : ∃ d : Nat, z = nI d ∧ 1 ≤ d ∧ d ≤ 256 := by
  rcases h with h | h | h | h | h | h | h | h | h
  · exact ⟨1, h, by omega, by omega⟩
  · exact ⟨2, h, by omega, by omega⟩
  · exact ⟨4, h, by omega, by omega⟩
  · exact ⟨8, h, by omega, by omega⟩
  · exact ⟨16, h, by omega, by omega⟩
  · exact ⟨32, h, by omega, by omega⟩
  · exact ⟨64, h, by omega, by omega⟩
  · exact ⟨128, h, by omega, by omega⟩
  · exact ⟨256, h, by omega, by omega⟩
set_option maxHeartbeats 4000000 in
set_option maxRecDepth 100000 in
theorem blk_n (h : blkB a z) : ∃ e d : Nat, a = nI e ∧ z = nI d ∧ 1 ≤ d ∧ e + d ≤ 256 := by
  obtain ⟨h1, h2, h3⟩ := h
  obtain ⟨e, ha, ha2, ha3⟩ := nI_ex h2.1
  have zz : (0 : Int32).toInt = 0 := rfl
  have key : ∀ d : Nat, z = nI d → 1 ≤ d → d ≤ 256 → (e : Int) % (d : Int) = 0 := fun d hd h1 h2' => by
    have hr := rem_ok (a := a) (z := z) h2.1 (by rw [hd, nI_toI (by omega)]; omega)
    rw [h3, zz, hd, nI_toI (by omega), ← ha2] at hr
    exact hr.symm
  rcases h1 with h | h | h | h | h | h | h | h | h
  · exact ⟨e, 1, ha, h, by omega, by omega⟩
  · exact ⟨e, 2, ha, h, by omega, by have := key 2 h (by omega) (by omega); omega⟩
  · exact ⟨e, 4, ha, h, by omega, by have := key 4 h (by omega) (by omega); omega⟩
  · exact ⟨e, 8, ha, h, by omega, by have := key 8 h (by omega) (by omega); omega⟩
  · exact ⟨e, 16, ha, h, by omega, by have := key 16 h (by omega) (by omega); omega⟩
  · exact ⟨e, 32, ha, h, by omega, by have := key 32 h (by omega) (by omega); omega⟩
  · exact ⟨e, 64, ha, h, by omega, by have := key 64 h (by omega) (by omega); omega⟩
  · exact ⟨e, 128, ha, h, by omega, by have := key 128 h (by omega) (by omega); omega⟩
  · exact ⟨e, 256, ha, h, by omega, by have := key 256 h (by omega) (by omega); omega⟩
set_option maxHeartbeats 4000000 in
set_option maxRecDepth 100000 in
theorem server_ok (hw : WFh F B) : WFh (serverF F v a z).2 B := by
  obtain ⟨hw, h9⟩ := hw
  have s2 := hw.s2
  have t2 := hw.t2
  have r2 := hw.r2
  unfold serverF
  by_cases hv : iN v (cS F)
  · rw [if_neg (fun q => q hv)]
    obtain ⟨p, rfl, hp⟩ := iN_nn hv (by omega)
    rw [show nn (nI p) = p from nI_cl (by omega)]
    split
    · exact ⟨hw, h9⟩
    · rename_i hb
      have hb := Classical.not_not.mp hb
      split
      · exact ⟨hw, h9⟩
      · split
        · exact ⟨hw, h9⟩
        · rename_i h8
          obtain ⟨e, d, ha, hz, hd1, hed⟩ := blk_n hb.1
          have lo : ∀ i, i ≠ 1 → (i < 5 + 3 * cS F ∨ 5 + 3 * cS F + 3 ≤ i) → (fun i => if i = 5 + 3 * cS F then nI p else if i = 5 + 3 * cS F + 1 then a else if i = 5 + 3 * cS F + 2 then z else if i = 1 then F 1 + nI 1 else F i) i = F i := fun i h1 h2 => by
            dsimp only
            rw [if_neg (by omega), if_neg (by omega), if_neg (by omega), if_neg h1]
          have f1 : (fun i => if i = 5 + 3 * cS F then nI p else if i = 5 + 3 * cS F + 1 then a else if i = 5 + 3 * cS F + 2 then z else if i = 1 then F 1 + nI 1 else F i) 1 = nI (cS F + 1) := by
            dsimp only
            rw [if_neg (by omega), if_neg (by omega), if_neg (by omega), if_pos rfl, hw.s1, nI_add]
          have g0 : (fun i => if i = 5 + 3 * cS F then nI p else if i = 5 + 3 * cS F + 1 then a else if i = 5 + 3 * cS F + 2 then z else if i = 1 then F 1 + nI 1 else F i) (5 + 3 * cS F) = nI p := if_pos rfl
          have g1 : (fun i => if i = 5 + 3 * cS F then nI p else if i = 5 + 3 * cS F + 1 then a else if i = 5 + 3 * cS F + 2 then z else if i = 1 then F 1 + nI 1 else F i) (5 + 3 * cS F + 1) = a := by
            dsimp only
            rw [if_neg (by omega), if_pos rfl]
          have g2 : (fun i => if i = 5 + 3 * cS F then nI p else if i = 5 + 3 * cS F + 1 then a else if i = 5 + 3 * cS F + 2 then z else if i = 1 then F 1 + nI 1 else F i) (5 + 3 * cS F + 2) = z := by
            dsimp only
            rw [if_neg (by omega), if_neg (by omega), if_pos rfl]
          show WFh (fun i => if i = 5 + 3 * cS F then nI p else if i = 5 + 3 * cS F + 1 then a else if i = 5 + 3 * cS F + 2 then z else if i = 1 then F 1 + nI 1 else F i) B
          generalize hG : (fun i => if i = 5 + 3 * cS F then nI p else if i = 5 + 3 * cS F + 1 then a else if i = 5 + 3 * cS F + 2 then z else if i = 1 then F 1 + nI 1 else F i) = G at *
          have eT : cT G = cT F := by unfold cT; rw [lo 2 (by omega) (by omega)]
          have eR : cR G = cR F := by unfold cR; rw [lo 3 (by omega) (by omega)]
          have eS : cS G = cS F + 1 := by
            show nn (G 1) = _
            rw [f1]; exact nI_cl (by omega)
          refine ⟨⟨⟨by rw [f1, eS], by omega, by omega⟩, ⟨by rw [lo 2 (by omega) (by omega), eT]; exact hw.t1, by omega⟩, ⟨by rw [lo 3 (by omega) (by omega), eR]; exact hw.r1, by omega⟩, by rw [lo 0 (by omega) (by omega)]; exact hw.h, by rw [lo 4 (by omega) (by omega)]; exact hw.l, fun k hk => ?_, fun k hk => ?_, fun r hr => ?_⟩, by rw [lo 0 (by omega) (by omega)]; exact h9⟩
          · by_cases ek : k = cS F
            · subst ek
              exact ⟨⟨e, d, by rw [g1, ha], by rw [g2, hz], hd1, hed⟩, fun q => by omega, fun _ => ⟨p, hp, g0⟩⟩
            · exact WFserver_cg (fun i a b => lo i (by omega) (by omega)) (hw.server (by omega))
          · exact WFsite_cg (fun i a b => lo i (by omega) (by omega)) (hw.site (by omega))
          · have m0 := mA_eq r 0
            exact WFr_cg2 (by omega) (lo _ (by omega) (by omega)) (fun i a b => lo i (by omega) (by omega)) (hw.router (by omega))
  · rw [if_pos hv]; exact ⟨hw, h9⟩
set_option maxHeartbeats 4000000 in
set_option maxRecDepth 100000 in
theorem site_ok (hw : WFh F B) (hB : 1 ≤ B) : WFh (siteF F a z l).2 B := by
  obtain ⟨hw, h9⟩ := hw
  have s2 := hw.s2
  have t2 := hw.t2
  have r2 := hw.r2
  unfold siteF
  split
  · exact ⟨hw, h9⟩
  · rename_i hb
    have hb := Classical.not_not.mp hb
    split
    · exact ⟨hw, h9⟩
    · split
      · exact ⟨hw, h9⟩
      · rename_i h8
        obtain ⟨e, d, ha, hz, hd1, hed⟩ := blk_n hb.1
        have lo : ∀ i, i ≠ 2 → (i < 29 + 17 * cT F ∨ 29 + 17 * cT F + 17 ≤ i) → (fun i => if i = 29 + 17 * cT F then a else if i = 29 + 17 * cT F + 1 then z else if i = 29 + 17 * cT F + 2 then l else if i = 29 + 17 * cT F + 3 then nI 1 else if 29 + 17 * cT F + 4 ≤ i ∧ i < 29 + 17 * cT F + 17 then nI 0 else if i = 2 then F 2 + nI 1 else F i) i = F i := fun i h1 h2 => by
          dsimp only
          rw [if_neg (by omega), if_neg (by omega), if_neg (by omega), if_neg (by omega), if_neg (by omega), if_neg h1]
        have f2 : (fun i => if i = 29 + 17 * cT F then a else if i = 29 + 17 * cT F + 1 then z else if i = 29 + 17 * cT F + 2 then l else if i = 29 + 17 * cT F + 3 then nI 1 else if 29 + 17 * cT F + 4 ≤ i ∧ i < 29 + 17 * cT F + 17 then nI 0 else if i = 2 then F 2 + nI 1 else F i) 2 = nI (cT F + 1) := by
          dsimp only
          rw [if_neg (by omega), if_neg (by omega), if_neg (by omega), if_neg (by omega), if_neg (by omega), if_pos rfl, hw.t1, nI_add]
        have g0 : (fun i => if i = 29 + 17 * cT F then a else if i = 29 + 17 * cT F + 1 then z else if i = 29 + 17 * cT F + 2 then l else if i = 29 + 17 * cT F + 3 then nI 1 else if 29 + 17 * cT F + 4 ≤ i ∧ i < 29 + 17 * cT F + 17 then nI 0 else if i = 2 then F 2 + nI 1 else F i) (29 + 17 * cT F) = a := if_pos rfl
        have g1 : (fun i => if i = 29 + 17 * cT F then a else if i = 29 + 17 * cT F + 1 then z else if i = 29 + 17 * cT F + 2 then l else if i = 29 + 17 * cT F + 3 then nI 1 else if 29 + 17 * cT F + 4 ≤ i ∧ i < 29 + 17 * cT F + 17 then nI 0 else if i = 2 then F 2 + nI 1 else F i) (29 + 17 * cT F + 1) = z := by
          dsimp only
          rw [if_neg (by omega), if_pos rfl]
        have g2 : (fun i => if i = 29 + 17 * cT F then a else if i = 29 + 17 * cT F + 1 then z else if i = 29 + 17 * cT F + 2 then l else if i = 29 + 17 * cT F + 3 then nI 1 else if 29 + 17 * cT F + 4 ≤ i ∧ i < 29 + 17 * cT F + 17 then nI 0 else if i = 2 then F 2 + nI 1 else F i) (29 + 17 * cT F + 2) = l := by
          dsimp only
          rw [if_neg (by omega), if_neg (by omega), if_pos rfl]
        have g3 : (fun i => if i = 29 + 17 * cT F then a else if i = 29 + 17 * cT F + 1 then z else if i = 29 + 17 * cT F + 2 then l else if i = 29 + 17 * cT F + 3 then nI 1 else if 29 + 17 * cT F + 4 ≤ i ∧ i < 29 + 17 * cT F + 17 then nI 0 else if i = 2 then F 2 + nI 1 else F i) (29 + 17 * cT F + 3) = nI 1 := by
          dsimp only
          rw [if_neg (by omega), if_neg (by omega), if_neg (by omega), if_pos rfl]
        have g4 : ∀ i, 29 + 17 * cT F + 4 ≤ i → i < 29 + 17 * cT F + 17 → (fun i => if i = 29 + 17 * cT F then a else if i = 29 + 17 * cT F + 1 then z else if i = 29 + 17 * cT F + 2 then l else if i = 29 + 17 * cT F + 3 then nI 1 else if 29 + 17 * cT F + 4 ≤ i ∧ i < 29 + 17 * cT F + 17 then nI 0 else if i = 2 then F 2 + nI 1 else F i) i = nI 0 := fun i h1 h2 => by
          dsimp only
          rw [if_neg (by omega), if_neg (by omega), if_neg (by omega), if_neg (by omega), if_pos ⟨h1, h2⟩]
        show WFh (fun i => if i = 29 + 17 * cT F then a else if i = 29 + 17 * cT F + 1 then z else if i = 29 + 17 * cT F + 2 then l else if i = 29 + 17 * cT F + 3 then nI 1 else if 29 + 17 * cT F + 4 ≤ i ∧ i < 29 + 17 * cT F + 17 then nI 0 else if i = 2 then F 2 + nI 1 else F i) B
        generalize hG : (fun i => if i = 29 + 17 * cT F then a else if i = 29 + 17 * cT F + 1 then z else if i = 29 + 17 * cT F + 2 then l else if i = 29 + 17 * cT F + 3 then nI 1 else if 29 + 17 * cT F + 4 ≤ i ∧ i < 29 + 17 * cT F + 17 then nI 0 else if i = 2 then F 2 + nI 1 else F i) = G at *
        have eS : cS G = cS F := by unfold cS; rw [lo 1 (by omega) (by omega)]
        have eR : cR G = cR F := by unfold cR; rw [lo 3 (by omega) (by omega)]
        have eT : cT G = cT F + 1 := by
          show nn (G 2) = _
          rw [f2]; exact nI_cl (by omega)
        refine ⟨⟨⟨by rw [lo 1 (by omega) (by omega), eS]; exact hw.s1, by omega, by omega⟩, ⟨by rw [f2, eT], by omega⟩, ⟨by rw [lo 3 (by omega) (by omega), eR]; exact hw.r1, by omega⟩, by rw [lo 0 (by omega) (by omega)]; exact hw.h, by rw [lo 4 (by omega) (by omega)]; exact hw.l, fun k hk => ?_, fun k hk => ?_, fun r hr => ?_⟩, by rw [lo 0 (by omega) (by omega)]; exact h9⟩
        · exact WFserver_cg (fun i a b => lo i (by omega) (by omega)) (hw.server (by omega))
        · by_cases ek : k = cT F
          · subst ek
            have e0 : (nI 0).toInt = 0 := by decide
            have e1 : (nI 1).toInt = 1 := by decide
            refine ⟨⟨e, d, by rw [g0, ha], by rw [g1, hz], hd1, hed⟩, by rw [g2]; exact hb.2, by rw [g3, e1]; omega, by rw [g4 _ (by omega) (by omega), e0]; omega, fun j hj => ⟨Or.inl (g4 _ (by omega) (by omega)), fun q => absurd ((g4 _ (by omega) (by omega)).symm.trans q) nI01⟩⟩
          · exact WFsite_cg (fun i a b => lo i (by omega) (by omega)) (hw.site (by omega))
        · have m0 := mA_eq r 0
          exact WFr_cg2 (by omega) (lo _ (by omega) (by omega)) (fun i a b => lo i (by omega) (by omega)) (hw.router (by omega))
set_option maxHeartbeats 4000000 in
set_option maxRecDepth 100000 in
theorem router_ok (hw : WFh F B) : WFh (routerF F).2 B := by
  obtain ⟨hw, h9⟩ := hw
  have s2 := hw.s2
  have t2 := hw.t2
  have r2 := hw.r2
  unfold routerF
  split
  · exact ⟨hw, h9⟩
  · rename_i h4
    have lo : ∀ i, i ≠ 3 → (i < 165 + 6 * cR F ∨ 165 + 6 * cR F + 6 ≤ i) → (fun i => if 165 + 6 * cR F ≤ i ∧ i < 165 + 6 * cR F + 6 then nI 0 else if i = 3 then F 3 + nI 1 else F i) i = F i := fun i h1 h2 => by
      dsimp only
      rw [if_neg (by omega), if_neg h1]
    have f3 : (fun i => if 165 + 6 * cR F ≤ i ∧ i < 165 + 6 * cR F + 6 then nI 0 else if i = 3 then F 3 + nI 1 else F i) 3 = nI (cR F + 1) := by
      dsimp only
      rw [if_neg (by omega), if_pos rfl, hw.r1, nI_add]
    have g0 : (fun i => if 165 + 6 * cR F ≤ i ∧ i < 165 + 6 * cR F + 6 then nI 0 else if i = 3 then F 3 + nI 1 else F i) (165 + 6 * cR F) = nI 0 := if_pos (by omega)
    show WFh (fun i => if 165 + 6 * cR F ≤ i ∧ i < 165 + 6 * cR F + 6 then nI 0 else if i = 3 then F 3 + nI 1 else F i) B
    generalize hG : (fun i => if 165 + 6 * cR F ≤ i ∧ i < 165 + 6 * cR F + 6 then nI 0 else if i = 3 then F 3 + nI 1 else F i) = G at *
    have eS : cS G = cS F := by unfold cS; rw [lo 1 (by omega) (by omega)]
    have eT : cT G = cT F := by unfold cT; rw [lo 2 (by omega) (by omega)]
    have eR : cR G = cR F + 1 := by
      show nn (G 3) = _
      rw [f3]; exact nI_cl (by omega)
    refine ⟨⟨⟨by rw [lo 1 (by omega) (by omega), eS]; exact hw.s1, by omega, by omega⟩, ⟨by rw [lo 2 (by omega) (by omega), eT]; exact hw.t1, by omega⟩, ⟨by rw [f3, eR], by omega⟩, by rw [lo 0 (by omega) (by omega)]; exact hw.h, by rw [lo 4 (by omega) (by omega)]; exact hw.l, fun k hk => ?_, fun k hk => ?_, fun r hr => ?_⟩, by rw [lo 0 (by omega) (by omega)]; exact h9⟩
    · exact WFserver_cg (fun i a b => lo i (by omega) (by omega)) (hw.server (by omega))
    · exact WFsite_cg (fun i a b => lo i (by omega) (by omega)) (hw.site (by omega))
    · by_cases er : r = cR F
      · subst er
        have e0 : cM G (cR F) = 0 := by
          show nn (G (165 + 6 * cR F)) = 0
          rw [g0]; exact nI_cl (by omega)
        exact ⟨by rw [e0, g0], by omega, fun p hp => absurd hp (by omega), fun p1 p2 h1 => absurd h1 (by omega)⟩
      · have m0 := mA_eq r 0
        exact WFr_cg2 (by omega) (lo _ (by omega) (by omega)) (fun i a b => lo i (by omega) (by omega)) (hw.router (by omega))
set_option maxHeartbeats 4000000 in
set_option maxRecDepth 100000 in
theorem fill_ok (hw : WFh F B) (hB : B < 1000000) : WFh (fillSF F v a z x y).2 (B + 1) := by
  obtain ⟨hw, h9⟩ := hw
  have t2 := hw.t2
  unfold fillSF
  split
  · exact ⟨WF_mono (by omega) hw, h9⟩
  · rename_i hv
    have hv := Classical.not_not.mp hv
    obtain ⟨k, rfl, hk⟩ := iN_nn hv.1 (by omega)
    obtain ⟨j, rfl, hj⟩ := iN_nn hv.2 (by omega)
    rw [show nn (nI k) = k from nI_cl (by omega), show nn (nI j) = j from nI_cl (by omega)]
    split
    · exact ⟨WF_mono (by omega) hw, h9⟩
    · rename_i hb
      have hb := Classical.not_not.mp hb
      have ws := hw.site hk
      have wv := ws.2.2.1
      have hs1 : (F (29 + 17 * k + 3) + nI 1).toInt = (F (29 + 17 * k + 3)).toInt + 1 := by
        rw [Int32.toInt_add, nI_toI (by omega)]
        apply Int.bmod_eq_of_le <;> omega
      refine ⟨WF_site1 hw hk (by omega) (fun i hi => ?_) ⟨?_, ?_, ?_, ?_, fun j' hj' => ?_⟩, ?_⟩
      · dsimp only
        rw [if_neg (by omega), if_neg (by omega), if_neg (by omega), if_neg (by omega), if_neg (by omega)]
      · dsimp only
        simp (disch := omega) only [if_neg]
        exact ws.1
      · dsimp only
        simp (disch := omega) only [if_neg]
        exact ws.2.1
      · dsimp only
        simp (disch := omega) only [if_neg, if_true]
        rw [hs1]
        omega
      · dsimp only
        simp (disch := omega) only [if_neg]
        exact ws.2.2.2.1
      · by_cases ej : j' = j
        · subst ej
          unfold slotOk
          dsimp only
          simp (disch := omega) only [if_neg, if_true]
          exact ⟨Or.inr trivial, fun _ => ⟨⟨hb.1.1, by have := hb.1.2; omega⟩, ⟨hb.2.1.1, by have := hb.2.1.2; omega⟩, hb.2.2⟩⟩
        · exact slotOk_cg (fun i h1 h2 => by
            dsimp only
            rw [if_neg (by omega), if_neg (by omega), if_neg (by omega), if_neg (by omega), if_neg (by omega)]) (ws.2.2.2.2 j' hj')
      · dsimp only
        simp (disch := omega) only [if_neg]
        exact h9
set_option maxHeartbeats 4000000 in
set_option maxRecDepth 100000 in
theorem vac_ok (hw : WFh F B) (hB : B < 1000000) : WFh (vacF F v a).2 (B + 1) := by
  obtain ⟨hw, h9⟩ := hw
  have t2 := hw.t2
  unfold vacF
  split
  · exact ⟨WF_mono (by omega) hw, h9⟩
  · rename_i hv
    have hv := Classical.not_not.mp hv
    obtain ⟨k, rfl, hk⟩ := iN_nn hv.1 (by omega)
    obtain ⟨j, rfl, hj⟩ := iN_nn hv.2 (by omega)
    rw [show nn (nI k) = k from nI_cl (by omega), show nn (nI j) = j from nI_cl (by omega)]
    split
    · exact ⟨WF_mono (by omega) hw, h9⟩
    · rename_i hb
      have ws := hw.site hk
      have wv := ws.2.2.1
      have hs1 : (F (29 + 17 * k + 3) + nI 1).toInt = (F (29 + 17 * k + 3)).toInt + 1 := by
        rw [Int32.toInt_add, nI_toI (by omega)]
        apply Int.bmod_eq_of_le <;> omega
      refine ⟨WF_site1 hw hk (by omega) (fun i hi => ?_) ⟨?_, ?_, ?_, ?_, fun j' hj' => ?_⟩, ?_⟩
      · dsimp only
        rw [if_neg (by omega), if_neg (by omega)]
      · dsimp only
        simp (disch := omega) only [if_neg]
        exact ws.1
      · dsimp only
        simp (disch := omega) only [if_neg]
        exact ws.2.1
      · dsimp only
        simp (disch := omega) only [if_neg, if_true]
        rw [hs1]
        omega
      · dsimp only
        simp (disch := omega) only [if_neg]
        exact ws.2.2.2.1
      · by_cases ej : j' = j
        · subst ej
          unfold slotOk
          dsimp only
          simp (disch := omega) only [if_neg, if_true]
          exact ⟨Or.inl trivial, fun q => absurd q nI01⟩
        · exact slotOk_cg (fun i h1 h2 => by
            dsimp only
            rw [if_neg (by omega), if_neg (by omega)]) (ws.2.2.2.2 j' hj')
      · dsimp only
        simp (disch := omega) only [if_neg]
        exact h9
theorem neg1 : ¬ 0 ≤ (-1 : Int32).toInt := by decide
theorem nI_nn (h : k < 1000) : ¬ (nI k).toInt < 0 := by rw [nI_toI (by omega)]; omega
set_option maxHeartbeats 4000000 in
set_option maxRecDepth 100000 in
theorem server_neg (hw : WFh F B) (h : (serverF F v a z).1.toInt < 0) : (serverF F v a z).2 = F := by
  have s2 := hw.1.s2
  unfold serverF at h ⊢
  (repeat' split) <;> first | rfl | (exfalso; (repeat rw [if_neg (by assumption)] at h); exact nI_nn (by omega) h)
set_option maxHeartbeats 4000000 in
set_option maxRecDepth 100000 in
theorem site_neg (hw : WFh F B) (h : (siteF F a z l).1.toInt < 0) : (siteF F a z l).2 = F := by
  have t2 := hw.1.t2
  unfold siteF at h ⊢
  (repeat' split) <;> first | rfl | (exfalso; (repeat rw [if_neg (by assumption)] at h); exact nI_nn (by omega) h)
set_option maxHeartbeats 4000000 in
set_option maxRecDepth 100000 in
theorem router_neg (hw : WFh F B) (h : (routerF F).1.toInt < 0) : (routerF F).2 = F := by
  have r2 := hw.1.r2
  unfold routerF at h ⊢
  (repeat' split) <;> first | rfl | (exfalso; (repeat rw [if_neg (by assumption)] at h); exact nI_nn (by omega) h)
set_option maxHeartbeats 4000000 in
set_option maxRecDepth 100000 in
theorem life_neg (hw : WFh F B) (h : (lifeF F v).1.toInt < 0) : (lifeF F v).2 = F := by
  have l2 := hw.1.l
  unfold lifeF at h ⊢
  (repeat' split) <;> first | rfl | (exfalso; (repeat rw [if_neg (by assumption)] at h); dsimp only at h; omega)
set_option maxHeartbeats 4000000 in
set_option maxRecDepth 100000 in
theorem forget_neg (hw : WFh F B) (h : (forgetF F v).1.toInt < 0) : (forgetF F v).2 = F := by
  have r2 := hw.1.r2
  unfold forgetF at h ⊢
  split
  · rfl
  · rename_i hv
    exfalso
    rw [if_neg hv] at h
    obtain ⟨k, rfl, hk⟩ := iN_nn (Classical.not_not.mp hv) (by omega)
    have wr := hw.1.router hk
    dsimp only at h
    rw [show nn (nI k) = k from nI_cl (by omega), wr.1] at h
    exact nI_nn (by have := wr.2.1; omega) h
set_option maxHeartbeats 4000000 in
set_option maxRecDepth 100000 in
theorem reg_neg (hw : WFh F B) (h : (regF F v).1.toInt < 0) : (regF F v).2 = F := by
  have t2 := hw.1.t2
  have hh := hw.1.h
  have h9 := hw.2
  unfold regF at h ⊢
  split
  · rfl
  · rename_i hv
    exfalso
    rw [if_neg hv] at h
    obtain ⟨k, rfl, hk⟩ := iN_nn (Classical.not_not.mp hv) (by omega)
    have ws := (hw.1.site hk).2.1
    dsimp only at h
    rw [show nn (nI k) = k from nI_cl (by omega), add_hour (by omega) (by omega)] at h
    omega
set_option maxHeartbeats 4000000 in
set_option maxRecDepth 100000 in
theorem unreg_neg (hw : WFh F B) (h : (unregF F v).1.toInt < 0) : (unregF F v).2 = F := by
  have t2 := hw.1.t2
  have hh := hw.1.h
  unfold unregF at h ⊢
  split
  · rfl
  · rename_i hv
    rw [if_neg hv] at h
    obtain ⟨k, rfl, hk⟩ := iN_nn (Classical.not_not.mp hv) (by omega)
    rw [show nn (nI k) = k from nI_cl (by omega)] at h ⊢
    split
    · rfl
    · rename_i hu
      exfalso
      rw [if_neg hu] at h
      have ws := (hw.1.site hk).2.2.2.1
      dsimp only at h
      rw [Int32.toInt_sub] at h
      have : ((F (29 + 17 * k + 4)).toInt - (F 0).toInt).bmod 4294967296 = (F (29 + 17 * k + 4)).toInt - (F 0).toInt := by
        apply Int.bmod_eq_of_le <;> omega
      rw [this] at h
      omega
set_option maxHeartbeats 4000000 in
set_option maxRecDepth 100000 in
theorem pass_neg (hw : WFh F B) (h : (passF F v).1.toInt < 0) : (passF F v).2 = F := by
  have hh := hw.1.h
  have h9 := hw.2
  unfold passF at h ⊢
  split
  · rfl
  · rename_i hv
    rw [if_neg hv] at h
    have hv := Classical.not_not.mp hv
    split
    · rfl
    · rename_i hu
      exfalso
      rw [if_neg hu] at h
      dsimp only at h
      rw [add_hour (by omega) (by omega)] at h
      omega
set_option maxHeartbeats 4000000 in
set_option maxRecDepth 100000 in
theorem fill_neg (hw : WFh F B) (hB : B < 1000000) (h : (fillSF F v a z x y).1.toInt < 0) : (fillSF F v a z x y).2 = F := by
  have t2 := hw.1.t2
  unfold fillSF at h ⊢
  split
  · rfl
  · rename_i hv
    rw [if_neg hv] at h
    have hv := Classical.not_not.mp hv
    split
    · rfl
    · rename_i hu
      exfalso
      rw [if_neg hu] at h
      obtain ⟨k, rfl, hk⟩ := iN_nn hv.1 (by omega)
      have wv := (hw.1.site hk).2.2.1
      dsimp only at h
      rw [show nn (nI k) = k from nI_cl (by omega), Int32.toInt_add, nI_toI (by omega)] at h
      have : ((F (29 + 17 * k + 3)).toInt + ((1 : Nat) : Int)).bmod 4294967296 = (F (29 + 17 * k + 3)).toInt + 1 := by
        apply Int.bmod_eq_of_le <;> omega
      rw [this] at h
      omega
set_option maxHeartbeats 4000000 in
set_option maxRecDepth 100000 in
theorem vac_neg (hw : WFh F B) (hB : B < 1000000) (h : (vacF F v a).1.toInt < 0) : (vacF F v a).2 = F := by
  have t2 := hw.1.t2
  unfold vacF at h ⊢
  split
  · rfl
  · rename_i hv
    rw [if_neg hv] at h
    have hv := Classical.not_not.mp hv
    split
    · rfl
    · rename_i hu
      exfalso
      rw [if_neg hu] at h
      obtain ⟨k, rfl, hk⟩ := iN_nn hv.1 (by omega)
      have wv := (hw.1.site hk).2.2.1
      dsimp only at h
      rw [show nn (nI k) = k from nI_cl (by omega), Int32.toInt_add, nI_toI (by omega)] at h
      have : ((F (29 + 17 * k + 3)).toInt + ((1 : Nat) : Int)).bmod 4294967296 = (F (29 + 17 * k + 3)).toInt + 1 := by
        apply Int.bmod_eq_of_le <;> omega
      rw [this] at h
      omega
set_option maxHeartbeats 4000000 in
set_option maxRecDepth 100000 in
theorem letter_neg (hw : WFh F B) (h : (letterF F v name flow).1.toInt < 0) : (letterF F v name flow).2 = F := by
  have r2 := hw.1.r2
  unfold letterF at h ⊢
  split
  · rfl
  · rename_i hv
    rw [if_neg hv] at h
    split
    · rfl
    · rename_i hu
      exfalso
      rw [if_neg hu] at h
      have hu := Classical.not_not.mp hu
      obtain ⟨k, rfl, hk⟩ := iN_nn (Classical.not_not.mp hv) (by omega)
      rw [show nn (nI k) = k from nI_cl (by omega)] at h
      have := (send_ok (flow := flow) hw.1 hk hu.1 hu.2.1).2.2
      omega
end CLS23
end
section
/-! THE CLASS: calls that are recorded -/
def nxF (F : Fm) (o : Int32 × Fm) : Fm := if o.1.toInt < 0 then F else o.2
def nxG (G F : Fm) (n : Nat) (o : Int32 × Fm) : Fm := if o.1.toInt < 0 then G else recG G F n
def nxN (n : Nat) (o : Int32 × Fm) : Nat := if o.1.toInt < 0 then n else recN n
section CLS24
variable {L : Nat} {xs : Nat → Int32} {f i i2 k r p q c j n B B' b w w' w2 m sd : Nat} {x y v z a l lo v0 v1 name flow place which : Int32} {s s' s2 s3 t : St} {F F0 F1 G C F' U u : Fm} {Q : Option MV → St → Prop} {P : Nat → Nat} {o : Int32 × Fm}
theorem CL_mono (h : CL s F G n B) (hB : B ≤ B') : CL s F G n B' := by
  obtain ⟨hp, ⟨hR, hW⟩, ⟨o, ho6, hn, ho, hct, hh⟩, hs⟩ := h
  exact ⟨hp, ⟨hR, WFh_mono hB hW⟩, ⟨o, ho6, hn, ho, hct, fun i hi => ⟨(hh i hi).1, WFh_mono hB (hh i hi).2⟩⟩, fun j hj => ⟨(hs j hj).1, fun q => ⟨((hs j hj).2 q).1, WFh_mono hB ((hs j hj).2 q).2⟩⟩⟩
set_option maxHeartbeats 4000000 in
set_option maxRecDepth 100000 in
theorem c_recOp (hD : DR s F o.2 G n B) (hn : o.1.toInt < 0 → o.2 = F) (h : ∀ s', Fr s s' → CL s' (nxF F o) (nxG G F n o) (nxN n o) B → Q (some (.inl o.1)) s') : wpM L xs codT retT (f + 4) m_X9_recorded [.inr (9, 0), .inl o.1] s Q := by
  refine c_recorded hD (fun hv => ?_) (fun hv s3 f3 c3 => ?_)
  · refine h s Fr.refl ?_
    unfold nxF nxG nxN
    rw [if_pos hv, if_pos hv, if_pos hv]
    have c := hD.cl
    rw [hn hv] at c
    exact c
  · refine h s3 f3 ?_
    unfold nxF nxG nxN
    rw [if_neg (by omega), if_neg (by omega), if_neg (by omega)]
    exact c3
set_option maxHeartbeats 4000000 in
set_option maxRecDepth 100000 in
theorem x_addServer (hC : CL s F G n B) (hB : 1 ≤ B) (hB2 : B < 1000000) (h : ∀ s', Fr s s' → CL s' (nxF F (serverF F v a z)) (nxG G F n (serverF F v a z)) (nxN n (serverF F v a z)) (B + 1) → Q (some (.inl (serverF F v a z).1)) s') : wpM L xs codT retT (f + 6) m_X9_addServer [.inr (9, 0), .inl v, .inl a, .inl z] s Q := by
  have w := hC.2.1.2
  intro call hcall X hX; refine hX 1000 0 _ _ _ ?_
  repeat' (first | (intro hc) | (refine And.intro ?_ ?_) | (exact absurd nI_0 ‹cmpF 0 (nI 0) 0›) | (exact absurd ‹cmpT 0 (nI 1) 0› nI1_ne) | (exact absurd nI_0 ‹cmpT 1 (nI 0) 0›) | (exact absurd ‹cmpF 1 (nI 1) 0› nI1_ne) | (show wp _ _ _ _ _ _ _ _ _ _ _ _; conv => whnf) | (simp (disch := omega) only [nI_add, nI_mul, setN_now, setN_put, nI_cl, Nat.add_zero]) | (refine hcall _ _ _ _ ?_; first | (refine c_draft hC (fun s1 f1 d1 => ?_)) | (refine c_newServer d1.2.1.2.1 d1.1 (by omega) d1.2.1.1 (fun s2 u2 R2 => ?_)) | (refine c_recOp (o := serverF F v a z) (d1.upd (B' := B + 1) u2 R2 (WFh_mono (by omega) (server_ok w)) (by omega)) (fun q => server_neg w q) (fun s3 f3 c3 => ?_)) | fail))
  all_goals exact h _ (f1.trans ((u2.fr (by omega)).trans f3)) c3
set_option maxHeartbeats 4000000 in
set_option maxRecDepth 100000 in
theorem x_addSite (hC : CL s F G n B) (hB : 1 ≤ B) (hB2 : B < 1000000) (h : ∀ s', Fr s s' → CL s' (nxF F (siteF F a z l)) (nxG G F n (siteF F a z l)) (nxN n (siteF F a z l)) (B + 1) → Q (some (.inl (siteF F a z l).1)) s') : wpM L xs codT retT (f + 6) m_X9_addSite [.inr (9, 0), .inl a, .inl z, .inl l] s Q := by
  have w := hC.2.1.2
  intro call hcall X hX; refine hX 1000 0 _ _ _ ?_
  repeat' (first | (intro hc) | (refine And.intro ?_ ?_) | (exact absurd nI_0 ‹cmpF 0 (nI 0) 0›) | (exact absurd ‹cmpT 0 (nI 1) 0› nI1_ne) | (exact absurd nI_0 ‹cmpT 1 (nI 0) 0›) | (exact absurd ‹cmpF 1 (nI 1) 0› nI1_ne) | (show wp _ _ _ _ _ _ _ _ _ _ _ _; conv => whnf) | (simp (disch := omega) only [nI_add, nI_mul, setN_now, setN_put, nI_cl, Nat.add_zero]) | (refine hcall _ _ _ _ ?_; first | (refine c_draft hC (fun s1 f1 d1 => ?_)) | (refine c_newSite d1.2.1.2.1 d1.1 (by omega) d1.2.1.1 (fun s2 u2 R2 => ?_)) | (refine c_recOp (o := siteF F a z l) (d1.upd (B' := B + 1) u2 R2 (WFh_mono (by omega) (site_ok w hB)) (by omega)) (fun q => site_neg w q) (fun s3 f3 c3 => ?_)) | fail))
  all_goals exact h _ (f1.trans ((u2.fr (by omega)).trans f3)) c3
set_option maxHeartbeats 4000000 in
set_option maxRecDepth 100000 in
theorem x_addRouter (hC : CL s F G n B) (hB : 1 ≤ B) (hB2 : B < 1000000) (h : ∀ s', Fr s s' → CL s' (nxF F (routerF F)) (nxG G F n (routerF F)) (nxN n (routerF F)) (B + 1) → Q (some (.inl (routerF F).1)) s') : wpM L xs codT retT (f + 6) m_X9_addRouter [.inr (9, 0)] s Q := by
  have w := hC.2.1.2
  intro call hcall X hX; refine hX 1000 0 _ _ _ ?_
  repeat' (first | (intro hc) | (refine And.intro ?_ ?_) | (exact absurd nI_0 ‹cmpF 0 (nI 0) 0›) | (exact absurd ‹cmpT 0 (nI 1) 0› nI1_ne) | (exact absurd nI_0 ‹cmpT 1 (nI 0) 0›) | (exact absurd ‹cmpF 1 (nI 1) 0› nI1_ne) | (show wp _ _ _ _ _ _ _ _ _ _ _ _; conv => whnf) | (simp (disch := omega) only [nI_add, nI_mul, setN_now, setN_put, nI_cl, Nat.add_zero]) | (refine hcall _ _ _ _ ?_; first | (refine c_draft hC (fun s1 f1 d1 => ?_)) | (refine c_newRouter d1.2.1.2.1 d1.1 (by omega) d1.2.1.1 (fun s2 u2 R2 => ?_)) | (refine c_recOp (o := routerF F) (d1.upd (B' := B + 1) u2 R2 (WFh_mono (by omega) (router_ok w)) (by omega)) (fun q => router_neg w q) (fun s3 f3 c3 => ?_)) | fail))
  all_goals exact h _ (f1.trans ((u2.fr (by omega)).trans f3)) c3
set_option maxHeartbeats 4000000 in
set_option maxRecDepth 100000 in
theorem x_setSlot (hC : CL s F G n B) (hB : 1 ≤ B) (hB2 : B < 1000000) (h : ∀ s', Fr s s' → CL s' (nxF F (fillSF F v a z x y)) (nxG G F n (fillSF F v a z x y)) (nxN n (fillSF F v a z x y)) (B + 1) → Q (some (.inl (fillSF F v a z x y).1)) s') : wpM L xs codT retT (f + 6) m_X9_setSlot [.inr (9, 0), .inl v, .inl a, .inl z, .inl x, .inl y] s Q := by
  have w := hC.2.1.2
  intro call hcall X hX; refine hX 1000 0 _ _ _ ?_
  repeat' (first | (intro hc) | (refine And.intro ?_ ?_) | (exact absurd nI_0 ‹cmpF 0 (nI 0) 0›) | (exact absurd ‹cmpT 0 (nI 1) 0› nI1_ne) | (exact absurd nI_0 ‹cmpT 1 (nI 0) 0›) | (exact absurd ‹cmpF 1 (nI 1) 0› nI1_ne) | (show wp _ _ _ _ _ _ _ _ _ _ _ _; conv => whnf) | (simp (disch := omega) only [nI_add, nI_mul, setN_now, setN_put, nI_cl, Nat.add_zero]) | (refine hcall _ _ _ _ ?_; first | (refine c_draft hC (fun s1 f1 d1 => ?_)) | (refine c_fillSlot d1.2.1.2.1 d1.1 (by omega) d1.2.1.1 (fun s2 u2 R2 => ?_)) | (refine c_recOp (o := fillSF F v a z x y) (d1.upd (B' := B + 1) u2 R2 (fill_ok w hB2) (by omega)) (fun q => fill_neg w hB2 q) (fun s3 f3 c3 => ?_)) | fail))
  all_goals exact h _ (f1.trans ((u2.fr (by omega)).trans f3)) c3
set_option maxHeartbeats 4000000 in
set_option maxRecDepth 100000 in
theorem x_emptySlot (hC : CL s F G n B) (hB : 1 ≤ B) (hB2 : B < 1000000) (h : ∀ s', Fr s s' → CL s' (nxF F (vacF F v a)) (nxG G F n (vacF F v a)) (nxN n (vacF F v a)) (B + 1) → Q (some (.inl (vacF F v a).1)) s') : wpM L xs codT retT (f + 6) m_X9_emptySlot [.inr (9, 0), .inl v, .inl a] s Q := by
  have w := hC.2.1.2
  intro call hcall X hX; refine hX 1000 0 _ _ _ ?_
  repeat' (first | (intro hc) | (refine And.intro ?_ ?_) | (exact absurd nI_0 ‹cmpF 0 (nI 0) 0›) | (exact absurd ‹cmpT 0 (nI 1) 0› nI1_ne) | (exact absurd nI_0 ‹cmpT 1 (nI 0) 0›) | (exact absurd ‹cmpF 1 (nI 1) 0› nI1_ne) | (show wp _ _ _ _ _ _ _ _ _ _ _ _; conv => whnf) | (simp (disch := omega) only [nI_add, nI_mul, setN_now, setN_put, nI_cl, Nat.add_zero]) | (refine hcall _ _ _ _ ?_; first | (refine c_draft hC (fun s1 f1 d1 => ?_)) | (refine c_vacateSlot d1.2.1.2.1 d1.1 (by omega) d1.2.1.1 (fun s2 u2 R2 => ?_)) | (refine c_recOp (o := vacF F v a) (d1.upd (B' := B + 1) u2 R2 (vac_ok w hB2) (by omega)) (fun q => vac_neg w hB2 q) (fun s3 f3 c3 => ?_)) | fail))
  all_goals exact h _ (f1.trans ((u2.fr (by omega)).trans f3)) c3
set_option maxHeartbeats 4000000 in
set_option maxRecDepth 100000 in
theorem x_register (hC : CL s F G n B) (hB : 1 ≤ B) (hB2 : B < 1000000) (h : ∀ s', Fr s s' → CL s' (nxF F (regF F v)) (nxG G F n (regF F v)) (nxN n (regF F v)) (B + 1) → Q (some (.inl (regF F v).1)) s') : wpM L xs codT retT (f + 6) m_X9_register [.inr (9, 0), .inl v] s Q := by
  have w := hC.2.1.2
  intro call hcall X hX; refine hX 1000 0 _ _ _ ?_
  repeat' (first | (intro hc) | (refine And.intro ?_ ?_) | (exact absurd nI_0 ‹cmpF 0 (nI 0) 0›) | (exact absurd ‹cmpT 0 (nI 1) 0› nI1_ne) | (exact absurd nI_0 ‹cmpT 1 (nI 0) 0›) | (exact absurd ‹cmpF 1 (nI 1) 0› nI1_ne) | (show wp _ _ _ _ _ _ _ _ _ _ _ _; conv => whnf) | (simp (disch := omega) only [nI_add, nI_mul, setN_now, setN_put, nI_cl, Nat.add_zero]) | (refine hcall _ _ _ _ ?_; first | (refine c_draft hC (fun s1 f1 d1 => ?_)) | (refine c_startReg d1.2.1.2 d1.1 (by omega) d1.2.1.1 (fun s2 u2 R2 => ?_)) | (refine c_recOp (o := regF F v) (d1.upd (B' := B + 1) u2 R2 (WFh_mono (by omega) (reg_ok w)) (by omega)) (fun q => reg_neg w q) (fun s3 f3 c3 => ?_)) | fail))
  all_goals exact h _ (f1.trans ((u2.fr (by omega)).trans f3)) c3
set_option maxHeartbeats 4000000 in
set_option maxRecDepth 100000 in
theorem x_unregister (hC : CL s F G n B) (hB : 1 ≤ B) (hB2 : B < 1000000) (h : ∀ s', Fr s s' → CL s' (nxF F (unregF F v)) (nxG G F n (unregF F v)) (nxN n (unregF F v)) (B + 1) → Q (some (.inl (unregF F v).1)) s') : wpM L xs codT retT (f + 6) m_X9_unregister [.inr (9, 0), .inl v] s Q := by
  have w := hC.2.1.2
  intro call hcall X hX; refine hX 1000 0 _ _ _ ?_
  repeat' (first | (intro hc) | (refine And.intro ?_ ?_) | (exact absurd nI_0 ‹cmpF 0 (nI 0) 0›) | (exact absurd ‹cmpT 0 (nI 1) 0› nI1_ne) | (exact absurd nI_0 ‹cmpT 1 (nI 0) 0›) | (exact absurd ‹cmpF 1 (nI 1) 0› nI1_ne) | (show wp _ _ _ _ _ _ _ _ _ _ _ _; conv => whnf) | (simp (disch := omega) only [nI_add, nI_mul, setN_now, setN_put, nI_cl, Nat.add_zero]) | (refine hcall _ _ _ _ ?_; first | (refine c_draft hC (fun s1 f1 d1 => ?_)) | (refine c_endReg d1.2.1.2 d1.1 (by omega) d1.2.1.1 (fun s2 u2 R2 => ?_)) | (refine c_recOp (o := unregF F v) (d1.upd (B' := B + 1) u2 R2 (WFh_mono (by omega) (unreg_ok w)) (by omega)) (fun q => unreg_neg w q) (fun s3 f3 c3 => ?_)) | fail))
  all_goals exact h _ (f1.trans ((u2.fr (by omega)).trans f3)) c3
set_option maxHeartbeats 4000000 in
set_option maxRecDepth 100000 in
theorem x_setMapLife (hC : CL s F G n B) (hB : 1 ≤ B) (hB2 : B < 1000000) (h : ∀ s', Fr s s' → CL s' (nxF F (lifeF F v)) (nxG G F n (lifeF F v)) (nxN n (lifeF F v)) (B + 1) → Q (some (.inl (lifeF F v).1)) s') : wpM L xs codT retT (f + 6) m_X9_setMapLife [.inr (9, 0), .inl v] s Q := by
  have w := hC.2.1.2
  intro call hcall X hX; refine hX 1000 0 _ _ _ ?_
  repeat' (first | (intro hc) | (refine And.intro ?_ ?_) | (exact absurd nI_0 ‹cmpF 0 (nI 0) 0›) | (exact absurd ‹cmpT 0 (nI 1) 0› nI1_ne) | (exact absurd nI_0 ‹cmpT 1 (nI 0) 0›) | (exact absurd ‹cmpF 1 (nI 1) 0› nI1_ne) | (show wp _ _ _ _ _ _ _ _ _ _ _ _; conv => whnf) | (simp (disch := omega) only [nI_add, nI_mul, setN_now, setN_put, nI_cl, Nat.add_zero]) | (refine hcall _ _ _ _ ?_; first | (refine c_draft hC (fun s1 f1 d1 => ?_)) | (refine c_mapLife d1.2.1.2.1 d1.1 (by omega) d1.2.1.1 (fun s2 u2 R2 => ?_)) | (refine c_recOp (o := lifeF F v) (d1.upd (B' := B + 1) u2 R2 (WFh_mono (by omega) (life_ok w)) (by omega)) (fun q => life_neg w q) (fun s3 f3 c3 => ?_)) | fail))
  all_goals exact h _ (f1.trans ((u2.fr (by omega)).trans f3)) c3
set_option maxHeartbeats 4000000 in
set_option maxRecDepth 100000 in
theorem x_send (hC : CL s F G n B) (hB : 1 ≤ B) (hB2 : B < 1000000) (h : ∀ s', Fr s s' → CL s' (nxF F (letterF F v name flow)) (nxG G F n (letterF F v name flow)) (nxN n (letterF F v name flow)) (B + 1) → Q (some (.inl (letterF F v name flow).1)) s') : wpM L xs codT retT (f + 6) m_X9_send [.inr (9, 0), .inl v, .inl name, .inl flow] s Q := by
  have w := hC.2.1.2
  intro call hcall X hX; refine hX 1000 0 _ _ _ ?_
  repeat' (first | (intro hc) | (refine And.intro ?_ ?_) | (exact absurd nI_0 ‹cmpF 0 (nI 0) 0›) | (exact absurd ‹cmpT 0 (nI 1) 0› nI1_ne) | (exact absurd nI_0 ‹cmpT 1 (nI 0) 0›) | (exact absurd ‹cmpF 1 (nI 1) 0› nI1_ne) | (show wp _ _ _ _ _ _ _ _ _ _ _ _; conv => whnf) | (simp (disch := omega) only [nI_add, nI_mul, setN_now, setN_put, nI_cl, Nat.add_zero]) | (refine hcall _ _ _ _ ?_; first | (refine c_draft hC (fun s1 f1 d1 => ?_)) | (refine c_sendLetter d1.2.1.2.1 (by omega) d1.1 d1.2.1.1 (fun s2 u2 R2 => ?_)) | (refine c_recOp (o := letterF F v name flow) (d1.upd (B' := B + 1) u2 R2 (WFh_mono (by omega) (letter_ok w)) (by omega)) (fun q => letter_neg w q) (fun s3 f3 c3 => ?_)) | fail))
  all_goals exact h _ (f1.trans ((u2.fr (by omega)).trans f3)) c3
set_option maxHeartbeats 4000000 in
set_option maxRecDepth 100000 in
theorem x_pass (hC : CL s F G n B) (hB : 1 ≤ B) (hB2 : B < 1000000) (h : ∀ s', Fr s s' → CL s' (nxF F (passF F v)) (nxG G F n (passF F v)) (nxN n (passF F v)) (B + 1) → Q (some (.inl (passF F v).1)) s') : wpM L xs codT retT (f + 6) m_X9_pass [.inr (9, 0), .inl v] s Q := by
  have w := hC.2.1.2
  intro call hcall X hX; refine hX 1000 0 _ _ _ ?_
  repeat' (first | (intro hc) | (refine And.intro ?_ ?_) | (exact absurd nI_0 ‹cmpF 0 (nI 0) 0›) | (exact absurd ‹cmpT 0 (nI 1) 0› nI1_ne) | (exact absurd nI_0 ‹cmpT 1 (nI 0) 0›) | (exact absurd ‹cmpF 1 (nI 1) 0› nI1_ne) | (show wp _ _ _ _ _ _ _ _ _ _ _ _; conv => whnf) | (simp (disch := omega) only [nI_add, nI_mul, setN_now, setN_put, nI_cl, Nat.add_zero]) | (refine hcall _ _ _ _ ?_; first | (refine c_draft hC (fun s1 f1 d1 => ?_)) | (refine c_letPass d1.2.1.2 d1.1 (by omega) d1.2.1.1 (fun s2 u2 R2 => ?_)) | (refine c_recOp (o := passF F v) (d1.upd (B' := B + 1) u2 R2 (WFh_mono (by omega) (pass_ok w)) (by omega)) (fun q => pass_neg w q) (fun s3 f3 c3 => ?_)) | fail))
  all_goals exact h _ (f1.trans ((u2.fr (by omega)).trans f3)) c3
set_option maxHeartbeats 4000000 in
set_option maxRecDepth 100000 in
theorem x_forget (hC : CL s F G n B) (hB : 1 ≤ B) (hB2 : B < 1000000) (h : ∀ s', Fr s s' → CL s' (nxF F (forgetF F v)) (nxG G F n (forgetF F v)) (nxN n (forgetF F v)) (B + 1) → Q (some (.inl (forgetF F v).1)) s') : wpM L xs codT retT (f + 6) m_X9_forget [.inr (9, 0), .inl v] s Q := by
  have w := hC.2.1.2
  intro call hcall X hX; refine hX 1000 0 _ _ _ ?_
  repeat' (first | (intro hc) | (refine And.intro ?_ ?_) | (exact absurd nI_0 ‹cmpF 0 (nI 0) 0›) | (exact absurd ‹cmpT 0 (nI 1) 0› nI1_ne) | (exact absurd nI_0 ‹cmpT 1 (nI 0) 0›) | (exact absurd ‹cmpF 1 (nI 1) 0› nI1_ne) | (show wp _ _ _ _ _ _ _ _ _ _ _ _; conv => whnf) | (simp (disch := omega) only [nI_add, nI_mul, setN_now, setN_put, nI_cl, Nat.add_zero]) | (refine hcall _ _ _ _ ?_; first | (refine c_draft hC (fun s1 f1 d1 => ?_)) | (refine c_emptyCache d1.2.1.2.1 d1.1 (by omega) d1.2.1.1 (fun s2 u2 R2 => ?_)) | (refine c_recOp (o := forgetF F v) (d1.upd (B' := B + 1) u2 R2 (WFh_mono (by omega) (forget_ok w)) (by omega)) (fun q => forget_neg w q) (fun s3 f3 c3 => ?_)) | fail))
  all_goals exact h _ (f1.trans ((u2.fr (by omega)).trans f3)) c3
end CLS24
end
section
/-! THE CLASS: undo, save, restore, rehearsals -/
section CLS25
variable {L : Nat} {xs : Nat → Int32} {f i i2 k r p q c j n B B' b w w' w2 m sd : Nat} {x y v z a l lo v0 v1 name flow place which : Int32} {s s' s2 s3 t : St} {F F0 F1 G C F' U u : Fm} {Q : Option MV → St → Prop} {P : Nat → Nat} {o : Int32 × Fm}
theorem CL_upd (hC : CL s F G n B) (u : Upd s s' 1) : CL s' F G n B := by
  obtain ⟨hp, ⟨hR, hW⟩, ⟨o, ho6, hn, ho, hct, hh⟩, hs⟩ := hC
  refine ⟨u.2.2 hp, ⟨u.rep (by omega) hW.1 hp (by omega) hR, hW⟩, ⟨o, ho6, hn, (u.kk (by omega) (by omega)).trans ho, (u.kk (by omega) (by omega)).trans hct, fun i hi => ?_⟩, fun j hj => ?_⟩
  · obtain ⟨g1, g2⟩ := hh i hi
    exact ⟨u.rep (by omega) g2.1 hp (by omega) g1, g2⟩
  · obtain ⟨g1, g2⟩ := hs j hj
    rw [u.kk (by omega) (by omega)]
    exact ⟨g1, fun q => ⟨u.rep (by omega) (g2 q).2.1 hp (by omega) (g2 q).1, (g2 q).2⟩⟩
set_option maxHeartbeats 4000000 in
set_option maxRecDepth 100000 in
theorem c_takeLatest (hC : CL s F G n B) (h0 : 0 < n) (h : ∀ s', Fr s s' → CL s' (rowG G (n - 1)) G (n - 1) B → Q none s') : wpM L xs codT retT (f + 5) m_X3_takeLatest [.inr (3, 0), .inr (8, 0)] s Q := by
  obtain ⟨hp, ⟨hR, hW⟩, ⟨o, ho6, hn, ho, hct, hh⟩, hs⟩ := hC
  have hm : (o + (n - 1)) % 6 < 6 := Nat.mod_lt _ (by omega)
  obtain ⟨hl1, hl2⟩ := hh (n - 1) (by omega)
  have k1 : ∀ w F, w < 10 → WF F B → RepW s w F → RepW (putV s 3 0 2 (nI (n - 1))) w F := fun w F h10 w1 q => RepW_put (Or.inl rfl) w1 hp h10 q
  have p1 : permOk (putV s 3 0 2 (nI (n - 1))) := permOk_put hp
  have h : ∀ s', Upd (putV s 3 0 2 (nI (n - 1))) s' 0 → RepW s' 0 (rowG G (n - 1)) → Q none s' := fun s' u R => h s' ((Fr_put rfl).trans (u.fr (by omega))) ⟨u.2.2 p1, ⟨R, hl2⟩, ⟨o, ho6, by omega, (u.kk (by omega) (by omega)).trans ((putV_ne (by omega)).trans ho), (u.kk (by omega) (by omega)).trans putV_at, fun i hi => by
    obtain ⟨g1, g2⟩ := hh i (by omega)
    exact ⟨u.rep (by omega) g2.1 p1 (by omega) (k1 _ _ (by omega) g2.1 g1), g2⟩⟩, fun j hj => by
    obtain ⟨g1, g2⟩ := hs j hj
    rw [u.kk (by omega) (by omega), putV_ne (by omega)]
    exact ⟨g1, fun q => ⟨u.rep (by omega) (g2 q).2.1 p1 (by omega) (k1 _ _ (by omega) (g2 q).2.1 (g2 q).1), (g2 q).2⟩⟩⟩
  have e1 : (putV s 3 0 2 (nI (n - 1))).1 3 0 1 = nI o := (putV_ne (by omega)).trans ho
  have ef : fv (putV s 3 0 2 (nI (n - 1))) 3 0 2 = .inl (nI (n - 1)) := by
    show (Sum.inl ((putV s 3 0 2 (nI (n - 1))).1 3 0 2) : MV) = _
    rw [putV_at]
  have en : s.1 3 0 2 - nI 1 = nI (n - 1) := by rw [hct, nI_sub (by omega) (by omega)]
  intro call hcall X hX; refine hX 1000 0 _ _ _ ?_
  repeat' (first | (intro hc) | (refine And.intro ?_ ?_) | (exact absurd nI_0 ‹cmpF 0 (nI 0) 0›) | (exact absurd ‹cmpT 0 (nI 1) 0› nI1_ne) | (exact absurd nI_0 ‹cmpT 1 (nI 0) 0›) | (exact absurd ‹cmpF 1 (nI 1) 0› nI1_ne) | (show wp _ _ _ _ _ _ _ _ _ _ _ _; conv => whnf) | (rw [en]) | (rw [ef]) | (simp (disch := omega) only [nI_cl]) | (simp (disch := omega) only [nI_add, nI_mul, setN_now, setN_put, nI_cl, Nat.add_zero]) | (refine hcall _ _ _ _ ?_; first | (refine c_row (i := n - 1) (by omega) ho6 e1 ?_) | (refine c_worldCopy hl2.1 p1 (w := 0) (w2 := 2 + (o + (n - 1)) % 6) (by omega) (by omega) (by omega) (k1 _ _ (by omega) hl2.1 hl1) (fun s' u R => ?_)) | fail))
  all_goals first
    | exact h _ u R
    | (simp (disch := omega) only [nI_toI, nI_cl, nI_add, nI_mul, alen11, alen12, alen13, alen14, alen15, alen16, alen17, alen18, alen19]; omega)
    | (clear h k1 hs hh; (try clear hX hcall); (try clear h); (try simp (disch := omega) only [cmpT, cmpF, bI_eq0, bI_ne0, Classical.not_not, nI_toI, nI_cl, nI_inj, nI_add, nI_mul, nI_subI, takeL, setL, Int32.toInt_zero, Nat.add_zero, setN_now, alen20, alen11, alen12, alen13, alen14, alen15, alen16, alen17, alen18, alen19, (id hct)] at *); omega)
set_option maxHeartbeats 4000000 in
set_option maxRecDepth 100000 in
theorem x_undo (hC : CL s F G n B) (h0 : n = 0 → Q (some (.inl (-3))) s) (h : 0 < n → ∀ s', Fr s s' → CL s' (rowG G (n - 1)) G (n - 1) B → Q (some (.inl (nI (n - 1)))) s') : wpM L xs codT retT (f + 6) m_X9_undo [.inr (9, 0)] s Q := by
  have hC' := hC
  obtain ⟨hp, ⟨hR, hW⟩, ⟨o, ho6, hn, ho, hct, hh⟩, hs⟩ := hC'
  by_cases hz : n = 0
  · have h00 := h0 hz
    clear h0 h
    subst hz
    intro call hcall X hX; refine hX 1000 0 _ _ _ ?_
    repeat' (first | (intro hc) | (refine And.intro ?_ ?_) | (exact absurd nI_0 ‹cmpF 0 (nI 0) 0›) | (exact absurd ‹cmpT 0 (nI 1) 0› nI1_ne) | (exact absurd nI_0 ‹cmpT 1 (nI 0) 0›) | (exact absurd ‹cmpF 1 (nI 1) 0› nI1_ne) | (show wp _ _ _ _ _ _ _ _ _ _ _ _; conv => whnf))
    all_goals first
      | exact h00
      | (exfalso; exact (by assumption : cmpT 1 (s.1 3 0 2) 0) (hct.trans nI_0))
  · have h := h (by omega)
    have hn0 : ¬ s.1 3 0 2 = 0 := fun q => hz ((nI_inj (by omega) (by omega)).mp ((hct.symm.trans q).trans nI_0.symm))
    clear h0
    intro call hcall X hX; refine hX 1000 0 _ _ _ ?_
    repeat' (first | (intro hc) | (refine And.intro ?_ ?_) | (exact absurd nI_0 ‹cmpF 0 (nI 0) 0›) | (exact absurd ‹cmpT 0 (nI 1) 0› nI1_ne) | (exact absurd nI_0 ‹cmpT 1 (nI 0) 0›) | (exact absurd ‹cmpF 1 (nI 1) 0› nI1_ne) | (show wp _ _ _ _ _ _ _ _ _ _ _ _; conv => whnf) | (simp (disch := omega) only [nI_add, nI_mul, setN_now, setN_put, nI_cl, Nat.add_zero]) | (refine hcall _ _ _ _ ?_; first | (refine c_takeLatest hC (by omega) (fun s1 f1 c1 => ?_)) | fail))
    all_goals first
      | (exfalso; exact hn0 (by assumption : cmpF 1 (s.1 3 0 2) 0))
      | (obtain ⟨o', -, -, -, hct', -⟩ := c1.2.2.1; rw [hct']; exact h _ f1 c1)
theorem keep_row (hk : k < 509) : rowG (keepG G F c) i k = if i = c then F k else rowG G i k := by
  unfold rowG keepG
  by_cases h : i = c
  · rw [if_pos (by omega), if_pos h, show 509 * i + k - 509 * c = k by omega]
  · rw [if_neg (by omega), if_neg h]
set_option maxHeartbeats 4000000 in
set_option maxRecDepth 100000 in
theorem x_save (hC : CL s F G n B) (h0 : ¬ iN v 2 → Q (some (.inl (-1))) s) (h : ∀ j, j < 2 → v = nI j → ∀ s', (∀ c i k, (c = 0 ∨ c = 19 ∨ c = 10 ∨ 20 ≤ c) → s'.1 c i k = s.1 c i k) → (s'.1 18 0 j = nI 1 ∧ ∀ k, k ≠ j → s'.1 18 0 k = s.1 18 0 k) → CL s' F (keepG G F (5 + j)) n B → Q (some (.inl (F 0))) s') : wpM L xs codT retT (f + 5) m_X9_save [.inr (9, 0), .inl v] s Q := by
  obtain ⟨hp, ⟨hR, hW⟩, ⟨o, ho6, hn, ho, hct, hh⟩, hs⟩ := hC
  by_cases hv : iN v 2
  · obtain ⟨j, rfl, hj⟩ := iN_nn hv (by omega)
    have fin : ∀ s1, Upd s s1 (8 + j) → RepW s1 (8 + j) F → Q (some (.inl ((putV s1 18 0 j (nI 1)).1 8 0 6))) (putV s1 18 0 j (nI 1)) := by
      intro s1 u R
      have p1 := u.2.2 hp
      have k1 : ∀ w F, w < 10 → WF F B → RepW s1 w F → RepW (putV s1 18 0 j (nI 1)) w F := fun w F h10 w1 q => RepW_put (Or.inr rfl) w1 p1 h10 q
      have R0 := u.rep (w' := 0) (by omega) hW.1 hp (by omega) hR
      rw [putV_ne (by omega), R0.h1]
      refine h j hj rfl _ (fun c i k hc => (putV_ne (by omega)).trans (u.fr (by omega) c i k (by omega))) ⟨putV_at, fun k hk => (putV_ne (by omega)).trans (u.kk (by omega) (by omega))⟩ ⟨permOk_put p1, ⟨k1 _ _ (by omega) hW.1 R0, hW⟩, ⟨o, ho6, hn, (putV_ne (by omega)).trans ((u.kk (by omega) (by omega)).trans ho), (putV_ne (by omega)).trans ((u.kk (by omega) (by omega)).trans hct), fun i hi => ?_⟩, fun j' hj' => ?_⟩
      · obtain ⟨g1, g2⟩ := hh i hi
        have er : ∀ k, k < 509 → rowG (keepG G F (5 + j)) i k = rowG G i k := fun k hk => by rw [keep_row hk, if_neg (by omega)]
        exact ⟨RepW_F g2.1 er (k1 _ _ (by omega) g2.1 (u.rep (by omega) g2.1 hp (by omega) g1)), WFh_F er g2⟩
      · by_cases e : j' = j
        · subst e
          have er : ∀ k, k < 509 → rowG (keepG G F (5 + j')) (5 + j') k = F k := fun k hk => by rw [keep_row hk, if_pos rfl]
          rw [putV_at]
          exact ⟨Or.inr rfl, fun _ => ⟨RepW_F hW.1 er (k1 _ _ (by omega) hW.1 R), WFh_F er hW⟩⟩
        · obtain ⟨g1, g2⟩ := hs j' hj'
          have er : ∀ k, k < 509 → rowG (keepG G F (5 + j)) (5 + j') k = rowG G (5 + j') k := fun k hk => by rw [keep_row hk, if_neg (by omega)]
          rw [putV_ne (by omega), u.kk (by omega) (by omega)]
          exact ⟨g1, fun q => ⟨RepW_F (g2 q).2.1 er (k1 _ _ (by omega) (g2 q).2.1 (u.rep (by omega) (g2 q).2.1 hp (by omega) (g2 q).1)), WFh_F er (g2 q).2⟩⟩
    clear h h0 hh hs
    intro call hcall X hX; refine hX 1000 0 _ _ _ ?_
    repeat' (first | (intro hc) | (refine And.intro ?_ ?_) | (exact absurd nI_0 ‹cmpF 0 (nI 0) 0›) | (exact absurd ‹cmpT 0 (nI 1) 0› nI1_ne) | (exact absurd nI_0 ‹cmpT 1 (nI 0) 0›) | (exact absurd ‹cmpF 1 (nI 1) 0› nI1_ne) | (show wp _ _ _ _ _ _ _ _ _ _ _ _; conv => whnf) | (simp (disch := omega) only [nI_cl]) | (simp (disch := omega) only [nI_add, nI_mul, setN_now, setN_put, nI_cl, Nat.add_zero]) | (refine hcall _ _ _ _ ?_; first | (refine c_sSave ?_) | (refine c_worldCopy hW.1 hp (w := 8 + j) (w2 := 0) (by omega) (by omega) (by omega) hR (fun s1 u R => ?_)) | fail))
    all_goals first
      | exact Or.inr rfl
      | exact fin _ u R
      | (exfalso; exact bF hv (by assumption))
      | (simp (disch := omega) only [nI_cl]; exact fin _ u R)
      | (simp (disch := omega) only [nI_toI, nI_cl, nI_add, nI_mul, alen11, alen12, alen13, alen14, alen15, alen16, alen17, alen18, alen19]; omega)
  · have h0 := h0 hv
    clear h hh hs
    intro call hcall X hX; refine hX 1000 0 _ _ _ ?_
    repeat' (first | (intro hc) | (refine And.intro ?_ ?_) | (exact absurd nI_0 ‹cmpF 0 (nI 0) 0›) | (exact absurd ‹cmpT 0 (nI 1) 0› nI1_ne) | (exact absurd nI_0 ‹cmpT 1 (nI 0) 0›) | (exact absurd ‹cmpF 1 (nI 1) 0› nI1_ne) | (show wp _ _ _ _ _ _ _ _ _ _ _ _; conv => whnf) | (simp (disch := omega) only [nI_add, nI_mul, setN_now, setN_put, nI_cl, Nat.add_zero]) | (refine hcall _ _ _ _ ?_; first | (refine c_sSave ?_) | fail))
    all_goals first
      | exact h0
      | (exfalso; exact bT hv (by assumption))
set_option maxHeartbeats 4000000 in
set_option maxRecDepth 100000 in
theorem x_restore (hC : CL s F G n B) (h0 : ¬ iN v 2 → Q (some (.inl (-1))) s) (h1 : ∀ j, j < 2 → v = nI j → s.1 18 0 j = 0 → Q (some (.inl (-3))) s) (h : ∀ j, j < 2 → v = nI j → ¬ s.1 18 0 j = 0 → ∀ s', Fr s s' → CL s' (rowG G (5 + j)) (recG G F n) (recN n) B → Q (some (.inl (rowG G (5 + j) 0))) s') : wpM L xs codT retT (f + 6) m_X9_restore [.inr (9, 0), .inl v] s Q := by
  by_cases hv : iN v 2
  · obtain ⟨j, rfl, hj⟩ := iN_nn hv (by omega)
    by_cases hz : s.1 18 0 j = 0
    · have h1 := h1 j hj rfl hz
      clear h h0
      intro call hcall X hX; refine hX 1000 0 _ _ _ ?_
      repeat' (first | (intro hc) | (refine And.intro ?_ ?_) | (exact absurd nI_0 ‹cmpF 0 (nI 0) 0›) | (exact absurd ‹cmpT 0 (nI 1) 0› nI1_ne) | (exact absurd nI_0 ‹cmpT 1 (nI 0) 0›) | (exact absurd ‹cmpF 1 (nI 1) 0› nI1_ne) | (show wp _ _ _ _ _ _ _ _ _ _ _ _; conv => whnf) | (simp (disch := omega) only [nI_cl]) | (simp (disch := omega) only [nI_add, nI_mul, setN_now, setN_put, nI_cl, Nat.add_zero]) | (refine hcall _ _ _ _ ?_; first | (refine c_sSave ?_) | fail))
      all_goals first
        | exact h1
        | (exfalso; exact bF hv (by assumption))
        | (simp (disch := omega) only [nI_toI, nI_cl, nI_add, nI_mul, alen11, alen12, alen13, alen14, alen15, alen16, alen17, alen18, alen19]; omega)
        | (exfalso; clear h1 hX hcall; simp (disch := omega) only [cmpT, cmpF, nI_cl] at *; contradiction)
    · have h := h j hj rfl hz
      clear h0 h1
      have sw : ∀ {s1}, Fr s s1 → DR s1 F F G n B → RepW s1 (8 + j) (rowG G (5 + j)) ∧ WFh (rowG G (5 + j)) B := fun f1 d1 => (d1.2.2.2 j hj).2 (by rw [f1 18 0 j (by omega)]; exact hz)
      intro call hcall X hX; refine hX 1000 0 _ _ _ ?_
      repeat' (first | (intro hc) | (refine And.intro ?_ ?_) | (exact absurd nI_0 ‹cmpF 0 (nI 0) 0›) | (exact absurd ‹cmpT 0 (nI 1) 0› nI1_ne) | (exact absurd nI_0 ‹cmpT 1 (nI 0) 0›) | (exact absurd ‹cmpF 1 (nI 1) 0› nI1_ne) | (show wp _ _ _ _ _ _ _ _ _ _ _ _; conv => whnf) | (simp (disch := omega) only [nI_cl]) | (rw [R.h1]) | (simp (disch := omega) only [nI_add, nI_mul, setN_now, setN_put, nI_cl, Nat.add_zero]) | (refine hcall _ _ _ _ ?_; first | (refine c_sSave ?_) | (refine c_draft hC (fun s1 f1 d1 => ?_)) | (refine c_worldCopy (sw f1 d1).2.1 d1.1 (w := 0) (w2 := 8 + j) (by omega) (by omega) (by omega) (sw f1 d1).1 (fun s2 u R => ?_)) | (refine c_recorded (d1.upd (B' := B) u R (sw f1 d1).2 (by omega)) (fun hv => ?_) (fun hv s3 f3 c3 => ?_)) | fail))
      all_goals first
        | exact h _ (f1.trans ((u.fr (by omega)).trans f3)) c3
        | (exfalso; exact bF hv (by assumption))
        | (exfalso; have t0 := (sw f1 d1).2.1.h; rw [R.h1] at hv; omega)
        | (simp (disch := omega) only [nI_toI, nI_cl, nI_add, nI_mul, alen11, alen12, alen13, alen14, alen15, alen16, alen17, alen18, alen19]; omega)
        | (exfalso; clear h hX hcall sw; simp (disch := omega) only [cmpT, cmpF, nI_cl] at *; contradiction)
  · have h0 := h0 hv
    clear h h1
    intro call hcall X hX; refine hX 1000 0 _ _ _ ?_
    repeat' (first | (intro hc) | (refine And.intro ?_ ?_) | (exact absurd nI_0 ‹cmpF 0 (nI 0) 0›) | (exact absurd ‹cmpT 0 (nI 1) 0› nI1_ne) | (exact absurd nI_0 ‹cmpT 1 (nI 0) 0›) | (exact absurd ‹cmpF 1 (nI 1) 0› nI1_ne) | (show wp _ _ _ _ _ _ _ _ _ _ _ _; conv => whnf) | (simp (disch := omega) only [nI_add, nI_mul, setN_now, setN_put, nI_cl, Nat.add_zero]) | (refine hcall _ _ _ _ ?_; first | (refine c_sSave ?_) | fail))
    all_goals first
      | exact h0
      | (exfalso; exact bT hv (by assumption))
end CLS25
end
section
/-! THE CLASS: rehearsals -/
section CLS26
variable {L : Nat} {xs : Nat → Int32} {f i i2 k r p q c j n B B' b w w' w2 m sd : Nat} {x y v z a l lo v0 v1 name flow place which : Int32} {s s' s2 s3 t : St} {F F0 F1 G C F' U u : Fm} {Q : Option MV → St → Prop} {P : Nat → Nat} {o : Int32 × Fm}
set_option maxHeartbeats 4000000 in
set_option maxRecDepth 100000 in
theorem x_wouldReach (hC : CL s F G n B) (h : ∀ s', Fr s s' → CL s' F G n B → Q (some (.inl (reachA F v name flow x))) s') : wpM L xs codT retT (f + 6) m_X9_wouldReach [.inr (9, 0), .inl v, .inl name, .inl flow, .inl x] s Q := by
  have hC' := hC
  obtain ⟨hp, ⟨hR, hW⟩, -⟩ := hC'
  have hh := hW.1.h
  have h9 := hW.2
  have r2 := hW.1.r2
  have e3 : s.1 8 0 5 = nI (cR F) := hR.r1.trans hW.1.r1
  by_cases hv : iN v (cR F)
  · by_cases hx : iN x 100
    · have ea := add_hour (a := F 0) (x := x) (by omega) (by omega)
      have hw2 : WF (putF F 0 (F 0 + x)) B := WF_hour hW.1 (by omega)
      have er : reachA F v name flow x = (letterF (putF F 0 (F 0 + x)) v name flow).1 := by
        have eR : cR (putF F 0 (F 0 + x)) = cR F := by unfold cR; rw [putF_ne _ _ (by omega)]
        have q1 : reachA F v name flow x = if ¬ ((iN name 256 ∧ iN flow 100) ∧ iN x 100) then -2 else (sendF (putF F 0 (F 0 + x)) (nn v) name flow).1 := by unfold reachA; rw [if_neg (fun q => q hv)]
        have q2 : letterF (putF F 0 (F 0 + x)) v name flow = if ¬ (iN name 256 ∧ iN flow 100) then (-2, putF F 0 (F 0 + x)) else sendF (putF F 0 (F 0 + x)) (nn v) name flow := by unfold letterF; rw [eR, if_neg (fun q => q hv)]
        rw [q1, q2]
        by_cases hb : iN name 256 ∧ iN flow 100
        · rw [if_neg (fun q => q ⟨hb, hx⟩), if_neg (fun q => q hb)]
        · rw [if_pos (fun q => hb q.1), if_pos hb]
      rw [er] at h
      have fin : ∀ s1, Upd s s1 1 → RepW s1 1 F → ∀ s2, Upd (putV s1 8 1 6 (F 0 + x)) s2 1 → Q (some (.inl (letterF (putF F 0 (F 0 + x)) v name flow).1)) s2 := fun s1 u1 R1 s2 u2 => h s2 (((u1.put rfl).trans u2).fr (by omega)) (CL_upd hC ((u1.put rfl).trans u2))
      clear h er
      intro call hcall X hX; refine hX 1000 0 _ _ _ ?_
      repeat' (first | (intro hc) | (refine And.intro ?_ ?_) | (exact absurd nI_0 ‹cmpF 0 (nI 0) 0›) | (exact absurd ‹cmpT 0 (nI 1) 0› nI1_ne) | (exact absurd nI_0 ‹cmpT 1 (nI 0) 0›) | (exact absurd ‹cmpF 1 (nI 1) 0› nI1_ne) | (show wp _ _ _ _ _ _ _ _ _ _ _ _; conv => whnf) | (rw [R1.h1]) | (simp (disch := omega) only [nI_add, nI_mul, setN_now, setN_put, nI_cl, Nat.add_zero]) | (refine hcall _ _ _ _ ?_; first | (refine c_isRouter e3 r2 ?_) | (refine c_worldCopy hW.1 hp (w := 1) (w2 := 0) (by omega) (by omega) (by omega) hR (fun s1 u1 R1 => ?_)) | (refine c_sendLetter hw2 (w := 1) (by omega) (permOk_put (u1.2.2 hp)) (hour_ok hW.1 (u1.2.2 hp) (by omega) R1) (fun s2 u2 R2 => ?_)) | fail))
      all_goals first
        | exact fin _ u1 R1 _ u2
        | (exfalso; exact bF hv (by assumption))
        | (exfalso; clear fin hv hC hR hW; (try clear hX hcall); (try clear h); (try simp (disch := omega) only [cmpT, cmpF, bI_eq0, bI_ne0, Classical.not_not, nI_toI, nI_cl, nI_inj, nI_add, nI_mul, nI_subI, takeL, setL, Int32.toInt_zero, Nat.add_zero, Nat.zero_mul, Nat.zero_add, alen11, alen12, alen13, alen14, alen15, alen16, alen17, alen18, alen19] at *); omega)
    · have e : reachA F v name flow x = -2 := by unfold reachA; rw [if_neg (fun q => q hv), if_pos (fun q => hx q.2)]
      rw [e] at h
      have h := h s Fr.refl hC
      intro call hcall X hX; refine hX 1000 0 _ _ _ ?_
      repeat' (first | (intro hc) | (refine And.intro ?_ ?_) | (exact absurd nI_0 ‹cmpF 0 (nI 0) 0›) | (exact absurd ‹cmpT 0 (nI 1) 0› nI1_ne) | (exact absurd nI_0 ‹cmpT 1 (nI 0) 0›) | (exact absurd ‹cmpF 1 (nI 1) 0› nI1_ne) | (show wp _ _ _ _ _ _ _ _ _ _ _ _; conv => whnf) | (simp (disch := omega) only [nI_add, nI_mul, setN_now, setN_put, nI_cl, Nat.add_zero]) | (refine hcall _ _ _ _ ?_; first | (refine c_isRouter e3 r2 ?_) | fail))
      all_goals first
        | exact h
        | (exfalso; exact bF hv (by assumption))
        | (exfalso; clear h hv hC hR hW; (try clear hX hcall); (try clear h); (try simp (disch := omega) only [cmpT, cmpF, bI_eq0, bI_ne0, Classical.not_not, nI_toI, nI_cl, nI_inj, nI_add, nI_mul, nI_subI, takeL, setL, Int32.toInt_zero, Nat.add_zero, Nat.zero_mul, Nat.zero_add, alen11, alen12, alen13, alen14, alen15, alen16, alen17, alen18, alen19] at *); omega)
  · have e : reachA F v name flow x = -1 := by unfold reachA; rw [if_pos hv]
    rw [e] at h
    have h := h s Fr.refl hC
    intro call hcall X hX; refine hX 1000 0 _ _ _ ?_
    repeat' (first | (intro hc) | (refine And.intro ?_ ?_) | (exact absurd nI_0 ‹cmpF 0 (nI 0) 0›) | (exact absurd ‹cmpT 0 (nI 1) 0› nI1_ne) | (exact absurd nI_0 ‹cmpT 1 (nI 0) 0›) | (exact absurd ‹cmpF 1 (nI 1) 0› nI1_ne) | (show wp _ _ _ _ _ _ _ _ _ _ _ _; conv => whnf) | (simp (disch := omega) only [nI_add, nI_mul, setN_now, setN_put, nI_cl, Nat.add_zero]) | (refine hcall _ _ _ _ ?_; first | (refine c_isRouter e3 r2 ?_) | fail))
    all_goals first
      | exact h
      | (exfalso; exact bT hv (by assumption))
set_option maxHeartbeats 4000000 in
set_option maxRecDepth 100000 in
theorem x_wouldAsk (hC : CL s F G n B) (h : ∀ s', Fr s s' → CL s' F G n B → Q (some (.inl (askA F v name flow))) s') : wpM L xs codT retT (f + 6) m_X9_wouldAsk [.inr (9, 0), .inl v, .inl name, .inl flow] s Q := by
  have hC' := hC
  obtain ⟨hp, ⟨hR, hW⟩, -⟩ := hC'
  have r2 := hW.1.r2
  have e3 : s.1 8 0 5 = nI (cR F) := hR.r1.trans hW.1.r1
  by_cases hv : iN v (cR F)
  · obtain ⟨r, rfl, hr⟩ := iN_nn hv (by omega)
    have en : nn (nI r) = r := nI_cl (by omega)
    have fin : ∀ s1, Upd s s1 1 → ∀ s2, Upd s1 s2 1 → RepW s2 1 (letterF F (nI r) name flow).2 → (¬ (letterF F (nI r) name flow).1.toInt < 0 → Q (some (.inl (s2.1 4 (4 * 1 + r) 2 - s2.1 4 (4 * 0 + r) 2))) s2) ∧ ((letterF F (nI r) name flow).1.toInt < 0 → Q (some (.inl (letterF F (nI r) name flow).1)) s2) := by
      intro s1 u1 s2 u2 R2
      have u := u1.trans u2
      have h := h s2 (u.fr (by omega)) (CL_upd hC u)
      by_cases hb : iN name 256 ∧ iN flow 100
      · have el : letterF F (nI r) name flow = sendF F r name flow := by unfold letterF; rw [if_neg (fun q => q hv), if_neg (fun q => q hb), en]
        have eq : askA F (nI r) name flow = (sendF F r name flow).2 (165 + 6 * r + 1) - F (165 + 6 * r + 1) := by unfold askA; rw [if_neg (fun q => q hv), if_neg (fun q => q hb), en]
        obtain ⟨a1, a2, a3⟩ := send_ok (flow := flow) hW.1 hr hb.1 hb.2.1
        rw [el] at R2 ⊢
        refine ⟨fun _ => ?_, fun q => by omega⟩
        have q1 := (R2.router (r := r) (by rw [cR_of a2]; exact hr)).2.1
        have q0 := ((u.rep (w' := 0) (by omega) hW.1 hp (by omega) hR).router hr).2.1
        rw [q1, q0, ← eq]
        exact h
      · have el : letterF F (nI r) name flow = (-2, F) := by unfold letterF; rw [if_neg (fun q => q hv), if_pos hb]
        have eq : askA F (nI r) name flow = -2 := by unfold askA; rw [if_neg (fun q => q hv), if_pos hb]
        rw [el]
        rw [eq] at h
        exact ⟨fun q => absurd (by decide : (-2 : Int32).toInt < 0) q, fun _ => h⟩
    clear h
    intro call hcall X hX; refine hX 1000 0 _ _ _ ?_
    repeat' (first | (intro hc) | (refine And.intro ?_ ?_) | (exact absurd nI_0 ‹cmpF 0 (nI 0) 0›) | (exact absurd ‹cmpT 0 (nI 1) 0› nI1_ne) | (exact absurd nI_0 ‹cmpT 1 (nI 0) 0›) | (exact absurd ‹cmpF 1 (nI 1) 0› nI1_ne) | (show wp _ _ _ _ _ _ _ _ _ _ _ _; conv => whnf) | (simp (disch := omega) only [nI_cl]) | (simp (disch := omega) only [nI_add, nI_mul, setN_now, setN_put, nI_cl, Nat.add_zero]) | (refine hcall _ _ _ _ ?_; first | (refine c_isRouter e3 r2 ?_) | (refine c_worldCopy hW.1 hp (w := 1) (w2 := 0) (by omega) (by omega) (by omega) hR (fun s1 u1 R1 => ?_)) | (refine c_sendLetter hW.1 (w := 1) (by omega) (u1.2.2 hp) R1 (fun s2 u2 R2 => ?_)) | fail))
    all_goals first
      | exact (fin _ u1 _ u2 R2).2 (by assumption)
      | exact (fin _ u1 _ u2 R2).1 (fun q0 => by have q1 := (by assumption : cmpT 3 (letterF F (nI r) name flow).1 0); have q2 : (0 : Int32).toInt ≤ (letterF F (nI r) name flow).1.toInt := q1; have q3 : (0 : Int32).toInt = 0 := rfl; omega)
      | (exfalso; exact bF hv (by assumption))
      | (simp (disch := omega) only [nI_toI, nI_cl, nI_add, nI_mul, alen11, alen12, alen13, alen14, alen15, alen16, alen17, alen18, alen19]; omega)
  · have e : askA F v name flow = -1 := by unfold askA; rw [if_pos hv]
    rw [e] at h
    have h := h s Fr.refl hC
    intro call hcall X hX; refine hX 1000 0 _ _ _ ?_
    repeat' (first | (intro hc) | (refine And.intro ?_ ?_) | (exact absurd nI_0 ‹cmpF 0 (nI 0) 0›) | (exact absurd ‹cmpT 0 (nI 1) 0› nI1_ne) | (exact absurd nI_0 ‹cmpT 1 (nI 0) 0›) | (exact absurd ‹cmpF 1 (nI 1) 0› nI1_ne) | (show wp _ _ _ _ _ _ _ _ _ _ _ _; conv => whnf) | (simp (disch := omega) only [nI_add, nI_mul, setN_now, setN_put, nI_cl, Nat.add_zero]) | (refine hcall _ _ _ _ ?_; first | (refine c_isRouter e3 r2 ?_) | fail))
    all_goals first
      | exact h
      | (exfalso; exact bT hv (by assumption))
end CLS26
end
section
theorem i_vc : Claimed_1_1 ∧ Claimed_1_2 := sorry
end
