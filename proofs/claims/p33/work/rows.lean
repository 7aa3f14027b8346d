section
-- ===== PART A: goes FIRST, ahead of the names: the tables' words, and 'selects' of the private methods out of them =====
/-- a private method of a class that the tables say can be made, by its rows of tables_1 -/
def lw_okq (q : MethodName × Nat) : Prop := (q.1.cls ≠ "java/lang/invoke/MethodHandle" ∧ q.1.cls ≠ "java/lang/invoke/VarHandle") ∧ Cond.instantiable q.1.cls q.2 ∈ tables_1 ∧ Cond.privateMethod q.1 ∈ tables_1 ∧ Cond.instanceMethod q.1 ∈ tables_1
theorem lw_p0 : lw_okq (⟨"NameMaps$History", "row", "(I)I"⟩, 3) := ⟨⟨by decide +kernel, by decide +kernel⟩, List.mem_of_getElem? (i := 211) (by decide +kernel), List.mem_of_getElem? (i := 286) (by decide +kernel), List.mem_of_getElem? (i := 287) (by decide +kernel)⟩
theorem lw_p1 : lw_okq (⟨"NameMaps", "recorded", "(I)I"⟩, 6) := ⟨⟨by decide +kernel, by decide +kernel⟩, List.mem_of_getElem? (i := 14) (by decide +kernel), List.mem_of_getElem? (i := 332) (by decide +kernel), List.mem_of_getElem? (i := 333) (by decide +kernel)⟩
theorem lw_p2 : lw_okq (⟨"NameMaps$World", "sitesUp", "()I"⟩, 8) := ⟨⟨by decide +kernel, by decide +kernel⟩, List.mem_of_getElem? (i := 22) (by decide +kernel), List.mem_of_getElem? (i := 348) (by decide +kernel), List.mem_of_getElem? (i := 349) (by decide +kernel)⟩
theorem lw_p3 : lw_okq (⟨"NameMaps$World", "sumOverRouters", "(I)I"⟩, 8) := ⟨⟨by decide +kernel, by decide +kernel⟩, List.mem_of_getElem? (i := 22) (by decide +kernel), List.mem_of_getElem? (i := 364) (by decide +kernel), List.mem_of_getElem? (i := 365) (by decide +kernel)⟩
theorem lw_p4 : lw_okq (⟨"NameMaps$World", "namesWithAnswer", "()I"⟩, 8) := ⟨⟨by decide +kernel, by decide +kernel⟩, List.mem_of_getElem? (i := 22) (by decide +kernel), List.mem_of_getElem? (i := 372) (by decide +kernel), List.mem_of_getElem? (i := 373) (by decide +kernel)⟩
theorem lw_p5 : lw_okq (⟨"NameMaps$World", "childrenOf", "(I)I"⟩, 8) := ⟨⟨by decide +kernel, by decide +kernel⟩, List.mem_of_getElem? (i := 22) (by decide +kernel), List.mem_of_getElem? (i := 419) (by decide +kernel), List.mem_of_getElem? (i := 420) (by decide +kernel)⟩
theorem lw_p6 : lw_okq (⟨"NameMaps$World", "sitesAtHome", "(I)I"⟩, 8) := ⟨⟨by decide +kernel, by decide +kernel⟩, List.mem_of_getElem? (i := 22) (by decide +kernel), List.mem_of_getElem? (i := 427) (by decide +kernel), List.mem_of_getElem? (i := 428) (by decide +kernel)⟩
theorem lw_p7 : lw_okq (⟨"NameMaps$World", "mapsOf", "(I)I"⟩, 8) := ⟨⟨by decide +kernel, by decide +kernel⟩, List.mem_of_getElem? (i := 22) (by decide +kernel), List.mem_of_getElem? (i := 448) (by decide +kernel), List.mem_of_getElem? (i := 449) (by decide +kernel)⟩
theorem lw_p8 : lw_okq (⟨"NameMaps$World", "ask", "(LNameMaps$Router;I)Z"⟩, 8) := ⟨⟨by decide +kernel, by decide +kernel⟩, List.mem_of_getElem? (i := 22) (by decide +kernel), List.mem_of_getElem? (i := 644) (by decide +kernel), List.mem_of_getElem? (i := 645) (by decide +kernel)⟩
theorem lw_p9 : lw_okq (⟨"NameMaps$World", "goByProxy", "(LNameMaps$Router;I)I"⟩, 8) := ⟨⟨by decide +kernel, by decide +kernel⟩, List.mem_of_getElem? (i := 22) (by decide +kernel), List.mem_of_getElem? (i := 659) (by decide +kernel), List.mem_of_getElem? (i := 660) (by decide +kernel)⟩
theorem lw_p10 : lw_okq (⟨"NameMaps$World", "placeByMap", "(LNameMaps$CacheMap;I)I"⟩, 8) := ⟨⟨by decide +kernel, by decide +kernel⟩, List.mem_of_getElem? (i := 22) (by decide +kernel), List.mem_of_getElem? (i := 663) (by decide +kernel), List.mem_of_getElem? (i := 664) (by decide +kernel)⟩
theorem lw_p11 : lw_okq (⟨"NameMaps$Slots", "lowestPriority", "()I"⟩, 1) := ⟨⟨by decide +kernel, by decide +kernel⟩, List.mem_of_getElem? (i := 75) (by decide +kernel), List.mem_of_getElem? (i := 671) (by decide +kernel), List.mem_of_getElem? (i := 672) (by decide +kernel)⟩
theorem lw_p12 : lw_okq (⟨"NameMaps$Slots", "weightThatCounts", "(II)I"⟩, 1) := ⟨⟨by decide +kernel, by decide +kernel⟩, List.mem_of_getElem? (i := 75) (by decide +kernel), List.mem_of_getElem? (i := 678) (by decide +kernel), List.mem_of_getElem? (i := 679) (by decide +kernel)⟩
theorem lw_p13 : lw_okq (⟨"NameMaps$World", "sitesEndingAheadOf", "(I)I"⟩, 8) := ⟨⟨by decide +kernel, by decide +kernel⟩, List.mem_of_getElem? (i := 22) (by decide +kernel), List.mem_of_getElem? (i := 741) (by decide +kernel), List.mem_of_getElem? (i := 742) (by decide +kernel)⟩
def lw_privs_1 : List (MethodName × Nat) := [(⟨"NameMaps$History", "row", "(I)I"⟩, 3), (⟨"NameMaps", "recorded", "(I)I"⟩, 6), (⟨"NameMaps$World", "sitesUp", "()I"⟩, 8), (⟨"NameMaps$World", "sumOverRouters", "(I)I"⟩, 8), (⟨"NameMaps$World", "namesWithAnswer", "()I"⟩, 8), (⟨"NameMaps$World", "childrenOf", "(I)I"⟩, 8), (⟨"NameMaps$World", "sitesAtHome", "(I)I"⟩, 8), (⟨"NameMaps$World", "mapsOf", "(I)I"⟩, 8), (⟨"NameMaps$World", "ask", "(LNameMaps$Router;I)Z"⟩, 8), (⟨"NameMaps$World", "goByProxy", "(LNameMaps$Router;I)I"⟩, 8), (⟨"NameMaps$World", "placeByMap", "(LNameMaps$CacheMap;I)I"⟩, 8), (⟨"NameMaps$Slots", "lowestPriority", "()I"⟩, 1), (⟨"NameMaps$Slots", "weightThatCounts", "(II)I"⟩, 1), (⟨"NameMaps$World", "sitesEndingAheadOf", "(I)I"⟩, 8)]
theorem lw_r1 : ∀ q ∈ lw_privs_1, lw_okq q := List.forall_mem_cons.mpr ⟨lw_p0, List.forall_mem_cons.mpr ⟨lw_p1, List.forall_mem_cons.mpr ⟨lw_p2, List.forall_mem_cons.mpr ⟨lw_p3, List.forall_mem_cons.mpr ⟨lw_p4, List.forall_mem_cons.mpr ⟨lw_p5, List.forall_mem_cons.mpr ⟨lw_p6, List.forall_mem_cons.mpr ⟨lw_p7, List.forall_mem_cons.mpr ⟨lw_p8, List.forall_mem_cons.mpr ⟨lw_p9, List.forall_mem_cons.mpr ⟨lw_p10, List.forall_mem_cons.mpr ⟨lw_p11, List.forall_mem_cons.mpr ⟨lw_p12, List.forall_mem_cons.mpr ⟨lw_p13, fun _ h => absurd h List.not_mem_nil⟩⟩⟩⟩⟩⟩⟩⟩⟩⟩⟩⟩⟩⟩
def lw_privs : List (MethodName × Nat) := lw_privs_1
def lw_tbl : List Cond := k2_sels lw_privs ++ tables_1
theorem lw_privs_ok : ∀ q ∈ lw_privs, lw_okq q := lw_r1
def RX0 : String := "NameMaps$ActText"
def TX0 : u_T := fun k => match k with
  | 0 => ("NameMaps$ActText", "bytes", "[B", true)
  | 1 => ("NameMaps$ActText", "length", "I", false)
  | 2 => ("NameMaps$ActText", "position", "I", false)
  | 3 => ("NameMaps$ActText", "fault", "I", false)
  | 4 => ("NameMaps$ActText", "kind", "I", false)
  | 5 => ("NameMaps$ActText", "number", "I", false)
  | 6 => ("NameMaps$ActText", "name", "I", false)
  | _ => ("NameMaps$ActText", "flow", "I", false)
def tyX0 : Nat → FieldType := fun k => match k with
  | 0 => .array .byte
  | 1 => .int
  | 2 => .int
  | 3 => .int
  | 4 => .int
  | 5 => .int
  | 6 => .int
  | _ => .int
theorem nmX0 : ∀ a, a < 8 → ∀ b, b < 8 → a ≠ b → (TX0 a).2.1 ≠ (TX0 b).2.1 := by decide +kernel
theorem tyX0_ok : ∀ k, k < 8 → parseFieldDescriptor (TX0 k).2.2.1 = some (tyX0 k) := by decide +kernel
abbrev cX0_init : ByteArray := prog_2_method_1_code
def yX0_init : MethodName := ⟨RX0, "<init>", "()V"⟩
def RX1 : String := "NameMaps$Block"
def TX1 : u_T := fun k => match k with
  | 0 => ("NameMaps$Block", "first", "I", false)
  | _ => ("NameMaps$Block", "size", "I", false)
def tyX1 : Nat → FieldType := fun k => match k with
  | 0 => .int
  | _ => .int
theorem nmX1 : ∀ a, a < 2 → ∀ b, b < 2 → a ≠ b → (TX1 a).2.1 ≠ (TX1 b).2.1 := by decide +kernel
theorem tyX1_ok : ∀ k, k < 2 → parseFieldDescriptor (TX1 k).2.2.1 = some (tyX1 k) := by decide +kernel
abbrev cX1_init : ByteArray := prog_3_method_1_code
def yX1_init : MethodName := ⟨RX1, "<init>", "()V"⟩
abbrev cX1_become : ByteArray := prog_3_method_2_code
def yX1_become : MethodName := ⟨RX1, "become", "(II)V"⟩
abbrev cX1_copyFrom : ByteArray := prog_3_method_3_code
def yX1_copyFrom : MethodName := ⟨RX1, "copyFrom", "(LNameMaps$Block;)V"⟩
abbrev cX1_isAt : ByteArray := prog_3_method_4_code
def yX1_isAt : MethodName := ⟨RX1, "isAt", "(II)Z"⟩
abbrev cX1_has : ByteArray := prog_3_method_5_code
def yX1_has : MethodName := ⟨RX1, "has", "(I)Z"⟩
abbrev cX1_holds : ByteArray := prog_3_method_6_code
def yX1_holds : MethodName := ⟨RX1, "holds", "(II)Z"⟩
abbrev cX1_meets : ByteArray := prog_3_method_7_code
def yX1_meets : MethodName := ⟨RX1, "meets", "(II)Z"⟩
def RX2 : String := "NameMaps$CacheMap"
def TX2 : u_T := fun k => match k with
  | 0 => ("NameMaps$CacheMap", "block", "LNameMaps$Block;", true)
  | 1 => ("NameMaps$CacheMap", "slots", "LNameMaps$Slots;", true)
  | 2 => ("NameMaps$CacheMap", "site", "I", false)
  | 3 => ("NameMaps$CacheMap", "version", "I", false)
  | 4 => ("NameMaps$CacheMap", "end", "I", false)
  | _ => ("NameMaps$CacheMap", "isMarked", "Z", false)
def tyX2 : Nat → FieldType := fun k => match k with
  | 0 => .object "NameMaps$Block"
  | 1 => .object "NameMaps$Slots"
  | 2 => .int
  | 3 => .int
  | 4 => .int
  | _ => .boolean
theorem nmX2 : ∀ a, a < 6 → ∀ b, b < 6 → a ≠ b → (TX2 a).2.1 ≠ (TX2 b).2.1 := by decide +kernel
theorem tyX2_ok : ∀ k, k < 6 → parseFieldDescriptor (TX2 k).2.2.1 = some (tyX2 k) := by decide +kernel
abbrev cX2_init : ByteArray := prog_4_method_1_code
def yX2_init : MethodName := ⟨RX2, "<init>", "()V"⟩
abbrev cX2_become : ByteArray := prog_4_method_2_code
def yX2_become : MethodName := ⟨RX2, "become", "(ILNameMaps$Site;I)V"⟩
abbrev cX2_copyFrom : ByteArray := prog_4_method_3_code
def yX2_copyFrom : MethodName := ⟨RX2, "copyFrom", "(LNameMaps$CacheMap;)V"⟩
abbrev cX2_isHolding : ByteArray := prog_4_method_4_code
def yX2_isHolding : MethodName := ⟨RX2, "isHolding", "(I)Z"⟩
abbrev cX2_property : ByteArray := prog_4_method_5_code
def yX2_property : MethodName := ⟨RX2, "property", "(II)I"⟩
def RX3 : String := "NameMaps$History"
def TX3 : u_T := fun k => match k with
  | 0 => ("NameMaps$History", "states", "[LNameMaps$World;", true)
  | 1 => ("NameMaps$History", "oldest", "I", false)
  | _ => ("NameMaps$History", "count", "I", false)
def tyX3 : Nat → FieldType := fun k => match k with
  | 0 => .array (.object "NameMaps$World")
  | 1 => .int
  | _ => .int
theorem nmX3 : ∀ a, a < 3 → ∀ b, b < 3 → a ≠ b → (TX3 a).2.1 ≠ (TX3 b).2.1 := by decide +kernel
theorem tyX3_ok : ∀ k, k < 3 → parseFieldDescriptor (TX3 k).2.2.1 = some (tyX3 k) := by decide +kernel
abbrev cX3_init : ByteArray := prog_5_method_1_code
def yX3_init : MethodName := ⟨RX3, "<init>", "()V"⟩
abbrev cX3_row : ByteArray := prog_5_method_2_code
def yX3_row : MethodName := ⟨RX3, "row", "(I)I"⟩
abbrev cX3_draft : ByteArray := prog_5_method_3_code
def yX3_draft : MethodName := ⟨RX3, "draft", "(LNameMaps$World;)V"⟩
abbrev cX3_keepDraft : ByteArray := prog_5_method_4_code
def yX3_keepDraft : MethodName := ⟨RX3, "keepDraft", "()V"⟩
abbrev cX3_takeLatest : ByteArray := prog_5_method_5_code
def yX3_takeLatest : MethodName := ⟨RX3, "takeLatest", "(LNameMaps$World;)V"⟩
def RX4 : String := "NameMaps$Router"
def TX4 : u_T := fun k => match k with
  | 0 => ("NameMaps$Router", "maps", "[LNameMaps$CacheMap;", true)
  | 1 => ("NameMaps$Router", "mapCount", "I", false)
  | 2 => ("NameMaps$Router", "asks", "I", false)
  | 3 => ("NameMaps$Router", "hops", "I", false)
  | 4 => ("NameMaps$Router", "letters", "I", false)
  | 5 => ("NameMaps$Router", "proxied", "I", false)
  | _ => ("NameMaps$Router", "oldMaps", "I", false)
def tyX4 : Nat → FieldType := fun k => match k with
  | 0 => .array (.object "NameMaps$CacheMap")
  | 1 => .int
  | 2 => .int
  | 3 => .int
  | 4 => .int
  | 5 => .int
  | _ => .int
theorem nmX4 : ∀ a, a < 7 → ∀ b, b < 7 → a ≠ b → (TX4 a).2.1 ≠ (TX4 b).2.1 := by decide +kernel
theorem tyX4_ok : ∀ k, k < 7 → parseFieldDescriptor (TX4 k).2.2.1 = some (tyX4 k) := by decide +kernel
abbrev cX4_init : ByteArray := prog_6_method_1_code
def yX4_init : MethodName := ⟨RX4, "<init>", "()V"⟩
abbrev cX4_start : ByteArray := prog_6_method_2_code
def yX4_start : MethodName := ⟨RX4, "start", "()V"⟩
abbrev cX4_copyFrom : ByteArray := prog_6_method_3_code
def yX4_copyFrom : MethodName := ⟨RX4, "copyFrom", "(LNameMaps$Router;)V"⟩
abbrev cX4_isPlace : ByteArray := prog_6_method_4_code
def yX4_isPlace : MethodName := ⟨RX4, "isPlace", "(I)Z"⟩
abbrev cX4_property : ByteArray := prog_6_method_5_code
def yX4_property : MethodName := ⟨RX4, "property", "(I)I"⟩
abbrev cX4_moveToFront : ByteArray := prog_6_method_6_code
def yX4_moveToFront : MethodName := ⟨RX4, "moveToFront", "(I)V"⟩
abbrev cX4_drop : ByteArray := prog_6_method_7_code
def yX4_drop : MethodName := ⟨RX4, "drop", "(I)V"⟩
abbrev cX4_dropEnded : ByteArray := prog_6_method_8_code
def yX4_dropEnded : MethodName := ⟨RX4, "dropEnded", "(I)V"⟩
abbrev cX4_placeOfSite : ByteArray := prog_6_method_9_code
def yX4_placeOfSite : MethodName := ⟨RX4, "placeOfSite", "(I)I"⟩
abbrev cX4_placeOfSmallest : ByteArray := prog_6_method_10_code
def yX4_placeOfSmallest : MethodName := ⟨RX4, "placeOfSmallest", "(I)I"⟩
abbrev cX4_addMap : ByteArray := prog_6_method_11_code
def yX4_addMap : MethodName := ⟨RX4, "addMap", "(ILNameMaps$Site;I)V"⟩
def RX5 : String := "NameMaps$Server"
def TX5 : u_T := fun k => match k with
  | 0 => ("NameMaps$Server", "block", "LNameMaps$Block;", true)
  | _ => ("NameMaps$Server", "parent", "I", false)
def tyX5 : Nat → FieldType := fun k => match k with
  | 0 => .object "NameMaps$Block"
  | _ => .int
theorem nmX5 : ∀ a, a < 2 → ∀ b, b < 2 → a ≠ b → (TX5 a).2.1 ≠ (TX5 b).2.1 := by decide +kernel
theorem tyX5_ok : ∀ k, k < 2 → parseFieldDescriptor (TX5 k).2.2.1 = some (tyX5 k) := by decide +kernel
abbrev cX5_init : ByteArray := prog_7_method_1_code
def yX5_init : MethodName := ⟨RX5, "<init>", "()V"⟩
abbrev cX5_copyFrom : ByteArray := prog_7_method_2_code
def yX5_copyFrom : MethodName := ⟨RX5, "copyFrom", "(LNameMaps$Server;)V"⟩
def RX6 : String := "NameMaps$Site"
def TX6 : u_T := fun k => match k with
  | 0 => ("NameMaps$Site", "block", "LNameMaps$Block;", true)
  | 1 => ("NameMaps$Site", "slots", "LNameMaps$Slots;", true)
  | 2 => ("NameMaps$Site", "life", "I", false)
  | 3 => ("NameMaps$Site", "version", "I", false)
  | _ => ("NameMaps$Site", "end", "I", false)
def tyX6 : Nat → FieldType := fun k => match k with
  | 0 => .object "NameMaps$Block"
  | 1 => .object "NameMaps$Slots"
  | 2 => .int
  | 3 => .int
  | _ => .int
theorem nmX6 : ∀ a, a < 5 → ∀ b, b < 5 → a ≠ b → (TX6 a).2.1 ≠ (TX6 b).2.1 := by decide +kernel
theorem tyX6_ok : ∀ k, k < 5 → parseFieldDescriptor (TX6 k).2.2.1 = some (tyX6 k) := by decide +kernel
abbrev cX6_init : ByteArray := prog_8_method_1_code
def yX6_init : MethodName := ⟨RX6, "<init>", "()V"⟩
abbrev cX6_start : ByteArray := prog_8_method_2_code
def yX6_start : MethodName := ⟨RX6, "start", "(III)V"⟩
abbrev cX6_copyFrom : ByteArray := prog_8_method_3_code
def yX6_copyFrom : MethodName := ⟨RX6, "copyFrom", "(LNameMaps$Site;)V"⟩
abbrev cX6_isRegistered : ByteArray := prog_8_method_4_code
def yX6_isRegistered : MethodName := ⟨RX6, "isRegistered", "(I)Z"⟩
abbrev cX6_isUp : ByteArray := prog_8_method_5_code
def yX6_isUp : MethodName := ⟨RX6, "isUp", "(I)Z"⟩
def RX7 : String := "NameMaps$Slots"
def TX7 : u_T := fun k => match k with
  | _ => ("NameMaps$Slots", "cells", "[I", true)
def tyX7 : Nat → FieldType := fun k => match k with
  | _ => .array .int
theorem nmX7 : ∀ a, a < 1 → ∀ b, b < 1 → a ≠ b → (TX7 a).2.1 ≠ (TX7 b).2.1 := by decide +kernel
theorem tyX7_ok : ∀ k, k < 1 → parseFieldDescriptor (TX7 k).2.2.1 = some (tyX7 k) := by decide +kernel
abbrev cX7_init : ByteArray := prog_9_method_1_code
def yX7_init : MethodName := ⟨RX7, "<init>", "()V"⟩
abbrev cX7_copyFrom : ByteArray := prog_9_method_2_code
def yX7_copyFrom : MethodName := ⟨RX7, "copyFrom", "(LNameMaps$Slots;)V"⟩
abbrev cX7_fill : ByteArray := prog_9_method_3_code
def yX7_fill : MethodName := ⟨RX7, "fill", "(IIII)V"⟩
abbrev cX7_propertyOf : ByteArray := prog_9_method_4_code
def yX7_propertyOf : MethodName := ⟨RX7, "propertyOf", "(II)I"⟩
abbrev cX7_isEmpty : ByteArray := prog_9_method_5_code
def yX7_isEmpty : MethodName := ⟨RX7, "isEmpty", "(I)Z"⟩
abbrev cX7_areEmpty : ByteArray := prog_9_method_6_code
def yX7_areEmpty : MethodName := ⟨RX7, "areEmpty", "()Z"⟩
abbrev cX7_have : ByteArray := prog_9_method_7_code
def yX7_have : MethodName := ⟨RX7, "have", "(I)Z"⟩
abbrev cX7_lowestPriority : ByteArray := prog_9_method_8_code
def yX7_lowestPriority : MethodName := ⟨RX7, "lowestPriority", "()I"⟩
abbrev cX7_weightThatCounts : ByteArray := prog_9_method_9_code
def yX7_weightThatCounts : MethodName := ⟨RX7, "weightThatCounts", "(II)I"⟩
abbrev cX7_placeFor : ByteArray := prog_9_method_10_code
def yX7_placeFor : MethodName := ⟨RX7, "placeFor", "(I)I"⟩
def RX8 : String := "NameMaps$World"
def TX8 : u_T := fun k => match k with
  | 0 => ("NameMaps$World", "servers", "[LNameMaps$Server;", true)
  | 1 => ("NameMaps$World", "sites", "[LNameMaps$Site;", true)
  | 2 => ("NameMaps$World", "routers", "[LNameMaps$Router;", true)
  | 3 => ("NameMaps$World", "serverCount", "I", false)
  | 4 => ("NameMaps$World", "siteCount", "I", false)
  | 5 => ("NameMaps$World", "routerCount", "I", false)
  | 6 => ("NameMaps$World", "hour", "I", false)
  | _ => ("NameMaps$World", "mapLife", "I", false)
def tyX8 : Nat → FieldType := fun k => match k with
  | 0 => .array (.object "NameMaps$Server")
  | 1 => .array (.object "NameMaps$Site")
  | 2 => .array (.object "NameMaps$Router")
  | 3 => .int
  | 4 => .int
  | 5 => .int
  | 6 => .int
  | _ => .int
theorem nmX8 : ∀ a, a < 8 → ∀ b, b < 8 → a ≠ b → (TX8 a).2.1 ≠ (TX8 b).2.1 := by decide +kernel
theorem tyX8_ok : ∀ k, k < 8 → parseFieldDescriptor (TX8 k).2.2.1 = some (tyX8 k) := by decide +kernel
abbrev cX8_init : ByteArray := prog_10_method_1_code
def yX8_init : MethodName := ⟨RX8, "<init>", "()V"⟩
abbrev cX8_copyFrom : ByteArray := prog_10_method_2_code
def yX8_copyFrom : MethodName := ⟨RX8, "copyFrom", "(LNameMaps$World;)V"⟩
abbrev cX8_isServer : ByteArray := prog_10_method_3_code
def yX8_isServer : MethodName := ⟨RX8, "isServer", "(I)Z"⟩
abbrev cX8_isSite : ByteArray := prog_10_method_4_code
def yX8_isSite : MethodName := ⟨RX8, "isSite", "(I)Z"⟩
abbrev cX8_isRouter : ByteArray := prog_10_method_5_code
def yX8_isRouter : MethodName := ⟨RX8, "isRouter", "(I)Z"⟩
abbrev cX8_newServer : ByteArray := prog_10_method_6_code
def yX8_newServer : MethodName := ⟨RX8, "newServer", "(III)I"⟩
abbrev cX8_newSite : ByteArray := prog_10_method_7_code
def yX8_newSite : MethodName := ⟨RX8, "newSite", "(III)I"⟩
abbrev cX8_newRouter : ByteArray := prog_10_method_8_code
def yX8_newRouter : MethodName := ⟨RX8, "newRouter", "()I"⟩
abbrev cX8_fillSlot : ByteArray := prog_10_method_9_code
def yX8_fillSlot : MethodName := ⟨RX8, "fillSlot", "(IIIII)I"⟩
abbrev cX8_vacateSlot : ByteArray := prog_10_method_10_code
def yX8_vacateSlot : MethodName := ⟨RX8, "vacateSlot", "(II)I"⟩
abbrev cX8_startRegistration : ByteArray := prog_10_method_11_code
def yX8_startRegistration : MethodName := ⟨RX8, "startRegistration", "(I)I"⟩
abbrev cX8_endRegistration : ByteArray := prog_10_method_12_code
def yX8_endRegistration : MethodName := ⟨RX8, "endRegistration", "(I)I"⟩
abbrev cX8_changeMapLife : ByteArray := prog_10_method_13_code
def yX8_changeMapLife : MethodName := ⟨RX8, "changeMapLife", "(I)I"⟩
abbrev cX8_letPass : ByteArray := prog_10_method_14_code
def yX8_letPass : MethodName := ⟨RX8, "letPass", "(I)I"⟩
abbrev cX8_emptyCache : ByteArray := prog_10_method_15_code
def yX8_emptyCache : MethodName := ⟨RX8, "emptyCache", "(I)I"⟩
abbrev cX8_sendLetter : ByteArray := prog_10_method_16_code
def yX8_sendLetter : MethodName := ⟨RX8, "sendLetter", "(III)I"⟩
abbrev cX8_placeByMap : ByteArray := prog_10_method_17_code
def yX8_placeByMap : MethodName := ⟨RX8, "placeByMap", "(LNameMaps$CacheMap;I)I"⟩
abbrev cX8_ask : ByteArray := prog_10_method_18_code
def yX8_ask : MethodName := ⟨RX8, "ask", "(LNameMaps$Router;I)Z"⟩
abbrev cX8_goByProxy : ByteArray := prog_10_method_19_code
def yX8_goByProxy : MethodName := ⟨RX8, "goByProxy", "(LNameMaps$Router;I)I"⟩
abbrev cX8_homeOf : ByteArray := prog_10_method_20_code
def yX8_homeOf : MethodName := ⟨RX8, "homeOf", "(II)I"⟩
abbrev cX8_homeOfSite : ByteArray := prog_10_method_21_code
def yX8_homeOfSite : MethodName := ⟨RX8, "homeOfSite", "(I)I"⟩
abbrev cX8_hopsTo : ByteArray := prog_10_method_22_code
def yX8_hopsTo : MethodName := ⟨RX8, "hopsTo", "(I)I"⟩
abbrev cX8_answerFor : ByteArray := prog_10_method_23_code
def yX8_answerFor : MethodName := ⟨RX8, "answerFor", "(I)I"⟩
abbrev cX8_siteEndingAt : ByteArray := prog_10_method_24_code
def yX8_siteEndingAt : MethodName := ⟨RX8, "siteEndingAt", "(I)I"⟩
abbrev cX8_sitesEndingAheadOf : ByteArray := prog_10_method_25_code
def yX8_sitesEndingAheadOf : MethodName := ⟨RX8, "sitesEndingAheadOf", "(I)I"⟩
abbrev cX8_serverProperty : ByteArray := prog_10_method_26_code
def yX8_serverProperty : MethodName := ⟨RX8, "serverProperty", "(II)I"⟩
abbrev cX8_childrenOf : ByteArray := prog_10_method_27_code
def yX8_childrenOf : MethodName := ⟨RX8, "childrenOf", "(I)I"⟩
abbrev cX8_sitesAtHome : ByteArray := prog_10_method_28_code
def yX8_sitesAtHome : MethodName := ⟨RX8, "sitesAtHome", "(I)I"⟩
abbrev cX8_siteProperty : ByteArray := prog_10_method_29_code
def yX8_siteProperty : MethodName := ⟨RX8, "siteProperty", "(II)I"⟩
abbrev cX8_mapsOf : ByteArray := prog_10_method_30_code
def yX8_mapsOf : MethodName := ⟨RX8, "mapsOf", "(I)I"⟩
abbrev cX8_totalOf : ByteArray := prog_10_method_31_code
def yX8_totalOf : MethodName := ⟨RX8, "totalOf", "(I)I"⟩
abbrev cX8_sitesUp : ByteArray := prog_10_method_32_code
def yX8_sitesUp : MethodName := ⟨RX8, "sitesUp", "()I"⟩
abbrev cX8_sumOverRouters : ByteArray := prog_10_method_33_code
def yX8_sumOverRouters : MethodName := ⟨RX8, "sumOverRouters", "(I)I"⟩
abbrev cX8_namesWithAnswer : ByteArray := prog_10_method_34_code
def yX8_namesWithAnswer : MethodName := ⟨RX8, "namesWithAnswer", "()I"⟩
def RX9 : String := "NameMaps"
def TX9 : u_T := fun k => match k with
  | 0 => ("NameMaps", "present", "LNameMaps$World;", true)
  | 1 => ("NameMaps", "rehearsal", "LNameMaps$World;", true)
  | 2 => ("NameMaps", "history", "LNameMaps$History;", true)
  | 3 => ("NameMaps", "saves", "[LNameMaps$World;", true)
  | 4 => ("NameMaps", "isSaved", "[Z", true)
  | _ => ("NameMaps", "text", "LNameMaps$ActText;", true)
def tyX9 : Nat → FieldType := fun k => match k with
  | 0 => .object "NameMaps$World"
  | 1 => .object "NameMaps$World"
  | 2 => .object "NameMaps$History"
  | 3 => .array (.object "NameMaps$World")
  | 4 => .array .boolean
  | _ => .object "NameMaps$ActText"
theorem nmX9 : ∀ a, a < 6 → ∀ b, b < 6 → a ≠ b → (TX9 a).2.1 ≠ (TX9 b).2.1 := by decide +kernel
theorem tyX9_ok : ∀ k, k < 6 → parseFieldDescriptor (TX9 k).2.2.1 = some (tyX9 k) := by decide +kernel
abbrev cX9_init : ByteArray := prog_1_method_1_code
def yX9_init : MethodName := ⟨RX9, "<init>", "()V"⟩
abbrev cX9_addServer : ByteArray := prog_1_method_2_code
def yX9_addServer : MethodName := ⟨RX9, "addServer", "(III)I"⟩
abbrev cX9_addSite : ByteArray := prog_1_method_3_code
def yX9_addSite : MethodName := ⟨RX9, "addSite", "(III)I"⟩
abbrev cX9_addRouter : ByteArray := prog_1_method_4_code
def yX9_addRouter : MethodName := ⟨RX9, "addRouter", "()I"⟩
abbrev cX9_setSlot : ByteArray := prog_1_method_5_code
def yX9_setSlot : MethodName := ⟨RX9, "setSlot", "(IIIII)I"⟩
abbrev cX9_emptySlot : ByteArray := prog_1_method_6_code
def yX9_emptySlot : MethodName := ⟨RX9, "emptySlot", "(II)I"⟩
abbrev cX9_register : ByteArray := prog_1_method_7_code
def yX9_register : MethodName := ⟨RX9, "register", "(I)I"⟩
abbrev cX9_unregister : ByteArray := prog_1_method_8_code
def yX9_unregister : MethodName := ⟨RX9, "unregister", "(I)I"⟩
abbrev cX9_setMapLife : ByteArray := prog_1_method_9_code
def yX9_setMapLife : MethodName := ⟨RX9, "setMapLife", "(I)I"⟩
abbrev cX9_send : ByteArray := prog_1_method_10_code
def yX9_send : MethodName := ⟨RX9, "send", "(III)I"⟩
abbrev cX9_pass : ByteArray := prog_1_method_11_code
def yX9_pass : MethodName := ⟨RX9, "pass", "(I)I"⟩
abbrev cX9_forget : ByteArray := prog_1_method_12_code
def yX9_forget : MethodName := ⟨RX9, "forget", "(I)I"⟩
abbrev cX9_undo : ByteArray := prog_1_method_17_code
def yX9_undo : MethodName := ⟨RX9, "undo", "()I"⟩
abbrev cX9_save : ByteArray := prog_1_method_18_code
def yX9_save : MethodName := ⟨RX9, "save", "(I)I"⟩
abbrev cX9_restore : ByteArray := prog_1_method_19_code
def yX9_restore : MethodName := ⟨RX9, "restore", "(I)I"⟩
abbrev cX9_server : ByteArray := prog_1_method_20_code
def yX9_server : MethodName := ⟨RX9, "server", "(II)I"⟩
abbrev cX9_site : ByteArray := prog_1_method_21_code
def yX9_site : MethodName := ⟨RX9, "site", "(II)I"⟩
abbrev cX9_slot : ByteArray := prog_1_method_22_code
def yX9_slot : MethodName := ⟨RX9, "slot", "(III)I"⟩
abbrev cX9_router : ByteArray := prog_1_method_23_code
def yX9_router : MethodName := ⟨RX9, "router", "(II)I"⟩
abbrev cX9_map : ByteArray := prog_1_method_24_code
def yX9_map : MethodName := ⟨RX9, "map", "(III)I"⟩
abbrev cX9_answer : ByteArray := prog_1_method_25_code
def yX9_answer : MethodName := ⟨RX9, "answer", "(I)I"⟩
abbrev cX9_endingNext : ByteArray := prog_1_method_27_code
def yX9_endingNext : MethodName := ⟨RX9, "endingNext", "(I)I"⟩
abbrev cX9_total : ByteArray := prog_1_method_28_code
def yX9_total : MethodName := ⟨RX9, "total", "(I)I"⟩
abbrev cX9_wouldReach : ByteArray := prog_1_method_29_code
def yX9_wouldReach : MethodName := ⟨RX9, "wouldReach", "(IIII)I"⟩
abbrev cX9_wouldAsk : ByteArray := prog_1_method_30_code
def yX9_wouldAsk : MethodName := ⟨RX9, "wouldAsk", "(III)I"⟩
abbrev cX9_recorded : ByteArray := prog_1_method_32_code
def yX9_recorded : MethodName := ⟨RX9, "recorded", "(I)I"⟩
abbrev cX9_isSave : ByteArray := prog_1_method_34_code
def yX9_isSave : MethodName := ⟨RX9, "isSave", "(I)Z"⟩
abbrev cX9_isSlot : ByteArray := prog_1_method_35_code
def yX9_isSlot : MethodName := ⟨RX9, "isSlot", "(I)Z"⟩
abbrev cX9_isName : ByteArray := prog_1_method_36_code
def yX9_isName : MethodName := ⟨RX9, "isName", "(I)Z"⟩
abbrev cX9_isFlow : ByteArray := prog_1_method_37_code
def yX9_isFlow : MethodName := ⟨RX9, "isFlow", "(I)Z"⟩
abbrev cX9_isPlaceOfSlot : ByteArray := prog_1_method_38_code
def yX9_isPlaceOfSlot : MethodName := ⟨RX9, "isPlaceOfSlot", "(I)Z"⟩
abbrev cX9_isBlock : ByteArray := prog_1_method_39_code
def yX9_isBlock : MethodName := ⟨RX9, "isBlock", "(II)Z"⟩
def RX10 : String := "NameMapsModel"
def TX10 : u_T := fun k => match k with
  | _ => ("", "", "", false)
def tyX10 : Nat → FieldType := fun k => match k with
  | _ => .int
theorem nmX10 : ∀ a, a < 0 → ∀ b, b < 0 → a ≠ b → (TX10 a).2.1 ≠ (TX10 b).2.1 := by decide +kernel
theorem tyX10_ok : ∀ k, k < 0 → parseFieldDescriptor (TX10 k).2.2.1 = some (tyX10 k) := by decide +kernel
def RJ6 : String := "java/lang/Integer"
abbrev cJ6_bitCount_0f7a4 : ByteArray := prog_13_method_49_code
def yJ6_bitCount_0f7a4 : MethodName := ⟨RJ6, "bitCount", "(I)I"⟩
def RJ9 : String := "java/lang/Math"
abbrev cJ9_floorMod_7cf53 : ByteArray := prog_14_method_50_code
def yJ9_floorMod_7cf53 : MethodName := ⟨RJ9, "floorMod", "(II)I"⟩
abbrev cJ9_min_7cf53 : ByteArray := prog_14_method_69_code
def yJ9_min_7cf53 : MethodName := ⟨RJ9, "min", "(II)I"⟩
def RL : String := "NameMapsLaw"
abbrev cL_cell : ByteArray := method_2_code
def yL_cell : MethodName := ⟨RL, "cell", "([II)I"⟩
abbrev cL_up : ByteArray := method_3_code
def yL_up : MethodName := ⟨RL, "up", "(II)I"⟩
abbrev cL_view : ByteArray := method_4_code
def yL_view : MethodName := ⟨RL, "view", "(LNameMaps;)J"⟩
abbrev cL_size : ByteArray := method_5_code
def yL_size : MethodName := ⟨RL, "size", "(I)I"⟩
abbrev cL_any : ByteArray := method_6_code
def yL_any : MethodName := ⟨RL, "any", "(LNameMaps;II)I"⟩
abbrev cL_turn : ByteArray := method_7_code
def yL_turn : MethodName := ⟨RL, "turn", "(LNameMaps;III)I"⟩
abbrev cL_name : ByteArray := method_8_code
def yL_name : MethodName := ⟨RL, "name", "(LNameMaps;I)I"⟩
abbrev cL_hasPlace : ByteArray := method_9_code
def yL_hasPlace : MethodName := ⟨RL, "hasPlace", "(LNameMaps;II)Z"⟩
abbrev cL_isSent : ByteArray := method_10_code
def yL_isSent : MethodName := ⟨RL, "isSent", "(LNameMaps;III)Z"⟩
abbrev cL_areRouters : ByteArray := method_11_code
def yL_areRouters : MethodName := ⟨RL, "areRouters", "(LNameMaps;)Z"⟩
abbrev cL_areEnding : ByteArray := method_12_code
def yL_areEnding : MethodName := ⟨RL, "areEnding", "(LNameMaps;)Z"⟩
abbrev cL_isUndone : ByteArray := method_13_code
def yL_isUndone : MethodName := ⟨RL, "isUndone", "(LNameMaps;IIIIJ)Z"⟩
abbrev cL_isSaved : ByteArray := method_14_code
def yL_isSaved : MethodName := ⟨RL, "isSaved", "(LNameMaps;II)Z"⟩
abbrev cL_law : ByteArray := code
def yL_law : MethodName := ⟨RL, "law", "([I)Z"⟩
abbrev vwCl : List vw_C := [(RX0, TX0, 8), (RX1, TX1, 2), (RX2, TX2, 6), (RX3, TX3, 3), (RX4, TX4, 7), (RX5, TX5, 2), (RX6, TX6, 5), (RX7, TX7, 1), (RX8, TX8, 8), (RX9, TX9, 6)]
end
section
/-! THE SMALL MACHINE: bytecode over a typed store. A reference is (kind, number); a store is the numbers that fields and int arrays hold, and what the rows of maps hold. -/
abbrev MV : Type := Int32 ⊕ (Nat × Nat)
abbrev St : Type := (Nat → Nat → Nat → Int32) × (Nat → Nat → Nat)
/-- an instruction: its place; (kind, operands); a constant; a list of pairs -/
abbrev Ent : Type := Nat × (Nat × Nat × Nat × Nat) × Int32 × List (Nat × Nat)
/-- fields that hold one object for ever: which -/
def lk (c k i : Nat) : Option (Nat × Nat) := match c with
  | 0 => (match k with | 0 => some (19, 0) | _ => none)
  | 1 => none
  | 2 => (match k with | 0 => some (1, 160 + i) | 1 => some (7, 80 + i) | _ => none)
  | 3 => (match k with | 0 => some (16, 0) | _ => none)
  | 4 => (match k with | 0 => some (14, i) | _ => none)
  | 5 => (match k with | 0 => some (1, i) | _ => none)
  | 6 => (match k with | 0 => some (1, 80 + i) | 1 => some (7, i) | _ => none)
  | 7 => some (15, i)
  | 8 => (match k with | 0 => some (11, i) | 1 => some (12, i) | 2 => some (13, i) | _ => none)
  | 9 => (match k with | 0 => some (8, 0) | 1 => some (8, 1) | 2 => some (3, 0) | 3 => some (17, 0) | 4 => some (18, 0) | _ => some (0, 0))
  | 10 => (match k with | 0 => some (20, 0) | 1 => some (21, 0) | 2 => some (22, 0) | 4 => some (23, 0) | _ => none)
  | _ => none
/-- the elements of an array of references -/
def el (P : Nat → Nat → Nat) (c i j : Nat) : Nat × Nat := match c with
  | 11 => (5, 8 * i + j)
  | 12 => (6, 8 * i + j)
  | 13 => (4, 4 * i + j)
  | 14 => (2, P i j)
  | 16 => (8, 2 + j)
  | _ => (8, 8 + j)
def alen (c : Nat) : Nat := match c with
  | 11 => 8 | 12 => 8 | 13 => 4 | 14 => 5 | 15 => 9 | 16 => 6 | 17 => 2 | 18 => 2 | 19 => 80 | 20 => 509 | 21 => 4072 | 22 => 2 | _ => 80
/-- what kind of array: 0 int, 1 boolean, 2 byte, 3 references, 9 none -/
def akind (c : Nat) : Nat := match c with
  | 11 => 3 | 12 => 3 | 13 => 3 | 14 => 3 | 15 => 0 | 16 => 3 | 17 => 3 | 18 => 1 | 19 => 2 | 20 => 0 | 21 => 0 | 22 => 0 | 23 => 0 | _ => 9
def fv (s : St) (c i k : Nat) : MV := match lk c k i with
  | some r => .inr r
  | none => .inl (s.1 c i k)
def putV (s : St) (c i k : Nat) (x : Int32) : St := (fun a b d => if a = c ∧ b = i ∧ d = k then x else s.1 a b d, s.2)
def putP (s : St) (i k y : Nat) : St := (s.1, fun a b => if a = i ∧ b = k then y else s.2 a b)
def getL : List MV → Nat → Option MV
  | [], _ => none
  | x :: _, 0 => some x
  | _ :: l, n + 1 => getL l n
/-- a local is set, or the next one comes -/
def setL : List MV → Nat → MV → List MV
  | [], _, v => [v]
  | _ :: l, 0, v => v :: l
  | x :: l, n + 1, v => x :: setL l n v
def takeL : List MV → Nat → List MV
  | [], _ => []
  | _ :: _, 0 => []
  | x :: l, n + 1 => x :: takeL l n
def popL : Nat → List MV → List MV → Option (List MV × List MV)
  | 0, acc, st => some (acc, st)
  | n + 1, acc, v :: st => popL n (v :: acc) st
  | _ + 1, _, [] => none
def fromPc : List Ent → Nat → List Ent
  | [], _ => []
  | e :: es, t => match Nat.beq e.1 t with
    | true => e :: es
    | false => fromPc es t
/-- behind the mark that stands at a loop's head -/
def behind : List Ent → List Ent
  | (pc, (0, a), c) :: es => es
  | es => es
def cmpT (b : Nat) (x y : Int32) : Prop := match b with
  | 0 => x = y | 1 => ¬ x = y | 2 => x.toInt < y.toInt | 3 => y.toInt ≤ x.toInt | 4 => y.toInt < x.toInt | _ => x.toInt ≤ y.toInt
def cmpF (b : Nat) (x y : Int32) : Prop := match b with
  | 0 => ¬ x = y | 1 => x = y | 2 => y.toInt ≤ x.toInt | 3 => x.toInt < y.toInt | 4 => x.toInt ≤ y.toInt | _ => y.toInt < x.toInt
def binW (a : Nat) (x y : Int32) (k : Int32 → Prop) : Prop := match a with
  | 0 => k (x + y)
  | 1 => k (x - y)
  | 2 => k (x * y)
  | 3 => ¬ y = 0 ∧ k (x / y)
  | 4 => ¬ y = 0 ∧ k (x - x / y * y)
  | 5 => k (x &&& y)
  | 6 => k ((x.toUInt32 >>> (y.toUInt32 &&& Int32.toUInt32 31)).toInt32)
  | 7 => k (x ^^^ y)
  | 8 => k (x >>> (y &&& 31))
  | _ => k (x <<< (y &&& 31))
def swW (x : Int32) (k : Nat → Prop) (d : Nat) : List (Nat × Nat) → Prop
  | [] => k d
  | (v, t) :: cs => (x = Int32.ofNat v → k t) ∧ (¬ x = Int32.ofNat v → swW x k d cs)
def retW (ret : Nat) (v : Int32) (q : Prop) : Prop := match ret with
  | 0 => q
  | 1 => (v = 0 ∨ v = 1) ∧ q
  | _ => False
def pushW (r : Option MV) (st : List MV) : List MV := match r with
  | some v => v :: st
  | none => st
def inA (i : Int32) (n : Nat) : Prop := 0 ≤ i.toInt ∧ i.toInt < (n : Int)
def boolW (b : Bool) (q : Prop) : Prop := match b with
  | true => q
  | false => False
/-- one instruction: k goes on with the next one, j jumps, X takes a loop's head over, call calls, Q is what is wanted of the answer -/
def stepW (call : Nat → List MV → St → (Option MV → St → Prop) → Prop) (L : Nat) (xs : Nat → Int32) (ret : Nat) (Q : Option MV → St → Prop) (X : Nat → List MV → List MV → St → Prop) (k : List Ent → List MV → List MV → St → Prop) (j : Nat → List MV → List MV → St → Prop) (es : List Ent) (ls st : List MV) (s : St) : Prop :=
  match es with
  | [] => False
  | (pc, (op, a, b, d), c, cs) :: es => match op with
    | 0 => X pc (takeL ls a) st s
    | 1 => k es ls (.inl c :: st) s
    | 2 => (match getL ls a with
      | some (.inl x) => boolW (Nat.ble b 1) (k es ls (.inl x :: st) s)
      | some (.inr r) => boolW (Nat.ble 2 b) (k es ls (.inr r :: st) s)
      | none => False)
    | 3 => (match st with
      | .inl x :: st => boolW (Nat.ble b 1 && Nat.ble a ls.length) (k es (setL ls a (.inl x)) st s)
      | .inr r :: st => boolW (Nat.ble 2 b && Nat.ble a ls.length) (k es (setL ls a (.inr r)) st s)
      | [] => False)
    | 4 => (match st with
      | .inl y :: .inl x :: st => binW a x y (fun v => k es ls (.inl v :: st) s)
      | _ => False)
    | 5 => (match getL ls a with
      | some (.inl x) => k es (setL ls a (.inl (x + c))) st s
      | _ => False)
    | 6 => (match st with
      | .inl x :: st => (cmpF b x 0 → k es ls st s) ∧ (cmpT b x 0 → j a ls st s)
      | _ => False)
    | 7 => (match st with
      | .inl y :: .inl x :: st => (cmpF b x y → k es ls st s) ∧ (cmpT b x y → j a ls st s)
      | _ => False)
    | 8 => j a ls st s
    | 9 => (match st with
      | .inr (q, i) :: st => boolW (Nat.beq q b) (k es ls (fv s b i d :: st) s)
      | _ => False)
    | 10 => (match st with
      | .inl x :: .inr (q, i) :: st => boolW (Nat.beq q b) (match lk b d i with
        | none => (match Nat.beq b 2 && Nat.beq d 5 with
          | true => (x = 0 ∨ x = 1) ∧ k es ls st (putV s b i d x)
          | false => k es ls st (putV s b i d x))
        | some _ => False)
      | _ => False)
    | 11 => (match st with
      | .inl i :: .inr (q, n) :: st => (match Nat.beq q 24 with
        | true => boolW (Nat.beq a 0) (inA i L ∧ k es ls (.inl (xs i.toNatClampNeg) :: st) s)
        | false => (match akind q with
          | 0 => boolW (Nat.beq a 0) (inA i (alen q) ∧ k es ls (.inl (s.1 q n i.toNatClampNeg) :: st) s)
          | 1 => boolW (Nat.beq a 1) (inA i (alen q) ∧ k es ls (.inl (s.1 q n i.toNatClampNeg) :: st) s)
          | 2 => boolW (Nat.beq a 1) (inA i (alen q) ∧ k es ls (.inl (s.1 q n i.toNatClampNeg) :: st) s)
          | 3 => boolW (Nat.beq a 2) (inA i (alen q) ∧ k es ls (.inr (el s.2 q n i.toNatClampNeg) :: st) s)
          | _ => False))
      | _ => False)
    | 12 => (match st with
      | .inl x :: .inl i :: .inr (q, n) :: st => (match akind q with
        | 0 => boolW (Nat.beq a 0) (inA i (alen q) ∧ k es ls st (putV s q n i.toNatClampNeg x))
        | 1 => boolW (Nat.beq a 1) (inA i (alen q) ∧ (x = 0 ∨ x = 1) ∧ k es ls st (putV s q n i.toNatClampNeg x))
        | 2 => boolW (Nat.beq a 1) (inA i (alen q) ∧ x.toInt8.toInt32 = x ∧ k es ls st (putV s q n i.toNatClampNeg x))
        | _ => False)
      | .inr (w, y) :: .inl i :: .inr (q, n) :: st => boolW (Nat.beq w 2 && (Nat.beq a 2 && Nat.beq q 14)) (inA i 5 ∧ k es ls st (putP s n i.toNatClampNeg y))
      | _ => False)
    | 13 => (match cs with
      | (n, w) :: _ => (match popL n [] st with
        | some (as, st) => boolW (Nat.ble st.length 8) (match Nat.beq d 0 with
          | true => (match as with
            | .inr (q, _) :: _ => boolW (Nat.beq q w) (call b as s (fun r s => k es ls (pushW r st) s))
            | _ => False)
          | false => call b as s (fun r s => k es ls (pushW r st) s))
        | none => False)
      | [] => False)
    | 14 => (match Nat.beq a 0 with
      | true => (match st with
        | [.inl v] => retW ret v (Q (some (.inl v)) s)
        | _ => False)
      | false => (match st with
        | [] => boolW (Nat.beq ret 2) (Q none s)
        | _ => False))
    | 15 => (match st with
      | v :: st => k es ls (v :: v :: st) s
      | _ => False)
    | 16 => (match st with
      | v :: w :: st => k es ls (v :: w :: v :: w :: st) s
      | _ => False)
    | 17 => (match st with
      | .inl x :: st => k es ls (.inl x.toInt8.toInt32 :: st) s
      | _ => False)
    | 18 => (match st with
      | .inl x :: st => swW x (fun t => j t ls st s) a cs
      | _ => False)
    | 19 => (match st with
      | .inr (q, _) :: st => boolW (Nat.beq q 24) (k es ls (.inl (Int32.ofNat L) :: st) s)
      | _ => False)
    | 20 => (match st with
      | .inl y :: .inl x :: st => boolW (Nat.ble st.length 8) (k es ls (.inl (if y < x then y else x) :: st) s)
      | _ => False)
    | _ => False
/-- at most n instructions from an entry on, up to a loop's head or the end -/
def wp (call : Nat → List MV → St → (Option MV → St → Prop) → Prop) (L : Nat) (xs : Nat → Int32) (ret : Nat) (Q : Option MV → St → Prop) (X : Nat → List MV → List MV → St → Prop) (code : List Ent) : Nat → List Ent → List MV → List MV → St → Prop
  | 0 => fun _ _ _ _ => False
  | n + 1 => fun es ls st s => stepW call L xs ret Q X (wp call L xs ret Q X code n) (fun t ls st s => wp call L xs ret Q X code n (fromPc code t) ls st s) es ls st s
/-- a method's body meets Q: X holds at its start, whatever X is closed under the body's stretches -/
def bodyW (call : Nat → List MV → St → (Option MV → St → Prop) → Prop) (L : Nat) (xs : Nat → Int32) (ret : Nat) (Q : Option MV → St → Prop) (code : List Ent) (pc : Nat) (ls st : List MV) (s : St) : Prop :=
  ∀ X : Nat → List MV → List MV → St → Prop, (∀ (n pc : Nat) (ls st : List MV) (s : St), wp call L xs ret Q X code n (behind (fromPc code pc)) ls st s → X pc ls st s) → X pc ls st s
/-- method m, on these arguments and this store, with f frames of room, returns, and Q holds of its answer and its store -/
def wpM (L : Nat) (xs : Nat → Int32) (cod : Nat → List Ent) (rets : Nat → Nat) : Nat → Nat → List MV → St → (Option MV → St → Prop) → Prop
  | 0 => fun _ _ _ _ => False
  | f + 1 => fun m as s Q => ∀ call : Nat → List MV → St → (Option MV → St → Prop) → Prop, (∀ (m : Nat) (as : List MV) (s : St) (Q : Option MV → St → Prop), wpM L xs cod rets f m as s Q → call m as s Q) → bodyW call L xs (rets m) Q (cod m) 0 as [] s
end
section
/-- NameMaps$ActText.<init>()V: 10 entries; loop heads [] -/
def co_X0_init : List Ent := [(0, (2, 0, 2, 0), 0, []),
  (1, (24, 3, 999, 0), 0, []),
  (4, (2, 0, 2, 0), 0, []),
  (5, (1, 0, 1, 0), nI 80, []),
  (7, (22, 2, 0, 0), 0, []),
  (9, (10, 9, 0, 0), 0, []),
  (12, (2, 0, 2, 0), 0, []),
  (13, (1, 0, 0, 0), (-1), []),
  (14, (10, 15, 0, 3), 0, []),
  (17, (14, 1, 0, 0), 0, [])]
abbrev m_X0_init : Nat := 0
/-- NameMaps$Block.<init>()V: 3 entries; loop heads [] -/
def co_X1_init : List Ent := [(0, (2, 0, 2, 0), 0, []),
  (1, (24, 1, 999, 0), 0, []),
  (4, (14, 1, 0, 0), 0, [])]
abbrev m_X1_init : Nat := 1
/-- NameMaps$Block.become(II)V: 7 entries; loop heads [] -/
def co_X1_become : List Ent := [(0, (2, 0, 2, 0), 0, []),
  (1, (2, 1, 0, 0), 0, []),
  (2, (10, 7, 1, 0), 0, []),
  (5, (2, 0, 2, 0), 0, []),
  (6, (2, 2, 0, 0), 0, []),
  (7, (10, 13, 1, 1), 0, []),
  (10, (14, 1, 0, 0), 0, [])]
abbrev m_X1_become : Nat := 2
/-- NameMaps$Block.copyFrom(LNameMaps$Block;)V: 9 entries; loop heads [] -/
def co_X1_copyFrom : List Ent := [(0, (2, 0, 2, 0), 0, []),
  (1, (2, 1, 2, 0), 0, []),
  (2, (9, 7, 1, 0), 0, []),
  (5, (10, 7, 1, 0), 0, []),
  (8, (2, 0, 2, 0), 0, []),
  (9, (2, 1, 2, 0), 0, []),
  (10, (9, 13, 1, 1), 0, []),
  (13, (10, 13, 1, 1), 0, []),
  (16, (14, 1, 0, 0), 0, [])]
abbrev m_X1_copyFrom : Nat := 3
/-- NameMaps$Block.isAt(II)Z: 12 entries; loop heads [] -/
def co_X1_isAt : List Ent := [(0, (2, 0, 2, 0), 0, []),
  (1, (9, 7, 1, 0), 0, []),
  (4, (2, 1, 0, 0), 0, []),
  (5, (7, 20, 1, 0), 0, []),
  (8, (2, 0, 2, 0), 0, []),
  (9, (9, 13, 1, 1), 0, []),
  (12, (2, 2, 0, 0), 0, []),
  (13, (7, 20, 1, 0), 0, []),
  (16, (1, 0, 0, 0), nI 1, []),
  (17, (8, 21, 0, 0), 0, []),
  (20, (1, 0, 0, 0), nI 0, []),
  (21, (14, 0, 0, 0), 0, [])]
abbrev m_X1_isAt : Nat := 4
/-- NameMaps$Block.has(I)Z: 5 entries; loop heads [] -/
def co_X1_has : List Ent := [(0, (2, 0, 2, 0), 0, []),
  (1, (2, 1, 0, 0), 0, []),
  (2, (1, 0, 0, 0), nI 1, []),
  (3, (13, 16, 6, 0), 0, [(3, 1)]),
  (6, (14, 0, 0, 0), 0, [])]
abbrev m_X1_has : Nat := 5
/-- NameMaps$Block.holds(II)Z: 17 entries; loop heads [] -/
def co_X1_holds : List Ent := [(0, (2, 0, 2, 0), 0, []),
  (1, (9, 7, 1, 0), 0, []),
  (4, (2, 1, 0, 0), 0, []),
  (5, (7, 27, 4, 0), 0, []),
  (8, (2, 1, 0, 0), 0, []),
  (9, (2, 2, 0, 0), 0, []),
  (10, (4, 0, 0, 0), 0, []),
  (11, (2, 0, 2, 0), 0, []),
  (12, (9, 7, 1, 0), 0, []),
  (15, (2, 0, 2, 0), 0, []),
  (16, (9, 13, 1, 1), 0, []),
  (19, (4, 0, 0, 0), 0, []),
  (20, (7, 27, 4, 0), 0, []),
  (23, (1, 0, 0, 0), nI 1, []),
  (24, (8, 28, 0, 0), 0, []),
  (27, (1, 0, 0, 0), nI 0, []),
  (28, (14, 0, 0, 0), 0, [])]
abbrev m_X1_holds : Nat := 6
/-- NameMaps$Block.meets(II)Z: 17 entries; loop heads [] -/
def co_X1_meets : List Ent := [(0, (2, 0, 2, 0), 0, []),
  (1, (9, 7, 1, 0), 0, []),
  (4, (2, 1, 0, 0), 0, []),
  (5, (2, 2, 0, 0), 0, []),
  (6, (4, 0, 0, 0), 0, []),
  (7, (7, 27, 3, 0), 0, []),
  (10, (2, 1, 0, 0), 0, []),
  (11, (2, 0, 2, 0), 0, []),
  (12, (9, 7, 1, 0), 0, []),
  (15, (2, 0, 2, 0), 0, []),
  (16, (9, 13, 1, 1), 0, []),
  (19, (4, 0, 0, 0), 0, []),
  (20, (7, 27, 3, 0), 0, []),
  (23, (1, 0, 0, 0), nI 1, []),
  (24, (8, 28, 0, 0), 0, []),
  (27, (1, 0, 0, 0), nI 0, []),
  (28, (14, 0, 0, 0), 0, [])]
abbrev m_X1_meets : Nat := 7
/-- NameMaps$CacheMap.<init>()V: 13 entries; loop heads [] -/
def co_X2_init : List Ent := [(0, (2, 0, 2, 0), 0, []),
  (1, (24, 3, 999, 0), 0, []),
  (4, (2, 0, 2, 0), 0, []),
  (5, (21, 9, 1, 0), 0, []),
  (8, (15, 0, 0, 0), 0, []),
  (9, (24, 11, 1, 1), 0, [(1, 0)]),
  (12, (10, 12, 2, 0), 0, []),
  (15, (2, 0, 2, 0), 0, []),
  (16, (21, 18, 7, 0), 0, []),
  (19, (15, 0, 0, 0), 0, []),
  (20, (24, 20, 36, 1), 0, [(1, 0)]),
  (23, (10, 21, 2, 1), 0, []),
  (26, (14, 1, 0, 0), 0, [])]
abbrev m_X2_init : Nat := 8
/-- NameMaps$CacheMap.become(ILNameMaps$Site;I)V: 24 entries; loop heads [] -/
def co_X2_become : List Ent := [(0, (2, 0, 2, 0), 0, []),
  (1, (9, 12, 2, 0), 0, []),
  (4, (2, 2, 2, 0), 0, []),
  (5, (9, 25, 6, 0), 0, []),
  (8, (13, 28, 3, 0), 0, [(2, 1)]),
  (11, (2, 0, 2, 0), 0, []),
  (12, (9, 21, 2, 1), 0, []),
  (15, (2, 2, 2, 0), 0, []),
  (16, (9, 32, 6, 1), 0, []),
  (19, (13, 33, 37, 0), 0, [(2, 7)]),
  (22, (2, 0, 2, 0), 0, []),
  (23, (2, 1, 0, 0), 0, []),
  (24, (10, 36, 2, 2), 0, []),
  (27, (2, 0, 2, 0), 0, []),
  (28, (2, 2, 2, 0), 0, []),
  (29, (9, 40, 6, 3), 0, []),
  (32, (10, 43, 2, 3), 0, []),
  (35, (2, 0, 2, 0), 0, []),
  (36, (2, 3, 0, 0), 0, []),
  (37, (10, 44, 2, 4), 0, []),
  (40, (2, 0, 2, 0), 0, []),
  (41, (1, 0, 0, 0), nI 0, []),
  (42, (10, 47, 2, 5), 0, []),
  (45, (14, 1, 0, 0), 0, [])]
abbrev m_X2_become : Nat := 9
/-- NameMaps$CacheMap.copyFrom(LNameMaps$CacheMap;)V: 27 entries; loop heads [] -/
def co_X2_copyFrom : List Ent := [(0, (2, 0, 2, 0), 0, []),
  (1, (9, 12, 2, 0), 0, []),
  (4, (2, 1, 2, 0), 0, []),
  (5, (9, 12, 2, 0), 0, []),
  (8, (13, 28, 3, 0), 0, [(2, 1)]),
  (11, (2, 0, 2, 0), 0, []),
  (12, (9, 21, 2, 1), 0, []),
  (15, (2, 1, 2, 0), 0, []),
  (16, (9, 21, 2, 1), 0, []),
  (19, (13, 33, 37, 0), 0, [(2, 7)]),
  (22, (2, 0, 2, 0), 0, []),
  (23, (2, 1, 2, 0), 0, []),
  (24, (9, 36, 2, 2), 0, []),
  (27, (10, 36, 2, 2), 0, []),
  (30, (2, 0, 2, 0), 0, []),
  (31, (2, 1, 2, 0), 0, []),
  (32, (9, 43, 2, 3), 0, []),
  (35, (10, 43, 2, 3), 0, []),
  (38, (2, 0, 2, 0), 0, []),
  (39, (2, 1, 2, 0), 0, []),
  (40, (9, 44, 2, 4), 0, []),
  (43, (10, 44, 2, 4), 0, []),
  (46, (2, 0, 2, 0), 0, []),
  (47, (2, 1, 2, 0), 0, []),
  (48, (9, 47, 2, 5), 0, []),
  (51, (10, 47, 2, 5), 0, []),
  (54, (14, 1, 0, 0), 0, [])]
abbrev m_X2_copyFrom : Nat := 10
/-- NameMaps$CacheMap.isHolding(I)Z: 8 entries; loop heads [] -/
def co_X2_isHolding : List Ent := [(0, (2, 1, 0, 0), 0, []),
  (1, (2, 0, 2, 0), 0, []),
  (2, (9, 44, 2, 4), 0, []),
  (5, (7, 12, 3, 0), 0, []),
  (8, (1, 0, 0, 0), nI 1, []),
  (9, (8, 13, 0, 0), 0, []),
  (12, (1, 0, 0, 0), nI 0, []),
  (13, (14, 0, 0, 0), 0, [])]
abbrev m_X2_isHolding : Nat := 11
/-- NameMaps$CacheMap.property(II)I: 28 entries; loop heads [] -/
def co_X2_property : List Ent := [(0, (2, 1, 0, 0), 0, []),
  (1, (18, 78, 35, 0), 0, [(0, 36), (1, 41), (2, 46), (3, 51), (4, 64)]),
  (36, (2, 0, 2, 0), 0, []),
  (37, (9, 36, 2, 2), 0, []),
  (40, (14, 0, 0, 0), 0, []),
  (41, (2, 0, 2, 0), 0, []),
  (42, (9, 43, 2, 3), 0, []),
  (45, (14, 0, 0, 0), 0, []),
  (46, (2, 0, 2, 0), 0, []),
  (47, (9, 44, 2, 4), 0, []),
  (50, (14, 0, 0, 0), 0, []),
  (51, (2, 0, 2, 0), 0, []),
  (52, (9, 47, 2, 5), 0, []),
  (55, (6, 62, 0, 0), 0, []),
  (58, (1, 0, 0, 0), nI 1, []),
  (59, (8, 63, 0, 0), 0, []),
  (62, (1, 0, 0, 0), nI 0, []),
  (63, (14, 0, 0, 0), 0, []),
  (64, (2, 0, 2, 0), 0, []),
  (65, (2, 2, 0, 0), 0, []),
  (66, (13, 51, 11, 0), 0, [(2, 2)]),
  (69, (6, 76, 0, 0), 0, []),
  (72, (1, 0, 0, 0), nI 1, []),
  (73, (8, 77, 0, 0), 0, []),
  (76, (1, 0, 0, 0), nI 0, []),
  (77, (14, 0, 0, 0), 0, []),
  (78, (1, 0, 1, 0), (-2), []),
  (80, (14, 0, 0, 0), 0, [])]
abbrev m_X2_property : Nat := 12
/-- NameMaps$History.<init>()V: 22 entries; loop heads [15] -/
def co_X3_init : List Ent := [(0, (2, 0, 2, 0), 0, []),
  (1, (24, 3, 999, 0), 0, []),
  (4, (2, 0, 2, 0), 0, []),
  (5, (1, 0, 1, 0), nI 6, []),
  (7, (23, 11, 8, 0), 0, []),
  (10, (10, 13, 3, 0), 0, []),
  (13, (1, 0, 0, 0), nI 0, []),
  (14, (3, 1, 0, 0), 0, []),
  (15, (0, 2, 0, 0), 0, []),
  (15, (2, 1, 0, 0), 0, []),
  (16, (1, 0, 1, 0), nI 6, []),
  (18, (7, 40, 3, 0), 0, []),
  (21, (2, 0, 2, 0), 0, []),
  (22, (9, 13, 3, 0), 0, []),
  (25, (2, 1, 0, 0), 0, []),
  (26, (21, 11, 8, 0), 0, []),
  (29, (15, 0, 0, 0), 0, []),
  (30, (24, 17, 46, 0), 0, [(1, 0)]),
  (33, (12, 2, 0, 0), 0, []),
  (34, (5, 1, 0, 0), nI 1, []),
  (37, (8, 15, 0, 0), 0, []),
  (40, (14, 1, 0, 0), 0, [])]
abbrev m_X3_init : Nat := 13
/-- NameMaps$History.row(I)I: 7 entries; loop heads [] -/
def co_X3_row : List Ent := [(0, (2, 0, 2, 0), 0, []),
  (1, (9, 18, 3, 1), 0, []),
  (4, (2, 1, 0, 0), 0, []),
  (5, (4, 0, 0, 0), 0, []),
  (6, (1, 0, 1, 0), nI 6, []),
  (8, (13, 22, 113, 3), 0, [(2, 26)]),
  (11, (14, 0, 0, 0), 0, [])]
abbrev m_X3_row : Nat := 14
/-- NameMaps$History.draft(LNameMaps$World;)V: 10 entries; loop heads [] -/
def co_X3_draft : List Ent := [(0, (2, 0, 2, 0), 0, []),
  (1, (9, 13, 3, 0), 0, []),
  (4, (2, 0, 2, 0), 0, []),
  (5, (2, 0, 2, 0), 0, []),
  (6, (9, 28, 3, 2), 0, []),
  (9, (13, 31, 14, 0), 0, [(2, 3)]),
  (12, (11, 2, 0, 0), 0, []),
  (13, (2, 1, 2, 0), 0, []),
  (14, (13, 35, 47, 0), 0, [(2, 8)]),
  (17, (14, 1, 0, 0), 0, [])]
abbrev m_X3_draft : Nat := 15
/-- NameMaps$History.keepDraft()V: 17 entries; loop heads [] -/
def co_X3_keepDraft : List Ent := [(0, (2, 0, 2, 0), 0, []),
  (1, (9, 28, 3, 2), 0, []),
  (4, (1, 0, 0, 0), nI 5, []),
  (5, (7, 21, 3, 0), 0, []),
  (8, (2, 0, 2, 0), 0, []),
  (9, (15, 0, 0, 0), 0, []),
  (10, (9, 28, 3, 2), 0, []),
  (13, (1, 0, 0, 0), nI 1, []),
  (14, (4, 0, 0, 0), 0, []),
  (15, (10, 28, 3, 2), 0, []),
  (18, (8, 30, 0, 0), 0, []),
  (21, (2, 0, 2, 0), 0, []),
  (22, (2, 0, 2, 0), 0, []),
  (23, (1, 0, 0, 0), nI 1, []),
  (24, (13, 31, 14, 0), 0, [(2, 3)]),
  (27, (10, 18, 3, 1), 0, []),
  (30, (14, 1, 0, 0), 0, [])]
abbrev m_X3_keepDraft : Nat := 16
/-- NameMaps$History.takeLatest(LNameMaps$World;)V: 19 entries; loop heads [] -/
def co_X3_takeLatest : List Ent := [(0, (2, 0, 2, 0), 0, []),
  (1, (9, 28, 3, 2), 0, []),
  (4, (6, 34, 5, 0), 0, []),
  (7, (2, 0, 2, 0), 0, []),
  (8, (15, 0, 0, 0), 0, []),
  (9, (9, 28, 3, 2), 0, []),
  (12, (1, 0, 0, 0), nI 1, []),
  (13, (4, 1, 0, 0), 0, []),
  (14, (10, 28, 3, 2), 0, []),
  (17, (2, 1, 2, 0), 0, []),
  (18, (2, 0, 2, 0), 0, []),
  (19, (9, 13, 3, 0), 0, []),
  (22, (2, 0, 2, 0), 0, []),
  (23, (2, 0, 2, 0), 0, []),
  (24, (9, 28, 3, 2), 0, []),
  (27, (13, 31, 14, 0), 0, [(2, 3)]),
  (30, (11, 2, 0, 0), 0, []),
  (31, (13, 35, 47, 0), 0, [(2, 8)]),
  (34, (14, 1, 0, 0), 0, [])]
abbrev m_X3_takeLatest : Nat := 17
/-- NameMaps$Router.<init>()V: 22 entries; loop heads [14] -/
def co_X4_init : List Ent := [(0, (2, 0, 2, 0), 0, []),
  (1, (24, 3, 999, 0), 0, []),
  (4, (2, 0, 2, 0), 0, []),
  (5, (1, 0, 0, 0), nI 5, []),
  (6, (23, 9, 2, 0), 0, []),
  (9, (10, 11, 4, 0), 0, []),
  (12, (1, 0, 0, 0), nI 0, []),
  (13, (3, 1, 0, 0), 0, []),
  (14, (0, 2, 0, 0), 0, []),
  (14, (2, 1, 0, 0), 0, []),
  (15, (1, 0, 0, 0), nI 5, []),
  (16, (7, 38, 3, 0), 0, []),
  (19, (2, 0, 2, 0), 0, []),
  (20, (9, 11, 4, 0), 0, []),
  (23, (2, 1, 0, 0), 0, []),
  (24, (21, 9, 2, 0), 0, []),
  (27, (15, 0, 0, 0), 0, []),
  (28, (24, 17, 8, 1), 0, [(1, 0)]),
  (31, (12, 2, 0, 0), 0, []),
  (32, (5, 1, 0, 0), nI 1, []),
  (35, (8, 14, 0, 0), 0, []),
  (38, (14, 1, 0, 0), 0, [])]
abbrev m_X4_init : Nat := 18
/-- NameMaps$Router.start()V: 19 entries; loop heads [] -/
def co_X4_start : List Ent := [(0, (2, 0, 2, 0), 0, []),
  (1, (1, 0, 0, 0), nI 0, []),
  (2, (10, 18, 4, 1), 0, []),
  (5, (2, 0, 2, 0), 0, []),
  (6, (1, 0, 0, 0), nI 0, []),
  (7, (10, 22, 4, 2), 0, []),
  (10, (2, 0, 2, 0), 0, []),
  (11, (1, 0, 0, 0), nI 0, []),
  (12, (10, 25, 4, 3), 0, []),
  (15, (2, 0, 2, 0), 0, []),
  (16, (1, 0, 0, 0), nI 0, []),
  (17, (10, 28, 4, 4), 0, []),
  (20, (2, 0, 2, 0), 0, []),
  (21, (1, 0, 0, 0), nI 0, []),
  (22, (10, 31, 4, 5), 0, []),
  (25, (2, 0, 2, 0), 0, []),
  (26, (1, 0, 0, 0), nI 0, []),
  (27, (10, 34, 4, 6), 0, []),
  (30, (14, 1, 0, 0), 0, [])]
abbrev m_X4_start : Nat := 19
/-- NameMaps$Router.copyFrom(LNameMaps$Router;)V: 43 entries; loop heads [10] -/
def co_X4_copyFrom : List Ent := [(0, (2, 0, 2, 0), 0, []),
  (1, (2, 1, 2, 0), 0, []),
  (2, (9, 18, 4, 1), 0, []),
  (5, (10, 18, 4, 1), 0, []),
  (8, (1, 0, 0, 0), nI 0, []),
  (9, (3, 2, 0, 0), 0, []),
  (10, (0, 3, 0, 0), 0, []),
  (10, (2, 2, 0, 0), 0, []),
  (11, (2, 0, 2, 0), 0, []),
  (12, (9, 18, 4, 1), 0, []),
  (15, (7, 39, 3, 0), 0, []),
  (18, (2, 0, 2, 0), 0, []),
  (19, (9, 11, 4, 0), 0, []),
  (22, (2, 2, 0, 0), 0, []),
  (23, (11, 2, 0, 0), 0, []),
  (24, (2, 1, 2, 0), 0, []),
  (25, (9, 11, 4, 0), 0, []),
  (28, (2, 2, 0, 0), 0, []),
  (29, (11, 2, 0, 0), 0, []),
  (30, (13, 37, 10, 0), 0, [(2, 2)]),
  (33, (5, 2, 0, 0), nI 1, []),
  (36, (8, 10, 0, 0), 0, []),
  (39, (2, 0, 2, 0), 0, []),
  (40, (2, 1, 2, 0), 0, []),
  (41, (9, 22, 4, 2), 0, []),
  (44, (10, 22, 4, 2), 0, []),
  (47, (2, 0, 2, 0), 0, []),
  (48, (2, 1, 2, 0), 0, []),
  (49, (9, 25, 4, 3), 0, []),
  (52, (10, 25, 4, 3), 0, []),
  (55, (2, 0, 2, 0), 0, []),
  (56, (2, 1, 2, 0), 0, []),
  (57, (9, 28, 4, 4), 0, []),
  (60, (10, 28, 4, 4), 0, []),
  (63, (2, 0, 2, 0), 0, []),
  (64, (2, 1, 2, 0), 0, []),
  (65, (9, 31, 4, 5), 0, []),
  (68, (10, 31, 4, 5), 0, []),
  (71, (2, 0, 2, 0), 0, []),
  (72, (2, 1, 2, 0), 0, []),
  (73, (9, 34, 4, 6), 0, []),
  (76, (10, 34, 4, 6), 0, []),
  (79, (14, 1, 0, 0), 0, [])]
abbrev m_X4_copyFrom : Nat := 20
/-- NameMaps$Router.isPlace(I)Z: 13 entries; loop heads [] -/
def co_X4_isPlace : List Ent := [(0, (2, 1, 0, 0), 0, []),
  (1, (6, 21, 2, 0), 0, []),
  (4, (2, 1, 0, 0), 0, []),
  (5, (2, 0, 2, 0), 0, []),
  (6, (9, 18, 4, 1), 0, []),
  (9, (7, 21, 3, 0), 0, []),
  (12, (2, 1, 0, 0), 0, []),
  (13, (1, 0, 0, 0), nI 5, []),
  (14, (7, 21, 3, 0), 0, []),
  (17, (1, 0, 0, 0), nI 1, []),
  (18, (8, 22, 0, 0), 0, []),
  (21, (1, 0, 0, 0), nI 0, []),
  (22, (14, 0, 0, 0), 0, [])]
abbrev m_X4_isPlace : Nat := 21
/-- NameMaps$Router.property(I)I: 22 entries; loop heads [] -/
def co_X4_property : List Ent := [(0, (2, 1, 0, 0), 0, []),
  (1, (18, 70, 39, 0), 0, [(0, 40), (1, 45), (2, 50), (3, 55), (4, 60), (5, 65)]),
  (40, (2, 0, 2, 0), 0, []),
  (41, (9, 18, 4, 1), 0, []),
  (44, (14, 0, 0, 0), 0, []),
  (45, (2, 0, 2, 0), 0, []),
  (46, (9, 22, 4, 2), 0, []),
  (49, (14, 0, 0, 0), 0, []),
  (50, (2, 0, 2, 0), 0, []),
  (51, (9, 25, 4, 3), 0, []),
  (54, (14, 0, 0, 0), 0, []),
  (55, (2, 0, 2, 0), 0, []),
  (56, (9, 28, 4, 4), 0, []),
  (59, (14, 0, 0, 0), 0, []),
  (60, (2, 0, 2, 0), 0, []),
  (61, (9, 31, 4, 5), 0, []),
  (64, (14, 0, 0, 0), 0, []),
  (65, (2, 0, 2, 0), 0, []),
  (66, (9, 34, 4, 6), 0, []),
  (69, (14, 0, 0, 0), 0, []),
  (70, (1, 0, 1, 0), (-2), []),
  (72, (14, 0, 0, 0), 0, [])]
abbrev m_X4_property : Nat := 22
/-- NameMaps$Router.moveToFront(I)V: 33 entries; loop heads [18] -/
def co_X4_moveToFront : List Ent := [(0, (2, 0, 2, 0), 0, []),
  (1, (2, 1, 0, 0), 0, []),
  (2, (13, 41, 21, 0), 0, [(2, 4)]),
  (5, (6, 9, 1, 0), 0, []),
  (8, (14, 1, 0, 0), 0, []),
  (9, (2, 0, 2, 0), 0, []),
  (10, (9, 11, 4, 0), 0, []),
  (13, (2, 1, 0, 0), 0, []),
  (14, (11, 2, 0, 0), 0, []),
  (15, (3, 2, 2, 0), 0, []),
  (16, (2, 1, 0, 0), 0, []),
  (17, (3, 3, 0, 0), 0, []),
  (18, (0, 4, 0, 0), 0, []),
  (18, (2, 3, 0, 0), 0, []),
  (19, (6, 42, 5, 0), 0, []),
  (22, (2, 0, 2, 0), 0, []),
  (23, (9, 11, 4, 0), 0, []),
  (26, (2, 3, 0, 0), 0, []),
  (27, (2, 0, 2, 0), 0, []),
  (28, (9, 11, 4, 0), 0, []),
  (31, (2, 3, 0, 0), 0, []),
  (32, (1, 0, 0, 0), nI 1, []),
  (33, (4, 1, 0, 0), 0, []),
  (34, (11, 2, 0, 0), 0, []),
  (35, (12, 2, 0, 0), 0, []),
  (36, (5, 3, 0, 0), (-1), []),
  (39, (8, 18, 0, 0), 0, []),
  (42, (2, 0, 2, 0), 0, []),
  (43, (9, 11, 4, 0), 0, []),
  (46, (1, 0, 0, 0), nI 0, []),
  (47, (2, 2, 2, 0), 0, []),
  (48, (12, 2, 0, 0), 0, []),
  (49, (14, 1, 0, 0), 0, [])]
abbrev m_X4_moveToFront : Nat := 23
/-- NameMaps$Router.drop(I)V: 44 entries; loop heads [18] -/
def co_X4_drop : List Ent := [(0, (2, 0, 2, 0), 0, []),
  (1, (2, 1, 0, 0), 0, []),
  (2, (13, 41, 21, 0), 0, [(2, 4)]),
  (5, (6, 9, 1, 0), 0, []),
  (8, (14, 1, 0, 0), 0, []),
  (9, (2, 0, 2, 0), 0, []),
  (10, (9, 11, 4, 0), 0, []),
  (13, (2, 1, 0, 0), 0, []),
  (14, (11, 2, 0, 0), 0, []),
  (15, (3, 2, 2, 0), 0, []),
  (16, (2, 1, 0, 0), 0, []),
  (17, (3, 3, 0, 0), 0, []),
  (18, (0, 4, 0, 0), 0, []),
  (18, (2, 3, 0, 0), 0, []),
  (19, (2, 0, 2, 0), 0, []),
  (20, (9, 18, 4, 1), 0, []),
  (23, (1, 0, 0, 0), nI 1, []),
  (24, (4, 1, 0, 0), 0, []),
  (25, (7, 48, 3, 0), 0, []),
  (28, (2, 0, 2, 0), 0, []),
  (29, (9, 11, 4, 0), 0, []),
  (32, (2, 3, 0, 0), 0, []),
  (33, (2, 0, 2, 0), 0, []),
  (34, (9, 11, 4, 0), 0, []),
  (37, (2, 3, 0, 0), 0, []),
  (38, (1, 0, 0, 0), nI 1, []),
  (39, (4, 0, 0, 0), 0, []),
  (40, (11, 2, 0, 0), 0, []),
  (41, (12, 2, 0, 0), 0, []),
  (42, (5, 3, 0, 0), nI 1, []),
  (45, (8, 18, 0, 0), 0, []),
  (48, (2, 0, 2, 0), 0, []),
  (49, (15, 0, 0, 0), 0, []),
  (50, (9, 18, 4, 1), 0, []),
  (53, (1, 0, 0, 0), nI 1, []),
  (54, (4, 1, 0, 0), 0, []),
  (55, (10, 18, 4, 1), 0, []),
  (58, (2, 0, 2, 0), 0, []),
  (59, (9, 11, 4, 0), 0, []),
  (62, (2, 0, 2, 0), 0, []),
  (63, (9, 18, 4, 1), 0, []),
  (66, (2, 2, 2, 0), 0, []),
  (67, (12, 2, 0, 0), 0, []),
  (68, (14, 1, 0, 0), 0, [])]
abbrev m_X4_drop : Nat := 24
/-- NameMaps$Router.dropEnded(I)V: 22 entries; loop heads [2] -/
def co_X4_dropEnded : List Ent := [(0, (1, 0, 0, 0), nI 4, []),
  (1, (3, 2, 0, 0), 0, []),
  (2, (0, 3, 0, 0), 0, []),
  (2, (2, 2, 0, 0), 0, []),
  (3, (6, 38, 2, 0), 0, []),
  (6, (2, 0, 2, 0), 0, []),
  (7, (2, 2, 0, 0), 0, []),
  (8, (13, 41, 21, 0), 0, [(2, 4)]),
  (11, (6, 32, 0, 0), 0, []),
  (14, (2, 0, 2, 0), 0, []),
  (15, (9, 11, 4, 0), 0, []),
  (18, (2, 2, 0, 0), 0, []),
  (19, (11, 2, 0, 0), 0, []),
  (20, (2, 1, 0, 0), 0, []),
  (21, (13, 45, 11, 0), 0, [(2, 2)]),
  (24, (6, 32, 1, 0), 0, []),
  (27, (2, 0, 2, 0), 0, []),
  (28, (2, 2, 0, 0), 0, []),
  (29, (13, 48, 24, 0), 0, [(2, 4)]),
  (32, (5, 2, 0, 0), (-1), []),
  (35, (8, 2, 0, 0), 0, []),
  (38, (14, 1, 0, 0), 0, [])]
abbrev m_X4_dropEnded : Nat := 25
/-- NameMaps$Router.placeOfSite(I)I: 20 entries; loop heads [2] -/
def co_X4_placeOfSite : List Ent := [(0, (1, 0, 0, 0), nI 0, []),
  (1, (3, 2, 0, 0), 0, []),
  (2, (0, 3, 0, 0), 0, []),
  (2, (2, 2, 0, 0), 0, []),
  (3, (2, 0, 2, 0), 0, []),
  (4, (9, 18, 4, 1), 0, []),
  (7, (7, 31, 3, 0), 0, []),
  (10, (2, 0, 2, 0), 0, []),
  (11, (9, 11, 4, 0), 0, []),
  (14, (2, 2, 0, 0), 0, []),
  (15, (11, 2, 0, 0), 0, []),
  (16, (9, 52, 2, 2), 0, []),
  (19, (2, 1, 0, 0), 0, []),
  (20, (7, 25, 1, 0), 0, []),
  (23, (2, 2, 0, 0), 0, []),
  (24, (14, 0, 0, 0), 0, []),
  (25, (5, 2, 0, 0), nI 1, []),
  (28, (8, 2, 0, 0), 0, []),
  (31, (1, 0, 0, 0), (-1), []),
  (32, (14, 0, 0, 0), 0, [])]
abbrev m_X4_placeOfSite : Nat := 26
/-- NameMaps$Router.placeOfSmallest(I)I: 34 entries; loop heads [9] -/
def co_X4_placeOfSmallest : List Ent := [(0, (1, 0, 0, 0), (-1), []),
  (1, (3, 2, 0, 0), 0, []),
  (2, (1, 0, 2, 0), nI 257, []),
  (5, (3, 3, 0, 0), 0, []),
  (6, (1, 0, 0, 0), nI 0, []),
  (7, (3, 4, 1, 0), 0, []),
  (9, (0, 5, 0, 0), 0, []),
  (9, (2, 4, 1, 0), 0, []),
  (11, (2, 0, 2, 0), 0, []),
  (12, (9, 18, 4, 1), 0, []),
  (15, (7, 63, 3, 0), 0, []),
  (18, (2, 0, 2, 0), 0, []),
  (19, (9, 11, 4, 0), 0, []),
  (22, (2, 4, 1, 0), 0, []),
  (24, (11, 2, 0, 0), 0, []),
  (25, (9, 55, 2, 0), 0, []),
  (28, (3, 5, 3, 0), 0, []),
  (30, (2, 5, 3, 0), 0, []),
  (32, (2, 1, 0, 0), 0, []),
  (33, (13, 59, 5, 0), 0, [(2, 1)]),
  (36, (6, 57, 0, 0), 0, []),
  (39, (2, 5, 3, 0), 0, []),
  (41, (9, 64, 1, 1), 0, []),
  (44, (2, 3, 0, 0), 0, []),
  (45, (7, 57, 3, 0), 0, []),
  (48, (2, 4, 1, 0), 0, []),
  (50, (3, 2, 0, 0), 0, []),
  (51, (2, 5, 3, 0), 0, []),
  (53, (9, 64, 1, 1), 0, []),
  (56, (3, 3, 0, 0), 0, []),
  (57, (5, 4, 0, 0), nI 1, []),
  (60, (8, 9, 0, 0), 0, []),
  (63, (2, 2, 0, 0), 0, []),
  (64, (14, 0, 0, 0), 0, [])]
abbrev m_X4_placeOfSmallest : Nat := 27
/-- NameMaps$Router.addMap(ILNameMaps$Site;I)V: 34 entries; loop heads [] -/
def co_X4_addMap : List Ent := [(0, (2, 0, 2, 0), 0, []),
  (1, (2, 0, 2, 0), 0, []),
  (2, (2, 1, 0, 0), 0, []),
  (3, (13, 67, 26, 0), 0, [(2, 4)]),
  (6, (13, 48, 24, 0), 0, [(2, 4)]),
  (9, (2, 0, 2, 0), 0, []),
  (10, (9, 18, 4, 1), 0, []),
  (13, (1, 0, 0, 0), nI 5, []),
  (14, (7, 22, 2, 0), 0, []),
  (17, (2, 0, 2, 0), 0, []),
  (18, (1, 0, 0, 0), nI 4, []),
  (19, (13, 48, 24, 0), 0, [(2, 4)]),
  (22, (2, 0, 2, 0), 0, []),
  (23, (9, 11, 4, 0), 0, []),
  (26, (2, 0, 2, 0), 0, []),
  (27, (9, 18, 4, 1), 0, []),
  (30, (11, 2, 0, 0), 0, []),
  (31, (2, 1, 0, 0), 0, []),
  (32, (2, 2, 2, 0), 0, []),
  (33, (2, 3, 0, 0), 0, []),
  (34, (13, 71, 9, 0), 0, [(4, 2)]),
  (37, (2, 0, 2, 0), 0, []),
  (38, (15, 0, 0, 0), 0, []),
  (39, (9, 18, 4, 1), 0, []),
  (42, (1, 0, 0, 0), nI 1, []),
  (43, (4, 0, 0, 0), 0, []),
  (44, (10, 18, 4, 1), 0, []),
  (47, (2, 0, 2, 0), 0, []),
  (48, (2, 0, 2, 0), 0, []),
  (49, (9, 18, 4, 1), 0, []),
  (52, (1, 0, 0, 0), nI 1, []),
  (53, (4, 1, 0, 0), 0, []),
  (54, (13, 75, 23, 0), 0, [(2, 4)]),
  (57, (14, 1, 0, 0), 0, [])]
abbrev m_X4_addMap : Nat := 28
/-- NameMaps$Server.<init>()V: 11 entries; loop heads [] -/
def co_X5_init : List Ent := [(0, (2, 0, 2, 0), 0, []),
  (1, (24, 3, 999, 0), 0, []),
  (4, (2, 0, 2, 0), 0, []),
  (5, (21, 9, 1, 0), 0, []),
  (8, (15, 0, 0, 0), 0, []),
  (9, (24, 11, 1, 1), 0, [(1, 0)]),
  (12, (10, 12, 5, 0), 0, []),
  (15, (2, 0, 2, 0), 0, []),
  (16, (1, 0, 1, 0), (-5), []),
  (18, (10, 18, 5, 1), 0, []),
  (21, (14, 1, 0, 0), 0, [])]
abbrev m_X5_init : Nat := 29
/-- NameMaps$Server.copyFrom(LNameMaps$Server;)V: 10 entries; loop heads [] -/
def co_X5_copyFrom : List Ent := [(0, (2, 0, 2, 0), 0, []),
  (1, (9, 12, 5, 0), 0, []),
  (4, (2, 1, 2, 0), 0, []),
  (5, (9, 12, 5, 0), 0, []),
  (8, (13, 22, 3, 0), 0, [(2, 1)]),
  (11, (2, 0, 2, 0), 0, []),
  (12, (2, 1, 2, 0), 0, []),
  (13, (9, 18, 5, 1), 0, []),
  (16, (10, 18, 5, 1), 0, []),
  (19, (14, 1, 0, 0), 0, [])]
abbrev m_X5_copyFrom : Nat := 30
/-- NameMaps$Site.<init>()V: 13 entries; loop heads [] -/
def co_X6_init : List Ent := [(0, (2, 0, 2, 0), 0, []),
  (1, (24, 3, 999, 0), 0, []),
  (4, (2, 0, 2, 0), 0, []),
  (5, (21, 9, 1, 0), 0, []),
  (8, (15, 0, 0, 0), 0, []),
  (9, (24, 11, 1, 1), 0, [(1, 0)]),
  (12, (10, 12, 6, 0), 0, []),
  (15, (2, 0, 2, 0), 0, []),
  (16, (21, 18, 7, 0), 0, []),
  (19, (15, 0, 0, 0), 0, []),
  (20, (24, 20, 36, 1), 0, [(1, 0)]),
  (23, (10, 21, 6, 1), 0, []),
  (26, (14, 1, 0, 0), 0, [])]
abbrev m_X6_init : Nat := 31
/-- NameMaps$Site.start(III)V: 30 entries; loop heads [27] -/
def co_X6_start : List Ent := [(0, (2, 0, 2, 0), 0, []),
  (1, (9, 12, 6, 0), 0, []),
  (4, (2, 1, 0, 0), 0, []),
  (5, (2, 2, 0, 0), 0, []),
  (6, (13, 25, 2, 0), 0, [(3, 1)]),
  (9, (2, 0, 2, 0), 0, []),
  (10, (2, 3, 0, 0), 0, []),
  (11, (10, 29, 6, 2), 0, []),
  (14, (2, 0, 2, 0), 0, []),
  (15, (1, 0, 0, 0), nI 1, []),
  (16, (10, 33, 6, 3), 0, []),
  (19, (2, 0, 2, 0), 0, []),
  (20, (1, 0, 0, 0), nI 0, []),
  (21, (10, 36, 6, 4), 0, []),
  (24, (1, 0, 0, 0), nI 0, []),
  (25, (3, 4, 1, 0), 0, []),
  (27, (0, 5, 0, 0), 0, []),
  (27, (2, 4, 1, 0), 0, []),
  (29, (1, 0, 0, 0), nI 3, []),
  (30, (7, 51, 3, 0), 0, []),
  (33, (2, 0, 2, 0), 0, []),
  (34, (9, 21, 6, 1), 0, []),
  (37, (2, 4, 1, 0), 0, []),
  (39, (1, 0, 0, 0), nI 0, []),
  (40, (1, 0, 0, 0), nI 0, []),
  (41, (1, 0, 0, 0), nI 0, []),
  (42, (13, 39, 38, 0), 0, [(5, 7)]),
  (45, (5, 4, 0, 0), nI 1, []),
  (48, (8, 27, 0, 0), 0, []),
  (51, (14, 1, 0, 0), 0, [])]
abbrev m_X6_start : Nat := 32
/-- NameMaps$Site.copyFrom(LNameMaps$Site;)V: 23 entries; loop heads [] -/
def co_X6_copyFrom : List Ent := [(0, (2, 0, 2, 0), 0, []),
  (1, (9, 12, 6, 0), 0, []),
  (4, (2, 1, 2, 0), 0, []),
  (5, (9, 12, 6, 0), 0, []),
  (8, (13, 43, 3, 0), 0, [(2, 1)]),
  (11, (2, 0, 2, 0), 0, []),
  (12, (9, 21, 6, 1), 0, []),
  (15, (2, 1, 2, 0), 0, []),
  (16, (9, 21, 6, 1), 0, []),
  (19, (13, 47, 37, 0), 0, [(2, 7)]),
  (22, (2, 0, 2, 0), 0, []),
  (23, (2, 1, 2, 0), 0, []),
  (24, (9, 29, 6, 2), 0, []),
  (27, (10, 29, 6, 2), 0, []),
  (30, (2, 0, 2, 0), 0, []),
  (31, (2, 1, 2, 0), 0, []),
  (32, (9, 33, 6, 3), 0, []),
  (35, (10, 33, 6, 3), 0, []),
  (38, (2, 0, 2, 0), 0, []),
  (39, (2, 1, 2, 0), 0, []),
  (40, (9, 36, 6, 4), 0, []),
  (43, (10, 36, 6, 4), 0, []),
  (46, (14, 1, 0, 0), 0, [])]
abbrev m_X6_copyFrom : Nat := 33
/-- NameMaps$Site.isRegistered(I)Z: 8 entries; loop heads [] -/
def co_X6_isRegistered : List Ent := [(0, (2, 1, 0, 0), 0, []),
  (1, (2, 0, 2, 0), 0, []),
  (2, (9, 36, 6, 4), 0, []),
  (5, (7, 12, 3, 0), 0, []),
  (8, (1, 0, 0, 0), nI 1, []),
  (9, (8, 13, 0, 0), 0, []),
  (12, (1, 0, 0, 0), nI 0, []),
  (13, (14, 0, 0, 0), 0, [])]
abbrev m_X6_isRegistered : Nat := 34
/-- NameMaps$Site.isUp(I)Z: 12 entries; loop heads [] -/
def co_X6_isUp : List Ent := [(0, (2, 0, 2, 0), 0, []),
  (1, (2, 1, 0, 0), 0, []),
  (2, (13, 50, 34, 0), 0, [(2, 6)]),
  (5, (6, 22, 0, 0), 0, []),
  (8, (2, 0, 2, 0), 0, []),
  (9, (9, 21, 6, 1), 0, []),
  (12, (13, 54, 41, 0), 0, [(1, 7)]),
  (15, (6, 22, 1, 0), 0, []),
  (18, (1, 0, 0, 0), nI 1, []),
  (19, (8, 23, 0, 0), 0, []),
  (22, (1, 0, 0, 0), nI 0, []),
  (23, (14, 0, 0, 0), 0, [])]
abbrev m_X6_isUp : Nat := 35
/-- NameMaps$Slots.<init>()V: 7 entries; loop heads [] -/
def co_X7_init : List Ent := [(0, (2, 0, 2, 0), 0, []),
  (1, (24, 3, 999, 0), 0, []),
  (4, (2, 0, 2, 0), 0, []),
  (5, (1, 0, 1, 0), nI 9, []),
  (7, (22, 0, 0, 0), 0, []),
  (9, (10, 11, 7, 0), 0, []),
  (12, (14, 1, 0, 0), 0, [])]
abbrev m_X7_init : Nat := 36
/-- NameMaps$Slots.copyFrom(LNameMaps$Slots;)V: 17 entries; loop heads [2] -/
def co_X7_copyFrom : List Ent := [(0, (1, 0, 0, 0), nI 0, []),
  (1, (3, 2, 0, 0), 0, []),
  (2, (0, 3, 0, 0), 0, []),
  (2, (2, 2, 0, 0), 0, []),
  (3, (1, 0, 1, 0), nI 9, []),
  (5, (7, 26, 3, 0), 0, []),
  (8, (2, 0, 2, 0), 0, []),
  (9, (9, 11, 7, 0), 0, []),
  (12, (2, 2, 0, 0), 0, []),
  (13, (2, 1, 2, 0), 0, []),
  (14, (9, 11, 7, 0), 0, []),
  (17, (2, 2, 0, 0), 0, []),
  (18, (11, 0, 0, 0), 0, []),
  (19, (12, 0, 0, 0), 0, []),
  (20, (5, 2, 0, 0), nI 1, []),
  (23, (8, 2, 0, 0), 0, []),
  (26, (14, 1, 0, 0), 0, [])]
abbrev m_X7_copyFrom : Nat := 37
/-- NameMaps$Slots.fill(IIII)V: 32 entries; loop heads [] -/
def co_X7_fill : List Ent := [(0, (2, 1, 0, 0), 0, []),
  (1, (13, 15, 107, 2), 0, [(1, 9)]),
  (4, (6, 8, 1, 0), 0, []),
  (7, (14, 1, 0, 0), 0, []),
  (8, (2, 0, 2, 0), 0, []),
  (9, (9, 11, 7, 0), 0, []),
  (12, (2, 1, 0, 0), 0, []),
  (13, (1, 0, 0, 0), nI 3, []),
  (14, (4, 2, 0, 0), 0, []),
  (15, (1, 0, 0, 0), nI 0, []),
  (16, (4, 0, 0, 0), 0, []),
  (17, (2, 2, 0, 0), 0, []),
  (18, (12, 0, 0, 0), 0, []),
  (19, (2, 0, 2, 0), 0, []),
  (20, (9, 11, 7, 0), 0, []),
  (23, (2, 1, 0, 0), 0, []),
  (24, (1, 0, 0, 0), nI 3, []),
  (25, (4, 2, 0, 0), 0, []),
  (26, (1, 0, 0, 0), nI 1, []),
  (27, (4, 0, 0, 0), 0, []),
  (28, (2, 3, 0, 0), 0, []),
  (29, (12, 0, 0, 0), 0, []),
  (30, (2, 0, 2, 0), 0, []),
  (31, (9, 11, 7, 0), 0, []),
  (34, (2, 1, 0, 0), 0, []),
  (35, (1, 0, 0, 0), nI 3, []),
  (36, (4, 2, 0, 0), 0, []),
  (37, (1, 0, 0, 0), nI 2, []),
  (38, (4, 0, 0, 0), 0, []),
  (39, (2, 4, 1, 0), 0, []),
  (41, (12, 0, 0, 0), 0, []),
  (42, (14, 1, 0, 0), 0, [])]
abbrev m_X7_fill : Nat := 38
/-- NameMaps$Slots.propertyOf(II)I: 22 entries; loop heads [] -/
def co_X7_propertyOf : List Ent := [(0, (2, 2, 0, 0), 0, []),
  (1, (6, 9, 2, 0), 0, []),
  (4, (2, 2, 0, 0), 0, []),
  (5, (1, 0, 0, 0), nI 3, []),
  (6, (7, 12, 2, 0), 0, []),
  (9, (1, 0, 1, 0), (-2), []),
  (11, (14, 0, 0, 0), 0, []),
  (12, (2, 0, 2, 0), 0, []),
  (13, (2, 1, 0, 0), 0, []),
  (14, (13, 19, 40, 0), 0, [(2, 7)]),
  (17, (6, 25, 0, 0), 0, []),
  (20, (1, 0, 1, 0), (-5), []),
  (22, (8, 35, 0, 0), 0, []),
  (25, (2, 0, 2, 0), 0, []),
  (26, (9, 11, 7, 0), 0, []),
  (29, (2, 1, 0, 0), 0, []),
  (30, (1, 0, 0, 0), nI 3, []),
  (31, (4, 2, 0, 0), 0, []),
  (32, (2, 2, 0, 0), 0, []),
  (33, (4, 0, 0, 0), 0, []),
  (34, (11, 0, 0, 0), 0, []),
  (35, (14, 0, 0, 0), 0, [])]
abbrev m_X7_propertyOf : Nat := 39
/-- NameMaps$Slots.isEmpty(I)Z: 18 entries; loop heads [] -/
def co_X7_isEmpty : List Ent := [(0, (2, 1, 0, 0), 0, []),
  (1, (6, 22, 2, 0), 0, []),
  (4, (2, 1, 0, 0), 0, []),
  (5, (1, 0, 0, 0), nI 3, []),
  (6, (7, 22, 3, 0), 0, []),
  (9, (2, 0, 2, 0), 0, []),
  (10, (9, 11, 7, 0), 0, []),
  (13, (2, 1, 0, 0), 0, []),
  (14, (1, 0, 0, 0), nI 3, []),
  (15, (4, 2, 0, 0), 0, []),
  (16, (1, 0, 0, 0), nI 2, []),
  (17, (4, 0, 0, 0), 0, []),
  (18, (11, 0, 0, 0), 0, []),
  (19, (6, 26, 1, 0), 0, []),
  (22, (1, 0, 0, 0), nI 1, []),
  (23, (8, 27, 0, 0), 0, []),
  (26, (1, 0, 0, 0), nI 0, []),
  (27, (14, 0, 0, 0), 0, [])]
abbrev m_X7_isEmpty : Nat := 40
/-- NameMaps$Slots.areEmpty()Z: 27 entries; loop heads [4] -/
def co_X7_areEmpty : List Ent := [(0, (1, 0, 0, 0), nI 0, []),
  (1, (3, 1, 0, 0), 0, []),
  (2, (1, 0, 0, 0), nI 0, []),
  (3, (3, 2, 0, 0), 0, []),
  (4, (0, 3, 0, 0), 0, []),
  (4, (2, 2, 0, 0), 0, []),
  (5, (1, 0, 0, 0), nI 3, []),
  (6, (7, 28, 3, 0), 0, []),
  (9, (2, 1, 0, 0), 0, []),
  (10, (2, 0, 2, 0), 0, []),
  (11, (9, 11, 7, 0), 0, []),
  (14, (2, 2, 0, 0), 0, []),
  (15, (1, 0, 0, 0), nI 3, []),
  (16, (4, 2, 0, 0), 0, []),
  (17, (1, 0, 0, 0), nI 2, []),
  (18, (4, 0, 0, 0), 0, []),
  (19, (11, 0, 0, 0), 0, []),
  (20, (4, 0, 0, 0), 0, []),
  (21, (3, 1, 0, 0), 0, []),
  (22, (5, 2, 0, 0), nI 1, []),
  (25, (8, 4, 0, 0), 0, []),
  (28, (2, 1, 0, 0), 0, []),
  (29, (6, 36, 1, 0), 0, []),
  (32, (1, 0, 0, 0), nI 1, []),
  (33, (8, 37, 0, 0), 0, []),
  (36, (1, 0, 0, 0), nI 0, []),
  (37, (14, 0, 0, 0), 0, [])]
abbrev m_X7_areEmpty : Nat := 41
/-- NameMaps$Slots.have(I)Z: 26 entries; loop heads [2] -/
def co_X7_have : List Ent := [(0, (1, 0, 0, 0), nI 0, []),
  (1, (3, 2, 0, 0), 0, []),
  (2, (0, 3, 0, 0), 0, []),
  (2, (2, 2, 0, 0), 0, []),
  (3, (1, 0, 0, 0), nI 3, []),
  (4, (7, 37, 3, 0), 0, []),
  (7, (2, 0, 2, 0), 0, []),
  (8, (2, 2, 0, 0), 0, []),
  (9, (13, 19, 40, 0), 0, [(2, 7)]),
  (12, (6, 31, 1, 0), 0, []),
  (15, (2, 0, 2, 0), 0, []),
  (16, (9, 11, 7, 0), 0, []),
  (19, (2, 2, 0, 0), 0, []),
  (20, (1, 0, 0, 0), nI 3, []),
  (21, (4, 2, 0, 0), 0, []),
  (22, (1, 0, 0, 0), nI 0, []),
  (23, (4, 0, 0, 0), 0, []),
  (24, (11, 0, 0, 0), 0, []),
  (25, (2, 1, 0, 0), 0, []),
  (26, (7, 31, 1, 0), 0, []),
  (29, (1, 0, 0, 0), nI 1, []),
  (30, (14, 0, 0, 0), 0, []),
  (31, (5, 2, 0, 0), nI 1, []),
  (34, (8, 2, 0, 0), 0, []),
  (37, (1, 0, 0, 0), nI 0, []),
  (38, (14, 0, 0, 0), 0, [])]
abbrev m_X7_have : Nat := 42
/-- NameMaps$Slots.lowestPriority()I: 27 entries; loop heads [5] -/
def co_X7_lowestPriority : List Ent := [(0, (1, 0, 1, 0), nI 10, []),
  (2, (3, 1, 0, 0), 0, []),
  (3, (1, 0, 0, 0), nI 0, []),
  (4, (3, 2, 0, 0), 0, []),
  (5, (0, 3, 0, 0), 0, []),
  (5, (2, 2, 0, 0), 0, []),
  (6, (1, 0, 0, 0), nI 3, []),
  (7, (7, 39, 3, 0), 0, []),
  (10, (2, 0, 2, 0), 0, []),
  (11, (2, 2, 0, 0), 0, []),
  (12, (13, 19, 40, 0), 0, [(2, 7)]),
  (15, (6, 33, 1, 0), 0, []),
  (18, (2, 1, 0, 0), 0, []),
  (19, (2, 0, 2, 0), 0, []),
  (20, (9, 11, 7, 0), 0, []),
  (23, (2, 2, 0, 0), 0, []),
  (24, (1, 0, 0, 0), nI 3, []),
  (25, (4, 2, 0, 0), 0, []),
  (26, (1, 0, 0, 0), nI 1, []),
  (27, (4, 0, 0, 0), 0, []),
  (28, (11, 0, 0, 0), 0, []),
  (29, (20, 22, 0, 0), 0, []),
  (32, (3, 1, 0, 0), 0, []),
  (33, (5, 2, 0, 0), nI 1, []),
  (36, (8, 5, 0, 0), 0, []),
  (39, (2, 1, 0, 0), 0, []),
  (40, (14, 0, 0, 0), 0, [])]
abbrev m_X7_lowestPriority : Nat := 43
/-- NameMaps$Slots.weightThatCounts(II)I: 25 entries; loop heads [] -/
def co_X7_weightThatCounts : List Ent := [(0, (2, 0, 2, 0), 0, []),
  (1, (2, 1, 0, 0), 0, []),
  (2, (13, 19, 40, 0), 0, [(2, 7)]),
  (5, (6, 22, 1, 0), 0, []),
  (8, (2, 0, 2, 0), 0, []),
  (9, (9, 11, 7, 0), 0, []),
  (12, (2, 1, 0, 0), 0, []),
  (13, (1, 0, 0, 0), nI 3, []),
  (14, (4, 2, 0, 0), 0, []),
  (15, (1, 0, 0, 0), nI 1, []),
  (16, (4, 0, 0, 0), 0, []),
  (17, (11, 0, 0, 0), 0, []),
  (18, (2, 2, 0, 0), 0, []),
  (19, (7, 24, 0, 0), 0, []),
  (22, (1, 0, 0, 0), nI 0, []),
  (23, (14, 0, 0, 0), 0, []),
  (24, (2, 0, 2, 0), 0, []),
  (25, (9, 11, 7, 0), 0, []),
  (28, (2, 1, 0, 0), 0, []),
  (29, (1, 0, 0, 0), nI 3, []),
  (30, (4, 2, 0, 0), 0, []),
  (31, (1, 0, 0, 0), nI 2, []),
  (32, (4, 0, 0, 0), 0, []),
  (33, (11, 0, 0, 0), 0, []),
  (34, (14, 0, 0, 0), 0, [])]
abbrev m_X7_weightThatCounts : Nat := 44
/-- NameMaps$Slots.placeFor(I)I: 59 entries; loop heads [10, 49] -/
def co_X7_placeFor : List Ent := [(0, (2, 0, 2, 0), 0, []),
  (1, (13, 28, 43, 0), 0, [(1, 7)]),
  (4, (3, 2, 0, 0), 0, []),
  (5, (1, 0, 0, 0), nI 0, []),
  (6, (3, 3, 0, 0), 0, []),
  (7, (1, 0, 0, 0), nI 0, []),
  (8, (3, 4, 1, 0), 0, []),
  (10, (0, 5, 0, 0), 0, []),
  (10, (2, 4, 1, 0), 0, []),
  (12, (1, 0, 0, 0), nI 3, []),
  (13, (7, 32, 3, 0), 0, []),
  (16, (2, 3, 0, 0), 0, []),
  (17, (2, 0, 2, 0), 0, []),
  (18, (2, 4, 1, 0), 0, []),
  (20, (2, 2, 0, 0), 0, []),
  (21, (13, 32, 44, 0), 0, [(3, 7)]),
  (24, (4, 0, 0, 0), 0, []),
  (25, (3, 3, 0, 0), 0, []),
  (26, (5, 4, 0, 0), nI 1, []),
  (29, (8, 10, 0, 0), 0, []),
  (32, (2, 3, 0, 0), 0, []),
  (33, (6, 38, 4, 0), 0, []),
  (36, (1, 0, 0, 0), (-1), []),
  (37, (14, 0, 0, 0), 0, []),
  (38, (2, 1, 0, 0), 0, []),
  (39, (2, 3, 0, 0), 0, []),
  (40, (4, 4, 0, 0), 0, []),
  (41, (3, 4, 1, 0), 0, []),
  (43, (1, 0, 0, 0), nI 0, []),
  (44, (3, 5, 1, 0), 0, []),
  (46, (1, 0, 0, 0), nI 0, []),
  (47, (3, 6, 1, 0), 0, []),
  (49, (0, 7, 0, 0), 0, []),
  (49, (2, 6, 1, 0), 0, []),
  (51, (1, 0, 0, 0), nI 3, []),
  (52, (7, 92, 3, 0), 0, []),
  (55, (2, 5, 1, 0), 0, []),
  (57, (2, 0, 2, 0), 0, []),
  (58, (2, 6, 1, 0), 0, []),
  (60, (2, 2, 0, 0), 0, []),
  (61, (13, 32, 44, 0), 0, [(3, 7)]),
  (64, (4, 0, 0, 0), 0, []),
  (65, (3, 5, 1, 0), 0, []),
  (67, (2, 5, 1, 0), 0, []),
  (69, (2, 4, 1, 0), 0, []),
  (71, (7, 86, 5, 0), 0, []),
  (74, (2, 0, 2, 0), 0, []),
  (75, (9, 11, 7, 0), 0, []),
  (78, (2, 6, 1, 0), 0, []),
  (80, (1, 0, 0, 0), nI 3, []),
  (81, (4, 2, 0, 0), 0, []),
  (82, (1, 0, 0, 0), nI 0, []),
  (83, (4, 0, 0, 0), 0, []),
  (84, (11, 0, 0, 0), 0, []),
  (85, (14, 0, 0, 0), 0, []),
  (86, (5, 6, 0, 0), nI 1, []),
  (89, (8, 49, 0, 0), 0, []),
  (92, (1, 0, 0, 0), (-1), []),
  (93, (14, 0, 0, 0), 0, [])]
abbrev m_X7_placeFor : Nat := 45
/-- NameMaps$World.<init>()V: 74 entries; loop heads [43, 86, 113] -/
def co_X8_init : List Ent := [(0, (2, 0, 2, 0), 0, []),
  (1, (24, 3, 999, 0), 0, []),
  (4, (2, 0, 2, 0), 0, []),
  (5, (1, 0, 1, 0), nI 8, []),
  (7, (23, 9, 5, 0), 0, []),
  (10, (10, 11, 8, 0), 0, []),
  (13, (2, 0, 2, 0), 0, []),
  (14, (1, 0, 1, 0), nI 8, []),
  (16, (23, 17, 6, 0), 0, []),
  (19, (10, 19, 8, 1), 0, []),
  (22, (2, 0, 2, 0), 0, []),
  (23, (1, 0, 0, 0), nI 4, []),
  (24, (23, 23, 4, 0), 0, []),
  (27, (10, 25, 8, 2), 0, []),
  (30, (2, 0, 2, 0), 0, []),
  (31, (1, 0, 0, 0), nI 1, []),
  (32, (10, 29, 8, 3), 0, []),
  (35, (2, 0, 2, 0), 0, []),
  (36, (1, 0, 1, 0), nI 10, []),
  (38, (10, 33, 8, 7), 0, []),
  (41, (1, 0, 0, 0), nI 0, []),
  (42, (3, 1, 0, 0), 0, []),
  (43, (0, 2, 0, 0), 0, []),
  (43, (2, 1, 0, 0), 0, []),
  (44, (1, 0, 1, 0), nI 8, []),
  (46, (7, 68, 3, 0), 0, []),
  (49, (2, 0, 2, 0), 0, []),
  (50, (9, 11, 8, 0), 0, []),
  (53, (2, 1, 0, 0), 0, []),
  (54, (21, 9, 5, 0), 0, []),
  (57, (15, 0, 0, 0), 0, []),
  (58, (24, 36, 29, 1), 0, [(1, 0)]),
  (61, (12, 2, 0, 0), 0, []),
  (62, (5, 1, 0, 0), nI 1, []),
  (65, (8, 43, 0, 0), 0, []),
  (68, (2, 0, 2, 0), 0, []),
  (69, (9, 11, 8, 0), 0, []),
  (72, (1, 0, 0, 0), nI 0, []),
  (73, (11, 2, 0, 0), 0, []),
  (74, (9, 37, 5, 0), 0, []),
  (77, (1, 0, 0, 0), nI 0, []),
  (78, (1, 0, 2, 0), nI 256, []),
  (81, (13, 41, 2, 0), 0, [(3, 1)]),
  (84, (1, 0, 0, 0), nI 0, []),
  (85, (3, 1, 0, 0), 0, []),
  (86, (0, 2, 0, 0), 0, []),
  (86, (2, 1, 0, 0), 0, []),
  (87, (1, 0, 1, 0), nI 8, []),
  (89, (7, 111, 3, 0), 0, []),
  (92, (2, 0, 2, 0), 0, []),
  (93, (9, 19, 8, 1), 0, []),
  (96, (2, 1, 0, 0), 0, []),
  (97, (21, 17, 6, 0), 0, []),
  (100, (15, 0, 0, 0), 0, []),
  (101, (24, 47, 31, 1), 0, [(1, 0)]),
  (104, (12, 2, 0, 0), 0, []),
  (105, (5, 1, 0, 0), nI 1, []),
  (108, (8, 86, 0, 0), 0, []),
  (111, (1, 0, 0, 0), nI 0, []),
  (112, (3, 1, 0, 0), 0, []),
  (113, (0, 2, 0, 0), 0, []),
  (113, (2, 1, 0, 0), 0, []),
  (114, (1, 0, 0, 0), nI 4, []),
  (115, (7, 137, 3, 0), 0, []),
  (118, (2, 0, 2, 0), 0, []),
  (119, (9, 25, 8, 2), 0, []),
  (122, (2, 1, 0, 0), 0, []),
  (123, (21, 23, 4, 0), 0, []),
  (126, (15, 0, 0, 0), 0, []),
  (127, (24, 48, 18, 0), 0, [(1, 0)]),
  (130, (12, 2, 0, 0), 0, []),
  (131, (5, 1, 0, 0), nI 1, []),
  (134, (8, 113, 0, 0), 0, []),
  (137, (14, 1, 0, 0), 0, [])]
abbrev m_X8_init : Nat := 46
/-- NameMaps$World.copyFrom(LNameMaps$World;)V: 75 entries; loop heads [10, 49, 88] -/
def co_X8_copyFrom : List Ent := [(0, (2, 0, 2, 0), 0, []),
  (1, (2, 1, 2, 0), 0, []),
  (2, (9, 29, 8, 3), 0, []),
  (5, (10, 29, 8, 3), 0, []),
  (8, (1, 0, 0, 0), nI 0, []),
  (9, (3, 2, 0, 0), 0, []),
  (10, (0, 3, 0, 0), 0, []),
  (10, (2, 2, 0, 0), 0, []),
  (11, (2, 0, 2, 0), 0, []),
  (12, (9, 29, 8, 3), 0, []),
  (15, (7, 39, 3, 0), 0, []),
  (18, (2, 0, 2, 0), 0, []),
  (19, (9, 11, 8, 0), 0, []),
  (22, (2, 2, 0, 0), 0, []),
  (23, (11, 2, 0, 0), 0, []),
  (24, (2, 1, 2, 0), 0, []),
  (25, (9, 11, 8, 0), 0, []),
  (28, (2, 2, 0, 0), 0, []),
  (29, (11, 2, 0, 0), 0, []),
  (30, (13, 49, 30, 0), 0, [(2, 5)]),
  (33, (5, 2, 0, 0), nI 1, []),
  (36, (8, 10, 0, 0), 0, []),
  (39, (2, 0, 2, 0), 0, []),
  (40, (2, 1, 2, 0), 0, []),
  (41, (9, 53, 8, 4), 0, []),
  (44, (10, 53, 8, 4), 0, []),
  (47, (1, 0, 0, 0), nI 0, []),
  (48, (3, 2, 0, 0), 0, []),
  (49, (0, 3, 0, 0), 0, []),
  (49, (2, 2, 0, 0), 0, []),
  (50, (2, 0, 2, 0), 0, []),
  (51, (9, 53, 8, 4), 0, []),
  (54, (7, 78, 3, 0), 0, []),
  (57, (2, 0, 2, 0), 0, []),
  (58, (9, 19, 8, 1), 0, []),
  (61, (2, 2, 0, 0), 0, []),
  (62, (11, 2, 0, 0), 0, []),
  (63, (2, 1, 2, 0), 0, []),
  (64, (9, 19, 8, 1), 0, []),
  (67, (2, 2, 0, 0), 0, []),
  (68, (11, 2, 0, 0), 0, []),
  (69, (13, 56, 33, 0), 0, [(2, 6)]),
  (72, (5, 2, 0, 0), nI 1, []),
  (75, (8, 49, 0, 0), 0, []),
  (78, (2, 0, 2, 0), 0, []),
  (79, (2, 1, 2, 0), 0, []),
  (80, (9, 59, 8, 5), 0, []),
  (83, (10, 59, 8, 5), 0, []),
  (86, (1, 0, 0, 0), nI 0, []),
  (87, (3, 2, 0, 0), 0, []),
  (88, (0, 3, 0, 0), 0, []),
  (88, (2, 2, 0, 0), 0, []),
  (89, (2, 0, 2, 0), 0, []),
  (90, (9, 59, 8, 5), 0, []),
  (93, (7, 117, 3, 0), 0, []),
  (96, (2, 0, 2, 0), 0, []),
  (97, (9, 25, 8, 2), 0, []),
  (100, (2, 2, 0, 0), 0, []),
  (101, (11, 2, 0, 0), 0, []),
  (102, (2, 1, 2, 0), 0, []),
  (103, (9, 25, 8, 2), 0, []),
  (106, (2, 2, 0, 0), 0, []),
  (107, (11, 2, 0, 0), 0, []),
  (108, (13, 62, 20, 0), 0, [(2, 4)]),
  (111, (5, 2, 0, 0), nI 1, []),
  (114, (8, 88, 0, 0), 0, []),
  (117, (2, 0, 2, 0), 0, []),
  (118, (2, 1, 2, 0), 0, []),
  (119, (9, 65, 8, 6), 0, []),
  (122, (10, 65, 8, 6), 0, []),
  (125, (2, 0, 2, 0), 0, []),
  (126, (2, 1, 2, 0), 0, []),
  (127, (9, 33, 8, 7), 0, []),
  (130, (10, 33, 8, 7), 0, []),
  (133, (14, 1, 0, 0), 0, [])]
abbrev m_X8_copyFrom : Nat := 47
/-- NameMaps$World.isServer(I)Z: 13 entries; loop heads [] -/
def co_X8_isServer : List Ent := [(0, (2, 1, 0, 0), 0, []),
  (1, (6, 22, 2, 0), 0, []),
  (4, (2, 1, 0, 0), 0, []),
  (5, (2, 0, 2, 0), 0, []),
  (6, (9, 29, 8, 3), 0, []),
  (9, (7, 22, 3, 0), 0, []),
  (12, (2, 1, 0, 0), 0, []),
  (13, (1, 0, 1, 0), nI 8, []),
  (15, (7, 22, 3, 0), 0, []),
  (18, (1, 0, 0, 0), nI 1, []),
  (19, (8, 23, 0, 0), 0, []),
  (22, (1, 0, 0, 0), nI 0, []),
  (23, (14, 0, 0, 0), 0, [])]
abbrev m_X8_isServer : Nat := 48
/-- NameMaps$World.isSite(I)Z: 13 entries; loop heads [] -/
def co_X8_isSite : List Ent := [(0, (2, 1, 0, 0), 0, []),
  (1, (6, 22, 2, 0), 0, []),
  (4, (2, 1, 0, 0), 0, []),
  (5, (2, 0, 2, 0), 0, []),
  (6, (9, 53, 8, 4), 0, []),
  (9, (7, 22, 3, 0), 0, []),
  (12, (2, 1, 0, 0), 0, []),
  (13, (1, 0, 1, 0), nI 8, []),
  (15, (7, 22, 3, 0), 0, []),
  (18, (1, 0, 0, 0), nI 1, []),
  (19, (8, 23, 0, 0), 0, []),
  (22, (1, 0, 0, 0), nI 0, []),
  (23, (14, 0, 0, 0), 0, [])]
abbrev m_X8_isSite : Nat := 49
/-- NameMaps$World.isRouter(I)Z: 13 entries; loop heads [] -/
def co_X8_isRouter : List Ent := [(0, (2, 1, 0, 0), 0, []),
  (1, (6, 21, 2, 0), 0, []),
  (4, (2, 1, 0, 0), 0, []),
  (5, (2, 0, 2, 0), 0, []),
  (6, (9, 59, 8, 5), 0, []),
  (9, (7, 21, 3, 0), 0, []),
  (12, (2, 1, 0, 0), 0, []),
  (13, (1, 0, 0, 0), nI 4, []),
  (14, (7, 21, 3, 0), 0, []),
  (17, (1, 0, 0, 0), nI 1, []),
  (18, (8, 22, 0, 0), 0, []),
  (21, (1, 0, 0, 0), nI 0, []),
  (22, (14, 0, 0, 0), 0, [])]
abbrev m_X8_isRouter : Nat := 50
/-- NameMaps$World.newServer(III)I: 87 entries; loop heads [54] -/
def co_X8_newServer : List Ent := [(0, (2, 0, 2, 0), 0, []),
  (1, (2, 1, 0, 0), 0, []),
  (2, (13, 68, 48, 0), 0, [(2, 8)]),
  (5, (6, 10, 1, 0), 0, []),
  (8, (1, 0, 0, 0), (-1), []),
  (9, (14, 0, 0, 0), 0, []),
  (10, (2, 0, 2, 0), 0, []),
  (11, (9, 11, 8, 0), 0, []),
  (14, (2, 1, 0, 0), 0, []),
  (15, (11, 2, 0, 0), 0, []),
  (16, (9, 37, 5, 0), 0, []),
  (19, (3, 4, 3, 0), 0, []),
  (21, (2, 2, 0, 0), 0, []),
  (22, (2, 3, 0, 0), 0, []),
  (23, (13, 72, 111, 2), 0, [(2, 9)]),
  (26, (6, 48, 0, 0), 0, []),
  (29, (2, 4, 3, 0), 0, []),
  (31, (2, 2, 0, 0), 0, []),
  (32, (2, 3, 0, 0), 0, []),
  (33, (13, 76, 6, 0), 0, [(3, 1)]),
  (36, (6, 48, 0, 0), 0, []),
  (39, (2, 3, 0, 0), 0, []),
  (40, (2, 4, 3, 0), 0, []),
  (42, (9, 79, 1, 1), 0, []),
  (45, (7, 51, 2, 0), 0, []),
  (48, (1, 0, 1, 0), (-2), []),
  (50, (14, 0, 0, 0), 0, []),
  (51, (1, 0, 0, 0), nI 0, []),
  (52, (3, 5, 1, 0), 0, []),
  (54, (0, 6, 0, 0), 0, []),
  (54, (2, 5, 1, 0), 0, []),
  (56, (2, 0, 2, 0), 0, []),
  (57, (9, 29, 8, 3), 0, []),
  (60, (7, 104, 3, 0), 0, []),
  (63, (2, 0, 2, 0), 0, []),
  (64, (9, 11, 8, 0), 0, []),
  (67, (2, 5, 1, 0), 0, []),
  (69, (11, 2, 0, 0), 0, []),
  (70, (9, 82, 5, 1), 0, []),
  (73, (2, 1, 0, 0), 0, []),
  (74, (7, 98, 1, 0), 0, []),
  (77, (2, 0, 2, 0), 0, []),
  (78, (9, 11, 8, 0), 0, []),
  (81, (2, 5, 1, 0), 0, []),
  (83, (11, 2, 0, 0), 0, []),
  (84, (9, 37, 5, 0), 0, []),
  (87, (2, 2, 0, 0), 0, []),
  (88, (2, 3, 0, 0), 0, []),
  (89, (13, 85, 7, 0), 0, [(3, 1)]),
  (92, (6, 98, 0, 0), 0, []),
  (95, (1, 0, 1, 0), (-3), []),
  (97, (14, 0, 0, 0), 0, []),
  (98, (5, 5, 0, 0), nI 1, []),
  (101, (8, 54, 0, 0), 0, []),
  (104, (2, 0, 2, 0), 0, []),
  (105, (9, 29, 8, 3), 0, []),
  (108, (1, 0, 1, 0), nI 8, []),
  (110, (7, 116, 2, 0), 0, []),
  (113, (1, 0, 1, 0), (-4), []),
  (115, (14, 0, 0, 0), 0, []),
  (116, (2, 0, 2, 0), 0, []),
  (117, (9, 11, 8, 0), 0, []),
  (120, (2, 0, 2, 0), 0, []),
  (121, (9, 29, 8, 3), 0, []),
  (124, (11, 2, 0, 0), 0, []),
  (125, (9, 37, 5, 0), 0, []),
  (128, (2, 2, 0, 0), 0, []),
  (129, (2, 3, 0, 0), 0, []),
  (130, (13, 41, 2, 0), 0, [(3, 1)]),
  (133, (2, 0, 2, 0), 0, []),
  (134, (9, 11, 8, 0), 0, []),
  (137, (2, 0, 2, 0), 0, []),
  (138, (9, 29, 8, 3), 0, []),
  (141, (11, 2, 0, 0), 0, []),
  (142, (2, 1, 0, 0), 0, []),
  (143, (10, 82, 5, 1), 0, []),
  (146, (2, 0, 2, 0), 0, []),
  (147, (15, 0, 0, 0), 0, []),
  (148, (9, 29, 8, 3), 0, []),
  (151, (1, 0, 0, 0), nI 1, []),
  (152, (4, 0, 0, 0), 0, []),
  (153, (10, 29, 8, 3), 0, []),
  (156, (2, 0, 2, 0), 0, []),
  (157, (9, 29, 8, 3), 0, []),
  (160, (1, 0, 0, 0), nI 1, []),
  (161, (4, 1, 0, 0), 0, []),
  (162, (14, 0, 0, 0), 0, [])]
abbrev m_X8_newServer : Nat := 51
/-- NameMaps$World.newSite(III)I: 58 entries; loop heads [25] -/
def co_X8_newSite : List Ent := [(0, (2, 1, 0, 0), 0, []),
  (1, (2, 2, 0, 0), 0, []),
  (2, (13, 72, 111, 2), 0, [(2, 9)]),
  (5, (6, 19, 0, 0), 0, []),
  (8, (2, 3, 0, 0), 0, []),
  (9, (1, 0, 0, 0), nI 1, []),
  (10, (7, 19, 2, 0), 0, []),
  (13, (2, 3, 0, 0), 0, []),
  (14, (1, 0, 1, 0), nI 48, []),
  (16, (7, 22, 5, 0), 0, []),
  (19, (1, 0, 1, 0), (-2), []),
  (21, (14, 0, 0, 0), 0, []),
  (22, (1, 0, 0, 0), nI 0, []),
  (23, (3, 4, 1, 0), 0, []),
  (25, (0, 5, 0, 0), 0, []),
  (25, (2, 4, 1, 0), 0, []),
  (27, (2, 0, 2, 0), 0, []),
  (28, (9, 53, 8, 4), 0, []),
  (31, (7, 61, 3, 0), 0, []),
  (34, (2, 0, 2, 0), 0, []),
  (35, (9, 19, 8, 1), 0, []),
  (38, (2, 4, 1, 0), 0, []),
  (40, (11, 2, 0, 0), 0, []),
  (41, (9, 88, 6, 0), 0, []),
  (44, (2, 1, 0, 0), 0, []),
  (45, (2, 2, 0, 0), 0, []),
  (46, (13, 89, 4, 0), 0, [(3, 1)]),
  (49, (6, 55, 0, 0), 0, []),
  (52, (1, 0, 1, 0), (-3), []),
  (54, (14, 0, 0, 0), 0, []),
  (55, (5, 4, 0, 0), nI 1, []),
  (58, (8, 25, 0, 0), 0, []),
  (61, (2, 0, 2, 0), 0, []),
  (62, (9, 53, 8, 4), 0, []),
  (65, (1, 0, 1, 0), nI 8, []),
  (67, (7, 73, 2, 0), 0, []),
  (70, (1, 0, 1, 0), (-4), []),
  (72, (14, 0, 0, 0), 0, []),
  (73, (2, 0, 2, 0), 0, []),
  (74, (9, 19, 8, 1), 0, []),
  (77, (2, 0, 2, 0), 0, []),
  (78, (9, 53, 8, 4), 0, []),
  (81, (11, 2, 0, 0), 0, []),
  (82, (2, 1, 0, 0), 0, []),
  (83, (2, 2, 0, 0), 0, []),
  (84, (2, 3, 0, 0), 0, []),
  (85, (13, 92, 32, 0), 0, [(4, 6)]),
  (88, (2, 0, 2, 0), 0, []),
  (89, (15, 0, 0, 0), 0, []),
  (90, (9, 53, 8, 4), 0, []),
  (93, (1, 0, 0, 0), nI 1, []),
  (94, (4, 0, 0, 0), 0, []),
  (95, (10, 53, 8, 4), 0, []),
  (98, (2, 0, 2, 0), 0, []),
  (99, (9, 53, 8, 4), 0, []),
  (102, (1, 0, 0, 0), nI 1, []),
  (103, (4, 1, 0, 0), 0, []),
  (104, (14, 0, 0, 0), 0, [])]
abbrev m_X8_newSite : Nat := 52
/-- NameMaps$World.newRouter()I: 23 entries; loop heads [] -/
def co_X8_newRouter : List Ent := [(0, (2, 0, 2, 0), 0, []),
  (1, (9, 59, 8, 5), 0, []),
  (4, (1, 0, 0, 0), nI 4, []),
  (5, (7, 11, 2, 0), 0, []),
  (8, (1, 0, 1, 0), (-4), []),
  (10, (14, 0, 0, 0), 0, []),
  (11, (2, 0, 2, 0), 0, []),
  (12, (9, 25, 8, 2), 0, []),
  (15, (2, 0, 2, 0), 0, []),
  (16, (9, 59, 8, 5), 0, []),
  (19, (11, 2, 0, 0), 0, []),
  (20, (13, 96, 19, 0), 0, [(1, 4)]),
  (23, (2, 0, 2, 0), 0, []),
  (24, (15, 0, 0, 0), 0, []),
  (25, (9, 59, 8, 5), 0, []),
  (28, (1, 0, 0, 0), nI 1, []),
  (29, (4, 0, 0, 0), 0, []),
  (30, (10, 59, 8, 5), 0, []),
  (33, (2, 0, 2, 0), 0, []),
  (34, (9, 59, 8, 5), 0, []),
  (37, (1, 0, 0, 0), nI 1, []),
  (38, (4, 1, 0, 0), 0, []),
  (39, (14, 0, 0, 0), 0, [])]
abbrev m_X8_newRouter : Nat := 53
/-- NameMaps$World.fillSlot(IIIII)I: 52 entries; loop heads [] -/
def co_X8_fillSlot : List Ent := [(0, (2, 0, 2, 0), 0, []),
  (1, (2, 1, 0, 0), 0, []),
  (2, (13, 98, 49, 0), 0, [(2, 8)]),
  (5, (6, 15, 0, 0), 0, []),
  (8, (2, 2, 0, 0), 0, []),
  (9, (13, 101, 107, 2), 0, [(1, 9)]),
  (12, (6, 17, 1, 0), 0, []),
  (15, (1, 0, 0, 0), (-1), []),
  (16, (14, 0, 0, 0), 0, []),
  (17, (2, 3, 0, 0), 0, []),
  (18, (13, 104, 110, 2), 0, [(1, 9)]),
  (21, (6, 36, 0, 0), 0, []),
  (24, (2, 4, 1, 0), 0, []),
  (26, (6, 36, 2, 0), 0, []),
  (29, (2, 4, 1, 0), 0, []),
  (31, (1, 0, 1, 0), nI 10, []),
  (33, (7, 39, 2, 0), 0, []),
  (36, (1, 0, 1, 0), (-2), []),
  (38, (14, 0, 0, 0), 0, []),
  (39, (2, 5, 1, 0), 0, []),
  (41, (1, 0, 0, 0), nI 1, []),
  (42, (7, 52, 2, 0), 0, []),
  (45, (2, 5, 1, 0), 0, []),
  (47, (1, 0, 1, 0), nI 9, []),
  (49, (7, 55, 5, 0), 0, []),
  (52, (1, 0, 1, 0), (-2), []),
  (54, (14, 0, 0, 0), 0, []),
  (55, (2, 0, 2, 0), 0, []),
  (56, (9, 19, 8, 1), 0, []),
  (59, (2, 1, 0, 0), 0, []),
  (60, (11, 2, 0, 0), 0, []),
  (61, (9, 107, 6, 1), 0, []),
  (64, (2, 2, 0, 0), 0, []),
  (65, (2, 3, 0, 0), 0, []),
  (66, (2, 4, 1, 0), 0, []),
  (68, (2, 5, 1, 0), 0, []),
  (70, (13, 111, 38, 0), 0, [(5, 7)]),
  (73, (2, 0, 2, 0), 0, []),
  (74, (9, 19, 8, 1), 0, []),
  (77, (2, 1, 0, 0), 0, []),
  (78, (11, 2, 0, 0), 0, []),
  (79, (15, 0, 0, 0), 0, []),
  (80, (9, 117, 6, 3), 0, []),
  (83, (1, 0, 0, 0), nI 1, []),
  (84, (4, 0, 0, 0), 0, []),
  (85, (10, 117, 6, 3), 0, []),
  (88, (2, 0, 2, 0), 0, []),
  (89, (9, 19, 8, 1), 0, []),
  (92, (2, 1, 0, 0), 0, []),
  (93, (11, 2, 0, 0), 0, []),
  (94, (9, 117, 6, 3), 0, []),
  (97, (14, 0, 0, 0), 0, [])]
abbrev m_X8_fillSlot : Nat := 54
/-- NameMaps$World.vacateSlot(II)I: 44 entries; loop heads [] -/
def co_X8_vacateSlot : List Ent := [(0, (2, 0, 2, 0), 0, []),
  (1, (2, 1, 0, 0), 0, []),
  (2, (13, 98, 49, 0), 0, [(2, 8)]),
  (5, (6, 15, 0, 0), 0, []),
  (8, (2, 2, 0, 0), 0, []),
  (9, (13, 101, 107, 2), 0, [(1, 9)]),
  (12, (6, 17, 1, 0), 0, []),
  (15, (1, 0, 0, 0), (-1), []),
  (16, (14, 0, 0, 0), 0, []),
  (17, (2, 0, 2, 0), 0, []),
  (18, (9, 19, 8, 1), 0, []),
  (21, (2, 1, 0, 0), 0, []),
  (22, (11, 2, 0, 0), 0, []),
  (23, (9, 107, 6, 1), 0, []),
  (26, (2, 2, 0, 0), 0, []),
  (27, (13, 120, 40, 0), 0, [(2, 7)]),
  (30, (6, 36, 0, 0), 0, []),
  (33, (1, 0, 1, 0), (-3), []),
  (35, (14, 0, 0, 0), 0, []),
  (36, (2, 0, 2, 0), 0, []),
  (37, (9, 19, 8, 1), 0, []),
  (40, (2, 1, 0, 0), 0, []),
  (41, (11, 2, 0, 0), 0, []),
  (42, (9, 107, 6, 1), 0, []),
  (45, (2, 2, 0, 0), 0, []),
  (46, (1, 0, 0, 0), nI 0, []),
  (47, (1, 0, 0, 0), nI 0, []),
  (48, (1, 0, 0, 0), nI 0, []),
  (49, (13, 111, 38, 0), 0, [(5, 7)]),
  (52, (2, 0, 2, 0), 0, []),
  (53, (9, 19, 8, 1), 0, []),
  (56, (2, 1, 0, 0), 0, []),
  (57, (11, 2, 0, 0), 0, []),
  (58, (15, 0, 0, 0), 0, []),
  (59, (9, 117, 6, 3), 0, []),
  (62, (1, 0, 0, 0), nI 1, []),
  (63, (4, 0, 0, 0), 0, []),
  (64, (10, 117, 6, 3), 0, []),
  (67, (2, 0, 2, 0), 0, []),
  (68, (9, 19, 8, 1), 0, []),
  (71, (2, 1, 0, 0), 0, []),
  (72, (11, 2, 0, 0), 0, []),
  (73, (9, 117, 6, 3), 0, []),
  (76, (14, 0, 0, 0), 0, [])]
abbrev m_X8_vacateSlot : Nat := 55
/-- NameMaps$World.startRegistration(I)I: 25 entries; loop heads [] -/
def co_X8_startRegistration : List Ent := [(0, (2, 0, 2, 0), 0, []),
  (1, (2, 1, 0, 0), 0, []),
  (2, (13, 98, 49, 0), 0, [(2, 8)]),
  (5, (6, 10, 1, 0), 0, []),
  (8, (1, 0, 0, 0), (-1), []),
  (9, (14, 0, 0, 0), 0, []),
  (10, (2, 0, 2, 0), 0, []),
  (11, (9, 19, 8, 1), 0, []),
  (14, (2, 1, 0, 0), 0, []),
  (15, (11, 2, 0, 0), 0, []),
  (16, (2, 0, 2, 0), 0, []),
  (17, (9, 65, 8, 6), 0, []),
  (20, (2, 0, 2, 0), 0, []),
  (21, (9, 19, 8, 1), 0, []),
  (24, (2, 1, 0, 0), 0, []),
  (25, (11, 2, 0, 0), 0, []),
  (26, (9, 123, 6, 2), 0, []),
  (29, (4, 0, 0, 0), 0, []),
  (30, (10, 126, 6, 4), 0, []),
  (33, (2, 0, 2, 0), 0, []),
  (34, (9, 19, 8, 1), 0, []),
  (37, (2, 1, 0, 0), 0, []),
  (38, (11, 2, 0, 0), 0, []),
  (39, (9, 126, 6, 4), 0, []),
  (42, (14, 0, 0, 0), 0, [])]
abbrev m_X8_startRegistration : Nat := 56
/-- NameMaps$World.endRegistration(I)I: 34 entries; loop heads [] -/
def co_X8_endRegistration : List Ent := [(0, (2, 0, 2, 0), 0, []),
  (1, (2, 1, 0, 0), 0, []),
  (2, (13, 98, 49, 0), 0, [(2, 8)]),
  (5, (6, 10, 1, 0), 0, []),
  (8, (1, 0, 0, 0), (-1), []),
  (9, (14, 0, 0, 0), 0, []),
  (10, (2, 0, 2, 0), 0, []),
  (11, (9, 19, 8, 1), 0, []),
  (14, (2, 1, 0, 0), 0, []),
  (15, (11, 2, 0, 0), 0, []),
  (16, (2, 0, 2, 0), 0, []),
  (17, (9, 65, 8, 6), 0, []),
  (20, (13, 129, 34, 0), 0, [(2, 6)]),
  (23, (6, 29, 1, 0), 0, []),
  (26, (1, 0, 1, 0), (-3), []),
  (28, (14, 0, 0, 0), 0, []),
  (29, (2, 0, 2, 0), 0, []),
  (30, (9, 19, 8, 1), 0, []),
  (33, (2, 1, 0, 0), 0, []),
  (34, (11, 2, 0, 0), 0, []),
  (35, (9, 126, 6, 4), 0, []),
  (38, (2, 0, 2, 0), 0, []),
  (39, (9, 65, 8, 6), 0, []),
  (42, (4, 1, 0, 0), 0, []),
  (43, (3, 2, 0, 0), 0, []),
  (44, (2, 0, 2, 0), 0, []),
  (45, (9, 19, 8, 1), 0, []),
  (48, (2, 1, 0, 0), 0, []),
  (49, (11, 2, 0, 0), 0, []),
  (50, (2, 0, 2, 0), 0, []),
  (51, (9, 65, 8, 6), 0, []),
  (54, (10, 126, 6, 4), 0, []),
  (57, (2, 2, 0, 0), 0, []),
  (58, (14, 0, 0, 0), 0, [])]
abbrev m_X8_endRegistration : Nat := 57
/-- NameMaps$World.changeMapLife(I)I: 16 entries; loop heads [] -/
def co_X8_changeMapLife : List Ent := [(0, (2, 1, 0, 0), 0, []),
  (1, (1, 0, 0, 0), nI 1, []),
  (2, (7, 11, 2, 0), 0, []),
  (5, (2, 1, 0, 0), 0, []),
  (6, (1, 0, 1, 0), nI 100, []),
  (8, (7, 14, 5, 0), 0, []),
  (11, (1, 0, 1, 0), (-2), []),
  (13, (14, 0, 0, 0), 0, []),
  (14, (2, 0, 2, 0), 0, []),
  (15, (9, 33, 8, 7), 0, []),
  (18, (3, 2, 0, 0), 0, []),
  (19, (2, 0, 2, 0), 0, []),
  (20, (2, 1, 0, 0), 0, []),
  (21, (10, 33, 8, 7), 0, []),
  (24, (2, 2, 0, 0), 0, []),
  (25, (14, 0, 0, 0), 0, [])]
abbrev m_X8_changeMapLife : Nat := 58
/-- NameMaps$World.letPass(I)I: 25 entries; loop heads [] -/
def co_X8_letPass : List Ent := [(0, (2, 1, 0, 0), 0, []),
  (1, (1, 0, 0, 0), nI 1, []),
  (2, (7, 11, 2, 0), 0, []),
  (5, (2, 1, 0, 0), 0, []),
  (6, (1, 0, 1, 0), nI 99, []),
  (8, (7, 14, 5, 0), 0, []),
  (11, (1, 0, 1, 0), (-2), []),
  (13, (14, 0, 0, 0), 0, []),
  (14, (2, 0, 2, 0), 0, []),
  (15, (9, 65, 8, 6), 0, []),
  (18, (2, 1, 0, 0), 0, []),
  (19, (4, 0, 0, 0), 0, []),
  (20, (1, 0, 2, 0), nI 9999, []),
  (23, (7, 29, 5, 0), 0, []),
  (26, (1, 0, 1, 0), (-3), []),
  (28, (14, 0, 0, 0), 0, []),
  (29, (2, 0, 2, 0), 0, []),
  (30, (15, 0, 0, 0), 0, []),
  (31, (9, 65, 8, 6), 0, []),
  (34, (2, 1, 0, 0), 0, []),
  (35, (4, 0, 0, 0), 0, []),
  (36, (10, 65, 8, 6), 0, []),
  (39, (2, 0, 2, 0), 0, []),
  (40, (9, 65, 8, 6), 0, []),
  (43, (14, 0, 0, 0), 0, [])]
abbrev m_X8_letPass : Nat := 59
/-- NameMaps$World.emptyCache(I)I: 20 entries; loop heads [] -/
def co_X8_emptyCache : List Ent := [(0, (2, 0, 2, 0), 0, []),
  (1, (2, 1, 0, 0), 0, []),
  (2, (13, 132, 50, 0), 0, [(2, 8)]),
  (5, (6, 10, 1, 0), 0, []),
  (8, (1, 0, 0, 0), (-1), []),
  (9, (14, 0, 0, 0), 0, []),
  (10, (2, 0, 2, 0), 0, []),
  (11, (9, 25, 8, 2), 0, []),
  (14, (2, 1, 0, 0), 0, []),
  (15, (11, 2, 0, 0), 0, []),
  (16, (9, 135, 4, 1), 0, []),
  (19, (3, 2, 0, 0), 0, []),
  (20, (2, 0, 2, 0), 0, []),
  (21, (9, 25, 8, 2), 0, []),
  (24, (2, 1, 0, 0), 0, []),
  (25, (11, 2, 0, 0), 0, []),
  (26, (1, 0, 0, 0), nI 0, []),
  (27, (10, 135, 4, 1), 0, []),
  (30, (2, 2, 0, 0), 0, []),
  (31, (14, 0, 0, 0), 0, [])]
abbrev m_X8_emptyCache : Nat := 60
/-- NameMaps$World.sendLetter(III)I: 101 entries; loop heads [122] -/
def co_X8_sendLetter : List Ent := [(0, (2, 0, 2, 0), 0, []),
  (1, (2, 1, 0, 0), 0, []),
  (2, (13, 132, 50, 0), 0, [(2, 8)]),
  (5, (6, 10, 1, 0), 0, []),
  (8, (1, 0, 0, 0), (-1), []),
  (9, (14, 0, 0, 0), 0, []),
  (10, (2, 2, 0, 0), 0, []),
  (11, (13, 138, 108, 2), 0, [(1, 9)]),
  (14, (6, 24, 0, 0), 0, []),
  (17, (2, 3, 0, 0), 0, []),
  (18, (13, 141, 109, 2), 0, [(1, 9)]),
  (21, (6, 27, 1, 0), 0, []),
  (24, (1, 0, 1, 0), (-2), []),
  (26, (14, 0, 0, 0), 0, []),
  (27, (2, 0, 2, 0), 0, []),
  (28, (9, 25, 8, 2), 0, []),
  (31, (2, 1, 0, 0), 0, []),
  (32, (11, 2, 0, 0), 0, []),
  (33, (3, 4, 3, 0), 0, []),
  (35, (2, 4, 3, 0), 0, []),
  (37, (15, 0, 0, 0), 0, []),
  (38, (9, 144, 4, 4), 0, []),
  (41, (1, 0, 0, 0), nI 1, []),
  (42, (4, 0, 0, 0), 0, []),
  (43, (10, 144, 4, 4), 0, []),
  (46, (2, 4, 3, 0), 0, []),
  (48, (2, 0, 2, 0), 0, []),
  (49, (9, 65, 8, 6), 0, []),
  (52, (13, 147, 25, 0), 0, [(2, 4)]),
  (55, (2, 4, 3, 0), 0, []),
  (57, (2, 2, 0, 0), 0, []),
  (58, (13, 151, 27, 0), 0, [(2, 4)]),
  (61, (3, 5, 1, 0), 0, []),
  (63, (2, 4, 3, 0), 0, []),
  (65, (2, 5, 1, 0), 0, []),
  (67, (13, 155, 21, 0), 0, [(2, 4)]),
  (70, (6, 97, 0, 0), 0, []),
  (73, (2, 4, 3, 0), 0, []),
  (75, (9, 158, 4, 0), 0, []),
  (78, (2, 5, 1, 0), 0, []),
  (80, (11, 2, 0, 0), 0, []),
  (81, (9, 162, 2, 5), 0, []),
  (84, (6, 97, 1, 0), 0, []),
  (87, (2, 4, 3, 0), 0, []),
  (89, (2, 5, 1, 0), 0, []),
  (91, (13, 168, 23, 0), 0, [(2, 4)]),
  (94, (8, 122, 0, 0), 0, []),
  (97, (2, 0, 2, 0), 0, []),
  (98, (2, 4, 3, 0), 0, []),
  (100, (2, 2, 0, 0), 0, []),
  (101, (13, 171, 63, 0), 0, [(3, 8)]),
  (104, (6, 122, 1, 0), 0, []),
  (107, (2, 4, 3, 0), 0, []),
  (109, (2, 5, 1, 0), 0, []),
  (111, (13, 175, 24, 0), 0, [(2, 4)]),
  (114, (2, 0, 2, 0), 0, []),
  (115, (2, 4, 3, 0), 0, []),
  (117, (2, 2, 0, 0), 0, []),
  (118, (13, 178, 64, 0), 0, [(3, 8)]),
  (121, (14, 0, 0, 0), 0, []),
  (122, (0, 6, 0, 0), 0, []),
  (122, (2, 0, 2, 0), 0, []),
  (123, (2, 4, 3, 0), 0, []),
  (125, (9, 158, 4, 0), 0, []),
  (128, (1, 0, 0, 0), nI 0, []),
  (129, (11, 2, 0, 0), 0, []),
  (130, (2, 3, 0, 0), 0, []),
  (131, (13, 182, 62, 0), 0, [(3, 8)]),
  (134, (3, 6, 1, 0), 0, []),
  (136, (2, 6, 1, 0), 0, []),
  (138, (1, 0, 0, 0), (-1), []),
  (139, (7, 145, 0, 0), 0, []),
  (142, (2, 6, 1, 0), 0, []),
  (144, (14, 0, 0, 0), 0, []),
  (145, (2, 4, 3, 0), 0, []),
  (147, (15, 0, 0, 0), 0, []),
  (148, (9, 186, 4, 6), 0, []),
  (151, (1, 0, 0, 0), nI 1, []),
  (152, (4, 0, 0, 0), 0, []),
  (153, (10, 186, 4, 6), 0, []),
  (156, (2, 4, 3, 0), 0, []),
  (158, (1, 0, 0, 0), nI 0, []),
  (159, (13, 175, 24, 0), 0, [(2, 4)]),
  (162, (2, 0, 2, 0), 0, []),
  (163, (2, 4, 3, 0), 0, []),
  (165, (2, 2, 0, 0), 0, []),
  (166, (13, 171, 63, 0), 0, [(3, 8)]),
  (169, (6, 180, 1, 0), 0, []),
  (172, (2, 0, 2, 0), 0, []),
  (173, (2, 4, 3, 0), 0, []),
  (175, (2, 2, 0, 0), 0, []),
  (176, (13, 178, 64, 0), 0, [(3, 8)]),
  (179, (14, 0, 0, 0), 0, []),
  (180, (2, 4, 3, 0), 0, []),
  (182, (9, 158, 4, 0), 0, []),
  (185, (1, 0, 0, 0), nI 0, []),
  (186, (11, 2, 0, 0), 0, []),
  (187, (9, 189, 2, 1), 0, []),
  (190, (2, 3, 0, 0), 0, []),
  (191, (13, 190, 45, 0), 0, [(2, 7)]),
  (194, (14, 0, 0, 0), 0, [])]
abbrev m_X8_sendLetter : Nat := 61
/-- NameMaps$World.placeByMap(LNameMaps$CacheMap;I)I: 40 entries; loop heads [] -/
def co_X8_placeByMap : List Ent := [(0, (2, 1, 2, 0), 0, []),
  (1, (9, 189, 2, 1), 0, []),
  (4, (2, 2, 0, 0), 0, []),
  (5, (13, 190, 45, 0), 0, [(2, 7)]),
  (8, (3, 3, 0, 0), 0, []),
  (9, (2, 0, 2, 0), 0, []),
  (10, (2, 1, 2, 0), 0, []),
  (11, (9, 193, 2, 2), 0, []),
  (14, (13, 98, 49, 0), 0, [(2, 8)]),
  (17, (6, 22, 1, 0), 0, []),
  (20, (1, 0, 0, 0), (-1), []),
  (21, (14, 0, 0, 0), 0, []),
  (22, (2, 0, 2, 0), 0, []),
  (23, (9, 19, 8, 1), 0, []),
  (26, (2, 1, 2, 0), 0, []),
  (27, (9, 193, 2, 2), 0, []),
  (30, (11, 2, 0, 0), 0, []),
  (31, (3, 4, 3, 0), 0, []),
  (33, (2, 4, 3, 0), 0, []),
  (35, (2, 0, 2, 0), 0, []),
  (36, (9, 65, 8, 6), 0, []),
  (39, (13, 196, 35, 0), 0, [(2, 6)]),
  (42, (6, 57, 0, 0), 0, []),
  (45, (2, 4, 3, 0), 0, []),
  (47, (9, 107, 6, 1), 0, []),
  (50, (2, 3, 0, 0), 0, []),
  (51, (13, 199, 42, 0), 0, [(2, 7)]),
  (54, (6, 59, 1, 0), 0, []),
  (57, (1, 0, 0, 0), (-1), []),
  (58, (14, 0, 0, 0), 0, []),
  (59, (2, 1, 2, 0), 0, []),
  (60, (9, 202, 2, 3), 0, []),
  (63, (2, 4, 3, 0), 0, []),
  (65, (9, 117, 6, 3), 0, []),
  (68, (7, 76, 0, 0), 0, []),
  (71, (2, 1, 2, 0), 0, []),
  (72, (1, 0, 0, 0), nI 1, []),
  (73, (10, 162, 2, 5), 0, []),
  (76, (2, 3, 0, 0), 0, []),
  (77, (14, 0, 0, 0), 0, [])]
abbrev m_X8_placeByMap : Nat := 62
/-- NameMaps$World.ask(LNameMaps$Router;I)Z: 41 entries; loop heads [] -/
def co_X8_ask : List Ent := [(0, (2, 1, 2, 0), 0, []),
  (1, (15, 0, 0, 0), 0, []),
  (2, (9, 203, 4, 2), 0, []),
  (5, (1, 0, 0, 0), nI 1, []),
  (6, (4, 0, 0, 0), 0, []),
  (7, (10, 203, 4, 2), 0, []),
  (10, (2, 1, 2, 0), 0, []),
  (11, (15, 0, 0, 0), 0, []),
  (12, (9, 206, 4, 3), 0, []),
  (15, (2, 0, 2, 0), 0, []),
  (16, (2, 0, 2, 0), 0, []),
  (17, (2, 2, 0, 0), 0, []),
  (18, (1, 0, 0, 0), nI 1, []),
  (19, (13, 209, 65, 0), 0, [(3, 8)]),
  (22, (13, 213, 67, 0), 0, [(2, 8)]),
  (25, (4, 0, 0, 0), 0, []),
  (26, (10, 206, 4, 3), 0, []),
  (29, (2, 0, 2, 0), 0, []),
  (30, (2, 2, 0, 0), 0, []),
  (31, (13, 216, 68, 0), 0, [(2, 8)]),
  (34, (3, 3, 0, 0), 0, []),
  (35, (2, 0, 2, 0), 0, []),
  (36, (2, 3, 0, 0), 0, []),
  (37, (13, 98, 49, 0), 0, [(2, 8)]),
  (40, (6, 45, 1, 0), 0, []),
  (43, (1, 0, 0, 0), nI 0, []),
  (44, (14, 0, 0, 0), 0, []),
  (45, (2, 1, 2, 0), 0, []),
  (46, (2, 3, 0, 0), 0, []),
  (47, (2, 0, 2, 0), 0, []),
  (48, (9, 19, 8, 1), 0, []),
  (51, (2, 3, 0, 0), 0, []),
  (52, (11, 2, 0, 0), 0, []),
  (53, (2, 0, 2, 0), 0, []),
  (54, (9, 65, 8, 6), 0, []),
  (57, (2, 0, 2, 0), 0, []),
  (58, (9, 33, 8, 7), 0, []),
  (61, (4, 0, 0, 0), 0, []),
  (62, (13, 219, 28, 0), 0, [(4, 4)]),
  (65, (1, 0, 0, 0), nI 1, []),
  (66, (14, 0, 0, 0), 0, [])]
abbrev m_X8_ask : Nat := 63
/-- NameMaps$World.goByProxy(LNameMaps$Router;I)I: 12 entries; loop heads [] -/
def co_X8_goByProxy : List Ent := [(0, (2, 1, 2, 0), 0, []),
  (1, (15, 0, 0, 0), 0, []),
  (2, (9, 223, 4, 5), 0, []),
  (5, (1, 0, 0, 0), nI 1, []),
  (6, (4, 0, 0, 0), 0, []),
  (7, (10, 223, 4, 5), 0, []),
  (10, (1, 0, 1, 0), nI 32, []),
  (12, (2, 2, 0, 0), 0, []),
  (13, (1, 0, 1, 0), nI 32, []),
  (15, (4, 3, 0, 0), 0, []),
  (16, (4, 0, 0, 0), 0, []),
  (17, (14, 0, 0, 0), 0, [])]
abbrev m_X8_goByProxy : Nat := 64
/-- NameMaps$World.homeOf(II)I: 35 entries; loop heads [5] -/
def co_X8_homeOf : List Ent := [(0, (1, 0, 0, 0), nI 0, []),
  (1, (3, 3, 0, 0), 0, []),
  (2, (1, 0, 0, 0), nI 1, []),
  (3, (3, 4, 1, 0), 0, []),
  (5, (0, 5, 0, 0), 0, []),
  (5, (2, 4, 1, 0), 0, []),
  (7, (2, 0, 2, 0), 0, []),
  (8, (9, 29, 8, 3), 0, []),
  (11, (7, 65, 3, 0), 0, []),
  (14, (2, 0, 2, 0), 0, []),
  (15, (9, 11, 8, 0), 0, []),
  (18, (2, 4, 1, 0), 0, []),
  (20, (11, 2, 0, 0), 0, []),
  (21, (9, 37, 5, 0), 0, []),
  (24, (3, 5, 3, 0), 0, []),
  (26, (2, 5, 3, 0), 0, []),
  (28, (2, 1, 0, 0), 0, []),
  (29, (2, 2, 0, 0), 0, []),
  (30, (13, 76, 6, 0), 0, [(3, 1)]),
  (33, (6, 59, 0, 0), 0, []),
  (36, (2, 5, 3, 0), 0, []),
  (38, (9, 79, 1, 1), 0, []),
  (41, (2, 0, 2, 0), 0, []),
  (42, (9, 11, 8, 0), 0, []),
  (45, (2, 3, 0, 0), 0, []),
  (46, (11, 2, 0, 0), 0, []),
  (47, (9, 37, 5, 0), 0, []),
  (50, (9, 79, 1, 1), 0, []),
  (53, (7, 59, 3, 0), 0, []),
  (56, (2, 4, 1, 0), 0, []),
  (58, (3, 3, 0, 0), 0, []),
  (59, (5, 4, 0, 0), nI 1, []),
  (62, (8, 5, 0, 0), 0, []),
  (65, (2, 3, 0, 0), 0, []),
  (66, (14, 0, 0, 0), 0, [])]
abbrev m_X8_homeOf : Nat := 65
/-- NameMaps$World.homeOfSite(I)I: 21 entries; loop heads [] -/
def co_X8_homeOfSite : List Ent := [(0, (2, 0, 2, 0), 0, []),
  (1, (2, 1, 0, 0), 0, []),
  (2, (13, 98, 49, 0), 0, [(2, 8)]),
  (5, (6, 39, 0, 0), 0, []),
  (8, (2, 0, 2, 0), 0, []),
  (9, (2, 0, 2, 0), 0, []),
  (10, (9, 19, 8, 1), 0, []),
  (13, (2, 1, 0, 0), 0, []),
  (14, (11, 2, 0, 0), 0, []),
  (15, (9, 88, 6, 0), 0, []),
  (18, (9, 226, 1, 0), 0, []),
  (21, (2, 0, 2, 0), 0, []),
  (22, (9, 19, 8, 1), 0, []),
  (25, (2, 1, 0, 0), 0, []),
  (26, (11, 2, 0, 0), 0, []),
  (27, (9, 88, 6, 0), 0, []),
  (30, (9, 79, 1, 1), 0, []),
  (33, (13, 209, 65, 0), 0, [(3, 8)]),
  (36, (8, 40, 0, 0), 0, []),
  (39, (1, 0, 0, 0), (-1), []),
  (40, (14, 0, 0, 0), 0, [])]
abbrev m_X8_homeOfSite : Nat := 66
/-- NameMaps$World.hopsTo(I)I: 22 entries; loop heads [4] -/
def co_X8_hopsTo : List Ent := [(0, (1, 0, 0, 0), nI 0, []),
  (1, (3, 2, 0, 0), 0, []),
  (2, (2, 1, 0, 0), 0, []),
  (3, (3, 3, 0, 0), 0, []),
  (4, (0, 4, 0, 0), 0, []),
  (4, (2, 0, 2, 0), 0, []),
  (5, (2, 3, 0, 0), 0, []),
  (6, (13, 68, 48, 0), 0, [(2, 8)]),
  (9, (6, 34, 0, 0), 0, []),
  (12, (2, 2, 0, 0), 0, []),
  (13, (1, 0, 1, 0), nI 8, []),
  (15, (7, 34, 3, 0), 0, []),
  (18, (5, 2, 0, 0), nI 1, []),
  (21, (2, 0, 2, 0), 0, []),
  (22, (9, 11, 8, 0), 0, []),
  (25, (2, 3, 0, 0), 0, []),
  (26, (11, 2, 0, 0), 0, []),
  (27, (9, 82, 5, 1), 0, []),
  (30, (3, 3, 0, 0), 0, []),
  (31, (8, 4, 0, 0), 0, []),
  (34, (2, 2, 0, 0), 0, []),
  (35, (14, 0, 0, 0), 0, [])]
abbrev m_X8_hopsTo : Nat := 67
/-- NameMaps$World.answerFor(I)I: 55 entries; loop heads [17] -/
def co_X8_answerFor : List Ent := [(0, (2, 0, 2, 0), 0, []),
  (1, (2, 1, 0, 0), 0, []),
  (2, (1, 0, 0, 0), nI 1, []),
  (3, (13, 209, 65, 0), 0, [(3, 8)]),
  (6, (3, 2, 0, 0), 0, []),
  (7, (1, 0, 0, 0), (-1), []),
  (8, (3, 3, 0, 0), 0, []),
  (9, (1, 0, 2, 0), nI 257, []),
  (12, (3, 4, 1, 0), 0, []),
  (14, (1, 0, 0, 0), nI 0, []),
  (15, (3, 5, 1, 0), 0, []),
  (17, (0, 6, 0, 0), 0, []),
  (17, (2, 5, 1, 0), 0, []),
  (19, (2, 0, 2, 0), 0, []),
  (20, (9, 53, 8, 4), 0, []),
  (23, (7, 108, 3, 0), 0, []),
  (26, (2, 0, 2, 0), 0, []),
  (27, (9, 19, 8, 1), 0, []),
  (30, (2, 5, 1, 0), 0, []),
  (32, (11, 2, 0, 0), 0, []),
  (33, (9, 88, 6, 0), 0, []),
  (36, (3, 6, 3, 0), 0, []),
  (38, (2, 6, 3, 0), 0, []),
  (40, (2, 1, 0, 0), 0, []),
  (41, (13, 229, 5, 0), 0, [(2, 1)]),
  (44, (6, 102, 0, 0), 0, []),
  (47, (2, 6, 3, 0), 0, []),
  (49, (9, 79, 1, 1), 0, []),
  (52, (2, 4, 1, 0), 0, []),
  (54, (7, 102, 3, 0), 0, []),
  (57, (2, 0, 2, 0), 0, []),
  (58, (9, 19, 8, 1), 0, []),
  (61, (2, 5, 1, 0), 0, []),
  (63, (11, 2, 0, 0), 0, []),
  (64, (2, 0, 2, 0), 0, []),
  (65, (9, 65, 8, 6), 0, []),
  (68, (13, 196, 35, 0), 0, [(2, 6)]),
  (71, (6, 102, 0, 0), 0, []),
  (74, (2, 0, 2, 0), 0, []),
  (75, (2, 6, 3, 0), 0, []),
  (77, (9, 226, 1, 0), 0, []),
  (80, (2, 6, 3, 0), 0, []),
  (82, (9, 79, 1, 1), 0, []),
  (85, (13, 209, 65, 0), 0, [(3, 8)]),
  (88, (2, 2, 0, 0), 0, []),
  (89, (7, 102, 1, 0), 0, []),
  (92, (2, 5, 1, 0), 0, []),
  (94, (3, 3, 0, 0), 0, []),
  (95, (2, 6, 3, 0), 0, []),
  (97, (9, 79, 1, 1), 0, []),
  (100, (3, 4, 1, 0), 0, []),
  (102, (5, 5, 0, 0), nI 1, []),
  (105, (8, 17, 0, 0), 0, []),
  (108, (2, 3, 0, 0), 0, []),
  (109, (14, 0, 0, 0), 0, [])]
abbrev m_X8_answerFor : Nat := 68
/-- NameMaps$World.siteEndingAt(I)I: 26 entries; loop heads [2] -/
def co_X8_siteEndingAt : List Ent := [(0, (1, 0, 0, 0), nI 0, []),
  (1, (3, 2, 0, 0), 0, []),
  (2, (0, 3, 0, 0), 0, []),
  (2, (2, 2, 0, 0), 0, []),
  (3, (2, 0, 2, 0), 0, []),
  (4, (9, 53, 8, 4), 0, []),
  (7, (7, 43, 3, 0), 0, []),
  (10, (2, 0, 2, 0), 0, []),
  (11, (9, 19, 8, 1), 0, []),
  (14, (2, 2, 0, 0), 0, []),
  (15, (11, 2, 0, 0), 0, []),
  (16, (2, 0, 2, 0), 0, []),
  (17, (9, 65, 8, 6), 0, []),
  (20, (13, 129, 34, 0), 0, [(2, 6)]),
  (23, (6, 37, 0, 0), 0, []),
  (26, (2, 0, 2, 0), 0, []),
  (27, (2, 2, 0, 0), 0, []),
  (28, (13, 232, 70, 0), 0, [(2, 8)]),
  (31, (2, 1, 0, 0), 0, []),
  (32, (7, 37, 1, 0), 0, []),
  (35, (2, 2, 0, 0), 0, []),
  (36, (14, 0, 0, 0), 0, []),
  (37, (5, 2, 0, 0), nI 1, []),
  (40, (8, 2, 0, 0), 0, []),
  (43, (1, 0, 0, 0), (-1), []),
  (44, (14, 0, 0, 0), 0, [])]
abbrev m_X8_siteEndingAt : Nat := 69
/-- NameMaps$World.sitesEndingAheadOf(I)I: 57 entries; loop heads [27] -/
def co_X8_sitesEndingAheadOf : List Ent := [(0, (2, 0, 2, 0), 0, []),
  (1, (2, 1, 0, 0), 0, []),
  (2, (13, 98, 49, 0), 0, [(2, 8)]),
  (5, (6, 20, 0, 0), 0, []),
  (8, (2, 0, 2, 0), 0, []),
  (9, (9, 19, 8, 1), 0, []),
  (12, (2, 1, 0, 0), 0, []),
  (13, (11, 2, 0, 0), 0, []),
  (14, (9, 126, 6, 4), 0, []),
  (17, (8, 21, 0, 0), 0, []),
  (20, (1, 0, 0, 0), nI 0, []),
  (21, (3, 2, 0, 0), 0, []),
  (22, (1, 0, 0, 0), nI 0, []),
  (23, (3, 3, 0, 0), 0, []),
  (24, (1, 0, 0, 0), nI 0, []),
  (25, (3, 4, 1, 0), 0, []),
  (27, (0, 5, 0, 0), 0, []),
  (27, (2, 4, 1, 0), 0, []),
  (29, (2, 0, 2, 0), 0, []),
  (30, (9, 53, 8, 4), 0, []),
  (33, (7, 108, 3, 0), 0, []),
  (36, (2, 0, 2, 0), 0, []),
  (37, (9, 19, 8, 1), 0, []),
  (40, (2, 4, 1, 0), 0, []),
  (42, (11, 2, 0, 0), 0, []),
  (43, (9, 126, 6, 4), 0, []),
  (46, (2, 2, 0, 0), 0, []),
  (47, (7, 70, 2, 0), 0, []),
  (50, (2, 0, 2, 0), 0, []),
  (51, (9, 19, 8, 1), 0, []),
  (54, (2, 4, 1, 0), 0, []),
  (56, (11, 2, 0, 0), 0, []),
  (57, (9, 126, 6, 4), 0, []),
  (60, (2, 2, 0, 0), 0, []),
  (61, (7, 74, 1, 0), 0, []),
  (64, (2, 4, 1, 0), 0, []),
  (66, (2, 1, 0, 0), 0, []),
  (67, (7, 74, 3, 0), 0, []),
  (70, (1, 0, 0, 0), nI 1, []),
  (71, (8, 75, 0, 0), 0, []),
  (74, (1, 0, 0, 0), nI 0, []),
  (75, (3, 5, 1, 0), 0, []),
  (77, (2, 5, 1, 0), 0, []),
  (79, (6, 102, 0, 0), 0, []),
  (82, (2, 0, 2, 0), 0, []),
  (83, (9, 19, 8, 1), 0, []),
  (86, (2, 4, 1, 0), 0, []),
  (88, (11, 2, 0, 0), 0, []),
  (89, (2, 0, 2, 0), 0, []),
  (90, (9, 65, 8, 6), 0, []),
  (93, (13, 129, 34, 0), 0, [(2, 6)]),
  (96, (6, 102, 0, 0), 0, []),
  (99, (5, 3, 0, 0), nI 1, []),
  (102, (5, 4, 0, 0), nI 1, []),
  (105, (8, 27, 0, 0), 0, []),
  (108, (2, 3, 0, 0), 0, []),
  (109, (14, 0, 0, 0), 0, [])]
abbrev m_X8_sitesEndingAheadOf : Nat := 70
/-- NameMaps$World.serverProperty(II)I: 42 entries; loop heads [] -/
def co_X8_serverProperty : List Ent := [(0, (2, 0, 2, 0), 0, []),
  (1, (2, 1, 0, 0), 0, []),
  (2, (13, 68, 48, 0), 0, [(2, 8)]),
  (5, (6, 10, 1, 0), 0, []),
  (8, (1, 0, 0, 0), (-1), []),
  (9, (14, 0, 0, 0), 0, []),
  (10, (2, 2, 0, 0), 0, []),
  (11, (18, 102, 37, 0), 0, [(0, 48), (1, 58), (2, 71), (3, 84), (4, 90), (5, 96)]),
  (48, (2, 0, 2, 0), 0, []),
  (49, (9, 11, 8, 0), 0, []),
  (52, (2, 1, 0, 0), 0, []),
  (53, (11, 2, 0, 0), 0, []),
  (54, (9, 82, 5, 1), 0, []),
  (57, (14, 0, 0, 0), 0, []),
  (58, (2, 0, 2, 0), 0, []),
  (59, (9, 11, 8, 0), 0, []),
  (62, (2, 1, 0, 0), 0, []),
  (63, (11, 2, 0, 0), 0, []),
  (64, (9, 37, 5, 0), 0, []),
  (67, (9, 226, 1, 0), 0, []),
  (70, (14, 0, 0, 0), 0, []),
  (71, (2, 0, 2, 0), 0, []),
  (72, (9, 11, 8, 0), 0, []),
  (75, (2, 1, 0, 0), 0, []),
  (76, (11, 2, 0, 0), 0, []),
  (77, (9, 37, 5, 0), 0, []),
  (80, (9, 79, 1, 1), 0, []),
  (83, (14, 0, 0, 0), 0, []),
  (84, (2, 0, 2, 0), 0, []),
  (85, (2, 1, 0, 0), 0, []),
  (86, (13, 235, 72, 0), 0, [(2, 8)]),
  (89, (14, 0, 0, 0), 0, []),
  (90, (2, 0, 2, 0), 0, []),
  (91, (2, 1, 0, 0), 0, []),
  (92, (13, 213, 67, 0), 0, [(2, 8)]),
  (95, (14, 0, 0, 0), 0, []),
  (96, (2, 0, 2, 0), 0, []),
  (97, (2, 1, 0, 0), 0, []),
  (98, (13, 238, 73, 0), 0, [(2, 8)]),
  (101, (14, 0, 0, 0), 0, []),
  (102, (1, 0, 1, 0), (-2), []),
  (104, (14, 0, 0, 0), 0, [])]
abbrev m_X8_serverProperty : Nat := 71
/-- NameMaps$World.childrenOf(I)I: 21 entries; loop heads [4] -/
def co_X8_childrenOf : List Ent := [(0, (1, 0, 0, 0), nI 0, []),
  (1, (3, 2, 0, 0), 0, []),
  (2, (1, 0, 0, 0), nI 0, []),
  (3, (3, 3, 0, 0), 0, []),
  (4, (0, 4, 0, 0), 0, []),
  (4, (2, 3, 0, 0), 0, []),
  (5, (2, 0, 2, 0), 0, []),
  (6, (9, 29, 8, 3), 0, []),
  (9, (7, 34, 3, 0), 0, []),
  (12, (2, 0, 2, 0), 0, []),
  (13, (9, 11, 8, 0), 0, []),
  (16, (2, 3, 0, 0), 0, []),
  (17, (11, 2, 0, 0), 0, []),
  (18, (9, 82, 5, 1), 0, []),
  (21, (2, 1, 0, 0), 0, []),
  (22, (7, 28, 1, 0), 0, []),
  (25, (5, 2, 0, 0), nI 1, []),
  (28, (5, 3, 0, 0), nI 1, []),
  (31, (8, 4, 0, 0), 0, []),
  (34, (2, 2, 0, 0), 0, []),
  (35, (14, 0, 0, 0), 0, [])]
abbrev m_X8_childrenOf : Nat := 72
/-- NameMaps$World.sitesAtHome(I)I: 19 entries; loop heads [4] -/
def co_X8_sitesAtHome : List Ent := [(0, (1, 0, 0, 0), nI 0, []),
  (1, (3, 2, 0, 0), 0, []),
  (2, (1, 0, 0, 0), nI 0, []),
  (3, (3, 3, 0, 0), 0, []),
  (4, (0, 4, 0, 0), 0, []),
  (4, (2, 3, 0, 0), 0, []),
  (5, (2, 0, 2, 0), 0, []),
  (6, (9, 53, 8, 4), 0, []),
  (9, (7, 30, 3, 0), 0, []),
  (12, (2, 0, 2, 0), 0, []),
  (13, (2, 3, 0, 0), 0, []),
  (14, (13, 241, 66, 0), 0, [(2, 8)]),
  (17, (2, 1, 0, 0), 0, []),
  (18, (7, 24, 1, 0), 0, []),
  (21, (5, 2, 0, 0), nI 1, []),
  (24, (5, 3, 0, 0), nI 1, []),
  (27, (8, 4, 0, 0), 0, []),
  (30, (2, 2, 0, 0), 0, []),
  (31, (14, 0, 0, 0), 0, [])]
abbrev m_X8_sitesAtHome : Nat := 73
/-- NameMaps$World.siteProperty(II)I: 62 entries; loop heads [] -/
def co_X8_siteProperty : List Ent := [(0, (2, 0, 2, 0), 0, []),
  (1, (2, 1, 0, 0), 0, []),
  (2, (13, 98, 49, 0), 0, [(2, 8)]),
  (5, (6, 10, 1, 0), 0, []),
  (8, (1, 0, 0, 0), (-1), []),
  (9, (14, 0, 0, 0), 0, []),
  (10, (2, 2, 0, 0), 0, []),
  (11, (18, 146, 45, 0), 0, [(0, 56), (1, 69), (2, 82), (3, 92), (4, 102), (5, 112), (6, 118), (7, 140)]),
  (56, (2, 0, 2, 0), 0, []),
  (57, (9, 19, 8, 1), 0, []),
  (60, (2, 1, 0, 0), 0, []),
  (61, (11, 2, 0, 0), 0, []),
  (62, (9, 88, 6, 0), 0, []),
  (65, (9, 226, 1, 0), 0, []),
  (68, (14, 0, 0, 0), 0, []),
  (69, (2, 0, 2, 0), 0, []),
  (70, (9, 19, 8, 1), 0, []),
  (73, (2, 1, 0, 0), 0, []),
  (74, (11, 2, 0, 0), 0, []),
  (75, (9, 88, 6, 0), 0, []),
  (78, (9, 79, 1, 1), 0, []),
  (81, (14, 0, 0, 0), 0, []),
  (82, (2, 0, 2, 0), 0, []),
  (83, (9, 19, 8, 1), 0, []),
  (86, (2, 1, 0, 0), 0, []),
  (87, (11, 2, 0, 0), 0, []),
  (88, (9, 123, 6, 2), 0, []),
  (91, (14, 0, 0, 0), 0, []),
  (92, (2, 0, 2, 0), 0, []),
  (93, (9, 19, 8, 1), 0, []),
  (96, (2, 1, 0, 0), 0, []),
  (97, (11, 2, 0, 0), 0, []),
  (98, (9, 117, 6, 3), 0, []),
  (101, (14, 0, 0, 0), 0, []),
  (102, (2, 0, 2, 0), 0, []),
  (103, (9, 19, 8, 1), 0, []),
  (106, (2, 1, 0, 0), 0, []),
  (107, (11, 2, 0, 0), 0, []),
  (108, (9, 126, 6, 4), 0, []),
  (111, (14, 0, 0, 0), 0, []),
  (112, (2, 0, 2, 0), 0, []),
  (113, (2, 1, 0, 0), 0, []),
  (114, (13, 241, 66, 0), 0, [(2, 8)]),
  (117, (14, 0, 0, 0), 0, []),
  (118, (2, 0, 2, 0), 0, []),
  (119, (9, 19, 8, 1), 0, []),
  (122, (2, 1, 0, 0), 0, []),
  (123, (11, 2, 0, 0), 0, []),
  (124, (2, 0, 2, 0), 0, []),
  (125, (9, 65, 8, 6), 0, []),
  (128, (13, 196, 35, 0), 0, [(2, 6)]),
  (131, (6, 138, 0, 0), 0, []),
  (134, (1, 0, 0, 0), nI 1, []),
  (135, (8, 139, 0, 0), 0, []),
  (138, (1, 0, 0, 0), nI 0, []),
  (139, (14, 0, 0, 0), 0, []),
  (140, (2, 0, 2, 0), 0, []),
  (141, (2, 1, 0, 0), 0, []),
  (142, (13, 244, 75, 0), 0, [(2, 8)]),
  (145, (14, 0, 0, 0), 0, []),
  (146, (1, 0, 1, 0), (-2), []),
  (148, (14, 0, 0, 0), 0, [])]
abbrev m_X8_siteProperty : Nat := 74
/-- NameMaps$World.mapsOf(I)I: 22 entries; loop heads [4] -/
def co_X8_mapsOf : List Ent := [(0, (1, 0, 0, 0), nI 0, []),
  (1, (3, 2, 0, 0), 0, []),
  (2, (1, 0, 0, 0), nI 0, []),
  (3, (3, 3, 0, 0), 0, []),
  (4, (0, 4, 0, 0), 0, []),
  (4, (2, 3, 0, 0), 0, []),
  (5, (2, 0, 2, 0), 0, []),
  (6, (9, 59, 8, 5), 0, []),
  (9, (7, 35, 3, 0), 0, []),
  (12, (2, 0, 2, 0), 0, []),
  (13, (9, 25, 8, 2), 0, []),
  (16, (2, 3, 0, 0), 0, []),
  (17, (11, 2, 0, 0), 0, []),
  (18, (2, 1, 0, 0), 0, []),
  (19, (13, 247, 26, 0), 0, [(2, 4)]),
  (22, (1, 0, 0, 0), (-1), []),
  (23, (7, 29, 0, 0), 0, []),
  (26, (5, 2, 0, 0), nI 1, []),
  (29, (5, 3, 0, 0), nI 1, []),
  (32, (8, 4, 0, 0), 0, []),
  (35, (2, 2, 0, 0), 0, []),
  (36, (14, 0, 0, 0), 0, [])]
abbrev m_X8_mapsOf : Nat := 75
/-- NameMaps$World.totalOf(I)I: 45 entries; loop heads [] -/
def co_X8_totalOf : List Ent := [(0, (2, 1, 0, 0), 0, []),
  (1, (18, 137, 71, 0), 0, [(0, 72), (1, 77), (2, 82), (3, 87), (4, 92), (5, 97), (6, 103), (7, 109), (8, 115), (9, 121), (10, 127), (11, 137), (12, 137), (13, 132)]),
  (72, (2, 0, 2, 0), 0, []),
  (73, (9, 65, 8, 6), 0, []),
  (76, (14, 0, 0, 0), 0, []),
  (77, (2, 0, 2, 0), 0, []),
  (78, (9, 29, 8, 3), 0, []),
  (81, (14, 0, 0, 0), 0, []),
  (82, (2, 0, 2, 0), 0, []),
  (83, (9, 53, 8, 4), 0, []),
  (86, (14, 0, 0, 0), 0, []),
  (87, (2, 0, 2, 0), 0, []),
  (88, (9, 59, 8, 5), 0, []),
  (91, (14, 0, 0, 0), 0, []),
  (92, (2, 0, 2, 0), 0, []),
  (93, (13, 250, 77, 0), 0, [(1, 8)]),
  (96, (14, 0, 0, 0), 0, []),
  (97, (2, 0, 2, 0), 0, []),
  (98, (1, 0, 0, 0), nI 0, []),
  (99, (13, 254, 78, 0), 0, [(2, 8)]),
  (102, (14, 0, 0, 0), 0, []),
  (103, (2, 0, 2, 0), 0, []),
  (104, (1, 0, 0, 0), nI 1, []),
  (105, (13, 254, 78, 0), 0, [(2, 8)]),
  (108, (14, 0, 0, 0), 0, []),
  (109, (2, 0, 2, 0), 0, []),
  (110, (1, 0, 0, 0), nI 3, []),
  (111, (13, 254, 78, 0), 0, [(2, 8)]),
  (114, (14, 0, 0, 0), 0, []),
  (115, (2, 0, 2, 0), 0, []),
  (116, (1, 0, 0, 0), nI 4, []),
  (117, (13, 254, 78, 0), 0, [(2, 8)]),
  (120, (14, 0, 0, 0), 0, []),
  (121, (2, 0, 2, 0), 0, []),
  (122, (1, 0, 0, 0), nI 5, []),
  (123, (13, 254, 78, 0), 0, [(2, 8)]),
  (126, (14, 0, 0, 0), 0, []),
  (127, (2, 0, 2, 0), 0, []),
  (128, (9, 33, 8, 7), 0, []),
  (131, (14, 0, 0, 0), 0, []),
  (132, (2, 0, 2, 0), 0, []),
  (133, (13, 257, 79, 0), 0, [(1, 8)]),
  (136, (14, 0, 0, 0), 0, []),
  (137, (1, 0, 1, 0), (-2), []),
  (139, (14, 0, 0, 0), 0, [])]
abbrev m_X8_totalOf : Nat := 76
/-- NameMaps$World.sitesUp()I: 22 entries; loop heads [4] -/
def co_X8_sitesUp : List Ent := [(0, (1, 0, 0, 0), nI 0, []),
  (1, (3, 1, 0, 0), 0, []),
  (2, (1, 0, 0, 0), nI 0, []),
  (3, (3, 2, 0, 0), 0, []),
  (4, (0, 3, 0, 0), 0, []),
  (4, (2, 2, 0, 0), 0, []),
  (5, (2, 0, 2, 0), 0, []),
  (6, (9, 53, 8, 4), 0, []),
  (9, (7, 37, 3, 0), 0, []),
  (12, (2, 0, 2, 0), 0, []),
  (13, (9, 19, 8, 1), 0, []),
  (16, (2, 2, 0, 0), 0, []),
  (17, (11, 2, 0, 0), 0, []),
  (18, (2, 0, 2, 0), 0, []),
  (19, (9, 65, 8, 6), 0, []),
  (22, (13, 196, 35, 0), 0, [(2, 6)]),
  (25, (6, 31, 0, 0), 0, []),
  (28, (5, 1, 0, 0), nI 1, []),
  (31, (5, 2, 0, 0), nI 1, []),
  (34, (8, 4, 0, 0), 0, []),
  (37, (2, 1, 0, 0), 0, []),
  (38, (14, 0, 0, 0), 0, [])]
abbrev m_X8_sitesUp : Nat := 77
/-- NameMaps$World.sumOverRouters(I)I: 22 entries; loop heads [4] -/
def co_X8_sumOverRouters : List Ent := [(0, (1, 0, 0, 0), nI 0, []),
  (1, (3, 2, 0, 0), 0, []),
  (2, (1, 0, 0, 0), nI 0, []),
  (3, (3, 3, 0, 0), 0, []),
  (4, (0, 4, 0, 0), 0, []),
  (4, (2, 3, 0, 0), 0, []),
  (5, (2, 0, 2, 0), 0, []),
  (6, (9, 59, 8, 5), 0, []),
  (9, (7, 31, 3, 0), 0, []),
  (12, (2, 2, 0, 0), 0, []),
  (13, (2, 0, 2, 0), 0, []),
  (14, (9, 25, 8, 2), 0, []),
  (17, (2, 3, 0, 0), 0, []),
  (18, (11, 2, 0, 0), 0, []),
  (19, (2, 1, 0, 0), 0, []),
  (20, (13, 260, 22, 0), 0, [(2, 4)]),
  (23, (4, 0, 0, 0), 0, []),
  (24, (3, 2, 0, 0), 0, []),
  (25, (5, 3, 0, 0), nI 1, []),
  (28, (8, 4, 0, 0), 0, []),
  (31, (2, 2, 0, 0), 0, []),
  (32, (14, 0, 0, 0), 0, [])]
abbrev m_X8_sumOverRouters : Nat := 78
/-- NameMaps$World.namesWithAnswer()I: 18 entries; loop heads [4] -/
def co_X8_namesWithAnswer : List Ent := [(0, (1, 0, 0, 0), nI 0, []),
  (1, (3, 1, 0, 0), 0, []),
  (2, (1, 0, 0, 0), nI 0, []),
  (3, (3, 2, 0, 0), 0, []),
  (4, (0, 3, 0, 0), 0, []),
  (4, (2, 2, 0, 0), 0, []),
  (5, (1, 0, 2, 0), nI 256, []),
  (8, (7, 29, 3, 0), 0, []),
  (11, (2, 0, 2, 0), 0, []),
  (12, (2, 2, 0, 0), 0, []),
  (13, (13, 216, 68, 0), 0, [(2, 8)]),
  (16, (1, 0, 0, 0), (-1), []),
  (17, (7, 23, 0, 0), 0, []),
  (20, (5, 1, 0, 0), nI 1, []),
  (23, (5, 2, 0, 0), nI 1, []),
  (26, (8, 4, 0, 0), 0, []),
  (29, (2, 1, 0, 0), 0, []),
  (30, (14, 0, 0, 0), 0, [])]
abbrev m_X8_namesWithAnswer : Nat := 79
/-- NameMaps.<init>()V: 46 entries; loop heads [47] -/
def co_X9_init : List Ent := [(0, (2, 0, 2, 0), 0, []),
  (1, (24, 1, 999, 0), 0, []),
  (4, (2, 0, 2, 0), 0, []),
  (5, (21, 7, 8, 0), 0, []),
  (8, (15, 0, 0, 0), 0, []),
  (9, (24, 9, 46, 0), 0, [(1, 0)]),
  (12, (10, 10, 9, 0), 0, []),
  (15, (2, 0, 2, 0), 0, []),
  (16, (21, 7, 8, 0), 0, []),
  (19, (15, 0, 0, 0), 0, []),
  (20, (24, 9, 46, 0), 0, [(1, 0)]),
  (23, (10, 16, 9, 1), 0, []),
  (26, (2, 0, 2, 0), 0, []),
  (27, (21, 19, 3, 0), 0, []),
  (30, (15, 0, 0, 0), 0, []),
  (31, (24, 21, 13, 0), 0, [(1, 0)]),
  (34, (10, 22, 9, 2), 0, []),
  (37, (2, 0, 2, 0), 0, []),
  (38, (1, 0, 0, 0), nI 2, []),
  (39, (23, 7, 8, 0), 0, []),
  (42, (10, 26, 9, 3), 0, []),
  (45, (1, 0, 0, 0), nI 0, []),
  (46, (3, 1, 0, 0), 0, []),
  (47, (0, 2, 0, 0), 0, []),
  (47, (2, 1, 0, 0), 0, []),
  (48, (1, 0, 0, 0), nI 2, []),
  (49, (7, 71, 3, 0), 0, []),
  (52, (2, 0, 2, 0), 0, []),
  (53, (9, 26, 9, 3), 0, []),
  (56, (2, 1, 0, 0), 0, []),
  (57, (21, 7, 8, 0), 0, []),
  (60, (15, 0, 0, 0), 0, []),
  (61, (24, 9, 46, 0), 0, [(1, 0)]),
  (64, (12, 2, 0, 0), 0, []),
  (65, (5, 1, 0, 0), nI 1, []),
  (68, (8, 47, 0, 0), 0, []),
  (71, (2, 0, 2, 0), 0, []),
  (72, (1, 0, 0, 0), nI 2, []),
  (73, (22, 1, 0, 0), 0, []),
  (75, (10, 30, 9, 4), 0, []),
  (78, (2, 0, 2, 0), 0, []),
  (79, (21, 34, 0, 0), 0, []),
  (82, (15, 0, 0, 0), 0, []),
  (83, (24, 36, 0, 1), 0, [(1, 0)]),
  (86, (10, 37, 9, 5), 0, []),
  (89, (14, 1, 0, 0), 0, [])]
abbrev m_X9_init : Nat := 80
/-- NameMaps.addServer(III)I: 14 entries; loop heads [] -/
def co_X9_addServer : List Ent := [(0, (2, 0, 2, 0), 0, []),
  (1, (9, 22, 9, 2), 0, []),
  (4, (2, 0, 2, 0), 0, []),
  (5, (9, 10, 9, 0), 0, []),
  (8, (13, 41, 15, 0), 0, [(2, 3)]),
  (11, (2, 0, 2, 0), 0, []),
  (12, (2, 0, 2, 0), 0, []),
  (13, (9, 10, 9, 0), 0, []),
  (16, (2, 1, 0, 0), 0, []),
  (17, (2, 2, 0, 0), 0, []),
  (18, (2, 3, 0, 0), 0, []),
  (19, (13, 45, 51, 0), 0, [(4, 8)]),
  (22, (13, 49, 105, 0), 0, [(2, 9)]),
  (25, (14, 0, 0, 0), 0, [])]
abbrev m_X9_addServer : Nat := 81
/-- NameMaps.addSite(III)I: 14 entries; loop heads [] -/
def co_X9_addSite : List Ent := [(0, (2, 0, 2, 0), 0, []),
  (1, (9, 22, 9, 2), 0, []),
  (4, (2, 0, 2, 0), 0, []),
  (5, (9, 10, 9, 0), 0, []),
  (8, (13, 41, 15, 0), 0, [(2, 3)]),
  (11, (2, 0, 2, 0), 0, []),
  (12, (2, 0, 2, 0), 0, []),
  (13, (9, 10, 9, 0), 0, []),
  (16, (2, 1, 0, 0), 0, []),
  (17, (2, 2, 0, 0), 0, []),
  (18, (2, 3, 0, 0), 0, []),
  (19, (13, 53, 52, 0), 0, [(4, 8)]),
  (22, (13, 49, 105, 0), 0, [(2, 9)]),
  (25, (14, 0, 0, 0), 0, [])]
abbrev m_X9_addSite : Nat := 82
/-- NameMaps.addRouter()I: 11 entries; loop heads [] -/
def co_X9_addRouter : List Ent := [(0, (2, 0, 2, 0), 0, []),
  (1, (9, 22, 9, 2), 0, []),
  (4, (2, 0, 2, 0), 0, []),
  (5, (9, 10, 9, 0), 0, []),
  (8, (13, 41, 15, 0), 0, [(2, 3)]),
  (11, (2, 0, 2, 0), 0, []),
  (12, (2, 0, 2, 0), 0, []),
  (13, (9, 10, 9, 0), 0, []),
  (16, (13, 56, 53, 0), 0, [(1, 8)]),
  (19, (13, 49, 105, 0), 0, [(2, 9)]),
  (22, (14, 0, 0, 0), 0, [])]
abbrev m_X9_addRouter : Nat := 83
/-- NameMaps.setSlot(IIIII)I: 16 entries; loop heads [] -/
def co_X9_setSlot : List Ent := [(0, (2, 0, 2, 0), 0, []),
  (1, (9, 22, 9, 2), 0, []),
  (4, (2, 0, 2, 0), 0, []),
  (5, (9, 10, 9, 0), 0, []),
  (8, (13, 41, 15, 0), 0, [(2, 3)]),
  (11, (2, 0, 2, 0), 0, []),
  (12, (2, 0, 2, 0), 0, []),
  (13, (9, 10, 9, 0), 0, []),
  (16, (2, 1, 0, 0), 0, []),
  (17, (2, 2, 0, 0), 0, []),
  (18, (2, 3, 0, 0), 0, []),
  (19, (2, 4, 1, 0), 0, []),
  (21, (2, 5, 1, 0), 0, []),
  (23, (13, 60, 54, 0), 0, [(6, 8)]),
  (26, (13, 49, 105, 0), 0, [(2, 9)]),
  (29, (14, 0, 0, 0), 0, [])]
abbrev m_X9_setSlot : Nat := 84
/-- NameMaps.emptySlot(II)I: 13 entries; loop heads [] -/
def co_X9_emptySlot : List Ent := [(0, (2, 0, 2, 0), 0, []),
  (1, (9, 22, 9, 2), 0, []),
  (4, (2, 0, 2, 0), 0, []),
  (5, (9, 10, 9, 0), 0, []),
  (8, (13, 41, 15, 0), 0, [(2, 3)]),
  (11, (2, 0, 2, 0), 0, []),
  (12, (2, 0, 2, 0), 0, []),
  (13, (9, 10, 9, 0), 0, []),
  (16, (2, 1, 0, 0), 0, []),
  (17, (2, 2, 0, 0), 0, []),
  (18, (13, 64, 55, 0), 0, [(3, 8)]),
  (21, (13, 49, 105, 0), 0, [(2, 9)]),
  (24, (14, 0, 0, 0), 0, [])]
abbrev m_X9_emptySlot : Nat := 85
/-- NameMaps.register(I)I: 12 entries; loop heads [] -/
def co_X9_register : List Ent := [(0, (2, 0, 2, 0), 0, []),
  (1, (9, 22, 9, 2), 0, []),
  (4, (2, 0, 2, 0), 0, []),
  (5, (9, 10, 9, 0), 0, []),
  (8, (13, 41, 15, 0), 0, [(2, 3)]),
  (11, (2, 0, 2, 0), 0, []),
  (12, (2, 0, 2, 0), 0, []),
  (13, (9, 10, 9, 0), 0, []),
  (16, (2, 1, 0, 0), 0, []),
  (17, (13, 68, 56, 0), 0, [(2, 8)]),
  (20, (13, 49, 105, 0), 0, [(2, 9)]),
  (23, (14, 0, 0, 0), 0, [])]
abbrev m_X9_register : Nat := 86
/-- NameMaps.unregister(I)I: 12 entries; loop heads [] -/
def co_X9_unregister : List Ent := [(0, (2, 0, 2, 0), 0, []),
  (1, (9, 22, 9, 2), 0, []),
  (4, (2, 0, 2, 0), 0, []),
  (5, (9, 10, 9, 0), 0, []),
  (8, (13, 41, 15, 0), 0, [(2, 3)]),
  (11, (2, 0, 2, 0), 0, []),
  (12, (2, 0, 2, 0), 0, []),
  (13, (9, 10, 9, 0), 0, []),
  (16, (2, 1, 0, 0), 0, []),
  (17, (13, 71, 57, 0), 0, [(2, 8)]),
  (20, (13, 49, 105, 0), 0, [(2, 9)]),
  (23, (14, 0, 0, 0), 0, [])]
abbrev m_X9_unregister : Nat := 87
/-- NameMaps.setMapLife(I)I: 12 entries; loop heads [] -/
def co_X9_setMapLife : List Ent := [(0, (2, 0, 2, 0), 0, []),
  (1, (9, 22, 9, 2), 0, []),
  (4, (2, 0, 2, 0), 0, []),
  (5, (9, 10, 9, 0), 0, []),
  (8, (13, 41, 15, 0), 0, [(2, 3)]),
  (11, (2, 0, 2, 0), 0, []),
  (12, (2, 0, 2, 0), 0, []),
  (13, (9, 10, 9, 0), 0, []),
  (16, (2, 1, 0, 0), 0, []),
  (17, (13, 74, 58, 0), 0, [(2, 8)]),
  (20, (13, 49, 105, 0), 0, [(2, 9)]),
  (23, (14, 0, 0, 0), 0, [])]
abbrev m_X9_setMapLife : Nat := 88
/-- NameMaps.send(III)I: 14 entries; loop heads [] -/
def co_X9_send : List Ent := [(0, (2, 0, 2, 0), 0, []),
  (1, (9, 22, 9, 2), 0, []),
  (4, (2, 0, 2, 0), 0, []),
  (5, (9, 10, 9, 0), 0, []),
  (8, (13, 41, 15, 0), 0, [(2, 3)]),
  (11, (2, 0, 2, 0), 0, []),
  (12, (2, 0, 2, 0), 0, []),
  (13, (9, 10, 9, 0), 0, []),
  (16, (2, 1, 0, 0), 0, []),
  (17, (2, 2, 0, 0), 0, []),
  (18, (2, 3, 0, 0), 0, []),
  (19, (13, 77, 61, 0), 0, [(4, 8)]),
  (22, (13, 49, 105, 0), 0, [(2, 9)]),
  (25, (14, 0, 0, 0), 0, [])]
abbrev m_X9_send : Nat := 89
/-- NameMaps.pass(I)I: 12 entries; loop heads [] -/
def co_X9_pass : List Ent := [(0, (2, 0, 2, 0), 0, []),
  (1, (9, 22, 9, 2), 0, []),
  (4, (2, 0, 2, 0), 0, []),
  (5, (9, 10, 9, 0), 0, []),
  (8, (13, 41, 15, 0), 0, [(2, 3)]),
  (11, (2, 0, 2, 0), 0, []),
  (12, (2, 0, 2, 0), 0, []),
  (13, (9, 10, 9, 0), 0, []),
  (16, (2, 1, 0, 0), 0, []),
  (17, (13, 80, 59, 0), 0, [(2, 8)]),
  (20, (13, 49, 105, 0), 0, [(2, 9)]),
  (23, (14, 0, 0, 0), 0, [])]
abbrev m_X9_pass : Nat := 90
/-- NameMaps.forget(I)I: 12 entries; loop heads [] -/
def co_X9_forget : List Ent := [(0, (2, 0, 2, 0), 0, []),
  (1, (9, 22, 9, 2), 0, []),
  (4, (2, 0, 2, 0), 0, []),
  (5, (9, 10, 9, 0), 0, []),
  (8, (13, 41, 15, 0), 0, [(2, 3)]),
  (11, (2, 0, 2, 0), 0, []),
  (12, (2, 0, 2, 0), 0, []),
  (13, (9, 10, 9, 0), 0, []),
  (16, (2, 1, 0, 0), 0, []),
  (17, (13, 83, 60, 0), 0, [(2, 8)]),
  (20, (13, 49, 105, 0), 0, [(2, 9)]),
  (23, (14, 0, 0, 0), 0, [])]
abbrev m_X9_forget : Nat := 91
/-- NameMaps.undo()I: 15 entries; loop heads [] -/
def co_X9_undo : List Ent := [(0, (2, 0, 2, 0), 0, []),
  (1, (9, 22, 9, 2), 0, []),
  (4, (9, 106, 3, 2), 0, []),
  (7, (6, 13, 1, 0), 0, []),
  (10, (1, 0, 1, 0), (-3), []),
  (12, (14, 0, 0, 0), 0, []),
  (13, (2, 0, 2, 0), 0, []),
  (14, (9, 22, 9, 2), 0, []),
  (17, (2, 0, 2, 0), 0, []),
  (18, (9, 10, 9, 0), 0, []),
  (21, (13, 109, 17, 0), 0, [(2, 3)]),
  (24, (2, 0, 2, 0), 0, []),
  (25, (9, 22, 9, 2), 0, []),
  (28, (9, 106, 3, 2), 0, []),
  (31, (14, 0, 0, 0), 0, [])]
abbrev m_X9_undo : Nat := 92
/-- NameMaps.save(I)I: 21 entries; loop heads [] -/
def co_X9_save : List Ent := [(0, (2, 1, 0, 0), 0, []),
  (1, (13, 112, 106, 1), 0, [(1, 9)]),
  (4, (6, 9, 1, 0), 0, []),
  (7, (1, 0, 0, 0), (-1), []),
  (8, (14, 0, 0, 0), 0, []),
  (9, (2, 0, 2, 0), 0, []),
  (10, (9, 26, 9, 3), 0, []),
  (13, (2, 1, 0, 0), 0, []),
  (14, (11, 2, 0, 0), 0, []),
  (15, (2, 0, 2, 0), 0, []),
  (16, (9, 10, 9, 0), 0, []),
  (19, (13, 116, 47, 0), 0, [(2, 8)]),
  (22, (2, 0, 2, 0), 0, []),
  (23, (9, 30, 9, 4), 0, []),
  (26, (2, 1, 0, 0), 0, []),
  (27, (1, 0, 0, 0), nI 1, []),
  (28, (12, 1, 0, 0), 0, []),
  (29, (2, 0, 2, 0), 0, []),
  (30, (9, 10, 9, 0), 0, []),
  (33, (9, 119, 8, 6), 0, []),
  (36, (14, 0, 0, 0), 0, [])]
abbrev m_X9_save : Nat := 93
/-- NameMaps.restore(I)I: 30 entries; loop heads [] -/
def co_X9_restore : List Ent := [(0, (2, 1, 0, 0), 0, []),
  (1, (13, 112, 106, 1), 0, [(1, 9)]),
  (4, (6, 9, 1, 0), 0, []),
  (7, (1, 0, 0, 0), (-1), []),
  (8, (14, 0, 0, 0), 0, []),
  (9, (2, 0, 2, 0), 0, []),
  (10, (9, 30, 9, 4), 0, []),
  (13, (2, 1, 0, 0), 0, []),
  (14, (11, 1, 0, 0), 0, []),
  (15, (6, 21, 1, 0), 0, []),
  (18, (1, 0, 1, 0), (-3), []),
  (20, (14, 0, 0, 0), 0, []),
  (21, (2, 0, 2, 0), 0, []),
  (22, (9, 22, 9, 2), 0, []),
  (25, (2, 0, 2, 0), 0, []),
  (26, (9, 10, 9, 0), 0, []),
  (29, (13, 41, 15, 0), 0, [(2, 3)]),
  (32, (2, 0, 2, 0), 0, []),
  (33, (9, 10, 9, 0), 0, []),
  (36, (2, 0, 2, 0), 0, []),
  (37, (9, 26, 9, 3), 0, []),
  (40, (2, 1, 0, 0), 0, []),
  (41, (11, 2, 0, 0), 0, []),
  (42, (13, 116, 47, 0), 0, [(2, 8)]),
  (45, (2, 0, 2, 0), 0, []),
  (46, (2, 0, 2, 0), 0, []),
  (47, (9, 10, 9, 0), 0, []),
  (50, (9, 119, 8, 6), 0, []),
  (53, (13, 49, 105, 0), 0, [(2, 9)]),
  (56, (14, 0, 0, 0), 0, [])]
abbrev m_X9_restore : Nat := 94
/-- NameMaps.server(II)I: 13 entries; loop heads [] -/
def co_X9_server : List Ent := [(0, (2, 0, 2, 0), 0, []),
  (1, (9, 10, 9, 0), 0, []),
  (4, (2, 1, 0, 0), 0, []),
  (5, (13, 122, 48, 0), 0, [(2, 8)]),
  (8, (6, 23, 0, 0), 0, []),
  (11, (2, 0, 2, 0), 0, []),
  (12, (9, 10, 9, 0), 0, []),
  (15, (2, 1, 0, 0), 0, []),
  (16, (2, 2, 0, 0), 0, []),
  (17, (13, 125, 71, 0), 0, [(3, 8)]),
  (20, (8, 24, 0, 0), 0, []),
  (23, (1, 0, 0, 0), (-1), []),
  (24, (14, 0, 0, 0), 0, [])]
abbrev m_X9_server : Nat := 95
/-- NameMaps.site(II)I: 13 entries; loop heads [] -/
def co_X9_site : List Ent := [(0, (2, 0, 2, 0), 0, []),
  (1, (9, 10, 9, 0), 0, []),
  (4, (2, 1, 0, 0), 0, []),
  (5, (13, 128, 49, 0), 0, [(2, 8)]),
  (8, (6, 23, 0, 0), 0, []),
  (11, (2, 0, 2, 0), 0, []),
  (12, (9, 10, 9, 0), 0, []),
  (15, (2, 1, 0, 0), 0, []),
  (16, (2, 2, 0, 0), 0, []),
  (17, (13, 131, 74, 0), 0, [(3, 8)]),
  (20, (8, 24, 0, 0), 0, []),
  (23, (1, 0, 0, 0), (-1), []),
  (24, (14, 0, 0, 0), 0, [])]
abbrev m_X9_site : Nat := 96
/-- NameMaps.slot(III)I: 20 entries; loop heads [] -/
def co_X9_slot : List Ent := [(0, (2, 0, 2, 0), 0, []),
  (1, (9, 10, 9, 0), 0, []),
  (4, (2, 1, 0, 0), 0, []),
  (5, (13, 128, 49, 0), 0, [(2, 8)]),
  (8, (6, 18, 0, 0), 0, []),
  (11, (2, 2, 0, 0), 0, []),
  (12, (13, 134, 107, 1), 0, [(1, 9)]),
  (15, (6, 20, 1, 0), 0, []),
  (18, (1, 0, 0, 0), (-1), []),
  (19, (14, 0, 0, 0), 0, []),
  (20, (2, 0, 2, 0), 0, []),
  (21, (9, 10, 9, 0), 0, []),
  (24, (9, 137, 8, 1), 0, []),
  (27, (2, 1, 0, 0), 0, []),
  (28, (11, 2, 0, 0), 0, []),
  (29, (9, 141, 6, 1), 0, []),
  (32, (2, 2, 0, 0), 0, []),
  (33, (2, 3, 0, 0), 0, []),
  (34, (13, 147, 39, 0), 0, [(3, 7)]),
  (37, (14, 0, 0, 0), 0, [])]
abbrev m_X9_slot : Nat := 97
/-- NameMaps.router(II)I: 15 entries; loop heads [] -/
def co_X9_router : List Ent := [(0, (2, 0, 2, 0), 0, []),
  (1, (9, 10, 9, 0), 0, []),
  (4, (2, 1, 0, 0), 0, []),
  (5, (13, 152, 50, 0), 0, [(2, 8)]),
  (8, (6, 27, 0, 0), 0, []),
  (11, (2, 0, 2, 0), 0, []),
  (12, (9, 10, 9, 0), 0, []),
  (15, (9, 155, 8, 2), 0, []),
  (18, (2, 1, 0, 0), 0, []),
  (19, (11, 2, 0, 0), 0, []),
  (20, (2, 2, 0, 0), 0, []),
  (21, (13, 159, 22, 0), 0, [(2, 4)]),
  (24, (8, 28, 0, 0), 0, []),
  (27, (1, 0, 0, 0), (-1), []),
  (28, (14, 0, 0, 0), 0, [])]
abbrev m_X9_router : Nat := 98
/-- NameMaps.map(III)I: 29 entries; loop heads [] -/
def co_X9_map : List Ent := [(0, (2, 0, 2, 0), 0, []),
  (1, (9, 10, 9, 0), 0, []),
  (4, (2, 1, 0, 0), 0, []),
  (5, (13, 152, 50, 0), 0, [(2, 8)]),
  (8, (6, 27, 0, 0), 0, []),
  (11, (2, 0, 2, 0), 0, []),
  (12, (9, 10, 9, 0), 0, []),
  (15, (9, 155, 8, 2), 0, []),
  (18, (2, 1, 0, 0), 0, []),
  (19, (11, 2, 0, 0), 0, []),
  (20, (2, 2, 0, 0), 0, []),
  (21, (13, 164, 21, 0), 0, [(2, 4)]),
  (24, (6, 29, 1, 0), 0, []),
  (27, (1, 0, 0, 0), (-1), []),
  (28, (14, 0, 0, 0), 0, []),
  (29, (2, 0, 2, 0), 0, []),
  (30, (9, 10, 9, 0), 0, []),
  (33, (9, 155, 8, 2), 0, []),
  (36, (2, 1, 0, 0), 0, []),
  (37, (11, 2, 0, 0), 0, []),
  (38, (9, 167, 4, 0), 0, []),
  (41, (2, 2, 0, 0), 0, []),
  (42, (11, 2, 0, 0), 0, []),
  (43, (2, 3, 0, 0), 0, []),
  (44, (2, 0, 2, 0), 0, []),
  (45, (9, 10, 9, 0), 0, []),
  (48, (9, 119, 8, 6), 0, []),
  (51, (13, 171, 12, 0), 0, [(3, 2)]),
  (54, (14, 0, 0, 0), 0, [])]
abbrev m_X9_map : Nat := 99
/-- NameMaps.answer(I)I: 17 entries; loop heads [] -/
def co_X9_answer : List Ent := [(0, (2, 1, 0, 0), 0, []),
  (1, (13, 175, 108, 1), 0, [(1, 9)]),
  (4, (6, 10, 1, 0), 0, []),
  (7, (1, 0, 1, 0), (-2), []),
  (9, (14, 0, 0, 0), 0, []),
  (10, (2, 0, 2, 0), 0, []),
  (11, (9, 10, 9, 0), 0, []),
  (14, (2, 1, 0, 0), 0, []),
  (15, (13, 178, 68, 0), 0, [(2, 8)]),
  (18, (3, 2, 0, 0), 0, []),
  (19, (2, 2, 0, 0), 0, []),
  (20, (1, 0, 0, 0), (-1), []),
  (21, (7, 29, 1, 0), 0, []),
  (24, (1, 0, 1, 0), (-5), []),
  (26, (8, 30, 0, 0), 0, []),
  (29, (2, 2, 0, 0), 0, []),
  (30, (14, 0, 0, 0), 0, [])]
abbrev m_X9_answer : Nat := 100
/-- NameMaps.endingNext(I)I: 16 entries; loop heads [] -/
def co_X9_endingNext : List Ent := [(0, (2, 1, 0, 0), 0, []),
  (1, (6, 7, 3, 0), 0, []),
  (4, (1, 0, 1, 0), (-2), []),
  (6, (14, 0, 0, 0), 0, []),
  (7, (2, 0, 2, 0), 0, []),
  (8, (9, 10, 9, 0), 0, []),
  (11, (2, 1, 0, 0), 0, []),
  (12, (13, 187, 69, 0), 0, [(2, 8)]),
  (15, (3, 2, 0, 0), 0, []),
  (16, (2, 2, 0, 0), 0, []),
  (17, (1, 0, 0, 0), (-1), []),
  (18, (7, 26, 1, 0), 0, []),
  (21, (1, 0, 1, 0), (-5), []),
  (23, (8, 27, 0, 0), 0, []),
  (26, (2, 2, 0, 0), 0, []),
  (27, (14, 0, 0, 0), 0, [])]
abbrev m_X9_endingNext : Nat := 101
/-- NameMaps.total(I)I: 15 entries; loop heads [] -/
def co_X9_total : List Ent := [(0, (2, 1, 0, 0), 0, []),
  (1, (18, 44, 27, 1), 0, [(11, 28), (12, 36)]),
  (28, (2, 0, 2, 0), 0, []),
  (29, (9, 22, 9, 2), 0, []),
  (32, (9, 106, 3, 2), 0, []),
  (35, (14, 0, 0, 0), 0, []),
  (36, (2, 0, 2, 0), 0, []),
  (37, (9, 37, 9, 5), 0, []),
  (40, (9, 89, 0, 1), 0, []),
  (43, (14, 0, 0, 0), 0, []),
  (44, (2, 0, 2, 0), 0, []),
  (45, (9, 10, 9, 0), 0, []),
  (48, (2, 1, 0, 0), 0, []),
  (49, (13, 190, 76, 0), 0, [(2, 8)]),
  (52, (14, 0, 0, 0), 0, [])]
abbrev m_X9_total : Nat := 102
/-- NameMaps.wouldReach(IIII)I: 33 entries; loop heads [] -/
def co_X9_wouldReach : List Ent := [(0, (2, 0, 2, 0), 0, []),
  (1, (9, 10, 9, 0), 0, []),
  (4, (2, 1, 0, 0), 0, []),
  (5, (13, 152, 50, 0), 0, [(2, 8)]),
  (8, (6, 13, 1, 0), 0, []),
  (11, (1, 0, 0, 0), (-1), []),
  (12, (14, 0, 0, 0), 0, []),
  (13, (2, 4, 1, 0), 0, []),
  (15, (6, 25, 2, 0), 0, []),
  (18, (2, 4, 1, 0), 0, []),
  (20, (1, 0, 1, 0), nI 99, []),
  (22, (7, 28, 5, 0), 0, []),
  (25, (1, 0, 1, 0), (-2), []),
  (27, (14, 0, 0, 0), 0, []),
  (28, (2, 0, 2, 0), 0, []),
  (29, (9, 16, 9, 1), 0, []),
  (32, (2, 0, 2, 0), 0, []),
  (33, (9, 10, 9, 0), 0, []),
  (36, (13, 116, 47, 0), 0, [(2, 8)]),
  (39, (2, 0, 2, 0), 0, []),
  (40, (9, 16, 9, 1), 0, []),
  (43, (15, 0, 0, 0), 0, []),
  (44, (9, 119, 8, 6), 0, []),
  (47, (2, 4, 1, 0), 0, []),
  (49, (4, 0, 0, 0), 0, []),
  (50, (10, 119, 8, 6), 0, []),
  (53, (2, 0, 2, 0), 0, []),
  (54, (9, 16, 9, 1), 0, []),
  (57, (2, 1, 0, 0), 0, []),
  (58, (2, 2, 0, 0), 0, []),
  (59, (2, 3, 0, 0), 0, []),
  (60, (13, 77, 61, 0), 0, [(4, 8)]),
  (63, (14, 0, 0, 0), 0, [])]
abbrev m_X9_wouldReach : Nat := 103
/-- NameMaps.wouldAsk(III)I: 37 entries; loop heads [] -/
def co_X9_wouldAsk : List Ent := [(0, (2, 0, 2, 0), 0, []),
  (1, (9, 10, 9, 0), 0, []),
  (4, (2, 1, 0, 0), 0, []),
  (5, (13, 152, 50, 0), 0, [(2, 8)]),
  (8, (6, 13, 1, 0), 0, []),
  (11, (1, 0, 0, 0), (-1), []),
  (12, (14, 0, 0, 0), 0, []),
  (13, (2, 0, 2, 0), 0, []),
  (14, (9, 16, 9, 1), 0, []),
  (17, (2, 0, 2, 0), 0, []),
  (18, (9, 10, 9, 0), 0, []),
  (21, (13, 116, 47, 0), 0, [(2, 8)]),
  (24, (2, 0, 2, 0), 0, []),
  (25, (9, 16, 9, 1), 0, []),
  (28, (2, 1, 0, 0), 0, []),
  (29, (2, 2, 0, 0), 0, []),
  (30, (2, 3, 0, 0), 0, []),
  (31, (13, 77, 61, 0), 0, [(4, 8)]),
  (34, (3, 4, 1, 0), 0, []),
  (36, (2, 4, 1, 0), 0, []),
  (38, (6, 46, 3, 0), 0, []),
  (41, (2, 4, 1, 0), 0, []),
  (43, (8, 71, 0, 0), 0, []),
  (46, (2, 0, 2, 0), 0, []),
  (47, (9, 16, 9, 1), 0, []),
  (50, (9, 155, 8, 2), 0, []),
  (53, (2, 1, 0, 0), 0, []),
  (54, (11, 2, 0, 0), 0, []),
  (55, (9, 193, 4, 2), 0, []),
  (58, (2, 0, 2, 0), 0, []),
  (59, (9, 10, 9, 0), 0, []),
  (62, (9, 155, 8, 2), 0, []),
  (65, (2, 1, 0, 0), 0, []),
  (66, (11, 2, 0, 0), 0, []),
  (67, (9, 193, 4, 2), 0, []),
  (70, (4, 1, 0, 0), 0, []),
  (71, (14, 0, 0, 0), 0, [])]
abbrev m_X9_wouldAsk : Nat := 104
/-- NameMaps.recorded(I)I: 7 entries; loop heads [] -/
def co_X9_recorded : List Ent := [(0, (2, 1, 0, 0), 0, []),
  (1, (6, 11, 2, 0), 0, []),
  (4, (2, 0, 2, 0), 0, []),
  (5, (9, 22, 9, 2), 0, []),
  (8, (13, 202, 16, 0), 0, [(1, 3)]),
  (11, (2, 1, 0, 0), 0, []),
  (12, (14, 0, 0, 0), 0, [])]
abbrev m_X9_recorded : Nat := 105
/-- NameMaps.isSave(I)Z: 9 entries; loop heads [] -/
def co_X9_isSave : List Ent := [(0, (2, 0, 0, 0), 0, []),
  (1, (6, 13, 2, 0), 0, []),
  (4, (2, 0, 0, 0), 0, []),
  (5, (1, 0, 0, 0), nI 2, []),
  (6, (7, 13, 3, 0), 0, []),
  (9, (1, 0, 0, 0), nI 1, []),
  (10, (8, 14, 0, 0), 0, []),
  (13, (1, 0, 0, 0), nI 0, []),
  (14, (14, 0, 0, 0), 0, [])]
abbrev m_X9_isSave : Nat := 106
/-- NameMaps.isSlot(I)Z: 9 entries; loop heads [] -/
def co_X9_isSlot : List Ent := [(0, (2, 0, 0, 0), 0, []),
  (1, (6, 13, 2, 0), 0, []),
  (4, (2, 0, 0, 0), 0, []),
  (5, (1, 0, 0, 0), nI 3, []),
  (6, (7, 13, 3, 0), 0, []),
  (9, (1, 0, 0, 0), nI 1, []),
  (10, (8, 14, 0, 0), 0, []),
  (13, (1, 0, 0, 0), nI 0, []),
  (14, (14, 0, 0, 0), 0, [])]
abbrev m_X9_isSlot : Nat := 107
/-- NameMaps.isName(I)Z: 9 entries; loop heads [] -/
def co_X9_isName : List Ent := [(0, (2, 0, 0, 0), 0, []),
  (1, (6, 15, 2, 0), 0, []),
  (4, (2, 0, 0, 0), 0, []),
  (5, (1, 0, 2, 0), nI 256, []),
  (8, (7, 15, 3, 0), 0, []),
  (11, (1, 0, 0, 0), nI 1, []),
  (12, (8, 16, 0, 0), 0, []),
  (15, (1, 0, 0, 0), nI 0, []),
  (16, (14, 0, 0, 0), 0, [])]
abbrev m_X9_isName : Nat := 108
/-- NameMaps.isFlow(I)Z: 9 entries; loop heads [] -/
def co_X9_isFlow : List Ent := [(0, (2, 0, 0, 0), 0, []),
  (1, (6, 14, 2, 0), 0, []),
  (4, (2, 0, 0, 0), 0, []),
  (5, (1, 0, 1, 0), nI 100, []),
  (7, (7, 14, 3, 0), 0, []),
  (10, (1, 0, 0, 0), nI 1, []),
  (11, (8, 15, 0, 0), 0, []),
  (14, (1, 0, 0, 0), nI 0, []),
  (15, (14, 0, 0, 0), 0, [])]
abbrev m_X9_isFlow : Nat := 109
/-- NameMaps.isPlaceOfSlot(I)Z: 9 entries; loop heads [] -/
def co_X9_isPlaceOfSlot : List Ent := [(0, (2, 0, 0, 0), 0, []),
  (1, (6, 14, 2, 0), 0, []),
  (4, (2, 0, 0, 0), 0, []),
  (5, (1, 0, 1, 0), nI 32, []),
  (7, (7, 14, 3, 0), 0, []),
  (10, (1, 0, 0, 0), nI 1, []),
  (11, (8, 15, 0, 0), 0, []),
  (14, (1, 0, 0, 0), nI 0, []),
  (15, (14, 0, 0, 0), 0, [])]
abbrev m_X9_isPlaceOfSlot : Nat := 110
/-- NameMaps.isBlock(II)Z: 23 entries; loop heads [] -/
def co_X9_isBlock : List Ent := [(0, (2, 1, 0, 0), 0, []),
  (1, (1, 0, 0, 0), nI 1, []),
  (2, (7, 20, 2, 0), 0, []),
  (5, (2, 1, 0, 0), 0, []),
  (6, (1, 0, 2, 0), nI 256, []),
  (9, (7, 20, 4, 0), 0, []),
  (12, (2, 1, 0, 0), 0, []),
  (13, (13, 217, 112, 3), 0, [(1, 25)]),
  (16, (1, 0, 0, 0), nI 1, []),
  (17, (7, 22, 0, 0), 0, []),
  (20, (1, 0, 0, 0), nI 0, []),
  (21, (14, 0, 0, 0), 0, []),
  (22, (2, 0, 0, 0), 0, []),
  (23, (13, 175, 108, 1), 0, [(1, 9)]),
  (26, (6, 39, 0, 0), 0, []),
  (29, (2, 0, 0, 0), 0, []),
  (30, (2, 1, 0, 0), 0, []),
  (31, (4, 4, 0, 0), 0, []),
  (32, (6, 39, 1, 0), 0, []),
  (35, (1, 0, 0, 0), nI 1, []),
  (36, (8, 40, 0, 0), 0, []),
  (39, (1, 0, 0, 0), nI 0, []),
  (40, (14, 0, 0, 0), 0, [])]
abbrev m_X9_isBlock : Nat := 111
/-- java/lang/Integer.bitCount(I)I: 42 entries; loop heads [] -/
def co_J6_bitCount_0f7a4 : List Ent := [(0, (2, 0, 0, 0), 0, []),
  (1, (2, 0, 0, 0), 0, []),
  (2, (1, 0, 0, 0), nI 1, []),
  (3, (4, 6, 0, 0), 0, []),
  (4, (1, 265, 3, 0), nI 1431655765, []),
  (7, (4, 5, 0, 0), 0, []),
  (8, (4, 1, 0, 0), 0, []),
  (9, (3, 0, 0, 0), 0, []),
  (10, (2, 0, 0, 0), 0, []),
  (11, (1, 266, 3, 0), nI 858993459, []),
  (14, (4, 5, 0, 0), 0, []),
  (15, (2, 0, 0, 0), 0, []),
  (16, (1, 0, 0, 0), nI 2, []),
  (17, (4, 6, 0, 0), 0, []),
  (18, (1, 266, 3, 0), nI 858993459, []),
  (21, (4, 5, 0, 0), 0, []),
  (22, (4, 0, 0, 0), 0, []),
  (23, (3, 0, 0, 0), 0, []),
  (24, (2, 0, 0, 0), 0, []),
  (25, (2, 0, 0, 0), 0, []),
  (26, (1, 0, 0, 0), nI 4, []),
  (27, (4, 6, 0, 0), 0, []),
  (28, (4, 0, 0, 0), 0, []),
  (29, (1, 267, 3, 0), nI 252645135, []),
  (32, (4, 5, 0, 0), 0, []),
  (33, (3, 0, 0, 0), 0, []),
  (34, (2, 0, 0, 0), 0, []),
  (35, (2, 0, 0, 0), 0, []),
  (36, (1, 0, 1, 0), nI 8, []),
  (38, (4, 6, 0, 0), 0, []),
  (39, (4, 0, 0, 0), 0, []),
  (40, (3, 0, 0, 0), 0, []),
  (41, (2, 0, 0, 0), 0, []),
  (42, (2, 0, 0, 0), 0, []),
  (43, (1, 0, 1, 0), nI 16, []),
  (45, (4, 6, 0, 0), 0, []),
  (46, (4, 0, 0, 0), 0, []),
  (47, (3, 0, 0, 0), 0, []),
  (48, (2, 0, 0, 0), 0, []),
  (49, (1, 0, 1, 0), nI 63, []),
  (51, (4, 5, 0, 0), 0, []),
  (52, (14, 0, 0, 0), 0, [])]
abbrev m_J6_bitCount_0f7a4 : Nat := 112
/-- java/lang/Math.floorMod(II)I: 16 entries; loop heads [] -/
def co_J9_floorMod_7cf53 : List Ent := [(0, (2, 0, 0, 0), 0, []),
  (1, (2, 1, 0, 0), 0, []),
  (2, (4, 4, 0, 0), 0, []),
  (3, (3, 2, 0, 0), 0, []),
  (4, (2, 0, 0, 0), 0, []),
  (5, (2, 1, 0, 0), 0, []),
  (6, (4, 7, 0, 0), 0, []),
  (7, (6, 18, 3, 0), 0, []),
  (10, (2, 2, 0, 0), 0, []),
  (11, (6, 18, 0, 0), 0, []),
  (14, (2, 2, 0, 0), 0, []),
  (15, (2, 1, 0, 0), 0, []),
  (16, (4, 0, 0, 0), 0, []),
  (17, (14, 0, 0, 0), 0, []),
  (18, (2, 2, 0, 0), 0, []),
  (19, (14, 0, 0, 0), 0, [])]
abbrev m_J9_floorMod_7cf53 : Nat := 113
/-- NameMapsLaw.cell([II)I: 14 entries; loop heads [] -/
def co_L_cell : List Ent := [(0, (2, 1, 0, 0), 0, []),
  (1, (2, 0, 2, 0), 0, []),
  (2, (19, 0, 0, 0), 0, []),
  (3, (7, 12, 3, 0), 0, []),
  (6, (2, 0, 2, 0), 0, []),
  (7, (2, 1, 0, 0), 0, []),
  (8, (11, 0, 0, 0), 0, []),
  (9, (8, 18, 0, 0), 0, []),
  (12, (1, 7, 4, 0), nI 763049417, []),
  (14, (2, 1, 0, 0), 0, []),
  (15, (1, 0, 0, 0), nI 3, []),
  (16, (4, 0, 0, 0), 0, []),
  (17, (4, 2, 0, 0), 0, []),
  (18, (14, 0, 0, 0), 0, [])]
abbrev m_L_cell : Nat := 114
/-- NameMapsLaw.up(II)I: 6 entries; loop heads [] -/
def co_L_up : List Ent := [(0, (2, 0, 0, 0), 0, []),
  (1, (1, 8, 4, 0), nI 2147483647, []),
  (3, (4, 5, 0, 0), 0, []),
  (4, (2, 1, 0, 0), 0, []),
  (5, (4, 4, 0, 0), 0, []),
  (6, (14, 0, 0, 0), 0, [])]
abbrev m_L_up : Nat := 115
/-- NameMapsLaw.size(I)I: 6 entries; loop heads [] -/
def co_L_size : List Ent := [(0, (1, 0, 0, 0), nI 1, []),
  (1, (2, 0, 0, 0), 0, []),
  (2, (1, 0, 1, 0), nI 7, []),
  (4, (4, 5, 0, 0), 0, []),
  (5, (4, 9, 0, 0), 0, []),
  (6, (14, 0, 0, 0), 0, [])]
abbrev m_L_size : Nat := 116
/-- NameMapsLaw.any(LNameMaps;II)I: 47 entries; loop heads [] -/
def co_L_any : List Ent := [(0, (2, 2, 0, 0), 0, []),
  (1, (1, 0, 1, 0), nI 7, []),
  (3, (4, 5, 0, 0), 0, []),
  (4, (18, 101, 44, 0), 0, [(0, 48), (1, 56), (2, 64), (3, 74), (4, 81), (5, 89), (6, 95)]),
  (48, (2, 0, 2, 0), 0, []),
  (49, (2, 1, 0, 0), 0, []),
  (50, (2, 2, 0, 0), 0, []),
  (51, (2, 1, 0, 0), 0, []),
  (52, (13, 36, 81, 0), 0, [(4, 9)]),
  (55, (14, 0, 0, 0), 0, []),
  (56, (2, 0, 2, 0), 0, []),
  (57, (2, 1, 0, 0), 0, []),
  (58, (2, 2, 0, 0), 0, []),
  (59, (2, 1, 0, 0), 0, []),
  (60, (13, 39, 82, 0), 0, [(4, 9)]),
  (63, (14, 0, 0, 0), 0, []),
  (64, (2, 0, 2, 0), 0, []),
  (65, (2, 1, 0, 0), 0, []),
  (66, (2, 2, 0, 0), 0, []),
  (67, (2, 1, 0, 0), 0, []),
  (68, (2, 2, 0, 0), 0, []),
  (69, (2, 1, 0, 0), 0, []),
  (70, (13, 42, 84, 0), 0, [(6, 9)]),
  (73, (14, 0, 0, 0), 0, []),
  (74, (2, 0, 2, 0), 0, []),
  (75, (2, 1, 0, 0), 0, []),
  (76, (2, 2, 0, 0), 0, []),
  (77, (13, 46, 85, 0), 0, [(3, 9)]),
  (80, (14, 0, 0, 0), 0, []),
  (81, (2, 0, 2, 0), 0, []),
  (82, (2, 1, 0, 0), 0, []),
  (83, (2, 2, 0, 0), 0, []),
  (84, (2, 1, 0, 0), 0, []),
  (85, (13, 49, 89, 0), 0, [(4, 9)]),
  (88, (14, 0, 0, 0), 0, []),
  (89, (2, 0, 2, 0), 0, []),
  (90, (2, 1, 0, 0), 0, []),
  (91, (13, 52, 90, 0), 0, [(2, 9)]),
  (94, (14, 0, 0, 0), 0, []),
  (95, (2, 0, 2, 0), 0, []),
  (96, (2, 1, 0, 0), 0, []),
  (97, (13, 55, 94, 0), 0, [(2, 9)]),
  (100, (14, 0, 0, 0), 0, []),
  (101, (2, 0, 2, 0), 0, []),
  (102, (2, 1, 0, 0), 0, []),
  (103, (13, 58, 88, 0), 0, [(2, 9)]),
  (106, (14, 0, 0, 0), 0, [])]
abbrev m_L_any : Nat := 117
/-- NameMapsLaw.turn(LNameMaps;III)I: 150 entries; loop heads [] -/
def co_L_turn : List Ent := [(0, (2, 2, 0, 0), 0, []),
  (1, (1, 0, 0, 0), nI 5, []),
  (2, (13, 61, 115, 1), 0, [(2, 24)]),
  (5, (3, 4, 1, 0), 0, []),
  (7, (2, 2, 0, 0), 0, []),
  (8, (1, 0, 1, 0), nI 8, []),
  (10, (4, 8, 0, 0), 0, []),
  (11, (13, 66, 116, 1), 0, [(1, 24)]),
  (14, (3, 5, 1, 0), 0, []),
  (16, (2, 1, 0, 0), 0, []),
  (17, (18, 322, 75, 0), 0, [(0, 92), (1, 117), (2, 148), (3, 153), (4, 153), (5, 191), (6, 203), (7, 203), (8, 210), (9, 240), (10, 272), (11, 272), (12, 272), (13, 272), (14, 298)]),
  (92, (2, 0, 2, 0), 0, []),
  (93, (2, 2, 0, 0), 0, []),
  (94, (1, 0, 0, 0), nI 4, []),
  (95, (13, 61, 115, 1), 0, [(2, 24)]),
  (98, (2, 3, 0, 0), 0, []),
  (99, (1, 0, 2, 0), nI 256, []),
  (102, (2, 5, 1, 0), 0, []),
  (104, (4, 3, 0, 0), 0, []),
  (105, (13, 61, 115, 1), 0, [(2, 24)]),
  (108, (2, 5, 1, 0), 0, []),
  (110, (4, 2, 0, 0), 0, []),
  (111, (2, 5, 1, 0), 0, []),
  (113, (13, 36, 81, 0), 0, [(4, 9)]),
  (116, (14, 0, 0, 0), 0, []),
  (117, (2, 0, 2, 0), 0, []),
  (118, (2, 3, 0, 0), 0, []),
  (119, (1, 0, 2, 0), nI 256, []),
  (122, (2, 5, 1, 0), 0, []),
  (124, (4, 3, 0, 0), 0, []),
  (125, (13, 61, 115, 1), 0, [(2, 24)]),
  (128, (2, 5, 1, 0), 0, []),
  (130, (4, 2, 0, 0), 0, []),
  (131, (2, 5, 1, 0), 0, []),
  (133, (1, 0, 0, 0), nI 1, []),
  (134, (2, 3, 0, 0), 0, []),
  (135, (1, 0, 1, 0), nI 9, []),
  (137, (4, 8, 0, 0), 0, []),
  (138, (1, 0, 1, 0), nI 48, []),
  (140, (13, 61, 115, 1), 0, [(2, 24)]),
  (143, (4, 0, 0, 0), 0, []),
  (144, (13, 39, 82, 0), 0, [(4, 9)]),
  (147, (14, 0, 0, 0), 0, []),
  (148, (2, 0, 2, 0), 0, []),
  (149, (13, 69, 83, 0), 0, [(1, 9)]),
  (152, (14, 0, 0, 0), 0, []),
  (153, (2, 0, 2, 0), 0, []),
  (154, (2, 4, 1, 0), 0, []),
  (156, (2, 3, 0, 0), 0, []),
  (157, (1, 0, 0, 0), nI 3, []),
  (158, (13, 61, 115, 1), 0, [(2, 24)]),
  (161, (2, 3, 0, 0), 0, []),
  (162, (1, 0, 0, 0), nI 2, []),
  (163, (4, 8, 0, 0), 0, []),
  (164, (1, 0, 1, 0), nI 8, []),
  (166, (13, 61, 115, 1), 0, [(2, 24)]),
  (169, (2, 3, 0, 0), 0, []),
  (170, (1, 0, 0, 0), nI 5, []),
  (171, (4, 8, 0, 0), 0, []),
  (172, (1, 0, 0, 0), nI 3, []),
  (173, (13, 61, 115, 1), 0, [(2, 24)]),
  (176, (1, 0, 0, 0), nI 1, []),
  (177, (2, 3, 0, 0), 0, []),
  (178, (1, 0, 1, 0), nI 7, []),
  (180, (4, 8, 0, 0), 0, []),
  (181, (1, 0, 1, 0), nI 9, []),
  (183, (13, 61, 115, 1), 0, [(2, 24)]),
  (186, (4, 0, 0, 0), 0, []),
  (187, (13, 42, 84, 0), 0, [(6, 9)]),
  (190, (14, 0, 0, 0), 0, []),
  (191, (2, 0, 2, 0), 0, []),
  (192, (2, 4, 1, 0), 0, []),
  (194, (2, 3, 0, 0), 0, []),
  (195, (1, 0, 0, 0), nI 3, []),
  (196, (13, 61, 115, 1), 0, [(2, 24)]),
  (199, (13, 46, 85, 0), 0, [(3, 9)]),
  (202, (14, 0, 0, 0), 0, []),
  (203, (2, 0, 2, 0), 0, []),
  (204, (2, 4, 1, 0), 0, []),
  (206, (13, 73, 86, 0), 0, [(2, 9)]),
  (209, (14, 0, 0, 0), 0, []),
  (210, (2, 3, 0, 0), 0, []),
  (211, (1, 0, 0, 0), nI 1, []),
  (212, (4, 5, 0, 0), 0, []),
  (213, (6, 225, 1, 0), 0, []),
  (216, (2, 0, 2, 0), 0, []),
  (217, (2, 4, 1, 0), 0, []),
  (219, (13, 76, 87, 0), 0, [(2, 9)]),
  (222, (8, 239, 0, 0), 0, []),
  (225, (2, 0, 2, 0), 0, []),
  (226, (1, 0, 0, 0), nI 1, []),
  (227, (2, 3, 0, 0), 0, []),
  (228, (1, 0, 0, 0), nI 1, []),
  (229, (4, 8, 0, 0), 0, []),
  (230, (1, 0, 1, 0), nI 20, []),
  (232, (13, 61, 115, 1), 0, [(2, 24)]),
  (235, (4, 0, 0, 0), 0, []),
  (236, (13, 58, 88, 0), 0, [(2, 9)]),
  (239, (14, 0, 0, 0), 0, []),
  (240, (2, 3, 0, 0), 0, []),
  (241, (1, 0, 1, 0), nI 7, []),
  (243, (4, 5, 0, 0), 0, []),
  (244, (6, 259, 1, 0), 0, []),
  (247, (2, 0, 2, 0), 0, []),
  (248, (2, 2, 0, 0), 0, []),
  (249, (1, 0, 0, 0), nI 3, []),
  (250, (13, 61, 115, 1), 0, [(2, 24)]),
  (253, (13, 79, 91, 0), 0, [(2, 9)]),
  (256, (8, 271, 0, 0), 0, []),
  (259, (2, 0, 2, 0), 0, []),
  (260, (1, 0, 0, 0), nI 1, []),
  (261, (2, 3, 0, 0), 0, []),
  (262, (1, 0, 1, 0), nI 6, []),
  (264, (13, 61, 115, 1), 0, [(2, 24)]),
  (267, (4, 0, 0, 0), 0, []),
  (268, (13, 52, 90, 0), 0, [(2, 9)]),
  (271, (14, 0, 0, 0), 0, []),
  (272, (2, 0, 2, 0), 0, []),
  (273, (2, 2, 0, 0), 0, []),
  (274, (1, 0, 0, 0), nI 3, []),
  (275, (13, 61, 115, 1), 0, [(2, 24)]),
  (278, (2, 3, 0, 0), 0, []),
  (279, (1, 0, 2, 0), nI 256, []),
  (282, (13, 61, 115, 1), 0, [(2, 24)]),
  (285, (2, 3, 0, 0), 0, []),
  (286, (1, 0, 1, 0), nI 8, []),
  (288, (4, 8, 0, 0), 0, []),
  (289, (1, 0, 1, 0), nI 100, []),
  (291, (13, 61, 115, 1), 0, [(2, 24)]),
  (294, (13, 49, 89, 0), 0, [(4, 9)]),
  (297, (14, 0, 0, 0), 0, []),
  (298, (2, 0, 2, 0), 0, []),
  (299, (2, 2, 0, 0), 0, []),
  (300, (1, 0, 0, 0), nI 3, []),
  (301, (13, 61, 115, 1), 0, [(2, 24)]),
  (304, (2, 0, 2, 0), 0, []),
  (305, (2, 3, 0, 0), 0, []),
  (306, (13, 82, 119, 1), 0, [(2, 24)]),
  (309, (2, 3, 0, 0), 0, []),
  (310, (1, 0, 1, 0), nI 8, []),
  (312, (4, 8, 0, 0), 0, []),
  (313, (1, 0, 1, 0), nI 100, []),
  (315, (13, 61, 115, 1), 0, [(2, 24)]),
  (318, (13, 49, 89, 0), 0, [(4, 9)]),
  (321, (14, 0, 0, 0), 0, []),
  (322, (2, 0, 2, 0), 0, []),
  (323, (2, 2, 0, 0), 0, []),
  (324, (2, 3, 0, 0), 0, []),
  (325, (13, 86, 117, 1), 0, [(3, 24)]),
  (328, (14, 0, 0, 0), 0, [])]
abbrev m_L_turn : Nat := 118
/-- NameMapsLaw.name(LNameMaps;I)I: 32 entries; loop heads [] -/
def co_L_name : List Ent := [(0, (2, 0, 2, 0), 0, []),
  (1, (1, 0, 0, 0), nI 2, []),
  (2, (13, 13, 102, 0), 0, [(2, 9)]),
  (5, (3, 2, 0, 0), 0, []),
  (6, (2, 2, 0, 0), 0, []),
  (7, (6, 14, 1, 0), 0, []),
  (10, (1, 0, 0, 0), nI 0, []),
  (11, (8, 22, 0, 0), 0, []),
  (14, (2, 1, 0, 0), 0, []),
  (15, (1, 0, 1, 0), nI 16, []),
  (17, (4, 8, 0, 0), 0, []),
  (18, (2, 2, 0, 0), 0, []),
  (19, (13, 61, 115, 1), 0, [(2, 24)]),
  (22, (3, 3, 0, 0), 0, []),
  (23, (2, 2, 0, 0), 0, []),
  (24, (6, 37, 1, 0), 0, []),
  (27, (2, 1, 0, 0), 0, []),
  (28, (1, 0, 2, 0), nI 256, []),
  (31, (13, 61, 115, 1), 0, [(2, 24)]),
  (34, (8, 54, 0, 0), 0, []),
  (37, (2, 0, 2, 0), 0, []),
  (38, (2, 3, 0, 0), 0, []),
  (39, (1, 0, 0, 0), nI 0, []),
  (40, (13, 23, 96, 0), 0, [(3, 9)]),
  (43, (2, 1, 0, 0), 0, []),
  (44, (2, 0, 2, 0), 0, []),
  (45, (2, 3, 0, 0), 0, []),
  (46, (1, 0, 0, 0), nI 1, []),
  (47, (13, 23, 96, 0), 0, [(3, 9)]),
  (50, (13, 61, 115, 1), 0, [(2, 24)]),
  (53, (4, 0, 0, 0), 0, []),
  (54, (14, 0, 0, 0), 0, [])]
abbrev m_L_name : Nat := 119
/-- NameMapsLaw.hasPlace(LNameMaps;II)Z: 64 entries; loop heads [5, 67] -/
def co_L_hasPlace : List Ent := [(0, (1, 0, 0, 0), nI 0, []),
  (1, (3, 3, 0, 0), 0, []),
  (2, (1, 0, 0, 0), nI 0, []),
  (3, (3, 4, 1, 0), 0, []),
  (5, (0, 5, 0, 0), 0, []),
  (5, (2, 4, 1, 0), 0, []),
  (7, (2, 0, 2, 0), 0, []),
  (8, (1, 0, 0, 0), nI 2, []),
  (9, (13, 13, 102, 0), 0, [(2, 9)]),
  (12, (7, 113, 3, 0), 0, []),
  (15, (2, 0, 2, 0), 0, []),
  (16, (2, 4, 1, 0), 0, []),
  (18, (1, 0, 1, 0), nI 6, []),
  (20, (13, 23, 96, 0), 0, [(3, 9)]),
  (23, (1, 0, 0, 0), nI 1, []),
  (24, (7, 61, 1, 0), 0, []),
  (27, (2, 1, 0, 0), 0, []),
  (28, (2, 0, 2, 0), 0, []),
  (29, (2, 4, 1, 0), 0, []),
  (31, (1, 0, 0, 0), nI 0, []),
  (32, (13, 23, 96, 0), 0, [(3, 9)]),
  (35, (7, 61, 2, 0), 0, []),
  (38, (2, 1, 0, 0), 0, []),
  (39, (2, 0, 2, 0), 0, []),
  (40, (2, 4, 1, 0), 0, []),
  (42, (1, 0, 0, 0), nI 0, []),
  (43, (13, 23, 96, 0), 0, [(3, 9)]),
  (46, (2, 0, 2, 0), 0, []),
  (47, (2, 4, 1, 0), 0, []),
  (49, (1, 0, 0, 0), nI 1, []),
  (50, (13, 23, 96, 0), 0, [(3, 9)]),
  (53, (4, 0, 0, 0), 0, []),
  (54, (7, 61, 3, 0), 0, []),
  (57, (1, 0, 0, 0), nI 1, []),
  (58, (8, 62, 0, 0), 0, []),
  (61, (1, 0, 0, 0), nI 0, []),
  (62, (3, 5, 1, 0), 0, []),
  (64, (1, 0, 0, 0), nI 0, []),
  (65, (3, 6, 1, 0), 0, []),
  (67, (0, 7, 0, 0), 0, []),
  (67, (2, 6, 1, 0), 0, []),
  (69, (1, 0, 0, 0), nI 3, []),
  (70, (7, 107, 3, 0), 0, []),
  (73, (2, 3, 0, 0), 0, []),
  (74, (6, 95, 1, 0), 0, []),
  (77, (2, 5, 1, 0), 0, []),
  (79, (6, 99, 0, 0), 0, []),
  (82, (2, 0, 2, 0), 0, []),
  (83, (2, 4, 1, 0), 0, []),
  (85, (2, 6, 1, 0), 0, []),
  (87, (1, 0, 0, 0), nI 0, []),
  (88, (13, 26, 97, 0), 0, [(4, 9)]),
  (91, (2, 2, 0, 0), 0, []),
  (92, (7, 99, 1, 0), 0, []),
  (95, (1, 0, 0, 0), nI 1, []),
  (96, (8, 100, 0, 0), 0, []),
  (99, (1, 0, 0, 0), nI 0, []),
  (100, (3, 3, 0, 0), 0, []),
  (101, (5, 6, 0, 0), nI 1, []),
  (104, (8, 67, 0, 0), 0, []),
  (107, (5, 4, 0, 0), nI 1, []),
  (110, (8, 5, 0, 0), 0, []),
  (113, (2, 3, 0, 0), 0, []),
  (114, (14, 0, 0, 0), 0, [])]
abbrev m_L_hasPlace : Nat := 120
/-- NameMapsLaw.areRouters(LNameMaps;)Z: 123 entries; loop heads [6, 92, 102] -/
def co_L_areRouters : List Ent := [(0, (1, 0, 0, 0), nI 0, []),
  (1, (3, 1, 0, 0), 0, []),
  (2, (1, 0, 0, 0), nI 1, []),
  (3, (3, 2, 0, 0), 0, []),
  (4, (1, 0, 0, 0), nI 0, []),
  (5, (3, 3, 0, 0), 0, []),
  (6, (0, 4, 0, 0), 0, []),
  (6, (2, 3, 0, 0), 0, []),
  (7, (2, 0, 2, 0), 0, []),
  (8, (1, 0, 0, 0), nI 3, []),
  (9, (13, 13, 102, 0), 0, [(2, 9)]),
  (12, (7, 190, 3, 0), 0, []),
  (15, (2, 2, 0, 0), 0, []),
  (16, (6, 190, 0, 0), 0, []),
  (19, (2, 0, 2, 0), 0, []),
  (20, (2, 3, 0, 0), 0, []),
  (21, (1, 0, 0, 0), nI 0, []),
  (22, (13, 30, 98, 0), 0, [(3, 9)]),
  (25, (3, 4, 1, 0), 0, []),
  (27, (2, 1, 0, 0), 0, []),
  (28, (2, 4, 1, 0), 0, []),
  (30, (4, 0, 0, 0), 0, []),
  (31, (3, 1, 0, 0), 0, []),
  (32, (2, 4, 1, 0), 0, []),
  (34, (1, 0, 0, 0), nI 5, []),
  (35, (7, 87, 4, 0), 0, []),
  (38, (2, 0, 2, 0), 0, []),
  (39, (2, 3, 0, 0), 0, []),
  (40, (1, 0, 0, 0), nI 4, []),
  (41, (13, 30, 98, 0), 0, [(3, 9)]),
  (44, (2, 0, 2, 0), 0, []),
  (45, (2, 3, 0, 0), 0, []),
  (46, (1, 0, 0, 0), nI 3, []),
  (47, (13, 30, 98, 0), 0, [(3, 9)]),
  (50, (7, 87, 4, 0), 0, []),
  (53, (2, 0, 2, 0), 0, []),
  (54, (2, 3, 0, 0), 0, []),
  (55, (1, 0, 0, 0), nI 2, []),
  (56, (13, 30, 98, 0), 0, [(3, 9)]),
  (59, (2, 0, 2, 0), 0, []),
  (60, (2, 3, 0, 0), 0, []),
  (61, (1, 0, 0, 0), nI 1, []),
  (62, (13, 30, 98, 0), 0, [(3, 9)]),
  (65, (7, 87, 2, 0), 0, []),
  (68, (2, 0, 2, 0), 0, []),
  (69, (2, 3, 0, 0), 0, []),
  (70, (1, 0, 0, 0), nI 5, []),
  (71, (13, 30, 98, 0), 0, [(3, 9)]),
  (74, (2, 0, 2, 0), 0, []),
  (75, (2, 3, 0, 0), 0, []),
  (76, (1, 0, 0, 0), nI 3, []),
  (77, (13, 30, 98, 0), 0, [(3, 9)]),
  (80, (7, 87, 4, 0), 0, []),
  (83, (1, 0, 0, 0), nI 1, []),
  (84, (8, 88, 0, 0), 0, []),
  (87, (1, 0, 0, 0), nI 0, []),
  (88, (3, 2, 0, 0), 0, []),
  (89, (1, 0, 0, 0), nI 0, []),
  (90, (3, 5, 1, 0), 0, []),
  (92, (0, 6, 0, 0), 0, []),
  (92, (2, 5, 1, 0), 0, []),
  (94, (2, 4, 1, 0), 0, []),
  (96, (7, 184, 3, 0), 0, []),
  (99, (1, 0, 0, 0), nI 0, []),
  (100, (3, 6, 1, 0), 0, []),
  (102, (0, 7, 0, 0), 0, []),
  (102, (2, 6, 1, 0), 0, []),
  (104, (2, 5, 1, 0), 0, []),
  (106, (7, 144, 3, 0), 0, []),
  (109, (2, 2, 0, 0), 0, []),
  (110, (6, 136, 0, 0), 0, []),
  (113, (2, 0, 2, 0), 0, []),
  (114, (2, 3, 0, 0), 0, []),
  (115, (2, 6, 1, 0), 0, []),
  (117, (1, 0, 0, 0), nI 0, []),
  (118, (13, 33, 99, 0), 0, [(4, 9)]),
  (121, (2, 0, 2, 0), 0, []),
  (122, (2, 3, 0, 0), 0, []),
  (123, (2, 5, 1, 0), 0, []),
  (125, (1, 0, 0, 0), nI 0, []),
  (126, (13, 33, 99, 0), 0, [(4, 9)]),
  (129, (7, 136, 0, 0), 0, []),
  (132, (1, 0, 0, 0), nI 1, []),
  (133, (8, 137, 0, 0), 0, []),
  (136, (1, 0, 0, 0), nI 0, []),
  (137, (3, 2, 0, 0), 0, []),
  (138, (5, 6, 0, 0), nI 1, []),
  (141, (8, 102, 0, 0), 0, []),
  (144, (2, 2, 0, 0), 0, []),
  (145, (6, 176, 0, 0), 0, []),
  (148, (2, 0, 2, 0), 0, []),
  (149, (2, 3, 0, 0), 0, []),
  (150, (2, 5, 1, 0), 0, []),
  (152, (1, 0, 0, 0), nI 1, []),
  (153, (13, 33, 99, 0), 0, [(4, 9)]),
  (156, (2, 0, 2, 0), 0, []),
  (157, (2, 0, 2, 0), 0, []),
  (158, (2, 3, 0, 0), 0, []),
  (159, (2, 5, 1, 0), 0, []),
  (161, (1, 0, 0, 0), nI 0, []),
  (162, (13, 33, 99, 0), 0, [(4, 9)]),
  (165, (1, 0, 0, 0), nI 3, []),
  (166, (13, 23, 96, 0), 0, [(3, 9)]),
  (169, (7, 176, 4, 0), 0, []),
  (172, (1, 0, 0, 0), nI 1, []),
  (173, (8, 177, 0, 0), 0, []),
  (176, (1, 0, 0, 0), nI 0, []),
  (177, (3, 2, 0, 0), 0, []),
  (178, (5, 5, 0, 0), nI 1, []),
  (181, (8, 92, 0, 0), 0, []),
  (184, (5, 3, 0, 0), nI 1, []),
  (187, (8, 6, 0, 0), 0, []),
  (190, (2, 2, 0, 0), 0, []),
  (191, (6, 207, 0, 0), 0, []),
  (194, (2, 1, 0, 0), 0, []),
  (195, (2, 0, 2, 0), 0, []),
  (196, (1, 0, 0, 0), nI 5, []),
  (197, (13, 13, 102, 0), 0, [(2, 9)]),
  (200, (7, 207, 1, 0), 0, []),
  (203, (1, 0, 0, 0), nI 1, []),
  (204, (8, 208, 0, 0), 0, []),
  (207, (1, 0, 0, 0), nI 0, []),
  (208, (14, 0, 0, 0), 0, [])]
abbrev m_L_areRouters : Nat := 121
/-- NameMapsLaw.areEnding(LNameMaps;)Z: 98 entries; loop heads [4, 59] -/
def co_L_areEnding : List Ent := [(0, (1, 0, 0, 0), nI 0, []),
  (1, (3, 1, 0, 0), 0, []),
  (2, (1, 0, 0, 0), nI 0, []),
  (3, (3, 2, 0, 0), 0, []),
  (4, (0, 3, 0, 0), 0, []),
  (4, (2, 2, 0, 0), 0, []),
  (5, (2, 0, 2, 0), 0, []),
  (6, (1, 0, 0, 0), nI 2, []),
  (7, (13, 13, 102, 0), 0, [(2, 9)]),
  (10, (7, 41, 3, 0), 0, []),
  (13, (2, 1, 0, 0), 0, []),
  (14, (2, 0, 2, 0), 0, []),
  (15, (2, 2, 0, 0), 0, []),
  (16, (1, 0, 0, 0), nI 4, []),
  (17, (13, 23, 96, 0), 0, [(3, 9)]),
  (20, (2, 0, 2, 0), 0, []),
  (21, (1, 0, 0, 0), nI 0, []),
  (22, (13, 13, 102, 0), 0, [(2, 9)]),
  (25, (7, 32, 5, 0), 0, []),
  (28, (1, 0, 0, 0), nI 1, []),
  (29, (8, 33, 0, 0), 0, []),
  (32, (1, 0, 0, 0), nI 0, []),
  (33, (4, 0, 0, 0), 0, []),
  (34, (3, 1, 0, 0), 0, []),
  (35, (5, 2, 0, 0), nI 1, []),
  (38, (8, 4, 0, 0), 0, []),
  (41, (2, 0, 2, 0), 0, []),
  (42, (2, 1, 0, 0), 0, []),
  (43, (13, 111, 101, 0), 0, [(2, 9)]),
  (46, (1, 0, 1, 0), (-5), []),
  (48, (7, 55, 1, 0), 0, []),
  (51, (1, 0, 0, 0), nI 1, []),
  (52, (8, 56, 0, 0), 0, []),
  (55, (1, 0, 0, 0), nI 0, []),
  (56, (3, 2, 0, 0), 0, []),
  (57, (1, 0, 0, 0), nI 0, []),
  (58, (3, 3, 0, 0), 0, []),
  (59, (0, 4, 0, 0), 0, []),
  (59, (2, 3, 0, 0), 0, []),
  (60, (2, 1, 0, 0), 0, []),
  (61, (7, 170, 3, 0), 0, []),
  (64, (2, 2, 0, 0), 0, []),
  (65, (6, 170, 0, 0), 0, []),
  (68, (2, 0, 2, 0), 0, []),
  (69, (2, 3, 0, 0), 0, []),
  (70, (13, 111, 101, 0), 0, [(2, 9)]),
  (73, (3, 4, 1, 0), 0, []),
  (75, (2, 3, 0, 0), 0, []),
  (76, (6, 84, 1, 0), 0, []),
  (79, (2, 4, 1, 0), 0, []),
  (81, (8, 91, 0, 0), 0, []),
  (84, (2, 0, 2, 0), 0, []),
  (85, (2, 3, 0, 0), 0, []),
  (86, (1, 0, 0, 0), nI 1, []),
  (87, (4, 1, 0, 0), 0, []),
  (88, (13, 111, 101, 0), 0, [(2, 9)]),
  (91, (3, 5, 1, 0), 0, []),
  (93, (2, 4, 1, 0), 0, []),
  (95, (6, 162, 2, 0), 0, []),
  (98, (2, 0, 2, 0), 0, []),
  (99, (2, 4, 1, 0), 0, []),
  (101, (1, 0, 0, 0), nI 4, []),
  (102, (13, 23, 96, 0), 0, [(3, 9)]),
  (105, (2, 0, 2, 0), 0, []),
  (106, (1, 0, 0, 0), nI 0, []),
  (107, (13, 13, 102, 0), 0, [(2, 9)]),
  (110, (7, 162, 5, 0), 0, []),
  (113, (2, 3, 0, 0), 0, []),
  (114, (6, 158, 0, 0), 0, []),
  (117, (2, 0, 2, 0), 0, []),
  (118, (2, 5, 1, 0), 0, []),
  (120, (1, 0, 0, 0), nI 4, []),
  (121, (13, 23, 96, 0), 0, [(3, 9)]),
  (124, (2, 0, 2, 0), 0, []),
  (125, (2, 4, 1, 0), 0, []),
  (127, (1, 0, 0, 0), nI 4, []),
  (128, (13, 23, 96, 0), 0, [(3, 9)]),
  (131, (7, 158, 2, 0), 0, []),
  (134, (2, 0, 2, 0), 0, []),
  (135, (2, 5, 1, 0), 0, []),
  (137, (1, 0, 0, 0), nI 4, []),
  (138, (13, 23, 96, 0), 0, [(3, 9)]),
  (141, (2, 0, 2, 0), 0, []),
  (142, (2, 4, 1, 0), 0, []),
  (144, (1, 0, 0, 0), nI 4, []),
  (145, (13, 23, 96, 0), 0, [(3, 9)]),
  (148, (7, 162, 1, 0), 0, []),
  (151, (2, 5, 1, 0), 0, []),
  (153, (2, 4, 1, 0), 0, []),
  (155, (7, 162, 3, 0), 0, []),
  (158, (1, 0, 0, 0), nI 1, []),
  (159, (8, 163, 0, 0), 0, []),
  (162, (1, 0, 0, 0), nI 0, []),
  (163, (3, 2, 0, 0), 0, []),
  (164, (5, 3, 0, 0), nI 1, []),
  (167, (8, 59, 0, 0), 0, []),
  (170, (2, 2, 0, 0), 0, []),
  (171, (14, 0, 0, 0), 0, [])]
abbrev m_L_areEnding : Nat := 122
/-- NameMapsLaw.view(LNameMaps;)J: 158 entries; loop heads [6, 33, 45, 81, 93, 124, 166, 178, 209, 223] -/
def co_L_view : List Ent := [(0, (26, 9, 0, 0), 7, []),
  (3, (32, 1, 0, 0), 0, []),
  (4, (1, 0, 0, 0), nI 0, []),
  (5, (3, 3, 0, 0), 0, []),
  (6, (0, 4, 0, 0), 0, []),
  (6, (2, 3, 0, 0), 0, []),
  (7, (1, 0, 1, 0), nI 11, []),
  (9, (7, 31, 3, 0), 0, []),
  (12, (26, 11, 0, 0), 31, []),
  (15, (31, 1, 0, 0), 0, []),
  (16, (28, 0, 0, 0), 0, []),
  (17, (2, 0, 2, 0), 0, []),
  (18, (2, 3, 0, 0), 0, []),
  (19, (13, 13, 102, 0), 0, [(2, 9)]),
  (22, (27, 0, 0, 0), 0, []),
  (23, (29, 0, 0, 0), 0, []),
  (24, (32, 1, 0, 0), 0, []),
  (25, (5, 3, 0, 0), nI 1, []),
  (28, (8, 6, 0, 0), 0, []),
  (31, (1, 0, 0, 0), nI 0, []),
  (32, (3, 3, 0, 0), 0, []),
  (33, (0, 4, 0, 0), 0, []),
  (33, (2, 3, 0, 0), 0, []),
  (34, (2, 0, 2, 0), 0, []),
  (35, (1, 0, 0, 0), nI 1, []),
  (36, (13, 13, 102, 0), 0, [(2, 9)]),
  (39, (7, 79, 3, 0), 0, []),
  (42, (1, 0, 0, 0), nI 0, []),
  (43, (3, 4, 1, 0), 0, []),
  (45, (0, 5, 0, 0), 0, []),
  (45, (2, 4, 1, 0), 0, []),
  (47, (1, 0, 1, 0), nI 6, []),
  (49, (7, 73, 3, 0), 0, []),
  (52, (26, 11, 0, 0), 31, []),
  (55, (31, 1, 0, 0), 0, []),
  (56, (28, 0, 0, 0), 0, []),
  (57, (2, 0, 2, 0), 0, []),
  (58, (2, 3, 0, 0), 0, []),
  (59, (2, 4, 1, 0), 0, []),
  (61, (13, 19, 95, 0), 0, [(3, 9)]),
  (64, (27, 0, 0, 0), 0, []),
  (65, (29, 0, 0, 0), 0, []),
  (66, (32, 1, 0, 0), 0, []),
  (67, (5, 4, 0, 0), nI 1, []),
  (70, (8, 45, 0, 0), 0, []),
  (73, (5, 3, 0, 0), nI 1, []),
  (76, (8, 33, 0, 0), 0, []),
  (79, (1, 0, 0, 0), nI 0, []),
  (80, (3, 3, 0, 0), 0, []),
  (81, (0, 4, 0, 0), 0, []),
  (81, (2, 3, 0, 0), 0, []),
  (82, (2, 0, 2, 0), 0, []),
  (83, (1, 0, 0, 0), nI 2, []),
  (84, (13, 13, 102, 0), 0, [(2, 9)]),
  (87, (7, 164, 3, 0), 0, []),
  (90, (1, 0, 0, 0), nI 0, []),
  (91, (3, 4, 1, 0), 0, []),
  (93, (0, 5, 0, 0), 0, []),
  (93, (2, 4, 1, 0), 0, []),
  (95, (1, 0, 1, 0), nI 8, []),
  (97, (7, 121, 3, 0), 0, []),
  (100, (26, 11, 0, 0), 31, []),
  (103, (31, 1, 0, 0), 0, []),
  (104, (28, 0, 0, 0), 0, []),
  (105, (2, 0, 2, 0), 0, []),
  (106, (2, 3, 0, 0), 0, []),
  (107, (2, 4, 1, 0), 0, []),
  (109, (13, 23, 96, 0), 0, [(3, 9)]),
  (112, (27, 0, 0, 0), 0, []),
  (113, (29, 0, 0, 0), 0, []),
  (114, (32, 1, 0, 0), 0, []),
  (115, (5, 4, 0, 0), nI 1, []),
  (118, (8, 93, 0, 0), 0, []),
  (121, (1, 0, 0, 0), nI 0, []),
  (122, (3, 4, 1, 0), 0, []),
  (124, (0, 5, 0, 0), 0, []),
  (124, (2, 4, 1, 0), 0, []),
  (126, (1, 0, 1, 0), nI 9, []),
  (128, (7, 158, 3, 0), 0, []),
  (131, (26, 11, 0, 0), 31, []),
  (134, (31, 1, 0, 0), 0, []),
  (135, (28, 0, 0, 0), 0, []),
  (136, (2, 0, 2, 0), 0, []),
  (137, (2, 3, 0, 0), 0, []),
  (138, (2, 4, 1, 0), 0, []),
  (140, (1, 0, 0, 0), nI 3, []),
  (141, (4, 3, 0, 0), 0, []),
  (142, (2, 4, 1, 0), 0, []),
  (144, (1, 0, 0, 0), nI 3, []),
  (145, (4, 4, 0, 0), 0, []),
  (146, (13, 26, 97, 0), 0, [(4, 9)]),
  (149, (27, 0, 0, 0), 0, []),
  (150, (29, 0, 0, 0), 0, []),
  (151, (32, 1, 0, 0), 0, []),
  (152, (5, 4, 0, 0), nI 1, []),
  (155, (8, 124, 0, 0), 0, []),
  (158, (5, 3, 0, 0), nI 1, []),
  (161, (8, 81, 0, 0), 0, []),
  (164, (1, 0, 0, 0), nI 0, []),
  (165, (3, 3, 0, 0), 0, []),
  (166, (0, 4, 0, 0), 0, []),
  (166, (2, 3, 0, 0), 0, []),
  (167, (2, 0, 2, 0), 0, []),
  (168, (1, 0, 0, 0), nI 3, []),
  (169, (13, 13, 102, 0), 0, [(2, 9)]),
  (172, (7, 264, 3, 0), 0, []),
  (175, (1, 0, 0, 0), nI 0, []),
  (176, (3, 4, 1, 0), 0, []),
  (178, (0, 5, 0, 0), 0, []),
  (178, (2, 4, 1, 0), 0, []),
  (180, (1, 0, 1, 0), nI 6, []),
  (182, (7, 206, 3, 0), 0, []),
  (185, (26, 11, 0, 0), 31, []),
  (188, (31, 1, 0, 0), 0, []),
  (189, (28, 0, 0, 0), 0, []),
  (190, (2, 0, 2, 0), 0, []),
  (191, (2, 3, 0, 0), 0, []),
  (192, (2, 4, 1, 0), 0, []),
  (194, (13, 30, 98, 0), 0, [(3, 9)]),
  (197, (27, 0, 0, 0), 0, []),
  (198, (29, 0, 0, 0), 0, []),
  (199, (32, 1, 0, 0), 0, []),
  (200, (5, 4, 0, 0), nI 1, []),
  (203, (8, 178, 0, 0), 0, []),
  (206, (1, 0, 0, 0), nI 0, []),
  (207, (3, 4, 1, 0), 0, []),
  (209, (0, 5, 0, 0), 0, []),
  (209, (2, 4, 1, 0), 0, []),
  (211, (2, 0, 2, 0), 0, []),
  (212, (2, 3, 0, 0), 0, []),
  (213, (1, 0, 0, 0), nI 0, []),
  (214, (13, 30, 98, 0), 0, [(3, 9)]),
  (217, (7, 258, 3, 0), 0, []),
  (220, (1, 0, 0, 0), nI 0, []),
  (221, (3, 5, 1, 0), 0, []),
  (223, (0, 6, 0, 0), 0, []),
  (223, (2, 5, 1, 0), 0, []),
  (225, (1, 0, 0, 0), nI 5, []),
  (226, (7, 252, 3, 0), 0, []),
  (229, (26, 11, 0, 0), 31, []),
  (232, (31, 1, 0, 0), 0, []),
  (233, (28, 0, 0, 0), 0, []),
  (234, (2, 0, 2, 0), 0, []),
  (235, (2, 3, 0, 0), 0, []),
  (236, (2, 4, 1, 0), 0, []),
  (238, (2, 5, 1, 0), 0, []),
  (240, (13, 33, 99, 0), 0, [(4, 9)]),
  (243, (27, 0, 0, 0), 0, []),
  (244, (29, 0, 0, 0), 0, []),
  (245, (32, 1, 0, 0), 0, []),
  (246, (5, 5, 0, 0), nI 1, []),
  (249, (8, 223, 0, 0), 0, []),
  (252, (5, 4, 0, 0), nI 1, []),
  (255, (8, 209, 0, 0), 0, []),
  (258, (5, 3, 0, 0), nI 1, []),
  (261, (8, 166, 0, 0), 0, []),
  (264, (31, 1, 0, 0), 0, []),
  (265, (33, 0, 0, 0), 0, [])]
abbrev m_L_view : Nat := 123
/-- NameMapsLaw.isSent(LNameMaps;III)Z: 143 entries; loop heads [] -/
def co_L_isSent : List Ent := [(0, (2, 1, 0, 0), 0, []),
  (1, (2, 0, 2, 0), 0, []),
  (2, (1, 0, 0, 0), nI 3, []),
  (3, (13, 13, 102, 0), 0, [(2, 9)]),
  (6, (7, 26, 2, 0), 0, []),
  (9, (2, 0, 2, 0), 0, []),
  (10, (2, 1, 0, 0), 0, []),
  (11, (2, 2, 0, 0), 0, []),
  (12, (2, 3, 0, 0), 0, []),
  (13, (13, 49, 89, 0), 0, [(4, 9)]),
  (16, (1, 0, 0, 0), (-1), []),
  (17, (7, 24, 1, 0), 0, []),
  (20, (1, 0, 0, 0), nI 1, []),
  (21, (8, 25, 0, 0), 0, []),
  (24, (1, 0, 0, 0), nI 0, []),
  (25, (14, 0, 0, 0), 0, []),
  (26, (2, 0, 2, 0), 0, []),
  (27, (25, 90, 123, 0), 0, [(1, 0)]),
  (30, (32, 4, 1, 0), 0, []),
  (32, (2, 0, 2, 0), 0, []),
  (33, (2, 2, 0, 0), 0, []),
  (34, (13, 94, 100, 0), 0, [(2, 9)]),
  (37, (3, 6, 1, 0), 0, []),
  (39, (2, 0, 2, 0), 0, []),
  (40, (2, 1, 0, 0), 0, []),
  (41, (2, 2, 0, 0), 0, []),
  (42, (2, 3, 0, 0), 0, []),
  (43, (1, 0, 0, 0), nI 0, []),
  (44, (13, 97, 103, 0), 0, [(5, 9)]),
  (47, (3, 7, 1, 0), 0, []),
  (49, (2, 0, 2, 0), 0, []),
  (50, (2, 1, 0, 0), 0, []),
  (51, (2, 2, 0, 0), 0, []),
  (52, (2, 3, 0, 0), 0, []),
  (53, (13, 101, 104, 0), 0, [(4, 9)]),
  (56, (3, 8, 1, 0), 0, []),
  (58, (2, 0, 2, 0), 0, []),
  (59, (25, 90, 123, 0), 0, [(1, 0)]),
  (62, (31, 4, 1, 0), 0, []),
  (64, (30, 0, 0, 0), 0, []),
  (65, (6, 70, 0, 0), 0, []),
  (68, (1, 0, 0, 0), nI 0, []),
  (69, (14, 0, 0, 0), 0, []),
  (70, (2, 0, 2, 0), 0, []),
  (71, (2, 1, 0, 0), 0, []),
  (72, (1, 0, 0, 0), nI 1, []),
  (73, (13, 30, 98, 0), 0, [(3, 9)]),
  (76, (3, 9, 1, 0), 0, []),
  (78, (2, 0, 2, 0), 0, []),
  (79, (2, 1, 0, 0), 0, []),
  (80, (2, 2, 0, 0), 0, []),
  (81, (2, 3, 0, 0), 0, []),
  (82, (13, 49, 89, 0), 0, [(4, 9)]),
  (85, (3, 10, 1, 0), 0, []),
  (87, (2, 10, 1, 0), 0, []),
  (89, (2, 7, 1, 0), 0, []),
  (91, (7, 118, 1, 0), 0, []),
  (94, (2, 0, 2, 0), 0, []),
  (95, (2, 1, 0, 0), 0, []),
  (96, (1, 0, 0, 0), nI 1, []),
  (97, (13, 30, 98, 0), 0, [(3, 9)]),
  (100, (2, 9, 1, 0), 0, []),
  (102, (4, 1, 0, 0), 0, []),
  (103, (2, 8, 1, 0), 0, []),
  (105, (7, 118, 1, 0), 0, []),
  (108, (2, 8, 1, 0), 0, []),
  (110, (1, 0, 0, 0), nI 2, []),
  (111, (7, 118, 4, 0), 0, []),
  (114, (1, 0, 0, 0), nI 1, []),
  (115, (8, 119, 0, 0), 0, []),
  (118, (1, 0, 0, 0), nI 0, []),
  (119, (3, 11, 1, 0), 0, []),
  (121, (2, 11, 1, 0), 0, []),
  (123, (6, 169, 0, 0), 0, []),
  (126, (2, 10, 1, 0), 0, []),
  (128, (1, 0, 1, 0), nI 32, []),
  (130, (7, 146, 3, 0), 0, []),
  (133, (2, 0, 2, 0), 0, []),
  (134, (2, 2, 0, 0), 0, []),
  (135, (2, 10, 1, 0), 0, []),
  (137, (13, 104, 120, 1), 0, [(3, 24)]),
  (140, (6, 169, 0, 0), 0, []),
  (143, (8, 165, 0, 0), 0, []),
  (146, (2, 6, 1, 0), 0, []),
  (148, (1, 0, 1, 0), (-5), []),
  (150, (7, 169, 1, 0), 0, []),
  (153, (2, 10, 1, 0), 0, []),
  (155, (1, 0, 1, 0), nI 32, []),
  (157, (2, 2, 0, 0), 0, []),
  (158, (1, 0, 1, 0), nI 32, []),
  (160, (4, 3, 0, 0), 0, []),
  (161, (4, 0, 0, 0), 0, []),
  (162, (7, 169, 1, 0), 0, []),
  (165, (1, 0, 0, 0), nI 1, []),
  (166, (8, 170, 0, 0), 0, []),
  (169, (1, 0, 0, 0), nI 0, []),
  (170, (3, 11, 1, 0), 0, []),
  (172, (2, 11, 1, 0), 0, []),
  (174, (6, 198, 0, 0), 0, []),
  (177, (2, 0, 2, 0), 0, []),
  (178, (13, 108, 92, 0), 0, [(1, 9)]),
  (181, (6, 198, 2, 0), 0, []),
  (184, (2, 0, 2, 0), 0, []),
  (185, (25, 90, 123, 0), 0, [(1, 0)]),
  (188, (31, 4, 1, 0), 0, []),
  (190, (30, 0, 0, 0), 0, []),
  (191, (6, 198, 1, 0), 0, []),
  (194, (1, 0, 0, 0), nI 1, []),
  (195, (8, 199, 0, 0), 0, []),
  (198, (1, 0, 0, 0), nI 0, []),
  (199, (3, 11, 1, 0), 0, []),
  (201, (2, 11, 1, 0), 0, []),
  (203, (6, 259, 0, 0), 0, []),
  (206, (2, 6, 1, 0), 0, []),
  (208, (1, 0, 1, 0), (-5), []),
  (210, (7, 255, 0, 0), 0, []),
  (213, (2, 0, 2, 0), 0, []),
  (214, (2, 6, 1, 0), 0, []),
  (216, (1, 0, 1, 0), nI 6, []),
  (218, (13, 23, 96, 0), 0, [(3, 9)]),
  (221, (1, 0, 0, 0), nI 1, []),
  (222, (7, 259, 1, 0), 0, []),
  (225, (2, 2, 0, 0), 0, []),
  (226, (2, 0, 2, 0), 0, []),
  (227, (2, 6, 1, 0), 0, []),
  (229, (1, 0, 0, 0), nI 0, []),
  (230, (13, 23, 96, 0), 0, [(3, 9)]),
  (233, (7, 259, 2, 0), 0, []),
  (236, (2, 2, 0, 0), 0, []),
  (237, (2, 0, 2, 0), 0, []),
  (238, (2, 6, 1, 0), 0, []),
  (240, (1, 0, 0, 0), nI 0, []),
  (241, (13, 23, 96, 0), 0, [(3, 9)]),
  (244, (2, 0, 2, 0), 0, []),
  (245, (2, 6, 1, 0), 0, []),
  (247, (1, 0, 0, 0), nI 1, []),
  (248, (13, 23, 96, 0), 0, [(3, 9)]),
  (251, (4, 0, 0, 0), 0, []),
  (252, (7, 259, 3, 0), 0, []),
  (255, (1, 0, 0, 0), nI 1, []),
  (256, (8, 260, 0, 0), 0, []),
  (259, (1, 0, 0, 0), nI 0, []),
  (260, (14, 0, 0, 0), 0, [])]
abbrev m_L_isSent : Nat := 124
/-- NameMapsLaw.isUndone(LNameMaps;IIIIJ)Z: 31 entries; loop heads [] -/
def co_L_isUndone : List Ent := [(0, (2, 0, 2, 0), 0, []),
  (1, (1, 0, 1, 0), nI 11, []),
  (3, (13, 13, 102, 0), 0, [(2, 9)]),
  (6, (3, 7, 1, 0), 0, []),
  (8, (2, 0, 2, 0), 0, []),
  (9, (13, 108, 92, 0), 0, [(1, 9)]),
  (12, (2, 7, 1, 0), 0, []),
  (14, (1, 0, 0, 0), nI 1, []),
  (15, (4, 1, 0, 0), 0, []),
  (16, (7, 56, 1, 0), 0, []),
  (19, (2, 0, 2, 0), 0, []),
  (20, (25, 90, 123, 0), 0, [(1, 0)]),
  (23, (31, 5, 1, 0), 0, []),
  (25, (30, 0, 0, 0), 0, []),
  (26, (6, 56, 1, 0), 0, []),
  (29, (2, 0, 2, 0), 0, []),
  (30, (2, 1, 0, 0), 0, []),
  (31, (2, 2, 0, 0), 0, []),
  (32, (2, 3, 0, 0), 0, []),
  (33, (13, 114, 118, 1), 0, [(4, 24)]),
  (36, (2, 4, 1, 0), 0, []),
  (38, (7, 56, 1, 0), 0, []),
  (41, (2, 0, 2, 0), 0, []),
  (42, (1, 0, 1, 0), nI 11, []),
  (44, (13, 13, 102, 0), 0, [(2, 9)]),
  (47, (2, 7, 1, 0), 0, []),
  (49, (7, 56, 1, 0), 0, []),
  (52, (1, 0, 0, 0), nI 1, []),
  (53, (8, 57, 0, 0), 0, []),
  (56, (1, 0, 0, 0), nI 0, []),
  (57, (14, 0, 0, 0), 0, [])]
abbrev m_L_isUndone : Nat := 125
/-- NameMapsLaw.isSaved(LNameMaps;II)Z: 49 entries; loop heads [] -/
def co_L_isSaved : List Ent := [(0, (2, 0, 2, 0), 0, []),
  (1, (25, 90, 123, 0), 0, [(1, 0)]),
  (4, (32, 3, 0, 0), 0, []),
  (5, (2, 0, 2, 0), 0, []),
  (6, (1, 0, 1, 0), nI 11, []),
  (8, (13, 13, 102, 0), 0, [(2, 9)]),
  (11, (3, 5, 1, 0), 0, []),
  (13, (2, 0, 2, 0), 0, []),
  (14, (2, 1, 0, 0), 0, []),
  (15, (1, 0, 0, 0), nI 1, []),
  (16, (4, 5, 0, 0), 0, []),
  (17, (13, 118, 93, 0), 0, [(2, 9)]),
  (20, (2, 0, 2, 0), 0, []),
  (21, (1, 0, 0, 0), nI 0, []),
  (22, (13, 13, 102, 0), 0, [(2, 9)]),
  (25, (7, 39, 1, 0), 0, []),
  (28, (2, 0, 2, 0), 0, []),
  (29, (1, 0, 1, 0), nI 11, []),
  (31, (13, 13, 102, 0), 0, [(2, 9)]),
  (34, (2, 5, 1, 0), 0, []),
  (36, (7, 41, 0, 0), 0, []),
  (39, (1, 0, 0, 0), nI 0, []),
  (40, (14, 0, 0, 0), 0, []),
  (41, (2, 0, 2, 0), 0, []),
  (42, (2, 2, 0, 0), 0, []),
  (43, (1, 0, 1, 0), nI 15, []),
  (45, (13, 61, 115, 1), 0, [(2, 24)]),
  (48, (2, 2, 0, 0), 0, []),
  (49, (2, 1, 0, 0), 0, []),
  (50, (13, 114, 118, 1), 0, [(4, 24)]),
  (53, (34, 0, 0, 0), 0, []),
  (54, (2, 0, 2, 0), 0, []),
  (55, (2, 1, 0, 0), 0, []),
  (56, (1, 0, 0, 0), nI 1, []),
  (57, (4, 5, 0, 0), 0, []),
  (58, (13, 55, 94, 0), 0, [(2, 9)]),
  (61, (2, 0, 2, 0), 0, []),
  (62, (1, 0, 0, 0), nI 0, []),
  (63, (13, 13, 102, 0), 0, [(2, 9)]),
  (66, (7, 82, 1, 0), 0, []),
  (69, (2, 0, 2, 0), 0, []),
  (70, (25, 90, 123, 0), 0, [(1, 0)]),
  (73, (31, 3, 0, 0), 0, []),
  (74, (30, 0, 0, 0), 0, []),
  (75, (6, 82, 1, 0), 0, []),
  (78, (1, 0, 0, 0), nI 1, []),
  (79, (8, 83, 0, 0), 0, []),
  (82, (1, 0, 0, 0), nI 0, []),
  (83, (14, 0, 0, 0), 0, [])]
abbrev m_L_isSaved : Nat := 126
/-- NameMapsLaw.law([I)Z: 185 entries; loop heads [34] -/
def cx_L_law_0 : List Ent := [(0, (21, 14, 9, 0), 0, []),
  (3, (15, 0, 0, 0), 0, []),
  (4, (24, 121, 80, 0), 0, [(1, 0)]),
  (7, (3, 1, 2, 0), 0, []),
  (8, (2, 1, 2, 0), 0, []),
  (9, (13, 69, 83, 0), 0, [(1, 9)]),
  (12, (34, 0, 0, 0), 0, []),
  (13, (2, 0, 2, 0), 0, []),
  (14, (19, 0, 0, 0), 0, []),
  (15, (1, 0, 0, 0), nI 3, []),
  (16, (4, 3, 0, 0), 0, []),
  (17, (1, 0, 1, 0), nI 36, []),
  (19, (7, 29, 3, 0), 0, []),
  (22, (2, 0, 2, 0), 0, []),
  (23, (19, 0, 0, 0), 0, []),
  (24, (1, 0, 0, 0), nI 3, []),
  (25, (4, 3, 0, 0), 0, []),
  (26, (8, 31, 0, 0), 0, []),
  (29, (1, 0, 1, 0), nI 36, []),
  (31, (3, 2, 0, 0), 0, []),
  (32, (1, 0, 0, 0), nI 0, []),
  (33, (3, 3, 0, 0), 0, []),
  (34, (0, 4, 0, 0), 0, []),
  (34, (2, 3, 0, 0), 0, []),
  (35, (2, 2, 0, 0), 0, []),
  (36, (7, 338, 3, 0), 0, []),
  (39, (2, 0, 2, 0), 0, []),
  (40, (1, 0, 0, 0), nI 3, []),
  (41, (2, 3, 0, 0), 0, []),
  (42, (4, 2, 0, 0), 0, [])]
def cx_L_law_1 : List Ent := [(43, (13, 122, 114, 1), 0, [(2, 24)]),
  (46, (3, 4, 1, 0), 0, []),
  (48, (2, 0, 2, 0), 0, []),
  (49, (1, 0, 0, 0), nI 3, []),
  (50, (2, 3, 0, 0), 0, []),
  (51, (4, 2, 0, 0), 0, []),
  (52, (1, 0, 0, 0), nI 1, []),
  (53, (4, 0, 0, 0), 0, []),
  (54, (13, 122, 114, 1), 0, [(2, 24)]),
  (57, (3, 5, 1, 0), 0, []),
  (59, (2, 0, 2, 0), 0, []),
  (60, (1, 0, 0, 0), nI 3, []),
  (61, (2, 3, 0, 0), 0, []),
  (62, (4, 2, 0, 0), 0, []),
  (63, (1, 0, 0, 0), nI 2, []),
  (64, (4, 0, 0, 0), 0, []),
  (65, (13, 122, 114, 1), 0, [(2, 24)]),
  (68, (3, 6, 1, 0), 0, []),
  (70, (2, 3, 0, 0), 0, []),
  (71, (1, 0, 0, 0), nI 2, []),
  (72, (7, 79, 3, 0), 0, []),
  (75, (1, 0, 0, 0), nI 1, []),
  (76, (8, 84, 0, 0), 0, []),
  (79, (2, 4, 1, 0), 0, []),
  (81, (1, 0, 1, 0), nI 15, []),
  (83, (4, 5, 0, 0), 0, []),
  (84, (3, 7, 1, 0), 0, []),
  (86, (2, 1, 2, 0), 0, []),
  (87, (25, 90, 123, 0), 0, [(1, 0)]),
  (90, (32, 8, 1, 0), 0, [])]
def cx_L_law_2 : List Ent := [(92, (2, 1, 2, 0), 0, []),
  (93, (1, 0, 1, 0), nI 11, []),
  (95, (13, 13, 102, 0), 0, [(2, 9)]),
  (98, (3, 10, 1, 0), 0, []),
  (100, (2, 1, 2, 0), 0, []),
  (101, (1, 0, 1, 0), nI 7, []),
  (103, (13, 13, 102, 0), 0, [(2, 9)]),
  (106, (3, 11, 1, 0), 0, []),
  (108, (2, 1, 2, 0), 0, []),
  (109, (1, 0, 1, 0), nI 6, []),
  (111, (13, 13, 102, 0), 0, [(2, 9)]),
  (114, (3, 12, 1, 0), 0, []),
  (116, (2, 7, 1, 0), 0, []),
  (118, (1, 0, 1, 0), nI 15, []),
  (120, (7, 137, 1, 0), 0, []),
  (123, (2, 6, 1, 0), 0, []),
  (125, (1, 0, 1, 0), nI 7, []),
  (127, (4, 5, 0, 0), 0, []),
  (128, (1, 0, 1, 0), nI 6, []),
  (130, (7, 137, 1, 0), 0, []),
  (133, (1, 0, 0, 0), nI 1, []),
  (134, (8, 138, 0, 0), 0, []),
  (137, (1, 0, 0, 0), nI 0, []),
  (138, (3, 13, 1, 0), 0, []),
  (140, (2, 1, 2, 0), 0, []),
  (141, (2, 7, 1, 0), 0, []),
  (143, (2, 5, 1, 0), 0, []),
  (145, (2, 6, 1, 0), 0, []),
  (147, (13, 114, 118, 1), 0, [(4, 24)]),
  (150, (3, 14, 1, 0), 0, [])]
def cx_L_law_3 : List Ent := [(152, (2, 14, 1, 0), 0, []),
  (154, (6, 180, 3, 0), 0, []),
  (157, (2, 1, 2, 0), 0, []),
  (158, (25, 90, 123, 0), 0, [(1, 0)]),
  (161, (31, 8, 1, 0), 0, []),
  (163, (30, 0, 0, 0), 0, []),
  (164, (6, 178, 1, 0), 0, []),
  (167, (2, 1, 2, 0), 0, []),
  (168, (1, 0, 1, 0), nI 11, []),
  (170, (13, 13, 102, 0), 0, [(2, 9)]),
  (173, (2, 10, 1, 0), 0, []),
  (175, (7, 230, 0, 0), 0, []),
  (178, (1, 0, 0, 0), nI 0, []),
  (179, (14, 0, 0, 0), 0, []),
  (180, (2, 1, 2, 0), 0, []),
  (181, (1, 0, 1, 0), nI 11, []),
  (183, (13, 13, 102, 0), 0, [(2, 9)]),
  (186, (2, 10, 1, 0), 0, []),
  (188, (1, 0, 0, 0), nI 5, []),
  (189, (7, 199, 3, 0), 0, []),
  (192, (2, 10, 1, 0), 0, []),
  (194, (1, 0, 0, 0), nI 1, []),
  (195, (4, 0, 0, 0), 0, []),
  (196, (8, 200, 0, 0), 0, []),
  (199, (1, 0, 0, 0), nI 5, []),
  (200, (7, 228, 1, 0), 0, []),
  (203, (2, 4, 1, 0), 0, []),
  (205, (1, 0, 1, 0), nI 16, []),
  (207, (4, 5, 0, 0), 0, []),
  (208, (6, 230, 1, 0), 0, [])]
def cx_L_law_4 : List Ent := [(211, (2, 1, 2, 0), 0, []),
  (212, (2, 7, 1, 0), 0, []),
  (214, (2, 5, 1, 0), 0, []),
  (216, (2, 6, 1, 0), 0, []),
  (218, (2, 14, 1, 0), 0, []),
  (220, (31, 8, 1, 0), 0, []),
  (222, (25, 126, 125, 0), 0, [(6, 0)]),
  (225, (6, 230, 1, 0), 0, []),
  (228, (1, 0, 0, 0), nI 0, []),
  (229, (14, 0, 0, 0), 0, []),
  (230, (2, 13, 1, 0), 0, []),
  (232, (6, 257, 1, 0), 0, []),
  (235, (2, 1, 2, 0), 0, []),
  (236, (1, 0, 1, 0), nI 7, []),
  (238, (13, 13, 102, 0), 0, [(2, 9)]),
  (241, (2, 11, 1, 0), 0, []),
  (243, (7, 276, 2, 0), 0, []),
  (246, (2, 1, 2, 0), 0, []),
  (247, (1, 0, 1, 0), nI 6, []),
  (249, (13, 13, 102, 0), 0, [(2, 9)]),
  (252, (2, 12, 1, 0), 0, []),
  (254, (7, 276, 2, 0), 0, []),
  (257, (2, 4, 1, 0), 0, []),
  (259, (1, 0, 1, 0), nI 96, []),
  (261, (4, 5, 0, 0), 0, []),
  (262, (6, 278, 1, 0), 0, []),
  (265, (2, 1, 2, 0), 0, []),
  (266, (2, 5, 1, 0), 0, []),
  (268, (2, 6, 1, 0), 0, []),
  (270, (25, 130, 126, 0), 0, [(3, 0)])]
def cx_L_law_5 : List Ent := [(273, (6, 278, 1, 0), 0, []),
  (276, (1, 0, 0, 0), nI 0, []),
  (277, (14, 0, 0, 0), 0, []),
  (278, (2, 4, 1, 0), 0, []),
  (280, (1, 0, 1, 0), nI 96, []),
  (282, (4, 5, 0, 0), 0, []),
  (283, (6, 316, 0, 0), 0, []),
  (286, (2, 1, 2, 0), 0, []),
  (287, (2, 5, 1, 0), 0, []),
  (289, (1, 0, 0, 0), nI 4, []),
  (290, (4, 8, 0, 0), 0, []),
  (291, (1, 0, 0, 0), nI 3, []),
  (292, (13, 61, 115, 1), 0, [(2, 24)]),
  (295, (2, 1, 2, 0), 0, []),
  (296, (2, 6, 1, 0), 0, []),
  (298, (13, 82, 119, 1), 0, [(2, 24)]),
  (301, (2, 6, 1, 0), 0, []),
  (303, (1, 0, 0, 0), nI 4, []),
  (304, (4, 8, 0, 0), 0, []),
  (305, (1, 0, 1, 0), nI 100, []),
  (307, (13, 61, 115, 1), 0, [(2, 24)]),
  (310, (25, 133, 124, 0), 0, [(4, 0)]),
  (313, (6, 330, 0, 0), 0, []),
  (316, (2, 1, 2, 0), 0, []),
  (317, (13, 137, 121, 1), 0, [(1, 24)]),
  (320, (6, 330, 0, 0), 0, []),
  (323, (2, 1, 2, 0), 0, []),
  (324, (13, 141, 122, 1), 0, [(1, 24)]),
  (327, (6, 332, 1, 0), 0, []),
  (330, (1, 0, 0, 0), nI 0, [])]
def cx_L_law_6 : List Ent := [(331, (14, 0, 0, 0), 0, []),
  (332, (5, 3, 0, 0), nI 1, []),
  (335, (8, 34, 0, 0), 0, []),
  (338, (1, 0, 0, 0), nI 1, []),
  (339, (14, 0, 0, 0), 0, [])]
def co_L_law : List Ent := cx_L_law_0 ++ (cx_L_law_1 ++ (cx_L_law_2 ++ (cx_L_law_3 ++ (cx_L_law_4 ++ (cx_L_law_5 ++ (cx_L_law_6))))))
abbrev m_L_law : Nat := 127
abbrev nSm : Nat := 123
def allCo : List (List Ent) := [co_X0_init, co_X1_init, co_X1_become, co_X1_copyFrom, co_X1_isAt, co_X1_has, co_X1_holds, co_X1_meets, co_X2_init, co_X2_become, co_X2_copyFrom, co_X2_isHolding, co_X2_property, co_X3_init, co_X3_row, co_X3_draft, co_X3_keepDraft, co_X3_takeLatest, co_X4_init, co_X4_start, co_X4_copyFrom, co_X4_isPlace, co_X4_property, co_X4_moveToFront, co_X4_drop, co_X4_dropEnded, co_X4_placeOfSite, co_X4_placeOfSmallest, co_X4_addMap, co_X5_init, co_X5_copyFrom, co_X6_init, co_X6_start, co_X6_copyFrom, co_X6_isRegistered, co_X6_isUp, co_X7_init, co_X7_copyFrom, co_X7_fill, co_X7_propertyOf, co_X7_isEmpty, co_X7_areEmpty, co_X7_have, co_X7_lowestPriority, co_X7_weightThatCounts, co_X7_placeFor, co_X8_init, co_X8_copyFrom, co_X8_isServer, co_X8_isSite, co_X8_isRouter, co_X8_newServer, co_X8_newSite, co_X8_newRouter, co_X8_fillSlot, co_X8_vacateSlot, co_X8_startRegistration, co_X8_endRegistration, co_X8_changeMapLife, co_X8_letPass, co_X8_emptyCache, co_X8_sendLetter, co_X8_placeByMap, co_X8_ask, co_X8_goByProxy, co_X8_homeOf, co_X8_homeOfSite, co_X8_hopsTo, co_X8_answerFor, co_X8_siteEndingAt, co_X8_sitesEndingAheadOf, co_X8_serverProperty, co_X8_childrenOf, co_X8_sitesAtHome, co_X8_siteProperty, co_X8_mapsOf, co_X8_totalOf, co_X8_sitesUp, co_X8_sumOverRouters, co_X8_namesWithAnswer, co_X9_init, co_X9_addServer, co_X9_addSite, co_X9_addRouter, co_X9_setSlot, co_X9_emptySlot, co_X9_register, co_X9_unregister, co_X9_setMapLife, co_X9_send, co_X9_pass, co_X9_forget, co_X9_undo, co_X9_save, co_X9_restore, co_X9_server, co_X9_site, co_X9_slot, co_X9_router, co_X9_map, co_X9_answer, co_X9_endingNext, co_X9_total, co_X9_wouldReach, co_X9_wouldAsk, co_X9_recorded, co_X9_isSave, co_X9_isSlot, co_X9_isName, co_X9_isFlow, co_X9_isPlaceOfSlot, co_X9_isBlock, co_J6_bitCount_0f7a4, co_J9_floorMod_7cf53, co_L_cell, co_L_up, co_L_size, co_L_any, co_L_turn, co_L_name, co_L_hasPlace, co_L_areRouters, co_L_areEnding]
/-- the methods with longs, behind the others -/
def allCl : List (List Ent) := [co_L_view, co_L_isSent, co_L_isUndone, co_L_isSaved, co_L_law]
/-- of each method: its answer (0 int, 1 boolean, 2 none) -/
def allRet : List Nat := [2, 2, 2, 2, 1, 1, 1, 1, 2, 2, 2, 1, 0, 2, 0, 2, 2, 2, 2, 2, 2, 1, 0, 2, 2, 2, 0, 0, 2, 2, 2, 2, 2, 2, 1, 1, 2, 2, 2, 0, 1, 1, 1, 0, 0, 0, 2, 2, 1, 1, 1, 0, 0, 0, 0, 0, 0, 0, 0, 0, 0, 0, 0, 1, 0, 0, 0, 0, 0, 0, 0, 0, 0, 0, 0, 0, 0, 0, 0, 0, 2, 0, 0, 0, 0, 0, 0, 0, 0, 0, 0, 0, 0, 0, 0, 0, 0, 0, 0, 0, 0, 0, 0, 0, 0, 0, 1, 1, 1, 1, 1, 1, 0, 0, 0, 0, 0, 0, 0, 0, 1, 1, 1, 3, 1, 1, 1, 1]
end
section
/-- words that any later state keeps -/
def isNest : Cond → Bool
  | .methodLinkNest _ _ _ _ => true
  | _ => false
def kw (w : Cond) : Bool := (w.onTables && w.keeps) || isNest w
def inT (w : Cond) : Prop := w ∈ lw_tbl ∧ kw w = true
theorem inT_at {w : Cond} (i : Nat) (h : lw_tbl[i]? = some w ∧ kw w = true) : inT w := ⟨List.mem_of_getElem? h.1, h.2⟩
def cnm : Nat → String := fun c => match c with
  | 0 => RX0
  | 1 => RX1
  | 2 => RX2
  | 3 => RX3
  | 4 => RX4
  | 5 => RX5
  | 6 => RX6
  | 7 => RX7
  | 8 => RX8
  | 9 => RX9
  | 10 => RX10
  | 24 => RL
  | 25 => RJ6
  | _ => RJ9
abbrev MRow : Type := MethodName × ByteArray × Nat × Option FieldType × Nat × Nat × Bool
/-- name, bytes, locals, answer, class, arguments (with the receiver), static -/
def mTab : List MRow := [(yX0_init, cX0_init, 1, none, 0, 1, false),
  (yX1_init, cX1_init, 1, none, 1, 1, false),
  (yX1_become, cX1_become, 3, none, 1, 3, false),
  (yX1_copyFrom, cX1_copyFrom, 2, none, 1, 2, false),
  (yX1_isAt, cX1_isAt, 3, (some .boolean), 1, 3, false),
  (yX1_has, cX1_has, 2, (some .boolean), 1, 2, false),
  (yX1_holds, cX1_holds, 3, (some .boolean), 1, 3, false),
  (yX1_meets, cX1_meets, 3, (some .boolean), 1, 3, false),
  (yX2_init, cX2_init, 1, none, 2, 1, false),
  (yX2_become, cX2_become, 4, none, 2, 4, false),
  (yX2_copyFrom, cX2_copyFrom, 2, none, 2, 2, false),
  (yX2_isHolding, cX2_isHolding, 2, (some .boolean), 2, 2, false),
  (yX2_property, cX2_property, 3, (some .int), 2, 3, false),
  (yX3_init, cX3_init, 2, none, 3, 1, false),
  (yX3_row, cX3_row, 2, (some .int), 3, 2, false),
  (yX3_draft, cX3_draft, 2, none, 3, 2, false),
  (yX3_keepDraft, cX3_keepDraft, 1, none, 3, 1, false),
  (yX3_takeLatest, cX3_takeLatest, 2, none, 3, 2, false),
  (yX4_init, cX4_init, 2, none, 4, 1, false),
  (yX4_start, cX4_start, 1, none, 4, 1, false),
  (yX4_copyFrom, cX4_copyFrom, 3, none, 4, 2, false),
  (yX4_isPlace, cX4_isPlace, 2, (some .boolean), 4, 2, false),
  (yX4_property, cX4_property, 2, (some .int), 4, 2, false),
  (yX4_moveToFront, cX4_moveToFront, 4, none, 4, 2, false),
  (yX4_drop, cX4_drop, 4, none, 4, 2, false),
  (yX4_dropEnded, cX4_dropEnded, 3, none, 4, 2, false),
  (yX4_placeOfSite, cX4_placeOfSite, 3, (some .int), 4, 2, false),
  (yX4_placeOfSmallest, cX4_placeOfSmallest, 6, (some .int), 4, 2, false),
  (yX4_addMap, cX4_addMap, 4, none, 4, 4, false),
  (yX5_init, cX5_init, 1, none, 5, 1, false),
  (yX5_copyFrom, cX5_copyFrom, 2, none, 5, 2, false),
  (yX6_init, cX6_init, 1, none, 6, 1, false),
  (yX6_start, cX6_start, 5, none, 6, 4, false),
  (yX6_copyFrom, cX6_copyFrom, 2, none, 6, 2, false),
  (yX6_isRegistered, cX6_isRegistered, 2, (some .boolean), 6, 2, false),
  (yX6_isUp, cX6_isUp, 2, (some .boolean), 6, 2, false),
  (yX7_init, cX7_init, 1, none, 7, 1, false),
  (yX7_copyFrom, cX7_copyFrom, 3, none, 7, 2, false),
  (yX7_fill, cX7_fill, 5, none, 7, 5, false),
  (yX7_propertyOf, cX7_propertyOf, 3, (some .int), 7, 3, false),
  (yX7_isEmpty, cX7_isEmpty, 2, (some .boolean), 7, 2, false),
  (yX7_areEmpty, cX7_areEmpty, 3, (some .boolean), 7, 1, false),
  (yX7_have, cX7_have, 3, (some .boolean), 7, 2, false),
  (yX7_lowestPriority, cX7_lowestPriority, 3, (some .int), 7, 1, false),
  (yX7_weightThatCounts, cX7_weightThatCounts, 3, (some .int), 7, 3, false),
  (yX7_placeFor, cX7_placeFor, 7, (some .int), 7, 2, false),
  (yX8_init, cX8_init, 2, none, 8, 1, false),
  (yX8_copyFrom, cX8_copyFrom, 3, none, 8, 2, false),
  (yX8_isServer, cX8_isServer, 2, (some .boolean), 8, 2, false),
  (yX8_isSite, cX8_isSite, 2, (some .boolean), 8, 2, false),
  (yX8_isRouter, cX8_isRouter, 2, (some .boolean), 8, 2, false),
  (yX8_newServer, cX8_newServer, 6, (some .int), 8, 4, false),
  (yX8_newSite, cX8_newSite, 5, (some .int), 8, 4, false),
  (yX8_newRouter, cX8_newRouter, 1, (some .int), 8, 1, false),
  (yX8_fillSlot, cX8_fillSlot, 6, (some .int), 8, 6, false),
  (yX8_vacateSlot, cX8_vacateSlot, 3, (some .int), 8, 3, false),
  (yX8_startRegistration, cX8_startRegistration, 2, (some .int), 8, 2, false),
  (yX8_endRegistration, cX8_endRegistration, 3, (some .int), 8, 2, false),
  (yX8_changeMapLife, cX8_changeMapLife, 3, (some .int), 8, 2, false),
  (yX8_letPass, cX8_letPass, 2, (some .int), 8, 2, false),
  (yX8_emptyCache, cX8_emptyCache, 3, (some .int), 8, 2, false),
  (yX8_sendLetter, cX8_sendLetter, 7, (some .int), 8, 4, false),
  (yX8_placeByMap, cX8_placeByMap, 5, (some .int), 8, 3, false),
  (yX8_ask, cX8_ask, 4, (some .boolean), 8, 3, false),
  (yX8_goByProxy, cX8_goByProxy, 3, (some .int), 8, 3, false),
  (yX8_homeOf, cX8_homeOf, 6, (some .int), 8, 3, false),
  (yX8_homeOfSite, cX8_homeOfSite, 2, (some .int), 8, 2, false),
  (yX8_hopsTo, cX8_hopsTo, 4, (some .int), 8, 2, false),
  (yX8_answerFor, cX8_answerFor, 7, (some .int), 8, 2, false),
  (yX8_siteEndingAt, cX8_siteEndingAt, 3, (some .int), 8, 2, false),
  (yX8_sitesEndingAheadOf, cX8_sitesEndingAheadOf, 6, (some .int), 8, 2, false),
  (yX8_serverProperty, cX8_serverProperty, 3, (some .int), 8, 3, false),
  (yX8_childrenOf, cX8_childrenOf, 4, (some .int), 8, 2, false),
  (yX8_sitesAtHome, cX8_sitesAtHome, 4, (some .int), 8, 2, false),
  (yX8_siteProperty, cX8_siteProperty, 3, (some .int), 8, 3, false),
  (yX8_mapsOf, cX8_mapsOf, 4, (some .int), 8, 2, false),
  (yX8_totalOf, cX8_totalOf, 2, (some .int), 8, 2, false),
  (yX8_sitesUp, cX8_sitesUp, 3, (some .int), 8, 1, false),
  (yX8_sumOverRouters, cX8_sumOverRouters, 4, (some .int), 8, 2, false),
  (yX8_namesWithAnswer, cX8_namesWithAnswer, 3, (some .int), 8, 1, false),
  (yX9_init, cX9_init, 2, none, 9, 1, false),
  (yX9_addServer, cX9_addServer, 4, (some .int), 9, 4, false),
  (yX9_addSite, cX9_addSite, 4, (some .int), 9, 4, false),
  (yX9_addRouter, cX9_addRouter, 1, (some .int), 9, 1, false),
  (yX9_setSlot, cX9_setSlot, 6, (some .int), 9, 6, false),
  (yX9_emptySlot, cX9_emptySlot, 3, (some .int), 9, 3, false),
  (yX9_register, cX9_register, 2, (some .int), 9, 2, false),
  (yX9_unregister, cX9_unregister, 2, (some .int), 9, 2, false),
  (yX9_setMapLife, cX9_setMapLife, 2, (some .int), 9, 2, false),
  (yX9_send, cX9_send, 4, (some .int), 9, 4, false),
  (yX9_pass, cX9_pass, 2, (some .int), 9, 2, false),
  (yX9_forget, cX9_forget, 2, (some .int), 9, 2, false),
  (yX9_undo, cX9_undo, 1, (some .int), 9, 1, false),
  (yX9_save, cX9_save, 2, (some .int), 9, 2, false),
  (yX9_restore, cX9_restore, 2, (some .int), 9, 2, false),
  (yX9_server, cX9_server, 3, (some .int), 9, 3, false),
  (yX9_site, cX9_site, 3, (some .int), 9, 3, false),
  (yX9_slot, cX9_slot, 4, (some .int), 9, 4, false),
  (yX9_router, cX9_router, 3, (some .int), 9, 3, false),
  (yX9_map, cX9_map, 4, (some .int), 9, 4, false),
  (yX9_answer, cX9_answer, 3, (some .int), 9, 2, false),
  (yX9_endingNext, cX9_endingNext, 3, (some .int), 9, 2, false),
  (yX9_total, cX9_total, 2, (some .int), 9, 2, false),
  (yX9_wouldReach, cX9_wouldReach, 5, (some .int), 9, 5, false),
  (yX9_wouldAsk, cX9_wouldAsk, 5, (some .int), 9, 4, false),
  (yX9_recorded, cX9_recorded, 2, (some .int), 9, 2, false),
  (yX9_isSave, cX9_isSave, 1, (some .boolean), 9, 1, true),
  (yX9_isSlot, cX9_isSlot, 1, (some .boolean), 9, 1, true),
  (yX9_isName, cX9_isName, 1, (some .boolean), 9, 1, true),
  (yX9_isFlow, cX9_isFlow, 1, (some .boolean), 9, 1, true),
  (yX9_isPlaceOfSlot, cX9_isPlaceOfSlot, 1, (some .boolean), 9, 1, true),
  (yX9_isBlock, cX9_isBlock, 2, (some .boolean), 9, 2, true),
  (yJ6_bitCount_0f7a4, cJ6_bitCount_0f7a4, 1, (some .int), 25, 1, true),
  (yJ9_floorMod_7cf53, cJ9_floorMod_7cf53, 3, (some .int), 26, 2, true),
  (yL_cell, cL_cell, 2, (some .int), 24, 2, true),
  (yL_up, cL_up, 2, (some .int), 24, 2, true),
  (yL_size, cL_size, 1, (some .int), 24, 1, true),
  (yL_any, cL_any, 3, (some .int), 24, 3, true),
  (yL_turn, cL_turn, 6, (some .int), 24, 4, true),
  (yL_name, cL_name, 4, (some .int), 24, 2, true),
  (yL_hasPlace, cL_hasPlace, 7, (some .boolean), 24, 3, true),
  (yL_areRouters, cL_areRouters, 7, (some .boolean), 24, 1, true),
  (yL_areEnding, cL_areEnding, 6, (some .boolean), 24, 1, true),
  (yL_view, cL_view, 6, (some .long), 24, 1, true),
  (yL_isSent, cL_isSent, 12, (some .boolean), 24, 4, true),
  (yL_isUndone, cL_isUndone, 8, (some .boolean), 24, 6, true),
  (yL_isSaved, cL_isSaved, 6, (some .boolean), 24, 3, true),
  (yL_law, cL_law, 15, (some .boolean), 24, 1, true)]
def mRow (m : Nat) : MRow := mTab.getD m (⟨"", "", ""⟩, code, 0, none, 0, 0, false)
def codT (m : Nat) : List Ent := allCo.getD m []
def retT (m : Nat) : Nat := allRet.getD m 9
def colT (m : Nat) : List Ent := allCl.getD (m - nSm) []
/-- links of fields: the class that holds the link, its entry, the class and the field -/
def flT : List (Nat × Nat × Nat × Nat) := [(1, 7, 1, 0), (8, 226, 1, 0), (1, 13, 1, 1), (8, 79, 1, 1), (4, 64, 1, 1), (5, 12, 5, 0), (8, 37, 5, 0), (5, 18, 5, 1), (8, 82, 5, 1), (7, 11, 7, 0), (6, 12, 6, 0), (2, 25, 6, 0), (8, 88, 6, 0), (6, 21, 6, 1), (2, 32, 6, 1), (8, 107, 6, 1), (9, 141, 6, 1), (6, 29, 6, 2), (8, 123, 6, 2), (6, 33, 6, 3), (2, 40, 6, 3), (8, 117, 6, 3), (6, 36, 6, 4), (8, 126, 6, 4), (2, 12, 2, 0), (4, 55, 2, 0), (2, 21, 2, 1), (8, 189, 2, 1), (2, 36, 2, 2), (4, 52, 2, 2), (8, 193, 2, 2), (2, 43, 2, 3), (8, 202, 2, 3), (2, 44, 2, 4), (2, 47, 2, 5), (8, 162, 2, 5), (4, 11, 4, 0), (8, 158, 4, 0), (9, 167, 4, 0), (4, 18, 4, 1), (8, 135, 4, 1), (4, 22, 4, 2), (8, 203, 4, 2), (9, 193, 4, 2), (4, 25, 4, 3), (8, 206, 4, 3), (4, 28, 4, 4), (8, 144, 4, 4), (4, 31, 4, 5), (8, 223, 4, 5), (4, 34, 4, 6), (8, 186, 4, 6), (8, 11, 8, 0), (8, 19, 8, 1), (9, 137, 8, 1), (8, 25, 8, 2), (9, 155, 8, 2), (8, 29, 8, 3), (8, 53, 8, 4), (8, 59, 8, 5), (8, 65, 8, 6), (9, 119, 8, 6), (8, 33, 8, 7), (3, 13, 3, 0), (3, 18, 3, 1), (3, 28, 3, 2), (9, 106, 3, 2), (0, 9, 0, 0), (9, 89, 0, 1), (0, 15, 0, 3), (9, 10, 9, 0), (9, 16, 9, 1), (9, 22, 9, 2), (9, 26, 9, 3), (9, 30, 9, 4), (9, 37, 9, 5)]
def tOf (c : Nat) : u_T := (vwCl.getD c ("", TX0, 0)).2.1
def flOk (q : Nat × Nat × Nat × Nat) : Prop := inT (.fieldLink (cnm q.1) q.2.1 (cnm q.2.2.1) (tOf q.2.2.1 q.2.2.2).2.1 (tOf q.2.2.1 q.2.2.2).2.2.1)
theorem fl_0 : flOk (1, 7, 1, 0) := inT_at 58 (by decide +kernel)
theorem fl_1 : flOk (8, 226, 1, 0) := inT_at 59 (by decide +kernel)
theorem fl_2 : flOk (1, 13, 1, 1) := inT_at 60 (by decide +kernel)
theorem fl_3 : flOk (8, 79, 1, 1) := inT_at 61 (by decide +kernel)
theorem fl_4 : flOk (4, 64, 1, 1) := inT_at 62 (by decide +kernel)
theorem fl_5 : flOk (5, 12, 5, 0) := inT_at 68 (by decide +kernel)
theorem fl_6 : flOk (8, 37, 5, 0) := inT_at 69 (by decide +kernel)
theorem fl_7 : flOk (5, 18, 5, 1) := inT_at 70 (by decide +kernel)
theorem fl_8 : flOk (8, 82, 5, 1) := inT_at 71 (by decide +kernel)
theorem fl_9 : flOk (7, 11, 7, 0) := inT_at 94 (by decide +kernel)
theorem fl_10 : flOk (6, 12, 6, 0) := inT_at 99 (by decide +kernel)
theorem fl_11 : flOk (2, 25, 6, 0) := inT_at 100 (by decide +kernel)
theorem fl_12 : flOk (8, 88, 6, 0) := inT_at 101 (by decide +kernel)
theorem fl_13 : flOk (6, 21, 6, 1) := inT_at 102 (by decide +kernel)
theorem fl_14 : flOk (2, 32, 6, 1) := inT_at 103 (by decide +kernel)
theorem fl_15 : flOk (8, 107, 6, 1) := inT_at 104 (by decide +kernel)
theorem fl_16 : flOk (9, 141, 6, 1) := inT_at 105 (by decide +kernel)
theorem fl_17 : flOk (6, 29, 6, 2) := inT_at 106 (by decide +kernel)
theorem fl_18 : flOk (8, 123, 6, 2) := inT_at 107 (by decide +kernel)
theorem fl_19 : flOk (6, 33, 6, 3) := inT_at 108 (by decide +kernel)
theorem fl_20 : flOk (2, 40, 6, 3) := inT_at 109 (by decide +kernel)
theorem fl_21 : flOk (8, 117, 6, 3) := inT_at 110 (by decide +kernel)
theorem fl_22 : flOk (6, 36, 6, 4) := inT_at 111 (by decide +kernel)
theorem fl_23 : flOk (8, 126, 6, 4) := inT_at 112 (by decide +kernel)
theorem fl_24 : flOk (2, 12, 2, 0) := inT_at 140 (by decide +kernel)
theorem fl_25 : flOk (4, 55, 2, 0) := inT_at 141 (by decide +kernel)
theorem fl_26 : flOk (2, 21, 2, 1) := inT_at 142 (by decide +kernel)
theorem fl_27 : flOk (8, 189, 2, 1) := inT_at 143 (by decide +kernel)
theorem fl_28 : flOk (2, 36, 2, 2) := inT_at 144 (by decide +kernel)
theorem fl_29 : flOk (4, 52, 2, 2) := inT_at 145 (by decide +kernel)
theorem fl_30 : flOk (8, 193, 2, 2) := inT_at 146 (by decide +kernel)
theorem fl_31 : flOk (2, 43, 2, 3) := inT_at 147 (by decide +kernel)
theorem fl_32 : flOk (8, 202, 2, 3) := inT_at 148 (by decide +kernel)
theorem fl_33 : flOk (2, 44, 2, 4) := inT_at 149 (by decide +kernel)
theorem fl_34 : flOk (2, 47, 2, 5) := inT_at 150 (by decide +kernel)
theorem fl_35 : flOk (8, 162, 2, 5) := inT_at 151 (by decide +kernel)
theorem fl_36 : flOk (4, 11, 4, 0) := inT_at 165 (by decide +kernel)
theorem fl_37 : flOk (8, 158, 4, 0) := inT_at 166 (by decide +kernel)
theorem fl_38 : flOk (9, 167, 4, 0) := inT_at 167 (by decide +kernel)
theorem fl_39 : flOk (4, 18, 4, 1) := inT_at 168 (by decide +kernel)
theorem fl_40 : flOk (8, 135, 4, 1) := inT_at 169 (by decide +kernel)
theorem fl_41 : flOk (4, 22, 4, 2) := inT_at 170 (by decide +kernel)
theorem fl_42 : flOk (8, 203, 4, 2) := inT_at 171 (by decide +kernel)
theorem fl_43 : flOk (9, 193, 4, 2) := inT_at 172 (by decide +kernel)
theorem fl_44 : flOk (4, 25, 4, 3) := inT_at 173 (by decide +kernel)
theorem fl_45 : flOk (8, 206, 4, 3) := inT_at 174 (by decide +kernel)
theorem fl_46 : flOk (4, 28, 4, 4) := inT_at 175 (by decide +kernel)
theorem fl_47 : flOk (8, 144, 4, 4) := inT_at 176 (by decide +kernel)
theorem fl_48 : flOk (4, 31, 4, 5) := inT_at 177 (by decide +kernel)
theorem fl_49 : flOk (8, 223, 4, 5) := inT_at 178 (by decide +kernel)
theorem fl_50 : flOk (4, 34, 4, 6) := inT_at 179 (by decide +kernel)
theorem fl_51 : flOk (8, 186, 4, 6) := inT_at 180 (by decide +kernel)
theorem fl_52 : flOk (8, 11, 8, 0) := inT_at 196 (by decide +kernel)
theorem fl_53 : flOk (8, 19, 8, 1) := inT_at 197 (by decide +kernel)
theorem fl_54 : flOk (9, 137, 8, 1) := inT_at 198 (by decide +kernel)
theorem fl_55 : flOk (8, 25, 8, 2) := inT_at 199 (by decide +kernel)
theorem fl_56 : flOk (9, 155, 8, 2) := inT_at 200 (by decide +kernel)
theorem fl_57 : flOk (8, 29, 8, 3) := inT_at 201 (by decide +kernel)
theorem fl_58 : flOk (8, 53, 8, 4) := inT_at 202 (by decide +kernel)
theorem fl_59 : flOk (8, 59, 8, 5) := inT_at 203 (by decide +kernel)
theorem fl_60 : flOk (8, 65, 8, 6) := inT_at 204 (by decide +kernel)
theorem fl_61 : flOk (9, 119, 8, 6) := inT_at 205 (by decide +kernel)
theorem fl_62 : flOk (8, 33, 8, 7) := inT_at 206 (by decide +kernel)
theorem fl_63 : flOk (3, 13, 3, 0) := inT_at 233 (by decide +kernel)
theorem fl_64 : flOk (3, 18, 3, 1) := inT_at 234 (by decide +kernel)
theorem fl_65 : flOk (3, 28, 3, 2) := inT_at 235 (by decide +kernel)
theorem fl_66 : flOk (9, 106, 3, 2) := inT_at 236 (by decide +kernel)
theorem fl_67 : flOk (0, 9, 0, 0) := inT_at 250 (by decide +kernel)
theorem fl_68 : flOk (9, 89, 0, 1) := inT_at 251 (by decide +kernel)
theorem fl_69 : flOk (0, 15, 0, 3) := inT_at 252 (by decide +kernel)
theorem fl_70 : flOk (9, 10, 9, 0) := inT_at 272 (by decide +kernel)
theorem fl_71 : flOk (9, 16, 9, 1) := inT_at 273 (by decide +kernel)
theorem fl_72 : flOk (9, 22, 9, 2) := inT_at 274 (by decide +kernel)
theorem fl_73 : flOk (9, 26, 9, 3) := inT_at 275 (by decide +kernel)
theorem fl_74 : flOk (9, 30, 9, 4) := inT_at 276 (by decide +kernel)
theorem fl_75 : flOk (9, 37, 9, 5) := inT_at 277 (by decide +kernel)
set_option maxRecDepth 100000 in
theorem flT_ok : ∀ q ∈ flT, flOk q := List.forall_mem_cons.mpr ⟨fl_0, List.forall_mem_cons.mpr ⟨fl_1, List.forall_mem_cons.mpr ⟨fl_2, List.forall_mem_cons.mpr ⟨fl_3, List.forall_mem_cons.mpr ⟨fl_4, List.forall_mem_cons.mpr ⟨fl_5, List.forall_mem_cons.mpr ⟨fl_6, List.forall_mem_cons.mpr ⟨fl_7, List.forall_mem_cons.mpr ⟨fl_8, List.forall_mem_cons.mpr ⟨fl_9, List.forall_mem_cons.mpr ⟨fl_10, List.forall_mem_cons.mpr ⟨fl_11, List.forall_mem_cons.mpr ⟨fl_12, List.forall_mem_cons.mpr ⟨fl_13, List.forall_mem_cons.mpr ⟨fl_14, List.forall_mem_cons.mpr ⟨fl_15, List.forall_mem_cons.mpr ⟨fl_16, List.forall_mem_cons.mpr ⟨fl_17, List.forall_mem_cons.mpr ⟨fl_18, List.forall_mem_cons.mpr ⟨fl_19, List.forall_mem_cons.mpr ⟨fl_20, List.forall_mem_cons.mpr ⟨fl_21, List.forall_mem_cons.mpr ⟨fl_22, List.forall_mem_cons.mpr ⟨fl_23, List.forall_mem_cons.mpr ⟨fl_24, List.forall_mem_cons.mpr ⟨fl_25, List.forall_mem_cons.mpr ⟨fl_26, List.forall_mem_cons.mpr ⟨fl_27, List.forall_mem_cons.mpr ⟨fl_28, List.forall_mem_cons.mpr ⟨fl_29, List.forall_mem_cons.mpr ⟨fl_30, List.forall_mem_cons.mpr ⟨fl_31, List.forall_mem_cons.mpr ⟨fl_32, List.forall_mem_cons.mpr ⟨fl_33, List.forall_mem_cons.mpr ⟨fl_34, List.forall_mem_cons.mpr ⟨fl_35, List.forall_mem_cons.mpr ⟨fl_36, List.forall_mem_cons.mpr ⟨fl_37, List.forall_mem_cons.mpr ⟨fl_38, List.forall_mem_cons.mpr ⟨fl_39, List.forall_mem_cons.mpr ⟨fl_40, List.forall_mem_cons.mpr ⟨fl_41, List.forall_mem_cons.mpr ⟨fl_42, List.forall_mem_cons.mpr ⟨fl_43, List.forall_mem_cons.mpr ⟨fl_44, List.forall_mem_cons.mpr ⟨fl_45, List.forall_mem_cons.mpr ⟨fl_46, List.forall_mem_cons.mpr ⟨fl_47, List.forall_mem_cons.mpr ⟨fl_48, List.forall_mem_cons.mpr ⟨fl_49, List.forall_mem_cons.mpr ⟨fl_50, List.forall_mem_cons.mpr ⟨fl_51, List.forall_mem_cons.mpr ⟨fl_52, List.forall_mem_cons.mpr ⟨fl_53, List.forall_mem_cons.mpr ⟨fl_54, List.forall_mem_cons.mpr ⟨fl_55, List.forall_mem_cons.mpr ⟨fl_56, List.forall_mem_cons.mpr ⟨fl_57, List.forall_mem_cons.mpr ⟨fl_58, List.forall_mem_cons.mpr ⟨fl_59, List.forall_mem_cons.mpr ⟨fl_60, List.forall_mem_cons.mpr ⟨fl_61, List.forall_mem_cons.mpr ⟨fl_62, List.forall_mem_cons.mpr ⟨fl_63, List.forall_mem_cons.mpr ⟨fl_64, List.forall_mem_cons.mpr ⟨fl_65, List.forall_mem_cons.mpr ⟨fl_66, List.forall_mem_cons.mpr ⟨fl_67, List.forall_mem_cons.mpr ⟨fl_68, List.forall_mem_cons.mpr ⟨fl_69, List.forall_mem_cons.mpr ⟨fl_70, List.forall_mem_cons.mpr ⟨fl_71, List.forall_mem_cons.mpr ⟨fl_72, List.forall_mem_cons.mpr ⟨fl_73, List.forall_mem_cons.mpr ⟨fl_74, List.forall_mem_cons.mpr ⟨fl_75, fun _ h => absurd h List.not_mem_nil⟩⟩⟩⟩⟩⟩⟩⟩⟩⟩⟩⟩⟩⟩⟩⟩⟩⟩⟩⟩⟩⟩⟩⟩⟩⟩⟩⟩⟩⟩⟩⟩⟩⟩⟩⟩⟩⟩⟩⟩⟩⟩⟩⟩⟩⟩⟩⟩⟩⟩⟩⟩⟩⟩⟩⟩⟩⟩⟩⟩⟩⟩⟩⟩⟩⟩⟩⟩⟩⟩⟩⟩⟩⟩⟩⟩
def mhOk (r : MRow) : Prop := (r.1.cls ≠ "java/lang/invoke/MethodHandle" ∧ r.1.cls ≠ "java/lang/invoke/VarHandle") ∧ (parseMethodDescriptor r.1.desc).map (fun d => d.parameters.length) = some (r.2.2.2.2.2.1 - if r.2.2.2.2.2.2 = true then 0 else 1) ∧ plainFor r.1 = true ∧ cnm r.2.2.2.2.1 = r.1.cls ∧ r.2.2.1 ≤ 19 ∧ (r.2.2.2.2.2.2 = false → 0 < r.2.2.2.2.2.1)
theorem mh_all : ∀ r ∈ mTab, mhOk r := by unfold mhOk; decide +kernel
def mwOk (r : MRow) : Prop := inT (.code r.1 r.2.1 r.2.2.1 r.2.2.2.1) ∧ inT (.initialized r.1.cls) ∧ (if r.2.2.2.2.2.2 = true then inT (.static r.1) else inT (.instanceMethod r.1) ∧ (r.1.name = "<init>" ∨ inT (.selects r.1.cls r.1 r.1)))
theorem mw_X0_init : mwOk (mRow m_X0_init) := ⟨inT_at 248 (by decide +kernel), inT_at 24 (by decide +kernel), ⟨inT_at 247 (by decide +kernel), Or.inl rfl⟩⟩
theorem mw_X1_init : mwOk (mRow m_X1_init) := ⟨inT_at 56 (by decide +kernel), inT_at 18 (by decide +kernel), ⟨inT_at 55 (by decide +kernel), Or.inl rfl⟩⟩
theorem mw_X1_become : mwOk (mRow m_X1_become) := ⟨inT_at 80 (by decide +kernel), inT_at 18 (by decide +kernel), ⟨inT_at 78 (by decide +kernel), Or.inr (inT_at 79 (by decide +kernel))⟩⟩
theorem mw_X1_copyFrom : mwOk (mRow m_X1_copyFrom) := ⟨inT_at 317 (by decide +kernel), inT_at 18 (by decide +kernel), ⟨inT_at 315 (by decide +kernel), Or.inr (inT_at 316 (by decide +kernel))⟩⟩
theorem mw_X1_isAt : mwOk (mRow m_X1_isAt) := ⟨inT_at 550 (by decide +kernel), inT_at 18 (by decide +kernel), ⟨inT_at 548 (by decide +kernel), Or.inr (inT_at 549 (by decide +kernel))⟩⟩
theorem mw_X1_has : mwOk (mRow m_X1_has) := ⟨inT_at 404 (by decide +kernel), inT_at 18 (by decide +kernel), ⟨inT_at 402 (by decide +kernel), Or.inr (inT_at 403 (by decide +kernel))⟩⟩
theorem mw_X1_holds : mwOk (mRow m_X1_holds) := ⟨inT_at 400 (by decide +kernel), inT_at 18 (by decide +kernel), ⟨inT_at 398 (by decide +kernel), Or.inr (inT_at 399 (by decide +kernel))⟩⟩
theorem mw_X1_meets : mwOk (mRow m_X1_meets) := ⟨inT_at 538 (by decide +kernel), inT_at 18 (by decide +kernel), ⟨inT_at 536 (by decide +kernel), Or.inr (inT_at 537 (by decide +kernel))⟩⟩
theorem mw_X2_init : mwOk (mRow m_X2_init) := ⟨inT_at 134 (by decide +kernel), inT_at 22 (by decide +kernel), ⟨inT_at 133 (by decide +kernel), Or.inl rfl⟩⟩
theorem mw_X2_become : mwOk (mRow m_X2_become) := ⟨inT_at 669 (by decide +kernel), inT_at 22 (by decide +kernel), ⟨inT_at 667 (by decide +kernel), Or.inr (inT_at 668 (by decide +kernel))⟩⟩
theorem mw_X2_copyFrom : mwOk (mRow m_X2_copyFrom) := ⟨inT_at 334 (by decide +kernel), inT_at 22 (by decide +kernel), ⟨inT_at 332 (by decide +kernel), Or.inr (inT_at 333 (by decide +kernel))⟩⟩
theorem mw_X2_isHolding : mwOk (mRow m_X2_isHolding) := ⟨inT_at 508 (by decide +kernel), inT_at 22 (by decide +kernel), ⟨inT_at 506 (by decide +kernel), Or.inr (inT_at 507 (by decide +kernel))⟩⟩
theorem mw_X2_property : mwOk (mRow m_X2_property) := ⟨inT_at 504 (by decide +kernel), inT_at 22 (by decide +kernel), ⟨inT_at 502 (by decide +kernel), Or.inr (inT_at 503 (by decide +kernel))⟩⟩
theorem mw_X3_init : mwOk (mRow m_X3_init) := ⟨inT_at 228 (by decide +kernel), inT_at 23 (by decide +kernel), ⟨inT_at 227 (by decide +kernel), Or.inl rfl⟩⟩
theorem mw_X3_row : mwOk (mRow m_X3_row) := ⟨inT_at 302 (by decide +kernel), inT_at 23 (by decide +kernel), ⟨inT_at 301 (by decide +kernel), Or.inr (inT_at 0 (by decide +kernel))⟩⟩
theorem mw_X3_draft : mwOk (mRow m_X3_draft) := ⟨inT_at 298 (by decide +kernel), inT_at 23 (by decide +kernel), ⟨inT_at 296 (by decide +kernel), Or.inr (inT_at 297 (by decide +kernel))⟩⟩
theorem mw_X3_keepDraft : mwOk (mRow m_X3_keepDraft) := ⟨inT_at 352 (by decide +kernel), inT_at 23 (by decide +kernel), ⟨inT_at 350 (by decide +kernel), Or.inr (inT_at 351 (by decide +kernel))⟩⟩
theorem mw_X3_takeLatest : mwOk (mRow m_X3_takeLatest) := ⟨inT_at 739 (by decide +kernel), inT_at 23 (by decide +kernel), ⟨inT_at 737 (by decide +kernel), Or.inr (inT_at 738 (by decide +kernel))⟩⟩
theorem mw_X4_init : mwOk (mRow m_X4_init) := ⟨inT_at 127 (by decide +kernel), inT_at 21 (by decide +kernel), ⟨inT_at 126 (by decide +kernel), Or.inl rfl⟩⟩
theorem mw_X4_start : mwOk (mRow m_X4_start) := ⟨inT_at 344 (by decide +kernel), inT_at 21 (by decide +kernel), ⟨inT_at 342 (by decide +kernel), Or.inr (inT_at 343 (by decide +kernel))⟩⟩
theorem mw_X4_copyFrom : mwOk (mRow m_X4_copyFrom) := ⟨inT_at 330 (by decide +kernel), inT_at 21 (by decide +kernel), ⟨inT_at 328 (by decide +kernel), Or.inr (inT_at 329 (by decide +kernel))⟩⟩
theorem mw_X4_isPlace : mwOk (mRow m_X4_isPlace) := ⟨inT_at 500 (by decide +kernel), inT_at 21 (by decide +kernel), ⟨inT_at 498 (by decide +kernel), Or.inr (inT_at 499 (by decide +kernel))⟩⟩
theorem mw_X4_property : mwOk (mRow m_X4_property) := ⟨inT_at 384 (by decide +kernel), inT_at 21 (by decide +kernel), ⟨inT_at 382 (by decide +kernel), Or.inr (inT_at 383 (by decide +kernel))⟩⟩
theorem mw_X4_moveToFront : mwOk (mRow m_X4_moveToFront) := ⟨inT_at 656 (by decide +kernel), inT_at 21 (by decide +kernel), ⟨inT_at 654 (by decide +kernel), Or.inr (inT_at 655 (by decide +kernel))⟩⟩
theorem mw_X4_drop : mwOk (mRow m_X4_drop) := ⟨inT_at 646 (by decide +kernel), inT_at 21 (by decide +kernel), ⟨inT_at 644 (by decide +kernel), Or.inr (inT_at 645 (by decide +kernel))⟩⟩
theorem mw_X4_dropEnded : mwOk (mRow m_X4_dropEnded) := ⟨inT_at 640 (by decide +kernel), inT_at 21 (by decide +kernel), ⟨inT_at 638 (by decide +kernel), Or.inr (inT_at 639 (by decide +kernel))⟩⟩
theorem mw_X4_placeOfSite : mwOk (mRow m_X4_placeOfSite) := ⟨inT_at 468 (by decide +kernel), inT_at 21 (by decide +kernel), ⟨inT_at 466 (by decide +kernel), Or.inr (inT_at 467 (by decide +kernel))⟩⟩
theorem mw_X4_placeOfSmallest : mwOk (mRow m_X4_placeOfSmallest) := ⟨inT_at 650 (by decide +kernel), inT_at 21 (by decide +kernel), ⟨inT_at 648 (by decide +kernel), Or.inr (inT_at 649 (by decide +kernel))⟩⟩
theorem mw_X4_addMap : mwOk (mRow m_X4_addMap) := ⟨inT_at 664 (by decide +kernel), inT_at 21 (by decide +kernel), ⟨inT_at 662 (by decide +kernel), Or.inr (inT_at 663 (by decide +kernel))⟩⟩
theorem mw_X5_init : mwOk (mRow m_X5_init) := ⟨inT_at 50 (by decide +kernel), inT_at 17 (by decide +kernel), ⟨inT_at 49 (by decide +kernel), Or.inl rfl⟩⟩
theorem mw_X5_copyFrom : mwOk (mRow m_X5_copyFrom) := ⟨inT_at 313 (by decide +kernel), inT_at 17 (by decide +kernel), ⟨inT_at 311 (by decide +kernel), Or.inr (inT_at 312 (by decide +kernel))⟩⟩
theorem mw_X6_init : mwOk (mRow m_X6_init) := ⟨inT_at 84 (by decide +kernel), inT_at 19 (by decide +kernel), ⟨inT_at 83 (by decide +kernel), Or.inl rfl⟩⟩
theorem mw_X6_start : mwOk (mRow m_X6_start) := ⟨inT_at 554 (by decide +kernel), inT_at 19 (by decide +kernel), ⟨inT_at 552 (by decide +kernel), Or.inr (inT_at 553 (by decide +kernel))⟩⟩
theorem mw_X6_copyFrom : mwOk (mRow m_X6_copyFrom) := ⟨inT_at 321 (by decide +kernel), inT_at 19 (by decide +kernel), ⟨inT_at 319 (by decide +kernel), Or.inr (inT_at 320 (by decide +kernel))⟩⟩
theorem mw_X6_isRegistered : mwOk (mRow m_X6_isRegistered) := ⟨inT_at 372 (by decide +kernel), inT_at 19 (by decide +kernel), ⟨inT_at 370 (by decide +kernel), Or.inr (inT_at 371 (by decide +kernel))⟩⟩
theorem mw_X6_isUp : mwOk (mRow m_X6_isUp) := ⟨inT_at 368 (by decide +kernel), inT_at 19 (by decide +kernel), ⟨inT_at 366 (by decide +kernel), Or.inr (inT_at 367 (by decide +kernel))⟩⟩
theorem mw_X7_init : mwOk (mRow m_X7_init) := ⟨inT_at 92 (by decide +kernel), inT_at 20 (by decide +kernel), ⟨inT_at 91 (by decide +kernel), Or.inl rfl⟩⟩
theorem mw_X7_copyFrom : mwOk (mRow m_X7_copyFrom) := ⟨inT_at 326 (by decide +kernel), inT_at 20 (by decide +kernel), ⟨inT_at 324 (by decide +kernel), Or.inr (inT_at 325 (by decide +kernel))⟩⟩
theorem mw_X7_fill : mwOk (mRow m_X7_fill) := ⟨inT_at 559 (by decide +kernel), inT_at 20 (by decide +kernel), ⟨inT_at 557 (by decide +kernel), Or.inr (inT_at 558 (by decide +kernel))⟩⟩
theorem mw_X7_propertyOf : mwOk (mRow m_X7_propertyOf) := ⟨inT_at 479 (by decide +kernel), inT_at 20 (by decide +kernel), ⟨inT_at 477 (by decide +kernel), Or.inr (inT_at 478 (by decide +kernel))⟩⟩
theorem mw_X7_isEmpty : mwOk (mRow m_X7_isEmpty) := ⟨inT_at 483 (by decide +kernel), inT_at 20 (by decide +kernel), ⟨inT_at 481 (by decide +kernel), Or.inr (inT_at 482 (by decide +kernel))⟩⟩
theorem mw_X7_areEmpty : mwOk (mRow m_X7_areEmpty) := ⟨inT_at 376 (by decide +kernel), inT_at 20 (by decide +kernel), ⟨inT_at 374 (by decide +kernel), Or.inr (inT_at 375 (by decide +kernel))⟩⟩
theorem mw_X7_have : mwOk (mRow m_X7_have) := ⟨inT_at 698 (by decide +kernel), inT_at 20 (by decide +kernel), ⟨inT_at 696 (by decide +kernel), Or.inr (inT_at 697 (by decide +kernel))⟩⟩
theorem mw_X7_lowestPriority : mwOk (mRow m_X7_lowestPriority) := ⟨inT_at 687 (by decide +kernel), inT_at 20 (by decide +kernel), ⟨inT_at 686 (by decide +kernel), Or.inr (inT_at 11 (by decide +kernel))⟩⟩
theorem mw_X7_weightThatCounts : mwOk (mRow m_X7_weightThatCounts) := ⟨inT_at 694 (by decide +kernel), inT_at 20 (by decide +kernel), ⟨inT_at 693 (by decide +kernel), Or.inr (inT_at 12 (by decide +kernel))⟩⟩
theorem mw_X7_placeFor : mwOk (mRow m_X7_placeFor) := ⟨inT_at 683 (by decide +kernel), inT_at 20 (by decide +kernel), ⟨inT_at 681 (by decide +kernel), Or.inr (inT_at 682 (by decide +kernel))⟩⟩
theorem mw_X8_init : mwOk (mRow m_X8_init) := ⟨inT_at 39 (by decide +kernel), inT_at 16 (by decide +kernel), ⟨inT_at 38 (by decide +kernel), Or.inl rfl⟩⟩
theorem mw_X8_copyFrom : mwOk (mRow m_X8_copyFrom) := ⟨inT_at 309 (by decide +kernel), inT_at 16 (by decide +kernel), ⟨inT_at 307 (by decide +kernel), Or.inr (inT_at 308 (by decide +kernel))⟩⟩
theorem mw_X8_isServer : mwOk (mRow m_X8_isServer) := ⟨inT_at 426 (by decide +kernel), inT_at 16 (by decide +kernel), ⟨inT_at 424 (by decide +kernel), Or.inr (inT_at 425 (by decide +kernel))⟩⟩
theorem mw_X8_isSite : mwOk (mRow m_X8_isSite) := ⟨inT_at 451 (by decide +kernel), inT_at 16 (by decide +kernel), ⟨inT_at 449 (by decide +kernel), Or.inr (inT_at 450 (by decide +kernel))⟩⟩
theorem mw_X8_isRouter : mwOk (mRow m_X8_isRouter) := ⟨inT_at 491 (by decide +kernel), inT_at 16 (by decide +kernel), ⟨inT_at 489 (by decide +kernel), Or.inr (inT_at 490 (by decide +kernel))⟩⟩
theorem mw_X8_newServer : mwOk (mRow m_X8_newServer) := ⟨inT_at 522 (by decide +kernel), inT_at 16 (by decide +kernel), ⟨inT_at 520 (by decide +kernel), Or.inr (inT_at 521 (by decide +kernel))⟩⟩
theorem mw_X8_newSite : mwOk (mRow m_X8_newSite) := ⟨inT_at 546 (by decide +kernel), inT_at 16 (by decide +kernel), ⟨inT_at 544 (by decide +kernel), Or.inr (inT_at 545 (by decide +kernel))⟩⟩
theorem mw_X8_newRouter : mwOk (mRow m_X8_newRouter) := ⟨inT_at 340 (by decide +kernel), inT_at 16 (by decide +kernel), ⟨inT_at 338 (by decide +kernel), Or.inr (inT_at 339 (by decide +kernel))⟩⟩
theorem mw_X8_fillSlot : mwOk (mRow m_X8_fillSlot) := ⟨inT_at 568 (by decide +kernel), inT_at 16 (by decide +kernel), ⟨inT_at 566 (by decide +kernel), Or.inr (inT_at 567 (by decide +kernel))⟩⟩
theorem mw_X8_vacateSlot : mwOk (mRow m_X8_vacateSlot) := ⟨inT_at 581 (by decide +kernel), inT_at 16 (by decide +kernel), ⟨inT_at 579 (by decide +kernel), Or.inr (inT_at 580 (by decide +kernel))⟩⟩
theorem mw_X8_startRegistration : mwOk (mRow m_X8_startRegistration) := ⟨inT_at 590 (by decide +kernel), inT_at 16 (by decide +kernel), ⟨inT_at 588 (by decide +kernel), Or.inr (inT_at 589 (by decide +kernel))⟩⟩
theorem mw_X8_endRegistration : mwOk (mRow m_X8_endRegistration) := ⟨inT_at 598 (by decide +kernel), inT_at 16 (by decide +kernel), ⟨inT_at 596 (by decide +kernel), Or.inr (inT_at 597 (by decide +kernel))⟩⟩
theorem mw_X8_changeMapLife : mwOk (mRow m_X8_changeMapLife) := ⟨inT_at 607 (by decide +kernel), inT_at 16 (by decide +kernel), ⟨inT_at 605 (by decide +kernel), Or.inr (inT_at 606 (by decide +kernel))⟩⟩
theorem mw_X8_letPass : mwOk (mRow m_X8_letPass) := ⟨inT_at 624 (by decide +kernel), inT_at 16 (by decide +kernel), ⟨inT_at 622 (by decide +kernel), Or.inr (inT_at 623 (by decide +kernel))⟩⟩
theorem mw_X8_emptyCache : mwOk (mRow m_X8_emptyCache) := ⟨inT_at 615 (by decide +kernel), inT_at 16 (by decide +kernel), ⟨inT_at 613 (by decide +kernel), Or.inr (inT_at 614 (by decide +kernel))⟩⟩
theorem mw_X8_sendLetter : mwOk (mRow m_X8_sendLetter) := ⟨inT_at 632 (by decide +kernel), inT_at 16 (by decide +kernel), ⟨inT_at 630 (by decide +kernel), Or.inr (inT_at 631 (by decide +kernel))⟩⟩
theorem mw_X8_placeByMap : mwOk (mRow m_X8_placeByMap) := ⟨inT_at 679 (by decide +kernel), inT_at 16 (by decide +kernel), ⟨inT_at 678 (by decide +kernel), Or.inr (inT_at 10 (by decide +kernel))⟩⟩
theorem mw_X8_ask : mwOk (mRow m_X8_ask) := ⟨inT_at 660 (by decide +kernel), inT_at 16 (by decide +kernel), ⟨inT_at 659 (by decide +kernel), Or.inr (inT_at 8 (by decide +kernel))⟩⟩
theorem mw_X8_goByProxy : mwOk (mRow m_X8_goByProxy) := ⟨inT_at 675 (by decide +kernel), inT_at 16 (by decide +kernel), ⟨inT_at 674 (by decide +kernel), Or.inr (inT_at 9 (by decide +kernel))⟩⟩
theorem mw_X8_homeOf : mwOk (mRow m_X8_homeOf) := ⟨inT_at 396 (by decide +kernel), inT_at 16 (by decide +kernel), ⟨inT_at 394 (by decide +kernel), Or.inr (inT_at 395 (by decide +kernel))⟩⟩
theorem mw_X8_homeOfSite : mwOk (mRow m_X8_homeOfSite) := ⟨inT_at 447 (by decide +kernel), inT_at 16 (by decide +kernel), ⟨inT_at 445 (by decide +kernel), Or.inr (inT_at 446 (by decide +kernel))⟩⟩
theorem mw_X8_hopsTo : mwOk (mRow m_X8_hopsTo) := ⟨inT_at 439 (by decide +kernel), inT_at 16 (by decide +kernel), ⟨inT_at 437 (by decide +kernel), Or.inr (inT_at 438 (by decide +kernel))⟩⟩
theorem mw_X8_answerFor : mwOk (mRow m_X8_answerFor) := ⟨inT_at 392 (by decide +kernel), inT_at 16 (by decide +kernel), ⟨inT_at 390 (by decide +kernel), Or.inr (inT_at 391 (by decide +kernel))⟩⟩
theorem mw_X8_siteEndingAt : mwOk (mRow m_X8_siteEndingAt) := ⟨inT_at 753 (by decide +kernel), inT_at 16 (by decide +kernel), ⟨inT_at 751 (by decide +kernel), Or.inr (inT_at 752 (by decide +kernel))⟩⟩
theorem mw_X8_sitesEndingAheadOf : mwOk (mRow m_X8_sitesEndingAheadOf) := ⟨inT_at 757 (by decide +kernel), inT_at 16 (by decide +kernel), ⟨inT_at 756 (by decide +kernel), Or.inr (inT_at 13 (by decide +kernel))⟩⟩
theorem mw_X8_serverProperty : mwOk (mRow m_X8_serverProperty) := ⟨inT_at 430 (by decide +kernel), inT_at 16 (by decide +kernel), ⟨inT_at 428 (by decide +kernel), Or.inr (inT_at 429 (by decide +kernel))⟩⟩
theorem mw_X8_childrenOf : mwOk (mRow m_X8_childrenOf) := ⟨inT_at 435 (by decide +kernel), inT_at 16 (by decide +kernel), ⟨inT_at 434 (by decide +kernel), Or.inr (inT_at 5 (by decide +kernel))⟩⟩
theorem mw_X8_sitesAtHome : mwOk (mRow m_X8_sitesAtHome) := ⟨inT_at 443 (by decide +kernel), inT_at 16 (by decide +kernel), ⟨inT_at 442 (by decide +kernel), Or.inr (inT_at 6 (by decide +kernel))⟩⟩
theorem mw_X8_siteProperty : mwOk (mRow m_X8_siteProperty) := ⟨inT_at 460 (by decide +kernel), inT_at 16 (by decide +kernel), ⟨inT_at 458 (by decide +kernel), Or.inr (inT_at 459 (by decide +kernel))⟩⟩
theorem mw_X8_mapsOf : mwOk (mRow m_X8_mapsOf) := ⟨inT_at 464 (by decide +kernel), inT_at 16 (by decide +kernel), ⟨inT_at 463 (by decide +kernel), Or.inr (inT_at 7 (by decide +kernel))⟩⟩
theorem mw_X8_totalOf : mwOk (mRow m_X8_totalOf) := ⟨inT_at 360 (by decide +kernel), inT_at 16 (by decide +kernel), ⟨inT_at 358 (by decide +kernel), Or.inr (inT_at 359 (by decide +kernel))⟩⟩
theorem mw_X8_sitesUp : mwOk (mRow m_X8_sitesUp) := ⟨inT_at 364 (by decide +kernel), inT_at 16 (by decide +kernel), ⟨inT_at 363 (by decide +kernel), Or.inr (inT_at 2 (by decide +kernel))⟩⟩
theorem mw_X8_sumOverRouters : mwOk (mRow m_X8_sumOverRouters) := ⟨inT_at 380 (by decide +kernel), inT_at 16 (by decide +kernel), ⟨inT_at 379 (by decide +kernel), Or.inr (inT_at 3 (by decide +kernel))⟩⟩
theorem mw_X8_namesWithAnswer : mwOk (mRow m_X8_namesWithAnswer) := ⟨inT_at 388 (by decide +kernel), inT_at 16 (by decide +kernel), ⟨inT_at 387 (by decide +kernel), Or.inr (inT_at 4 (by decide +kernel))⟩⟩
theorem mw_X9_init : mwOk (mRow m_X9_init) := ⟨inT_at 31 (by decide +kernel), inT_at 15 (by decide +kernel), ⟨inT_at 30 (by decide +kernel), Or.inl rfl⟩⟩
theorem mw_X9_addServer : mwOk (mRow m_X9_addServer) := ⟨inT_at 518 (by decide +kernel), inT_at 15 (by decide +kernel), ⟨inT_at 516 (by decide +kernel), Or.inr (inT_at 517 (by decide +kernel))⟩⟩
theorem mw_X9_addSite : mwOk (mRow m_X9_addSite) := ⟨inT_at 542 (by decide +kernel), inT_at 15 (by decide +kernel), ⟨inT_at 540 (by decide +kernel), Or.inr (inT_at 541 (by decide +kernel))⟩⟩
theorem mw_X9_addRouter : mwOk (mRow m_X9_addRouter) := ⟨inT_at 294 (by decide +kernel), inT_at 15 (by decide +kernel), ⟨inT_at 292 (by decide +kernel), Or.inr (inT_at 293 (by decide +kernel))⟩⟩
theorem mw_X9_setSlot : mwOk (mRow m_X9_setSlot) := ⟨inT_at 564 (by decide +kernel), inT_at 15 (by decide +kernel), ⟨inT_at 562 (by decide +kernel), Or.inr (inT_at 563 (by decide +kernel))⟩⟩
theorem mw_X9_emptySlot : mwOk (mRow m_X9_emptySlot) := ⟨inT_at 577 (by decide +kernel), inT_at 15 (by decide +kernel), ⟨inT_at 575 (by decide +kernel), Or.inr (inT_at 576 (by decide +kernel))⟩⟩
theorem mw_X9_register : mwOk (mRow m_X9_register) := ⟨inT_at 586 (by decide +kernel), inT_at 15 (by decide +kernel), ⟨inT_at 584 (by decide +kernel), Or.inr (inT_at 585 (by decide +kernel))⟩⟩
theorem mw_X9_unregister : mwOk (mRow m_X9_unregister) := ⟨inT_at 594 (by decide +kernel), inT_at 15 (by decide +kernel), ⟨inT_at 592 (by decide +kernel), Or.inr (inT_at 593 (by decide +kernel))⟩⟩
theorem mw_X9_setMapLife : mwOk (mRow m_X9_setMapLife) := ⟨inT_at 603 (by decide +kernel), inT_at 15 (by decide +kernel), ⟨inT_at 601 (by decide +kernel), Or.inr (inT_at 602 (by decide +kernel))⟩⟩
theorem mw_X9_send : mwOk (mRow m_X9_send) := ⟨inT_at 628 (by decide +kernel), inT_at 15 (by decide +kernel), ⟨inT_at 626 (by decide +kernel), Or.inr (inT_at 627 (by decide +kernel))⟩⟩
theorem mw_X9_pass : mwOk (mRow m_X9_pass) := ⟨inT_at 620 (by decide +kernel), inT_at 15 (by decide +kernel), ⟨inT_at 618 (by decide +kernel), Or.inr (inT_at 619 (by decide +kernel))⟩⟩
theorem mw_X9_forget : mwOk (mRow m_X9_forget) := ⟨inT_at 611 (by decide +kernel), inT_at 15 (by decide +kernel), ⟨inT_at 609 (by decide +kernel), Or.inr (inT_at 610 (by decide +kernel))⟩⟩
theorem mw_X9_undo : mwOk (mRow m_X9_undo) := ⟨inT_at 735 (by decide +kernel), inT_at 15 (by decide +kernel), ⟨inT_at 733 (by decide +kernel), Or.inr (inT_at 734 (by decide +kernel))⟩⟩
theorem mw_X9_save : mwOk (mRow m_X9_save) := ⟨inT_at 767 (by decide +kernel), inT_at 15 (by decide +kernel), ⟨inT_at 765 (by decide +kernel), Or.inr (inT_at 766 (by decide +kernel))⟩⟩
theorem mw_X9_restore : mwOk (mRow m_X9_restore) := ⟨inT_at 708 (by decide +kernel), inT_at 15 (by decide +kernel), ⟨inT_at 706 (by decide +kernel), Or.inr (inT_at 707 (by decide +kernel))⟩⟩
theorem mw_X9_server : mwOk (mRow m_X9_server) := ⟨inT_at 422 (by decide +kernel), inT_at 15 (by decide +kernel), ⟨inT_at 420 (by decide +kernel), Or.inr (inT_at 421 (by decide +kernel))⟩⟩
theorem mw_X9_site : mwOk (mRow m_X9_site) := ⟨inT_at 455 (by decide +kernel), inT_at 15 (by decide +kernel), ⟨inT_at 453 (by decide +kernel), Or.inr (inT_at 454 (by decide +kernel))⟩⟩
theorem mw_X9_slot : mwOk (mRow m_X9_slot) := ⟨inT_at 472 (by decide +kernel), inT_at 15 (by decide +kernel), ⟨inT_at 470 (by decide +kernel), Or.inr (inT_at 471 (by decide +kernel))⟩⟩
theorem mw_X9_router : mwOk (mRow m_X9_router) := ⟨inT_at 487 (by decide +kernel), inT_at 15 (by decide +kernel), ⟨inT_at 485 (by decide +kernel), Or.inr (inT_at 486 (by decide +kernel))⟩⟩
theorem mw_X9_map : mwOk (mRow m_X9_map) := ⟨inT_at 496 (by decide +kernel), inT_at 15 (by decide +kernel), ⟨inT_at 494 (by decide +kernel), Or.inr (inT_at 495 (by decide +kernel))⟩⟩
theorem mw_X9_answer : mwOk (mRow m_X9_answer) := ⟨inT_at 719 (by decide +kernel), inT_at 15 (by decide +kernel), ⟨inT_at 717 (by decide +kernel), Or.inr (inT_at 718 (by decide +kernel))⟩⟩
theorem mw_X9_endingNext : mwOk (mRow m_X9_endingNext) := ⟨inT_at 749 (by decide +kernel), inT_at 15 (by decide +kernel), ⟨inT_at 747 (by decide +kernel), Or.inr (inT_at 748 (by decide +kernel))⟩⟩
theorem mw_X9_total : mwOk (mRow m_X9_total) := ⟨inT_at 356 (by decide +kernel), inT_at 15 (by decide +kernel), ⟨inT_at 354 (by decide +kernel), Or.inr (inT_at 355 (by decide +kernel))⟩⟩
theorem mw_X9_wouldReach : mwOk (mRow m_X9_wouldReach) := ⟨inT_at 724 (by decide +kernel), inT_at 15 (by decide +kernel), ⟨inT_at 722 (by decide +kernel), Or.inr (inT_at 723 (by decide +kernel))⟩⟩
theorem mw_X9_wouldAsk : mwOk (mRow m_X9_wouldAsk) := ⟨inT_at 728 (by decide +kernel), inT_at 15 (by decide +kernel), ⟨inT_at 726 (by decide +kernel), Or.inr (inT_at 727 (by decide +kernel))⟩⟩
theorem mw_X9_recorded : mwOk (mRow m_X9_recorded) := ⟨inT_at 348 (by decide +kernel), inT_at 15 (by decide +kernel), ⟨inT_at 347 (by decide +kernel), Or.inr (inT_at 1 (by decide +kernel))⟩⟩
theorem mw_X9_isSave : mwOk (mRow m_X9_isSave) := ⟨inT_at 711 (by decide +kernel), inT_at 15 (by decide +kernel), inT_at 710 (by decide +kernel)⟩
theorem mw_X9_isSlot : mwOk (mRow m_X9_isSlot) := ⟨inT_at 475 (by decide +kernel), inT_at 15 (by decide +kernel), inT_at 474 (by decide +kernel)⟩
theorem mw_X9_isName : mwOk (mRow m_X9_isName) := ⟨inT_at 534 (by decide +kernel), inT_at 15 (by decide +kernel), inT_at 533 (by decide +kernel)⟩
theorem mw_X9_isFlow : mwOk (mRow m_X9_isFlow) := ⟨inT_at 636 (by decide +kernel), inT_at 15 (by decide +kernel), inT_at 635 (by decide +kernel)⟩
theorem mw_X9_isPlaceOfSlot : mwOk (mRow m_X9_isPlaceOfSlot) := ⟨inT_at 572 (by decide +kernel), inT_at 15 (by decide +kernel), inT_at 571 (by decide +kernel)⟩
theorem mw_X9_isBlock : mwOk (mRow m_X9_isBlock) := ⟨inT_at 525 (by decide +kernel), inT_at 15 (by decide +kernel), inT_at 524 (by decide +kernel)⟩
theorem mw_J6_bitCount_0f7a4 : mwOk (mRow m_J6_bitCount_0f7a4) := ⟨inT_at 528 (by decide +kernel), inT_at 26 (by decide +kernel), inT_at 527 (by decide +kernel)⟩
theorem mw_J9_floorMod_7cf53 : mwOk (mRow m_J9_floorMod_7cf53) := ⟨inT_at 305 (by decide +kernel), inT_at 25 (by decide +kernel), inT_at 304 (by decide +kernel)⟩
theorem mw_L_cell : mwOk (mRow m_L_cell) := ⟨inT_at 408 (by decide +kernel), inT_at 14 (by decide +kernel), inT_at 407 (by decide +kernel)⟩
theorem mw_L_up : mwOk (mRow m_L_up) := ⟨inT_at 412 (by decide +kernel), inT_at 14 (by decide +kernel), inT_at 411 (by decide +kernel)⟩
theorem mw_L_size : mwOk (mRow m_L_size) := ⟨inT_at 514 (by decide +kernel), inT_at 14 (by decide +kernel), inT_at 513 (by decide +kernel)⟩
theorem mw_L_any : mwOk (mRow m_L_any) := ⟨inT_at 704 (by decide +kernel), inT_at 14 (by decide +kernel), inT_at 703 (by decide +kernel)⟩
theorem mw_L_turn : mwOk (mRow m_L_turn) := ⟨inT_at 511 (by decide +kernel), inT_at 14 (by decide +kernel), inT_at 510 (by decide +kernel)⟩
theorem mw_L_name : mwOk (mRow m_L_name) := ⟨inT_at 701 (by decide +kernel), inT_at 14 (by decide +kernel), inT_at 700 (by decide +kernel)⟩
theorem mw_L_hasPlace : mwOk (mRow m_L_hasPlace) := ⟨inT_at 731 (by decide +kernel), inT_at 14 (by decide +kernel), inT_at 730 (by decide +kernel)⟩
theorem mw_L_areRouters : mwOk (mRow m_L_areRouters) := ⟨inT_at 742 (by decide +kernel), inT_at 14 (by decide +kernel), inT_at 741 (by decide +kernel)⟩
theorem mw_L_areEnding : mwOk (mRow m_L_areEnding) := ⟨inT_at 745 (by decide +kernel), inT_at 14 (by decide +kernel), inT_at 744 (by decide +kernel)⟩
theorem mw_L_view : mwOk (mRow m_L_view) := ⟨inT_at 416 (by decide +kernel), inT_at 14 (by decide +kernel), inT_at 415 (by decide +kernel)⟩
theorem mw_L_isSent : mwOk (mRow m_L_isSent) := ⟨inT_at 715 (by decide +kernel), inT_at 14 (by decide +kernel), inT_at 714 (by decide +kernel)⟩
theorem mw_L_isUndone : mwOk (mRow m_L_isUndone) := ⟨inT_at 760 (by decide +kernel), inT_at 14 (by decide +kernel), inT_at 759 (by decide +kernel)⟩
theorem mw_L_isSaved : mwOk (mRow m_L_isSaved) := ⟨inT_at 763 (by decide +kernel), inT_at 14 (by decide +kernel), inT_at 762 (by decide +kernel)⟩
/-- links of methods: the class that holds the link, its entry, the method, nest or not -/
def mlT : List (Nat × Nat × Nat × Nat) := [(24, 121, 80, 0), (9, 9, 46, 0), (8, 41, 2, 0), (8, 48, 18, 0), (9, 21, 13, 0), (3, 17, 46, 0), (24, 69, 83, 0), (9, 41, 15, 0), (3, 31, 14, 0), (3, 22, 113, 0), (3, 35, 47, 0), (8, 49, 30, 0), (5, 22, 3, 0), (8, 56, 33, 0), (6, 43, 3, 0), (6, 47, 37, 0), (8, 62, 20, 0), (4, 37, 10, 0), (2, 28, 3, 0), (2, 33, 37, 0), (9, 56, 53, 0), (8, 96, 19, 0), (9, 49, 105, 0), (9, 202, 16, 0), (24, 13, 102, 0), (9, 190, 76, 0), (8, 250, 77, 0), (8, 196, 35, 0), (6, 50, 34, 0), (6, 54, 41, 0), (8, 254, 78, 0), (8, 260, 22, 0), (8, 257, 79, 0), (8, 216, 68, 0), (8, 209, 65, 0), (8, 76, 6, 0), (8, 229, 5, 0), (1, 16, 6, 0), (24, 122, 114, 0), (24, 61, 115, 0), (24, 19, 95, 0), (9, 122, 48, 0), (9, 125, 71, 0), (8, 68, 48, 0), (8, 235, 72, 0), (8, 213, 67, 0), (8, 238, 73, 0), (8, 241, 66, 0), (8, 98, 49, 0), (24, 23, 96, 0), (9, 128, 49, 0), (9, 131, 74, 0), (8, 244, 75, 0), (8, 247, 26, 0), (24, 26, 97, 0), (9, 134, 107, 0), (9, 147, 39, 0), (7, 19, 40, 0), (24, 30, 98, 0), (9, 152, 50, 0), (9, 159, 22, 0), (24, 33, 99, 0), (9, 164, 21, 0), (9, 171, 12, 0), (2, 51, 11, 0), (24, 114, 118, 0), (24, 66, 116, 0), (24, 36, 81, 0), (9, 45, 51, 0), (9, 217, 112, 0), (9, 175, 108, 0), (8, 85, 7, 0), (24, 39, 82, 0), (9, 53, 52, 0), (8, 89, 4, 0), (8, 92, 32, 0), (6, 25, 2, 0), (6, 39, 38, 0), (24, 42, 84, 0), (9, 60, 54, 0), (8, 111, 38, 0), (24, 46, 85, 0), (9, 64, 55, 0), (8, 120, 40, 0), (24, 73, 86, 0), (9, 68, 56, 0), (24, 76, 87, 0), (9, 71, 57, 0), (8, 129, 34, 0), (24, 58, 88, 0), (9, 74, 58, 0), (24, 79, 91, 0), (9, 83, 60, 0), (8, 132, 50, 0), (24, 52, 90, 0), (9, 80, 59, 0), (24, 49, 89, 0), (9, 77, 61, 0), (8, 147, 25, 0), (4, 41, 21, 0), (4, 45, 11, 0), (4, 48, 24, 0), (8, 151, 27, 0), (4, 59, 5, 0), (8, 155, 21, 0), (8, 168, 23, 0), (8, 171, 63, 0), (8, 219, 28, 0), (4, 67, 26, 0), (4, 71, 9, 0), (4, 75, 23, 0), (8, 175, 24, 0), (8, 178, 64, 0), (8, 182, 62, 0), (8, 190, 45, 0), (7, 28, 43, 0), (7, 32, 44, 0), (8, 199, 42, 0), (24, 82, 119, 0), (24, 86, 117, 0), (24, 55, 94, 0), (9, 112, 106, 0), (9, 116, 47, 0), (24, 94, 100, 0), (9, 178, 68, 0), (24, 97, 103, 0), (24, 101, 104, 0), (24, 104, 120, 0), (24, 108, 92, 0), (9, 109, 17, 0), (24, 137, 121, 0), (24, 141, 122, 0), (24, 111, 101, 0), (9, 187, 69, 0), (8, 232, 70, 0), (24, 118, 93, 0), (8, 36, 29, 1), (5, 11, 1, 1), (8, 47, 31, 1), (6, 11, 1, 1), (6, 20, 36, 1), (4, 17, 8, 1), (2, 11, 1, 1), (2, 20, 36, 1), (9, 36, 0, 1), (8, 72, 111, 1), (7, 15, 107, 1), (8, 101, 107, 1), (8, 104, 110, 1), (8, 138, 108, 1), (8, 141, 109, 1)]
def mlOk (q : Nat × Nat × Nat × Nat) : Prop := mwOk (mRow q.2.2.1) ∧ mhOk (mRow q.2.2.1) ∧ (if q.2.2.2 = 0 then inT (.methodLink (cnm q.1) q.2.1 (mRow q.2.2.1).1) else inT (.methodLinkNest (cnm q.1) q.2.1 (mRow q.2.2.1).1 RX9))
theorem mh_at {m : Nat} (h : m < mTab.length) : mhOk (mRow m) := by
  unfold mRow
  rw [List.getD_eq_getElem?_getD, List.getElem?_eq_getElem h]
  exact mh_all _ (List.getElem_mem h)
theorem ml_0 : mlOk (24, 121, 80, 0) := ⟨mw_X9_init, mh_at (by decide +kernel), inT_at 29 (by decide +kernel)⟩
theorem ml_1 : mlOk (9, 9, 46, 0) := ⟨mw_X8_init, mh_at (by decide +kernel), inT_at 37 (by decide +kernel)⟩
theorem ml_2 : mlOk (8, 41, 2, 0) := ⟨mw_X1_become, mh_at (by decide +kernel), inT_at 77 (by decide +kernel)⟩
theorem ml_3 : mlOk (8, 48, 18, 0) := ⟨mw_X4_init, mh_at (by decide +kernel), inT_at 125 (by decide +kernel)⟩
theorem ml_4 : mlOk (9, 21, 13, 0) := ⟨mw_X3_init, mh_at (by decide +kernel), inT_at 226 (by decide +kernel)⟩
theorem ml_5 : mlOk (3, 17, 46, 0) := ⟨mw_X8_init, mh_at (by decide +kernel), inT_at 232 (by decide +kernel)⟩
theorem ml_6 : mlOk (24, 69, 83, 0) := ⟨mw_X9_addRouter, mh_at (by decide +kernel), inT_at 291 (by decide +kernel)⟩
theorem ml_7 : mlOk (9, 41, 15, 0) := ⟨mw_X3_draft, mh_at (by decide +kernel), inT_at 295 (by decide +kernel)⟩
theorem ml_8 : mlOk (3, 31, 14, 0) := ⟨mw_X3_row, mh_at (by decide +kernel), inT_at 299 (by decide +kernel)⟩
theorem ml_9 : mlOk (3, 22, 113, 0) := ⟨mw_J9_floorMod_7cf53, mh_at (by decide +kernel), inT_at 303 (by decide +kernel)⟩
theorem ml_10 : mlOk (3, 35, 47, 0) := ⟨mw_X8_copyFrom, mh_at (by decide +kernel), inT_at 306 (by decide +kernel)⟩
theorem ml_11 : mlOk (8, 49, 30, 0) := ⟨mw_X5_copyFrom, mh_at (by decide +kernel), inT_at 310 (by decide +kernel)⟩
theorem ml_12 : mlOk (5, 22, 3, 0) := ⟨mw_X1_copyFrom, mh_at (by decide +kernel), inT_at 314 (by decide +kernel)⟩
theorem ml_13 : mlOk (8, 56, 33, 0) := ⟨mw_X6_copyFrom, mh_at (by decide +kernel), inT_at 318 (by decide +kernel)⟩
theorem ml_14 : mlOk (6, 43, 3, 0) := ⟨mw_X1_copyFrom, mh_at (by decide +kernel), inT_at 322 (by decide +kernel)⟩
theorem ml_15 : mlOk (6, 47, 37, 0) := ⟨mw_X7_copyFrom, mh_at (by decide +kernel), inT_at 323 (by decide +kernel)⟩
theorem ml_16 : mlOk (8, 62, 20, 0) := ⟨mw_X4_copyFrom, mh_at (by decide +kernel), inT_at 327 (by decide +kernel)⟩
theorem ml_17 : mlOk (4, 37, 10, 0) := ⟨mw_X2_copyFrom, mh_at (by decide +kernel), inT_at 331 (by decide +kernel)⟩
theorem ml_18 : mlOk (2, 28, 3, 0) := ⟨mw_X1_copyFrom, mh_at (by decide +kernel), inT_at 335 (by decide +kernel)⟩
theorem ml_19 : mlOk (2, 33, 37, 0) := ⟨mw_X7_copyFrom, mh_at (by decide +kernel), inT_at 336 (by decide +kernel)⟩
theorem ml_20 : mlOk (9, 56, 53, 0) := ⟨mw_X8_newRouter, mh_at (by decide +kernel), inT_at 337 (by decide +kernel)⟩
theorem ml_21 : mlOk (8, 96, 19, 0) := ⟨mw_X4_start, mh_at (by decide +kernel), inT_at 341 (by decide +kernel)⟩
theorem ml_22 : mlOk (9, 49, 105, 0) := ⟨mw_X9_recorded, mh_at (by decide +kernel), inT_at 345 (by decide +kernel)⟩
theorem ml_23 : mlOk (9, 202, 16, 0) := ⟨mw_X3_keepDraft, mh_at (by decide +kernel), inT_at 349 (by decide +kernel)⟩
theorem ml_24 : mlOk (24, 13, 102, 0) := ⟨mw_X9_total, mh_at (by decide +kernel), inT_at 353 (by decide +kernel)⟩
theorem ml_25 : mlOk (9, 190, 76, 0) := ⟨mw_X8_totalOf, mh_at (by decide +kernel), inT_at 357 (by decide +kernel)⟩
theorem ml_26 : mlOk (8, 250, 77, 0) := ⟨mw_X8_sitesUp, mh_at (by decide +kernel), inT_at 361 (by decide +kernel)⟩
theorem ml_27 : mlOk (8, 196, 35, 0) := ⟨mw_X6_isUp, mh_at (by decide +kernel), inT_at 365 (by decide +kernel)⟩
theorem ml_28 : mlOk (6, 50, 34, 0) := ⟨mw_X6_isRegistered, mh_at (by decide +kernel), inT_at 369 (by decide +kernel)⟩
theorem ml_29 : mlOk (6, 54, 41, 0) := ⟨mw_X7_areEmpty, mh_at (by decide +kernel), inT_at 373 (by decide +kernel)⟩
theorem ml_30 : mlOk (8, 254, 78, 0) := ⟨mw_X8_sumOverRouters, mh_at (by decide +kernel), inT_at 377 (by decide +kernel)⟩
theorem ml_31 : mlOk (8, 260, 22, 0) := ⟨mw_X4_property, mh_at (by decide +kernel), inT_at 381 (by decide +kernel)⟩
theorem ml_32 : mlOk (8, 257, 79, 0) := ⟨mw_X8_namesWithAnswer, mh_at (by decide +kernel), inT_at 385 (by decide +kernel)⟩
theorem ml_33 : mlOk (8, 216, 68, 0) := ⟨mw_X8_answerFor, mh_at (by decide +kernel), inT_at 389 (by decide +kernel)⟩
theorem ml_34 : mlOk (8, 209, 65, 0) := ⟨mw_X8_homeOf, mh_at (by decide +kernel), inT_at 393 (by decide +kernel)⟩
theorem ml_35 : mlOk (8, 76, 6, 0) := ⟨mw_X1_holds, mh_at (by decide +kernel), inT_at 397 (by decide +kernel)⟩
theorem ml_36 : mlOk (8, 229, 5, 0) := ⟨mw_X1_has, mh_at (by decide +kernel), inT_at 401 (by decide +kernel)⟩
theorem ml_37 : mlOk (1, 16, 6, 0) := ⟨mw_X1_holds, mh_at (by decide +kernel), inT_at 405 (by decide +kernel)⟩
theorem ml_38 : mlOk (24, 122, 114, 0) := ⟨mw_L_cell, mh_at (by decide +kernel), inT_at 406 (by decide +kernel)⟩
theorem ml_39 : mlOk (24, 61, 115, 0) := ⟨mw_L_up, mh_at (by decide +kernel), inT_at 410 (by decide +kernel)⟩
theorem ml_40 : mlOk (24, 19, 95, 0) := ⟨mw_X9_server, mh_at (by decide +kernel), inT_at 419 (by decide +kernel)⟩
theorem ml_41 : mlOk (9, 122, 48, 0) := ⟨mw_X8_isServer, mh_at (by decide +kernel), inT_at 423 (by decide +kernel)⟩
theorem ml_42 : mlOk (9, 125, 71, 0) := ⟨mw_X8_serverProperty, mh_at (by decide +kernel), inT_at 427 (by decide +kernel)⟩
theorem ml_43 : mlOk (8, 68, 48, 0) := ⟨mw_X8_isServer, mh_at (by decide +kernel), inT_at 431 (by decide +kernel)⟩
theorem ml_44 : mlOk (8, 235, 72, 0) := ⟨mw_X8_childrenOf, mh_at (by decide +kernel), inT_at 432 (by decide +kernel)⟩
theorem ml_45 : mlOk (8, 213, 67, 0) := ⟨mw_X8_hopsTo, mh_at (by decide +kernel), inT_at 436 (by decide +kernel)⟩
theorem ml_46 : mlOk (8, 238, 73, 0) := ⟨mw_X8_sitesAtHome, mh_at (by decide +kernel), inT_at 440 (by decide +kernel)⟩
theorem ml_47 : mlOk (8, 241, 66, 0) := ⟨mw_X8_homeOfSite, mh_at (by decide +kernel), inT_at 444 (by decide +kernel)⟩
theorem ml_48 : mlOk (8, 98, 49, 0) := ⟨mw_X8_isSite, mh_at (by decide +kernel), inT_at 448 (by decide +kernel)⟩
theorem ml_49 : mlOk (24, 23, 96, 0) := ⟨mw_X9_site, mh_at (by decide +kernel), inT_at 452 (by decide +kernel)⟩
theorem ml_50 : mlOk (9, 128, 49, 0) := ⟨mw_X8_isSite, mh_at (by decide +kernel), inT_at 456 (by decide +kernel)⟩
theorem ml_51 : mlOk (9, 131, 74, 0) := ⟨mw_X8_siteProperty, mh_at (by decide +kernel), inT_at 457 (by decide +kernel)⟩
theorem ml_52 : mlOk (8, 244, 75, 0) := ⟨mw_X8_mapsOf, mh_at (by decide +kernel), inT_at 461 (by decide +kernel)⟩
theorem ml_53 : mlOk (8, 247, 26, 0) := ⟨mw_X4_placeOfSite, mh_at (by decide +kernel), inT_at 465 (by decide +kernel)⟩
theorem ml_54 : mlOk (24, 26, 97, 0) := ⟨mw_X9_slot, mh_at (by decide +kernel), inT_at 469 (by decide +kernel)⟩
theorem ml_55 : mlOk (9, 134, 107, 0) := ⟨mw_X9_isSlot, mh_at (by decide +kernel), inT_at 473 (by decide +kernel)⟩
theorem ml_56 : mlOk (9, 147, 39, 0) := ⟨mw_X7_propertyOf, mh_at (by decide +kernel), inT_at 476 (by decide +kernel)⟩
theorem ml_57 : mlOk (7, 19, 40, 0) := ⟨mw_X7_isEmpty, mh_at (by decide +kernel), inT_at 480 (by decide +kernel)⟩
theorem ml_58 : mlOk (24, 30, 98, 0) := ⟨mw_X9_router, mh_at (by decide +kernel), inT_at 484 (by decide +kernel)⟩
theorem ml_59 : mlOk (9, 152, 50, 0) := ⟨mw_X8_isRouter, mh_at (by decide +kernel), inT_at 488 (by decide +kernel)⟩
theorem ml_60 : mlOk (9, 159, 22, 0) := ⟨mw_X4_property, mh_at (by decide +kernel), inT_at 492 (by decide +kernel)⟩
theorem ml_61 : mlOk (24, 33, 99, 0) := ⟨mw_X9_map, mh_at (by decide +kernel), inT_at 493 (by decide +kernel)⟩
theorem ml_62 : mlOk (9, 164, 21, 0) := ⟨mw_X4_isPlace, mh_at (by decide +kernel), inT_at 497 (by decide +kernel)⟩
theorem ml_63 : mlOk (9, 171, 12, 0) := ⟨mw_X2_property, mh_at (by decide +kernel), inT_at 501 (by decide +kernel)⟩
theorem ml_64 : mlOk (2, 51, 11, 0) := ⟨mw_X2_isHolding, mh_at (by decide +kernel), inT_at 505 (by decide +kernel)⟩
theorem ml_65 : mlOk (24, 114, 118, 0) := ⟨mw_L_turn, mh_at (by decide +kernel), inT_at 509 (by decide +kernel)⟩
theorem ml_66 : mlOk (24, 66, 116, 0) := ⟨mw_L_size, mh_at (by decide +kernel), inT_at 512 (by decide +kernel)⟩
theorem ml_67 : mlOk (24, 36, 81, 0) := ⟨mw_X9_addServer, mh_at (by decide +kernel), inT_at 515 (by decide +kernel)⟩
theorem ml_68 : mlOk (9, 45, 51, 0) := ⟨mw_X8_newServer, mh_at (by decide +kernel), inT_at 519 (by decide +kernel)⟩
theorem ml_69 : mlOk (9, 217, 112, 0) := ⟨mw_J6_bitCount_0f7a4, mh_at (by decide +kernel), inT_at 526 (by decide +kernel)⟩
theorem ml_70 : mlOk (9, 175, 108, 0) := ⟨mw_X9_isName, mh_at (by decide +kernel), inT_at 532 (by decide +kernel)⟩
theorem ml_71 : mlOk (8, 85, 7, 0) := ⟨mw_X1_meets, mh_at (by decide +kernel), inT_at 535 (by decide +kernel)⟩
theorem ml_72 : mlOk (24, 39, 82, 0) := ⟨mw_X9_addSite, mh_at (by decide +kernel), inT_at 539 (by decide +kernel)⟩
theorem ml_73 : mlOk (9, 53, 52, 0) := ⟨mw_X8_newSite, mh_at (by decide +kernel), inT_at 543 (by decide +kernel)⟩
theorem ml_74 : mlOk (8, 89, 4, 0) := ⟨mw_X1_isAt, mh_at (by decide +kernel), inT_at 547 (by decide +kernel)⟩
theorem ml_75 : mlOk (8, 92, 32, 0) := ⟨mw_X6_start, mh_at (by decide +kernel), inT_at 551 (by decide +kernel)⟩
theorem ml_76 : mlOk (6, 25, 2, 0) := ⟨mw_X1_become, mh_at (by decide +kernel), inT_at 555 (by decide +kernel)⟩
theorem ml_77 : mlOk (6, 39, 38, 0) := ⟨mw_X7_fill, mh_at (by decide +kernel), inT_at 556 (by decide +kernel)⟩
theorem ml_78 : mlOk (24, 42, 84, 0) := ⟨mw_X9_setSlot, mh_at (by decide +kernel), inT_at 561 (by decide +kernel)⟩
theorem ml_79 : mlOk (9, 60, 54, 0) := ⟨mw_X8_fillSlot, mh_at (by decide +kernel), inT_at 565 (by decide +kernel)⟩
theorem ml_80 : mlOk (8, 111, 38, 0) := ⟨mw_X7_fill, mh_at (by decide +kernel), inT_at 573 (by decide +kernel)⟩
theorem ml_81 : mlOk (24, 46, 85, 0) := ⟨mw_X9_emptySlot, mh_at (by decide +kernel), inT_at 574 (by decide +kernel)⟩
theorem ml_82 : mlOk (9, 64, 55, 0) := ⟨mw_X8_vacateSlot, mh_at (by decide +kernel), inT_at 578 (by decide +kernel)⟩
theorem ml_83 : mlOk (8, 120, 40, 0) := ⟨mw_X7_isEmpty, mh_at (by decide +kernel), inT_at 582 (by decide +kernel)⟩
theorem ml_84 : mlOk (24, 73, 86, 0) := ⟨mw_X9_register, mh_at (by decide +kernel), inT_at 583 (by decide +kernel)⟩
theorem ml_85 : mlOk (9, 68, 56, 0) := ⟨mw_X8_startRegistration, mh_at (by decide +kernel), inT_at 587 (by decide +kernel)⟩
theorem ml_86 : mlOk (24, 76, 87, 0) := ⟨mw_X9_unregister, mh_at (by decide +kernel), inT_at 591 (by decide +kernel)⟩
theorem ml_87 : mlOk (9, 71, 57, 0) := ⟨mw_X8_endRegistration, mh_at (by decide +kernel), inT_at 595 (by decide +kernel)⟩
theorem ml_88 : mlOk (8, 129, 34, 0) := ⟨mw_X6_isRegistered, mh_at (by decide +kernel), inT_at 599 (by decide +kernel)⟩
theorem ml_89 : mlOk (24, 58, 88, 0) := ⟨mw_X9_setMapLife, mh_at (by decide +kernel), inT_at 600 (by decide +kernel)⟩
theorem ml_90 : mlOk (9, 74, 58, 0) := ⟨mw_X8_changeMapLife, mh_at (by decide +kernel), inT_at 604 (by decide +kernel)⟩
theorem ml_91 : mlOk (24, 79, 91, 0) := ⟨mw_X9_forget, mh_at (by decide +kernel), inT_at 608 (by decide +kernel)⟩
theorem ml_92 : mlOk (9, 83, 60, 0) := ⟨mw_X8_emptyCache, mh_at (by decide +kernel), inT_at 612 (by decide +kernel)⟩
theorem ml_93 : mlOk (8, 132, 50, 0) := ⟨mw_X8_isRouter, mh_at (by decide +kernel), inT_at 616 (by decide +kernel)⟩
theorem ml_94 : mlOk (24, 52, 90, 0) := ⟨mw_X9_pass, mh_at (by decide +kernel), inT_at 617 (by decide +kernel)⟩
theorem ml_95 : mlOk (9, 80, 59, 0) := ⟨mw_X8_letPass, mh_at (by decide +kernel), inT_at 621 (by decide +kernel)⟩
theorem ml_96 : mlOk (24, 49, 89, 0) := ⟨mw_X9_send, mh_at (by decide +kernel), inT_at 625 (by decide +kernel)⟩
theorem ml_97 : mlOk (9, 77, 61, 0) := ⟨mw_X8_sendLetter, mh_at (by decide +kernel), inT_at 629 (by decide +kernel)⟩
theorem ml_98 : mlOk (8, 147, 25, 0) := ⟨mw_X4_dropEnded, mh_at (by decide +kernel), inT_at 637 (by decide +kernel)⟩
theorem ml_99 : mlOk (4, 41, 21, 0) := ⟨mw_X4_isPlace, mh_at (by decide +kernel), inT_at 641 (by decide +kernel)⟩
theorem ml_100 : mlOk (4, 45, 11, 0) := ⟨mw_X2_isHolding, mh_at (by decide +kernel), inT_at 642 (by decide +kernel)⟩
theorem ml_101 : mlOk (4, 48, 24, 0) := ⟨mw_X4_drop, mh_at (by decide +kernel), inT_at 643 (by decide +kernel)⟩
theorem ml_102 : mlOk (8, 151, 27, 0) := ⟨mw_X4_placeOfSmallest, mh_at (by decide +kernel), inT_at 647 (by decide +kernel)⟩
theorem ml_103 : mlOk (4, 59, 5, 0) := ⟨mw_X1_has, mh_at (by decide +kernel), inT_at 651 (by decide +kernel)⟩
theorem ml_104 : mlOk (8, 155, 21, 0) := ⟨mw_X4_isPlace, mh_at (by decide +kernel), inT_at 652 (by decide +kernel)⟩
theorem ml_105 : mlOk (8, 168, 23, 0) := ⟨mw_X4_moveToFront, mh_at (by decide +kernel), inT_at 653 (by decide +kernel)⟩
theorem ml_106 : mlOk (8, 171, 63, 0) := ⟨mw_X8_ask, mh_at (by decide +kernel), inT_at 657 (by decide +kernel)⟩
theorem ml_107 : mlOk (8, 219, 28, 0) := ⟨mw_X4_addMap, mh_at (by decide +kernel), inT_at 661 (by decide +kernel)⟩
theorem ml_108 : mlOk (4, 67, 26, 0) := ⟨mw_X4_placeOfSite, mh_at (by decide +kernel), inT_at 665 (by decide +kernel)⟩
theorem ml_109 : mlOk (4, 71, 9, 0) := ⟨mw_X2_become, mh_at (by decide +kernel), inT_at 666 (by decide +kernel)⟩
theorem ml_110 : mlOk (4, 75, 23, 0) := ⟨mw_X4_moveToFront, mh_at (by decide +kernel), inT_at 670 (by decide +kernel)⟩
theorem ml_111 : mlOk (8, 175, 24, 0) := ⟨mw_X4_drop, mh_at (by decide +kernel), inT_at 671 (by decide +kernel)⟩
theorem ml_112 : mlOk (8, 178, 64, 0) := ⟨mw_X8_goByProxy, mh_at (by decide +kernel), inT_at 672 (by decide +kernel)⟩
theorem ml_113 : mlOk (8, 182, 62, 0) := ⟨mw_X8_placeByMap, mh_at (by decide +kernel), inT_at 676 (by decide +kernel)⟩
theorem ml_114 : mlOk (8, 190, 45, 0) := ⟨mw_X7_placeFor, mh_at (by decide +kernel), inT_at 680 (by decide +kernel)⟩
theorem ml_115 : mlOk (7, 28, 43, 0) := ⟨mw_X7_lowestPriority, mh_at (by decide +kernel), inT_at 684 (by decide +kernel)⟩
theorem ml_116 : mlOk (7, 32, 44, 0) := ⟨mw_X7_weightThatCounts, mh_at (by decide +kernel), inT_at 691 (by decide +kernel)⟩
theorem ml_117 : mlOk (8, 199, 42, 0) := ⟨mw_X7_have, mh_at (by decide +kernel), inT_at 695 (by decide +kernel)⟩
theorem ml_118 : mlOk (24, 82, 119, 0) := ⟨mw_L_name, mh_at (by decide +kernel), inT_at 699 (by decide +kernel)⟩
theorem ml_119 : mlOk (24, 86, 117, 0) := ⟨mw_L_any, mh_at (by decide +kernel), inT_at 702 (by decide +kernel)⟩
theorem ml_120 : mlOk (24, 55, 94, 0) := ⟨mw_X9_restore, mh_at (by decide +kernel), inT_at 705 (by decide +kernel)⟩
theorem ml_121 : mlOk (9, 112, 106, 0) := ⟨mw_X9_isSave, mh_at (by decide +kernel), inT_at 709 (by decide +kernel)⟩
theorem ml_122 : mlOk (9, 116, 47, 0) := ⟨mw_X8_copyFrom, mh_at (by decide +kernel), inT_at 712 (by decide +kernel)⟩
theorem ml_123 : mlOk (24, 94, 100, 0) := ⟨mw_X9_answer, mh_at (by decide +kernel), inT_at 716 (by decide +kernel)⟩
theorem ml_124 : mlOk (9, 178, 68, 0) := ⟨mw_X8_answerFor, mh_at (by decide +kernel), inT_at 720 (by decide +kernel)⟩
theorem ml_125 : mlOk (24, 97, 103, 0) := ⟨mw_X9_wouldReach, mh_at (by decide +kernel), inT_at 721 (by decide +kernel)⟩
theorem ml_126 : mlOk (24, 101, 104, 0) := ⟨mw_X9_wouldAsk, mh_at (by decide +kernel), inT_at 725 (by decide +kernel)⟩
theorem ml_127 : mlOk (24, 104, 120, 0) := ⟨mw_L_hasPlace, mh_at (by decide +kernel), inT_at 729 (by decide +kernel)⟩
theorem ml_128 : mlOk (24, 108, 92, 0) := ⟨mw_X9_undo, mh_at (by decide +kernel), inT_at 732 (by decide +kernel)⟩
theorem ml_129 : mlOk (9, 109, 17, 0) := ⟨mw_X3_takeLatest, mh_at (by decide +kernel), inT_at 736 (by decide +kernel)⟩
theorem ml_130 : mlOk (24, 137, 121, 0) := ⟨mw_L_areRouters, mh_at (by decide +kernel), inT_at 740 (by decide +kernel)⟩
theorem ml_131 : mlOk (24, 141, 122, 0) := ⟨mw_L_areEnding, mh_at (by decide +kernel), inT_at 743 (by decide +kernel)⟩
theorem ml_132 : mlOk (24, 111, 101, 0) := ⟨mw_X9_endingNext, mh_at (by decide +kernel), inT_at 746 (by decide +kernel)⟩
theorem ml_133 : mlOk (9, 187, 69, 0) := ⟨mw_X8_siteEndingAt, mh_at (by decide +kernel), inT_at 750 (by decide +kernel)⟩
theorem ml_134 : mlOk (8, 232, 70, 0) := ⟨mw_X8_sitesEndingAheadOf, mh_at (by decide +kernel), inT_at 754 (by decide +kernel)⟩
theorem ml_135 : mlOk (24, 118, 93, 0) := ⟨mw_X9_save, mh_at (by decide +kernel), inT_at 764 (by decide +kernel)⟩
theorem ml_136 : mlOk (8, 36, 29, 1) := ⟨mw_X5_init, mh_at (by decide +kernel), inT_at 48 (by decide +kernel)⟩
theorem ml_137 : mlOk (5, 11, 1, 1) := ⟨mw_X1_init, mh_at (by decide +kernel), inT_at 54 (by decide +kernel)⟩
theorem ml_138 : mlOk (8, 47, 31, 1) := ⟨mw_X6_init, mh_at (by decide +kernel), inT_at 82 (by decide +kernel)⟩
theorem ml_139 : mlOk (6, 11, 1, 1) := ⟨mw_X1_init, mh_at (by decide +kernel), inT_at 87 (by decide +kernel)⟩
theorem ml_140 : mlOk (6, 20, 36, 1) := ⟨mw_X7_init, mh_at (by decide +kernel), inT_at 90 (by decide +kernel)⟩
theorem ml_141 : mlOk (4, 17, 8, 1) := ⟨mw_X2_init, mh_at (by decide +kernel), inT_at 132 (by decide +kernel)⟩
theorem ml_142 : mlOk (2, 11, 1, 1) := ⟨mw_X1_init, mh_at (by decide +kernel), inT_at 137 (by decide +kernel)⟩
theorem ml_143 : mlOk (2, 20, 36, 1) := ⟨mw_X7_init, mh_at (by decide +kernel), inT_at 139 (by decide +kernel)⟩
theorem ml_144 : mlOk (9, 36, 0, 1) := ⟨mw_X0_init, mh_at (by decide +kernel), inT_at 246 (by decide +kernel)⟩
theorem ml_145 : mlOk (8, 72, 111, 1) := ⟨mw_X9_isBlock, mh_at (by decide +kernel), inT_at 523 (by decide +kernel)⟩
theorem ml_146 : mlOk (7, 15, 107, 1) := ⟨mw_X9_isSlot, mh_at (by decide +kernel), inT_at 560 (by decide +kernel)⟩
theorem ml_147 : mlOk (8, 101, 107, 1) := ⟨mw_X9_isSlot, mh_at (by decide +kernel), inT_at 569 (by decide +kernel)⟩
theorem ml_148 : mlOk (8, 104, 110, 1) := ⟨mw_X9_isPlaceOfSlot, mh_at (by decide +kernel), inT_at 570 (by decide +kernel)⟩
theorem ml_149 : mlOk (8, 138, 108, 1) := ⟨mw_X9_isName, mh_at (by decide +kernel), inT_at 633 (by decide +kernel)⟩
theorem ml_150 : mlOk (8, 141, 109, 1) := ⟨mw_X9_isFlow, mh_at (by decide +kernel), inT_at 634 (by decide +kernel)⟩
/-- links of methods with longs -/
def mlT2 : List (Nat × Nat × Nat × Nat) := [(24, 90, 123, 0), (24, 133, 124, 0), (24, 126, 125, 0), (24, 130, 126, 0)]
theorem mk_0 : mlOk (24, 90, 123, 0) := ⟨mw_L_view, mh_at (by decide +kernel), inT_at 414 (by decide +kernel)⟩
theorem mk_1 : mlOk (24, 133, 124, 0) := ⟨mw_L_isSent, mh_at (by decide +kernel), inT_at 713 (by decide +kernel)⟩
theorem mk_2 : mlOk (24, 126, 125, 0) := ⟨mw_L_isUndone, mh_at (by decide +kernel), inT_at 758 (by decide +kernel)⟩
theorem mk_3 : mlOk (24, 130, 126, 0) := ⟨mw_L_isSaved, mh_at (by decide +kernel), inT_at 761 (by decide +kernel)⟩
theorem mlT2_ok : ∀ q ∈ mlT2, mlOk q := List.forall_mem_cons.mpr ⟨mk_0, List.forall_mem_cons.mpr ⟨mk_1, List.forall_mem_cons.mpr ⟨mk_2, List.forall_mem_cons.mpr ⟨mk_3, fun _ h => absurd h List.not_mem_nil⟩⟩⟩⟩
set_option maxRecDepth 100000 in
theorem mlT_ok : ∀ q ∈ mlT, mlOk q := List.forall_mem_cons.mpr ⟨ml_0, List.forall_mem_cons.mpr ⟨ml_1, List.forall_mem_cons.mpr ⟨ml_2, List.forall_mem_cons.mpr ⟨ml_3, List.forall_mem_cons.mpr ⟨ml_4, List.forall_mem_cons.mpr ⟨ml_5, List.forall_mem_cons.mpr ⟨ml_6, List.forall_mem_cons.mpr ⟨ml_7, List.forall_mem_cons.mpr ⟨ml_8, List.forall_mem_cons.mpr ⟨ml_9, List.forall_mem_cons.mpr ⟨ml_10, List.forall_mem_cons.mpr ⟨ml_11, List.forall_mem_cons.mpr ⟨ml_12, List.forall_mem_cons.mpr ⟨ml_13, List.forall_mem_cons.mpr ⟨ml_14, List.forall_mem_cons.mpr ⟨ml_15, List.forall_mem_cons.mpr ⟨ml_16, List.forall_mem_cons.mpr ⟨ml_17, List.forall_mem_cons.mpr ⟨ml_18, List.forall_mem_cons.mpr ⟨ml_19, List.forall_mem_cons.mpr ⟨ml_20, List.forall_mem_cons.mpr ⟨ml_21, List.forall_mem_cons.mpr ⟨ml_22, List.forall_mem_cons.mpr ⟨ml_23, List.forall_mem_cons.mpr ⟨ml_24, List.forall_mem_cons.mpr ⟨ml_25, List.forall_mem_cons.mpr ⟨ml_26, List.forall_mem_cons.mpr ⟨ml_27, List.forall_mem_cons.mpr ⟨ml_28, List.forall_mem_cons.mpr ⟨ml_29, List.forall_mem_cons.mpr ⟨ml_30, List.forall_mem_cons.mpr ⟨ml_31, List.forall_mem_cons.mpr ⟨ml_32, List.forall_mem_cons.mpr ⟨ml_33, List.forall_mem_cons.mpr ⟨ml_34, List.forall_mem_cons.mpr ⟨ml_35, List.forall_mem_cons.mpr ⟨ml_36, List.forall_mem_cons.mpr ⟨ml_37, List.forall_mem_cons.mpr ⟨ml_38, List.forall_mem_cons.mpr ⟨ml_39, List.forall_mem_cons.mpr ⟨ml_40, List.forall_mem_cons.mpr ⟨ml_41, List.forall_mem_cons.mpr ⟨ml_42, List.forall_mem_cons.mpr ⟨ml_43, List.forall_mem_cons.mpr ⟨ml_44, List.forall_mem_cons.mpr ⟨ml_45, List.forall_mem_cons.mpr ⟨ml_46, List.forall_mem_cons.mpr ⟨ml_47, List.forall_mem_cons.mpr ⟨ml_48, List.forall_mem_cons.mpr ⟨ml_49, List.forall_mem_cons.mpr ⟨ml_50, List.forall_mem_cons.mpr ⟨ml_51, List.forall_mem_cons.mpr ⟨ml_52, List.forall_mem_cons.mpr ⟨ml_53, List.forall_mem_cons.mpr ⟨ml_54, List.forall_mem_cons.mpr ⟨ml_55, List.forall_mem_cons.mpr ⟨ml_56, List.forall_mem_cons.mpr ⟨ml_57, List.forall_mem_cons.mpr ⟨ml_58, List.forall_mem_cons.mpr ⟨ml_59, List.forall_mem_cons.mpr ⟨ml_60, List.forall_mem_cons.mpr ⟨ml_61, List.forall_mem_cons.mpr ⟨ml_62, List.forall_mem_cons.mpr ⟨ml_63, List.forall_mem_cons.mpr ⟨ml_64, List.forall_mem_cons.mpr ⟨ml_65, List.forall_mem_cons.mpr ⟨ml_66, List.forall_mem_cons.mpr ⟨ml_67, List.forall_mem_cons.mpr ⟨ml_68, List.forall_mem_cons.mpr ⟨ml_69, List.forall_mem_cons.mpr ⟨ml_70, List.forall_mem_cons.mpr ⟨ml_71, List.forall_mem_cons.mpr ⟨ml_72, List.forall_mem_cons.mpr ⟨ml_73, List.forall_mem_cons.mpr ⟨ml_74, List.forall_mem_cons.mpr ⟨ml_75, List.forall_mem_cons.mpr ⟨ml_76, List.forall_mem_cons.mpr ⟨ml_77, List.forall_mem_cons.mpr ⟨ml_78, List.forall_mem_cons.mpr ⟨ml_79, List.forall_mem_cons.mpr ⟨ml_80, List.forall_mem_cons.mpr ⟨ml_81, List.forall_mem_cons.mpr ⟨ml_82, List.forall_mem_cons.mpr ⟨ml_83, List.forall_mem_cons.mpr ⟨ml_84, List.forall_mem_cons.mpr ⟨ml_85, List.forall_mem_cons.mpr ⟨ml_86, List.forall_mem_cons.mpr ⟨ml_87, List.forall_mem_cons.mpr ⟨ml_88, List.forall_mem_cons.mpr ⟨ml_89, List.forall_mem_cons.mpr ⟨ml_90, List.forall_mem_cons.mpr ⟨ml_91, List.forall_mem_cons.mpr ⟨ml_92, List.forall_mem_cons.mpr ⟨ml_93, List.forall_mem_cons.mpr ⟨ml_94, List.forall_mem_cons.mpr ⟨ml_95, List.forall_mem_cons.mpr ⟨ml_96, List.forall_mem_cons.mpr ⟨ml_97, List.forall_mem_cons.mpr ⟨ml_98, List.forall_mem_cons.mpr ⟨ml_99, List.forall_mem_cons.mpr ⟨ml_100, List.forall_mem_cons.mpr ⟨ml_101, List.forall_mem_cons.mpr ⟨ml_102, List.forall_mem_cons.mpr ⟨ml_103, List.forall_mem_cons.mpr ⟨ml_104, List.forall_mem_cons.mpr ⟨ml_105, List.forall_mem_cons.mpr ⟨ml_106, List.forall_mem_cons.mpr ⟨ml_107, List.forall_mem_cons.mpr ⟨ml_108, List.forall_mem_cons.mpr ⟨ml_109, List.forall_mem_cons.mpr ⟨ml_110, List.forall_mem_cons.mpr ⟨ml_111, List.forall_mem_cons.mpr ⟨ml_112, List.forall_mem_cons.mpr ⟨ml_113, List.forall_mem_cons.mpr ⟨ml_114, List.forall_mem_cons.mpr ⟨ml_115, List.forall_mem_cons.mpr ⟨ml_116, List.forall_mem_cons.mpr ⟨ml_117, List.forall_mem_cons.mpr ⟨ml_118, List.forall_mem_cons.mpr ⟨ml_119, List.forall_mem_cons.mpr ⟨ml_120, List.forall_mem_cons.mpr ⟨ml_121, List.forall_mem_cons.mpr ⟨ml_122, List.forall_mem_cons.mpr ⟨ml_123, List.forall_mem_cons.mpr ⟨ml_124, List.forall_mem_cons.mpr ⟨ml_125, List.forall_mem_cons.mpr ⟨ml_126, List.forall_mem_cons.mpr ⟨ml_127, List.forall_mem_cons.mpr ⟨ml_128, List.forall_mem_cons.mpr ⟨ml_129, List.forall_mem_cons.mpr ⟨ml_130, List.forall_mem_cons.mpr ⟨ml_131, List.forall_mem_cons.mpr ⟨ml_132, List.forall_mem_cons.mpr ⟨ml_133, List.forall_mem_cons.mpr ⟨ml_134, List.forall_mem_cons.mpr ⟨ml_135, List.forall_mem_cons.mpr ⟨ml_136, List.forall_mem_cons.mpr ⟨ml_137, List.forall_mem_cons.mpr ⟨ml_138, List.forall_mem_cons.mpr ⟨ml_139, List.forall_mem_cons.mpr ⟨ml_140, List.forall_mem_cons.mpr ⟨ml_141, List.forall_mem_cons.mpr ⟨ml_142, List.forall_mem_cons.mpr ⟨ml_143, List.forall_mem_cons.mpr ⟨ml_144, List.forall_mem_cons.mpr ⟨ml_145, List.forall_mem_cons.mpr ⟨ml_146, List.forall_mem_cons.mpr ⟨ml_147, List.forall_mem_cons.mpr ⟨ml_148, List.forall_mem_cons.mpr ⟨ml_149, List.forall_mem_cons.mpr ⟨ml_150, fun _ h => absurd h List.not_mem_nil⟩⟩⟩⟩⟩⟩⟩⟩⟩⟩⟩⟩⟩⟩⟩⟩⟩⟩⟩⟩⟩⟩⟩⟩⟩⟩⟩⟩⟩⟩⟩⟩⟩⟩⟩⟩⟩⟩⟩⟩⟩⟩⟩⟩⟩⟩⟩⟩⟩⟩⟩⟩⟩⟩⟩⟩⟩⟩⟩⟩⟩⟩⟩⟩⟩⟩⟩⟩⟩⟩⟩⟩⟩⟩⟩⟩⟩⟩⟩⟩⟩⟩⟩⟩⟩⟩⟩⟩⟩⟩⟩⟩⟩⟩⟩⟩⟩⟩⟩⟩⟩⟩⟩⟩⟩⟩⟩⟩⟩⟩⟩⟩⟩⟩⟩⟩⟩⟩⟩⟩⟩⟩⟩⟩⟩⟩⟩⟩⟩⟩⟩⟩⟩⟩⟩⟩⟩⟩⟩⟩⟩⟩⟩⟩⟩⟩⟩⟩⟩⟩⟩
theorem ck_265 : inT (.constant RJ6 265 1431655765) := inT_at 529 (by decide +kernel)
theorem ck_266 : inT (.constant RJ6 266 858993459) := inT_at 530 (by decide +kernel)
theorem ck_267 : inT (.constant RJ6 267 252645135) := inT_at 531 (by decide +kernel)
theorem ck_7 : inT (.constant RL 7 763049417) := inT_at 409 (by decide +kernel)
theorem ck_8 : inT (.constant RL 8 2147483647) := inT_at 413 (by decide +kernel)
theorem cl_9 : inT (.constantLong RL 9 7) := inT_at 417 (by decide +kernel)
theorem cl_11 : inT (.constantLong RL 11 31) := inT_at 418 (by decide +kernel)
theorem mmin_ok : inT (.methodLink RX7 22 Lib.Math.min.name) ∧ inT (.static Lib.Math.min.name) ∧ inT (.initialized "java/lang/Math") ∧ inT (.code Lib.Math.min.name Lib.Math.min.code 2 (some .int)) := ⟨inT_at 688 (by decide +kernel), inT_at 689 (by decide +kernel), inT_at 25 (by decide +kernel), inT_at 690 (by decide +kernel)⟩
theorem wx_0 : ∀ w ∈ u_ws RX0 TX0 8, inT w := by
  intro w hw
  obtain ⟨k, hk, rfl⟩ := List.mem_map.mp hw
  have hk : k < 8 := List.mem_range.mp hk
  match k, hk with
  | 0, _ => exact inT_at 253 (by decide +kernel)
  | 1, _ => exact inT_at 255 (by decide +kernel)
  | 2, _ => exact inT_at 257 (by decide +kernel)
  | 3, _ => exact inT_at 259 (by decide +kernel)
  | 4, _ => exact inT_at 261 (by decide +kernel)
  | 5, _ => exact inT_at 263 (by decide +kernel)
  | 6, _ => exact inT_at 265 (by decide +kernel)
  | 7, _ => exact inT_at 267 (by decide +kernel)
  | k + 8, h => exact absurd h (by omega)
theorem wx_1 : ∀ w ∈ u_ws RX1 TX1 2, inT w := by
  intro w hw
  obtain ⟨k, hk, rfl⟩ := List.mem_map.mp hw
  have hk : k < 2 := List.mem_range.mp hk
  match k, hk with
  | 0, _ => exact inT_at 63 (by decide +kernel)
  | 1, _ => exact inT_at 65 (by decide +kernel)
  | k + 2, h => exact absurd h (by omega)
theorem wx_2 : ∀ w ∈ u_ws RX2 TX2 6, inT w := by
  intro w hw
  obtain ⟨k, hk, rfl⟩ := List.mem_map.mp hw
  have hk : k < 6 := List.mem_range.mp hk
  match k, hk with
  | 0, _ => exact inT_at 152 (by decide +kernel)
  | 1, _ => exact inT_at 154 (by decide +kernel)
  | 2, _ => exact inT_at 156 (by decide +kernel)
  | 3, _ => exact inT_at 158 (by decide +kernel)
  | 4, _ => exact inT_at 160 (by decide +kernel)
  | 5, _ => exact inT_at 162 (by decide +kernel)
  | k + 6, h => exact absurd h (by omega)
theorem wx_3 : ∀ w ∈ u_ws RX3 TX3 3, inT w := by
  intro w hw
  obtain ⟨k, hk, rfl⟩ := List.mem_map.mp hw
  have hk : k < 3 := List.mem_range.mp hk
  match k, hk with
  | 0, _ => exact inT_at 237 (by decide +kernel)
  | 1, _ => exact inT_at 239 (by decide +kernel)
  | 2, _ => exact inT_at 241 (by decide +kernel)
  | k + 3, h => exact absurd h (by omega)
theorem wx_4 : ∀ w ∈ u_ws RX4 TX4 7, inT w := by
  intro w hw
  obtain ⟨k, hk, rfl⟩ := List.mem_map.mp hw
  have hk : k < 7 := List.mem_range.mp hk
  match k, hk with
  | 0, _ => exact inT_at 181 (by decide +kernel)
  | 1, _ => exact inT_at 183 (by decide +kernel)
  | 2, _ => exact inT_at 185 (by decide +kernel)
  | 3, _ => exact inT_at 187 (by decide +kernel)
  | 4, _ => exact inT_at 189 (by decide +kernel)
  | 5, _ => exact inT_at 191 (by decide +kernel)
  | 6, _ => exact inT_at 193 (by decide +kernel)
  | k + 7, h => exact absurd h (by omega)
theorem wx_5 : ∀ w ∈ u_ws RX5 TX5 2, inT w := by
  intro w hw
  obtain ⟨k, hk, rfl⟩ := List.mem_map.mp hw
  have hk : k < 2 := List.mem_range.mp hk
  match k, hk with
  | 0, _ => exact inT_at 72 (by decide +kernel)
  | 1, _ => exact inT_at 74 (by decide +kernel)
  | k + 2, h => exact absurd h (by omega)
theorem wx_6 : ∀ w ∈ u_ws RX6 TX6 5, inT w := by
  intro w hw
  obtain ⟨k, hk, rfl⟩ := List.mem_map.mp hw
  have hk : k < 5 := List.mem_range.mp hk
  match k, hk with
  | 0, _ => exact inT_at 113 (by decide +kernel)
  | 1, _ => exact inT_at 115 (by decide +kernel)
  | 2, _ => exact inT_at 117 (by decide +kernel)
  | 3, _ => exact inT_at 119 (by decide +kernel)
  | 4, _ => exact inT_at 121 (by decide +kernel)
  | k + 5, h => exact absurd h (by omega)
theorem wx_7 : ∀ w ∈ u_ws RX7 TX7 1, inT w := by
  intro w hw
  obtain ⟨k, hk, rfl⟩ := List.mem_map.mp hw
  have hk : k < 1 := List.mem_range.mp hk
  match k, hk with
  | 0, _ => exact inT_at 95 (by decide +kernel)
  | k + 1, h => exact absurd h (by omega)
theorem wx_8 : ∀ w ∈ u_ws RX8 TX8 8, inT w := by
  intro w hw
  obtain ⟨k, hk, rfl⟩ := List.mem_map.mp hw
  have hk : k < 8 := List.mem_range.mp hk
  match k, hk with
  | 0, _ => exact inT_at 207 (by decide +kernel)
  | 1, _ => exact inT_at 209 (by decide +kernel)
  | 2, _ => exact inT_at 211 (by decide +kernel)
  | 3, _ => exact inT_at 213 (by decide +kernel)
  | 4, _ => exact inT_at 215 (by decide +kernel)
  | 5, _ => exact inT_at 217 (by decide +kernel)
  | 6, _ => exact inT_at 219 (by decide +kernel)
  | 7, _ => exact inT_at 221 (by decide +kernel)
  | k + 8, h => exact absurd h (by omega)
theorem wx_9 : ∀ w ∈ u_ws RX9 TX9 6, inT w := by
  intro w hw
  obtain ⟨k, hk, rfl⟩ := List.mem_map.mp hw
  have hk : k < 6 := List.mem_range.mp hk
  match k, hk with
  | 0, _ => exact inT_at 278 (by decide +kernel)
  | 1, _ => exact inT_at 280 (by decide +kernel)
  | 2, _ => exact inT_at 282 (by decide +kernel)
  | 3, _ => exact inT_at 284 (by decide +kernel)
  | 4, _ => exact inT_at 286 (by decide +kernel)
  | 5, _ => exact inT_at 288 (by decide +kernel)
  | k + 6, h => exact absurd h (by omega)
end
section
/-! THE CODE TABLES AGAINST THE BYTES: each entry is what stands at its place, and its links are the tables' -/
def cndOf (b : Nat) : ClassFile.Cond := match b with
  | 0 => .eq | 1 => .ne | 2 => .lt | 3 => .ge | 4 => .gt | _ => .le
def f4 (a : Nat) : Fin 4 := Fin.ofNat 4 a
def atOf (a : Nat) : ArrayType := match a with
  | 0 => .int | 1 => .boolean | _ => .byte
def instrOf (e : Ent) : Instr × Nat := match e with
  | (pc, (op, a, b, d), c, cs) => match op with
    | 1 => (match b with
      | 0 => (.iconst c.toInt, 1) | 1 => (.bipush c.toInt, 2) | 2 => (.sipush c.toInt, 3) | 3 => (.ldc_w a, 3) | _ => (.ldc a, 2))
    | 2 => (match b with
      | 0 => (.iload_n (f4 a), 1) | 1 => (.iload a, 2) | 2 => (.aload_n (f4 a), 1) | _ => (.aload a, 2))
    | 3 => (match b with
      | 0 => (.istore_n (f4 a), 1) | 1 => (.istore a, 2) | 2 => (.astore_n (f4 a), 1) | _ => (.astore a, 2))
    | 4 => (match a with
      | 0 => (.iadd, 1) | 1 => (.isub, 1) | 2 => (.imul, 1) | 3 => (.idiv, 1) | 4 => (.irem, 1) | 5 => (.iand, 1) | 6 => (.iushr, 1) | 7 => (.ixor, 1) | 8 => (.ishr, 1) | _ => (.ishl, 1))
    | 5 => (.iinc a c.toInt, 3)
    | 6 => (.ifCond (cndOf b) ((a : Int) - (pc : Int)), 3)
    | 7 => (.if_icmp (cndOf b) ((a : Int) - (pc : Int)), 3)
    | 8 => (.goto ((a : Int) - (pc : Int)), 3)
    | 9 => (.getfield a, 3)
    | 10 => (.putfield a, 3)
    | 11 => (match a with | 0 => (.iaload, 1) | 1 => (.baload, 1) | _ => (.aaload, 1))
    | 12 => (match a with | 0 => (.iastore, 1) | 1 => (.bastore, 1) | _ => (.aastore, 1))
    | 13 => (match d with | 0 => (.invokevirtual a, 3) | _ => (.invokestatic a, 3))
    | 14 => (match a with | 0 => (.ireturn, 1) | _ => (.return_, 1))
    | 15 => (.dup, 1)
    | 16 => (.dup2, 1)
    | 17 => (.i2b, 1)
    | 18 => (match d with
      | 0 => (.tableswitch ((a : Int) - (pc : Int)) ((cs.head?.getD (0, 0)).1 : Int) (((cs.getLast?).getD (0, 0)).1 : Int) (cs.map fun q => (q.2 : Int) - (pc : Int)).toArray, b)
      | _ => (.lookupswitch ((a : Int) - (pc : Int)) (cs.map fun q => ((q.1 : Int), (q.2 : Int) - (pc : Int))).toArray, b))
    | 19 => (.arraylength, 1)
    | 20 => (.invokestatic a, 3)
    | 21 => (.new a, 3)
    | 22 => (.newarray (atOf a), 2)
    | 23 => (.anewarray a, 3)
    | 24 => (.invokespecial a, 3)
    | 25 => (.invokestatic a, 3)
    | 26 => (.ldc2_w a, 3)
    | 27 => (.i2l, 1)
    | 28 => (.lmul, 1)
    | 29 => (.ladd, 1)
    | 30 => (.lcmp, 1)
    | 31 => (match b with | 0 => (.lload_n (f4 a), 1) | _ => (.lload a, 2))
    | 32 => (match b with | 0 => (.lstore_n (f4 a), 1) | _ => (.lstore a, 2))
    | 33 => (.lreturn, 1)
    | _ => (.pop, 1)
def initL : List Nat := [0, 1, 8, 13, 18, 29, 31, 36, 46, 80]
/-- what else an entry's place in the class wants: o its class, nL the locals -/
def moreOk (o nL : Nat) (e : Ent) : Bool := match e with
  | (pc, (op, a, b, d), c, cs) => match op with
    | 1 => (match b with
      | 0 => true | 1 => decide ((Int8.ofInt c.toInt).toInt32 = c) | 2 => decide ((Int16.ofInt c.toInt).toInt32 = c) | 3 => decide ((o, a, c) ∈ [(25, 265, (1431655765 : Int32)), (25, 266, 858993459), (25, 267, 252645135)]) | _ => decide ((o, a, c) ∈ [(24, 7, (763049417 : Int32)), (24, 8, 2147483647)]))
    | 2 => (match b with
      | 0 => decide (a < 4) | 1 => true | 2 => decide (a < 4) | _ => true)
    | 3 => decide (a < nL) && (match b with
      | 0 => decide (a < 4) | 1 => true | 2 => decide (a < 4) | _ => true)
    | 5 => decide (a < nL)
    | 6 => decide (b < 6)
    | 7 => decide (b < 6)
    | 9 => decide ((o, a, b, d) ∈ flT)
    | 10 => decide ((o, a, b, d) ∈ flT)
    | 13 => decide ((o, a, b, (if d = 2 then 1 else 0)) ∈ mlT) && (decide (cs = [((mRow b).2.2.2.2.2.1, (mRow b).2.2.2.2.1)]) && (decide ((mRow b).2.2.2.2.2.2 = decide (¬ d = 0)) && decide (b ∉ initL)))
    | 18 => (match d with
      | 0 => decide (cs.map (fun q => q.1) = (List.range' (cs.head?.getD (0, 0)).1 cs.length)) && decide (cs ≠ [])
      | _ => ((cs.map fun q => ((q.1 : Int), (q.2 : Int) - (pc : Int))).zip ((cs.map fun q => ((q.1 : Int), (q.2 : Int) - (pc : Int))).drop 1)).all (fun (a, next) => a.1 < next.1)) && cs.all (fun q => decide (q.1 < 1000))
    | 20 => decide ((o, a) = (7, 22))
    | _ => true
def entOk (o nL : Nat) (cc : ByteArray) (e : Ent) : Bool := (decide (e.2.1.1 = 0) || decide (decode cc e.1 = .ok (instrOf e))) && moreOk o nL e
def nextPc (e : Ent) : Nat := if e.2.1.1 = 0 then e.1 else e.1 + (instrOf e).2
def chainOk : List Ent → Bool
  | [] => true
  | [_] => true
  | e :: f :: es => (f.1 == nextPc e) && chainOk (f :: es)
def rtN (t : Option FieldType) : Nat := match t with
  | some .int => 0
  | some .boolean => 1
  | none => 2
  | _ => 9
def mdOk (m : Nat) : Prop := (codT m).all (entOk (mRow m).2.2.2.2.1 (mRow m).2.2.1 (mRow m).2.1) = true ∧ chainOk (codT m) = true ∧ rtN (mRow m).2.2.2.1 = retT m ∧ ∃ e es, codT m = e :: es ∧ e.1 = 0
def moreOkL (nL : Nat) (e : Ent) : Bool := match e with
  | (pc, (op, a, b, d), c, cs) => match op with
    | 25 => decide ((24, a, b, 0) ∈ mlT2) && (decide (cs = [((mRow b).2.2.2.2.2.1, 0)]) && (decide ((mRow b).2.2.2.2.2.2 = true) && decide ((mRow b).2.2.2.2.1 = 24)))
    | 26 => decide ((a, c) ∈ [(9, (7 : Int32)), (11, 31)])
    | 31 => (match b with | 0 => decide (a < 4) | _ => true)
    | 32 => decide (a + 1 < nL) && (match b with | 0 => decide (a < 4) | _ => true)
    | _ => moreOk 24 nL e
def entOkL (nL : Nat) (cc : ByteArray) (e : Ent) : Bool := (decide (e.2.1.1 = 0) || decide (decode cc e.1 = .ok (instrOf e))) && moreOkL nL e
def rtL (t : Option FieldType) : Nat := match t with
  | some .int => 0
  | some .boolean => 1
  | some .long => 3
  | _ => 9
def mdOkL (m : Nat) : Prop := (colT m).all (entOkL (mRow m).2.2.1 (mRow m).2.1) = true ∧ chainOk (colT m) = true ∧ rtL (mRow m).2.2.2.1 = retT m ∧ ∃ e es, colT m = e :: es ∧ e.1 = 0
set_option maxRecDepth 100000 in
theorem ea_X0_init : co_X0_init.all (entOk (mRow m_X0_init).2.2.2.2.1 (mRow m_X0_init).2.2.1 (mRow m_X0_init).2.1) = true := by decide +kernel
theorem md_X0_init : mdOk m_X0_init := ⟨ea_X0_init, by decide +kernel, by decide +kernel, _, _, rfl, rfl⟩
set_option maxRecDepth 100000 in
theorem ea_X1_init : co_X1_init.all (entOk (mRow m_X1_init).2.2.2.2.1 (mRow m_X1_init).2.2.1 (mRow m_X1_init).2.1) = true := by decide +kernel
theorem md_X1_init : mdOk m_X1_init := ⟨ea_X1_init, by decide +kernel, by decide +kernel, _, _, rfl, rfl⟩
set_option maxRecDepth 100000 in
theorem ea_X1_become : co_X1_become.all (entOk (mRow m_X1_become).2.2.2.2.1 (mRow m_X1_become).2.2.1 (mRow m_X1_become).2.1) = true := by decide +kernel
theorem md_X1_become : mdOk m_X1_become := ⟨ea_X1_become, by decide +kernel, by decide +kernel, _, _, rfl, rfl⟩
set_option maxRecDepth 100000 in
theorem ea_X1_copyFrom : co_X1_copyFrom.all (entOk (mRow m_X1_copyFrom).2.2.2.2.1 (mRow m_X1_copyFrom).2.2.1 (mRow m_X1_copyFrom).2.1) = true := by decide +kernel
theorem md_X1_copyFrom : mdOk m_X1_copyFrom := ⟨ea_X1_copyFrom, by decide +kernel, by decide +kernel, _, _, rfl, rfl⟩
set_option maxRecDepth 100000 in
theorem ea_X1_isAt : co_X1_isAt.all (entOk (mRow m_X1_isAt).2.2.2.2.1 (mRow m_X1_isAt).2.2.1 (mRow m_X1_isAt).2.1) = true := by decide +kernel
theorem md_X1_isAt : mdOk m_X1_isAt := ⟨ea_X1_isAt, by decide +kernel, by decide +kernel, _, _, rfl, rfl⟩
set_option maxRecDepth 100000 in
theorem ea_X1_has : co_X1_has.all (entOk (mRow m_X1_has).2.2.2.2.1 (mRow m_X1_has).2.2.1 (mRow m_X1_has).2.1) = true := by decide +kernel
theorem md_X1_has : mdOk m_X1_has := ⟨ea_X1_has, by decide +kernel, by decide +kernel, _, _, rfl, rfl⟩
set_option maxRecDepth 100000 in
theorem ea_X1_holds : co_X1_holds.all (entOk (mRow m_X1_holds).2.2.2.2.1 (mRow m_X1_holds).2.2.1 (mRow m_X1_holds).2.1) = true := by decide +kernel
theorem md_X1_holds : mdOk m_X1_holds := ⟨ea_X1_holds, by decide +kernel, by decide +kernel, _, _, rfl, rfl⟩
set_option maxRecDepth 100000 in
theorem ea_X1_meets : co_X1_meets.all (entOk (mRow m_X1_meets).2.2.2.2.1 (mRow m_X1_meets).2.2.1 (mRow m_X1_meets).2.1) = true := by decide +kernel
theorem md_X1_meets : mdOk m_X1_meets := ⟨ea_X1_meets, by decide +kernel, by decide +kernel, _, _, rfl, rfl⟩
set_option maxRecDepth 100000 in
theorem ea_X2_init : co_X2_init.all (entOk (mRow m_X2_init).2.2.2.2.1 (mRow m_X2_init).2.2.1 (mRow m_X2_init).2.1) = true := by decide +kernel
theorem md_X2_init : mdOk m_X2_init := ⟨ea_X2_init, by decide +kernel, by decide +kernel, _, _, rfl, rfl⟩
set_option maxRecDepth 100000 in
theorem ea_X2_become : co_X2_become.all (entOk (mRow m_X2_become).2.2.2.2.1 (mRow m_X2_become).2.2.1 (mRow m_X2_become).2.1) = true := by decide +kernel
theorem md_X2_become : mdOk m_X2_become := ⟨ea_X2_become, by decide +kernel, by decide +kernel, _, _, rfl, rfl⟩
set_option maxRecDepth 100000 in
theorem ea_X2_copyFrom : co_X2_copyFrom.all (entOk (mRow m_X2_copyFrom).2.2.2.2.1 (mRow m_X2_copyFrom).2.2.1 (mRow m_X2_copyFrom).2.1) = true := by decide +kernel
theorem md_X2_copyFrom : mdOk m_X2_copyFrom := ⟨ea_X2_copyFrom, by decide +kernel, by decide +kernel, _, _, rfl, rfl⟩
set_option maxRecDepth 100000 in
theorem ea_X2_isHolding : co_X2_isHolding.all (entOk (mRow m_X2_isHolding).2.2.2.2.1 (mRow m_X2_isHolding).2.2.1 (mRow m_X2_isHolding).2.1) = true := by decide +kernel
theorem md_X2_isHolding : mdOk m_X2_isHolding := ⟨ea_X2_isHolding, by decide +kernel, by decide +kernel, _, _, rfl, rfl⟩
set_option maxRecDepth 100000 in
theorem ea_X2_property : co_X2_property.all (entOk (mRow m_X2_property).2.2.2.2.1 (mRow m_X2_property).2.2.1 (mRow m_X2_property).2.1) = true := by decide +kernel
theorem md_X2_property : mdOk m_X2_property := ⟨ea_X2_property, by decide +kernel, by decide +kernel, _, _, rfl, rfl⟩
set_option maxRecDepth 100000 in
theorem ea_X3_init : co_X3_init.all (entOk (mRow m_X3_init).2.2.2.2.1 (mRow m_X3_init).2.2.1 (mRow m_X3_init).2.1) = true := by decide +kernel
theorem md_X3_init : mdOk m_X3_init := ⟨ea_X3_init, by decide +kernel, by decide +kernel, _, _, rfl, rfl⟩
set_option maxRecDepth 100000 in
theorem ea_X3_row : co_X3_row.all (entOk (mRow m_X3_row).2.2.2.2.1 (mRow m_X3_row).2.2.1 (mRow m_X3_row).2.1) = true := by decide +kernel
theorem md_X3_row : mdOk m_X3_row := ⟨ea_X3_row, by decide +kernel, by decide +kernel, _, _, rfl, rfl⟩
set_option maxRecDepth 100000 in
theorem ea_X3_draft : co_X3_draft.all (entOk (mRow m_X3_draft).2.2.2.2.1 (mRow m_X3_draft).2.2.1 (mRow m_X3_draft).2.1) = true := by decide +kernel
theorem md_X3_draft : mdOk m_X3_draft := ⟨ea_X3_draft, by decide +kernel, by decide +kernel, _, _, rfl, rfl⟩
set_option maxRecDepth 100000 in
theorem ea_X3_keepDraft : co_X3_keepDraft.all (entOk (mRow m_X3_keepDraft).2.2.2.2.1 (mRow m_X3_keepDraft).2.2.1 (mRow m_X3_keepDraft).2.1) = true := by decide +kernel
theorem md_X3_keepDraft : mdOk m_X3_keepDraft := ⟨ea_X3_keepDraft, by decide +kernel, by decide +kernel, _, _, rfl, rfl⟩
set_option maxRecDepth 100000 in
theorem ea_X3_takeLatest : co_X3_takeLatest.all (entOk (mRow m_X3_takeLatest).2.2.2.2.1 (mRow m_X3_takeLatest).2.2.1 (mRow m_X3_takeLatest).2.1) = true := by decide +kernel
theorem md_X3_takeLatest : mdOk m_X3_takeLatest := ⟨ea_X3_takeLatest, by decide +kernel, by decide +kernel, _, _, rfl, rfl⟩
set_option maxRecDepth 100000 in
theorem ea_X4_init : co_X4_init.all (entOk (mRow m_X4_init).2.2.2.2.1 (mRow m_X4_init).2.2.1 (mRow m_X4_init).2.1) = true := by decide +kernel
theorem md_X4_init : mdOk m_X4_init := ⟨ea_X4_init, by decide +kernel, by decide +kernel, _, _, rfl, rfl⟩
set_option maxRecDepth 100000 in
theorem ea_X4_start : co_X4_start.all (entOk (mRow m_X4_start).2.2.2.2.1 (mRow m_X4_start).2.2.1 (mRow m_X4_start).2.1) = true := by decide +kernel
theorem md_X4_start : mdOk m_X4_start := ⟨ea_X4_start, by decide +kernel, by decide +kernel, _, _, rfl, rfl⟩
set_option maxRecDepth 100000 in
theorem ea_X4_copyFrom : co_X4_copyFrom.all (entOk (mRow m_X4_copyFrom).2.2.2.2.1 (mRow m_X4_copyFrom).2.2.1 (mRow m_X4_copyFrom).2.1) = true := by decide +kernel
theorem md_X4_copyFrom : mdOk m_X4_copyFrom := ⟨ea_X4_copyFrom, by decide +kernel, by decide +kernel, _, _, rfl, rfl⟩
set_option maxRecDepth 100000 in
theorem ea_X4_isPlace : co_X4_isPlace.all (entOk (mRow m_X4_isPlace).2.2.2.2.1 (mRow m_X4_isPlace).2.2.1 (mRow m_X4_isPlace).2.1) = true := by decide +kernel
theorem md_X4_isPlace : mdOk m_X4_isPlace := ⟨ea_X4_isPlace, by decide +kernel, by decide +kernel, _, _, rfl, rfl⟩
set_option maxRecDepth 100000 in
theorem ea_X4_property : co_X4_property.all (entOk (mRow m_X4_property).2.2.2.2.1 (mRow m_X4_property).2.2.1 (mRow m_X4_property).2.1) = true := by decide +kernel
theorem md_X4_property : mdOk m_X4_property := ⟨ea_X4_property, by decide +kernel, by decide +kernel, _, _, rfl, rfl⟩
set_option maxRecDepth 100000 in
theorem ea_X4_moveToFront : co_X4_moveToFront.all (entOk (mRow m_X4_moveToFront).2.2.2.2.1 (mRow m_X4_moveToFront).2.2.1 (mRow m_X4_moveToFront).2.1) = true := by decide +kernel
theorem md_X4_moveToFront : mdOk m_X4_moveToFront := ⟨ea_X4_moveToFront, by decide +kernel, by decide +kernel, _, _, rfl, rfl⟩
set_option maxRecDepth 100000 in
theorem ea_X4_drop : co_X4_drop.all (entOk (mRow m_X4_drop).2.2.2.2.1 (mRow m_X4_drop).2.2.1 (mRow m_X4_drop).2.1) = true := by decide +kernel
theorem md_X4_drop : mdOk m_X4_drop := ⟨ea_X4_drop, by decide +kernel, by decide +kernel, _, _, rfl, rfl⟩
set_option maxRecDepth 100000 in
theorem ea_X4_dropEnded : co_X4_dropEnded.all (entOk (mRow m_X4_dropEnded).2.2.2.2.1 (mRow m_X4_dropEnded).2.2.1 (mRow m_X4_dropEnded).2.1) = true := by decide +kernel
theorem md_X4_dropEnded : mdOk m_X4_dropEnded := ⟨ea_X4_dropEnded, by decide +kernel, by decide +kernel, _, _, rfl, rfl⟩
set_option maxRecDepth 100000 in
theorem ea_X4_placeOfSite : co_X4_placeOfSite.all (entOk (mRow m_X4_placeOfSite).2.2.2.2.1 (mRow m_X4_placeOfSite).2.2.1 (mRow m_X4_placeOfSite).2.1) = true := by decide +kernel
theorem md_X4_placeOfSite : mdOk m_X4_placeOfSite := ⟨ea_X4_placeOfSite, by decide +kernel, by decide +kernel, _, _, rfl, rfl⟩
set_option maxRecDepth 100000 in
theorem ea_X4_placeOfSmallest : co_X4_placeOfSmallest.all (entOk (mRow m_X4_placeOfSmallest).2.2.2.2.1 (mRow m_X4_placeOfSmallest).2.2.1 (mRow m_X4_placeOfSmallest).2.1) = true := by decide +kernel
theorem md_X4_placeOfSmallest : mdOk m_X4_placeOfSmallest := ⟨ea_X4_placeOfSmallest, by decide +kernel, by decide +kernel, _, _, rfl, rfl⟩
set_option maxRecDepth 100000 in
theorem ea_X4_addMap : co_X4_addMap.all (entOk (mRow m_X4_addMap).2.2.2.2.1 (mRow m_X4_addMap).2.2.1 (mRow m_X4_addMap).2.1) = true := by decide +kernel
theorem md_X4_addMap : mdOk m_X4_addMap := ⟨ea_X4_addMap, by decide +kernel, by decide +kernel, _, _, rfl, rfl⟩
set_option maxRecDepth 100000 in
theorem ea_X5_init : co_X5_init.all (entOk (mRow m_X5_init).2.2.2.2.1 (mRow m_X5_init).2.2.1 (mRow m_X5_init).2.1) = true := by decide +kernel
theorem md_X5_init : mdOk m_X5_init := ⟨ea_X5_init, by decide +kernel, by decide +kernel, _, _, rfl, rfl⟩
set_option maxRecDepth 100000 in
theorem ea_X5_copyFrom : co_X5_copyFrom.all (entOk (mRow m_X5_copyFrom).2.2.2.2.1 (mRow m_X5_copyFrom).2.2.1 (mRow m_X5_copyFrom).2.1) = true := by decide +kernel
theorem md_X5_copyFrom : mdOk m_X5_copyFrom := ⟨ea_X5_copyFrom, by decide +kernel, by decide +kernel, _, _, rfl, rfl⟩
set_option maxRecDepth 100000 in
theorem ea_X6_init : co_X6_init.all (entOk (mRow m_X6_init).2.2.2.2.1 (mRow m_X6_init).2.2.1 (mRow m_X6_init).2.1) = true := by decide +kernel
theorem md_X6_init : mdOk m_X6_init := ⟨ea_X6_init, by decide +kernel, by decide +kernel, _, _, rfl, rfl⟩
set_option maxRecDepth 100000 in
theorem ea_X6_start : co_X6_start.all (entOk (mRow m_X6_start).2.2.2.2.1 (mRow m_X6_start).2.2.1 (mRow m_X6_start).2.1) = true := by decide +kernel
theorem md_X6_start : mdOk m_X6_start := ⟨ea_X6_start, by decide +kernel, by decide +kernel, _, _, rfl, rfl⟩
set_option maxRecDepth 100000 in
theorem ea_X6_copyFrom : co_X6_copyFrom.all (entOk (mRow m_X6_copyFrom).2.2.2.2.1 (mRow m_X6_copyFrom).2.2.1 (mRow m_X6_copyFrom).2.1) = true := by decide +kernel
theorem md_X6_copyFrom : mdOk m_X6_copyFrom := ⟨ea_X6_copyFrom, by decide +kernel, by decide +kernel, _, _, rfl, rfl⟩
set_option maxRecDepth 100000 in
theorem ea_X6_isRegistered : co_X6_isRegistered.all (entOk (mRow m_X6_isRegistered).2.2.2.2.1 (mRow m_X6_isRegistered).2.2.1 (mRow m_X6_isRegistered).2.1) = true := by decide +kernel
theorem md_X6_isRegistered : mdOk m_X6_isRegistered := ⟨ea_X6_isRegistered, by decide +kernel, by decide +kernel, _, _, rfl, rfl⟩
set_option maxRecDepth 100000 in
theorem ea_X6_isUp : co_X6_isUp.all (entOk (mRow m_X6_isUp).2.2.2.2.1 (mRow m_X6_isUp).2.2.1 (mRow m_X6_isUp).2.1) = true := by decide +kernel
theorem md_X6_isUp : mdOk m_X6_isUp := ⟨ea_X6_isUp, by decide +kernel, by decide +kernel, _, _, rfl, rfl⟩
set_option maxRecDepth 100000 in
theorem ea_X7_init : co_X7_init.all (entOk (mRow m_X7_init).2.2.2.2.1 (mRow m_X7_init).2.2.1 (mRow m_X7_init).2.1) = true := by decide +kernel
theorem md_X7_init : mdOk m_X7_init := ⟨ea_X7_init, by decide +kernel, by decide +kernel, _, _, rfl, rfl⟩
set_option maxRecDepth 100000 in
theorem ea_X7_copyFrom : co_X7_copyFrom.all (entOk (mRow m_X7_copyFrom).2.2.2.2.1 (mRow m_X7_copyFrom).2.2.1 (mRow m_X7_copyFrom).2.1) = true := by decide +kernel
theorem md_X7_copyFrom : mdOk m_X7_copyFrom := ⟨ea_X7_copyFrom, by decide +kernel, by decide +kernel, _, _, rfl, rfl⟩
set_option maxRecDepth 100000 in
theorem ea_X7_fill : co_X7_fill.all (entOk (mRow m_X7_fill).2.2.2.2.1 (mRow m_X7_fill).2.2.1 (mRow m_X7_fill).2.1) = true := by decide +kernel
theorem md_X7_fill : mdOk m_X7_fill := ⟨ea_X7_fill, by decide +kernel, by decide +kernel, _, _, rfl, rfl⟩
set_option maxRecDepth 100000 in
theorem ea_X7_propertyOf : co_X7_propertyOf.all (entOk (mRow m_X7_propertyOf).2.2.2.2.1 (mRow m_X7_propertyOf).2.2.1 (mRow m_X7_propertyOf).2.1) = true := by decide +kernel
theorem md_X7_propertyOf : mdOk m_X7_propertyOf := ⟨ea_X7_propertyOf, by decide +kernel, by decide +kernel, _, _, rfl, rfl⟩
set_option maxRecDepth 100000 in
theorem ea_X7_isEmpty : co_X7_isEmpty.all (entOk (mRow m_X7_isEmpty).2.2.2.2.1 (mRow m_X7_isEmpty).2.2.1 (mRow m_X7_isEmpty).2.1) = true := by decide +kernel
theorem md_X7_isEmpty : mdOk m_X7_isEmpty := ⟨ea_X7_isEmpty, by decide +kernel, by decide +kernel, _, _, rfl, rfl⟩
set_option maxRecDepth 100000 in
theorem ea_X7_areEmpty : co_X7_areEmpty.all (entOk (mRow m_X7_areEmpty).2.2.2.2.1 (mRow m_X7_areEmpty).2.2.1 (mRow m_X7_areEmpty).2.1) = true := by decide +kernel
theorem md_X7_areEmpty : mdOk m_X7_areEmpty := ⟨ea_X7_areEmpty, by decide +kernel, by decide +kernel, _, _, rfl, rfl⟩
set_option maxRecDepth 100000 in
theorem ea_X7_have : co_X7_have.all (entOk (mRow m_X7_have).2.2.2.2.1 (mRow m_X7_have).2.2.1 (mRow m_X7_have).2.1) = true := by decide +kernel
theorem md_X7_have : mdOk m_X7_have := ⟨ea_X7_have, by decide +kernel, by decide +kernel, _, _, rfl, rfl⟩
set_option maxRecDepth 100000 in
theorem ea_X7_lowestPriority : co_X7_lowestPriority.all (entOk (mRow m_X7_lowestPriority).2.2.2.2.1 (mRow m_X7_lowestPriority).2.2.1 (mRow m_X7_lowestPriority).2.1) = true := by decide +kernel
theorem md_X7_lowestPriority : mdOk m_X7_lowestPriority := ⟨ea_X7_lowestPriority, by decide +kernel, by decide +kernel, _, _, rfl, rfl⟩
set_option maxRecDepth 100000 in
theorem ea_X7_weightThatCounts : co_X7_weightThatCounts.all (entOk (mRow m_X7_weightThatCounts).2.2.2.2.1 (mRow m_X7_weightThatCounts).2.2.1 (mRow m_X7_weightThatCounts).2.1) = true := by decide +kernel
theorem md_X7_weightThatCounts : mdOk m_X7_weightThatCounts := ⟨ea_X7_weightThatCounts, by decide +kernel, by decide +kernel, _, _, rfl, rfl⟩
set_option maxRecDepth 100000 in
theorem ea_X7_placeFor : co_X7_placeFor.all (entOk (mRow m_X7_placeFor).2.2.2.2.1 (mRow m_X7_placeFor).2.2.1 (mRow m_X7_placeFor).2.1) = true := by decide +kernel
theorem md_X7_placeFor : mdOk m_X7_placeFor := ⟨ea_X7_placeFor, by decide +kernel, by decide +kernel, _, _, rfl, rfl⟩
set_option maxRecDepth 100000 in
theorem ea_X8_init : co_X8_init.all (entOk (mRow m_X8_init).2.2.2.2.1 (mRow m_X8_init).2.2.1 (mRow m_X8_init).2.1) = true := by decide +kernel
theorem md_X8_init : mdOk m_X8_init := ⟨ea_X8_init, by decide +kernel, by decide +kernel, _, _, rfl, rfl⟩
set_option maxRecDepth 100000 in
theorem ea_X8_copyFrom : co_X8_copyFrom.all (entOk (mRow m_X8_copyFrom).2.2.2.2.1 (mRow m_X8_copyFrom).2.2.1 (mRow m_X8_copyFrom).2.1) = true := by decide +kernel
theorem md_X8_copyFrom : mdOk m_X8_copyFrom := ⟨ea_X8_copyFrom, by decide +kernel, by decide +kernel, _, _, rfl, rfl⟩
set_option maxRecDepth 100000 in
theorem ea_X8_isServer : co_X8_isServer.all (entOk (mRow m_X8_isServer).2.2.2.2.1 (mRow m_X8_isServer).2.2.1 (mRow m_X8_isServer).2.1) = true := by decide +kernel
theorem md_X8_isServer : mdOk m_X8_isServer := ⟨ea_X8_isServer, by decide +kernel, by decide +kernel, _, _, rfl, rfl⟩
set_option maxRecDepth 100000 in
theorem ea_X8_isSite : co_X8_isSite.all (entOk (mRow m_X8_isSite).2.2.2.2.1 (mRow m_X8_isSite).2.2.1 (mRow m_X8_isSite).2.1) = true := by decide +kernel
theorem md_X8_isSite : mdOk m_X8_isSite := ⟨ea_X8_isSite, by decide +kernel, by decide +kernel, _, _, rfl, rfl⟩
set_option maxRecDepth 100000 in
theorem ea_X8_isRouter : co_X8_isRouter.all (entOk (mRow m_X8_isRouter).2.2.2.2.1 (mRow m_X8_isRouter).2.2.1 (mRow m_X8_isRouter).2.1) = true := by decide +kernel
theorem md_X8_isRouter : mdOk m_X8_isRouter := ⟨ea_X8_isRouter, by decide +kernel, by decide +kernel, _, _, rfl, rfl⟩
set_option maxRecDepth 100000 in
theorem ea_X8_newServer : co_X8_newServer.all (entOk (mRow m_X8_newServer).2.2.2.2.1 (mRow m_X8_newServer).2.2.1 (mRow m_X8_newServer).2.1) = true := by decide +kernel
theorem md_X8_newServer : mdOk m_X8_newServer := ⟨ea_X8_newServer, by decide +kernel, by decide +kernel, _, _, rfl, rfl⟩
set_option maxRecDepth 100000 in
theorem ea_X8_newSite : co_X8_newSite.all (entOk (mRow m_X8_newSite).2.2.2.2.1 (mRow m_X8_newSite).2.2.1 (mRow m_X8_newSite).2.1) = true := by decide +kernel
theorem md_X8_newSite : mdOk m_X8_newSite := ⟨ea_X8_newSite, by decide +kernel, by decide +kernel, _, _, rfl, rfl⟩
set_option maxRecDepth 100000 in
theorem ea_X8_newRouter : co_X8_newRouter.all (entOk (mRow m_X8_newRouter).2.2.2.2.1 (mRow m_X8_newRouter).2.2.1 (mRow m_X8_newRouter).2.1) = true := by decide +kernel
theorem md_X8_newRouter : mdOk m_X8_newRouter := ⟨ea_X8_newRouter, by decide +kernel, by decide +kernel, _, _, rfl, rfl⟩
set_option maxRecDepth 100000 in
theorem ea_X8_fillSlot : co_X8_fillSlot.all (entOk (mRow m_X8_fillSlot).2.2.2.2.1 (mRow m_X8_fillSlot).2.2.1 (mRow m_X8_fillSlot).2.1) = true := by decide +kernel
theorem md_X8_fillSlot : mdOk m_X8_fillSlot := ⟨ea_X8_fillSlot, by decide +kernel, by decide +kernel, _, _, rfl, rfl⟩
set_option maxRecDepth 100000 in
theorem ea_X8_vacateSlot : co_X8_vacateSlot.all (entOk (mRow m_X8_vacateSlot).2.2.2.2.1 (mRow m_X8_vacateSlot).2.2.1 (mRow m_X8_vacateSlot).2.1) = true := by decide +kernel
theorem md_X8_vacateSlot : mdOk m_X8_vacateSlot := ⟨ea_X8_vacateSlot, by decide +kernel, by decide +kernel, _, _, rfl, rfl⟩
set_option maxRecDepth 100000 in
theorem ea_X8_startRegistration : co_X8_startRegistration.all (entOk (mRow m_X8_startRegistration).2.2.2.2.1 (mRow m_X8_startRegistration).2.2.1 (mRow m_X8_startRegistration).2.1) = true := by decide +kernel
theorem md_X8_startRegistration : mdOk m_X8_startRegistration := ⟨ea_X8_startRegistration, by decide +kernel, by decide +kernel, _, _, rfl, rfl⟩
set_option maxRecDepth 100000 in
theorem ea_X8_endRegistration : co_X8_endRegistration.all (entOk (mRow m_X8_endRegistration).2.2.2.2.1 (mRow m_X8_endRegistration).2.2.1 (mRow m_X8_endRegistration).2.1) = true := by decide +kernel
theorem md_X8_endRegistration : mdOk m_X8_endRegistration := ⟨ea_X8_endRegistration, by decide +kernel, by decide +kernel, _, _, rfl, rfl⟩
set_option maxRecDepth 100000 in
theorem ea_X8_changeMapLife : co_X8_changeMapLife.all (entOk (mRow m_X8_changeMapLife).2.2.2.2.1 (mRow m_X8_changeMapLife).2.2.1 (mRow m_X8_changeMapLife).2.1) = true := by decide +kernel
theorem md_X8_changeMapLife : mdOk m_X8_changeMapLife := ⟨ea_X8_changeMapLife, by decide +kernel, by decide +kernel, _, _, rfl, rfl⟩
set_option maxRecDepth 100000 in
theorem ea_X8_letPass : co_X8_letPass.all (entOk (mRow m_X8_letPass).2.2.2.2.1 (mRow m_X8_letPass).2.2.1 (mRow m_X8_letPass).2.1) = true := by decide +kernel
theorem md_X8_letPass : mdOk m_X8_letPass := ⟨ea_X8_letPass, by decide +kernel, by decide +kernel, _, _, rfl, rfl⟩
set_option maxRecDepth 100000 in
theorem ea_X8_emptyCache : co_X8_emptyCache.all (entOk (mRow m_X8_emptyCache).2.2.2.2.1 (mRow m_X8_emptyCache).2.2.1 (mRow m_X8_emptyCache).2.1) = true := by decide +kernel
theorem md_X8_emptyCache : mdOk m_X8_emptyCache := ⟨ea_X8_emptyCache, by decide +kernel, by decide +kernel, _, _, rfl, rfl⟩
set_option maxRecDepth 100000 in
theorem ea_X8_sendLetter : co_X8_sendLetter.all (entOk (mRow m_X8_sendLetter).2.2.2.2.1 (mRow m_X8_sendLetter).2.2.1 (mRow m_X8_sendLetter).2.1) = true := by decide +kernel
theorem md_X8_sendLetter : mdOk m_X8_sendLetter := ⟨ea_X8_sendLetter, by decide +kernel, by decide +kernel, _, _, rfl, rfl⟩
set_option maxRecDepth 100000 in
theorem ea_X8_placeByMap : co_X8_placeByMap.all (entOk (mRow m_X8_placeByMap).2.2.2.2.1 (mRow m_X8_placeByMap).2.2.1 (mRow m_X8_placeByMap).2.1) = true := by decide +kernel
theorem md_X8_placeByMap : mdOk m_X8_placeByMap := ⟨ea_X8_placeByMap, by decide +kernel, by decide +kernel, _, _, rfl, rfl⟩
set_option maxRecDepth 100000 in
theorem ea_X8_ask : co_X8_ask.all (entOk (mRow m_X8_ask).2.2.2.2.1 (mRow m_X8_ask).2.2.1 (mRow m_X8_ask).2.1) = true := by decide +kernel
theorem md_X8_ask : mdOk m_X8_ask := ⟨ea_X8_ask, by decide +kernel, by decide +kernel, _, _, rfl, rfl⟩
set_option maxRecDepth 100000 in
theorem ea_X8_goByProxy : co_X8_goByProxy.all (entOk (mRow m_X8_goByProxy).2.2.2.2.1 (mRow m_X8_goByProxy).2.2.1 (mRow m_X8_goByProxy).2.1) = true := by decide +kernel
theorem md_X8_goByProxy : mdOk m_X8_goByProxy := ⟨ea_X8_goByProxy, by decide +kernel, by decide +kernel, _, _, rfl, rfl⟩
set_option maxRecDepth 100000 in
theorem ea_X8_homeOf : co_X8_homeOf.all (entOk (mRow m_X8_homeOf).2.2.2.2.1 (mRow m_X8_homeOf).2.2.1 (mRow m_X8_homeOf).2.1) = true := by decide +kernel
theorem md_X8_homeOf : mdOk m_X8_homeOf := ⟨ea_X8_homeOf, by decide +kernel, by decide +kernel, _, _, rfl, rfl⟩
set_option maxRecDepth 100000 in
theorem ea_X8_homeOfSite : co_X8_homeOfSite.all (entOk (mRow m_X8_homeOfSite).2.2.2.2.1 (mRow m_X8_homeOfSite).2.2.1 (mRow m_X8_homeOfSite).2.1) = true := by decide +kernel
theorem md_X8_homeOfSite : mdOk m_X8_homeOfSite := ⟨ea_X8_homeOfSite, by decide +kernel, by decide +kernel, _, _, rfl, rfl⟩
set_option maxRecDepth 100000 in
theorem ea_X8_hopsTo : co_X8_hopsTo.all (entOk (mRow m_X8_hopsTo).2.2.2.2.1 (mRow m_X8_hopsTo).2.2.1 (mRow m_X8_hopsTo).2.1) = true := by decide +kernel
theorem md_X8_hopsTo : mdOk m_X8_hopsTo := ⟨ea_X8_hopsTo, by decide +kernel, by decide +kernel, _, _, rfl, rfl⟩
set_option maxRecDepth 100000 in
theorem ea_X8_answerFor : co_X8_answerFor.all (entOk (mRow m_X8_answerFor).2.2.2.2.1 (mRow m_X8_answerFor).2.2.1 (mRow m_X8_answerFor).2.1) = true := by decide +kernel
theorem md_X8_answerFor : mdOk m_X8_answerFor := ⟨ea_X8_answerFor, by decide +kernel, by decide +kernel, _, _, rfl, rfl⟩
set_option maxRecDepth 100000 in
theorem ea_X8_siteEndingAt : co_X8_siteEndingAt.all (entOk (mRow m_X8_siteEndingAt).2.2.2.2.1 (mRow m_X8_siteEndingAt).2.2.1 (mRow m_X8_siteEndingAt).2.1) = true := by decide +kernel
theorem md_X8_siteEndingAt : mdOk m_X8_siteEndingAt := ⟨ea_X8_siteEndingAt, by decide +kernel, by decide +kernel, _, _, rfl, rfl⟩
set_option maxRecDepth 100000 in
theorem ea_X8_sitesEndingAheadOf : co_X8_sitesEndingAheadOf.all (entOk (mRow m_X8_sitesEndingAheadOf).2.2.2.2.1 (mRow m_X8_sitesEndingAheadOf).2.2.1 (mRow m_X8_sitesEndingAheadOf).2.1) = true := by decide +kernel
theorem md_X8_sitesEndingAheadOf : mdOk m_X8_sitesEndingAheadOf := ⟨ea_X8_sitesEndingAheadOf, by decide +kernel, by decide +kernel, _, _, rfl, rfl⟩
set_option maxRecDepth 100000 in
theorem ea_X8_serverProperty : co_X8_serverProperty.all (entOk (mRow m_X8_serverProperty).2.2.2.2.1 (mRow m_X8_serverProperty).2.2.1 (mRow m_X8_serverProperty).2.1) = true := by decide +kernel
theorem md_X8_serverProperty : mdOk m_X8_serverProperty := ⟨ea_X8_serverProperty, by decide +kernel, by decide +kernel, _, _, rfl, rfl⟩
set_option maxRecDepth 100000 in
theorem ea_X8_childrenOf : co_X8_childrenOf.all (entOk (mRow m_X8_childrenOf).2.2.2.2.1 (mRow m_X8_childrenOf).2.2.1 (mRow m_X8_childrenOf).2.1) = true := by decide +kernel
theorem md_X8_childrenOf : mdOk m_X8_childrenOf := ⟨ea_X8_childrenOf, by decide +kernel, by decide +kernel, _, _, rfl, rfl⟩
set_option maxRecDepth 100000 in
theorem ea_X8_sitesAtHome : co_X8_sitesAtHome.all (entOk (mRow m_X8_sitesAtHome).2.2.2.2.1 (mRow m_X8_sitesAtHome).2.2.1 (mRow m_X8_sitesAtHome).2.1) = true := by decide +kernel
theorem md_X8_sitesAtHome : mdOk m_X8_sitesAtHome := ⟨ea_X8_sitesAtHome, by decide +kernel, by decide +kernel, _, _, rfl, rfl⟩
set_option maxRecDepth 100000 in
theorem ea_X8_siteProperty : co_X8_siteProperty.all (entOk (mRow m_X8_siteProperty).2.2.2.2.1 (mRow m_X8_siteProperty).2.2.1 (mRow m_X8_siteProperty).2.1) = true := by decide +kernel
theorem md_X8_siteProperty : mdOk m_X8_siteProperty := ⟨ea_X8_siteProperty, by decide +kernel, by decide +kernel, _, _, rfl, rfl⟩
set_option maxRecDepth 100000 in
theorem ea_X8_mapsOf : co_X8_mapsOf.all (entOk (mRow m_X8_mapsOf).2.2.2.2.1 (mRow m_X8_mapsOf).2.2.1 (mRow m_X8_mapsOf).2.1) = true := by decide +kernel
theorem md_X8_mapsOf : mdOk m_X8_mapsOf := ⟨ea_X8_mapsOf, by decide +kernel, by decide +kernel, _, _, rfl, rfl⟩
set_option maxRecDepth 100000 in
theorem ea_X8_totalOf : co_X8_totalOf.all (entOk (mRow m_X8_totalOf).2.2.2.2.1 (mRow m_X8_totalOf).2.2.1 (mRow m_X8_totalOf).2.1) = true := by decide +kernel
theorem md_X8_totalOf : mdOk m_X8_totalOf := ⟨ea_X8_totalOf, by decide +kernel, by decide +kernel, _, _, rfl, rfl⟩
set_option maxRecDepth 100000 in
theorem ea_X8_sitesUp : co_X8_sitesUp.all (entOk (mRow m_X8_sitesUp).2.2.2.2.1 (mRow m_X8_sitesUp).2.2.1 (mRow m_X8_sitesUp).2.1) = true := by decide +kernel
theorem md_X8_sitesUp : mdOk m_X8_sitesUp := ⟨ea_X8_sitesUp, by decide +kernel, by decide +kernel, _, _, rfl, rfl⟩
set_option maxRecDepth 100000 in
theorem ea_X8_sumOverRouters : co_X8_sumOverRouters.all (entOk (mRow m_X8_sumOverRouters).2.2.2.2.1 (mRow m_X8_sumOverRouters).2.2.1 (mRow m_X8_sumOverRouters).2.1) = true := by decide +kernel
theorem md_X8_sumOverRouters : mdOk m_X8_sumOverRouters := ⟨ea_X8_sumOverRouters, by decide +kernel, by decide +kernel, _, _, rfl, rfl⟩
set_option maxRecDepth 100000 in
theorem ea_X8_namesWithAnswer : co_X8_namesWithAnswer.all (entOk (mRow m_X8_namesWithAnswer).2.2.2.2.1 (mRow m_X8_namesWithAnswer).2.2.1 (mRow m_X8_namesWithAnswer).2.1) = true := by decide +kernel
theorem md_X8_namesWithAnswer : mdOk m_X8_namesWithAnswer := ⟨ea_X8_namesWithAnswer, by decide +kernel, by decide +kernel, _, _, rfl, rfl⟩
set_option maxRecDepth 100000 in
theorem ea_X9_init : co_X9_init.all (entOk (mRow m_X9_init).2.2.2.2.1 (mRow m_X9_init).2.2.1 (mRow m_X9_init).2.1) = true := by decide +kernel
theorem md_X9_init : mdOk m_X9_init := ⟨ea_X9_init, by decide +kernel, by decide +kernel, _, _, rfl, rfl⟩
set_option maxRecDepth 100000 in
theorem ea_X9_addServer : co_X9_addServer.all (entOk (mRow m_X9_addServer).2.2.2.2.1 (mRow m_X9_addServer).2.2.1 (mRow m_X9_addServer).2.1) = true := by decide +kernel
theorem md_X9_addServer : mdOk m_X9_addServer := ⟨ea_X9_addServer, by decide +kernel, by decide +kernel, _, _, rfl, rfl⟩
set_option maxRecDepth 100000 in
theorem ea_X9_addSite : co_X9_addSite.all (entOk (mRow m_X9_addSite).2.2.2.2.1 (mRow m_X9_addSite).2.2.1 (mRow m_X9_addSite).2.1) = true := by decide +kernel
theorem md_X9_addSite : mdOk m_X9_addSite := ⟨ea_X9_addSite, by decide +kernel, by decide +kernel, _, _, rfl, rfl⟩
set_option maxRecDepth 100000 in
theorem ea_X9_addRouter : co_X9_addRouter.all (entOk (mRow m_X9_addRouter).2.2.2.2.1 (mRow m_X9_addRouter).2.2.1 (mRow m_X9_addRouter).2.1) = true := by decide +kernel
theorem md_X9_addRouter : mdOk m_X9_addRouter := ⟨ea_X9_addRouter, by decide +kernel, by decide +kernel, _, _, rfl, rfl⟩
set_option maxRecDepth 100000 in
theorem ea_X9_setSlot : co_X9_setSlot.all (entOk (mRow m_X9_setSlot).2.2.2.2.1 (mRow m_X9_setSlot).2.2.1 (mRow m_X9_setSlot).2.1) = true := by decide +kernel
theorem md_X9_setSlot : mdOk m_X9_setSlot := ⟨ea_X9_setSlot, by decide +kernel, by decide +kernel, _, _, rfl, rfl⟩
set_option maxRecDepth 100000 in
theorem ea_X9_emptySlot : co_X9_emptySlot.all (entOk (mRow m_X9_emptySlot).2.2.2.2.1 (mRow m_X9_emptySlot).2.2.1 (mRow m_X9_emptySlot).2.1) = true := by decide +kernel
theorem md_X9_emptySlot : mdOk m_X9_emptySlot := ⟨ea_X9_emptySlot, by decide +kernel, by decide +kernel, _, _, rfl, rfl⟩
set_option maxRecDepth 100000 in
theorem ea_X9_register : co_X9_register.all (entOk (mRow m_X9_register).2.2.2.2.1 (mRow m_X9_register).2.2.1 (mRow m_X9_register).2.1) = true := by decide +kernel
theorem md_X9_register : mdOk m_X9_register := ⟨ea_X9_register, by decide +kernel, by decide +kernel, _, _, rfl, rfl⟩
set_option maxRecDepth 100000 in
theorem ea_X9_unregister : co_X9_unregister.all (entOk (mRow m_X9_unregister).2.2.2.2.1 (mRow m_X9_unregister).2.2.1 (mRow m_X9_unregister).2.1) = true := by decide +kernel
theorem md_X9_unregister : mdOk m_X9_unregister := ⟨ea_X9_unregister, by decide +kernel, by decide +kernel, _, _, rfl, rfl⟩
set_option maxRecDepth 100000 in
theorem ea_X9_setMapLife : co_X9_setMapLife.all (entOk (mRow m_X9_setMapLife).2.2.2.2.1 (mRow m_X9_setMapLife).2.2.1 (mRow m_X9_setMapLife).2.1) = true := by decide +kernel
theorem md_X9_setMapLife : mdOk m_X9_setMapLife := ⟨ea_X9_setMapLife, by decide +kernel, by decide +kernel, _, _, rfl, rfl⟩
set_option maxRecDepth 100000 in
theorem ea_X9_send : co_X9_send.all (entOk (mRow m_X9_send).2.2.2.2.1 (mRow m_X9_send).2.2.1 (mRow m_X9_send).2.1) = true := by decide +kernel
theorem md_X9_send : mdOk m_X9_send := ⟨ea_X9_send, by decide +kernel, by decide +kernel, _, _, rfl, rfl⟩
set_option maxRecDepth 100000 in
theorem ea_X9_pass : co_X9_pass.all (entOk (mRow m_X9_pass).2.2.2.2.1 (mRow m_X9_pass).2.2.1 (mRow m_X9_pass).2.1) = true := by decide +kernel
theorem md_X9_pass : mdOk m_X9_pass := ⟨ea_X9_pass, by decide +kernel, by decide +kernel, _, _, rfl, rfl⟩
set_option maxRecDepth 100000 in
theorem ea_X9_forget : co_X9_forget.all (entOk (mRow m_X9_forget).2.2.2.2.1 (mRow m_X9_forget).2.2.1 (mRow m_X9_forget).2.1) = true := by decide +kernel
theorem md_X9_forget : mdOk m_X9_forget := ⟨ea_X9_forget, by decide +kernel, by decide +kernel, _, _, rfl, rfl⟩
set_option maxRecDepth 100000 in
theorem ea_X9_undo : co_X9_undo.all (entOk (mRow m_X9_undo).2.2.2.2.1 (mRow m_X9_undo).2.2.1 (mRow m_X9_undo).2.1) = true := by decide +kernel
theorem md_X9_undo : mdOk m_X9_undo := ⟨ea_X9_undo, by decide +kernel, by decide +kernel, _, _, rfl, rfl⟩
set_option maxRecDepth 100000 in
theorem ea_X9_save : co_X9_save.all (entOk (mRow m_X9_save).2.2.2.2.1 (mRow m_X9_save).2.2.1 (mRow m_X9_save).2.1) = true := by decide +kernel
theorem md_X9_save : mdOk m_X9_save := ⟨ea_X9_save, by decide +kernel, by decide +kernel, _, _, rfl, rfl⟩
set_option maxRecDepth 100000 in
theorem ea_X9_restore : co_X9_restore.all (entOk (mRow m_X9_restore).2.2.2.2.1 (mRow m_X9_restore).2.2.1 (mRow m_X9_restore).2.1) = true := by decide +kernel
theorem md_X9_restore : mdOk m_X9_restore := ⟨ea_X9_restore, by decide +kernel, by decide +kernel, _, _, rfl, rfl⟩
set_option maxRecDepth 100000 in
theorem ea_X9_server : co_X9_server.all (entOk (mRow m_X9_server).2.2.2.2.1 (mRow m_X9_server).2.2.1 (mRow m_X9_server).2.1) = true := by decide +kernel
theorem md_X9_server : mdOk m_X9_server := ⟨ea_X9_server, by decide +kernel, by decide +kernel, _, _, rfl, rfl⟩
set_option maxRecDepth 100000 in
theorem ea_X9_site : co_X9_site.all (entOk (mRow m_X9_site).2.2.2.2.1 (mRow m_X9_site).2.2.1 (mRow m_X9_site).2.1) = true := by decide +kernel
theorem md_X9_site : mdOk m_X9_site := ⟨ea_X9_site, by decide +kernel, by decide +kernel, _, _, rfl, rfl⟩
set_option maxRecDepth 100000 in
theorem ea_X9_slot : co_X9_slot.all (entOk (mRow m_X9_slot).2.2.2.2.1 (mRow m_X9_slot).2.2.1 (mRow m_X9_slot).2.1) = true := by decide +kernel
theorem md_X9_slot : mdOk m_X9_slot := ⟨ea_X9_slot, by decide +kernel, by decide +kernel, _, _, rfl, rfl⟩
set_option maxRecDepth 100000 in
theorem ea_X9_router : co_X9_router.all (entOk (mRow m_X9_router).2.2.2.2.1 (mRow m_X9_router).2.2.1 (mRow m_X9_router).2.1) = true := by decide +kernel
theorem md_X9_router : mdOk m_X9_router := ⟨ea_X9_router, by decide +kernel, by decide +kernel, _, _, rfl, rfl⟩
set_option maxRecDepth 100000 in
theorem ea_X9_map : co_X9_map.all (entOk (mRow m_X9_map).2.2.2.2.1 (mRow m_X9_map).2.2.1 (mRow m_X9_map).2.1) = true := by decide +kernel
theorem md_X9_map : mdOk m_X9_map := ⟨ea_X9_map, by decide +kernel, by decide +kernel, _, _, rfl, rfl⟩
set_option maxRecDepth 100000 in
theorem ea_X9_answer : co_X9_answer.all (entOk (mRow m_X9_answer).2.2.2.2.1 (mRow m_X9_answer).2.2.1 (mRow m_X9_answer).2.1) = true := by decide +kernel
theorem md_X9_answer : mdOk m_X9_answer := ⟨ea_X9_answer, by decide +kernel, by decide +kernel, _, _, rfl, rfl⟩
set_option maxRecDepth 100000 in
theorem ea_X9_endingNext : co_X9_endingNext.all (entOk (mRow m_X9_endingNext).2.2.2.2.1 (mRow m_X9_endingNext).2.2.1 (mRow m_X9_endingNext).2.1) = true := by decide +kernel
theorem md_X9_endingNext : mdOk m_X9_endingNext := ⟨ea_X9_endingNext, by decide +kernel, by decide +kernel, _, _, rfl, rfl⟩
set_option maxRecDepth 100000 in
theorem ea_X9_total : co_X9_total.all (entOk (mRow m_X9_total).2.2.2.2.1 (mRow m_X9_total).2.2.1 (mRow m_X9_total).2.1) = true := by decide +kernel
theorem md_X9_total : mdOk m_X9_total := ⟨ea_X9_total, by decide +kernel, by decide +kernel, _, _, rfl, rfl⟩
set_option maxRecDepth 100000 in
theorem ea_X9_wouldReach : co_X9_wouldReach.all (entOk (mRow m_X9_wouldReach).2.2.2.2.1 (mRow m_X9_wouldReach).2.2.1 (mRow m_X9_wouldReach).2.1) = true := by decide +kernel
theorem md_X9_wouldReach : mdOk m_X9_wouldReach := ⟨ea_X9_wouldReach, by decide +kernel, by decide +kernel, _, _, rfl, rfl⟩
set_option maxRecDepth 100000 in
theorem ea_X9_wouldAsk : co_X9_wouldAsk.all (entOk (mRow m_X9_wouldAsk).2.2.2.2.1 (mRow m_X9_wouldAsk).2.2.1 (mRow m_X9_wouldAsk).2.1) = true := by decide +kernel
theorem md_X9_wouldAsk : mdOk m_X9_wouldAsk := ⟨ea_X9_wouldAsk, by decide +kernel, by decide +kernel, _, _, rfl, rfl⟩
set_option maxRecDepth 100000 in
theorem ea_X9_recorded : co_X9_recorded.all (entOk (mRow m_X9_recorded).2.2.2.2.1 (mRow m_X9_recorded).2.2.1 (mRow m_X9_recorded).2.1) = true := by decide +kernel
theorem md_X9_recorded : mdOk m_X9_recorded := ⟨ea_X9_recorded, by decide +kernel, by decide +kernel, _, _, rfl, rfl⟩
set_option maxRecDepth 100000 in
theorem ea_X9_isSave : co_X9_isSave.all (entOk (mRow m_X9_isSave).2.2.2.2.1 (mRow m_X9_isSave).2.2.1 (mRow m_X9_isSave).2.1) = true := by decide +kernel
theorem md_X9_isSave : mdOk m_X9_isSave := ⟨ea_X9_isSave, by decide +kernel, by decide +kernel, _, _, rfl, rfl⟩
set_option maxRecDepth 100000 in
theorem ea_X9_isSlot : co_X9_isSlot.all (entOk (mRow m_X9_isSlot).2.2.2.2.1 (mRow m_X9_isSlot).2.2.1 (mRow m_X9_isSlot).2.1) = true := by decide +kernel
theorem md_X9_isSlot : mdOk m_X9_isSlot := ⟨ea_X9_isSlot, by decide +kernel, by decide +kernel, _, _, rfl, rfl⟩
set_option maxRecDepth 100000 in
theorem ea_X9_isName : co_X9_isName.all (entOk (mRow m_X9_isName).2.2.2.2.1 (mRow m_X9_isName).2.2.1 (mRow m_X9_isName).2.1) = true := by decide +kernel
theorem md_X9_isName : mdOk m_X9_isName := ⟨ea_X9_isName, by decide +kernel, by decide +kernel, _, _, rfl, rfl⟩
set_option maxRecDepth 100000 in
theorem ea_X9_isFlow : co_X9_isFlow.all (entOk (mRow m_X9_isFlow).2.2.2.2.1 (mRow m_X9_isFlow).2.2.1 (mRow m_X9_isFlow).2.1) = true := by decide +kernel
theorem md_X9_isFlow : mdOk m_X9_isFlow := ⟨ea_X9_isFlow, by decide +kernel, by decide +kernel, _, _, rfl, rfl⟩
set_option maxRecDepth 100000 in
theorem ea_X9_isPlaceOfSlot : co_X9_isPlaceOfSlot.all (entOk (mRow m_X9_isPlaceOfSlot).2.2.2.2.1 (mRow m_X9_isPlaceOfSlot).2.2.1 (mRow m_X9_isPlaceOfSlot).2.1) = true := by decide +kernel
theorem md_X9_isPlaceOfSlot : mdOk m_X9_isPlaceOfSlot := ⟨ea_X9_isPlaceOfSlot, by decide +kernel, by decide +kernel, _, _, rfl, rfl⟩
set_option maxRecDepth 100000 in
theorem ea_X9_isBlock : co_X9_isBlock.all (entOk (mRow m_X9_isBlock).2.2.2.2.1 (mRow m_X9_isBlock).2.2.1 (mRow m_X9_isBlock).2.1) = true := by decide +kernel
theorem md_X9_isBlock : mdOk m_X9_isBlock := ⟨ea_X9_isBlock, by decide +kernel, by decide +kernel, _, _, rfl, rfl⟩
set_option maxRecDepth 100000 in
theorem ea_J6_bitCount_0f7a4 : co_J6_bitCount_0f7a4.all (entOk (mRow m_J6_bitCount_0f7a4).2.2.2.2.1 (mRow m_J6_bitCount_0f7a4).2.2.1 (mRow m_J6_bitCount_0f7a4).2.1) = true := by decide +kernel
theorem md_J6_bitCount_0f7a4 : mdOk m_J6_bitCount_0f7a4 := ⟨ea_J6_bitCount_0f7a4, by decide +kernel, by decide +kernel, _, _, rfl, rfl⟩
set_option maxRecDepth 100000 in
theorem ea_J9_floorMod_7cf53 : co_J9_floorMod_7cf53.all (entOk (mRow m_J9_floorMod_7cf53).2.2.2.2.1 (mRow m_J9_floorMod_7cf53).2.2.1 (mRow m_J9_floorMod_7cf53).2.1) = true := by decide +kernel
theorem md_J9_floorMod_7cf53 : mdOk m_J9_floorMod_7cf53 := ⟨ea_J9_floorMod_7cf53, by decide +kernel, by decide +kernel, _, _, rfl, rfl⟩
set_option maxRecDepth 100000 in
theorem ea_L_cell : co_L_cell.all (entOk (mRow m_L_cell).2.2.2.2.1 (mRow m_L_cell).2.2.1 (mRow m_L_cell).2.1) = true := by decide +kernel
theorem md_L_cell : mdOk m_L_cell := ⟨ea_L_cell, by decide +kernel, by decide +kernel, _, _, rfl, rfl⟩
set_option maxRecDepth 100000 in
theorem ea_L_up : co_L_up.all (entOk (mRow m_L_up).2.2.2.2.1 (mRow m_L_up).2.2.1 (mRow m_L_up).2.1) = true := by decide +kernel
theorem md_L_up : mdOk m_L_up := ⟨ea_L_up, by decide +kernel, by decide +kernel, _, _, rfl, rfl⟩
set_option maxRecDepth 100000 in
theorem ea_L_size : co_L_size.all (entOk (mRow m_L_size).2.2.2.2.1 (mRow m_L_size).2.2.1 (mRow m_L_size).2.1) = true := by decide +kernel
theorem md_L_size : mdOk m_L_size := ⟨ea_L_size, by decide +kernel, by decide +kernel, _, _, rfl, rfl⟩
set_option maxRecDepth 100000 in
theorem ea_L_any : co_L_any.all (entOk (mRow m_L_any).2.2.2.2.1 (mRow m_L_any).2.2.1 (mRow m_L_any).2.1) = true := by decide +kernel
theorem md_L_any : mdOk m_L_any := ⟨ea_L_any, by decide +kernel, by decide +kernel, _, _, rfl, rfl⟩
set_option maxRecDepth 100000 in
theorem ea_L_turn : co_L_turn.all (entOk (mRow m_L_turn).2.2.2.2.1 (mRow m_L_turn).2.2.1 (mRow m_L_turn).2.1) = true := by decide +kernel
theorem md_L_turn : mdOk m_L_turn := ⟨ea_L_turn, by decide +kernel, by decide +kernel, _, _, rfl, rfl⟩
set_option maxRecDepth 100000 in
theorem ea_L_name : co_L_name.all (entOk (mRow m_L_name).2.2.2.2.1 (mRow m_L_name).2.2.1 (mRow m_L_name).2.1) = true := by decide +kernel
theorem md_L_name : mdOk m_L_name := ⟨ea_L_name, by decide +kernel, by decide +kernel, _, _, rfl, rfl⟩
set_option maxRecDepth 100000 in
theorem ea_L_hasPlace : co_L_hasPlace.all (entOk (mRow m_L_hasPlace).2.2.2.2.1 (mRow m_L_hasPlace).2.2.1 (mRow m_L_hasPlace).2.1) = true := by decide +kernel
theorem md_L_hasPlace : mdOk m_L_hasPlace := ⟨ea_L_hasPlace, by decide +kernel, by decide +kernel, _, _, rfl, rfl⟩
set_option maxRecDepth 100000 in
theorem ea_L_areRouters : co_L_areRouters.all (entOk (mRow m_L_areRouters).2.2.2.2.1 (mRow m_L_areRouters).2.2.1 (mRow m_L_areRouters).2.1) = true := by decide +kernel
theorem md_L_areRouters : mdOk m_L_areRouters := ⟨ea_L_areRouters, by decide +kernel, by decide +kernel, _, _, rfl, rfl⟩
set_option maxRecDepth 100000 in
theorem ea_L_areEnding : co_L_areEnding.all (entOk (mRow m_L_areEnding).2.2.2.2.1 (mRow m_L_areEnding).2.2.1 (mRow m_L_areEnding).2.1) = true := by decide +kernel
theorem md_L_areEnding : mdOk m_L_areEnding := ⟨ea_L_areEnding, by decide +kernel, by decide +kernel, _, _, rfl, rfl⟩
theorem mlT_lt : ∀ q ∈ mlT, q.2.2.1 < 123 := by decide +kernel
theorem initL_ok : ∀ m, m < 123 → m ∉ initL → (mRow m).1.name ≠ "<init>" := by decide +kernel
set_option maxRecDepth 100000 in
theorem md_all : ∀ m, m < 123 → mdOk m := fun m h => match m, h with
  | 0, _ => md_X0_init
  | 1, _ => md_X1_init
  | 2, _ => md_X1_become
  | 3, _ => md_X1_copyFrom
  | 4, _ => md_X1_isAt
  | 5, _ => md_X1_has
  | 6, _ => md_X1_holds
  | 7, _ => md_X1_meets
  | 8, _ => md_X2_init
  | 9, _ => md_X2_become
  | 10, _ => md_X2_copyFrom
  | 11, _ => md_X2_isHolding
  | 12, _ => md_X2_property
  | 13, _ => md_X3_init
  | 14, _ => md_X3_row
  | 15, _ => md_X3_draft
  | 16, _ => md_X3_keepDraft
  | 17, _ => md_X3_takeLatest
  | 18, _ => md_X4_init
  | 19, _ => md_X4_start
  | 20, _ => md_X4_copyFrom
  | 21, _ => md_X4_isPlace
  | 22, _ => md_X4_property
  | 23, _ => md_X4_moveToFront
  | 24, _ => md_X4_drop
  | 25, _ => md_X4_dropEnded
  | 26, _ => md_X4_placeOfSite
  | 27, _ => md_X4_placeOfSmallest
  | 28, _ => md_X4_addMap
  | 29, _ => md_X5_init
  | 30, _ => md_X5_copyFrom
  | 31, _ => md_X6_init
  | 32, _ => md_X6_start
  | 33, _ => md_X6_copyFrom
  | 34, _ => md_X6_isRegistered
  | 35, _ => md_X6_isUp
  | 36, _ => md_X7_init
  | 37, _ => md_X7_copyFrom
  | 38, _ => md_X7_fill
  | 39, _ => md_X7_propertyOf
  | 40, _ => md_X7_isEmpty
  | 41, _ => md_X7_areEmpty
  | 42, _ => md_X7_have
  | 43, _ => md_X7_lowestPriority
  | 44, _ => md_X7_weightThatCounts
  | 45, _ => md_X7_placeFor
  | 46, _ => md_X8_init
  | 47, _ => md_X8_copyFrom
  | 48, _ => md_X8_isServer
  | 49, _ => md_X8_isSite
  | 50, _ => md_X8_isRouter
  | 51, _ => md_X8_newServer
  | 52, _ => md_X8_newSite
  | 53, _ => md_X8_newRouter
  | 54, _ => md_X8_fillSlot
  | 55, _ => md_X8_vacateSlot
  | 56, _ => md_X8_startRegistration
  | 57, _ => md_X8_endRegistration
  | 58, _ => md_X8_changeMapLife
  | 59, _ => md_X8_letPass
  | 60, _ => md_X8_emptyCache
  | 61, _ => md_X8_sendLetter
  | 62, _ => md_X8_placeByMap
  | 63, _ => md_X8_ask
  | 64, _ => md_X8_goByProxy
  | 65, _ => md_X8_homeOf
  | 66, _ => md_X8_homeOfSite
  | 67, _ => md_X8_hopsTo
  | 68, _ => md_X8_answerFor
  | 69, _ => md_X8_siteEndingAt
  | 70, _ => md_X8_sitesEndingAheadOf
  | 71, _ => md_X8_serverProperty
  | 72, _ => md_X8_childrenOf
  | 73, _ => md_X8_sitesAtHome
  | 74, _ => md_X8_siteProperty
  | 75, _ => md_X8_mapsOf
  | 76, _ => md_X8_totalOf
  | 77, _ => md_X8_sitesUp
  | 78, _ => md_X8_sumOverRouters
  | 79, _ => md_X8_namesWithAnswer
  | 80, _ => md_X9_init
  | 81, _ => md_X9_addServer
  | 82, _ => md_X9_addSite
  | 83, _ => md_X9_addRouter
  | 84, _ => md_X9_setSlot
  | 85, _ => md_X9_emptySlot
  | 86, _ => md_X9_register
  | 87, _ => md_X9_unregister
  | 88, _ => md_X9_setMapLife
  | 89, _ => md_X9_send
  | 90, _ => md_X9_pass
  | 91, _ => md_X9_forget
  | 92, _ => md_X9_undo
  | 93, _ => md_X9_save
  | 94, _ => md_X9_restore
  | 95, _ => md_X9_server
  | 96, _ => md_X9_site
  | 97, _ => md_X9_slot
  | 98, _ => md_X9_router
  | 99, _ => md_X9_map
  | 100, _ => md_X9_answer
  | 101, _ => md_X9_endingNext
  | 102, _ => md_X9_total
  | 103, _ => md_X9_wouldReach
  | 104, _ => md_X9_wouldAsk
  | 105, _ => md_X9_recorded
  | 106, _ => md_X9_isSave
  | 107, _ => md_X9_isSlot
  | 108, _ => md_X9_isName
  | 109, _ => md_X9_isFlow
  | 110, _ => md_X9_isPlaceOfSlot
  | 111, _ => md_X9_isBlock
  | 112, _ => md_J6_bitCount_0f7a4
  | 113, _ => md_J9_floorMod_7cf53
  | 114, _ => md_L_cell
  | 115, _ => md_L_up
  | 116, _ => md_L_size
  | 117, _ => md_L_any
  | 118, _ => md_L_turn
  | 119, _ => md_L_name
  | 120, _ => md_L_hasPlace
  | 121, _ => md_L_areRouters
  | 122, _ => md_L_areEnding
  | n + 123, h => absurd h (by omega)
set_option maxRecDepth 100000 in
theorem ea_L_view : co_L_view.all (entOkL (mRow m_L_view).2.2.1 (mRow m_L_view).2.1) = true := by decide +kernel
theorem md_L_view : mdOkL m_L_view := ⟨ea_L_view, by decide +kernel, by decide +kernel, _, _, rfl, rfl⟩
set_option maxRecDepth 100000 in
theorem ea_L_isSent : co_L_isSent.all (entOkL (mRow m_L_isSent).2.2.1 (mRow m_L_isSent).2.1) = true := by decide +kernel
theorem md_L_isSent : mdOkL m_L_isSent := ⟨ea_L_isSent, by decide +kernel, by decide +kernel, _, _, rfl, rfl⟩
set_option maxRecDepth 100000 in
theorem ea_L_isUndone : co_L_isUndone.all (entOkL (mRow m_L_isUndone).2.2.1 (mRow m_L_isUndone).2.1) = true := by decide +kernel
theorem md_L_isUndone : mdOkL m_L_isUndone := ⟨ea_L_isUndone, by decide +kernel, by decide +kernel, _, _, rfl, rfl⟩
set_option maxRecDepth 100000 in
theorem ea_L_isSaved : co_L_isSaved.all (entOkL (mRow m_L_isSaved).2.2.1 (mRow m_L_isSaved).2.1) = true := by decide +kernel
theorem md_L_isSaved : mdOkL m_L_isSaved := ⟨ea_L_isSaved, by decide +kernel, by decide +kernel, _, _, rfl, rfl⟩
set_option maxRecDepth 100000 in
theorem ex_L_law_0 : cx_L_law_0.all (entOkL (mRow m_L_law).2.2.1 (mRow m_L_law).2.1) = true := by decide +kernel
set_option maxRecDepth 100000 in
theorem ex_L_law_1 : cx_L_law_1.all (entOkL (mRow m_L_law).2.2.1 (mRow m_L_law).2.1) = true := by decide +kernel
set_option maxRecDepth 100000 in
theorem ex_L_law_2 : cx_L_law_2.all (entOkL (mRow m_L_law).2.2.1 (mRow m_L_law).2.1) = true := by decide +kernel
set_option maxRecDepth 100000 in
theorem ex_L_law_3 : cx_L_law_3.all (entOkL (mRow m_L_law).2.2.1 (mRow m_L_law).2.1) = true := by decide +kernel
set_option maxRecDepth 100000 in
theorem ex_L_law_4 : cx_L_law_4.all (entOkL (mRow m_L_law).2.2.1 (mRow m_L_law).2.1) = true := by decide +kernel
set_option maxRecDepth 100000 in
theorem ex_L_law_5 : cx_L_law_5.all (entOkL (mRow m_L_law).2.2.1 (mRow m_L_law).2.1) = true := by decide +kernel
set_option maxRecDepth 100000 in
theorem ex_L_law_6 : cx_L_law_6.all (entOkL (mRow m_L_law).2.2.1 (mRow m_L_law).2.1) = true := by decide +kernel
theorem ea_L_law : co_L_law.all (entOkL (mRow m_L_law).2.2.1 (mRow m_L_law).2.1) = true := by
  unfold co_L_law
  simp only [List.all_append, ex_L_law_0, ex_L_law_1, ex_L_law_2, ex_L_law_3, ex_L_law_4, ex_L_law_5, ex_L_law_6, Bool.and_self]
theorem md_L_law : mdOkL m_L_law := ⟨ea_L_law, by decide +kernel, by decide +kernel, _, _, rfl, rfl⟩
theorem mlT2_ge : ∀ q ∈ mlT2, 123 ≤ q.2.2.1 ∧ q.2.2.1 < 128 := by decide +kernel
theorem mdL_all : ∀ m, 123 ≤ m → m < 128 → mdOkL m := fun m h h2 => match m, h, h2 with
  | 123, _, _ => md_L_view
  | 124, _, _ => md_L_isSent
  | 125, _, _ => md_L_isUndone
  | 126, _, _ => md_L_isSaved
  | 127, _, _ => md_L_law
  | n + 128, _, h => absurd h (by omega)
end
section
/-! THE STORE IN THE HEAP: every object has its address; the cells hold what the store says -/
def cntK (c : Nat) : Nat := match c with
  | 0 => 1 | 1 => 360 | 2 => 200 | 3 => 1 | 4 => 40 | 5 => 80 | 6 => 80 | 7 => 280 | 8 => 10 | 9 => 1 | 10 => 0
  | 11 => 10 | 12 => 10 | 13 => 10 | 14 => 40 | 15 => 280 | 16 => 1 | 17 => 1 | 18 => 1 | 19 => 1 | _ => 0
def nfK (c : Nat) : Nat := match c with
  | 0 => 8 | 1 => 2 | 2 => 6 | 3 => 3 | 4 => 7 | 5 => 2 | 6 => 5 | 7 => 1 | 8 => 8 | 9 => 6 | _ => 0
def allR : List (Nat × Nat) := (List.range 24).flatMap (fun c => (List.range (cntK c)).map (fun i => (c, i)))
theorem mem_allR {c i : Nat} : (c, i) ∈ allR ↔ i < cntK c := by
  constructor
  · intro h
    obtain ⟨c', h1, h2⟩ := List.mem_flatMap.mp h
    obtain ⟨i', h3, h4⟩ := List.mem_map.mp h2
    cases h4
    exact List.mem_range.mp h3
  · intro h
    have hc : c < 24 := by
      rcases Nat.lt_or_ge c 24 with q | q
      · exact q
      · exfalso
        have : cntK c = 0 := by
          unfold cntK
          split <;> first | rfl | omega
        omega
    exact List.mem_flatMap.mpr ⟨c, List.mem_range.mpr hc, List.mem_map.mpr ⟨i, List.mem_range.mpr h, rfl⟩⟩
def okR (r : Nat × Nat) : Prop := r.2 < cntK r.1 ∨ r = (24, 0)
def okV (v : MV) : Prop := match v with
  | .inl _ => True
  | .inr r => okR r
def trv (ad : Nat × Nat → Nat) (v : MV) : Value := match v with
  | .inl x => .int x
  | .inr r => .ref (ad r)
/-- which type of array: a place in tysA -/
def atyK (c : Nat) : Nat := match c with
  | 11 => 3 | 12 => 4 | 13 => 5 | 14 => 6 | 16 => 7 | 17 => 7 | 18 => 1 | 19 => 2 | _ => 0
def tysA (cA : Nat → ClassId) : List (ClassId × FieldType) := [(cA 0, .int), (cA 1, .boolean), (cA 2, .byte), (cA 3, .object RX5), (cA 4, .object RX6), (cA 5, .object RX4), (cA 6, .object RX2), (cA 7, .object RX8)]
def cellD (cA : Nat → ClassId) (ad : Nat × Nat → Nat) (z : St) (r : Nat × Nat) : va_E :=
  if r.1 < 10 then .inr (r.1, (List.range (nfK r.1)).map (fun k => trv ad (fv z r.1 r.2 k)))
  else if akind r.1 = 3 then .inl (cA (atyK r.1), alen r.1, .inr (.inr (.inr (.inr (fun j => some (ad (el z.2 r.1 r.2 j)))))))
  else .inl (cA (atyK r.1), alen r.1, .inl (z.1 r.1 r.2))
def smW (cA : Nat → ClassId) (ad : Nat × Nat → Nat) (z : St) : va_W := allR.map (fun r => (ad r, cellD cA ad z r))
def okP (z : St) : Prop := ∀ i j : Nat, i < 40 → j < 5 → z.2 i j < 200
def Hp (D : va_G) (cA : Nat → ClassId) (ad : Nat × Nat → Nat) (z : St) (H : Heap) : Prop := va_P D vwCl (smW cA ad z) H ∧ okP z
def adOk (ad : Nat × Nat → Nat) (A : Nat → Prop) : Prop := va_D A (allR.map (fun r => (ad r, (.inr (0, []) : va_E))))
theorem smW_D {cA : Nat → ClassId} {ad : Nat × Nat → Nat} {A : Nat → Prop} (h : adOk ad A) (z : St) : va_D A (smW cA ad z) := by
  have key : ∀ (k : Nat) (q : Nat × va_E), (smW cA ad z)[k]? = some q → (allR.map (fun r => (ad r, (.inr (0, []) : va_E))))[k]? = some (q.1, .inr (0, [])) := by
    intro k q hq
    unfold smW at hq
    rw [List.getElem?_map] at hq ⊢
    cases hr : allR[k]? with
    | none => rw [hr] at hq; cases hq
    | some r => rw [hr] at hq; cases hq; rfl
  exact ⟨fun i j p q hi hj e => h.1 i j _ _ (key i p hi) (key j q hj) e, fun k q hk => h.2 k (q.1, .inr (0, [])) (key k q hk)⟩
theorem smW_get {cA : Nat → ClassId} {ad : Nat × Nat → Nat} (z : St) {r : Nat × Nat} (h : r.2 < cntK r.1) : ∃ k : Nat, (smW cA ad z)[k]? = some (ad r, cellD cA ad z r) := by
  apply List.getElem?_of_mem
  exact List.mem_map.mpr ⟨r, mem_allR.mpr h, rfl⟩
/-- one cell becomes another one, all others stay -/
theorem smW_set {cA : Nat → ClassId} {ad : Nat × Nat → Nat} {A : Nat → Prop} (hD : adOk ad A) {z z' : St} {r : Nat × Nat} {k : Nat} {e : va_E} (hk : (smW cA ad z)[k]? = some (ad r, cellD cA ad z r)) (h : r.2 < cntK r.1) (he : cellD cA ad z' r = e)
    (ho : ∀ r', r' ≠ r → cellD cA ad z' r' = cellD cA ad z r') : (smW cA ad z).set k (ad r, e) = smW cA ad z' := by
  have hl := (List.getElem?_eq_some_iff.mp hk).1
  apply List.ext_getElem?
  intro j
  by_cases hj : j = k
  · subst hj
    rw [List.getElem?_set_self hl]
    unfold smW at hk ⊢
    rw [List.getElem?_map] at hk ⊢
    cases hr : allR[j]? with
    | none => rw [hr] at hk; cases hk
    | some r' =>
      rw [hr] at hk
      have e1 : ad r' = ad r := congrArg Prod.fst (Option.some.inj hk)
      obtain ⟨i, hi⟩ := List.getElem?_of_mem (mem_allR.mpr h)
      have e2 : j = i := hD.1 j i (ad r', .inr (0, [])) (ad r, .inr (0, [])) (by rw [List.getElem?_map, hr]; rfl) (by rw [List.getElem?_map, hi]; rfl) e1
      subst e2
      have e3 : r' = r := Option.some.inj (hr.symm.trans hi)
      subst e3
      simp [he]
  · rw [List.getElem?_set_ne (Ne.symm hj)]
    unfold smW at hk ⊢
    rw [List.getElem?_map, List.getElem?_map]
    cases hr : allR[j]? with
    | none => rfl
    | some r' =>
      have hne : r' ≠ r := by
        intro e
        subst e
        rw [List.getElem?_map] at hk
        cases hr2 : allR[k]? with
        | none => rw [hr2] at hk; cases hk
        | some r2 =>
          rw [hr2] at hk
          have e1 : ad r2 = ad r' := congrArg Prod.fst (Option.some.inj hk)
          exact hj (hD.1 j k (ad r', .inr (0, [])) (ad r2, .inr (0, [])) (by rw [List.getElem?_map, hr]; rfl) (by rw [List.getElem?_map, hr2]; rfl) e1.symm)
      simp [ho r' hne]
theorem cell_obj {cA : Nat → ClassId} {ad : Nat × Nat → Nat} {z : St} {c i : Nat} (h : c < 10) : cellD cA ad z (c, i) = .inr (c, (List.range (nfK c)).map (fun k => trv ad (fv z c i k))) := if_pos h
theorem okR_lk {c k i : Nat} {r : Nat × Nat} (h : i < cntK c) (e : lk c k i = some r) : okR r := by
  left
  unfold lk at e
  unfold cntK at h
  split at e <;> first
    | (cases e; done)
    | (split at e <;> first | (cases e; done) | (cases e; simp only [cntK] at h ⊢; omega))
    | (cases e; simp only [cntK] at h ⊢; omega)
theorem okR_el {P : Nat → Nat → Nat} {c i j : Nat} (hP : ∀ i j : Nat, i < 40 → j < 5 → P i j < 200) (h : i < cntK c) (ha : akind c = 3) (hj : j < alen c) : okR (el P c i j) := by
  left
  unfold akind at ha
  split at ha <;> first
    | omega
    | (simp only [cntK, alen, el] at *; omega)
    | (simp only [cntK, alen, el] at *; exact hP _ _ (by omega) (by omega))
theorem okV_fv {z : St} {c i k : Nat} (h : i < cntK c) : okV (fv z c i k) := by
  unfold fv
  cases e : lk c k i with
  | none => trivial
  | some r => exact okR_lk h e
/-- the locals -/
def enumL : Nat → List Value → List (Nat × Value)
  | _, [] => []
  | k, v :: l => (k, v) :: enumL (k + 1) l
def locOk (ad : Nat × Nat → Nat) (nL : Nat) (lsA : Array Slot) (ls : List MV) : Prop := lv_has lsA nL (enumL 0 (ls.map (trv ad))) ∧ ls.length ≤ nL
theorem mem_enumL {l : List Value} : ∀ {k : Nat} {q : Nat × Value}, q ∈ enumL k l ↔ k ≤ q.1 ∧ l[q.1 - k]? = some q.2 := by
  induction l with
  | nil => intro k q; simp [enumL]
  | cons v l ih =>
    intro k q
    obtain ⟨a, w⟩ := q
    simp only [enumL, List.mem_cons, ih]
    constructor
    · rintro (h | ⟨h1, h2⟩)
      · cases h
        exact ⟨Nat.le_refl _, by simp⟩
      · refine ⟨by omega, ?_⟩
        have : a - k = (a - (k + 1)) + 1 := by omega
        rw [this]
        exact h2
    · rintro ⟨h1, h2⟩
      by_cases e : a = k
      · subst e
        simp at h2
        exact Or.inl (by rw [h2])
      · right
        refine ⟨by omega, ?_⟩
        have : a - k = (a - (k + 1)) + 1 := by omega
        rw [this] at h2
        exact h2
theorem getL_eq : ∀ (l : List MV) (n : Nat), getL l n = l[n]?
  | [], n => by cases n <;> rfl
  | x :: l, 0 => rfl
  | x :: l, n + 1 => by show getL l n = _; rw [getL_eq l n]; rfl
theorem setL_at : ∀ (l : List MV) (n : Nat) (v : MV) (k : Nat), n ≤ l.length → (setL l n v)[k]? = if k = n then some v else l[k]?
  | [], 0, v, 0, _ => rfl
  | [], 0, v, k + 1, _ => by simp [setL]
  | [], n + 1, v, k, h => by simp at h
  | x :: l, 0, v, 0, _ => rfl
  | x :: l, 0, v, k + 1, _ => by simp [setL]
  | x :: l, n + 1, v, 0, _ => by simp [setL]
  | x :: l, n + 1, v, k + 1, h => by
    show (setL l n v)[k]? = _
    rw [setL_at l n v k (by simpa using h)]
    by_cases e : k = n <;> simp [e]
theorem setL_len : ∀ (l : List MV) (n : Nat) (v : MV), (setL l n v).length ≤ Nat.max l.length (n + 1)
  | [], n, v => by simp only [setL, List.length]; exact Nat.le_trans (by omega) (Nat.le_max_right _ _)
  | x :: l, 0, v => by simp only [setL]; exact Nat.le_max_left _ _
  | x :: l, n + 1, v => by
    have h := setL_len l n v
    simp only [setL, List.length]
    have e : Nat.max (l.length + 1) (n + 1 + 1) = Nat.max l.length (n + 1) + 1 := by
      simp only [Nat.max_def]; split <;> split <;> omega
    rw [e]
    omega
theorem setL_ok {l : List MV} {v : MV} (hl : ∀ w ∈ l, okV w) (hv : okV v) : ∀ (n : Nat), ∀ w ∈ setL l n v, okV w := by
  induction l with
  | nil => intro n w hw; simp [setL] at hw; rw [hw]; exact hv
  | cons x l ih =>
    intro n w hw
    cases n with
    | zero =>
      simp only [setL, List.mem_cons] at hw
      rcases hw with rfl | hw
      · exact hv
      · exact hl w (List.mem_cons_of_mem _ hw)
    | succ n =>
      simp only [setL, List.mem_cons] at hw
      rcases hw with rfl | hw
      · exact hl _ List.mem_cons_self
      · exact ih (fun w h => hl w (List.mem_cons_of_mem _ h)) n w hw
theorem takeL_eq : ∀ (l : List MV) (n : Nat), takeL l n = l.take n
  | [], n => by cases n <;> rfl
  | x :: l, 0 => rfl
  | x :: l, n + 1 => by show x :: takeL l n = _; rw [takeL_eq l n]; rfl
theorem trv_cat (ad : Nat × Nat → Nat) (v : MV) : (trv ad v).category = 1 := by cases v <;> rfl
theorem loc_get {ad : Nat × Nat → Nat} {nL : Nat} {lsA : Array Slot} {ls : List MV} (h : locOk ad nL lsA ls) {a : Nat} {v : MV} (hv : getL ls a = some v) : lsA[a]? = some (.val (trv ad v)) := by
  refine h.1.2.2 (a, trv ad v) (mem_enumL.mpr ⟨Nat.zero_le _, ?_⟩)
  rw [getL_eq] at hv
  simp [hv]
theorem loc_set {ad : Nat × Nat → Nat} {nL : Nat} {lsA : Array Slot} {ls : List MV} (h : locOk ad nL lsA ls) {a : Nat} (ha : a < nL) (hl : a ≤ ls.length) (v : MV) {lv' : List (Nat × Value)} (he : (a, trv ad v) :: (enumL 0 (ls.map (trv ad))).filter (fun q => !(q.1 == a) && !(q.1 + 1 == a && q.2.category == 2)) = lv')
    {lsB : Array Slot} (hB : lv_has lsB nL lv') : locOk ad nL lsB (setL ls a v) := by
  refine ⟨⟨hB.1, hB.2.1, fun q hq => ?_⟩, ?_⟩
  · obtain ⟨-, h2⟩ := mem_enumL.mp hq
    apply hB.2.2
    rw [← he]
    simp only [Nat.sub_zero, List.getElem?_map] at h2
    rw [setL_at _ _ _ _ hl] at h2
    by_cases e : q.1 = a
    · rw [if_pos e] at h2
      have h3 : trv ad v = q.2 := Option.some.inj h2
      rw [h3, ← e]
      exact List.mem_cons_self
    · rw [if_neg e] at h2
      refine List.mem_cons_of_mem _ (List.mem_filter.mpr ⟨mem_enumL.mpr ⟨Nat.zero_le _, by simpa using h2⟩, ?_⟩)
      cases hw : ls[q.1]? with
      | none => rw [hw] at h2; cases h2
      | some w =>
        rw [hw] at h2
        have h3 : trv ad w = q.2 := Option.some.inj h2
        rw [← h3, trv_cat]
        simp [e]
  · have := setL_len ls a v
    have h3 := h.2
    exact Nat.le_trans this (Nat.max_le.mpr ⟨h3, ha⟩)
theorem loc_take {ad : Nat × Nat → Nat} {nL : Nat} {lsA : Array Slot} {ls : List MV} (h : locOk ad nL lsA ls) (n : Nat) : locOk ad nL lsA (takeL ls n) := by
  rw [takeL_eq]
  refine ⟨⟨h.1.1, h.1.2.1, fun q hq => h.1.2.2 q ?_⟩, by rw [List.length_take]; exact Nat.le_trans (Nat.min_le_right _ _) h.2⟩
  obtain ⟨h1, h2⟩ := mem_enumL.mp hq
  refine mem_enumL.mpr ⟨h1, ?_⟩
  rw [List.map_take] at h2
  have h3 := List.getElem?_take (l := ls.map (trv ad)) (i := n) (j := q.1 - 0)
  rw [h3] at h2
  split at h2
  · exact h2
  · cases h2
theorem okV_getL {ls : List MV} (h : ∀ v ∈ ls, okV v) {a : Nat} {v : MV} (hv : getL ls a = some v) : okV v := by
  rw [getL_eq] at hv
  exact h v (List.mem_of_getElem? hv)
theorem popL_eq : ∀ (n : Nat) (acc st as st' : List MV), popL n acc st = some (as, st') → ∃ t, as = t ++ acc ∧ st = t.reverse ++ st' ∧ t.length = n
  | 0, acc, st, as, st', h => by cases h; exact ⟨[], rfl, rfl, rfl⟩
  | n + 1, acc, [], as, st', h => by cases h
  | n + 1, acc, v :: st, as, st', h => by
    obtain ⟨t, e1, e2, e3⟩ := popL_eq n (v :: acc) st as st' h
    exact ⟨t ++ [v], by simp [e1], by simp [e2], by simp [e3]⟩
/-- words that any later state keeps -/
def Tk (U : State) : Prop := ∀ w, inT w → va_Nw w U
theorem kw_on {w : Cond} (h : kw w = true) : w.onTables = true := by
  unfold kw at h
  rcases Bool.or_eq_true _ _ |>.mp h with h | h
  · exact (Bool.and_eq_true _ _ |>.mp h).1
  · cases w <;> first | rfl | cases h
theorem Tk.warm {s U : State} (hW : s.WarmedH U.vm) (h : Tk s) : Tk U := by
  intro w hw
  have h1 := h w hw
  have h2 := hw.2
  unfold kw at h2
  rcases Bool.or_eq_true _ _ |>.mp h2 with h3 | h3
  · exact word_at hW (Or.inl h3) h1
  · cases w <;> first | exact va_Nw.warmM hW h1 | cases h3
theorem Tk.use {s : State} {args : Array Value} (h : Tk s) {w : Cond} (hw : inT w) : w.before args s = true := va_Nw.use (kw_on hw.2) (h w hw)
theorem Tk.same {s U : State} (h : s.vm = U.vm) (k : Tk s) : Tk U := fun w hw => va_Nw.same (kw_on hw.2) h (k w hw)
/-- a store in a state -/
def RepU (D : va_G) (cA : Nat → ClassId) (ad : Nat × Nat → Nat) (L : Nat) (xs : Nat → Int32) (z : St) (U : State) : Prop := Hp D cA ad z U.heap ∧ va_K D vwCl (tysA cA) U ∧ Tk U ∧ va_X (ad (24, 0)) L xs U U.heap
def QcM (D : va_G) (cA : Nat → ClassId) (ad : Nat × Nat → Nat) (A : Nat → Prop) (L : Nat) (xs : Nat → Int32) (Q : Option MV → St → Prop) : Array Value → State → Outcome → State → Prop := fun _ st oc t => (∃ (r : Option Int32) (z : St), oc = .returned (r.map Value.int) ∧ Q (r.map Sum.inl) z ∧ RepU D cA ad L xs z t) ∧ va_F A st t
def rmF (f : Nat) : Room := { frames := f, cells := 0, slots := 0, locals := 38 * f }
end
section
/-! THE SMALL MACHINE IS SOUND: what its stretches reach, the machine reaches -/
/-- the classes by their numbers -/
theorem cl_at {o : Nat} (h : o < 10) : vwCl[o]? = some (cnm o, tOf o, nfK o) := by
  match o, h with
  | 0, _ => rfl | 1, _ => rfl | 2, _ => rfl | 3, _ => rfl | 4, _ => rfl | 5, _ => rfl | 6, _ => rfl | 7, _ => rfl | 8, _ => rfl | 9, _ => rfl
  | n + 10, h => exact absurd h (by omega)
theorem wx_at {o : Nat} (h : o < 10) : ∀ w ∈ u_ws (cnm o) (tOf o) (nfK o), inT w := by
  match o, h with
  | 0, _ => exact wx_0 | 1, _ => exact wx_1 | 2, _ => exact wx_2 | 3, _ => exact wx_3 | 4, _ => exact wx_4 | 5, _ => exact wx_5 | 6, _ => exact wx_6 | 7, _ => exact wx_7 | 8, _ => exact wx_8 | 9, _ => exact wx_9
  | n + 10, h => exact absurd h (by omega)
def ty0K (o : Nat) : Nat → FieldType := match o with
  | 0 => tyX0 | 1 => tyX1 | 2 => tyX2 | 3 => tyX3 | 4 => tyX4 | 5 => tyX5 | 6 => tyX6 | 7 => tyX7 | 8 => tyX8 | _ => tyX9
theorem ty_at {o : Nat} (h : o < 10) : ∀ k, k < nfK o → parseFieldDescriptor (tOf o k).2.2.1 = some (ty0K o k) := by
  match o, h with
  | 0, _ => exact tyX0_ok | 1, _ => exact tyX1_ok | 2, _ => exact tyX2_ok | 3, _ => exact tyX3_ok | 4, _ => exact tyX4_ok | 5, _ => exact tyX5_ok | 6, _ => exact tyX6_ok | 7, _ => exact tyX7_ok | 8, _ => exact tyX8_ok | 9, _ => exact tyX9_ok
  | n + 10, h => exact absurd h (by omega)
theorem nm_at {o : Nat} (h : o < 10) : ∀ a, a < nfK o → ∀ b, b < nfK o → a ≠ b → (tOf o a).2.1 ≠ (tOf o b).2.1 := by
  match o, h with
  | 0, _ => exact nmX0 | 1, _ => exact nmX1 | 2, _ => exact nmX2 | 3, _ => exact nmX3 | 4, _ => exact nmX4 | 5, _ => exact nmX5 | 6, _ => exact nmX6 | 7, _ => exact nmX7 | 8, _ => exact nmX8 | 9, _ => exact nmX9
  | n + 10, h => exact absurd h (by omega)
theorem tn_at : ∀ o, o < 10 → ∀ k, k < nfK o → (tOf o k).1 = cnm o := by decide +kernel
/-- what is put: fields that are no links are int or boolean, and not final -/
theorem ft_at : ∀ o, o < 10 → ∀ k, k < nfK o → lk o k 0 = none → (tOf o k).2.2.2 = false ∧ (ty0K o k = .int ∨ (ty0K o k = .boolean ∧ o = 2 ∧ k = 5)) := by decide +kernel
theorem ft_int : ∀ o, o < 10 → ∀ k, k < nfK o → lk o k 0 = none → ¬ (o = 2 ∧ k = 5) → ty0K o k = .int := by decide +kernel
theorem flT_lt : ∀ q ∈ flT, q.2.2.1 < 10 ∧ q.2.2.2 < nfK q.2.2.1 := by decide +kernel
theorem lk_none {c k i : Nat} (h : lk c k i = none) : ∀ j, lk c k j = none := by
  intro j
  unfold lk at h ⊢
  split at h <;> first
    | rfl
    | (cases h; done)
    | (split at h <;> first | rfl | (cases h; done))
section SS
variable {p : Program} {l : Launch} {e : Env} {R : Room} {s : State} {m : MethodId} {args : Array Value} {below : List Frame} {meth : Method} {c : Code} {cells slots : Nat} {QM : State → Prop}
variable {D : va_G} {cA : Nat → ClassId} {ad : Nat × Nat → Nat} {A : Nat → Prop} {L : Nat} {xs : Nat → Int32} {cc : ByteArray} {o nL : Nat} {rest : List Value} {pc : Nat} {lsA : Array Slot} {H : Heap} {locs : List Loc} {z : St}
/-- what stands fast within a frame -/
def FrOk (p : Program) (s : State) (m : MethodId) (args : Array Value) (meth : Method) (c : Code) (D : va_G) (cA : Nat → ClassId) (ad : Nat × Nat → Nat) (A : Nat → Prop) (L : Nat) (xs : Nat → Int32) (cc : ByteArray) (o nL : Nat) : Prop :=
  p.tables.exec = Jvm.exec ∧ c.code = cc ∧ c.maxLocals = nL ∧ s.vm.findClass (cnm o) = some m.cls ∧ meth.locks = false ∧ Tk s ∧ va_K D vwCl (tysA cA) s ∧ adOk ad A ∧ va_X (ad (24, 0)) L xs s s.heap ∧ ad (24, 0) < s.heap.size ∧ ¬ A (ad (24, 0))
theorem FrOk.ts (F : FrOk p s m args meth c D cA ad A L xs cc o nL) {w : Cond} (h : inT w) : w.before args s = true := F.2.2.2.2.2.1.use h
/-- the machine, from this place, these locals, this stack and this store on, comes to QM -/
def XwP (p : Program) (l : Launch) (e : Env) (R : Room) (s : State) (m : MethodId) (args : Array Value) (below : List Frame) (meth : Method) (c : Code) (cells slots : Nat) (QM : State → Prop) (D : va_G) (cA : Nat → ClassId) (ad : Nat × Nat → Nat) (A : Nat → Prop) (nL : Nat) (pc : Nat) (ls st : List MV) (z : St) : Prop :=
  (∀ v ∈ ls, okV v) → (∀ v ∈ st, okV v) → ∀ (H : Heap) (locs : List Loc) (lsA : Array Slot), Hp D cA ad z H → va_S A s.heap H locs → locOk ad nL lsA ls → W p l e R s m args below meth c H locs cells slots QM (F0 m pc lsA (st.map (trv ad)))
theorem s_get (F : FrOk p s m args meth c D cA ad A L xs cc o nL) {a b d i : Nat} (hfl : (o, a, b, d) ∈ flT) (hi : i < cntK b) (hH : Hp D cA ad z H) (hd : decode cc pc = .ok (.getfield a, 3))
    (kk : W p l e R s m args below meth c H locs cells slots QM (F0 m (pc + 3) lsA (trv ad (fv z b i d) :: rest))) : W p l e R s m args below meth c H locs cells slots QM (F0 m pc lsA (.ref (ad (b, i)) :: rest)) := by
  obtain ⟨hx, hb, hml, hown, hlk, hT, hK, hA, hX⟩ := id F
  have h1 := flT_ok _ hfl
  obtain ⟨h2, h3⟩ := flT_lt _ hfl
  simp only at h2 h3
  obtain ⟨k, hk⟩ := smW_get (cA := cA) (ad := ad) z (r := (b, i)) hi
  rw [cell_obj h2] at hk
  refine va_get (D := D) (cl := vwCl) (ci := b) (C := cnm b) (T := tOf b) (N := nfK b) (ref := cnm b) (Ts := u_ws (cnm b) (tOf b) (nfK b)) hx hb (fun w hw => F.ts (wx_at h2 w hw)) (fun w hw => hw) hown hK hH.1 k hk (cl_at h2) d h3 (F.ts h1) (fun x hx => by rw [← tn_at b h2 d h3]; exact hx) (v := trv ad (fv z b i d)) ?_ hd kk
  rw [List.getElem?_map, List.getElem?_range h3]
  rfl
theorem cell_putV {c i k : Nat} (hc : c < 10) (hk : k < nfK c) (hl : lk c k i = none) (z : St) (x : Int32) : cellD cA ad (putV z c i k x) (c, i) = .inr (c, ((List.range (nfK c)).map (fun k => trv ad (fv z c i k))).set k (.int x)) := by
  rw [cell_obj hc]
  congr 2
  apply List.ext_getElem?
  intro j
  by_cases hj : j = k
  · subst hj
    rw [List.getElem?_set_self (by simpa using hk), List.getElem?_map, List.getElem?_range hk]
    simp [fv, hl, putV, trv]
  · rw [List.getElem?_set_ne (Ne.symm hj), List.getElem?_map, List.getElem?_map]
    cases hr : (List.range (nfK c))[j]? with
    | none => rfl
    | some j' =>
      have : j' = j := by
        have hlt : j < nfK c := by simpa using (List.getElem?_eq_some_iff.mp hr).1
        rw [List.getElem?_range hlt] at hr
        exact (Option.some.inj hr).symm
      subst this
      simp only [Option.map_some, fv, putV]
      cases lk c j' i with
      | some r => rfl
      | none => simp [hj]
theorem fv_put {c i k c' i' k' : Nat} {z : St} {x : Int32} (h : (c', i') ≠ (c, i)) : fv (putV z c i k x) c' i' k' = fv z c' i' k' := by
  unfold fv putV
  cases lk c' k' i' with
  | some r => rfl
  | none =>
    have : ¬ (c' = c ∧ i' = i ∧ k' = k) := fun q => h (by rw [q.1, q.2.1])
    simp [this]
theorem cell_putV_ne {c i k : Nat} {z : St} {x : Int32} (r' : Nat × Nat) (h : r' ≠ (c, i)) : cellD cA ad (putV z c i k x) r' = cellD cA ad z r' := by
  obtain ⟨c', i'⟩ := r'
  have e1 : (putV z c i k x).2 = z.2 := rfl
  have e2 : (putV z c i k x).1 c' i' = z.1 c' i' := by
    funext d
    have : ¬ (c' = c ∧ i' = i ∧ d = k) := fun q => h (by rw [q.1, q.2.1])
    simp [putV, this]
  have e3 : (fun k' => trv ad (fv (putV z c i k x) c' i' k')) = (fun k' => trv ad (fv z c' i' k')) := by
    funext k'
    rw [fv_put h]
  unfold cellD
  simp only [e1, e2, e3]
theorem s_put (F : FrOk p s m args meth c D cA ad A L xs cc o nL) {a b d i : Nat} {x : Int32} (hfl : (o, a, b, d) ∈ flT) (hi : i < cntK b) (hl : lk b d i = none) (hbool : b = 2 ∧ d = 5 → x = 0 ∨ x = 1) (hH : Hp D cA ad z H) (hS : va_S A s.heap H locs) (hd : decode cc pc = .ok (.putfield a, 3))
    (kk : ∀ (H1 : Heap) (locs1 : List Loc), Hp D cA ad (putV z b i d x) H1 → va_S A s.heap H1 locs1 → W p l e R s m args below meth c H1 locs1 cells slots QM (F0 m (pc + 3) lsA rest)) : W p l e R s m args below meth c H locs cells slots QM (F0 m pc lsA (.int x :: .ref (ad (b, i)) :: rest)) := by
  obtain ⟨hx, hb, hml, hown, hlk, hT, hK, hA, hX⟩ := id F
  have h1 := flT_ok _ hfl
  obtain ⟨h2, h3⟩ := flT_lt _ hfl
  simp only at h2 h3
  obtain ⟨k, hk⟩ := smW_get (cA := cA) (ad := ad) z (r := (b, i)) hi
  have hk0 := hk
  rw [cell_obj h2] at hk
  obtain ⟨f1, f2⟩ := ft_at b h2 d h3 (lk_none hl 0)
  have hty := ty_at h2 d h3
  have hnf : narrow (ty0K b d) (.int x) = .int x ∧ fits (ty0K b d) (.int x) = true := by
    rcases f2 with e | ⟨e, e2, e3⟩
    · rw [e]; exact ⟨rfl, rfl⟩
    · rw [e]
      rcases hbool ⟨e2, e3⟩ with rfl | rfl <;> decide
  refine va_put (D := D) (cl := vwCl) (ci := b) (C := cnm b) (T := tOf b) (N := nfK b) (ref := cnm b) (Ts := u_ws (cnm b) (tOf b) (nfK b)) (ty := ty0K b d) (v := .int x) hx hb (fun w hw => F.ts (wx_at h2 w hw)) (fun w hw => hw) (ty0K b) (ty_at h2) (nm_at h2) hown hK hH.1 (smW_D hA z) hS k hk (cl_at h2) d h3 (F.ts h1) (fun x hx => by rw [← tn_at b h2 d h3]; exact hx) f1 hty hnf.1 hnf.2 (by simpa using h3) hd (fun H1 locs1 hP hD hS1 => ?_)
  refine kk H1 locs1 ⟨?_, hH.2⟩ hS1
  rw [← smW_set hA hk0 hi (cell_putV h2 h3 hl z x) (fun r' hr => cell_putV_ne r' hr)]
  exact hP
end SS
end
section
/-! arrays -/
theorem vp_of_inA {i : Int32} {n : Nat} (h : inA i n) : vp_in i n := by
  obtain ⟨h1, h2⟩ := h
  rintro (q | q)
  · rw [Int32.lt_iff_toInt_lt, Int32.toInt_zero] at q
    omega
  · have e : i.toNatClampNeg = i.toInt.toNat := rfl
    omega
theorem inA_lt {i : Int32} {n : Nat} (h : inA i n) : i.toNatClampNeg < n := Nat.not_le.mp fun q => vp_of_inA h (Or.inr q)
theorem ak_ge {q : Nat} (h : akind q < 9) : ¬ q < 11 := by
  intro hq
  have : ∀ q, q < 11 → akind q = 9 := by decide
  have := this q hq
  omega
theorem cell_arr {cA : Nat → ClassId} {ad : Nat × Nat → Nat} {z : St} {q n : Nat} (h : akind q < 3) : cellD cA ad z (q, n) = .inl (cA (atyK q), alen q, .inl (z.1 q n)) := by
  unfold cellD
  have h1 : ¬ q < 10 := fun e => ak_ge (q := q) (by omega) (by omega)
  have h2 : ¬ akind q = 3 := by omega
  rw [if_neg h1, if_neg h2]
theorem cell_refs {cA : Nat → ClassId} {ad : Nat × Nat → Nat} {z : St} {q n : Nat} (h : akind q = 3) : cellD cA ad z (q, n) = .inl (cA (atyK q), alen q, .inr (.inr (.inr (.inr (fun j => some (ad (el z.2 q n j))))))) := by
  unfold cellD
  have h1 : ¬ q < 10 := fun e => ak_ge (q := q) (by omega) (by omega)
  rw [if_neg h1, if_pos h]
theorem ak_cases {q : Nat} (h : akind q < 9) : 11 ≤ q ∧ q < 24 := by
  rcases Nat.lt_or_ge q 24 with a | a
  · have := ak_ge h
    omega
  · exfalso
    have : akind q = 9 := by unfold akind; split <;> first | rfl | omega
    omega
theorem aty0 : ∀ q, q < 24 → akind q = 0 → atyK q = 0 := by decide
theorem aty1 : ∀ q, q < 24 → akind q = 1 → atyK q = 1 := by decide
theorem aty2 : ∀ q, q < 24 → akind q = 2 → atyK q = 2 := by decide
theorem aty3 : ∀ q, q < 24 → akind q = 3 → 3 ≤ atyK q ∧ atyK q < 8 := by decide
theorem tys3 {cA : Nat → ClassId} : ∀ t, 3 ≤ t → t < 8 → ∃ C, (tysA cA)[t]? = some (cA t, .object C) := by
  intro t h1 h2
  match t, h1, h2 with
  | 3, _, _ => exact ⟨_, rfl⟩
  | 4, _, _ => exact ⟨_, rfl⟩
  | 5, _, _ => exact ⟨_, rfl⟩
  | 6, _, _ => exact ⟨_, rfl⟩
  | 7, _, _ => exact ⟨_, rfl⟩
section SA
variable {p : Program} {l : Launch} {e : Env} {R : Room} {s : State} {m : MethodId} {args : Array Value} {below : List Frame} {meth : Method} {c : Code} {cells slots : Nat} {QM : State → Prop}
variable {D : va_G} {cA : Nat → ClassId} {ad : Nat × Nat → Nat} {A : Nat → Prop} {L : Nat} {xs : Nat → Int32} {cc : ByteArray} {o nL : Nat} {rest : List Value} {pc : Nat} {lsA : Array Slot} {H : Heap} {locs : List Loc} {z : St}
theorem s_ild (F : FrOk p s m args meth c D cA ad A L xs cc o nL) {q n : Nat} {i : Int32} (hq : n < cntK q) (hk : akind q = 0) (hin : inA i (alen q)) (hH : Hp D cA ad z H) (hd : decode cc pc = .ok (.iaload, 1))
    (kk : W p l e R s m args below meth c H locs cells slots QM (F0 m (pc + 1) lsA (.int (z.1 q n i.toNatClampNeg) :: rest))) : W p l e R s m args below meth c H locs cells slots QM (F0 m pc lsA (.int i :: .ref (ad (q, n)) :: rest)) := by
  obtain ⟨hx, hb, hml, hown, hlk, hT, hK, hA, hX⟩ := id F
  obtain ⟨k, hk1⟩ := smW_get (cA := cA) (ad := ad) z (r := (q, n)) hq
  rw [cell_arr (by omega), aty0 q (ak_cases (by omega)).2 hk] at hk1
  exact va_iald (D := D) (cl := vwCl) hx hb hK hH.1 k 0 hk1 rfl (vp_of_inA hin) hd kk
theorem s_zld (F : FrOk p s m args meth c D cA ad A L xs cc o nL) {q n : Nat} {i : Int32} (hq : n < cntK q) (hk : akind q = 1) (hin : inA i (alen q)) (hH : Hp D cA ad z H) (hd : decode cc pc = .ok (.baload, 1))
    (kk : W p l e R s m args below meth c H locs cells slots QM (F0 m (pc + 1) lsA (.int (z.1 q n i.toNatClampNeg) :: rest))) : W p l e R s m args below meth c H locs cells slots QM (F0 m pc lsA (.int i :: .ref (ad (q, n)) :: rest)) := by
  obtain ⟨hx, hb, hml, hown, hlk, hT, hK, hA, hX⟩ := id F
  obtain ⟨k, hk1⟩ := smW_get (cA := cA) (ad := ad) z (r := (q, n)) hq
  rw [cell_arr (by omega), aty1 q (ak_cases (by omega)).2 hk] at hk1
  exact va_zald (D := D) (cl := vwCl) hx hb hK hH.1 k 1 hk1 rfl (vp_of_inA hin) hd kk
theorem s_bld (F : FrOk p s m args meth c D cA ad A L xs cc o nL) {q n : Nat} {i : Int32} (hq : n < cntK q) (hk : akind q = 2) (hin : inA i (alen q)) (hH : Hp D cA ad z H) (hd : decode cc pc = .ok (.baload, 1))
    (kk : W p l e R s m args below meth c H locs cells slots QM (F0 m (pc + 1) lsA (.int (z.1 q n i.toNatClampNeg) :: rest))) : W p l e R s m args below meth c H locs cells slots QM (F0 m pc lsA (.int i :: .ref (ad (q, n)) :: rest)) := by
  obtain ⟨hx, hb, hml, hown, hlk, hT, hK, hA, hX⟩ := id F
  obtain ⟨k, hk1⟩ := smW_get (cA := cA) (ad := ad) z (r := (q, n)) hq
  rw [cell_arr (by omega), aty2 q (ak_cases (by omega)).2 hk] at hk1
  exact va_bald (D := D) (cl := vwCl) hx hb hK hH.1 k 2 hk1 rfl (vp_of_inA hin) hd kk
theorem s_qld (F : FrOk p s m args meth c D cA ad A L xs cc o nL) {q n : Nat} {i : Int32} (hq : n < cntK q) (hk : akind q = 3) (hin : inA i (alen q)) (hH : Hp D cA ad z H) (hd : decode cc pc = .ok (.aaload, 1))
    (kk : W p l e R s m args below meth c H locs cells slots QM (F0 m (pc + 1) lsA (.ref (ad (el z.2 q n i.toNatClampNeg)) :: rest))) : W p l e R s m args below meth c H locs cells slots QM (F0 m pc lsA (.int i :: .ref (ad (q, n)) :: rest)) := by
  obtain ⟨hx, hb, hml, hown, hlk, hT, hK, hA, hX⟩ := id F
  obtain ⟨k, hk1⟩ := smW_get (cA := cA) (ad := ad) z (r := (q, n)) hq
  rw [cell_refs hk] at hk1
  obtain ⟨t1, t2⟩ := aty3 q (ak_cases (by omega)).2 hk
  obtain ⟨C, hC⟩ := tys3 (cA := cA) _ t1 t2
  exact va_aldq (D := D) (cl := vwCl) hx hb hK hH.1 k (atyK q) hk1 hC (vp_of_inA hin) hd kk
theorem cell_putA {q n k : Nat} {x : Int32} (h : akind q < 3) : cellD cA ad (putV z q n k x) (q, n) = .inl (cA (atyK q), alen q, .inl (upd (z.1 q n) k x)) := by
  rw [cell_arr h]
  congr 4
  funext d
  by_cases hd : d = k <;> simp [putV, upd, hd]
theorem s_ist (F : FrOk p s m args meth c D cA ad A L xs cc o nL) {q n : Nat} {i x : Int32} (hq : n < cntK q) (hk : akind q = 0) (hin : inA i (alen q)) (hH : Hp D cA ad z H) (hS : va_S A s.heap H locs) (hd : decode cc pc = .ok (.iastore, 1))
    (kk : ∀ (H1 : Heap) (locs1 : List Loc), Hp D cA ad (putV z q n i.toNatClampNeg x) H1 → va_S A s.heap H1 locs1 → W p l e R s m args below meth c H1 locs1 cells slots QM (F0 m (pc + 1) lsA rest)) : W p l e R s m args below meth c H locs cells slots QM (F0 m pc lsA (.int x :: .int i :: .ref (ad (q, n)) :: rest)) := by
  obtain ⟨hx, hb, hml, hown, hlk, hT, hK, hA, hX⟩ := id F
  obtain ⟨k, hk1⟩ := smW_get (cA := cA) (ad := ad) z (r := (q, n)) hq
  have hk0 := hk1
  have e0 := aty0 q (ak_cases (by omega)).2 hk
  rw [cell_arr (by omega), e0] at hk1
  refine va_iast (D := D) (cl := vwCl) hx hb hK hH.1 (smW_D hA z) hS k 0 hk1 rfl (vp_of_inA hin) hd (fun H1 locs1 hP hD hS1 => ?_)
  refine kk H1 locs1 ⟨?_, hH.2⟩ hS1
  rw [← smW_set hA hk0 hq (cell_putA (by omega)) (fun r' hr => cell_putV_ne r' hr), e0]
  exact hP
theorem s_zst (F : FrOk p s m args meth c D cA ad A L xs cc o nL) {q n : Nat} {i x : Int32} (hq : n < cntK q) (hk : akind q = 1) (hin : inA i (alen q)) (hv : x = 0 ∨ x = 1) (hH : Hp D cA ad z H) (hS : va_S A s.heap H locs) (hd : decode cc pc = .ok (.bastore, 1))
    (kk : ∀ (H1 : Heap) (locs1 : List Loc), Hp D cA ad (putV z q n i.toNatClampNeg x) H1 → va_S A s.heap H1 locs1 → W p l e R s m args below meth c H1 locs1 cells slots QM (F0 m (pc + 1) lsA rest)) : W p l e R s m args below meth c H locs cells slots QM (F0 m pc lsA (.int x :: .int i :: .ref (ad (q, n)) :: rest)) := by
  obtain ⟨hx, hb, hml, hown, hlk, hT, hK, hA, hX⟩ := id F
  obtain ⟨k, hk1⟩ := smW_get (cA := cA) (ad := ad) z (r := (q, n)) hq
  have hk0 := hk1
  have e0 := aty1 q (ak_cases (by omega)).2 hk
  rw [cell_arr (by omega), e0] at hk1
  have hn : vp_nar .boolean x = x := by rcases hv with rfl | rfl <;> decide
  refine va_zast (D := D) (cl := vwCl) hx hb hK hH.1 (smW_D hA z) hS k 1 hk1 rfl (vp_of_inA hin) hd (fun H1 locs1 hP hD hS1 => ?_)
  refine kk H1 locs1 ⟨?_, hH.2⟩ hS1
  rw [hn] at hP
  rw [← smW_set hA hk0 hq (cell_putA (by omega)) (fun r' hr => cell_putV_ne r' hr), e0]
  exact hP
theorem s_bst (F : FrOk p s m args meth c D cA ad A L xs cc o nL) {q n : Nat} {i x : Int32} (hq : n < cntK q) (hk : akind q = 2) (hin : inA i (alen q)) (hv : x.toInt8.toInt32 = x) (hH : Hp D cA ad z H) (hS : va_S A s.heap H locs) (hd : decode cc pc = .ok (.bastore, 1))
    (kk : ∀ (H1 : Heap) (locs1 : List Loc), Hp D cA ad (putV z q n i.toNatClampNeg x) H1 → va_S A s.heap H1 locs1 → W p l e R s m args below meth c H1 locs1 cells slots QM (F0 m (pc + 1) lsA rest)) : W p l e R s m args below meth c H locs cells slots QM (F0 m pc lsA (.int x :: .int i :: .ref (ad (q, n)) :: rest)) := by
  obtain ⟨hx, hb, hml, hown, hlk, hT, hK, hA, hX⟩ := id F
  obtain ⟨k, hk1⟩ := smW_get (cA := cA) (ad := ad) z (r := (q, n)) hq
  have hk0 := hk1
  have e0 := aty2 q (ak_cases (by omega)).2 hk
  rw [cell_arr (by omega), e0] at hk1
  have hn : vp_nar .byte x = x := hv
  refine va_bast (D := D) (cl := vwCl) hx hb hK hH.1 (smW_D hA z) hS k 2 hk1 rfl (vp_of_inA hin) hd (fun H1 locs1 hP hD hS1 => ?_)
  refine kk H1 locs1 ⟨?_, hH.2⟩ hS1
  rw [hn] at hP
  rw [← smW_set hA hk0 hq (cell_putA (by omega)) (fun r' hr => cell_putV_ne r' hr), e0]
  exact hP
theorem el_putP {n k y c i j : Nat} (h : (c, i) ≠ (14, n)) : el (putP z n k y).2 c i j = el z.2 c i j := by
  unfold el putP
  split <;> first
    | rfl
    | (rename_i e; have : ¬ i = n := fun q => h (by rw [q]); simp [this])
theorem cell_putP_ne {n k y : Nat} (r' : Nat × Nat) (h : r' ≠ (14, n)) : cellD cA ad (putP z n k y) r' = cellD cA ad z r' := by
  obtain ⟨c', i'⟩ := r'
  have e2 : (putP z n k y).1 = z.1 := rfl
  have e3 : (fun k' => trv ad (fv (putP z n k y) c' i' k')) = (fun k' => trv ad (fv z c' i' k')) := by
    funext k'
    unfold fv
    rw [e2]
  have e4 : (fun j => some (ad (el (putP z n k y).2 c' i' j))) = (fun j => some (ad (el z.2 c' i' j))) := by
    funext j
    rw [el_putP h]
  unfold cellD
  simp only [e2, e3, e4]
theorem s_qst (F : FrOk p s m args meth c D cA ad A L xs cc o nL) {n y : Nat} {i : Int32} (hq : n < 40) (hy : y < 200) (hin : inA i 5) (hH : Hp D cA ad z H) (hS : va_S A s.heap H locs) (hd : decode cc pc = .ok (.aastore, 1))
    (kk : ∀ (H1 : Heap) (locs1 : List Loc), Hp D cA ad (putP z n i.toNatClampNeg y) H1 → va_S A s.heap H1 locs1 → W p l e R s m args below meth c H1 locs1 cells slots QM (F0 m (pc + 1) lsA rest)) : W p l e R s m args below meth c H locs cells slots QM (F0 m pc lsA (.ref (ad (2, y)) :: .int i :: .ref (ad (14, n)) :: rest)) := by
  obtain ⟨hx, hb, hml, hown, hlk, hT, hK, hA, hX⟩ := id F
  obtain ⟨k, hk1⟩ := smW_get (cA := cA) (ad := ad) z (r := (14, n)) hq
  obtain ⟨k2, hk2⟩ := smW_get (cA := cA) (ad := ad) z (r := (2, y)) hy
  have hk0 := hk1
  rw [cell_refs rfl] at hk1
  rw [cell_obj (by decide)] at hk2
  refine va_astq (D := D) (cl := vwCl) (ci := 2) (r := (RX2, TX2, 6)) hx hb hK hH.1 (smW_D hA z) hS k 6 k2 hk1 rfl hk2 rfl (vp_of_inA hin) hd (fun H1 locs1 hP hD hS1 => ?_)
  refine kk H1 locs1 ⟨?_, fun i' j' h1 h2 => ?_⟩ hS1
  · rw [← smW_set (z' := putP z n i.toNatClampNeg y) hA hk0 hq (e := _) ?_ (fun r' hr => cell_putP_ne r' hr)]
    · exact hP
    · rw [cell_refs rfl]
      congr 7
      funext j
      by_cases hj : j = i.toNatClampNeg
      · subst hj; simp [el, putP, va_up]
      · simp [el, putP, va_up, hj]
  · show (if i' = n ∧ j' = i.toNatClampNeg then y else z.2 i' j') < 200
    split
    · exact hy
    · exact hH.2 i' j' h1 h2
theorem s_sld (F : FrOk p s m args meth c D cA ad A L xs cc o nL) {i : Int32} (hin : inA i L) (hS : va_S A s.heap H locs) (hd : decode cc pc = .ok (.iaload, 1))
    (kk : W p l e R s m args below meth c H locs cells slots QM (F0 m (pc + 1) lsA (.int (xs i.toNatClampNeg) :: rest))) : W p l e R s m args below meth c H locs cells slots QM (F0 m pc lsA (.int i :: .ref (ad (24, 0)) :: rest)) := by
  obtain ⟨hx, hb, hml, hown, hlk, hT, hK, hA, hX, hbl, hbA⟩ := id F
  exact va_sld hx hb hX hbl hbA hS (vp_of_inA hin) hd kk
theorem s_slen (F : FrOk p s m args meth c D cA ad A L xs cc o nL) (hS : va_S A s.heap H locs) (hd : decode cc pc = .ok (.arraylength, 1))
    (kk : W p l e R s m args below meth c H locs cells slots QM (F0 m (pc + 1) lsA (.int (Int32.ofNat L) :: rest))) : W p l e R s m args below meth c H locs cells slots QM (F0 m pc lsA (.ref (ad (24, 0)) :: rest)) := by
  obtain ⟨hx, hb, hml, hown, hlk, hT, hK, hA, hX, hbl, hbA⟩ := id F
  exact va_slen hx hb hX hbl hbA hS hd kk
end SA
end
section
/-! one step of the small machine is the machine's -/
theorem okV_cons {v : MV} {st : List MV} (h1 : okV v) (h2 : ∀ w ∈ st, okV w) : ∀ w ∈ v :: st, okV w := fun w hw => by
  rcases List.mem_cons.mp hw with rfl | h
  · exact h1
  · exact h2 w h
theorem okV_head {v : MV} {st : List MV} (h : ∀ w ∈ v :: st, okV w) : okV v := h v List.mem_cons_self
theorem okV_tail {v : MV} {st : List MV} (h : ∀ w ∈ v :: st, okV w) : ∀ w ∈ st, okV w := fun w hw => h w (List.mem_cons_of_mem _ hw)
theorem okR_obj {q i : Nat} (h : okR (q, i)) (hq : q < 24) : i < cntK q := by
  rcases h with h | h
  · exact h
  · cases h; omega
theorem boolW_t {b : Bool} {q : Prop} (h : boolW b q) : b = true ∧ q := by
  cases b with
  | true => exact ⟨rfl, h⟩
  | false => exact h.elim
theorem cat_sum (ad : Nat × Nat → Nat) (st : List MV) : ((st.map (trv ad)).map fun v => v.category).sum = st.length := by
  induction st with
  | nil => rfl
  | cons v st ih => simp only [List.map_cons, List.sum_cons, List.length_cons, trv_cat, ih]; omega
theorem cmpTF {b : Nat} {x y : Int32} (h : ¬ cmpT b x y) : cmpF b x y := by
  unfold cmpT at h
  unfold cmpF
  split at h <;> first | exact h | exact Classical.not_not.mp h | omega
theorem int_tgt {pc a : Nat} : (pc : Int) + ((a : Int) - (pc : Int)) = (a : Int) := by omega
section SC
variable {p : Program} {l : Launch} {e : Env} {R : Room} {s : State} {m : MethodId} {args : Array Value} {below : List Frame} {meth : Method} {c : Code} {cells slots : Nat} {QM : State → Prop}
variable {D : va_G} {cA : Nat → ClassId} {ad : Nat × Nat → Nat} {A : Nat → Prop} {L : Nat} {xs : Nat → Int32} {cc : ByteArray} {o nL : Nat} {pc : Nat} {lsA : Array Slot} {H : Heap} {locs : List Loc} {z : St}
theorem RepU.blind {U : State} {g : JFrame} {mk : MethodId} {a : Array Value} (h : RepU D cA ad L xs z U) : RepU D cA ad L xs z (U.calling g mk a) :=
  ⟨h.1, va_K.moved (u := U) (U := U.calling g mk a) (Vm.Alike.refl U.vm) h.2.1, Tk.same (s := U) (U := U.calling g mk a) rfl h.2.2.1, va_X.moved (u := U) (U := U.calling g mk a) (Vm.Alike.refl U.vm) h.2.2.2⟩
theorem pc_blind (as : List Value) : FrameBlind (va_Pc as (RepU D cA ad L xs z)) := fun a U g mk q => ⟨q.1, q.2.blind⟩
theorem rep_at (F : FrOk p s m args meth c D cA ad A L xs cc o nL) (hH : Hp D cA ad z H) (hS : va_S A s.heap H locs) : ∀ U : State, U.heap = H → s.WarmedH U.vm → RepU D cA ad L xs z U := by
  obtain ⟨hx, hb, hml, hown, hlk, hT, hK, hA, hX, hbl, hbA⟩ := F
  intro U hU hW
  exact ⟨by rw [hU]; exact hH, va_K.moved hW.alike hK, Tk.warm hW hT, (va_X.moved hW.alike hX).kept (by rw [hU]; exact hS.2.1 _ hbl hbA)⟩
theorem sm_call {Q' : Option MV → St → Prop} {a : Array Value} {rest st0 : List Value} (hr : va_Run p l e R s m args below meth c H locs cells slots 0 0 (F0 m pc lsA st0) rest (QcM D cA ad A L xs Q' a) A) (hS : va_S A s.heap H locs)
    (kk : ∀ (r : Option Int32) (z' : St) (H1 : Heap) (locs1 : List Loc), Q' (r.map Sum.inl) z' → Hp D cA ad z' H1 → va_S A s.heap H1 locs1 → W p l e R s m args below meth c H1 locs1 cells slots QM (F0 m (pc + 3) lsA ((r.map Value.int).toList ++ rest))) : W p l e R s m args below meth c H locs cells slots QM (F0 m pc lsA st0) := by
  intro T hT X
  obtain ⟨v, st₀, t, T', L', h0, X', hL, e1, e2, ⟨⟨r, z', hv, hq, hrep⟩, hz, hk⟩, st⟩ := hr T hT X
  cases hv
  rw [h0] at hz hk
  obtain ⟨t2, a1, b1⟩ := kk r z' T'.heap (locs ++ L') hq (by rw [e1]; exact hrep.1) ⟨Nat.le_trans hS.1 (by rw [e1]; exact hz), fun q h1 h2 => by rw [e1, hk q (Nat.lt_of_lt_of_le h1 hS.1) h2]; exact hS.2.1 q h1 h2, fun q hq => by
    rcases List.mem_append.mp hq with h | h
    · exact hS.2.2 q h
    · exact hL q h⟩ T' rfl X'
  exact ⟨t2, st t2 a1, b1⟩
/-- a callee's contract -/
def MetC (l : Launch) (D : va_G) (cA : Nat → ClassId) (ad : Nat × Nat → Nat) (A : Nat → Prop) (L : Nat) (xs : Nat → Int32) (f b : Nat) (as : List MV) (z : St) (Q : Option MV → St → Prop) : Prop :=
  Met l (mRow b).1 [Cond.code (mRow b).1 (mRow b).2.1 (mRow b).2.2.1 (mRow b).2.2.2.1] (rmF f) (va_Pc (as.map (trv ad)) (RepU D cA ad L xs z)) (QcM D cA ad A L xs Q) 0 0 A
theorem s_call (F : FrOk p s m args meth c D cA ad A L xs cc o nL) {a b d f : Nat} {as st : List MV} {Q' : Option MV → St → Prop} (hml : (o, a, b, (if d = 2 then 1 else 0)) ∈ mlT) (hni : b ∉ initL) (hst : (mRow b).2.2.2.2.2.2 = decide (¬ d = 0)) (hn : as.length = (mRow b).2.2.2.2.2.1)
    (hrecv : d = 0 → ∃ i as', as = .inr ((mRow b).2.2.2.2.1, i) :: as' ∧ (mRow b).2.2.2.2.1 < 10 ∧ i < cntK (mRow b).2.2.2.2.1)
    (hM : MetC l D cA ad A L xs f b as z Q') (hf1 : f + 1 ≤ R.frames) (hf2 : 38 * f + 38 ≤ R.locals) (hcs : cells ≤ R.cells ∧ slots ≤ R.slots) (hlen : st.length ≤ 8)
    (hH : Hp D cA ad z H) (hS : va_S A s.heap H locs) (hsz : lsA.size = nL) (hd : decode cc pc = .ok (if d = 0 then Instr.invokevirtual a else Instr.invokestatic a, 3))
    (kk : ∀ (r : Option Int32) (z' : St) (H1 : Heap) (locs1 : List Loc), Q' (r.map Sum.inl) z' → Hp D cA ad z' H1 → va_S A s.heap H1 locs1 → W p l e R s m args below meth c H1 locs1 cells slots QM (F0 m (pc + 3) lsA ((r.map Value.int).toList ++ st.map (trv ad)))) : W p l e R s m args below meth c H locs cells slots QM (F0 m pc lsA ((as.reverse ++ st).map (trv ad))) := by
  obtain ⟨hx, hb, hmlc, hown, hlk, hT, hK, hA, hX⟩ := id F
  obtain ⟨⟨w1, w2, w3⟩, ⟨h1, h2, h3, h4, h5, h6⟩, h7⟩ := mlT_ok _ hml
  simp only at w1 w2 w3 h1 h2 h3 h4 h5 h6 h7
  have hrm : 2 * (F0 m pc lsA ((as.reverse ++ st).map (trv ad))).monitorRoom + ((st.map (trv ad)).map fun v => v.category).sum ≤ 8 := lv_room (by rw [cat_sum]; exact hlen)
  have hloc : 8 + ((mRow b).2.2.1 + 11) + (rmF f).locals ≤ R.locals := by show 8 + ((mRow b).2.2.1 + 11) + 38 * f ≤ _; omega
  have hws : ∀ w ∈ [Cond.code (mRow b).1 (mRow b).2.1 (mRow b).2.2.1 (mRow b).2.2.2.1], ∀ (a' : Array Value) (U : State), s.WarmedH U.vm → w.before a' U = true := by
    intro w hw a' U hW
    rw [List.mem_singleton.mp hw]
    exact (Tk.warm hW hT).use w1
  by_cases hd0 : d = 0
  · subst hd0
    obtain ⟨i, as', rfl, hc11, hi⟩ := hrecv rfl
    have hstF : (mRow b).2.2.2.2.2.2 = false := hst
    rw [hstF] at w3 h2
    rw [if_neg (by decide)] at w3 h2
    rw [if_pos (by decide)] at h7
    obtain ⟨k, hk⟩ := smW_get (cA := cA) (ad := ad) z (r := ((mRow b).2.2.2.2.1, i)) hi
    rw [cell_obj hc11] at hk
    have hrc := va_recv hK hH.1 (cl_at hc11) hk
    rw [h4] at hrc
    have hsel : inT (.selects (mRow b).1.cls (mRow b).1 (mRow b).1) := by
      rcases w3.2 with q | q
      · exact absurd q (initL_ok _ (mlT_lt _ hml) hni)
      · exact q
    refine sm_call (va_runV (C := (mRow b).1.cls) (own := cnm o) (As := as'.map (trv ad)) (rest := st.map (trv ad)) (index := a) (Ts := []) (b := ad ((mRow b).2.2.2.2.1, i)) (n := as'.length) ⟨hx, hb, hmlc, hown, fun w hw => by cases hw⟩ hM
      ⟨⟨rfl, rfl, hf1, hloc, hws, List.mem_cons_self, hT.use w1, hT.use w2, h1, fun sig hsig => ?_, hT.use h7⟩, hT.use w3.1, hT.use hsel⟩
      ⟨pc_blind _, hrc, fun U hU hW => ⟨rfl, rep_at F hH hS U hU hW⟩⟩ rfl (by simp) hsz ?_ hrm hd ⟨hcs.1, hcs.2⟩) hS kk
    · rw [hsig] at h2
      have h9 := Option.some.inj h2
      rw [List.length_cons] at hn
      rw [← hn] at h9
      exact h9.symm
    · simp [trv]
  · have hstT : (mRow b).2.2.2.2.2.2 = true := by rw [hst]; exact decide_eq_true hd0
    rw [hstT] at w3 h2
    rw [if_pos rfl] at w3 h2
    have hsg : ∀ sig, parseMethodDescriptor (mRow b).1.desc = some sig → as.length = sig.parameters.length := fun sig hsig => by
      rw [hsig] at h2
      have h9 := Option.some.inj h2
      rw [Nat.sub_zero] at h9
      rw [hn, ← h9]
    rw [if_neg hd0] at hd
    by_cases hd2 : d = 2
    · rw [if_pos hd2, if_neg (by decide)] at h7
      refine sm_call (va_runSN (own := cnm o) (host := RX9) (As := as.map (trv ad)) (rest := st.map (trv ad)) (index := a) (Ts := []) (n := as.length) ⟨hx, hb, hmlc, hown, fun w hw => by cases hw⟩ hM
        ⟨⟨⟨rfl, rfl, hf1, hloc, hws, List.mem_cons_self⟩, hT.use w1, hT.use w2, h1, hsg, hT.use h7⟩, hT.use w3, trivial⟩
        ⟨pc_blind _, fun U hU hW => ⟨rfl, rep_at F hH hS U hU hW⟩⟩ rfl (by simp) hsz (by simp) hrm hd ⟨hcs.1, hcs.2⟩) hS kk
    · rw [if_neg hd2, if_pos rfl] at h7
      refine sm_call (va_runS (own := cnm o) (As := as.map (trv ad)) (rest := st.map (trv ad)) (index := a) (Ts := []) (n := as.length) ⟨hx, hb, hmlc, hown, fun w hw => by cases hw⟩ hM
        ⟨⟨rfl, rfl, hf1, hloc, hws, List.mem_cons_self, hT.use w1, hT.use w2, h1, hsg, hT.use h7⟩, hT.use w3⟩
        ⟨pc_blind _, fun U hU hW => ⟨rfl, rep_at F hH hS U hU hW⟩⟩ rfl (by simp) hsz (by simp) hrm hd ⟨hcs.1, hcs.2⟩) hS kk
end SC
end
section
/-! a whole step -/
theorem Int32_ofInt_toInt (x : Int32) : Int32.ofInt x.toInt = x := Int32.ofInt_toInt x
section SW
variable {p : Program} {l : Launch} {e : Env} {R : Room} {s : State} {m : MethodId} {args : Array Value} {below : List Frame} {meth : Method} {c : Code} {cells slots : Nat} {QM : State → Prop}
variable {D : va_G} {cA : Nat → ClassId} {ad : Nat × Nat → Nat} {A : Nat → Prop} {L : Nat} {xs : Nat → Int32} {cc : ByteArray} {o nL : Nat} {pc : Nat} {lsA : Array Slot} {H : Heap} {locs : List Loc} {z : St} {rest : List Value} {st : List MV} {ls : List MV}
theorem s_load (F : FrOk p s m args meth c D cA ad A L xs cc o nL) {a b : Nat} {v : MV} (hm : (match b with | 0 => decide (a < 4) | 1 => true | 2 => decide (a < 4) | _ => true) = true) (hd : decode cc pc = .ok (instrOf (pc, (2, a, b, 0), 0, []))) (hl : locOk ad nL lsA ls) (hv : getL ls a = some v) (hi : (b = 0 ∨ b = 1) → ∃ x, v = .inl x) (hr : ¬ (b = 0 ∨ b = 1) → ∃ r, v = .inr r)
    (kk : W p l e R s m args below meth c H locs cells slots QM (F0 m (nextPc (pc, (2, a, b, 0), 0, [])) lsA (trv ad v :: rest))) : W p l e R s m args below meth c H locs cells slots QM (F0 m pc lsA rest) := by
  obtain ⟨hx, hb, -⟩ := id F
  have hg := loc_get hl hv
  match b, hm, hd, hi, hr, kk with
  | 0, hm, hd, hi, _, kk =>
    obtain ⟨x, rfl⟩ := hi (Or.inl rfl)
    exact lv_iload_n hx hb hd (Nat.mod_eq_of_lt (of_decide_eq_true hm)) hg kk
  | 1, hm, hd, hi, _, kk =>
    obtain ⟨x, rfl⟩ := hi (Or.inr rfl)
    exact lv_iload hx hb hd hg kk
  | 2, hm, hd, _, hr, kk =>
    obtain ⟨x, rfl⟩ := hr (by omega)
    exact lv_aload_n hx hb hd (Nat.mod_eq_of_lt (of_decide_eq_true hm)) hg kk
  | n + 3, hm, hd, _, hr, kk =>
    obtain ⟨x, rfl⟩ := hr (by omega)
    exact lv_aload hx hb hd hg kk
theorem s_store (F : FrOk p s m args meth c D cA ad A L xs cc o nL) {a b : Nat} {v : MV} (ha : a < nL) (hm : (match b with | 0 => decide (a < 4) | 1 => true | 2 => decide (a < 4) | _ => true) = true) (hd : decode cc pc = .ok (instrOf (pc, (3, a, b, 0), 0, []))) (hl : locOk ad nL lsA ls) (hlen : a ≤ ls.length) (hi : (b = 0 ∨ b = 1) → ∃ x, v = .inl x) (hr : ¬ (b = 0 ∨ b = 1) → ∃ r, v = .inr r)
    (kk : ∀ lsB, locOk ad nL lsB (setL ls a v) → W p l e R s m args below meth c H locs cells slots QM (F0 m (nextPc (pc, (3, a, b, 0), 0, [])) lsB rest)) : W p l e R s m args below meth c H locs cells slots QM (F0 m pc lsA (trv ad v :: rest)) := by
  obtain ⟨hx, hb, -⟩ := id F
  match b, hm, hd, hi, hr, kk with
  | 0, hm, hd, hi, _, kk =>
    obtain ⟨x, rfl⟩ := hi (Or.inl rfl)
    exact lv_istore_n hx hb hd (Nat.mod_eq_of_lt (of_decide_eq_true hm)) hl.1 ha rfl (fun lsB hB => kk lsB (loc_set hl ha hlen _ rfl hB))
  | 1, hm, hd, hi, _, kk =>
    obtain ⟨x, rfl⟩ := hi (Or.inr rfl)
    exact lv_istore hx hb hd hl.1 ha rfl (fun lsB hB => kk lsB (loc_set hl ha hlen _ rfl hB))
  | 2, hm, hd, _, hr, kk =>
    obtain ⟨x, rfl⟩ := hr (by omega)
    exact lv_astore_n hx hb hd (Nat.mod_eq_of_lt (of_decide_eq_true hm)) hl.1 ha rfl (fun lsB hB => kk lsB (loc_set hl ha hlen _ rfl hB))
  | n + 3, hm, hd, _, hr, kk =>
    obtain ⟨x, rfl⟩ := hr (by omega)
    exact lv_astore hx hb hd hl.1 ha rfl (fun lsB hB => kk lsB (loc_set hl ha hlen _ rfl hB))
theorem s_bin (F : FrOk p s m args meth c D cA ad A L xs cc o nL) {a : Nat} {x y : Int32} {k : Int32 → Prop} (hd : decode cc pc = .ok (instrOf (pc, (4, a, 0, 0), 0, []))) (h : binW a x y k)
    (kk : ∀ v, k v → W p l e R s m args below meth c H locs cells slots QM (F0 m (nextPc (pc, (4, a, 0, 0), 0, [])) lsA (.int v :: rest))) : W p l e R s m args below meth c H locs cells slots QM (F0 m pc lsA (.int y :: .int x :: rest)) := by
  obtain ⟨hx, hb, -⟩ := id F
  match a, hd, h, kk with
  | 0, hd, h, kk => exact lv_iadd hx hb hd (kk _ h)
  | 1, hd, h, kk => exact lv_isub hx hb hd (kk _ h)
  | 2, hd, h, kk => exact lv_imul hx hb hd (kk _ h)
  | 3, hd, h, kk => exact lv_idiv hx hb hd h.1 (kk _ h.2)
  | 4, hd, h, kk => exact lv_irem hx hb hd h.1 (kk _ h.2)
  | 5, hd, h, kk => exact lv_iand hx hb hd (kk _ h)
  | 6, hd, h, kk => exact lv_iushr hx hb hd rfl (kk _ h)
  | 7, hd, h, kk => exact lv_ixor hx hb hd (kk _ h)
  | 8, hd, h, kk => exact lv_ishr hx hb hd (kk _ h)
  | n + 9, hd, h, kk => exact lv_ishl hx hb hd (kk _ h)
theorem toInt_lt {x y : Int32} : x < y ↔ x.toInt < y.toInt := Int32.lt_iff_toInt_lt
theorem toInt_le {x y : Int32} : x ≤ y ↔ x.toInt ≤ y.toInt := Int32.le_iff_toInt_le
theorem s_if (F : FrOk p s m args meth c D cA ad A L xs cc o nL) {a b : Nat} {x : Int32} (hb6 : b < 6) (hd : decode cc pc = .ok (.ifCond (cndOf b) ((a : Int) - (pc : Int)), 3))
    (kf : cmpF b x 0 → W p l e R s m args below meth c H locs cells slots QM (F0 m (pc + 3) lsA rest)) (kt : cmpT b x 0 → W p l e R s m args below meth c H locs cells slots QM (F0 m a lsA rest)) : W p l e R s m args below meth c H locs cells slots QM (F0 m pc lsA (.int x :: rest)) := by
  obtain ⟨hx, hb, -⟩ := id F
  match b, hb6, hd, kf, kt with
  | 0, _, hd, kf, kt => exact lv_if_eq hx hb hd int_tgt (fun h => kt h) (fun h => kf h)
  | 1, _, hd, kf, kt => exact lv_if_ne hx hb hd int_tgt (fun h => kt h) (fun h => kf h)
  | 2, _, hd, kf, kt => exact lv_if_lt hx hb hd int_tgt (fun h => kt (toInt_lt.mp h)) (fun h => kf (Int.not_lt.mp fun q => h (toInt_lt.mpr q)))
  | 3, _, hd, kf, kt => exact lv_if_ge hx hb hd int_tgt (fun h => kt (toInt_le.mp h)) (fun h => kf (Int.not_le.mp fun q => h (toInt_le.mpr q)))
  | 4, _, hd, kf, kt => exact lv_if_gt hx hb hd int_tgt (fun h => kt (toInt_lt.mp h)) (fun h => kf (Int.not_lt.mp fun q => h (toInt_lt.mpr q)))
  | 5, _, hd, kf, kt => exact lv_if_le hx hb hd int_tgt (fun h => kt (toInt_le.mp h)) (fun h => kf (Int.not_le.mp fun q => h (toInt_le.mpr q)))
theorem s_icmp (F : FrOk p s m args meth c D cA ad A L xs cc o nL) {a b : Nat} {x y : Int32} (hb6 : b < 6) (hd : decode cc pc = .ok (.if_icmp (cndOf b) ((a : Int) - (pc : Int)), 3))
    (kf : cmpF b x y → W p l e R s m args below meth c H locs cells slots QM (F0 m (pc + 3) lsA rest)) (kt : cmpT b x y → W p l e R s m args below meth c H locs cells slots QM (F0 m a lsA rest)) : W p l e R s m args below meth c H locs cells slots QM (F0 m pc lsA (.int y :: .int x :: rest)) := by
  obtain ⟨hx, hb, -⟩ := id F
  match b, hb6, hd, kf, kt with
  | 0, _, hd, kf, kt => exact lv_icmp_eq hx hb hd int_tgt (fun h => kt h) (fun h => kf h)
  | 1, _, hd, kf, kt => exact lv_icmp_ne hx hb hd int_tgt (fun h => kt h) (fun h => kf h)
  | 2, _, hd, kf, kt => exact lv_icmp_lt hx hb hd int_tgt (fun h => kt (toInt_lt.mp h)) (fun h => kf (Int.not_lt.mp fun q => h (toInt_lt.mpr q)))
  | 3, _, hd, kf, kt => exact lv_icmp_ge hx hb hd int_tgt (fun h => kt (toInt_le.mp h)) (fun h => kf (Int.not_le.mp fun q => h (toInt_le.mpr q)))
  | 4, _, hd, kf, kt => exact lv_icmp_gt hx hb hd int_tgt (fun h => kt (toInt_lt.mp h)) (fun h => kf (Int.not_lt.mp fun q => h (toInt_lt.mpr q)))
  | 5, _, hd, kf, kt => exact lv_icmp_le hx hb hd int_tgt (fun h => kt (toInt_le.mp h)) (fun h => kf (Int.not_le.mp fun q => h (toInt_le.mpr q)))
end SW
/-! switches -/
theorem ofNat_toInt {n : Nat} (h : n < 1000) : (Int32.ofNat n).toInt = (n : Int) := nI_toInt (by omega)
theorem swW_mem {x : Int32} {k : Nat → Prop} {d : Nat} : ∀ {cs : List (Nat × Nat)}, swW x k d cs → (∃ q ∈ cs, x = Int32.ofNat q.1 ∧ k q.2) ∨ ((∀ q ∈ cs, ¬ x = Int32.ofNat q.1) ∧ k d)
  | [], h => Or.inr ⟨fun q hq => (List.not_mem_nil hq).elim, h⟩
  | (v, t) :: cs, h => by
    by_cases hx : x = Int32.ofNat v
    · exact Or.inl ⟨(v, t), List.mem_cons_self, hx, h.1 hx⟩
    · rcases swW_mem (h.2 hx) with ⟨q, hq, h1⟩ | ⟨h1, h2⟩
      · exact Or.inl ⟨q, List.mem_cons_of_mem _ hq, h1⟩
      · refine Or.inr ⟨fun q hq => ?_, h2⟩
        rcases List.mem_cons.mp hq with rfl | hq
        · exact hx
        · exact h1 q hq
theorem sw_look {x : Int32} {k : Nat → Prop} {d pc : Nat} : ∀ {cs : List (Nat × Nat)}, swW x k d cs → (∀ q ∈ cs, q.1 < 1000) → ∃ t : Nat, Op.lookupswitch.offset (cs.map fun q => ((q.1 : Int), (q.2 : Int) - (pc : Int))) ((d : Int) - (pc : Int)) x.toInt = (t : Int) - (pc : Int) ∧ k t
  | [], h, _ => ⟨d, rfl, h⟩
  | (v, t) :: cs, h, hs => by
    by_cases hx : x = Int32.ofNat v
    · refine ⟨t, ?_, h.1 hx⟩
      rw [List.map_cons, Op.lookupswitch.offset_cons, if_pos]
      rw [hx]
      exact (ofNat_toInt (hs _ List.mem_cons_self)).symm
    · obtain ⟨t', h1, h2⟩ := sw_look (pc := pc) (h.2 hx) (fun q hq => hs q (List.mem_cons_of_mem _ hq))
      refine ⟨t', ?_, h2⟩
      rw [List.map_cons, Op.lookupswitch.offset_cons, if_neg]
      · exact h1
      · intro q
        apply hx
        apply Int32.toInt_inj.mp
        rw [ofNat_toInt (hs _ List.mem_cons_self)]
        exact q.symm
theorem sw_tab {x : Int32} {k : Nat → Prop} {d pc lo : Nat} {cs : List (Nat × Nat)} (h : swW x k d cs) (hs : ∀ q ∈ cs, q.1 < 1000) (hc : cs.map (fun q => q.1) = List.range' lo cs.length) :
    (∃ t : Nat, k t ∧ (lo : Int) ≤ x.toInt ∧ x.toInt < (lo : Int) + (cs.length : Int) ∧ (cs.map fun q => (q.2 : Int) - (pc : Int)).toArray[(x.toInt - (lo : Int)).toNat]? = some ((t : Int) - (pc : Int))) ∨ (k d ∧ (x.toInt < (lo : Int) ∨ (lo : Int) + (cs.length : Int) ≤ x.toInt)) := by
  have at' : ∀ (i : Nat) (q : Nat × Nat), cs[i]? = some q → q.1 = lo + i := by
    intro i q hq
    have h1 : (cs.map (fun q => q.1))[i]? = some q.1 := by rw [List.getElem?_map, hq]; rfl
    have hl : i < cs.length := (List.getElem?_eq_some_iff.mp hq).1
    rw [hc, List.getElem?_range' hl] at h1
    have := Option.some.inj h1
    omega
  rcases swW_mem h with ⟨q, hq, h1, h2⟩ | ⟨h1, h2⟩
  · left
    obtain ⟨i, hi⟩ := List.getElem?_of_mem hq
    have e1 := at' i q hi
    have e2 : x.toInt = (q.1 : Int) := by rw [h1]; exact ofNat_toInt (hs q hq)
    have hl : i < cs.length := (List.getElem?_eq_some_iff.mp hi).1
    refine ⟨q.2, h2, by omega, by omega, ?_⟩
    have e3 : (x.toInt - (lo : Int)).toNat = i := by omega
    rw [e3, List.getElem?_toArray, List.getElem?_map, hi]
    rfl
  · right
    refine ⟨h2, ?_⟩
    apply Classical.byContradiction
    intro hn
    have g1 : (lo : Int) ≤ x.toInt := by omega
    have g2 : x.toInt < (lo : Int) + (cs.length : Int) := by omega
    have hi : (x.toInt - (lo : Int)).toNat < cs.length := by omega
    have e1 := at' _ _ (List.getElem?_eq_getElem hi)
    have hm : cs[(x.toInt - (lo : Int)).toNat] ∈ cs := List.getElem_mem hi
    apply h1 _ hm
    apply Int32.toInt_inj.mp
    rw [ofNat_toInt (hs _ hm)]
    omega
section SX
variable {p : Program} {l : Launch} {e : Env} {R : Room} {s : State} {m : MethodId} {args : Array Value} {below : List Frame} {meth : Method} {c : Code} {cells slots : Nat} {QM : State → Prop}
variable {D : va_G} {cA : Nat → ClassId} {ad : Nat × Nat → Nat} {A : Nat → Prop} {L : Nat} {xs : Nat → Int32} {cc : ByteArray} {o nL : Nat} {pc : Nat} {lsA : Array Slot} {H : Heap} {locs : List Loc} {z : St} {rest : List Value} {st : List MV} {ls : List MV}
theorem last_range {cs : List (Nat × Nat)} {lo : Nat} (hc : cs.map (fun q => q.1) = List.range' lo cs.length) (hne : cs ≠ []) : ((cs.getLast?).getD (0, 0)).1 + 1 = lo + cs.length := by
  have hl : 0 < cs.length := List.length_pos_iff.mpr hne
  rw [List.getLast?_eq_getElem?]
  have hi : cs.length - 1 < cs.length := by omega
  have h1 : (cs.map (fun q => q.1))[cs.length - 1]? = some (cs[cs.length - 1]).1 := by rw [List.getElem?_map, List.getElem?_eq_getElem hi]; rfl
  rw [hc, List.getElem?_range' hi] at h1
  have := Option.some.inj h1
  rw [List.getElem?_eq_getElem hi]
  simp only [Option.getD_some]
  omega
theorem s_switch (F : FrOk p s m args meth c D cA ad A L xs cc o nL) {a b d : Nat} {cs : List (Nat × Nat)} {x : Int32} {k : Nat → Prop} (hm : moreOk o nL (pc, (18, a, b, d), 0, cs) = true) (hd : decode cc pc = .ok (instrOf (pc, (18, a, b, d), 0, cs))) (h : swW x k a cs)
    (kk : ∀ t, k t → W p l e R s m args below meth c H locs cells slots QM (F0 m t lsA rest)) : W p l e R s m args below meth c H locs cells slots QM (F0 m pc lsA (.int x :: rest)) := by
  obtain ⟨hx, hb, -⟩ := id F
  match d, hm, hd with
  | 0, hm, hd =>
    have hm : ((decide (cs.map (fun q => q.1) = (List.range' (cs.head?.getD (0, 0)).1 cs.length)) && decide (cs ≠ [])) && cs.all (fun q => decide (q.1 < 1000))) = true := hm
    rw [Bool.and_eq_true, Bool.and_eq_true, decide_eq_true_eq, decide_eq_true_eq, List.all_eq_true] at hm
    obtain ⟨⟨h1, h2⟩, h3⟩ := hm
    have h3 : ∀ q ∈ cs, q.1 < 1000 := fun q hq => of_decide_eq_true (h3 q hq)
    have hlast := last_range h1 h2
    rcases sw_tab (pc := pc) h h3 h1 with ⟨t, g1, g2, g3, g4⟩ | ⟨g1, g2⟩
    · exact lv_tableIn hx hb hd (by omega) (by omega) g4 int_tgt (kk t g1)
    · exact lv_tableOut hx hb hd (by omega) int_tgt (kk a g1)
  | n + 1, hm, hd =>
    have hm : (((cs.map fun q => ((q.1 : Int), (q.2 : Int) - (pc : Int))).zip ((cs.map fun q => ((q.1 : Int), (q.2 : Int) - (pc : Int))).drop 1)).all (fun (a, next) => a.1 < next.1) && cs.all (fun q => decide (q.1 < 1000))) = true := hm
    rw [Bool.and_eq_true] at hm
    have h3 : ∀ q ∈ cs, q.1 < 1000 := fun q hq => of_decide_eq_true (List.all_eq_true.mp hm.2 q hq)
    obtain ⟨t, g1, g2⟩ := sw_look (pc := pc) h h3
    exact lv_lookup hx hb hd hm.1 g1 int_tgt (kk t g2)
end SX
end
section
/-! THE STEP, whole; the stretch; the method -/
theorem virt_all : ∀ q ∈ mlT, (mRow q.2.2.1).2.2.2.2.2.2 = false → (mRow q.2.2.1).2.2.2.2.1 < 10 := by decide +kernel
theorem virt_lt {o a b n : Nat} (q : Nat) (h : (o, a, b, n) ∈ mlT) (hs : (mRow b).2.2.2.2.2.2 = decide (¬ (0 : Nat) = 0)) : (mRow b).2.2.2.2.1 < 10 := virt_all _ h hs
theorem inv_split {call : Nat → List MV → St → (Option MV → St → Prop) → Prop} {n w b d : Nat} {st : List MV} {z : St} {kk : List MV → St → Prop} {cs : List (Nat × Nat)} (h : (match cs with
      | (n, w) :: _ => (match popL n [] st with
        | some (as, st) => boolW (Nat.ble st.length 8) (match Nat.beq d 0 with
          | true => (match as with
            | .inr (q, _) :: _ => boolW (Nat.beq q w) (call b as z (fun r s => kk (pushW r st) s))
            | _ => False)
          | false => call b as z (fun r s => kk (pushW r st) s))
        | none => False)
      | [] => False)) (hcs : cs = [(n, w)]) : ∃ as st', st = as.reverse ++ st' ∧ as.length = n ∧ st'.length ≤ 8 ∧ call b as z (fun r s => kk (pushW r st') s) ∧ (d = 0 → ∃ i as', as = .inr (w, i) :: as') := by
  subst hcs
  have h : (match popL n [] st with
        | some (as, st) => boolW (Nat.ble st.length 8) (match Nat.beq d 0 with
          | true => (match as with
            | .inr (q, _) :: _ => boolW (Nat.beq q w) (call b as z (fun r s => kk (pushW r st) s))
            | _ => False)
          | false => call b as z (fun r s => kk (pushW r st) s))
        | none => False) := h
  cases hp : popL n [] st with
  | none => rw [hp] at h; exact h.elim
  | some pr =>
    obtain ⟨as, st'⟩ := pr
    rw [hp] at h
    obtain ⟨t, e1, e2, e3⟩ := popL_eq _ _ _ _ _ hp
    rw [List.append_nil] at e1
    subst e1
    obtain ⟨hlen, h2⟩ := boolW_t h
    refine ⟨as, st', e2, e3, Nat.le_of_ble_eq_true hlen, ?_⟩
    cases hd0 : Nat.beq d 0 with
    | false =>
      rw [hd0] at h2
      exact ⟨h2, fun e => by rw [e] at hd0; cases hd0⟩
    | true =>
      rw [hd0] at h2
      cases as with
      | nil => exact (h2 : False).elim
      | cons v as' => cases v with
        | inl x => exact (h2 : False).elim
        | inr r =>
          obtain ⟨q, i⟩ := r
          obtain ⟨hq, h3⟩ := boolW_t h2
          have hq := Nat.eq_of_beq_eq_true hq
          subst hq
          exact ⟨h3, fun _ => ⟨i, as', rfl⟩⟩
def idxOk (b a : Nat) : Bool := match b with
  | 0 => decide (a < 4) | 1 => true | 2 => decide (a < 4) | _ => true
section SL
variable {p : Program} {l : Launch} {e : Env} {R : Room} {s : State} {m : MethodId} {args : Array Value} {below : List Frame} {meth : Method} {c : Code} {cells slots : Nat} {QM : State → Prop}
variable {D : va_G} {cA : Nat → ClassId} {ad : Nat × Nat → Nat} {A : Nat → Prop} {L : Nat} {xs : Nat → Int32} {cc : ByteArray} {o nL : Nat} {H : Heap} {locs : List Loc} {lsA : Array Slot} {rest : List Value} {ls : List MV}
theorem s_loadI (F : FrOk p s m args meth c D cA ad A L xs cc o nL) {pc a b d : Nat} {c0 x : Int32} {cs : List (Nat × Nat)} (hm : idxOk b a = true) (hb1 : b ≤ 1) (hd : decode cc pc = .ok (instrOf (pc, (2, a, b, d), c0, cs))) (hg : lsA[a]? = some (.val (.int x)))
    (kk : W p l e R s m args below meth c H locs cells slots QM (F0 m (nextPc (pc, (2, a, b, d), c0, cs)) lsA (.int x :: rest))) : W p l e R s m args below meth c H locs cells slots QM (F0 m pc lsA rest) := by
  obtain ⟨hx, hb, -⟩ := id F
  match b, hm, hb1, hd, kk with
  | 0, hm, _, hd, kk => exact lv_iload_n hx hb hd (Nat.mod_eq_of_lt (of_decide_eq_true hm)) hg kk
  | 1, hm, _, hd, kk => exact lv_iload hx hb hd hg kk
theorem s_loadR (F : FrOk p s m args meth c D cA ad A L xs cc o nL) {pc a b d x : Nat} {c0 : Int32} {cs : List (Nat × Nat)} (hm : idxOk b a = true) (hb1 : 2 ≤ b) (hd : decode cc pc = .ok (instrOf (pc, (2, a, b, d), c0, cs))) (hg : lsA[a]? = some (.val (.ref x)))
    (kk : W p l e R s m args below meth c H locs cells slots QM (F0 m (nextPc (pc, (2, a, b, d), c0, cs)) lsA (.ref x :: rest))) : W p l e R s m args below meth c H locs cells slots QM (F0 m pc lsA rest) := by
  obtain ⟨hx, hb, -⟩ := id F
  match b, hm, hb1, hd, kk with
  | 2, hm, _, hd, kk => exact lv_aload_n hx hb hd (Nat.mod_eq_of_lt (of_decide_eq_true hm)) hg kk
  | n + 3, hm, _, hd, kk => exact lv_aload hx hb hd hg kk
theorem s_storeI (F : FrOk p s m args meth c D cA ad A L xs cc o nL) {pc a b d : Nat} {c0 x : Int32} {cs : List (Nat × Nat)} (ha : a < nL) (hlen : a ≤ ls.length) (hloc : locOk ad nL lsA ls) (hm : idxOk b a = true) (hb1 : b ≤ 1) (hd : decode cc pc = .ok (instrOf (pc, (3, a, b, d), c0, cs)))
    (kk : ∀ lsB, locOk ad nL lsB (setL ls a (.inl x)) → W p l e R s m args below meth c H locs cells slots QM (F0 m (nextPc (pc, (3, a, b, d), c0, cs)) lsB rest)) : W p l e R s m args below meth c H locs cells slots QM (F0 m pc lsA (.int x :: rest)) := by
  obtain ⟨hx, hb, -⟩ := id F
  match b, hm, hb1, hd, kk with
  | 0, hm, _, hd, kk => exact lv_istore_n hx hb hd (Nat.mod_eq_of_lt (of_decide_eq_true hm)) hloc.1 ha rfl (fun lsB hB => kk lsB (loc_set hloc ha hlen (.inl x) rfl hB))
  | 1, hm, _, hd, kk => exact lv_istore hx hb hd hloc.1 ha rfl (fun lsB hB => kk lsB (loc_set hloc ha hlen (.inl x) rfl hB))
theorem s_storeR (F : FrOk p s m args meth c D cA ad A L xs cc o nL) {pc a b d : Nat} {c0 : Int32} {r : Nat × Nat} {cs : List (Nat × Nat)} (ha : a < nL) (hlen : a ≤ ls.length) (hloc : locOk ad nL lsA ls) (hm : idxOk b a = true) (hb1 : 2 ≤ b) (hd : decode cc pc = .ok (instrOf (pc, (3, a, b, d), c0, cs)))
    (kk : ∀ lsB, locOk ad nL lsB (setL ls a (.inr r)) → W p l e R s m args below meth c H locs cells slots QM (F0 m (nextPc (pc, (3, a, b, d), c0, cs)) lsB rest)) : W p l e R s m args below meth c H locs cells slots QM (F0 m pc lsA (.ref (ad r) :: rest)) := by
  obtain ⟨hx, hb, -⟩ := id F
  match b, hm, hb1, hd, kk with
  | 2, hm, _, hd, kk => exact lv_astore_n hx hb hd (Nat.mod_eq_of_lt (of_decide_eq_true hm)) hloc.1 ha rfl (fun lsB hB => kk lsB (loc_set hloc ha hlen (.inr r) rfl hB))
  | n + 3, hm, _, hd, kk => exact lv_astore hx hb hd hloc.1 ha rfl (fun lsB hB => kk lsB (loc_set hloc ha hlen (.inr r) rfl hB))
theorem s_const (F : FrOk p s m args meth c D cA ad A L xs cc o nL) {pc a b d : Nat} {c0 : Int32} {cs : List (Nat × Nat)} (hm : moreOk o nL (pc, (1, a, b, d), c0, cs) = true) (hd : decode cc pc = .ok (instrOf (pc, (1, a, b, d), c0, cs)))
    (kk : W p l e R s m args below meth c H locs cells slots QM (F0 m (nextPc (pc, (1, a, b, d), c0, cs)) lsA (.int c0 :: rest))) : W p l e R s m args below meth c H locs cells slots QM (F0 m pc lsA rest) := by
  obtain ⟨hx, hb, hmlc, hown, hlkk, hT, hK, hA, hX⟩ := id F
  match b, hm, hd, kk with
  | 0, _, hd, kk => exact lv_iconst hx hb hd (Int32_ofInt_toInt c0) kk
  | 1, hm, hd, kk => exact lv_bipush hx hb hd (of_decide_eq_true hm) kk
  | 2, hm, hd, kk => exact lv_sipush hx hb hd (of_decide_eq_true hm) kk
  | n + 4, hm, hd, kk =>
    have hm : (o, a, c0) ∈ [(24, 7, (763049417 : Int32)), (24, 8, 2147483647)] := of_decide_eq_true hm
    have hc : inT (.constant (cnm o) a c0) := by
      rcases List.mem_cons.mp hm with q | hm
      · cases q; exact ck_7
      rcases List.mem_cons.mp hm with q | hm
      · cases q; exact ck_8
      cases hm
    exact lv_ldc hx hb hown (hT.use hc) hd kk
  | 3, hm, hd, kk =>
    have hm : (o, a, c0) ∈ [(25, 265, (1431655765 : Int32)), (25, 266, 858993459), (25, 267, 252645135)] := of_decide_eq_true hm
    have hc : inT (.constant (cnm o) a c0) := by
      rcases List.mem_cons.mp hm with q | hm
      · cases q; exact ck_265
      rcases List.mem_cons.mp hm with q | hm
      · cases q; exact ck_266
      rcases List.mem_cons.mp hm with q | hm
      · cases q; exact ck_267
      cases hm
    exact lv_ldcw hx hb hown (hT.use hc) hd kk
end SL
section SM
variable {p : Program} {l : Launch} {e : Env} {R : Room} {s : State} {m : MethodId} {args : Array Value} {below : List Frame} {meth : Method} {c : Code} {cells slots : Nat} {QM : State → Prop}
variable {D : va_G} {cA : Nat → ClassId} {ad : Nat × Nat → Nat} {A : Nat → Prop} {L : Nat} {xs : Nat → Int32} {cc : ByteArray} {o nL : Nat}
set_option maxHeartbeats 4000000 in
theorem step_sound (F : FrOk p s m args meth c D cA ad A L xs cc o nL) {call : Nat → List MV → St → (Option MV → St → Prop) → Prop} {ret : Nat} {Q : Option MV → St → Prop} {X : Nat → List MV → List MV → St → Prop} {k : List Ent → List MV → List MV → St → Prop} {j : Nat → List MV → List MV → St → Prop}
    (hcall : ∀ b as z Q', call b as z Q' → (∀ v ∈ as, okV v) → as.length = (mRow b).2.2.2.2.2.1 → b < 123 → ∃ f, f + 1 ≤ R.frames ∧ 38 * f + 38 ≤ R.locals ∧ MetC l D cA ad A L xs f b as z Q')
    (hR0 : ∀ v z H locs lsA pc, retW ret v (Q (some (.inl v)) z) → Hp D cA ad z H → va_S A s.heap H locs → decode cc pc = .ok (.ireturn, 1) → W p l e R s m args below meth c H locs cells slots QM (F0 m pc lsA [.int v]))
    (hR1 : ∀ z H locs lsA pc, ret = 2 → Q none z → Hp D cA ad z H → va_S A s.heap H locs → decode cc pc = .ok (.return_, 1) → W p l e R s m args below meth c H locs cells slots QM (F0 m pc lsA []))
    (hmin : 1 ≤ R.frames ∧ 21 ≤ R.locals)
    (hXX : ∀ pc ls st z, X pc ls st z → XwP p l e R s m args below meth c cells slots QM D cA ad A nL pc ls st z) (hcs : cells ≤ R.cells ∧ slots ≤ R.slots) :
    ∀ (pc op a b d : Nat) (c0 : Int32) (cs : List (Nat × Nat)) (es : List Ent) (ls st : List MV) (z : St), entOk o nL cc (pc, (op, a, b, d), c0, cs) = true →
    (∀ ls st z, k es ls st z → XwP p l e R s m args below meth c cells slots QM D cA ad A nL (nextPc (pc, (op, a, b, d), c0, cs)) ls st z) →
    (∀ t ls st z, j t ls st z → XwP p l e R s m args below meth c cells slots QM D cA ad A nL t ls st z) →
    stepW call L xs ret Q X k j ((pc, (op, a, b, d), c0, cs) :: es) ls st z → XwP p l e R s m args below meth c cells slots QM D cA ad A nL pc ls st z := by
  intro pc op a b d c0 cs es ls st z hok hk hj h hls hst H locs lsA hH hS hloc
  obtain ⟨hx, hb, hmlc, hown, hlkk, hT, hK, hA, hX⟩ := id F
  have hsz : lsA.size = nL := hloc.1.1
  obtain ⟨hdec, hmore⟩ : (op = 0 ∨ decode cc pc = .ok (instrOf (pc, (op, a, b, d), c0, cs))) ∧ moreOk o nL (pc, (op, a, b, d), c0, cs) = true := by
    unfold entOk at hok
    rw [Bool.and_eq_true, Bool.or_eq_true, decide_eq_true_eq, decide_eq_true_eq] at hok
    exact hok
  match op, hdec, hmore, hk, h with
  | 0, _, _, _, h => exact hXX _ _ _ _ h (by rw [takeL_eq]; exact fun v hv => hls v (List.mem_of_mem_take hv)) hst H locs lsA hH hS (loc_take hloc a)
  | 1, hdec, hmore, hk, h =>
    have hd := hdec.resolve_left (by decide)
    exact s_const F hmore hd (hk _ _ _ h hls (okV_cons trivial hst) H locs lsA hH hS hloc)
  | 2, hdec, hmore, hk, h =>
    have hd := hdec.resolve_left (by decide)
    cases hv : getL ls a with
    | none =>
      have h : (match getL ls a with | some (.inl x) => boolW (Nat.ble b 1) (k es ls (.inl x :: st) z) | some (.inr r) => boolW (Nat.ble 2 b) (k es ls (.inr r :: st) z) | none => False) := h
      rw [hv] at h
      exact h.elim
    | some v =>
      have hg := loc_get hloc hv
      cases v with
      | inl x =>
        have h : (match getL ls a with | some (.inl x) => boolW (Nat.ble b 1) (k es ls (.inl x :: st) z) | some (.inr r) => boolW (Nat.ble 2 b) (k es ls (.inr r :: st) z) | none => False) := h
        rw [hv] at h
        obtain ⟨hb1, h⟩ := boolW_t h
        have hb1 := Nat.le_of_ble_eq_true hb1
        exact s_loadI F hmore hb1 hd hg (hk _ _ _ h hls (okV_cons (v := .inl x) trivial hst) H locs lsA hH hS hloc)
      | inr r =>
        have h : (match getL ls a with | some (.inl x) => boolW (Nat.ble b 1) (k es ls (.inl x :: st) z) | some (.inr r) => boolW (Nat.ble 2 b) (k es ls (.inr r :: st) z) | none => False) := h
        rw [hv] at h
        obtain ⟨hb1, h⟩ := boolW_t h
        have hb1 := Nat.le_of_ble_eq_true hb1
        exact s_loadR F hmore hb1 hd hg (hk _ _ _ h hls (okV_cons (okV_getL hls hv) hst) H locs lsA hH hS hloc)
  | 3, hdec, hmore, hk, h =>
    have hd := hdec.resolve_left (by decide)
    have hmore : (decide (a < nL) && idxOk b a) = true := hmore
    rw [Bool.and_eq_true] at hmore
    have ha : a < nL := of_decide_eq_true hmore.1
    have hmore := hmore.2
    cases st with
    | nil => exact (h : False).elim
    | cons v st => cases v with
      | inl x =>
        obtain ⟨hb1, h⟩ := boolW_t h
        rw [Bool.and_eq_true] at hb1
        have hlen := Nat.le_of_ble_eq_true hb1.2
        have hb1 := Nat.le_of_ble_eq_true hb1.1
        exact s_storeI F ha hlen hloc hmore hb1 hd (fun lsB hB => hk _ _ _ h (setL_ok (v := .inl x) hls trivial a) (okV_tail hst) H locs lsB hH hS hB)
      | inr r =>
        obtain ⟨hb1, h⟩ := boolW_t h
        rw [Bool.and_eq_true] at hb1
        have hlen := Nat.le_of_ble_eq_true hb1.2
        have hb1 := Nat.le_of_ble_eq_true hb1.1
        exact s_storeR F ha hlen hloc hmore hb1 hd (fun lsB hB => hk _ _ _ h (setL_ok hls (okV_head hst) a) (okV_tail hst) H locs lsB hH hS hB)
  | 4, hdec, hmore, hk, h =>
    have hd := hdec.resolve_left (by decide)
    cases st with
    | nil => exact (h : False).elim
    | cons v1 st => cases v1 with
      | inr r => exact (h : False).elim
      | inl y => cases st with
        | nil => exact (h : False).elim
        | cons v2 st => cases v2 with
          | inr r => exact (h : False).elim
          | inl x =>
            have h : binW a x y (fun v => k es ls (.inl v :: st) z) := h
            refine s_bin (k := fun v => k es ls (.inl v :: st) z) F hd h (fun v hv => ?_)
            exact hk _ _ _ hv hls (okV_cons trivial (okV_tail (okV_tail hst))) H locs lsA hH hS hloc
  | 5, hdec, hmore, hk, h =>
    have hd := hdec.resolve_left (by decide)
    have ha : a < nL := of_decide_eq_true hmore
    have h : (match getL ls a with | some (.inl x) => k es (setL ls a (.inl (x + c0))) st z | _ => False) := h
    cases hv : getL ls a with
    | none => rw [hv] at h; exact h.elim
    | some v => cases v with
      | inr r => rw [hv] at h; exact h.elim
      | inl x =>
        rw [hv] at h
        have hlen : a < ls.length := by
          rw [getL_eq] at hv
          exact (List.getElem?_eq_some_iff.mp hv).1
        have hmem : (a, Value.int x) ∈ enumL 0 (ls.map (trv ad)) := mem_enumL.mpr ⟨Nat.zero_le _, by rw [getL_eq] at hv; simp [hv, trv]⟩
        obtain ⟨kx, hkx⟩ := List.getElem?_of_mem hmem
        refine lv_iinc hx hb hd hloc.1 hkx (by rw [Int32_ofInt_toInt]) ha rfl (fun lsB hB => ?_)
        exact hk _ _ _ h (setL_ok (v := .inl (x + c0)) hls trivial a) hst H locs lsB hH hS (loc_set hloc ha (by omega) (.inl (x + c0)) rfl hB)
  | 6, hdec, hmore, hk, h =>
    have hd := hdec.resolve_left (by decide)
    cases st with
    | nil => exact (h : False).elim
    | cons v1 st => cases v1 with
      | inr r => exact (h : False).elim
      | inl x => exact s_if F (of_decide_eq_true hmore) hd (fun q => hk _ _ _ (h.1 q) hls (okV_tail hst) H locs lsA hH hS hloc) (fun q => hj _ _ _ _ (h.2 q) hls (okV_tail hst) H locs lsA hH hS hloc)
  | 7, hdec, hmore, hk, h =>
    have hd := hdec.resolve_left (by decide)
    cases st with
    | nil => exact (h : False).elim
    | cons v1 st => cases v1 with
      | inr r => exact (h : False).elim
      | inl y => cases st with
        | nil => exact (h : False).elim
        | cons v2 st => cases v2 with
          | inr r => exact (h : False).elim
          | inl x => exact s_icmp F (of_decide_eq_true hmore) hd (fun q => hk _ _ _ (h.1 q) hls (okV_tail (okV_tail hst)) H locs lsA hH hS hloc) (fun q => hj _ _ _ _ (h.2 q) hls (okV_tail (okV_tail hst)) H locs lsA hH hS hloc)
  | 8, hdec, hmore, hk, h =>
    have hd := hdec.resolve_left (by decide)
    exact lv_goto hx hb hd int_tgt (hj _ _ _ _ h hls hst H locs lsA hH hS hloc)
  | 9, hdec, hmore, hk, h =>
    have hd := hdec.resolve_left (by decide)
    have hfl : (o, a, b, d) ∈ flT := of_decide_eq_true hmore
    have hb11 := (flT_lt _ hfl).1
    cases st with
    | nil => exact (h : False).elim
    | cons v1 st => cases v1 with
      | inl r => exact (h : False).elim
      | inr r =>
        obtain ⟨q, i⟩ := r
        have h' := boolW_t h; clear h; obtain ⟨hq, hz⟩ := h'
        have hq := Nat.eq_of_beq_eq_true hq
        subst hq
        have hi : i < cntK q := okR_obj (okV_head hst) (Nat.lt_trans hb11 (by decide))
        exact s_get F hfl hi hH hd (hk _ _ _ hz hls (okV_cons (okV_fv hi) (okV_tail hst)) H locs lsA hH hS hloc)
  | 10, hdec, hmore, hk, h =>
    have hd := hdec.resolve_left (by decide)
    have hfl : (o, a, b, d) ∈ flT := of_decide_eq_true hmore
    have hb11 := (flT_lt _ hfl).1
    cases st with
    | nil => exact (h : False).elim
    | cons v1 st => cases v1 with
      | inr r => exact (h : False).elim
      | inl x => cases st with
        | nil => exact (h : False).elim
        | cons v2 st => cases v2 with
          | inl r => exact (h : False).elim
          | inr r =>
            obtain ⟨q, i⟩ := r
            have h' := boolW_t h; clear h; obtain ⟨hq, hz⟩ := h'
            have hq := Nat.eq_of_beq_eq_true hq
            subst hq
            have hi : i < cntK q := okR_obj (okV_head (okV_tail hst)) (Nat.lt_trans hb11 (by decide))
            have h : (match lk q d i with | none => (match Nat.beq q 2 && Nat.beq d 5 with | true => (x = 0 ∨ x = 1) ∧ k es ls st (putV z q i d x) | false => k es ls st (putV z q i d x)) | some _ => False) := hz
            cases hl : lk q d i with
            | some r => rw [hl] at h; exact h.elim
            | none =>
              rw [hl] at h
              have h : (match Nat.beq q 2 && Nat.beq d 5 with | true => (x = 0 ∨ x = 1) ∧ k es ls st (putV z q i d x) | false => k es ls st (putV z q i d x)) := h
              cases hbb : Nat.beq q 2 && Nat.beq d 5 with
              | true =>
                rw [hbb] at h
                exact s_put F hfl hi hl (fun _ => h.1) hH hS hd (fun H1 locs1 hH1 hS1 => hk _ _ _ h.2 hls (okV_tail (okV_tail hst)) H1 locs1 lsA hH1 hS1 hloc)
              | false =>
                rw [hbb] at h
                exact s_put F hfl hi hl (fun hc => by rw [hc.1, hc.2] at hbb; cases hbb) hH hS hd (fun H1 locs1 hH1 hS1 => hk _ _ _ h hls (okV_tail (okV_tail hst)) H1 locs1 lsA hH1 hS1 hloc)
  | 11, hdec, hmore, hk, h =>
    have hd := hdec.resolve_left (by decide)
    cases st with
    | nil => exact (h : False).elim
    | cons v1 st => cases v1 with
      | inr r => exact (h : False).elim
      | inl i => cases st with
        | nil => exact (h : False).elim
        | cons v2 st => cases v2 with
          | inl r => exact (h : False).elim
          | inr r =>
            obtain ⟨q, n⟩ := r
            have hst2 := okV_tail (okV_tail hst)
            have hqn := okV_head (okV_tail hst)
            have h : (match Nat.beq q 24 with
              | true => boolW (Nat.beq a 0) (inA i L ∧ k es ls (.inl (xs i.toNatClampNeg) :: st) z)
              | false => (match akind q with
                | 0 => boolW (Nat.beq a 0) (inA i (alen q) ∧ k es ls (.inl (z.1 q n i.toNatClampNeg) :: st) z)
                | 1 => boolW (Nat.beq a 1) (inA i (alen q) ∧ k es ls (.inl (z.1 q n i.toNatClampNeg) :: st) z)
                | 2 => boolW (Nat.beq a 1) (inA i (alen q) ∧ k es ls (.inl (z.1 q n i.toNatClampNeg) :: st) z)
                | 3 => boolW (Nat.beq a 2) (inA i (alen q) ∧ k es ls (.inr (el z.2 q n i.toNatClampNeg) :: st) z)
                | _ => False)) := h
            cases hq : Nat.beq q 24 with
            | true =>
              rw [hq] at h
              have h' := boolW_t h; clear h; obtain ⟨ha, hin, hz⟩ := h'
              have ha := Nat.eq_of_beq_eq_true ha
              have hq := Nat.eq_of_beq_eq_true hq
              subst ha; subst hq
              have hn : n = 0 := by
                rcases hqn with h9 | h9
                · exact absurd h9 (Nat.not_lt_zero n)
                · exact congrArg Prod.snd h9
              subst hn
              exact s_sld F hin hS hd (hk _ _ _ hz hls (okV_cons (v := .inl _) trivial hst2) H locs lsA hH hS hloc)
            | false =>
              rw [hq] at h
              have hq24 : q ≠ 24 := fun e => by rw [e] at hq; cases hq
              have hcnt : n < cntK q := by
                rcases hqn with h9 | h9
                · exact h9
                · exact absurd (congrArg Prod.fst h9) hq24
              have h : (match akind q with
                | 0 => boolW (Nat.beq a 0) (inA i (alen q) ∧ k es ls (.inl (z.1 q n i.toNatClampNeg) :: st) z)
                | 1 => boolW (Nat.beq a 1) (inA i (alen q) ∧ k es ls (.inl (z.1 q n i.toNatClampNeg) :: st) z)
                | 2 => boolW (Nat.beq a 1) (inA i (alen q) ∧ k es ls (.inl (z.1 q n i.toNatClampNeg) :: st) z)
                | 3 => boolW (Nat.beq a 2) (inA i (alen q) ∧ k es ls (.inr (el z.2 q n i.toNatClampNeg) :: st) z)
                | _ => False) := h
              match hak : akind q, h with
              | 0, h =>
                have h' := boolW_t h; clear h; obtain ⟨ha, hin, hz⟩ := h'
                have ha := Nat.eq_of_beq_eq_true ha
                subst ha
                exact s_ild F hcnt hak hin hH hd (hk _ _ _ hz hls (okV_cons (v := .inl _) trivial hst2) H locs lsA hH hS hloc)
              | 1, h =>
                have h' := boolW_t h; clear h; obtain ⟨ha, hin, hz⟩ := h'
                have ha := Nat.eq_of_beq_eq_true ha
                subst ha
                exact s_zld F hcnt hak hin hH hd (hk _ _ _ hz hls (okV_cons (v := .inl _) trivial hst2) H locs lsA hH hS hloc)
              | 2, h =>
                have h' := boolW_t h; clear h; obtain ⟨ha, hin, hz⟩ := h'
                have ha := Nat.eq_of_beq_eq_true ha
                subst ha
                exact s_bld F hcnt hak hin hH hd (hk _ _ _ hz hls (okV_cons (v := .inl _) trivial hst2) H locs lsA hH hS hloc)
              | 3, h =>
                have h' := boolW_t h; clear h; obtain ⟨ha, hin, hz⟩ := h'
                have ha := Nat.eq_of_beq_eq_true ha
                subst ha
                exact s_qld F hcnt hak hin hH hd (hk _ _ _ hz hls (okV_cons (okR_el hH.2 hcnt hak (inA_lt hin)) hst2) H locs lsA hH hS hloc)
              | w + 4, h => exact (h : False).elim
  | 12, hdec, hmore, hk, h =>
    have hd := hdec.resolve_left (by decide)
    cases st with
    | nil => exact (h : False).elim
    | cons v0 st => cases st with
      | nil => cases v0 <;> exact (h : False).elim
      | cons v1 st => cases v1 with
        | inr r => cases v0 <;> exact (h : False).elim
        | inl i => cases st with
          | nil => cases v0 <;> exact (h : False).elim
          | cons v2 st => cases v2 with
            | inl r => cases v0 <;> exact (h : False).elim
            | inr r =>
              obtain ⟨q, n⟩ := r
              have hst2 := okV_tail (okV_tail (okV_tail hst))
              have hqn := okV_head (okV_tail (okV_tail hst))
              have hqn2 : q ≠ 24 → n < cntK q := fun hq24 => by
                rcases hqn with h9 | h9
                · exact h9
                · exact absurd (congrArg Prod.fst h9) hq24
              cases v0 with
              | inr w =>
                obtain ⟨w, y⟩ := w
                have h' := boolW_t h; clear h; obtain ⟨hb1, hin, hz⟩ := h'
                rw [Bool.and_eq_true, Bool.and_eq_true] at hb1
                have e1 := Nat.eq_of_beq_eq_true hb1.1
                have e2 := Nat.eq_of_beq_eq_true hb1.2.1
                have e3 := Nat.eq_of_beq_eq_true hb1.2.2
                subst e1; subst e2; subst e3
                have hy : y < 200 := okR_obj (okV_head hst) (by decide)
                exact s_qst F (hqn2 (by decide)) hy hin hH hS hd (fun H1 locs1 hH1 hS1 => hk _ _ _ hz hls hst2 H1 locs1 lsA hH1 hS1 hloc)
              | inl x =>
                have h : (match akind q with
                  | 0 => boolW (Nat.beq a 0) (inA i (alen q) ∧ k es ls st (putV z q n i.toNatClampNeg x))
                  | 1 => boolW (Nat.beq a 1) (inA i (alen q) ∧ (x = 0 ∨ x = 1) ∧ k es ls st (putV z q n i.toNatClampNeg x))
                  | 2 => boolW (Nat.beq a 1) (inA i (alen q) ∧ x.toInt8.toInt32 = x ∧ k es ls st (putV z q n i.toNatClampNeg x))
                  | _ => False) := h
                match hak : akind q, h with
                | 0, h =>
                  have h' := boolW_t h; clear h; obtain ⟨ha, hin, hz⟩ := h'
                  have ha := Nat.eq_of_beq_eq_true ha
                  subst ha
                  exact s_ist F (hqn2 (fun e => by rw [e] at hak; cases hak)) hak hin hH hS hd (fun H1 locs1 hH1 hS1 => hk _ _ _ hz hls hst2 H1 locs1 lsA hH1 hS1 hloc)
                | 1, h =>
                  have h' := boolW_t h; clear h; obtain ⟨ha, hin, hv, hz⟩ := h'
                  have ha := Nat.eq_of_beq_eq_true ha
                  subst ha
                  exact s_zst F (hqn2 (fun e => by rw [e] at hak; cases hak)) hak hin hv hH hS hd (fun H1 locs1 hH1 hS1 => hk _ _ _ hz hls hst2 H1 locs1 lsA hH1 hS1 hloc)
                | 2, h =>
                  have h' := boolW_t h; clear h; obtain ⟨ha, hin, hv, hz⟩ := h'
                  have ha := Nat.eq_of_beq_eq_true ha
                  subst ha
                  exact s_bst F (hqn2 (fun e => by rw [e] at hak; cases hak)) hak hin hv hH hS hd (fun H1 locs1 hH1 hS1 => hk _ _ _ hz hls hst2 H1 locs1 lsA hH1 hS1 hloc)
                | w + 3, h => exact (h : False).elim
  | 13, hdec, hmore, hk, h =>
    have hd := hdec.resolve_left (by decide)
    have hmore : (decide ((o, a, b, (if d = 2 then 1 else 0)) ∈ mlT) && (decide (cs = [((mRow b).2.2.2.2.2.1, (mRow b).2.2.2.2.1)]) && (decide ((mRow b).2.2.2.2.2.2 = decide (¬ d = 0)) && decide (b ∉ initL)))) = true := hmore
    rw [Bool.and_eq_true, Bool.and_eq_true, Bool.and_eq_true] at hmore
    have hml := of_decide_eq_true hmore.1
    have hcs1 := of_decide_eq_true hmore.2.1
    have hsta := of_decide_eq_true hmore.2.2.1
    have hni := of_decide_eq_true hmore.2.2.2
    have hd' : decode cc pc = .ok (if d = 0 then Instr.invokevirtual a else Instr.invokestatic a, 3) := by
      match d, hd with
      | 0, hd => exact hd
      | n + 1, hd => exact hd
    have hnx : nextPc (pc, (13, a, b, d), c0, cs) = pc + 3 := by
      match d with
      | 0 => rfl
      | n + 1 => rfl
    obtain ⟨as, st', e2, e3, hlen, hc, hrv⟩ := inv_split (call := call) (b := b) (d := d) (st := st) (z := z) (kk := fun st s => k es ls st s) h hcs1
    have hokt : ∀ v ∈ as, okV v := fun v hv => hst v (by rw [e2]; exact List.mem_append_left _ (List.mem_reverse.mpr hv))
    have hoks : ∀ v ∈ st', okV v := fun v hv => hst v (by rw [e2]; exact List.mem_append_right _ hv)
    obtain ⟨f, hf1, hf2, hM⟩ := hcall b as z _ hc hokt e3 (mlT_lt _ hml)
    rw [e2]
    refine s_call F hml hni hsta e3 (fun e => ?_) hM hf1 hf2 hcs hlen hH hS hsz hd' (fun r z' H1 locs1 hq hH1 hS1 => ?_)
    · obtain ⟨i, as', e4⟩ := hrv e
      have h11 := virt_lt 0 hml (by rw [hsta, e])
      refine ⟨i, as', e4, h11, ?_⟩
      rw [e4] at hokt
      exact okR_obj (okV_head hokt) (Nat.lt_trans h11 (by decide))
    · rw [← hnx]
      cases r with
      | none => exact hk _ _ _ hq hls hoks H1 locs1 lsA hH1 hS1 hloc
      | some x => exact hk _ _ _ hq hls (okV_cons (v := .inl x) trivial hoks) H1 locs1 lsA hH1 hS1 hloc
  | 14, hdec, hmore, hk, h =>
    have hd := hdec.resolve_left (by decide)
    match a, hd, h with
    | 0, hd, h =>
      cases st with
      | nil => exact (h : False).elim
      | cons v st => cases v with
        | inr r => cases st <;> exact (h : False).elim
        | inl x => cases st with
          | cons v2 st => exact (h : False).elim
          | nil => exact hR0 _ _ _ _ _ _ h hH hS hd
    | n + 1, hd, h =>
      cases st with
      | cons v2 st => exact (h : False).elim
      | nil =>
        obtain ⟨hr, h⟩ := boolW_t h
        exact hR1 _ _ _ _ _ (Nat.eq_of_beq_eq_true hr) h hH hS hd
  | 15, hdec, hmore, hk, h =>
    have hd := hdec.resolve_left (by decide)
    cases st with
    | nil => exact (h : False).elim
    | cons v st => exact lv_dup hx hb hd (trv_cat ad v) (hk _ _ _ h hls (okV_cons (okV_head hst) hst) H locs lsA hH hS hloc)
  | 16, hdec, hmore, hk, h =>
    have hd := hdec.resolve_left (by decide)
    cases st with
    | nil => exact (h : False).elim
    | cons v st => cases st with
      | nil => exact (h : False).elim
      | cons w st => exact lv_dup2_11 hx hb hd (trv_cat ad v) (trv_cat ad w) (hk _ _ _ h hls (okV_cons (okV_head hst) (okV_cons (okV_head (okV_tail hst)) hst)) H locs lsA hH hS hloc)
  | 17, hdec, hmore, hk, h =>
    have hd := hdec.resolve_left (by decide)
    cases st with
    | nil => exact (h : False).elim
    | cons v st => cases v with
      | inr r => exact (h : False).elim
      | inl x => exact lv_i2b hx hb hd rfl (hk _ _ _ h hls (okV_cons trivial (okV_tail hst)) H locs lsA hH hS hloc)
  | 18, hdec, hmore, hk, h =>
    have hd := hdec.resolve_left (by decide)
    cases st with
    | nil => exact (h : False).elim
    | cons v st => cases v with
      | inr r => exact (h : False).elim
      | inl x => exact s_switch (k := fun t => j t ls st z) F hmore hd h (fun t ht => hj _ _ _ _ ht hls (okV_tail hst) H locs lsA hH hS hloc)
  | 19, hdec, hmore, hk, h =>
    have hd := hdec.resolve_left (by decide)
    cases st with
    | nil => exact (h : False).elim
    | cons v st => cases v with
      | inl r => exact (h : False).elim
      | inr r =>
        obtain ⟨q, n⟩ := r
        have h' := boolW_t h; clear h; obtain ⟨hq, hz⟩ := h'
        have hq := Nat.eq_of_beq_eq_true hq
        subst hq
        have hn : n = 0 := by
          rcases okV_head hst with h9 | h9
          · exact absurd h9 (Nat.not_lt_zero n)
          · exact congrArg Prod.snd h9
        subst hn
        exact s_slen F hS hd (hk _ _ _ hz hls (okV_cons trivial (okV_tail hst)) H locs lsA hH hS hloc)
  | 20, hdec, hmore, hk, h =>
    have hd := hdec.resolve_left (by decide)
    have ho : (o, a) = (7, 22) := of_decide_eq_true hmore
    have ho1 : o = 7 := congrArg Prod.fst ho
    have ho2 : a = 22 := congrArg Prod.snd ho
    subst ho1; subst ho2
    cases st with
    | nil => exact (h : False).elim
    | cons v1 st => cases v1 with
      | inr r => exact (h : False).elim
      | inl y => cases st with
        | nil => exact (h : False).elim
        | cons v2 st => cases v2 with
          | inr r => exact (h : False).elim
          | inl x =>
            obtain ⟨hlen, h⟩ := boolW_t h
            have hlen := Nat.le_of_ble_eq_true hlen
            exact va_mmin hx hb (by rw [hmlc, hsz]) hown (hT.use mmin_ok.1) (hT.use mmin_ok.2.1) (hT.use mmin_ok.2.2.1) (hT.use mmin_ok.2.2.2) hmin.1 (by rw [cat_sum]; have := hmin.2; omega) hcs.1 hcs.2 hd (hk _ _ _ h hls (okV_cons trivial (okV_tail (okV_tail hst))) H locs lsA hH hS hloc)
  | n + 21, _, _, _, h => exact (h : False).elim
end SM
end
section
/-! stretches, bodies, methods -/
theorem fromPc_spec : ∀ (code : List Ent) (t : Nat), (∃ pre, code = pre ++ fromPc code t) ∧ ∀ e ∈ (fromPc code t).head?, e.1 = t
  | [], t => ⟨⟨[], rfl⟩, fun e h => by cases h⟩
  | e :: es, t => by
    show (∃ pre, e :: es = pre ++ (match Nat.beq e.1 t with | true => e :: es | false => fromPc es t)) ∧ ∀ e' ∈ (match Nat.beq e.1 t with | true => e :: es | false => fromPc es t).head?, e'.1 = t
    cases h : Nat.beq e.1 t with
    | true =>
      refine ⟨⟨[], rfl⟩, fun e' he => ?_⟩
      have : e' = e := by
        simp only [List.head?_cons, Option.mem_def, Option.some.injEq] at he
        exact he.symm
      rw [this]
      exact Nat.eq_of_beq_eq_true h
    | false =>
      obtain ⟨⟨pre, h1⟩, h2⟩ := fromPc_spec es t
      refine ⟨⟨e :: pre, ?_⟩, h2⟩
      rw [List.cons_append]
      exact congrArg (e :: ·) h1
theorem chain_suf : ∀ {pre : List Ent} {e f : Ent} {es : List Ent}, chainOk (pre ++ e :: f :: es) = true → f.1 = nextPc e
  | [], e, f, es, h => by
    have h : ((f.1 == nextPc e) && chainOk (f :: es)) = true := h
    rw [Bool.and_eq_true] at h
    exact of_decide_eq_true (by simpa using h.1)
  | [g], e, f, es, h => by
    have h : ((e.1 == nextPc g) && chainOk (e :: f :: es)) = true := h
    rw [Bool.and_eq_true] at h
    exact chain_suf (pre := []) h.2
  | g :: g2 :: pre, e, f, es, h => by
    have h : ((g2.1 == nextPc g) && chainOk (g2 :: (pre ++ e :: f :: es))) = true := h
    rw [Bool.and_eq_true] at h
    exact chain_suf (pre := g2 :: pre) h.2
theorem behind_spec {code es : List Ent} {t : Nat} (hc : chainOk code = true) (hs : ∃ pre, code = pre ++ es) (hh : ∀ e ∈ es.head?, e.1 = t) : (∃ pre, code = pre ++ behind es) ∧ ∀ e ∈ (behind es).head?, e.1 = t := by
  match es, hs, hh with
  | [], hs, hh => exact ⟨hs, hh⟩
  | (pc, (0, a), c) :: es, ⟨pre, hp⟩, hh =>
    refine ⟨⟨pre ++ [(pc, (0, a), c)], by rw [hp]; simp [behind]⟩, fun e he => ?_⟩
    have hpc : pc = t := hh _ rfl
    match es, he, hp with
    | f :: es, he, hp =>
      have : e = f := by
        simp only [behind, List.head?_cons, Option.mem_def, Option.some.injEq] at he
        exact he.symm
      rw [this]
      rw [hp] at hc
      have := chain_suf hc
      rw [this, ← hpc]
      rfl
  | (pc, (n + 1, a), c) :: es, hs, hh => exact ⟨hs, hh⟩
theorem lv_args_enum : ∀ (vs : List Value) (k : Nat), (∀ v ∈ vs, v.category = 1) → lv_args k vs = enumL k vs
  | [], k, _ => rfl
  | v :: vs, k, h => by
    have h1 : v.category = 1 := h v List.mem_cons_self
    show (k, v) :: lv_args (if v.category = 2 then k + 2 else k + 1) vs = (k, v) :: enumL (k + 1) vs
    rw [if_neg (by rw [h1]; decide), lv_args_enum vs (k + 1) (fun w hw => h w (List.mem_cons_of_mem _ hw))]
theorem lg_sl_len : ∀ (vs : List Value), (∀ v ∈ vs, v.category = 1) → (lg_sl vs).length = vs.length
  | [], _ => rfl
  | v :: vs, h => by
    have h1 : v.category = 1 := h v List.mem_cons_self
    have ih := lg_sl_len vs (fun w hw => h w (List.mem_cons_of_mem _ hw))
    unfold lg_sl at ih ⊢
    rw [List.flatMap_cons, List.length_append, ih, if_neg (by rw [h1]; decide)]
    simp only [List.length_cons, List.length_nil]
    omega
theorem trv_cats (ad : Nat × Nat → Nat) (as : List MV) : ∀ v ∈ as.map (trv ad), v.category = 1 := fun v hv => by
  obtain ⟨w, -, rfl⟩ := List.mem_map.mp hv
  exact trv_cat ad w
section SN
variable {p : Program} {l : Launch} {e : Env} {R : Room} {s : State} {m : MethodId} {args : Array Value} {below : List Frame} {meth : Method} {c : Code} {cells slots : Nat} {QM : State → Prop}
variable {D : va_G} {cA : Nat → ClassId} {ad : Nat × Nat → Nat} {A : Nat → Prop} {L : Nat} {xs : Nat → Int32} {cc : ByteArray} {o nL : Nat}
theorem wp_sound (F : FrOk p s m args meth c D cA ad A L xs cc o nL) {call : Nat → List MV → St → (Option MV → St → Prop) → Prop} {ret : Nat} {Q : Option MV → St → Prop} {X : Nat → List MV → List MV → St → Prop}
    (hcall : ∀ b as z Q', call b as z Q' → (∀ v ∈ as, okV v) → as.length = (mRow b).2.2.2.2.2.1 → b < 123 → ∃ f, f + 1 ≤ R.frames ∧ 38 * f + 38 ≤ R.locals ∧ MetC l D cA ad A L xs f b as z Q')
    (hR0 : ∀ v z H locs lsA pc, retW ret v (Q (some (.inl v)) z) → Hp D cA ad z H → va_S A s.heap H locs → decode cc pc = .ok (.ireturn, 1) → W p l e R s m args below meth c H locs cells slots QM (F0 m pc lsA [.int v]))
    (hR1 : ∀ z H locs lsA pc, ret = 2 → Q none z → Hp D cA ad z H → va_S A s.heap H locs → decode cc pc = .ok (.return_, 1) → W p l e R s m args below meth c H locs cells slots QM (F0 m pc lsA []))
    (hmin : 1 ≤ R.frames ∧ 21 ≤ R.locals)
    (hXX : ∀ pc ls st z, X pc ls st z → XwP p l e R s m args below meth c cells slots QM D cA ad A nL pc ls st z) (hcs : cells ≤ R.cells ∧ slots ≤ R.slots)
    {code : List Ent} (hall : code.all (entOk o nL cc) = true) (hch : chainOk code = true) :
    ∀ (n : Nat) (es : List Ent), (∃ pre, code = pre ++ es) → ∀ (ls st : List MV) (z : St), wp call L xs ret Q X code n es ls st z → ∀ pc, (∀ e ∈ es.head?, e.1 = pc) → XwP p l e R s m args below meth c cells slots QM D cA ad A nL pc ls st z := by
  intro n
  induction n with
  | zero => intro es _ ls st z h; exact (h : False).elim
  | succ n ih =>
    intro es hs ls st z h pc hpc
    have h : stepW call L xs ret Q X (wp call L xs ret Q X code n) (fun t ls st s => wp call L xs ret Q X code n (fromPc code t) ls st s) es ls st z := h
    match es, hs, hpc, h with
    | [], _, _, h => exact (h : False).elim
    | (pc0, (op, a, b, d), c0, cs) :: es, ⟨pre, hp⟩, hpc, h =>
      have e1 : pc0 = pc := hpc _ rfl
      subst e1
      refine step_sound F hcall hR0 hR1 hmin hXX hcs pc0 op a b d c0 cs es ls st z ?_ (fun ls st z hk => ?_) (fun t ls st z hj => ?_) h
      · exact List.all_eq_true.mp hall _ (by rw [hp]; exact List.mem_append_right _ List.mem_cons_self)
      · refine ih es ⟨pre ++ [(pc0, (op, a, b, d), c0, cs)], by rw [hp]; simp⟩ ls st z hk _ (fun f hf => ?_)
        match es, hf, hp with
        | f' :: es, hf, hp =>
          have : f = f' := by
            simp only [List.head?_cons, Option.mem_def, Option.some.injEq] at hf
            exact hf.symm
          rw [this]
          rw [hp] at hch
          exact chain_suf hch
      · obtain ⟨h1, h2⟩ := fromPc_spec code t
        exact ih _ h1 ls st z hj t h2
theorem body_sound (F : FrOk p s m args meth c D cA ad A L xs cc o nL) {call : Nat → List MV → St → (Option MV → St → Prop) → Prop} {ret : Nat} {Q : Option MV → St → Prop}
    (hcall : ∀ b as z Q', call b as z Q' → (∀ v ∈ as, okV v) → as.length = (mRow b).2.2.2.2.2.1 → b < 123 → ∃ f, f + 1 ≤ R.frames ∧ 38 * f + 38 ≤ R.locals ∧ MetC l D cA ad A L xs f b as z Q')
    (hR0 : ∀ v z H locs lsA pc, retW ret v (Q (some (.inl v)) z) → Hp D cA ad z H → va_S A s.heap H locs → decode cc pc = .ok (.ireturn, 1) → W p l e R s m args below meth c H locs cells slots QM (F0 m pc lsA [.int v]))
    (hR1 : ∀ z H locs lsA pc, ret = 2 → Q none z → Hp D cA ad z H → va_S A s.heap H locs → decode cc pc = .ok (.return_, 1) → W p l e R s m args below meth c H locs cells slots QM (F0 m pc lsA []))
    (hmin : 1 ≤ R.frames ∧ 21 ≤ R.locals) (hcs : cells ≤ R.cells ∧ slots ≤ R.slots)
    {code : List Ent} (hall : code.all (entOk o nL cc) = true) (hch : chainOk code = true) {pc : Nat} {ls st : List MV} {z : St} (h : bodyW call L xs ret Q code pc ls st z) :
    XwP p l e R s m args below meth c cells slots QM D cA ad A nL pc ls st z := by
  refine h (XwP p l e R s m args below meth c cells slots QM D cA ad A nL) (fun n pc ls st z hw => ?_)
  obtain ⟨h1, h2⟩ := fromPc_spec code pc
  obtain ⟨h3, h4⟩ := behind_spec hch h1 h2
  exact wp_sound F hcall hR0 hR1 hmin (fun _ _ _ _ q => q) hcs hall hch n _ h3 ls st z hw pc h4
end SN
theorem nargs_le : ∀ r ∈ mTab, r.2.2.2.2.2.1 ≤ r.2.2.1 := by decide +kernel
theorem mRow_mem {m : Nat} (h : m < 128) : mRow m ∈ mTab := by
  have h : m < mTab.length := h
  unfold mRow
  rw [List.getD_eq_getElem?_getD, List.getElem?_eq_getElem h]
  exact List.getElem_mem h
/-- EVERY METHOD of the small machine is one of the machine -/
theorem wpM_sound {l : Launch} {D : va_G} {cA : Nat → ClassId} {ad : Nat × Nat → Nat} {A : Nat → Prop} {L : Nat} {xs : Nat → Int32} (hA : adOk ad A) (hbA : ¬ A (ad (24, 0))) :
    ∀ (f b : Nat) (as : List MV) (z : St) (Q : Option MV → St → Prop), wpM L xs codT retT f b as z Q → (∀ v ∈ as, okV v) → as.length = (mRow b).2.2.2.2.2.1 → b < 123 → MetC l D cA ad A L xs f b as z Q := by
  intro f
  induction f with
  | zero => intro b as z Q h; exact (h : False).elim
  | succ f ih =>
    intro b as z Q h hok hlen hb123
    obtain ⟨k1, k2, k3, k4, k5, k6⟩ := mh_all _ (mRow_mem (m := b) (by omega))
    obtain ⟨d1, d2, d3, -⟩ := md_all b hb123
    have hnl := nargs_le _ (mRow_mem (m := b) (by omega))
    refine va_MetF (cc := (mRow b).2.1) (maxL := (mRow b).2.2.1) (ret := (mRow b).2.2.2.1) k3 rfl ?_
    intro p e s m args below meth c s₁ B hml hv
    obtain ⟨rfl, hH, hK, hT, hX⟩ := hv
    have hx := B.exec
    have hbt := B.bytes
    have hr := B.returns
    have hlocks := B.notSynchronized
    have hown : s.vm.findClass (cnm (mRow b).2.2.2.2.1) = some m.cls := by rw [k4]; exact findClass_of_methodNamed B.named
    have hbl : ad (24, 0) < s.heap.size := by
      obtain ⟨scr, h1, -⟩ := hX
      exact (Array.getElem?_eq_some_iff.mp h1).1
    have F : FrOk p s m (as.map (trv ad)).toArray meth c D cA ad A L xs (mRow b).2.1 (mRow b).2.2.2.2.1 (mRow b).2.2.1 := ⟨hx, hbt, hml, hown, hlocks, hT, hK, hA, hX, hbl, hbA⟩
    have hcat := trv_cats ad as
    have hll : (lg_sl (as.map (trv ad))).length ≤ (mRow b).2.2.1 := by rw [lg_sl_len _ hcat, List.length_map]; omega
    have hl := lv_entry (as.map (trv ad)) (n := (mRow b).2.2.1) hll
    rw [lv_args_enum _ _ hcat] at hl
    rw [lg_entry_eq]
    have hbody := h (wpM L xs codT retT f) (fun _ _ _ _ q => q)
    refine body_sound (cells := 0) (slots := 0) (QM := MQ below (QcM D cA ad A L xs Q) (as.map (trv ad)).toArray s 0 0 A) F (fun b' as' z' Q' hc hok' hlen' hb' => ?_) (fun v z' H locs lsA pc hret hH' hS' hd => ?_) (fun z' H locs lsA pc hret hq hH' hS' hd => ?_) ⟨?_, ?_⟩ ⟨Nat.le_refl _, Nat.le_refl _⟩ d1 d2 hbody hok (fun v hv => by cases hv) s.heap [] _ hH va_S.rf ⟨hl, by omega⟩
    · refine ⟨f, Nat.le_refl _, ?_, ih b' as' z' Q' hc hok' hlen' hb'⟩
      show 38 * f + 38 ≤ 38 * (f + 1)
      omega
    · have hq : ∀ t : State, t.heap = H → s.WarmedH t.vm → Q (some (.inl v)) z' → QcM D cA ad A L xs Q (as.map (trv ad)).toArray s (.returned (some (.int v))) t := fun t ht hW hq => ⟨⟨some v, z', rfl, hq, rep_at F hH' hS' t ht hW⟩, hS'.F ht⟩
      rw [← d3] at hret
      match hrt : (mRow b).2.2.2.1, hret with
      | some .int, hret => exact W.iret hx hbt (hr.trans hrt) (fun t ht hW => hq t ht hW hret) hS'.2.2 hd
      | some .boolean, hret => exact W.zret hx hbt (hr.trans hrt) (by rcases hret.1 with q | q <;> rw [q] <;> rfl) (fun t ht hW => hq t ht hW hret.2) hS'.2.2 hd
      | none, hret => exact (hret : False).elim
      | some .byte, hret => exact (hret : False).elim
      | some .char, hret => exact (hret : False).elim
      | some .short, hret => exact (hret : False).elim
      | some .long, hret => exact (hret : False).elim
      | some .float, hret => exact (hret : False).elim
      | some .double, hret => exact (hret : False).elim
      | some (.object _), hret => exact (hret : False).elim
      | some (.array _), hret => exact (hret : False).elim
    · rw [← d3] at hret
      match hrt : (mRow b).2.2.2.1, hret with
      | none, _ => exact W.vret hx hbt (hr.trans hrt) (fun t ht hW => ⟨⟨none, z', rfl, hq, rep_at F hH' hS' t ht hW⟩, hS'.F ht⟩) hS'.2.2 hd
      | some t, hret => exact absurd hret (by cases t <;> (intro q; cases q))
    · show 1 ≤ f + 1
      omega
    · show 21 ≤ 38 * (f + 1)
      omega
end
section
/-! METHODS WITH LONGS: a small machine of their own; a long's second local is a hole -/
abbrev LV : Type := MV ⊕ Int64
abbrev LO : Type := List (Option LV)
def getG : LO → Nat → Option (Option LV)
  | [], _ => none
  | x :: _, 0 => some x
  | _ :: l, n + 1 => getG l n
def setG : LO → Nat → Option LV → LO
  | [], _, v => [v]
  | _ :: l, 0, v => v :: l
  | x :: l, n + 1, v => x :: setG l n v
def takeG : LO → Nat → LO
  | [], _ => []
  | _ :: _, 0 => []
  | x :: l, n + 1 => x :: takeG l n
def popG : Nat → List LV → List LV → Option (List LV × List LV)
  | 0, acc, st => some (acc, st)
  | n + 1, acc, v :: st => popG n (v :: acc) st
  | _ + 1, _, [] => none
def mvs : List LV → Option (List MV)
  | [] => some []
  | .inl v :: l => (match mvs l with
    | some l => some (v :: l)
    | none => none)
  | .inr _ :: _ => none
/-- no long stands just ahead of a local -/
def noLong (ls : LO) : Nat → Bool
  | 0 => true
  | a + 1 => (match getG ls a with
    | some (some (.inr _)) => false
    | _ => true)
def spread : List LV → LO
  | [] => []
  | .inl v :: l => some (.inl v) :: spread l
  | .inr y :: l => some (.inr y) :: none :: spread l
def pushM (r : Option MV) (st : List LV) : List LV := match r with
  | some v => .inl v :: st
  | none => st
def pushR (r : Option LV) (st : List LV) : List LV := match r with
  | some v => v :: st
  | none => st
/-- one instruction, as in stepW -/
def stepL (callM : Nat → List MV → St → (Option MV → St → Prop) → Prop) (callL : Nat → List LV → St → (Option LV → St → Prop) → Prop) (L : Nat) (ret : Nat) (Q : Option LV → St → Prop) (X : Nat → LO → List LV → St → Prop) (k : List Ent → LO → List LV → St → Prop) (j : Nat → LO → List LV → St → Prop) (es : List Ent) (ls : LO) (st : List LV) (s : St) : Prop :=
  match es with
  | [] => False
  | (pc, (op, a, b, d), c, cs) :: es => match op with
    | 0 => X pc (takeG ls a) st s
    | 1 => k es ls (.inl (.inl c) :: st) s
    | 2 => (match getG ls a with
      | some (some (.inl (.inl x))) => boolW (Nat.ble b 1) (k es ls (.inl (.inl x) :: st) s)
      | some (some (.inl (.inr r))) => boolW (Nat.ble 2 b) (k es ls (.inl (.inr r) :: st) s)
      | _ => False)
    | 3 => (match st with
      | .inl (.inl x) :: st => boolW (Nat.ble b 1 && (Nat.ble a ls.length && noLong ls a)) (k es (setG ls a (some (.inl (.inl x)))) st s)
      | .inl (.inr r) :: st => boolW (Nat.ble 2 b && (Nat.ble a ls.length && noLong ls a)) (k es (setG ls a (some (.inl (.inr r)))) st s)
      | _ => False)
    | 4 => (match st with
      | .inl (.inl y) :: .inl (.inl x) :: st => binW a x y (fun v => k es ls (.inl (.inl v) :: st) s)
      | _ => False)
    | 5 => (match getG ls a with
      | some (some (.inl (.inl x))) => boolW (Nat.ble a ls.length && noLong ls a) (k es (setG ls a (some (.inl (.inl (x + c))))) st s)
      | _ => False)
    | 6 => (match st with
      | .inl (.inl x) :: st => (cmpF b x 0 → k es ls st s) ∧ (cmpT b x 0 → j a ls st s)
      | _ => False)
    | 7 => (match st with
      | .inl (.inl y) :: .inl (.inl x) :: st => (cmpF b x y → k es ls st s) ∧ (cmpT b x y → j a ls st s)
      | _ => False)
    | 8 => j a ls st s
    | 13 => (match cs with
      | (n, w) :: _ => (match popG n [] st with
        | some (as, st) => boolW (Nat.ble st.length 4) (match mvs as with
          | some as => (match Nat.beq d 0 with
            | true => (match as with
              | .inr (q, _) :: _ => boolW (Nat.beq q w) (callM b as s (fun r s => k es ls (pushM r st) s))
              | _ => False)
            | false => callM b as s (fun r s => k es ls (pushM r st) s))
          | none => False)
        | none => False)
      | [] => False)
    | 14 => (match st with
      | [.inl (.inl v)] => boolW (Nat.beq a 0) (retW ret v (Q (some (.inl (.inl v))) s))
      | _ => False)
    | 19 => (match st with
      | .inl (.inr (q, _)) :: st => boolW (Nat.beq q 24) (k es ls (.inl (.inl (Int32.ofNat L)) :: st) s)
      | _ => False)
    | 25 => (match cs with
      | (n, _) :: _ => (match popG n [] st with
        | some (as, st) => boolW (Nat.ble st.length 4) (callL b as s (fun r s => k es ls (pushR r st) s))
        | none => False)
      | [] => False)
    | 26 => k es ls (.inr c.toInt64 :: st) s
    | 27 => (match st with
      | .inl (.inl x) :: st => k es ls (.inr x.toInt64 :: st) s
      | _ => False)
    | 28 => (match st with
      | .inr y :: .inr x :: st => k es ls (.inr (x * y) :: st) s
      | _ => False)
    | 29 => (match st with
      | .inr y :: .inr x :: st => k es ls (.inr (x + y) :: st) s
      | _ => False)
    | 30 => (match st with
      | .inr y :: .inr x :: st => k es ls (.inl (.inl (lg_cmp x y)) :: st) s
      | _ => False)
    | 31 => (match getG ls a with
      | some (some (.inr y)) => k es ls (.inr y :: st) s
      | _ => False)
    | 32 => (match st with
      | .inr y :: st => boolW (Nat.ble a ls.length && noLong ls a) (k es (setG (setG ls a (some (.inr y))) (a + 1) none) st s)
      | _ => False)
    | 33 => (match st with
      | [.inr y] => boolW (Nat.beq ret 3) (Q (some (.inr y)) s)
      | _ => False)
    | 34 => (match st with
      | .inl _ :: st => k es ls st s
      | _ => False)
    | _ => False
def wpl (callM : Nat → List MV → St → (Option MV → St → Prop) → Prop) (callL : Nat → List LV → St → (Option LV → St → Prop) → Prop) (L : Nat) (ret : Nat) (Q : Option LV → St → Prop) (X : Nat → LO → List LV → St → Prop) (code : List Ent) : Nat → List Ent → LO → List LV → St → Prop
  | 0 => fun _ _ _ _ => False
  | n + 1 => fun es ls st s => stepL callM callL L ret Q X (wpl callM callL L ret Q X code n) (fun t ls st s => wpl callM callL L ret Q X code n (fromPc code t) ls st s) es ls st s
def bodyL (callM : Nat → List MV → St → (Option MV → St → Prop) → Prop) (callL : Nat → List LV → St → (Option LV → St → Prop) → Prop) (L : Nat) (ret : Nat) (Q : Option LV → St → Prop) (code : List Ent) (pc : Nat) (ls : LO) (st : List LV) (s : St) : Prop :=
  ∀ X : Nat → LO → List LV → St → Prop, (∀ (n pc : Nat) (ls : LO) (st : List LV) (s : St), wpl callM callL L ret Q X code n (behind (fromPc code pc)) ls st s → X pc ls st s) → X pc ls st s
/-- a method with longs, on these arguments and this store, with f frames of room, returns, and Q holds -/
def wpL (L : Nat) (xs : Nat → Int32) (cod col : Nat → List Ent) (rets : Nat → Nat) : Nat → Nat → List LV → St → (Option LV → St → Prop) → Prop
  | 0 => fun _ _ _ _ => False
  | f + 1 => fun m as s Q => ∀ (callM : Nat → List MV → St → (Option MV → St → Prop) → Prop) (callL : Nat → List LV → St → (Option LV → St → Prop) → Prop), (∀ (m : Nat) (as : List MV) (s : St) (Q : Option MV → St → Prop), wpM L xs cod rets f m as s Q → callM m as s Q) → (∀ (m : Nat) (as : List LV) (s : St) (Q : Option LV → St → Prop), wpL L xs cod col rets f m as s Q → callL m as s Q) → bodyL callM callL L (rets m) Q (col m) 0 (spread as) [] s
/-! what its values are -/
def trl (ad : Nat × Nat → Nat) (v : LV) : Value := match v with
  | .inl v => trv ad v
  | .inr y => .long y
def okL (v : LV) : Prop := match v with
  | .inl v => okV v
  | .inr _ => True
def okO (v : Option LV) : Prop := match v with
  | some v => okL v
  | none => True
def enumO (ad : Nat × Nat → Nat) : Nat → LO → List (Nat × Value)
  | _, [] => []
  | k, some v :: l => (k, trl ad v) :: enumO ad (k + 1) l
  | k, none :: l => enumO ad (k + 1) l
def locO (ad : Nat × Nat → Nat) (nL : Nat) (lsA : Array Slot) (ls : LO) : Prop := lv_has lsA nL (enumO ad 0 ls) ∧ ls.length ≤ nL
theorem mem_enumO {ad : Nat × Nat → Nat} {l : LO} : ∀ {k : Nat} {q : Nat × Value}, q ∈ enumO ad k l ↔ k ≤ q.1 ∧ ∃ v, l[q.1 - k]? = some (some v) ∧ q.2 = trl ad v := by
  induction l with
  | nil => intro k q; simp [enumO]
  | cons x l ih =>
    intro k q
    obtain ⟨a, w⟩ := q
    have key : (k + 1 ≤ a ∧ ∃ v, l[a - (k + 1)]? = some (some v) ∧ w = trl ad v) ↔ (k + 1 ≤ a ∧ ∃ v, (x :: l)[a - k]? = some (some v) ∧ w = trl ad v) := by
      constructor
      · rintro ⟨h1, v, h2, h3⟩
        refine ⟨h1, v, ?_, h3⟩
        have : a - k = (a - (k + 1)) + 1 := by omega
        rw [this]
        exact h2
      · rintro ⟨h1, v, h2, h3⟩
        refine ⟨h1, v, ?_, h3⟩
        have : a - k = (a - (k + 1)) + 1 := by omega
        rw [this] at h2
        exact h2
    cases x with
    | none =>
      show (a, w) ∈ enumO ad (k + 1) l ↔ _
      rw [ih]
      simp only
      rw [key]
      constructor
      · rintro ⟨h1, h2⟩
        exact ⟨by omega, h2⟩
      · rintro ⟨h1, v, h2, h3⟩
        refine ⟨?_, v, h2, h3⟩
        rcases Nat.lt_or_ge k a with q | q
        · exact q
        · have : a - k = 0 := by omega
          rw [this] at h2
          cases h2
    | some u =>
      show (a, w) ∈ (k, trl ad u) :: enumO ad (k + 1) l ↔ _
      rw [List.mem_cons, ih]
      simp only
      rw [key]
      constructor
      · rintro (h | ⟨h1, h2⟩)
        · cases h
          refine ⟨Nat.le_refl _, u, ?_, rfl⟩
          rw [Nat.sub_self]
          rfl
        · exact ⟨by omega, h2⟩
      · rintro ⟨h1, v, h2, h3⟩
        by_cases e : a = k
        · subst e
          rw [Nat.sub_self] at h2
          left
          cases h2
          rw [h3]
        · exact Or.inr ⟨by omega, v, h2, h3⟩
theorem getG_eq : ∀ (l : LO) (n : Nat), getG l n = l[n]?
  | [], n => by cases n <;> rfl
  | x :: l, 0 => rfl
  | x :: l, n + 1 => by show getG l n = _; rw [getG_eq l n]; rfl
theorem setG_at : ∀ (l : LO) (n : Nat) (v : Option LV) (k : Nat), n ≤ l.length → (setG l n v)[k]? = if k = n then some v else l[k]?
  | [], 0, v, 0, _ => rfl
  | [], 0, v, k + 1, _ => by simp [setG]
  | [], n + 1, v, k, h => by simp at h
  | x :: l, 0, v, 0, _ => rfl
  | x :: l, 0, v, k + 1, _ => by simp [setG]
  | x :: l, n + 1, v, 0, _ => by simp [setG]
  | x :: l, n + 1, v, k + 1, h => by
    show (setG l n v)[k]? = _
    rw [setG_at l n v k (by simpa using h)]
    by_cases e : k = n <;> simp [e]
theorem setG_len : ∀ (l : LO) (n : Nat) (v : Option LV), n ≤ l.length → (setG l n v).length = Nat.max l.length (n + 1)
  | [], 0, v, _ => rfl
  | [], n + 1, v, h => by simp at h
  | x :: l, 0, v, _ => by
    simp only [setG, List.length]
    exact (Nat.max_eq_left (by omega)).symm
  | x :: l, n + 1, v, h => by
    simp only [setG, List.length]
    rw [setG_len l n v (by simpa using h)]
    simp only [Nat.max_def]; split <;> split <;> omega
theorem setG_ok {l : LO} {v : Option LV} (hl : ∀ w ∈ l, okO w) (hv : okO v) : ∀ (n : Nat), ∀ w ∈ setG l n v, okO w := by
  induction l with
  | nil => intro n w hw; simp [setG] at hw; rw [hw]; exact hv
  | cons x l ih =>
    intro n w hw
    cases n with
    | zero =>
      simp only [setG, List.mem_cons] at hw
      rcases hw with rfl | hw
      · exact hv
      · exact hl w (List.mem_cons_of_mem _ hw)
    | succ n =>
      simp only [setG, List.mem_cons] at hw
      rcases hw with rfl | hw
      · exact hl _ List.mem_cons_self
      · exact ih (fun w h => hl w (List.mem_cons_of_mem _ h)) n w hw
theorem takeG_eq : ∀ (l : LO) (n : Nat), takeG l n = l.take n
  | [], n => by cases n <;> rfl
  | x :: l, 0 => rfl
  | x :: l, n + 1 => by show x :: takeG l n = _; rw [takeG_eq l n]; rfl
theorem locO_get {ad : Nat × Nat → Nat} {nL : Nat} {lsA : Array Slot} {ls : LO} (h : locO ad nL lsA ls) {a : Nat} {v : LV} (hv : getG ls a = some (some v)) : lsA[a]? = some (.val (trl ad v)) := by
  refine h.1.2.2 (a, trl ad v) (mem_enumO.mpr ⟨Nat.zero_le _, v, ?_, rfl⟩)
  rw [getG_eq] at hv
  exact hv
theorem noLong_at {ls : LO} {a : Nat} (h : noLong ls (a + 1) = true) {y : Int64} : ¬ ls[a]? = some (some (.inr y)) := by
  intro e
  rw [← getG_eq] at e
  have h : (match getG ls a with | some (some (.inr _)) => false | _ => true) = true := h
  rw [e] at h
  cases h
theorem cat2 {ad : Nat × Nat → Nat} {v : LV} (h : (trl ad v).category = 2) : ∃ y, v = .inr y := by
  cases v with
  | inl v => rw [show trl ad (.inl v) = trv ad v from rfl, trv_cat] at h; cases h
  | inr y => exact ⟨y, rfl⟩
theorem locO_set1 {ad : Nat × Nat → Nat} {nL : Nat} {lsA : Array Slot} {ls : LO} (h : locO ad nL lsA ls) {a : Nat} (ha : a < nL) (hl : a ≤ ls.length) (hn : noLong ls a = true) (v : LV) {lv' : List (Nat × Value)} (he : (a, trl ad v) :: (enumO ad 0 ls).filter (fun q => !(q.1 == a) && !(q.1 + 1 == a && q.2.category == 2)) = lv')
    {lsB : Array Slot} (hB : lv_has lsB nL lv') : locO ad nL lsB (setG ls a (some v)) := by
  refine ⟨⟨hB.1, hB.2.1, fun q hq => ?_⟩, ?_⟩
  · obtain ⟨-, w, h2, h3⟩ := mem_enumO.mp hq
    apply hB.2.2
    rw [← he]
    rw [Nat.sub_zero, setG_at _ _ _ _ hl] at h2
    by_cases e : q.1 = a
    · rw [if_pos e] at h2
      have h4 : v = w := Option.some.inj (Option.some.inj h2)
      rw [h4, ← e, ← h3]
      exact List.mem_cons_self
    · rw [if_neg e] at h2
      refine List.mem_cons_of_mem _ (List.mem_filter.mpr ⟨mem_enumO.mpr ⟨Nat.zero_le _, w, h2, h3⟩, ?_⟩)
      have hc : ¬ (q.1 + 1 = a ∧ q.2.category = 2) := by
        rintro ⟨e1, e2⟩
        rw [h3] at e2
        obtain ⟨y, rfl⟩ := cat2 e2
        subst e1
        exact noLong_at hn h2
      simp [e]
      intro e1 e2
      exact hc ⟨e1, e2⟩
  · rw [setG_len _ _ _ hl]
    exact Nat.max_le.mpr ⟨h.2, ha⟩
theorem locO_set2 {ad : Nat × Nat → Nat} {nL : Nat} {lsA : Array Slot} {ls : LO} (h : locO ad nL lsA ls) {a : Nat} (ha : a + 1 < nL) (hl : a ≤ ls.length) (hn : noLong ls a = true) (y : Int64) {lv' : List (Nat × Value)} (he : (a, Value.long y) :: (enumO ad 0 ls).filter (fun q => !(q.1 == a) && (!(q.1 == a + 1) && !(q.1 + 1 == a && q.2.category == 2))) = lv')
    {lsB : Array Slot} (hB : lv_has lsB nL lv') : locO ad nL lsB (setG (setG ls a (some (.inr y))) (a + 1) none) := by
  have hl2 : a + 1 ≤ (setG ls a (some (.inr y))).length := by
    rw [setG_len _ _ _ hl]
    exact Nat.le_max_right _ _
  refine ⟨⟨hB.1, hB.2.1, fun q hq => ?_⟩, ?_⟩
  · obtain ⟨-, w, h2, h3⟩ := mem_enumO.mp hq
    apply hB.2.2
    rw [← he]
    rw [Nat.sub_zero, setG_at _ _ _ _ hl2] at h2
    by_cases e0 : q.1 = a + 1
    · rw [if_pos e0] at h2
      cases h2
    rw [if_neg e0, setG_at _ _ _ _ hl] at h2
    by_cases e : q.1 = a
    · rw [if_pos e] at h2
      have h4 : (Sum.inr y : LV) = w := Option.some.inj (Option.some.inj h2)
      obtain ⟨q1, q2⟩ := q
      simp only at e h3
      rw [e, h3, ← h4]
      exact List.mem_cons_self
    · rw [if_neg e] at h2
      refine List.mem_cons_of_mem _ (List.mem_filter.mpr ⟨mem_enumO.mpr ⟨Nat.zero_le _, w, h2, h3⟩, ?_⟩)
      have hc : ¬ (q.1 + 1 = a ∧ q.2.category = 2) := by
        rintro ⟨e1, e2⟩
        rw [h3] at e2
        obtain ⟨y', rfl⟩ := cat2 e2
        subst e1
        exact noLong_at hn h2
      simp [e, e0]
      intro e1 e2
      exact hc ⟨e1, e2⟩
  · rw [setG_len _ _ _ hl2, setG_len _ _ _ hl]
    exact Nat.max_le.mpr ⟨Nat.max_le.mpr ⟨h.2, by omega⟩, by omega⟩
theorem locO_take {ad : Nat × Nat → Nat} {nL : Nat} {lsA : Array Slot} {ls : LO} (h : locO ad nL lsA ls) (n : Nat) : locO ad nL lsA (takeG ls n) := by
  rw [takeG_eq]
  refine ⟨⟨h.1.1, h.1.2.1, fun q hq => h.1.2.2 q ?_⟩, by rw [List.length_take]; exact Nat.le_trans (Nat.min_le_right _ _) h.2⟩
  obtain ⟨h1, v, h2, h3⟩ := mem_enumO.mp hq
  refine mem_enumO.mpr ⟨h1, v, ?_, h3⟩
  rw [List.getElem?_take] at h2
  split at h2
  · exact h2
  · cases h2
theorem okO_getG {ls : LO} (h : ∀ v ∈ ls, okO v) {a : Nat} {v : LV} (hv : getG ls a = some (some v)) : okL v := by
  rw [getG_eq] at hv
  exact h _ (List.mem_of_getElem? hv)
theorem popG_eq : ∀ (n : Nat) (acc st as st' : List LV), popG n acc st = some (as, st') → ∃ t, as = t ++ acc ∧ st = t.reverse ++ st' ∧ t.length = n
  | 0, acc, st, as, st', h => by cases h; exact ⟨[], rfl, rfl, rfl⟩
  | n + 1, acc, [], as, st', h => by cases h
  | n + 1, acc, v :: st, as, st', h => by
    obtain ⟨t, e1, e2, e3⟩ := popG_eq n (v :: acc) st as st' h
    exact ⟨t ++ [v], by simp [e1], by simp [e2], by simp [e3]⟩
theorem mvs_eq : ∀ {as : List LV} {bs : List MV}, mvs as = some bs → as = bs.map Sum.inl
  | [], bs, h => by cases h; rfl
  | .inl v :: l, bs, h => by
    have h : (match mvs l with | some l => some (v :: l) | none => none) = some bs := h
    cases hm : mvs l with
    | none => rw [hm] at h; cases h
    | some l' =>
      rw [hm] at h
      cases h
      rw [mvs_eq hm]
      rfl
  | .inr _ :: _, bs, h => by cases h
theorem okL_cons {v : LV} {st : List LV} (h1 : okL v) (h2 : ∀ w ∈ st, okL w) : ∀ w ∈ v :: st, okL w := fun w hw => by
  rcases List.mem_cons.mp hw with rfl | h
  · exact h1
  · exact h2 w h
theorem okL_head {v : LV} {st : List LV} (h : ∀ w ∈ v :: st, okL w) : okL v := h v List.mem_cons_self
theorem okL_tail {v : LV} {st : List LV} (h : ∀ w ∈ v :: st, okL w) : ∀ w ∈ st, okL w := fun w hw => h w (List.mem_cons_of_mem _ hw)
theorem cat_sumL (ad : Nat × Nat → Nat) (st : List LV) : ((st.map (trl ad)).map fun v => v.category).sum ≤ 2 * st.length := by
  induction st with
  | nil => exact Nat.le_refl _
  | cons v st ih =>
    have h : (trl ad v).category ≤ 2 := by
      cases v with
      | inl v => rw [show trl ad (.inl v) = trv ad v from rfl, trv_cat]; omega
      | inr y => exact Nat.le_refl _
    simp only [List.map_cons, List.sum_cons, List.length_cons]
    omega
theorem map_inl (ad : Nat × Nat → Nat) (as : List MV) : (as.map (Sum.inl : MV → LV)).map (trl ad) = as.map (trv ad) := by
  rw [List.map_map]
  rfl
theorem spread_ok : ∀ {as : List LV}, (∀ v ∈ as, okL v) → ∀ w ∈ spread as, okO w
  | [], _, w, hw => by cases hw
  | .inl v :: l, h, w, hw => by
    rcases List.mem_cons.mp hw with rfl | hw
    · exact h _ List.mem_cons_self
    · exact spread_ok (fun v hv => h v (List.mem_cons_of_mem _ hv)) w hw
  | .inr y :: l, h, w, hw => by
    rcases List.mem_cons.mp hw with rfl | hw
    · trivial
    · rcases List.mem_cons.mp hw with rfl | hw
      · trivial
      · exact spread_ok (fun v hv => h v (List.mem_cons_of_mem _ hv)) w hw
theorem lv_args_spread (ad : Nat × Nat → Nat) : ∀ (vs : List LV) (k : Nat), lv_args k (vs.map (trl ad)) = enumO ad k (spread vs)
  | [], k => rfl
  | .inl v :: vs, k => by
    have h1 : (trl ad (.inl v)).category = 1 := trv_cat ad v
    show (k, trl ad (.inl v)) :: lv_args (if (trl ad (.inl v)).category = 2 then k + 2 else k + 1) (vs.map (trl ad)) = (k, trl ad (.inl v)) :: enumO ad (k + 1) (spread vs)
    rw [if_neg (by rw [h1]; decide), lv_args_spread ad vs (k + 1)]
  | .inr y :: vs, k => by
    show (k, trl ad (.inr y)) :: lv_args (k + 2) (vs.map (trl ad)) = (k, trl ad (.inr y)) :: enumO ad (k + 1 + 1) (spread vs)
    rw [lv_args_spread ad vs (k + 2)]
theorem sl_spread (ad : Nat × Nat → Nat) : ∀ (vs : List LV), (lg_sl (vs.map (trl ad))).length = (spread vs).length
  | [] => rfl
  | .inl v :: vs => by
    have h1 : (trl ad (.inl v)).category = 1 := trv_cat ad v
    have ih := sl_spread ad vs
    unfold lg_sl at ih ⊢
    rw [List.map_cons, List.flatMap_cons, List.length_append, ih, if_neg (by rw [h1]; decide)]
    simp only [List.length_cons, List.length_nil, spread]
    omega
  | .inr y :: vs => by
    have h1 : (trl ad (.inr y)).category = 2 := rfl
    have ih := sl_spread ad vs
    unfold lg_sl at ih ⊢
    rw [List.map_cons, List.flatMap_cons, List.length_append, ih, if_pos h1]
    simp only [List.length_cons, List.length_nil, spread]
    omega
end
section
theorem i_vc : Claimed_1_1 ∧ Claimed_1_2 := sorry
end
