-- ===== PART A: goes FIRST, ahead of the names: the tables' words, and 'selects' of the private methods out of them =====
/-- a private method of a class that the tables say can be made, by its rows of tables_1 -/
def lw_okq (q : MethodName × Nat) : Prop := (q.1.cls ≠ "java/lang/invoke/MethodHandle" ∧ q.1.cls ≠ "java/lang/invoke/VarHandle") ∧ Cond.instantiable q.1.cls q.2 ∈ tables_1 ∧ Cond.privateMethod q.1 ∈ tables_1 ∧ Cond.instanceMethod q.1 ∈ tables_1
theorem lw_p0 : lw_okq (⟨"NameMaps$History", "row", "(I)I"⟩, 3) := ⟨⟨by decide +kernel, by decide +kernel⟩, List.mem_of_getElem? (i := 211) (by decide +kernel), List.mem_of_getElem? (i := 286) (by decide +kernel), List.mem_of_getElem? (i := 287) (by decide +kernel)⟩
theorem lw_p1 : lw_okq (⟨"NameMaps", "recorded", "(I)I"⟩, 6) := ⟨⟨by decide +kernel, by decide +kernel⟩, List.mem_of_getElem? (i := 14) (by decide +kernel), List.mem_of_getElem? (i := 332) (by decide +kernel), List.mem_of_getElem? (i := 333) (by decide +kernel)⟩
theorem lw_p2 : lw_okq (⟨"NameMaps$World", "sitesUp", "()I"⟩, 8) := ⟨⟨by decide +kernel, by decide +kernel⟩, List.mem_of_getElem? (i := 22) (by decide +kernel), List.mem_of_getElem? (i := 348) (by decide +kernel), List.mem_of_getElem? (i := 349) (by decide +kernel)⟩
theorem lw_p3 : lw_okq (⟨"NameMaps$World", "sumOverRouters", "(I)I"⟩, 8) := ⟨⟨by decide +kernel, by decide +kernel⟩, List.mem_of_getElem? (i := 22) (by decide +kernel), List.mem_of_getElem? (i := 364) (by decide +kernel), List.mem_of_getElem? (i := 365) (by decide +kernel)⟩
theorem lw_p4 : lw_okq (⟨"NameMaps$World", "namesWithAnswer", "()I"⟩, 8) := ⟨⟨by decide +kernel, by decide +kernel⟩, List.mem_of_getElem? (i := 22) (by decide +kernel), List.mem_of_getElem? (i := 372) (by decide +kernel), List.mem_of_getElem? (i := 373) (by decide +kernel)⟩
theorem lw_p5 : lw_okq (⟨"NameMaps$World", "childrenOf", "(I)I"⟩, 8) := ⟨⟨by decide +kernel, by decide +kernel⟩, List.mem_of_getElem? (i := 22) (by decide +kernel), List.mem_of_getElem? (i := 419) (by decide +kernel), List.mem_of_getElem? (i := 420) (by decide +kernel)⟩
theorem lw_p6 : lw_okq (⟨"NameMaps$World", "sitesAtHome", "(I)I"⟩, 8) := ⟨⟨by decide +kernel, by decide +kernel⟩, List.mem_of_getElem? (i := 22) (by decide +kernel), List.mem_of_getElem? (i := 427) (by decide +kernel), List.mem_of_getElem? (i := 428) (by decide +kernel)⟩
theorem lw_p7 : lw_okq (⟨"NameMaps$World", "mapsOf", "(I)I"⟩, 8) := ⟨⟨by decide +kernel, by decide +kernel⟩, List.mem_of_getElem? (i := 22) (by decide +kernel), List.mem_of_getElem? (i := 448) (by decide +kernel), List.mem_of_getElem? (i := 449) (by decide +kernel)⟩
theorem lw_p8 : lw_okq (⟨"NameMaps$World", "ask", "(LNameMaps$Router;I)Z"⟩, 8) := ⟨⟨by decide +kernel, by decide +kernel⟩, List.mem_of_getElem? (i := 22) (by decide +kernel), List.mem_of_getElem? (i := 644) (by decide +kernel), List.mem_of_getElem? (i := 645) (by decide +kernel)⟩
theorem lw_p9 : lw_okq (⟨"NameMaps$World", "goByProxy", "(LNameMaps$Router;I)I"⟩, 8) := ⟨⟨by decide +kernel, by decide +kernel⟩, List.mem_of_getElem? (i := 22) (by decide +kernel), List.mem_of_getElem? (i := 659) (by decide +kernel), List.mem_of_getElem? (i := 660) (by decide +kernel)⟩
theorem lw_p10 : lw_okq (⟨"NameMaps$World", "placeByMap", "(LNameMaps$CacheMap;I)I"⟩, 8) := ⟨⟨by decide +kernel, by decide +kernel⟩, List.mem_of_getElem? (i := 22) (by decide +kernel), List.mem_of_getElem? (i := 663) (by decide +kernel), List.mem_of_getElem? (i := 664) (by decide +kernel)⟩
theorem lw_p11 : lw_okq (⟨"NameMaps$Slots", "lowestPriority", "()I"⟩, 1) := ⟨⟨by decide +kernel, by decide +kernel⟩, List.mem_of_getElem? (i := 75) (by decide +kernel), List.mem_of_getElem? (i := 671) (by decide +kernel), List.mem_of_getElem? (i := 672) (by decide +kernel)⟩
theorem lw_p12 : lw_okq (⟨"NameMaps$Slots", "weightThatCounts", "(II)I"⟩, 1) := ⟨⟨by decide +kernel, by decide +kernel⟩, List.mem_of_getElem? (i := 75) (by decide +kernel), List.mem_of_getElem? (i := 678) (by decide +kernel), List.mem_of_getElem? (i := 679) (by decide +kernel)⟩
theorem lw_p13 : lw_okq (⟨"NameMaps$World", "sitesEndingAheadOf", "(I)I"⟩, 8) := ⟨⟨by decide +kernel, by decide +kernel⟩, List.mem_of_getElem? (i := 22) (by decide +kernel), List.mem_of_getElem? (i := 741) (by decide +kernel), List.mem_of_getElem? (i := 742) (by decide +kernel)⟩
def lw_privs_1 : List (MethodName × Nat) := [(⟨"NameMaps$History", "row", "(I)I"⟩, 3), (⟨"NameMaps", "recorded", "(I)I"⟩, 6), (⟨"NameMaps$World", "sitesUp", "()I"⟩, 8), (⟨"NameMaps$World", "sumOverRouters", "(I)I"⟩, 8), (⟨"NameMaps$World", "namesWithAnswer", "()I"⟩, 8), (⟨"NameMaps$World", "childrenOf", "(I)I"⟩, 8), (⟨"NameMaps$World", "sitesAtHome", "(I)I"⟩, 8), (⟨"NameMaps$World", "mapsOf", "(I)I"⟩, 8), (⟨"NameMaps$World", "ask", "(LNameMaps$Router;I)Z"⟩, 8), (⟨"NameMaps$World", "goByProxy", "(LNameMaps$Router;I)I"⟩, 8), (⟨"NameMaps$World", "placeByMap", "(LNameMaps$CacheMap;I)I"⟩, 8), (⟨"NameMaps$Slots", "lowestPriority", "()I"⟩, 1), (⟨"NameMaps$Slots", "weightThatCounts", "(II)I"⟩, 1), (⟨"NameMaps$World", "sitesEndingAheadOf", "(I)I"⟩, 8)]
theorem lw_r1 : ∀ q ∈ lw_privs_1, lw_okq q := List.forall_mem_cons.mpr ⟨lw_p0, List.forall_mem_cons.mpr ⟨lw_p1, List.forall_mem_cons.mpr ⟨lw_p2, List.forall_mem_cons.mpr ⟨lw_p3, List.forall_mem_cons.mpr ⟨lw_p4, List.forall_mem_cons.mpr ⟨lw_p5, List.forall_mem_cons.mpr ⟨lw_p6, List.forall_mem_cons.mpr ⟨lw_p7, List.forall_mem_cons.mpr ⟨lw_p8, List.forall_mem_cons.mpr ⟨lw_p9, List.forall_mem_cons.mpr ⟨lw_p10, List.forall_mem_cons.mpr ⟨lw_p11, List.forall_mem_cons.mpr ⟨lw_p12, List.forall_mem_cons.mpr ⟨lw_p13, fun _ h => absurd h List.not_mem_nil⟩⟩⟩⟩⟩⟩⟩⟩⟩⟩⟩⟩⟩⟩
def lw_privs : List (MethodName × Nat) := lw_privs_1
def lw_tbl : List Cond := k2_sels lw_privs ++ tables_1
theorem lw_privs_ok : ∀ q ∈ lw_privs, lw_okq q := lw_r1
def RX0 : String := "NameMaps$ActText"
def TX0 : u_T := fun k => match k with
  | 0 => ("NameMaps$ActText", "bytes", "[B", true)
  | 1 => ("NameMaps$ActText", "length", "I", false)
  | 2 => ("NameMaps$ActText", "position", "I", false)
  | 3 => ("NameMaps$ActText", "fault", "I", false)
  | 4 => ("NameMaps$ActText", "kind", "I", false)
  | 5 => ("NameMaps$ActText", "number", "I", false)
  | 6 => ("NameMaps$ActText", "name", "I", false)
  | _ => ("NameMaps$ActText", "flow", "I", false)
def tyX0 : Nat → FieldType := fun k => match k with
  | 0 => .array .byte
  | 1 => .int
  | 2 => .int
  | 3 => .int
  | 4 => .int
  | 5 => .int
  | 6 => .int
  | _ => .int
theorem nmX0 : ∀ a, a < 8 → ∀ b, b < 8 → a ≠ b → (TX0 a).2.1 ≠ (TX0 b).2.1 := by decide +kernel
theorem tyX0_ok : ∀ k, k < 8 → parseFieldDescriptor (TX0 k).2.2.1 = some (tyX0 k) := by decide +kernel
abbrev cX0_init : ByteArray := prog_2_method_1_code
def yX0_init : MethodName := ⟨RX0, "<init>", "()V"⟩
def RX1 : String := "NameMaps$Block"
def TX1 : u_T := fun k => match k with
  | 0 => ("NameMaps$Block", "first", "I", false)
  | _ => ("NameMaps$Block", "size", "I", false)
def tyX1 : Nat → FieldType := fun k => match k with
  | 0 => .int
  | _ => .int
theorem nmX1 : ∀ a, a < 2 → ∀ b, b < 2 → a ≠ b → (TX1 a).2.1 ≠ (TX1 b).2.1 := by decide +kernel
theorem tyX1_ok : ∀ k, k < 2 → parseFieldDescriptor (TX1 k).2.2.1 = some (tyX1 k) := by decide +kernel
abbrev cX1_init : ByteArray := prog_3_method_1_code
def yX1_init : MethodName := ⟨RX1, "<init>", "()V"⟩
abbrev cX1_become : ByteArray := prog_3_method_2_code
def yX1_become : MethodName := ⟨RX1, "become", "(II)V"⟩
abbrev cX1_copyFrom : ByteArray := prog_3_method_3_code
def yX1_copyFrom : MethodName := ⟨RX1, "copyFrom", "(LNameMaps$Block;)V"⟩
abbrev cX1_isAt : ByteArray := prog_3_method_4_code
def yX1_isAt : MethodName := ⟨RX1, "isAt", "(II)Z"⟩
abbrev cX1_has : ByteArray := prog_3_method_5_code
def yX1_has : MethodName := ⟨RX1, "has", "(I)Z"⟩
abbrev cX1_holds : ByteArray := prog_3_method_6_code
def yX1_holds : MethodName := ⟨RX1, "holds", "(II)Z"⟩
abbrev cX1_meets : ByteArray := prog_3_method_7_code
def yX1_meets : MethodName := ⟨RX1, "meets", "(II)Z"⟩
def RX2 : String := "NameMaps$CacheMap"
def TX2 : u_T := fun k => match k with
  | 0 => ("NameMaps$CacheMap", "block", "LNameMaps$Block;", true)
  | 1 => ("NameMaps$CacheMap", "slots", "LNameMaps$Slots;", true)
  | 2 => ("NameMaps$CacheMap", "site", "I", false)
  | 3 => ("NameMaps$CacheMap", "version", "I", false)
  | 4 => ("NameMaps$CacheMap", "end", "I", false)
  | _ => ("NameMaps$CacheMap", "isMarked", "Z", false)
def tyX2 : Nat → FieldType := fun k => match k with
  | 0 => .object "NameMaps$Block"
  | 1 => .object "NameMaps$Slots"
  | 2 => .int
  | 3 => .int
  | 4 => .int
  | _ => .boolean
theorem nmX2 : ∀ a, a < 6 → ∀ b, b < 6 → a ≠ b → (TX2 a).2.1 ≠ (TX2 b).2.1 := by decide +kernel
theorem tyX2_ok : ∀ k, k < 6 → parseFieldDescriptor (TX2 k).2.2.1 = some (tyX2 k) := by decide +kernel
abbrev cX2_init : ByteArray := prog_4_method_1_code
def yX2_init : MethodName := ⟨RX2, "<init>", "()V"⟩
abbrev cX2_become : ByteArray := prog_4_method_2_code
def yX2_become : MethodName := ⟨RX2, "become", "(ILNameMaps$Site;I)V"⟩
abbrev cX2_copyFrom : ByteArray := prog_4_method_3_code
def yX2_copyFrom : MethodName := ⟨RX2, "copyFrom", "(LNameMaps$CacheMap;)V"⟩
abbrev cX2_isHolding : ByteArray := prog_4_method_4_code
def yX2_isHolding : MethodName := ⟨RX2, "isHolding", "(I)Z"⟩
abbrev cX2_property : ByteArray := prog_4_method_5_code
def yX2_property : MethodName := ⟨RX2, "property", "(II)I"⟩
def RX3 : String := "NameMaps$History"
def TX3 : u_T := fun k => match k with
  | 0 => ("NameMaps$History", "states", "[LNameMaps$World;", true)
  | 1 => ("NameMaps$History", "oldest", "I", false)
  | _ => ("NameMaps$History", "count", "I", false)
def tyX3 : Nat → FieldType := fun k => match k with
  | 0 => .array (.object "NameMaps$World")
  | 1 => .int
  | _ => .int
theorem nmX3 : ∀ a, a < 3 → ∀ b, b < 3 → a ≠ b → (TX3 a).2.1 ≠ (TX3 b).2.1 := by decide +kernel
theorem tyX3_ok : ∀ k, k < 3 → parseFieldDescriptor (TX3 k).2.2.1 = some (tyX3 k) := by decide +kernel
abbrev cX3_init : ByteArray := prog_5_method_1_code
def yX3_init : MethodName := ⟨RX3, "<init>", "()V"⟩
abbrev cX3_row : ByteArray := prog_5_method_2_code
def yX3_row : MethodName := ⟨RX3, "row", "(I)I"⟩
abbrev cX3_draft : ByteArray := prog_5_method_3_code
def yX3_draft : MethodName := ⟨RX3, "draft", "(LNameMaps$World;)V"⟩
abbrev cX3_keepDraft : ByteArray := prog_5_method_4_code
def yX3_keepDraft : MethodName := ⟨RX3, "keepDraft", "()V"⟩
abbrev cX3_takeLatest : ByteArray := prog_5_method_5_code
def yX3_takeLatest : MethodName := ⟨RX3, "takeLatest", "(LNameMaps$World;)V"⟩
def RX4 : String := "NameMaps$Router"
def TX4 : u_T := fun k => match k with
  | 0 => ("NameMaps$Router", "maps", "[LNameMaps$CacheMap;", true)
  | 1 => ("NameMaps$Router", "mapCount", "I", false)
  | 2 => ("NameMaps$Router", "asks", "I", false)
  | 3 => ("NameMaps$Router", "hops", "I", false)
  | 4 => ("NameMaps$Router", "letters", "I", false)
  | 5 => ("NameMaps$Router", "proxied", "I", false)
  | _ => ("NameMaps$Router", "oldMaps", "I", false)
def tyX4 : Nat → FieldType := fun k => match k with
  | 0 => .array (.object "NameMaps$CacheMap")
  | 1 => .int
  | 2 => .int
  | 3 => .int
  | 4 => .int
  | 5 => .int
  | _ => .int
theorem nmX4 : ∀ a, a < 7 → ∀ b, b < 7 → a ≠ b → (TX4 a).2.1 ≠ (TX4 b).2.1 := by decide +kernel
theorem tyX4_ok : ∀ k, k < 7 → parseFieldDescriptor (TX4 k).2.2.1 = some (tyX4 k) := by decide +kernel
abbrev cX4_init : ByteArray := prog_6_method_1_code
def yX4_init : MethodName := ⟨RX4, "<init>", "()V"⟩
abbrev cX4_start : ByteArray := prog_6_method_2_code
def yX4_start : MethodName := ⟨RX4, "start", "()V"⟩
abbrev cX4_copyFrom : ByteArray := prog_6_method_3_code
def yX4_copyFrom : MethodName := ⟨RX4, "copyFrom", "(LNameMaps$Router;)V"⟩
abbrev cX4_isPlace : ByteArray := prog_6_method_4_code
def yX4_isPlace : MethodName := ⟨RX4, "isPlace", "(I)Z"⟩
abbrev cX4_property : ByteArray := prog_6_method_5_code
def yX4_property : MethodName := ⟨RX4, "property", "(I)I"⟩
abbrev cX4_moveToFront : ByteArray := prog_6_method_6_code
def yX4_moveToFront : MethodName := ⟨RX4, "moveToFront", "(I)V"⟩
abbrev cX4_drop : ByteArray := prog_6_method_7_code
def yX4_drop : MethodName := ⟨RX4, "drop", "(I)V"⟩
abbrev cX4_dropEnded : ByteArray := prog_6_method_8_code
def yX4_dropEnded : MethodName := ⟨RX4, "dropEnded", "(I)V"⟩
abbrev cX4_placeOfSite : ByteArray := prog_6_method_9_code
def yX4_placeOfSite : MethodName := ⟨RX4, "placeOfSite", "(I)I"⟩
abbrev cX4_placeOfSmallest : ByteArray := prog_6_method_10_code
def yX4_placeOfSmallest : MethodName := ⟨RX4, "placeOfSmallest", "(I)I"⟩
abbrev cX4_addMap : ByteArray := prog_6_method_11_code
def yX4_addMap : MethodName := ⟨RX4, "addMap", "(ILNameMaps$Site;I)V"⟩
def RX5 : String := "NameMaps$Server"
def TX5 : u_T := fun k => match k with
  | 0 => ("NameMaps$Server", "block", "LNameMaps$Block;", true)
  | _ => ("NameMaps$Server", "parent", "I", false)
def tyX5 : Nat → FieldType := fun k => match k with
  | 0 => .object "NameMaps$Block"
  | _ => .int
theorem nmX5 : ∀ a, a < 2 → ∀ b, b < 2 → a ≠ b → (TX5 a).2.1 ≠ (TX5 b).2.1 := by decide +kernel
theorem tyX5_ok : ∀ k, k < 2 → parseFieldDescriptor (TX5 k).2.2.1 = some (tyX5 k) := by decide +kernel
abbrev cX5_init : ByteArray := prog_7_method_1_code
def yX5_init : MethodName := ⟨RX5, "<init>", "()V"⟩
abbrev cX5_copyFrom : ByteArray := prog_7_method_2_code
def yX5_copyFrom : MethodName := ⟨RX5, "copyFrom", "(LNameMaps$Server;)V"⟩
def RX6 : String := "NameMaps$Site"
def TX6 : u_T := fun k => match k with
  | 0 => ("NameMaps$Site", "block", "LNameMaps$Block;", true)
  | 1 => ("NameMaps$Site", "slots", "LNameMaps$Slots;", true)
  | 2 => ("NameMaps$Site", "life", "I", false)
  | 3 => ("NameMaps$Site", "version", "I", false)
  | _ => ("NameMaps$Site", "end", "I", false)
def tyX6 : Nat → FieldType := fun k => match k with
  | 0 => .object "NameMaps$Block"
  | 1 => .object "NameMaps$Slots"
  | 2 => .int
  | 3 => .int
  | _ => .int
theorem nmX6 : ∀ a, a < 5 → ∀ b, b < 5 → a ≠ b → (TX6 a).2.1 ≠ (TX6 b).2.1 := by decide +kernel
theorem tyX6_ok : ∀ k, k < 5 → parseFieldDescriptor (TX6 k).2.2.1 = some (tyX6 k) := by decide +kernel
abbrev cX6_init : ByteArray := prog_8_method_1_code
def yX6_init : MethodName := ⟨RX6, "<init>", "()V"⟩
abbrev cX6_start : ByteArray := prog_8_method_2_code
def yX6_start : MethodName := ⟨RX6, "start", "(III)V"⟩
abbrev cX6_copyFrom : ByteArray := prog_8_method_3_code
def yX6_copyFrom : MethodName := ⟨RX6, "copyFrom", "(LNameMaps$Site;)V"⟩
abbrev cX6_isRegistered : ByteArray := prog_8_method_4_code
def yX6_isRegistered : MethodName := ⟨RX6, "isRegistered", "(I)Z"⟩
abbrev cX6_isUp : ByteArray := prog_8_method_5_code
def yX6_isUp : MethodName := ⟨RX6, "isUp", "(I)Z"⟩
def RX7 : String := "NameMaps$Slots"
def TX7 : u_T := fun k => match k with
  | _ => ("NameMaps$Slots", "cells", "[I", true)
def tyX7 : Nat → FieldType := fun k => match k with
  | _ => .array .int
theorem nmX7 : ∀ a, a < 1 → ∀ b, b < 1 → a ≠ b → (TX7 a).2.1 ≠ (TX7 b).2.1 := by decide +kernel
theorem tyX7_ok : ∀ k, k < 1 → parseFieldDescriptor (TX7 k).2.2.1 = some (tyX7 k) := by decide +kernel
abbrev cX7_init : ByteArray := prog_9_method_1_code
def yX7_init : MethodName := ⟨RX7, "<init>", "()V"⟩
abbrev cX7_copyFrom : ByteArray := prog_9_method_2_code
def yX7_copyFrom : MethodName := ⟨RX7, "copyFrom", "(LNameMaps$Slots;)V"⟩
abbrev cX7_fill : ByteArray := prog_9_method_3_code
def yX7_fill : MethodName := ⟨RX7, "fill", "(IIII)V"⟩
abbrev cX7_propertyOf : ByteArray := prog_9_method_4_code
def yX7_propertyOf : MethodName := ⟨RX7, "propertyOf", "(II)I"⟩
abbrev cX7_isEmpty : ByteArray := prog_9_method_5_code
def yX7_isEmpty : MethodName := ⟨RX7, "isEmpty", "(I)Z"⟩
abbrev cX7_areEmpty : ByteArray := prog_9_method_6_code
def yX7_areEmpty : MethodName := ⟨RX7, "areEmpty", "()Z"⟩
abbrev cX7_have : ByteArray := prog_9_method_7_code
def yX7_have : MethodName := ⟨RX7, "have", "(I)Z"⟩
abbrev cX7_lowestPriority : ByteArray := prog_9_method_8_code
def yX7_lowestPriority : MethodName := ⟨RX7, "lowestPriority", "()I"⟩
abbrev cX7_weightThatCounts : ByteArray := prog_9_method_9_code
def yX7_weightThatCounts : MethodName := ⟨RX7, "weightThatCounts", "(II)I"⟩
abbrev cX7_placeFor : ByteArray := prog_9_method_10_code
def yX7_placeFor : MethodName := ⟨RX7, "placeFor", "(I)I"⟩
def RX8 : String := "NameMaps$World"
def TX8 : u_T := fun k => match k with
  | 0 => ("NameMaps$World", "servers", "[LNameMaps$Server;", true)
  | 1 => ("NameMaps$World", "sites", "[LNameMaps$Site;", true)
  | 2 => ("NameMaps$World", "routers", "[LNameMaps$Router;", true)
  | 3 => ("NameMaps$World", "serverCount", "I", false)
  | 4 => ("NameMaps$World", "siteCount", "I", false)
  | 5 => ("NameMaps$World", "routerCount", "I", false)
  | 6 => ("NameMaps$World", "hour", "I", false)
  | _ => ("NameMaps$World", "mapLife", "I", false)
def tyX8 : Nat → FieldType := fun k => match k with
  | 0 => .array (.object "NameMaps$Server")
  | 1 => .array (.object "NameMaps$Site")
  | 2 => .array (.object "NameMaps$Router")
  | 3 => .int
  | 4 => .int
  | 5 => .int
  | 6 => .int
  | _ => .int
theorem nmX8 : ∀ a, a < 8 → ∀ b, b < 8 → a ≠ b → (TX8 a).2.1 ≠ (TX8 b).2.1 := by decide +kernel
theorem tyX8_ok : ∀ k, k < 8 → parseFieldDescriptor (TX8 k).2.2.1 = some (tyX8 k) := by decide +kernel
abbrev cX8_init : ByteArray := prog_10_method_1_code
def yX8_init : MethodName := ⟨RX8, "<init>", "()V"⟩
abbrev cX8_copyFrom : ByteArray := prog_10_method_2_code
def yX8_copyFrom : MethodName := ⟨RX8, "copyFrom", "(LNameMaps$World;)V"⟩
abbrev cX8_isServer : ByteArray := prog_10_method_3_code
def yX8_isServer : MethodName := ⟨RX8, "isServer", "(I)Z"⟩
abbrev cX8_isSite : ByteArray := prog_10_method_4_code
def yX8_isSite : MethodName := ⟨RX8, "isSite", "(I)Z"⟩
abbrev cX8_isRouter : ByteArray := prog_10_method_5_code
def yX8_isRouter : MethodName := ⟨RX8, "isRouter", "(I)Z"⟩
abbrev cX8_newServer : ByteArray := prog_10_method_6_code
def yX8_newServer : MethodName := ⟨RX8, "newServer", "(III)I"⟩
abbrev cX8_newSite : ByteArray := prog_10_method_7_code
def yX8_newSite : MethodName := ⟨RX8, "newSite", "(III)I"⟩
abbrev cX8_newRouter : ByteArray := prog_10_method_8_code
def yX8_newRouter : MethodName := ⟨RX8, "newRouter", "()I"⟩
abbrev cX8_fillSlot : ByteArray := prog_10_method_9_code
def yX8_fillSlot : MethodName := ⟨RX8, "fillSlot", "(IIIII)I"⟩
abbrev cX8_vacateSlot : ByteArray := prog_10_method_10_code
def yX8_vacateSlot : MethodName := ⟨RX8, "vacateSlot", "(II)I"⟩
abbrev cX8_startRegistration : ByteArray := prog_10_method_11_code
def yX8_startRegistration : MethodName := ⟨RX8, "startRegistration", "(I)I"⟩
abbrev cX8_endRegistration : ByteArray := prog_10_method_12_code
def yX8_endRegistration : MethodName := ⟨RX8, "endRegistration", "(I)I"⟩
abbrev cX8_changeMapLife : ByteArray := prog_10_method_13_code
def yX8_changeMapLife : MethodName := ⟨RX8, "changeMapLife", "(I)I"⟩
abbrev cX8_letPass : ByteArray := prog_10_method_14_code
def yX8_letPass : MethodName := ⟨RX8, "letPass", "(I)I"⟩
abbrev cX8_emptyCache : ByteArray := prog_10_method_15_code
def yX8_emptyCache : MethodName := ⟨RX8, "emptyCache", "(I)I"⟩
abbrev cX8_sendLetter : ByteArray := prog_10_method_16_code
def yX8_sendLetter : MethodName := ⟨RX8, "sendLetter", "(III)I"⟩
abbrev cX8_placeByMap : ByteArray := prog_10_method_17_code
def yX8_placeByMap : MethodName := ⟨RX8, "placeByMap", "(LNameMaps$CacheMap;I)I"⟩
abbrev cX8_ask : ByteArray := prog_10_method_18_code
def yX8_ask : MethodName := ⟨RX8, "ask", "(LNameMaps$Router;I)Z"⟩
abbrev cX8_goByProxy : ByteArray := prog_10_method_19_code
def yX8_goByProxy : MethodName := ⟨RX8, "goByProxy", "(LNameMaps$Router;I)I"⟩
abbrev cX8_homeOf : ByteArray := prog_10_method_20_code
def yX8_homeOf : MethodName := ⟨RX8, "homeOf", "(II)I"⟩
abbrev cX8_homeOfSite : ByteArray := prog_10_method_21_code
def yX8_homeOfSite : MethodName := ⟨RX8, "homeOfSite", "(I)I"⟩
abbrev cX8_hopsTo : ByteArray := prog_10_method_22_code
def yX8_hopsTo : MethodName := ⟨RX8, "hopsTo", "(I)I"⟩
abbrev cX8_answerFor : ByteArray := prog_10_method_23_code
def yX8_answerFor : MethodName := ⟨RX8, "answerFor", "(I)I"⟩
abbrev cX8_siteEndingAt : ByteArray := prog_10_method_24_code
def yX8_siteEndingAt : MethodName := ⟨RX8, "siteEndingAt", "(I)I"⟩
abbrev cX8_sitesEndingAheadOf : ByteArray := prog_10_method_25_code
def yX8_sitesEndingAheadOf : MethodName := ⟨RX8, "sitesEndingAheadOf", "(I)I"⟩
abbrev cX8_serverProperty : ByteArray := prog_10_method_26_code
def yX8_serverProperty : MethodName := ⟨RX8, "serverProperty", "(II)I"⟩
abbrev cX8_childrenOf : ByteArray := prog_10_method_27_code
def yX8_childrenOf : MethodName := ⟨RX8, "childrenOf", "(I)I"⟩
abbrev cX8_sitesAtHome : ByteArray := prog_10_method_28_code
def yX8_sitesAtHome : MethodName := ⟨RX8, "sitesAtHome", "(I)I"⟩
abbrev cX8_siteProperty : ByteArray := prog_10_method_29_code
def yX8_siteProperty : MethodName := ⟨RX8, "siteProperty", "(II)I"⟩
abbrev cX8_mapsOf : ByteArray := prog_10_method_30_code
def yX8_mapsOf : MethodName := ⟨RX8, "mapsOf", "(I)I"⟩
abbrev cX8_totalOf : ByteArray := prog_10_method_31_code
def yX8_totalOf : MethodName := ⟨RX8, "totalOf", "(I)I"⟩
abbrev cX8_sitesUp : ByteArray := prog_10_method_32_code
def yX8_sitesUp : MethodName := ⟨RX8, "sitesUp", "()I"⟩
abbrev cX8_sumOverRouters : ByteArray := prog_10_method_33_code
def yX8_sumOverRouters : MethodName := ⟨RX8, "sumOverRouters", "(I)I"⟩
abbrev cX8_namesWithAnswer : ByteArray := prog_10_method_34_code
def yX8_namesWithAnswer : MethodName := ⟨RX8, "namesWithAnswer", "()I"⟩
def RX9 : String := "NameMaps"
def TX9 : u_T := fun k => match k with
  | 0 => ("NameMaps", "present", "LNameMaps$World;", true)
  | 1 => ("NameMaps", "rehearsal", "LNameMaps$World;", true)
  | 2 => ("NameMaps", "history", "LNameMaps$History;", true)
  | 3 => ("NameMaps", "saves", "[LNameMaps$World;", true)
  | 4 => ("NameMaps", "isSaved", "[Z", true)
  | _ => ("NameMaps", "text", "LNameMaps$ActText;", true)
def tyX9 : Nat → FieldType := fun k => match k with
  | 0 => .object "NameMaps$World"
  | 1 => .object "NameMaps$World"
  | 2 => .object "NameMaps$History"
  | 3 => .array (.object "NameMaps$World")
  | 4 => .array .boolean
  | _ => .object "NameMaps$ActText"
theorem nmX9 : ∀ a, a < 6 → ∀ b, b < 6 → a ≠ b → (TX9 a).2.1 ≠ (TX9 b).2.1 := by decide +kernel
theorem tyX9_ok : ∀ k, k < 6 → parseFieldDescriptor (TX9 k).2.2.1 = some (tyX9 k) := by decide +kernel
abbrev cX9_init : ByteArray := prog_1_method_1_code
def yX9_init : MethodName := ⟨RX9, "<init>", "()V"⟩
abbrev cX9_addServer : ByteArray := prog_1_method_2_code
def yX9_addServer : MethodName := ⟨RX9, "addServer", "(III)I"⟩
abbrev cX9_addSite : ByteArray := prog_1_method_3_code
def yX9_addSite : MethodName := ⟨RX9, "addSite", "(III)I"⟩
abbrev cX9_addRouter : ByteArray := prog_1_method_4_code
def yX9_addRouter : MethodName := ⟨RX9, "addRouter", "()I"⟩
abbrev cX9_setSlot : ByteArray := prog_1_method_5_code
def yX9_setSlot : MethodName := ⟨RX9, "setSlot", "(IIIII)I"⟩
abbrev cX9_emptySlot : ByteArray := prog_1_method_6_code
def yX9_emptySlot : MethodName := ⟨RX9, "emptySlot", "(II)I"⟩
abbrev cX9_register : ByteArray := prog_1_method_7_code
def yX9_register : MethodName := ⟨RX9, "register", "(I)I"⟩
abbrev cX9_unregister : ByteArray := prog_1_method_8_code
def yX9_unregister : MethodName := ⟨RX9, "unregister", "(I)I"⟩
abbrev cX9_setMapLife : ByteArray := prog_1_method_9_code
def yX9_setMapLife : MethodName := ⟨RX9, "setMapLife", "(I)I"⟩
abbrev cX9_send : ByteArray := prog_1_method_10_code
def yX9_send : MethodName := ⟨RX9, "send", "(III)I"⟩
abbrev cX9_pass : ByteArray := prog_1_method_11_code
def yX9_pass : MethodName := ⟨RX9, "pass", "(I)I"⟩
abbrev cX9_forget : ByteArray := prog_1_method_12_code
def yX9_forget : MethodName := ⟨RX9, "forget", "(I)I"⟩
abbrev cX9_undo : ByteArray := prog_1_method_17_code
def yX9_undo : MethodName := ⟨RX9, "undo", "()I"⟩
abbrev cX9_save : ByteArray := prog_1_method_18_code
def yX9_save : MethodName := ⟨RX9, "save", "(I)I"⟩
abbrev cX9_restore : ByteArray := prog_1_method_19_code
def yX9_restore : MethodName := ⟨RX9, "restore", "(I)I"⟩
abbrev cX9_server : ByteArray := prog_1_method_20_code
def yX9_server : MethodName := ⟨RX9, "server", "(II)I"⟩
abbrev cX9_site : ByteArray := prog_1_method_21_code
def yX9_site : MethodName := ⟨RX9, "site", "(II)I"⟩
abbrev cX9_slot : ByteArray := prog_1_method_22_code
def yX9_slot : MethodName := ⟨RX9, "slot", "(III)I"⟩
abbrev cX9_router : ByteArray := prog_1_method_23_code
def yX9_router : MethodName := ⟨RX9, "router", "(II)I"⟩
abbrev cX9_map : ByteArray := prog_1_method_24_code
def yX9_map : MethodName := ⟨RX9, "map", "(III)I"⟩
abbrev cX9_answer : ByteArray := prog_1_method_25_code
def yX9_answer : MethodName := ⟨RX9, "answer", "(I)I"⟩
abbrev cX9_endingNext : ByteArray := prog_1_method_27_code
def yX9_endingNext : MethodName := ⟨RX9, "endingNext", "(I)I"⟩
abbrev cX9_total : ByteArray := prog_1_method_28_code
def yX9_total : MethodName := ⟨RX9, "total", "(I)I"⟩
abbrev cX9_wouldReach : ByteArray := prog_1_method_29_code
def yX9_wouldReach : MethodName := ⟨RX9, "wouldReach", "(IIII)I"⟩
abbrev cX9_wouldAsk : ByteArray := prog_1_method_30_code
def yX9_wouldAsk : MethodName := ⟨RX9, "wouldAsk", "(III)I"⟩
abbrev cX9_recorded : ByteArray := prog_1_method_32_code
def yX9_recorded : MethodName := ⟨RX9, "recorded", "(I)I"⟩
abbrev cX9_isSave : ByteArray := prog_1_method_34_code
def yX9_isSave : MethodName := ⟨RX9, "isSave", "(I)Z"⟩
abbrev cX9_isSlot : ByteArray := prog_1_method_35_code
def yX9_isSlot : MethodName := ⟨RX9, "isSlot", "(I)Z"⟩
abbrev cX9_isName : ByteArray := prog_1_method_36_code
def yX9_isName : MethodName := ⟨RX9, "isName", "(I)Z"⟩
abbrev cX9_isFlow : ByteArray := prog_1_method_37_code
def yX9_isFlow : MethodName := ⟨RX9, "isFlow", "(I)Z"⟩
abbrev cX9_isPlaceOfSlot : ByteArray := prog_1_method_38_code
def yX9_isPlaceOfSlot : MethodName := ⟨RX9, "isPlaceOfSlot", "(I)Z"⟩
abbrev cX9_isBlock : ByteArray := prog_1_method_39_code
def yX9_isBlock : MethodName := ⟨RX9, "isBlock", "(II)Z"⟩
def RX10 : String := "NameMapsModel"
def TX10 : u_T := fun k => match k with
  | _ => ("", "", "", false)
def tyX10 : Nat → FieldType := fun k => match k with
  | _ => .int
theorem nmX10 : ∀ a, a < 0 → ∀ b, b < 0 → a ≠ b → (TX10 a).2.1 ≠ (TX10 b).2.1 := by decide +kernel
theorem tyX10_ok : ∀ k, k < 0 → parseFieldDescriptor (TX10 k).2.2.1 = some (tyX10 k) := by decide +kernel
def RJ6 : String := "java/lang/Integer"
abbrev cJ6_bitCount_0f7a4 : ByteArray := prog_13_method_49_code
def yJ6_bitCount_0f7a4 : MethodName := ⟨RJ6, "bitCount", "(I)I"⟩
def RJ9 : String := "java/lang/Math"
abbrev cJ9_floorMod_7cf53 : ByteArray := prog_14_method_50_code
def yJ9_floorMod_7cf53 : MethodName := ⟨RJ9, "floorMod", "(II)I"⟩
abbrev cJ9_min_7cf53 : ByteArray := prog_14_method_69_code
def yJ9_min_7cf53 : MethodName := ⟨RJ9, "min", "(II)I"⟩
def RL : String := "NameMapsLaw"
abbrev cL_cell : ByteArray := method_2_code
def yL_cell : MethodName := ⟨RL, "cell", "([II)I"⟩
abbrev cL_up : ByteArray := method_3_code
def yL_up : MethodName := ⟨RL, "up", "(II)I"⟩
abbrev cL_view : ByteArray := method_4_code
def yL_view : MethodName := ⟨RL, "view", "(LNameMaps;)J"⟩
abbrev cL_size : ByteArray := method_5_code
def yL_size : MethodName := ⟨RL, "size", "(I)I"⟩
abbrev cL_any : ByteArray := method_6_code
def yL_any : MethodName := ⟨RL, "any", "(LNameMaps;II)I"⟩
abbrev cL_turn : ByteArray := method_7_code
def yL_turn : MethodName := ⟨RL, "turn", "(LNameMaps;III)I"⟩
abbrev cL_name : ByteArray := method_8_code
def yL_name : MethodName := ⟨RL, "name", "(LNameMaps;I)I"⟩
abbrev cL_hasPlace : ByteArray := method_9_code
def yL_hasPlace : MethodName := ⟨RL, "hasPlace", "(LNameMaps;II)Z"⟩
abbrev cL_isSent : ByteArray := method_10_code
def yL_isSent : MethodName := ⟨RL, "isSent", "(LNameMaps;III)Z"⟩
abbrev cL_areRouters : ByteArray := method_11_code
def yL_areRouters : MethodName := ⟨RL, "areRouters", "(LNameMaps;)Z"⟩
abbrev cL_areEnding : ByteArray := method_12_code
def yL_areEnding : MethodName := ⟨RL, "areEnding", "(LNameMaps;)Z"⟩
abbrev cL_isUndone : ByteArray := method_13_code
def yL_isUndone : MethodName := ⟨RL, "isUndone", "(LNameMaps;IIIIJ)Z"⟩
abbrev cL_isSaved : ByteArray := method_14_code
def yL_isSaved : MethodName := ⟨RL, "isSaved", "(LNameMaps;II)Z"⟩
abbrev cL_law : ByteArray := code
def yL_law : MethodName := ⟨RL, "law", "([I)Z"⟩
abbrev vwCl : List vw_C := [(RX0, TX0, 8), (RX1, TX1, 2), (RX2, TX2, 6), (RX3, TX3, 3), (RX4, TX4, 7), (RX5, TX5, 2), (RX6, TX6, 5), (RX7, TX7, 1), (RX8, TX8, 8), (RX9, TX9, 6)]
