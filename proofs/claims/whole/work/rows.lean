section
-- ===== PART A: goes FIRST, ahead of the names: the tables' words, and 'selects' of the private methods out of them =====
/-- a private method of a class that the tables say can be made, by its rows of tables_1 -/
def lw_okq (q : MethodName × Nat) : Prop := (q.1.cls ≠ "java/lang/invoke/MethodHandle" ∧ q.1.cls ≠ "java/lang/invoke/VarHandle") ∧ Cond.instantiable q.1.cls q.2 ∈ tables_1 ∧ Cond.privateMethod q.1 ∈ tables_1 ∧ Cond.instanceMethod q.1 ∈ tables_1
theorem lw_p0 : lw_okq (⟨"NameMaps$History", "row", "(I)I"⟩, 3) := ⟨⟨by decide +kernel, by decide +kernel⟩, List.mem_of_getElem? (i := 212) (by decide +kernel), List.mem_of_getElem? (i := 297) (by decide +kernel), List.mem_of_getElem? (i := 298) (by decide +kernel)⟩
theorem lw_p1 : lw_okq (⟨"NameMaps", "recorded", "(I)I"⟩, 6) := ⟨⟨by decide +kernel, by decide +kernel⟩, List.mem_of_getElem? (i := 15) (by decide +kernel), List.mem_of_getElem? (i := 363) (by decide +kernel), List.mem_of_getElem? (i := 364) (by decide +kernel)⟩
theorem lw_p2 : lw_okq (⟨"NameMaps$World", "ask", "(LNameMaps$Router;I)Z"⟩, 8) := ⟨⟨by decide +kernel, by decide +kernel⟩, List.mem_of_getElem? (i := 23) (by decide +kernel), List.mem_of_getElem? (i := 510) (by decide +kernel), List.mem_of_getElem? (i := 511) (by decide +kernel)⟩
theorem lw_p3 : lw_okq (⟨"NameMaps$World", "goByProxy", "(LNameMaps$Router;I)I"⟩, 8) := ⟨⟨by decide +kernel, by decide +kernel⟩, List.mem_of_getElem? (i := 23) (by decide +kernel), List.mem_of_getElem? (i := 550) (by decide +kernel), List.mem_of_getElem? (i := 551) (by decide +kernel)⟩
theorem lw_p4 : lw_okq (⟨"NameMaps$World", "placeByMap", "(LNameMaps$CacheMap;I)I"⟩, 8) := ⟨⟨by decide +kernel, by decide +kernel⟩, List.mem_of_getElem? (i := 23) (by decide +kernel), List.mem_of_getElem? (i := 554) (by decide +kernel), List.mem_of_getElem? (i := 555) (by decide +kernel)⟩
theorem lw_p5 : lw_okq (⟨"NameMaps$Slots", "lowestPriority", "()I"⟩, 1) := ⟨⟨by decide +kernel, by decide +kernel⟩, List.mem_of_getElem? (i := 76) (by decide +kernel), List.mem_of_getElem? (i := 562) (by decide +kernel), List.mem_of_getElem? (i := 563) (by decide +kernel)⟩
theorem lw_p6 : lw_okq (⟨"NameMaps$Slots", "weightThatCounts", "(II)I"⟩, 1) := ⟨⟨by decide +kernel, by decide +kernel⟩, List.mem_of_getElem? (i := 76) (by decide +kernel), List.mem_of_getElem? (i := 570) (by decide +kernel), List.mem_of_getElem? (i := 571) (by decide +kernel)⟩
theorem lw_p7 : lw_okq (⟨"NameMaps$ActText", "byteHere", "()I"⟩, 8) := ⟨⟨by decide +kernel, by decide +kernel⟩, List.mem_of_getElem? (i := 232) (by decide +kernel), List.mem_of_getElem? (i := 622) (by decide +kernel), List.mem_of_getElem? (i := 623) (by decide +kernel)⟩
theorem lw_p8 : lw_okq (⟨"NameMaps$ActText", "readSending", "()V"⟩, 8) := ⟨⟨by decide +kernel, by decide +kernel⟩, List.mem_of_getElem? (i := 232) (by decide +kernel), List.mem_of_getElem? (i := 626) (by decide +kernel), List.mem_of_getElem? (i := 627) (by decide +kernel)⟩
theorem lw_p9 : lw_okq (⟨"NameMaps$ActText", "readSign", "(I)V"⟩, 8) := ⟨⟨by decide +kernel, by decide +kernel⟩, List.mem_of_getElem? (i := 232) (by decide +kernel), List.mem_of_getElem? (i := 630) (by decide +kernel), List.mem_of_getElem? (i := 631) (by decide +kernel)⟩
theorem lw_p10 : lw_okq (⟨"NameMaps$ActText", "readNumber", "(II)I"⟩, 8) := ⟨⟨by decide +kernel, by decide +kernel⟩, List.mem_of_getElem? (i := 232) (by decide +kernel), List.mem_of_getElem? (i := 634) (by decide +kernel), List.mem_of_getElem? (i := 635) (by decide +kernel)⟩
theorem lw_p11 : lw_okq (⟨"NameMaps", "carryOutAct", "()I"⟩, 6) := ⟨⟨by decide +kernel, by decide +kernel⟩, List.mem_of_getElem? (i := 15) (by decide +kernel), List.mem_of_getElem? (i := 647) (by decide +kernel), List.mem_of_getElem? (i := 648) (by decide +kernel)⟩
theorem lw_p12 : lw_okq (⟨"NameMaps$World", "childrenOf", "(I)I"⟩, 8) := ⟨⟨by decide +kernel, by decide +kernel⟩, List.mem_of_getElem? (i := 23) (by decide +kernel), List.mem_of_getElem? (i := 680) (by decide +kernel), List.mem_of_getElem? (i := 681) (by decide +kernel)⟩
theorem lw_p13 : lw_okq (⟨"NameMaps$World", "sitesAtHome", "(I)I"⟩, 8) := ⟨⟨by decide +kernel, by decide +kernel⟩, List.mem_of_getElem? (i := 23) (by decide +kernel), List.mem_of_getElem? (i := 684) (by decide +kernel), List.mem_of_getElem? (i := 685) (by decide +kernel)⟩
theorem lw_p14 : lw_okq (⟨"NameMaps$World", "mapsOf", "(I)I"⟩, 8) := ⟨⟨by decide +kernel, by decide +kernel⟩, List.mem_of_getElem? (i := 23) (by decide +kernel), List.mem_of_getElem? (i := 701) (by decide +kernel), List.mem_of_getElem? (i := 702) (by decide +kernel)⟩
theorem lw_p15 : lw_okq (⟨"NameMaps$World", "sitesEndingAheadOf", "(I)I"⟩, 8) := ⟨⟨by decide +kernel, by decide +kernel⟩, List.mem_of_getElem? (i := 23) (by decide +kernel), List.mem_of_getElem? (i := 753) (by decide +kernel), List.mem_of_getElem? (i := 754) (by decide +kernel)⟩
def lw_privs_1 : List (MethodName × Nat) := [(⟨"NameMaps$History", "row", "(I)I"⟩, 3), (⟨"NameMaps", "recorded", "(I)I"⟩, 6), (⟨"NameMaps$World", "ask", "(LNameMaps$Router;I)Z"⟩, 8), (⟨"NameMaps$World", "goByProxy", "(LNameMaps$Router;I)I"⟩, 8), (⟨"NameMaps$World", "placeByMap", "(LNameMaps$CacheMap;I)I"⟩, 8), (⟨"NameMaps$Slots", "lowestPriority", "()I"⟩, 1), (⟨"NameMaps$Slots", "weightThatCounts", "(II)I"⟩, 1), (⟨"NameMaps$ActText", "byteHere", "()I"⟩, 8), (⟨"NameMaps$ActText", "readSending", "()V"⟩, 8), (⟨"NameMaps$ActText", "readSign", "(I)V"⟩, 8), (⟨"NameMaps$ActText", "readNumber", "(II)I"⟩, 8), (⟨"NameMaps", "carryOutAct", "()I"⟩, 6), (⟨"NameMaps$World", "childrenOf", "(I)I"⟩, 8), (⟨"NameMaps$World", "sitesAtHome", "(I)I"⟩, 8), (⟨"NameMaps$World", "mapsOf", "(I)I"⟩, 8), (⟨"NameMaps$World", "sitesEndingAheadOf", "(I)I"⟩, 8)]
theorem lw_r1 : ∀ q ∈ lw_privs_1, lw_okq q := List.forall_mem_cons.mpr ⟨lw_p0, List.forall_mem_cons.mpr ⟨lw_p1, List.forall_mem_cons.mpr ⟨lw_p2, List.forall_mem_cons.mpr ⟨lw_p3, List.forall_mem_cons.mpr ⟨lw_p4, List.forall_mem_cons.mpr ⟨lw_p5, List.forall_mem_cons.mpr ⟨lw_p6, List.forall_mem_cons.mpr ⟨lw_p7, List.forall_mem_cons.mpr ⟨lw_p8, List.forall_mem_cons.mpr ⟨lw_p9, List.forall_mem_cons.mpr ⟨lw_p10, List.forall_mem_cons.mpr ⟨lw_p11, List.forall_mem_cons.mpr ⟨lw_p12, List.forall_mem_cons.mpr ⟨lw_p13, List.forall_mem_cons.mpr ⟨lw_p14, List.forall_mem_cons.mpr ⟨lw_p15, fun _ h => absurd h List.not_mem_nil⟩⟩⟩⟩⟩⟩⟩⟩⟩⟩⟩⟩⟩⟩⟩⟩
theorem lw_p16 : lw_okq (⟨"NameMaps$World", "sitesUp", "()I"⟩, 8) := ⟨⟨by decide +kernel, by decide +kernel⟩, List.mem_of_getElem? (i := 23) (by decide +kernel), List.mem_of_getElem? (i := 765) (by decide +kernel), List.mem_of_getElem? (i := 766) (by decide +kernel)⟩
theorem lw_p17 : lw_okq (⟨"NameMaps$World", "sumOverRouters", "(I)I"⟩, 8) := ⟨⟨by decide +kernel, by decide +kernel⟩, List.mem_of_getElem? (i := 23) (by decide +kernel), List.mem_of_getElem? (i := 769) (by decide +kernel), List.mem_of_getElem? (i := 770) (by decide +kernel)⟩
theorem lw_p18 : lw_okq (⟨"NameMaps$World", "namesWithAnswer", "()I"⟩, 8) := ⟨⟨by decide +kernel, by decide +kernel⟩, List.mem_of_getElem? (i := 23) (by decide +kernel), List.mem_of_getElem? (i := 774) (by decide +kernel), List.mem_of_getElem? (i := 775) (by decide +kernel)⟩
theorem lw_p19 : lw_okq (⟨"NameMapsModel", "brings", "(I)V"⟩, 12) := ⟨⟨by decide +kernel, by decide +kernel⟩, List.mem_of_getElem? (i := 796) (by decide +kernel), List.mem_of_getElem? (i := 843) (by decide +kernel), List.mem_of_getElem? (i := 844) (by decide +kernel)⟩
theorem lw_p20 : lw_okq (⟨"NameMapsModel", "keeps", "(I)V"⟩, 12) := ⟨⟨by decide +kernel, by decide +kernel⟩, List.mem_of_getElem? (i := 796) (by decide +kernel), List.mem_of_getElem? (i := 854) (by decide +kernel), List.mem_of_getElem? (i := 855) (by decide +kernel)⟩
theorem lw_p21 : lw_okq (⟨"NameMapsModel", "records", "()V"⟩, 12) := ⟨⟨by decide +kernel, by decide +kernel⟩, List.mem_of_getElem? (i := 796) (by decide +kernel), List.mem_of_getElem? (i := 862) (by decide +kernel), List.mem_of_getElem? (i := 863) (by decide +kernel)⟩
theorem lw_p22 : lw_okq (⟨"NameMapsModel", "homeOf", "(II)I"⟩, 12) := ⟨⟨by decide +kernel, by decide +kernel⟩, List.mem_of_getElem? (i := 796) (by decide +kernel), List.mem_of_getElem? (i := 873) (by decide +kernel), List.mem_of_getElem? (i := 874) (by decide +kernel)⟩
theorem lw_p23 : lw_okq (⟨"NameMapsModel", "holds", "(III)Z"⟩, 12) := ⟨⟨by decide +kernel, by decide +kernel⟩, List.mem_of_getElem? (i := 796) (by decide +kernel), List.mem_of_getElem? (i := 877) (by decide +kernel), List.mem_of_getElem? (i := 878) (by decide +kernel)⟩
theorem lw_p24 : lw_okq (⟨"NameMapsModel", "firstOf", "(I)I"⟩, 12) := ⟨⟨by decide +kernel, by decide +kernel⟩, List.mem_of_getElem? (i := 796) (by decide +kernel), List.mem_of_getElem? (i := 881) (by decide +kernel), List.mem_of_getElem? (i := 882) (by decide +kernel)⟩
theorem lw_p25 : lw_okq (⟨"NameMapsModel", "sizeOf", "(I)I"⟩, 12) := ⟨⟨by decide +kernel, by decide +kernel⟩, List.mem_of_getElem? (i := 796) (by decide +kernel), List.mem_of_getElem? (i := 885) (by decide +kernel), List.mem_of_getElem? (i := 886) (by decide +kernel)⟩
theorem lw_p26 : lw_okq (⟨"NameMapsModel", "wayTo", "(I)I"⟩, 12) := ⟨⟨by decide +kernel, by decide +kernel⟩, List.mem_of_getElem? (i := 796) (by decide +kernel), List.mem_of_getElem? (i := 889) (by decide +kernel), List.mem_of_getElem? (i := 890) (by decide +kernel)⟩
theorem lw_p27 : lw_okq (⟨"NameMapsModel", "isServer", "(I)Z"⟩, 12) := ⟨⟨by decide +kernel, by decide +kernel⟩, List.mem_of_getElem? (i := 796) (by decide +kernel), List.mem_of_getElem? (i := 897) (by decide +kernel), List.mem_of_getElem? (i := 898) (by decide +kernel)⟩
theorem lw_p28 : lw_okq (⟨"NameMapsModel", "answerOf", "(I)I"⟩, 12) := ⟨⟨by decide +kernel, by decide +kernel⟩, List.mem_of_getElem? (i := 796) (by decide +kernel), List.mem_of_getElem? (i := 908) (by decide +kernel), List.mem_of_getElem? (i := 909) (by decide +kernel)⟩
theorem lw_p29 : lw_okq (⟨"NameMapsModel", "isUp", "(I)Z"⟩, 12) := ⟨⟨by decide +kernel, by decide +kernel⟩, List.mem_of_getElem? (i := 796) (by decide +kernel), List.mem_of_getElem? (i := 912) (by decide +kernel), List.mem_of_getElem? (i := 913) (by decide +kernel)⟩
theorem lw_p30 : lw_okq (⟨"NameMapsModel", "ofSite", "(II)I"⟩, 12) := ⟨⟨by decide +kernel, by decide +kernel⟩, List.mem_of_getElem? (i := 796) (by decide +kernel), List.mem_of_getElem? (i := 916) (by decide +kernel), List.mem_of_getElem? (i := 917) (by decide +kernel)⟩
theorem lw_p31 : lw_okq (⟨"NameMapsModel", "isRegistered", "(I)Z"⟩, 12) := ⟨⟨by decide +kernel, by decide +kernel⟩, List.mem_of_getElem? (i := 796) (by decide +kernel), List.mem_of_getElem? (i := 923) (by decide +kernel), List.mem_of_getElem? (i := 924) (by decide +kernel)⟩
def lw_privs_2 : List (MethodName × Nat) := [(⟨"NameMaps$World", "sitesUp", "()I"⟩, 8), (⟨"NameMaps$World", "sumOverRouters", "(I)I"⟩, 8), (⟨"NameMaps$World", "namesWithAnswer", "()I"⟩, 8), (⟨"NameMapsModel", "brings", "(I)V"⟩, 12), (⟨"NameMapsModel", "keeps", "(I)V"⟩, 12), (⟨"NameMapsModel", "records", "()V"⟩, 12), (⟨"NameMapsModel", "homeOf", "(II)I"⟩, 12), (⟨"NameMapsModel", "holds", "(III)Z"⟩, 12), (⟨"NameMapsModel", "firstOf", "(I)I"⟩, 12), (⟨"NameMapsModel", "sizeOf", "(I)I"⟩, 12), (⟨"NameMapsModel", "wayTo", "(I)I"⟩, 12), (⟨"NameMapsModel", "isServer", "(I)Z"⟩, 12), (⟨"NameMapsModel", "answerOf", "(I)I"⟩, 12), (⟨"NameMapsModel", "isUp", "(I)Z"⟩, 12), (⟨"NameMapsModel", "ofSite", "(II)I"⟩, 12), (⟨"NameMapsModel", "isRegistered", "(I)Z"⟩, 12)]
theorem lw_r2 : ∀ q ∈ lw_privs_2, lw_okq q := List.forall_mem_cons.mpr ⟨lw_p16, List.forall_mem_cons.mpr ⟨lw_p17, List.forall_mem_cons.mpr ⟨lw_p18, List.forall_mem_cons.mpr ⟨lw_p19, List.forall_mem_cons.mpr ⟨lw_p20, List.forall_mem_cons.mpr ⟨lw_p21, List.forall_mem_cons.mpr ⟨lw_p22, List.forall_mem_cons.mpr ⟨lw_p23, List.forall_mem_cons.mpr ⟨lw_p24, List.forall_mem_cons.mpr ⟨lw_p25, List.forall_mem_cons.mpr ⟨lw_p26, List.forall_mem_cons.mpr ⟨lw_p27, List.forall_mem_cons.mpr ⟨lw_p28, List.forall_mem_cons.mpr ⟨lw_p29, List.forall_mem_cons.mpr ⟨lw_p30, List.forall_mem_cons.mpr ⟨lw_p31, fun _ h => absurd h List.not_mem_nil⟩⟩⟩⟩⟩⟩⟩⟩⟩⟩⟩⟩⟩⟩⟩⟩
theorem lw_p32 : lw_okq (⟨"NameMapsModel", "has", "(II)Z"⟩, 12) := ⟨⟨by decide +kernel, by decide +kernel⟩, List.mem_of_getElem? (i := 796) (by decide +kernel), List.mem_of_getElem? (i := 927) (by decide +kernel), List.mem_of_getElem? (i := 928) (by decide +kernel)⟩
theorem lw_p33 : lw_okq (⟨"NameMapsModel", "homeOfSite", "(I)I"⟩, 12) := ⟨⟨by decide +kernel, by decide +kernel⟩, List.mem_of_getElem? (i := 796) (by decide +kernel), List.mem_of_getElem? (i := 931) (by decide +kernel), List.mem_of_getElem? (i := 932) (by decide +kernel)⟩
theorem lw_p34 : lw_okq (⟨"NameMapsModel", "isSite", "(I)Z"⟩, 12) := ⟨⟨by decide +kernel, by decide +kernel⟩, List.mem_of_getElem? (i := 796) (by decide +kernel), List.mem_of_getElem? (i := 950) (by decide +kernel), List.mem_of_getElem? (i := 951) (by decide +kernel)⟩
theorem lw_p35 : lw_okq (⟨"NameMapsModel", "registers", "(I)I"⟩, 12) := ⟨⟨by decide +kernel, by decide +kernel⟩, List.mem_of_getElem? (i := 796) (by decide +kernel), List.mem_of_getElem? (i := 962) (by decide +kernel), List.mem_of_getElem? (i := 963) (by decide +kernel)⟩
theorem lw_p36 : lw_okq (⟨"NameMapsModel", "unregisterError", "(I)I"⟩, 12) := ⟨⟨by decide +kernel, by decide +kernel⟩, List.mem_of_getElem? (i := 796) (by decide +kernel), List.mem_of_getElem? (i := 970) (by decide +kernel), List.mem_of_getElem? (i := 971) (by decide +kernel)⟩
theorem lw_p37 : lw_okq (⟨"NameMapsModel", "unregisters", "(I)I"⟩, 12) := ⟨⟨by decide +kernel, by decide +kernel⟩, List.mem_of_getElem? (i := 796) (by decide +kernel), List.mem_of_getElem? (i := 974) (by decide +kernel), List.mem_of_getElem? (i := 975) (by decide +kernel)⟩
theorem lw_p38 : lw_okq (⟨"NameMapsModel", "isRouter", "(I)Z"⟩, 12) := ⟨⟨by decide +kernel, by decide +kernel⟩, List.mem_of_getElem? (i := 796) (by decide +kernel), List.mem_of_getElem? (i := 986) (by decide +kernel), List.mem_of_getElem? (i := 987) (by decide +kernel)⟩
theorem lw_p39 : lw_okq (⟨"NameMapsModel", "sends", "(III)I"⟩, 12) := ⟨⟨by decide +kernel, by decide +kernel⟩, List.mem_of_getElem? (i := 796) (by decide +kernel), List.mem_of_getElem? (i := 993) (by decide +kernel), List.mem_of_getElem? (i := 994) (by decide +kernel)⟩
theorem lw_p40 : lw_okq (⟨"NameMapsModel", "takes", "(II)I"⟩, 12) := ⟨⟨by decide +kernel, by decide +kernel⟩, List.mem_of_getElem? (i := 796) (by decide +kernel), List.mem_of_getElem? (i := 997) (by decide +kernel), List.mem_of_getElem? (i := 998) (by decide +kernel)⟩
theorem lw_p41 : lw_okq (⟨"NameMapsModel", "mapsOf", "(I)I"⟩, 12) := ⟨⟨by decide +kernel, by decide +kernel⟩, List.mem_of_getElem? (i := 796) (by decide +kernel), List.mem_of_getElem? (i := 1001) (by decide +kernel), List.mem_of_getElem? (i := 1002) (by decide +kernel)⟩
theorem lw_p42 : lw_okq (⟨"NameMapsModel", "ofMap", "(III)I"⟩, 12) := ⟨⟨by decide +kernel, by decide +kernel⟩, List.mem_of_getElem? (i := 796) (by decide +kernel), List.mem_of_getElem? (i := 1005) (by decide +kernel), List.mem_of_getElem? (i := 1006) (by decide +kernel)⟩
theorem lw_p43 : lw_okq (⟨"NameMapsModel", "drops", "(II)V"⟩, 12) := ⟨⟨by decide +kernel, by decide +kernel⟩, List.mem_of_getElem? (i := 796) (by decide +kernel), List.mem_of_getElem? (i := 1012) (by decide +kernel), List.mem_of_getElem? (i := 1013) (by decide +kernel)⟩
theorem lw_p44 : lw_okq (⟨"NameMapsModel", "asks", "(II)Z"⟩, 12) := ⟨⟨by decide +kernel, by decide +kernel⟩, List.mem_of_getElem? (i := 796) (by decide +kernel), List.mem_of_getElem? (i := 1016) (by decide +kernel), List.mem_of_getElem? (i := 1017) (by decide +kernel)⟩
theorem lw_p45 : lw_okq (⟨"NameMapsModel", "makesRoom", "(II)V"⟩, 12) := ⟨⟨by decide +kernel, by decide +kernel⟩, List.mem_of_getElem? (i := 796) (by decide +kernel), List.mem_of_getElem? (i := 1020) (by decide +kernel), List.mem_of_getElem? (i := 1021) (by decide +kernel)⟩
theorem lw_p46 : lw_okq (⟨"NameMapsModel", "proxy", "(II)I"⟩, 12) := ⟨⟨by decide +kernel, by decide +kernel⟩, List.mem_of_getElem? (i := 796) (by decide +kernel), List.mem_of_getElem? (i := 1024) (by decide +kernel), List.mem_of_getElem? (i := 1025) (by decide +kernel)⟩
theorem lw_p47 : lw_okq (⟨"NameMapsModel", "uses", "(II)V"⟩, 12) := ⟨⟨by decide +kernel, by decide +kernel⟩, List.mem_of_getElem? (i := 796) (by decide +kernel), List.mem_of_getElem? (i := 1028) (by decide +kernel), List.mem_of_getElem? (i := 1029) (by decide +kernel)⟩
def lw_privs_3 : List (MethodName × Nat) := [(⟨"NameMapsModel", "has", "(II)Z"⟩, 12), (⟨"NameMapsModel", "homeOfSite", "(I)I"⟩, 12), (⟨"NameMapsModel", "isSite", "(I)Z"⟩, 12), (⟨"NameMapsModel", "registers", "(I)I"⟩, 12), (⟨"NameMapsModel", "unregisterError", "(I)I"⟩, 12), (⟨"NameMapsModel", "unregisters", "(I)I"⟩, 12), (⟨"NameMapsModel", "isRouter", "(I)Z"⟩, 12), (⟨"NameMapsModel", "sends", "(III)I"⟩, 12), (⟨"NameMapsModel", "takes", "(II)I"⟩, 12), (⟨"NameMapsModel", "mapsOf", "(I)I"⟩, 12), (⟨"NameMapsModel", "ofMap", "(III)I"⟩, 12), (⟨"NameMapsModel", "drops", "(II)V"⟩, 12), (⟨"NameMapsModel", "asks", "(II)Z"⟩, 12), (⟨"NameMapsModel", "makesRoom", "(II)V"⟩, 12), (⟨"NameMapsModel", "proxy", "(II)I"⟩, 12), (⟨"NameMapsModel", "uses", "(II)V"⟩, 12)]
theorem lw_r3 : ∀ q ∈ lw_privs_3, lw_okq q := List.forall_mem_cons.mpr ⟨lw_p32, List.forall_mem_cons.mpr ⟨lw_p33, List.forall_mem_cons.mpr ⟨lw_p34, List.forall_mem_cons.mpr ⟨lw_p35, List.forall_mem_cons.mpr ⟨lw_p36, List.forall_mem_cons.mpr ⟨lw_p37, List.forall_mem_cons.mpr ⟨lw_p38, List.forall_mem_cons.mpr ⟨lw_p39, List.forall_mem_cons.mpr ⟨lw_p40, List.forall_mem_cons.mpr ⟨lw_p41, List.forall_mem_cons.mpr ⟨lw_p42, List.forall_mem_cons.mpr ⟨lw_p43, List.forall_mem_cons.mpr ⟨lw_p44, List.forall_mem_cons.mpr ⟨lw_p45, List.forall_mem_cons.mpr ⟨lw_p46, List.forall_mem_cons.mpr ⟨lw_p47, fun _ h => absurd h List.not_mem_nil⟩⟩⟩⟩⟩⟩⟩⟩⟩⟩⟩⟩⟩⟩⟩⟩
theorem lw_p48 : lw_okq (⟨"NameMapsModel", "chosen", "(II)I"⟩, 12) := ⟨⟨by decide +kernel, by decide +kernel⟩, List.mem_of_getElem? (i := 796) (by decide +kernel), List.mem_of_getElem? (i := 1032) (by decide +kernel), List.mem_of_getElem? (i := 1033) (by decide +kernel)⟩
theorem lw_p49 : lw_okq (⟨"NameMapsModel", "isAt", "(II)Z"⟩, 12) := ⟨⟨by decide +kernel, by decide +kernel⟩, List.mem_of_getElem? (i := 796) (by decide +kernel), List.mem_of_getElem? (i := 1036) (by decide +kernel), List.mem_of_getElem? (i := 1037) (by decide +kernel)⟩
theorem lw_p50 : lw_okq (⟨"NameMapsModel", "faultOf", "()I"⟩, 12) := ⟨⟨by decide +kernel, by decide +kernel⟩, List.mem_of_getElem? (i := 796) (by decide +kernel), List.mem_of_getElem? (i := 1060) (by decide +kernel), List.mem_of_getElem? (i := 1061) (by decide +kernel)⟩
theorem lw_p51 : lw_okq (⟨"NameMapsModel", "passesAct", "()Z"⟩, 12) := ⟨⟨by decide +kernel, by decide +kernel⟩, List.mem_of_getElem? (i := 796) (by decide +kernel), List.mem_of_getElem? (i := 1064) (by decide +kernel), List.mem_of_getElem? (i := 1065) (by decide +kernel)⟩
theorem lw_p52 : lw_okq (⟨"NameMapsModel", "passesLetter", "()Z"⟩, 12) := ⟨⟨by decide +kernel, by decide +kernel⟩, List.mem_of_getElem? (i := 796) (by decide +kernel), List.mem_of_getElem? (i := 1068) (by decide +kernel), List.mem_of_getElem? (i := 1069) (by decide +kernel)⟩
theorem lw_p53 : lw_okq (⟨"NameMapsModel", "passesNumber", "(II)Z"⟩, 12) := ⟨⟨by decide +kernel, by decide +kernel⟩, List.mem_of_getElem? (i := 796) (by decide +kernel), List.mem_of_getElem? (i := 1072) (by decide +kernel), List.mem_of_getElem? (i := 1073) (by decide +kernel)⟩
theorem lw_p54 : lw_okq (⟨"NameMapsModel", "isDigitHere", "()Z"⟩, 12) := ⟨⟨by decide +kernel, by decide +kernel⟩, List.mem_of_getElem? (i := 796) (by decide +kernel), List.mem_of_getElem? (i := 1076) (by decide +kernel), List.mem_of_getElem? (i := 1077) (by decide +kernel)⟩
theorem lw_p55 : lw_okq (⟨"NameMapsModel", "passesSign", "(I)Z"⟩, 12) := ⟨⟨by decide +kernel, by decide +kernel⟩, List.mem_of_getElem? (i := 796) (by decide +kernel), List.mem_of_getElem? (i := 1080) (by decide +kernel), List.mem_of_getElem? (i := 1081) (by decide +kernel)⟩
theorem lw_p56 : lw_okq (⟨"NameMapsModel", "does", "()Z"⟩, 12) := ⟨⟨by decide +kernel, by decide +kernel⟩, List.mem_of_getElem? (i := 796) (by decide +kernel), List.mem_of_getElem? (i := 1088) (by decide +kernel), List.mem_of_getElem? (i := 1089) (by decide +kernel)⟩
theorem lw_p57 : lw_okq (⟨"NameMapsModel", "children", "(I)I"⟩, 12) := ⟨⟨by decide +kernel, by decide +kernel⟩, List.mem_of_getElem? (i := 796) (by decide +kernel), List.mem_of_getElem? (i := 1096) (by decide +kernel), List.mem_of_getElem? (i := 1097) (by decide +kernel)⟩
theorem lw_p58 : lw_okq (⟨"NameMapsModel", "sitesOf", "(I)I"⟩, 12) := ⟨⟨by decide +kernel, by decide +kernel⟩, List.mem_of_getElem? (i := 796) (by decide +kernel), List.mem_of_getElem? (i := 1100) (by decide +kernel), List.mem_of_getElem? (i := 1101) (by decide +kernel)⟩
theorem lw_p59 : lw_okq (⟨"NameMapsModel", "copiesOf", "(I)I"⟩, 12) := ⟨⟨by decide +kernel, by decide +kernel⟩, List.mem_of_getElem? (i := 796) (by decide +kernel), List.mem_of_getElem? (i := 1108) (by decide +kernel), List.mem_of_getElem? (i := 1109) (by decide +kernel)⟩
theorem lw_p60 : lw_okq (⟨"NameMapsModel", "isAhead", "(II)Z"⟩, 12) := ⟨⟨by decide +kernel, by decide +kernel⟩, List.mem_of_getElem? (i := 796) (by decide +kernel), List.mem_of_getElem? (i := 1128) (by decide +kernel), List.mem_of_getElem? (i := 1129) (by decide +kernel)⟩
theorem lw_p61 : lw_okq (⟨"NameMapsModel", "upMany", "()I"⟩, 12) := ⟨⟨by decide +kernel, by decide +kernel⟩, List.mem_of_getElem? (i := 796) (by decide +kernel), List.mem_of_getElem? (i := 1136) (by decide +kernel), List.mem_of_getElem? (i := 1137) (by decide +kernel)⟩
theorem lw_p62 : lw_okq (⟨"NameMapsModel", "sumOf", "(I)I"⟩, 12) := ⟨⟨by decide +kernel, by decide +kernel⟩, List.mem_of_getElem? (i := 796) (by decide +kernel), List.mem_of_getElem? (i := 1140) (by decide +kernel), List.mem_of_getElem? (i := 1141) (by decide +kernel)⟩
theorem lw_p63 : lw_okq (⟨"NameMapsModel", "answered", "()I"⟩, 12) := ⟨⟨by decide +kernel, by decide +kernel⟩, List.mem_of_getElem? (i := 796) (by decide +kernel), List.mem_of_getElem? (i := 1144) (by decide +kernel), List.mem_of_getElem? (i := 1145) (by decide +kernel)⟩
def lw_privs_4 : List (MethodName × Nat) := [(⟨"NameMapsModel", "chosen", "(II)I"⟩, 12), (⟨"NameMapsModel", "isAt", "(II)Z"⟩, 12), (⟨"NameMapsModel", "faultOf", "()I"⟩, 12), (⟨"NameMapsModel", "passesAct", "()Z"⟩, 12), (⟨"NameMapsModel", "passesLetter", "()Z"⟩, 12), (⟨"NameMapsModel", "passesNumber", "(II)Z"⟩, 12), (⟨"NameMapsModel", "isDigitHere", "()Z"⟩, 12), (⟨"NameMapsModel", "passesSign", "(I)Z"⟩, 12), (⟨"NameMapsModel", "does", "()Z"⟩, 12), (⟨"NameMapsModel", "children", "(I)I"⟩, 12), (⟨"NameMapsModel", "sitesOf", "(I)I"⟩, 12), (⟨"NameMapsModel", "copiesOf", "(I)I"⟩, 12), (⟨"NameMapsModel", "isAhead", "(II)Z"⟩, 12), (⟨"NameMapsModel", "upMany", "()I"⟩, 12), (⟨"NameMapsModel", "sumOf", "(I)I"⟩, 12), (⟨"NameMapsModel", "answered", "()I"⟩, 12)]
theorem lw_r4 : ∀ q ∈ lw_privs_4, lw_okq q := List.forall_mem_cons.mpr ⟨lw_p48, List.forall_mem_cons.mpr ⟨lw_p49, List.forall_mem_cons.mpr ⟨lw_p50, List.forall_mem_cons.mpr ⟨lw_p51, List.forall_mem_cons.mpr ⟨lw_p52, List.forall_mem_cons.mpr ⟨lw_p53, List.forall_mem_cons.mpr ⟨lw_p54, List.forall_mem_cons.mpr ⟨lw_p55, List.forall_mem_cons.mpr ⟨lw_p56, List.forall_mem_cons.mpr ⟨lw_p57, List.forall_mem_cons.mpr ⟨lw_p58, List.forall_mem_cons.mpr ⟨lw_p59, List.forall_mem_cons.mpr ⟨lw_p60, List.forall_mem_cons.mpr ⟨lw_p61, List.forall_mem_cons.mpr ⟨lw_p62, List.forall_mem_cons.mpr ⟨lw_p63, fun _ h => absurd h List.not_mem_nil⟩⟩⟩⟩⟩⟩⟩⟩⟩⟩⟩⟩⟩⟩⟩⟩
def lw_privs : List (MethodName × Nat) := lw_privs_1 ++ (lw_privs_2 ++ (lw_privs_3 ++ (lw_privs_4)))
def lw_tbl : List Cond := k2_sels lw_privs ++ tables_1
theorem lw_privs_ok : ∀ q ∈ lw_privs, lw_okq q := by
  show ∀ q ∈ lw_privs_1 ++ (lw_privs_2 ++ (lw_privs_3 ++ (lw_privs_4))), lw_okq q
  exact List.forall_mem_append.mpr ⟨lw_r1, List.forall_mem_append.mpr ⟨lw_r2, List.forall_mem_append.mpr ⟨lw_r3, lw_r4⟩⟩⟩
def RX0 : String := "NameMaps$ActText"
def TX0 : u_T := fun k => match k with
  | 0 => ("NameMaps$ActText", "bytes", "[B", true)
  | 1 => ("NameMaps$ActText", "length", "I", false)
  | 2 => ("NameMaps$ActText", "position", "I", false)
  | 3 => ("NameMaps$ActText", "fault", "I", false)
  | 4 => ("NameMaps$ActText", "kind", "I", false)
  | 5 => ("NameMaps$ActText", "number", "I", false)
  | 6 => ("NameMaps$ActText", "name", "I", false)
  | _ => ("NameMaps$ActText", "flow", "I", false)
def tyX0 : Nat → FieldType := fun k => match k with
  | 0 => .array .byte
  | 1 => .int
  | 2 => .int
  | 3 => .int
  | 4 => .int
  | 5 => .int
  | 6 => .int
  | _ => .int
theorem nmX0 : ∀ a, a < 8 → ∀ b, b < 8 → a ≠ b → (TX0 a).2.1 ≠ (TX0 b).2.1 := by decide +kernel
theorem tyX0_ok : ∀ k, k < 8 → parseFieldDescriptor (TX0 k).2.2.1 = some (tyX0 k) := by decide +kernel
abbrev cX0_init : ByteArray := prog_2_method_1_code
def yX0_init : MethodName := ⟨RX0, "<init>", "()V"⟩
abbrev cX0_add : ByteArray := prog_2_method_2_code
def yX0_add : MethodName := ⟨RX0, "add", "(I)I"⟩
abbrev cX0_rewind : ByteArray := prog_2_method_3_code
def yX0_rewind : MethodName := ⟨RX0, "rewind", "()V"⟩
abbrev cX0_findFault : ByteArray := prog_2_method_4_code
def yX0_findFault : MethodName := ⟨RX0, "findFault", "()I"⟩
abbrev cX0_readAct : ByteArray := prog_2_method_5_code
def yX0_readAct : MethodName := ⟨RX0, "readAct", "()Z"⟩
abbrev cX0_readSending : ByteArray := prog_2_method_6_code
def yX0_readSending : MethodName := ⟨RX0, "readSending", "()V"⟩
abbrev cX0_readSign : ByteArray := prog_2_method_7_code
def yX0_readSign : MethodName := ⟨RX0, "readSign", "(I)V"⟩
abbrev cX0_readNumber : ByteArray := prog_2_method_8_code
def yX0_readNumber : MethodName := ⟨RX0, "readNumber", "(II)I"⟩
abbrev cX0_byteHere : ByteArray := prog_2_method_9_code
def yX0_byteHere : MethodName := ⟨RX0, "byteHere", "()I"⟩
abbrev cX0_isDigit : ByteArray := prog_2_method_10_code
def yX0_isDigit : MethodName := ⟨RX0, "isDigit", "(I)Z"⟩
def RX1 : String := "NameMaps$Block"
def TX1 : u_T := fun k => match k with
  | 0 => ("NameMaps$Block", "first", "I", false)
  | _ => ("NameMaps$Block", "size", "I", false)
def tyX1 : Nat → FieldType := fun k => match k with
  | 0 => .int
  | _ => .int
theorem nmX1 : ∀ a, a < 2 → ∀ b, b < 2 → a ≠ b → (TX1 a).2.1 ≠ (TX1 b).2.1 := by decide +kernel
theorem tyX1_ok : ∀ k, k < 2 → parseFieldDescriptor (TX1 k).2.2.1 = some (tyX1 k) := by decide +kernel
abbrev cX1_init : ByteArray := prog_3_method_1_code
def yX1_init : MethodName := ⟨RX1, "<init>", "()V"⟩
abbrev cX1_become : ByteArray := prog_3_method_2_code
def yX1_become : MethodName := ⟨RX1, "become", "(II)V"⟩
abbrev cX1_copyFrom : ByteArray := prog_3_method_3_code
def yX1_copyFrom : MethodName := ⟨RX1, "copyFrom", "(LNameMaps$Block;)V"⟩
abbrev cX1_isAt : ByteArray := prog_3_method_4_code
def yX1_isAt : MethodName := ⟨RX1, "isAt", "(II)Z"⟩
abbrev cX1_has : ByteArray := prog_3_method_5_code
def yX1_has : MethodName := ⟨RX1, "has", "(I)Z"⟩
abbrev cX1_holds : ByteArray := prog_3_method_6_code
def yX1_holds : MethodName := ⟨RX1, "holds", "(II)Z"⟩
abbrev cX1_meets : ByteArray := prog_3_method_7_code
def yX1_meets : MethodName := ⟨RX1, "meets", "(II)Z"⟩
def RX2 : String := "NameMaps$CacheMap"
def TX2 : u_T := fun k => match k with
  | 0 => ("NameMaps$CacheMap", "block", "LNameMaps$Block;", true)
  | 1 => ("NameMaps$CacheMap", "slots", "LNameMaps$Slots;", true)
  | 2 => ("NameMaps$CacheMap", "site", "I", false)
  | 3 => ("NameMaps$CacheMap", "version", "I", false)
  | 4 => ("NameMaps$CacheMap", "end", "I", false)
  | _ => ("NameMaps$CacheMap", "isMarked", "Z", false)
def tyX2 : Nat → FieldType := fun k => match k with
  | 0 => .object "NameMaps$Block"
  | 1 => .object "NameMaps$Slots"
  | 2 => .int
  | 3 => .int
  | 4 => .int
  | _ => .boolean
theorem nmX2 : ∀ a, a < 6 → ∀ b, b < 6 → a ≠ b → (TX2 a).2.1 ≠ (TX2 b).2.1 := by decide +kernel
theorem tyX2_ok : ∀ k, k < 6 → parseFieldDescriptor (TX2 k).2.2.1 = some (tyX2 k) := by decide +kernel
abbrev cX2_init : ByteArray := prog_4_method_1_code
def yX2_init : MethodName := ⟨RX2, "<init>", "()V"⟩
abbrev cX2_become : ByteArray := prog_4_method_2_code
def yX2_become : MethodName := ⟨RX2, "become", "(ILNameMaps$Site;I)V"⟩
abbrev cX2_copyFrom : ByteArray := prog_4_method_3_code
def yX2_copyFrom : MethodName := ⟨RX2, "copyFrom", "(LNameMaps$CacheMap;)V"⟩
abbrev cX2_isHolding : ByteArray := prog_4_method_4_code
def yX2_isHolding : MethodName := ⟨RX2, "isHolding", "(I)Z"⟩
abbrev cX2_property : ByteArray := prog_4_method_5_code
def yX2_property : MethodName := ⟨RX2, "property", "(II)I"⟩
def RX3 : String := "NameMaps$History"
def TX3 : u_T := fun k => match k with
  | 0 => ("NameMaps$History", "states", "[LNameMaps$World;", true)
  | 1 => ("NameMaps$History", "oldest", "I", false)
  | _ => ("NameMaps$History", "count", "I", false)
def tyX3 : Nat → FieldType := fun k => match k with
  | 0 => .array (.object "NameMaps$World")
  | 1 => .int
  | _ => .int
theorem nmX3 : ∀ a, a < 3 → ∀ b, b < 3 → a ≠ b → (TX3 a).2.1 ≠ (TX3 b).2.1 := by decide +kernel
theorem tyX3_ok : ∀ k, k < 3 → parseFieldDescriptor (TX3 k).2.2.1 = some (tyX3 k) := by decide +kernel
abbrev cX3_init : ByteArray := prog_5_method_1_code
def yX3_init : MethodName := ⟨RX3, "<init>", "()V"⟩
abbrev cX3_row : ByteArray := prog_5_method_2_code
def yX3_row : MethodName := ⟨RX3, "row", "(I)I"⟩
abbrev cX3_draft : ByteArray := prog_5_method_3_code
def yX3_draft : MethodName := ⟨RX3, "draft", "(LNameMaps$World;)V"⟩
abbrev cX3_keepDraft : ByteArray := prog_5_method_4_code
def yX3_keepDraft : MethodName := ⟨RX3, "keepDraft", "()V"⟩
abbrev cX3_takeLatest : ByteArray := prog_5_method_5_code
def yX3_takeLatest : MethodName := ⟨RX3, "takeLatest", "(LNameMaps$World;)V"⟩
def RX4 : String := "NameMaps$Router"
def TX4 : u_T := fun k => match k with
  | 0 => ("NameMaps$Router", "maps", "[LNameMaps$CacheMap;", true)
  | 1 => ("NameMaps$Router", "mapCount", "I", false)
  | 2 => ("NameMaps$Router", "asks", "I", false)
  | 3 => ("NameMaps$Router", "hops", "I", false)
  | 4 => ("NameMaps$Router", "letters", "I", false)
  | 5 => ("NameMaps$Router", "proxied", "I", false)
  | _ => ("NameMaps$Router", "oldMaps", "I", false)
def tyX4 : Nat → FieldType := fun k => match k with
  | 0 => .array (.object "NameMaps$CacheMap")
  | 1 => .int
  | 2 => .int
  | 3 => .int
  | 4 => .int
  | 5 => .int
  | _ => .int
theorem nmX4 : ∀ a, a < 7 → ∀ b, b < 7 → a ≠ b → (TX4 a).2.1 ≠ (TX4 b).2.1 := by decide +kernel
theorem tyX4_ok : ∀ k, k < 7 → parseFieldDescriptor (TX4 k).2.2.1 = some (tyX4 k) := by decide +kernel
abbrev cX4_init : ByteArray := prog_6_method_1_code
def yX4_init : MethodName := ⟨RX4, "<init>", "()V"⟩
abbrev cX4_start : ByteArray := prog_6_method_2_code
def yX4_start : MethodName := ⟨RX4, "start", "()V"⟩
abbrev cX4_copyFrom : ByteArray := prog_6_method_3_code
def yX4_copyFrom : MethodName := ⟨RX4, "copyFrom", "(LNameMaps$Router;)V"⟩
abbrev cX4_isPlace : ByteArray := prog_6_method_4_code
def yX4_isPlace : MethodName := ⟨RX4, "isPlace", "(I)Z"⟩
abbrev cX4_property : ByteArray := prog_6_method_5_code
def yX4_property : MethodName := ⟨RX4, "property", "(I)I"⟩
abbrev cX4_moveToFront : ByteArray := prog_6_method_6_code
def yX4_moveToFront : MethodName := ⟨RX4, "moveToFront", "(I)V"⟩
abbrev cX4_drop : ByteArray := prog_6_method_7_code
def yX4_drop : MethodName := ⟨RX4, "drop", "(I)V"⟩
abbrev cX4_dropEnded : ByteArray := prog_6_method_8_code
def yX4_dropEnded : MethodName := ⟨RX4, "dropEnded", "(I)V"⟩
abbrev cX4_placeOfSite : ByteArray := prog_6_method_9_code
def yX4_placeOfSite : MethodName := ⟨RX4, "placeOfSite", "(I)I"⟩
abbrev cX4_placeOfSmallest : ByteArray := prog_6_method_10_code
def yX4_placeOfSmallest : MethodName := ⟨RX4, "placeOfSmallest", "(I)I"⟩
abbrev cX4_addMap : ByteArray := prog_6_method_11_code
def yX4_addMap : MethodName := ⟨RX4, "addMap", "(ILNameMaps$Site;I)V"⟩
def RX5 : String := "NameMaps$Server"
def TX5 : u_T := fun k => match k with
  | 0 => ("NameMaps$Server", "block", "LNameMaps$Block;", true)
  | _ => ("NameMaps$Server", "parent", "I", false)
def tyX5 : Nat → FieldType := fun k => match k with
  | 0 => .object "NameMaps$Block"
  | _ => .int
theorem nmX5 : ∀ a, a < 2 → ∀ b, b < 2 → a ≠ b → (TX5 a).2.1 ≠ (TX5 b).2.1 := by decide +kernel
theorem tyX5_ok : ∀ k, k < 2 → parseFieldDescriptor (TX5 k).2.2.1 = some (tyX5 k) := by decide +kernel
abbrev cX5_init : ByteArray := prog_7_method_1_code
def yX5_init : MethodName := ⟨RX5, "<init>", "()V"⟩
abbrev cX5_copyFrom : ByteArray := prog_7_method_2_code
def yX5_copyFrom : MethodName := ⟨RX5, "copyFrom", "(LNameMaps$Server;)V"⟩
def RX6 : String := "NameMaps$Site"
def TX6 : u_T := fun k => match k with
  | 0 => ("NameMaps$Site", "block", "LNameMaps$Block;", true)
  | 1 => ("NameMaps$Site", "slots", "LNameMaps$Slots;", true)
  | 2 => ("NameMaps$Site", "life", "I", false)
  | 3 => ("NameMaps$Site", "version", "I", false)
  | _ => ("NameMaps$Site", "end", "I", false)
def tyX6 : Nat → FieldType := fun k => match k with
  | 0 => .object "NameMaps$Block"
  | 1 => .object "NameMaps$Slots"
  | 2 => .int
  | 3 => .int
  | _ => .int
theorem nmX6 : ∀ a, a < 5 → ∀ b, b < 5 → a ≠ b → (TX6 a).2.1 ≠ (TX6 b).2.1 := by decide +kernel
theorem tyX6_ok : ∀ k, k < 5 → parseFieldDescriptor (TX6 k).2.2.1 = some (tyX6 k) := by decide +kernel
abbrev cX6_init : ByteArray := prog_8_method_1_code
def yX6_init : MethodName := ⟨RX6, "<init>", "()V"⟩
abbrev cX6_start : ByteArray := prog_8_method_2_code
def yX6_start : MethodName := ⟨RX6, "start", "(III)V"⟩
abbrev cX6_copyFrom : ByteArray := prog_8_method_3_code
def yX6_copyFrom : MethodName := ⟨RX6, "copyFrom", "(LNameMaps$Site;)V"⟩
abbrev cX6_isRegistered : ByteArray := prog_8_method_4_code
def yX6_isRegistered : MethodName := ⟨RX6, "isRegistered", "(I)Z"⟩
abbrev cX6_isUp : ByteArray := prog_8_method_5_code
def yX6_isUp : MethodName := ⟨RX6, "isUp", "(I)Z"⟩
def RX7 : String := "NameMaps$Slots"
def TX7 : u_T := fun k => match k with
  | _ => ("NameMaps$Slots", "cells", "[I", true)
def tyX7 : Nat → FieldType := fun k => match k with
  | _ => .array .int
theorem nmX7 : ∀ a, a < 1 → ∀ b, b < 1 → a ≠ b → (TX7 a).2.1 ≠ (TX7 b).2.1 := by decide +kernel
theorem tyX7_ok : ∀ k, k < 1 → parseFieldDescriptor (TX7 k).2.2.1 = some (tyX7 k) := by decide +kernel
abbrev cX7_init : ByteArray := prog_9_method_1_code
def yX7_init : MethodName := ⟨RX7, "<init>", "()V"⟩
abbrev cX7_copyFrom : ByteArray := prog_9_method_2_code
def yX7_copyFrom : MethodName := ⟨RX7, "copyFrom", "(LNameMaps$Slots;)V"⟩
abbrev cX7_fill : ByteArray := prog_9_method_3_code
def yX7_fill : MethodName := ⟨RX7, "fill", "(IIII)V"⟩
abbrev cX7_propertyOf : ByteArray := prog_9_method_4_code
def yX7_propertyOf : MethodName := ⟨RX7, "propertyOf", "(II)I"⟩
abbrev cX7_isEmpty : ByteArray := prog_9_method_5_code
def yX7_isEmpty : MethodName := ⟨RX7, "isEmpty", "(I)Z"⟩
abbrev cX7_areEmpty : ByteArray := prog_9_method_6_code
def yX7_areEmpty : MethodName := ⟨RX7, "areEmpty", "()Z"⟩
abbrev cX7_have : ByteArray := prog_9_method_7_code
def yX7_have : MethodName := ⟨RX7, "have", "(I)Z"⟩
abbrev cX7_lowestPriority : ByteArray := prog_9_method_8_code
def yX7_lowestPriority : MethodName := ⟨RX7, "lowestPriority", "()I"⟩
abbrev cX7_weightThatCounts : ByteArray := prog_9_method_9_code
def yX7_weightThatCounts : MethodName := ⟨RX7, "weightThatCounts", "(II)I"⟩
abbrev cX7_placeFor : ByteArray := prog_9_method_10_code
def yX7_placeFor : MethodName := ⟨RX7, "placeFor", "(I)I"⟩
abbrev cX7_flowsTo : ByteArray := prog_9_method_11_code
def yX7_flowsTo : MethodName := ⟨RX7, "flowsTo", "(I)I"⟩
def RX8 : String := "NameMaps$World"
def TX8 : u_T := fun k => match k with
  | 0 => ("NameMaps$World", "servers", "[LNameMaps$Server;", true)
  | 1 => ("NameMaps$World", "sites", "[LNameMaps$Site;", true)
  | 2 => ("NameMaps$World", "routers", "[LNameMaps$Router;", true)
  | 3 => ("NameMaps$World", "serverCount", "I", false)
  | 4 => ("NameMaps$World", "siteCount", "I", false)
  | 5 => ("NameMaps$World", "routerCount", "I", false)
  | 6 => ("NameMaps$World", "hour", "I", false)
  | _ => ("NameMaps$World", "mapLife", "I", false)
def tyX8 : Nat → FieldType := fun k => match k with
  | 0 => .array (.object "NameMaps$Server")
  | 1 => .array (.object "NameMaps$Site")
  | 2 => .array (.object "NameMaps$Router")
  | 3 => .int
  | 4 => .int
  | 5 => .int
  | 6 => .int
  | _ => .int
theorem nmX8 : ∀ a, a < 8 → ∀ b, b < 8 → a ≠ b → (TX8 a).2.1 ≠ (TX8 b).2.1 := by decide +kernel
theorem tyX8_ok : ∀ k, k < 8 → parseFieldDescriptor (TX8 k).2.2.1 = some (tyX8 k) := by decide +kernel
abbrev cX8_init : ByteArray := prog_10_method_1_code
def yX8_init : MethodName := ⟨RX8, "<init>", "()V"⟩
abbrev cX8_copyFrom : ByteArray := prog_10_method_2_code
def yX8_copyFrom : MethodName := ⟨RX8, "copyFrom", "(LNameMaps$World;)V"⟩
abbrev cX8_isServer : ByteArray := prog_10_method_3_code
def yX8_isServer : MethodName := ⟨RX8, "isServer", "(I)Z"⟩
abbrev cX8_isSite : ByteArray := prog_10_method_4_code
def yX8_isSite : MethodName := ⟨RX8, "isSite", "(I)Z"⟩
abbrev cX8_isRouter : ByteArray := prog_10_method_5_code
def yX8_isRouter : MethodName := ⟨RX8, "isRouter", "(I)Z"⟩
abbrev cX8_newServer : ByteArray := prog_10_method_6_code
def yX8_newServer : MethodName := ⟨RX8, "newServer", "(III)I"⟩
abbrev cX8_newSite : ByteArray := prog_10_method_7_code
def yX8_newSite : MethodName := ⟨RX8, "newSite", "(III)I"⟩
abbrev cX8_newRouter : ByteArray := prog_10_method_8_code
def yX8_newRouter : MethodName := ⟨RX8, "newRouter", "()I"⟩
abbrev cX8_fillSlot : ByteArray := prog_10_method_9_code
def yX8_fillSlot : MethodName := ⟨RX8, "fillSlot", "(IIIII)I"⟩
abbrev cX8_vacateSlot : ByteArray := prog_10_method_10_code
def yX8_vacateSlot : MethodName := ⟨RX8, "vacateSlot", "(II)I"⟩
abbrev cX8_startRegistration : ByteArray := prog_10_method_11_code
def yX8_startRegistration : MethodName := ⟨RX8, "startRegistration", "(I)I"⟩
abbrev cX8_endRegistration : ByteArray := prog_10_method_12_code
def yX8_endRegistration : MethodName := ⟨RX8, "endRegistration", "(I)I"⟩
abbrev cX8_changeMapLife : ByteArray := prog_10_method_13_code
def yX8_changeMapLife : MethodName := ⟨RX8, "changeMapLife", "(I)I"⟩
abbrev cX8_letPass : ByteArray := prog_10_method_14_code
def yX8_letPass : MethodName := ⟨RX8, "letPass", "(I)I"⟩
abbrev cX8_emptyCache : ByteArray := prog_10_method_15_code
def yX8_emptyCache : MethodName := ⟨RX8, "emptyCache", "(I)I"⟩
abbrev cX8_sendLetter : ByteArray := prog_10_method_16_code
def yX8_sendLetter : MethodName := ⟨RX8, "sendLetter", "(III)I"⟩
abbrev cX8_placeByMap : ByteArray := prog_10_method_17_code
def yX8_placeByMap : MethodName := ⟨RX8, "placeByMap", "(LNameMaps$CacheMap;I)I"⟩
abbrev cX8_ask : ByteArray := prog_10_method_18_code
def yX8_ask : MethodName := ⟨RX8, "ask", "(LNameMaps$Router;I)Z"⟩
abbrev cX8_goByProxy : ByteArray := prog_10_method_19_code
def yX8_goByProxy : MethodName := ⟨RX8, "goByProxy", "(LNameMaps$Router;I)I"⟩
abbrev cX8_homeOf : ByteArray := prog_10_method_20_code
def yX8_homeOf : MethodName := ⟨RX8, "homeOf", "(II)I"⟩
abbrev cX8_homeOfSite : ByteArray := prog_10_method_21_code
def yX8_homeOfSite : MethodName := ⟨RX8, "homeOfSite", "(I)I"⟩
abbrev cX8_hopsTo : ByteArray := prog_10_method_22_code
def yX8_hopsTo : MethodName := ⟨RX8, "hopsTo", "(I)I"⟩
abbrev cX8_answerFor : ByteArray := prog_10_method_23_code
def yX8_answerFor : MethodName := ⟨RX8, "answerFor", "(I)I"⟩
abbrev cX8_siteEndingAt : ByteArray := prog_10_method_24_code
def yX8_siteEndingAt : MethodName := ⟨RX8, "siteEndingAt", "(I)I"⟩
abbrev cX8_sitesEndingAheadOf : ByteArray := prog_10_method_25_code
def yX8_sitesEndingAheadOf : MethodName := ⟨RX8, "sitesEndingAheadOf", "(I)I"⟩
abbrev cX8_serverProperty : ByteArray := prog_10_method_26_code
def yX8_serverProperty : MethodName := ⟨RX8, "serverProperty", "(II)I"⟩
abbrev cX8_childrenOf : ByteArray := prog_10_method_27_code
def yX8_childrenOf : MethodName := ⟨RX8, "childrenOf", "(I)I"⟩
abbrev cX8_sitesAtHome : ByteArray := prog_10_method_28_code
def yX8_sitesAtHome : MethodName := ⟨RX8, "sitesAtHome", "(I)I"⟩
abbrev cX8_siteProperty : ByteArray := prog_10_method_29_code
def yX8_siteProperty : MethodName := ⟨RX8, "siteProperty", "(II)I"⟩
abbrev cX8_mapsOf : ByteArray := prog_10_method_30_code
def yX8_mapsOf : MethodName := ⟨RX8, "mapsOf", "(I)I"⟩
abbrev cX8_totalOf : ByteArray := prog_10_method_31_code
def yX8_totalOf : MethodName := ⟨RX8, "totalOf", "(I)I"⟩
abbrev cX8_sitesUp : ByteArray := prog_10_method_32_code
def yX8_sitesUp : MethodName := ⟨RX8, "sitesUp", "()I"⟩
abbrev cX8_sumOverRouters : ByteArray := prog_10_method_33_code
def yX8_sumOverRouters : MethodName := ⟨RX8, "sumOverRouters", "(I)I"⟩
abbrev cX8_namesWithAnswer : ByteArray := prog_10_method_34_code
def yX8_namesWithAnswer : MethodName := ⟨RX8, "namesWithAnswer", "()I"⟩
def RX9 : String := "NameMaps"
def TX9 : u_T := fun k => match k with
  | 0 => ("NameMaps", "present", "LNameMaps$World;", true)
  | 1 => ("NameMaps", "rehearsal", "LNameMaps$World;", true)
  | 2 => ("NameMaps", "history", "LNameMaps$History;", true)
  | 3 => ("NameMaps", "saves", "[LNameMaps$World;", true)
  | 4 => ("NameMaps", "isSaved", "[Z", true)
  | _ => ("NameMaps", "text", "LNameMaps$ActText;", true)
def tyX9 : Nat → FieldType := fun k => match k with
  | 0 => .object "NameMaps$World"
  | 1 => .object "NameMaps$World"
  | 2 => .object "NameMaps$History"
  | 3 => .array (.object "NameMaps$World")
  | 4 => .array .boolean
  | _ => .object "NameMaps$ActText"
theorem nmX9 : ∀ a, a < 6 → ∀ b, b < 6 → a ≠ b → (TX9 a).2.1 ≠ (TX9 b).2.1 := by decide +kernel
theorem tyX9_ok : ∀ k, k < 6 → parseFieldDescriptor (TX9 k).2.2.1 = some (tyX9 k) := by decide +kernel
abbrev cX9_init : ByteArray := prog_1_method_1_code
def yX9_init : MethodName := ⟨RX9, "<init>", "()V"⟩
abbrev cX9_addServer : ByteArray := prog_1_method_2_code
def yX9_addServer : MethodName := ⟨RX9, "addServer", "(III)I"⟩
abbrev cX9_addSite : ByteArray := prog_1_method_3_code
def yX9_addSite : MethodName := ⟨RX9, "addSite", "(III)I"⟩
abbrev cX9_addRouter : ByteArray := prog_1_method_4_code
def yX9_addRouter : MethodName := ⟨RX9, "addRouter", "()I"⟩
abbrev cX9_setSlot : ByteArray := prog_1_method_5_code
def yX9_setSlot : MethodName := ⟨RX9, "setSlot", "(IIIII)I"⟩
abbrev cX9_emptySlot : ByteArray := prog_1_method_6_code
def yX9_emptySlot : MethodName := ⟨RX9, "emptySlot", "(II)I"⟩
abbrev cX9_register : ByteArray := prog_1_method_7_code
def yX9_register : MethodName := ⟨RX9, "register", "(I)I"⟩
abbrev cX9_unregister : ByteArray := prog_1_method_8_code
def yX9_unregister : MethodName := ⟨RX9, "unregister", "(I)I"⟩
abbrev cX9_setMapLife : ByteArray := prog_1_method_9_code
def yX9_setMapLife : MethodName := ⟨RX9, "setMapLife", "(I)I"⟩
abbrev cX9_send : ByteArray := prog_1_method_10_code
def yX9_send : MethodName := ⟨RX9, "send", "(III)I"⟩
abbrev cX9_pass : ByteArray := prog_1_method_11_code
def yX9_pass : MethodName := ⟨RX9, "pass", "(I)I"⟩
abbrev cX9_forget : ByteArray := prog_1_method_12_code
def yX9_forget : MethodName := ⟨RX9, "forget", "(I)I"⟩
abbrev cX9_append : ByteArray := prog_1_method_13_code
def yX9_append : MethodName := ⟨RX9, "append", "(I)I"⟩
abbrev cX9_clearText : ByteArray := prog_1_method_14_code
def yX9_clearText : MethodName := ⟨RX9, "clearText", "()I"⟩
abbrev cX9_faultPosition : ByteArray := prog_1_method_15_code
def yX9_faultPosition : MethodName := ⟨RX9, "faultPosition", "()I"⟩
abbrev cX9_run : ByteArray := prog_1_method_16_code
def yX9_run : MethodName := ⟨RX9, "run", "()I"⟩
abbrev cX9_undo : ByteArray := prog_1_method_17_code
def yX9_undo : MethodName := ⟨RX9, "undo", "()I"⟩
abbrev cX9_save : ByteArray := prog_1_method_18_code
def yX9_save : MethodName := ⟨RX9, "save", "(I)I"⟩
abbrev cX9_restore : ByteArray := prog_1_method_19_code
def yX9_restore : MethodName := ⟨RX9, "restore", "(I)I"⟩
abbrev cX9_server : ByteArray := prog_1_method_20_code
def yX9_server : MethodName := ⟨RX9, "server", "(II)I"⟩
abbrev cX9_site : ByteArray := prog_1_method_21_code
def yX9_site : MethodName := ⟨RX9, "site", "(II)I"⟩
abbrev cX9_slot : ByteArray := prog_1_method_22_code
def yX9_slot : MethodName := ⟨RX9, "slot", "(III)I"⟩
abbrev cX9_router : ByteArray := prog_1_method_23_code
def yX9_router : MethodName := ⟨RX9, "router", "(II)I"⟩
abbrev cX9_map : ByteArray := prog_1_method_24_code
def yX9_map : MethodName := ⟨RX9, "map", "(III)I"⟩
abbrev cX9_answer : ByteArray := prog_1_method_25_code
def yX9_answer : MethodName := ⟨RX9, "answer", "(I)I"⟩
abbrev cX9_way : ByteArray := prog_1_method_26_code
def yX9_way : MethodName := ⟨RX9, "way", "(II)I"⟩
abbrev cX9_endingNext : ByteArray := prog_1_method_27_code
def yX9_endingNext : MethodName := ⟨RX9, "endingNext", "(I)I"⟩
abbrev cX9_total : ByteArray := prog_1_method_28_code
def yX9_total : MethodName := ⟨RX9, "total", "(I)I"⟩
abbrev cX9_wouldReach : ByteArray := prog_1_method_29_code
def yX9_wouldReach : MethodName := ⟨RX9, "wouldReach", "(IIII)I"⟩
abbrev cX9_wouldAsk : ByteArray := prog_1_method_30_code
def yX9_wouldAsk : MethodName := ⟨RX9, "wouldAsk", "(III)I"⟩
abbrev cX9_share : ByteArray := prog_1_method_31_code
def yX9_share : MethodName := ⟨RX9, "share", "(II)I"⟩
abbrev cX9_recorded : ByteArray := prog_1_method_32_code
def yX9_recorded : MethodName := ⟨RX9, "recorded", "(I)I"⟩
abbrev cX9_carryOutAct : ByteArray := prog_1_method_33_code
def yX9_carryOutAct : MethodName := ⟨RX9, "carryOutAct", "()I"⟩
abbrev cX9_isSave : ByteArray := prog_1_method_34_code
def yX9_isSave : MethodName := ⟨RX9, "isSave", "(I)Z"⟩
abbrev cX9_isSlot : ByteArray := prog_1_method_35_code
def yX9_isSlot : MethodName := ⟨RX9, "isSlot", "(I)Z"⟩
abbrev cX9_isName : ByteArray := prog_1_method_36_code
def yX9_isName : MethodName := ⟨RX9, "isName", "(I)Z"⟩
abbrev cX9_isFlow : ByteArray := prog_1_method_37_code
def yX9_isFlow : MethodName := ⟨RX9, "isFlow", "(I)Z"⟩
abbrev cX9_isPlaceOfSlot : ByteArray := prog_1_method_38_code
def yX9_isPlaceOfSlot : MethodName := ⟨RX9, "isPlaceOfSlot", "(I)Z"⟩
abbrev cX9_isBlock : ByteArray := prog_1_method_39_code
def yX9_isBlock : MethodName := ⟨RX9, "isBlock", "(II)Z"⟩
def RX10 : String := "NameMapsModel"
def TX10 : u_T := fun k => match k with
  | 0 => ("NameMapsModel", "now", "[I", true)
  | 1 => ("NameMapsModel", "kept", "[I", true)
  | 2 => ("NameMapsModel", "isSaved", "[I", true)
  | 3 => ("NameMapsModel", "states", "I", false)
  | 4 => ("NameMapsModel", "text", "[I", true)
  | 5 => ("NameMapsModel", "length", "I", false)
  | 6 => ("NameMapsModel", "at", "I", false)
  | 7 => ("NameMapsModel", "number", "I", false)
  | 8 => ("NameMapsModel", "act", "I", false)
  | 9 => ("NameMapsModel", "first", "I", false)
  | 10 => ("NameMapsModel", "second", "I", false)
  | _ => ("NameMapsModel", "third", "I", false)
def tyX10 : Nat → FieldType := fun k => match k with
  | 0 => .array .int
  | 1 => .array .int
  | 2 => .array .int
  | 3 => .int
  | 4 => .array .int
  | 5 => .int
  | 6 => .int
  | 7 => .int
  | 8 => .int
  | 9 => .int
  | 10 => .int
  | _ => .int
theorem nmX10 : ∀ a, a < 12 → ∀ b, b < 12 → a ≠ b → (TX10 a).2.1 ≠ (TX10 b).2.1 := by decide +kernel
theorem tyX10_ok : ∀ k, k < 12 → parseFieldDescriptor (TX10 k).2.2.1 = some (tyX10 k) := by decide +kernel
abbrev cX10_init : ByteArray := prog_12_method_1_code
def yX10_init : MethodName := ⟨RX10, "<init>", "()V"⟩
abbrev cX10_isIn : ByteArray := prog_12_method_2_code
def yX10_isIn : MethodName := ⟨RX10, "isIn", "(III)Z"⟩
abbrev cX10_isServer : ByteArray := prog_12_method_3_code
def yX10_isServer : MethodName := ⟨RX10, "isServer", "(I)Z"⟩
abbrev cX10_isSite : ByteArray := prog_12_method_4_code
def yX10_isSite : MethodName := ⟨RX10, "isSite", "(I)Z"⟩
abbrev cX10_isRouter : ByteArray := prog_12_method_5_code
def yX10_isRouter : MethodName := ⟨RX10, "isRouter", "(I)Z"⟩
abbrev cX10_isName : ByteArray := prog_12_method_6_code
def yX10_isName : MethodName := ⟨RX10, "isName", "(I)Z"⟩
abbrev cX10_siteAt : ByteArray := prog_12_method_7_code
def yX10_siteAt : MethodName := ⟨RX10, "siteAt", "(I)I"⟩
abbrev cX10_routerAt : ByteArray := prog_12_method_8_code
def yX10_routerAt : MethodName := ⟨RX10, "routerAt", "(I)I"⟩
abbrev cX10_mapAt : ByteArray := prog_12_method_9_code
def yX10_mapAt : MethodName := ⟨RX10, "mapAt", "(II)I"⟩
abbrev cX10_keeps : ByteArray := prog_12_method_10_code
def yX10_keeps : MethodName := ⟨RX10, "keeps", "(I)V"⟩
abbrev cX10_brings : ByteArray := prog_12_method_11_code
def yX10_brings : MethodName := ⟨RX10, "brings", "(I)V"⟩
abbrev cX10_records : ByteArray := prog_12_method_12_code
def yX10_records : MethodName := ⟨RX10, "records", "()V"⟩
abbrev cX10_undo : ByteArray := prog_12_method_13_code
def yX10_undo : MethodName := ⟨RX10, "undo", "()I"⟩
abbrev cX10_save : ByteArray := prog_12_method_14_code
def yX10_save : MethodName := ⟨RX10, "save", "(I)I"⟩
abbrev cX10_restore : ByteArray := prog_12_method_15_code
def yX10_restore : MethodName := ⟨RX10, "restore", "(I)I"⟩
abbrev cX10_isBlock : ByteArray := prog_12_method_16_code
def yX10_isBlock : MethodName := ⟨RX10, "isBlock", "(II)Z"⟩
abbrev cX10_firstOf : ByteArray := prog_12_method_17_code
def yX10_firstOf : MethodName := ⟨RX10, "firstOf", "(I)I"⟩
abbrev cX10_sizeOf : ByteArray := prog_12_method_18_code
def yX10_sizeOf : MethodName := ⟨RX10, "sizeOf", "(I)I"⟩
abbrev cX10_holds : ByteArray := prog_12_method_19_code
def yX10_holds : MethodName := ⟨RX10, "holds", "(III)Z"⟩
abbrev cX10_homeOf : ByteArray := prog_12_method_20_code
def yX10_homeOf : MethodName := ⟨RX10, "homeOf", "(II)I"⟩
abbrev cX10_wayTo : ByteArray := prog_12_method_21_code
def yX10_wayTo : MethodName := ⟨RX10, "wayTo", "(I)I"⟩
abbrev cX10_way : ByteArray := prog_12_method_22_code
def yX10_way : MethodName := ⟨RX10, "way", "(II)I"⟩
abbrev cX10_addServer : ByteArray := prog_12_method_23_code
def yX10_addServer : MethodName := ⟨RX10, "addServer", "(III)I"⟩
abbrev cX10_ofSite : ByteArray := prog_12_method_24_code
def yX10_ofSite : MethodName := ⟨RX10, "ofSite", "(II)I"⟩
abbrev cX10_has : ByteArray := prog_12_method_25_code
def yX10_has : MethodName := ⟨RX10, "has", "(II)Z"⟩
abbrev cX10_homeOfSite : ByteArray := prog_12_method_26_code
def yX10_homeOfSite : MethodName := ⟨RX10, "homeOfSite", "(I)I"⟩
abbrev cX10_isRegistered : ByteArray := prog_12_method_27_code
def yX10_isRegistered : MethodName := ⟨RX10, "isRegistered", "(I)Z"⟩
abbrev cX10_isUp : ByteArray := prog_12_method_28_code
def yX10_isUp : MethodName := ⟨RX10, "isUp", "(I)Z"⟩
abbrev cX10_answerOf : ByteArray := prog_12_method_29_code
def yX10_answerOf : MethodName := ⟨RX10, "answerOf", "(I)I"⟩
abbrev cX10_answer : ByteArray := prog_12_method_30_code
def yX10_answer : MethodName := ⟨RX10, "answer", "(I)I"⟩
abbrev cX10_addSite : ByteArray := prog_12_method_31_code
def yX10_addSite : MethodName := ⟨RX10, "addSite", "(III)I"⟩
abbrev cX10_addRouter : ByteArray := prog_12_method_32_code
def yX10_addRouter : MethodName := ⟨RX10, "addRouter", "()I"⟩
abbrev cX10_setSlot : ByteArray := prog_12_method_33_code
def yX10_setSlot : MethodName := ⟨RX10, "setSlot", "(IIIII)I"⟩
abbrev cX10_emptySlot : ByteArray := prog_12_method_34_code
def yX10_emptySlot : MethodName := ⟨RX10, "emptySlot", "(II)I"⟩
abbrev cX10_registers : ByteArray := prog_12_method_35_code
def yX10_registers : MethodName := ⟨RX10, "registers", "(I)I"⟩
abbrev cX10_register : ByteArray := prog_12_method_36_code
def yX10_register : MethodName := ⟨RX10, "register", "(I)I"⟩
abbrev cX10_unregisterError : ByteArray := prog_12_method_37_code
def yX10_unregisterError : MethodName := ⟨RX10, "unregisterError", "(I)I"⟩
abbrev cX10_unregisters : ByteArray := prog_12_method_38_code
def yX10_unregisters : MethodName := ⟨RX10, "unregisters", "(I)I"⟩
abbrev cX10_unregister : ByteArray := prog_12_method_39_code
def yX10_unregister : MethodName := ⟨RX10, "unregister", "(I)I"⟩
abbrev cX10_setMapLife : ByteArray := prog_12_method_40_code
def yX10_setMapLife : MethodName := ⟨RX10, "setMapLife", "(I)I"⟩
abbrev cX10_mapsOf : ByteArray := prog_12_method_41_code
def yX10_mapsOf : MethodName := ⟨RX10, "mapsOf", "(I)I"⟩
abbrev cX10_ofMap : ByteArray := prog_12_method_42_code
def yX10_ofMap : MethodName := ⟨RX10, "ofMap", "(III)I"⟩
abbrev cX10_drops : ByteArray := prog_12_method_43_code
def yX10_drops : MethodName := ⟨RX10, "drops", "(II)V"⟩
abbrev cX10_makesRoom : ByteArray := prog_12_method_44_code
def yX10_makesRoom : MethodName := ⟨RX10, "makesRoom", "(II)V"⟩
abbrev cX10_uses : ByteArray := prog_12_method_45_code
def yX10_uses : MethodName := ⟨RX10, "uses", "(II)V"⟩
abbrev cX10_asks : ByteArray := prog_12_method_46_code
def yX10_asks : MethodName := ⟨RX10, "asks", "(II)Z"⟩
abbrev cX10_chosen : ByteArray := prog_12_method_47_code
def yX10_chosen : MethodName := ⟨RX10, "chosen", "(II)I"⟩
abbrev cX10_isAt : ByteArray := prog_12_method_48_code
def yX10_isAt : MethodName := ⟨RX10, "isAt", "(II)Z"⟩
abbrev cX10_takes : ByteArray := prog_12_method_49_code
def yX10_takes : MethodName := ⟨RX10, "takes", "(II)I"⟩
abbrev cX10_proxy : ByteArray := prog_12_method_50_code
def yX10_proxy : MethodName := ⟨RX10, "proxy", "(II)I"⟩
abbrev cX10_sends : ByteArray := prog_12_method_51_code
def yX10_sends : MethodName := ⟨RX10, "sends", "(III)I"⟩
abbrev cX10_isLetter : ByteArray := prog_12_method_52_code
def yX10_isLetter : MethodName := ⟨RX10, "isLetter", "(II)Z"⟩
abbrev cX10_send : ByteArray := prog_12_method_53_code
def yX10_send : MethodName := ⟨RX10, "send", "(III)I"⟩
abbrev cX10_pass : ByteArray := prog_12_method_54_code
def yX10_pass : MethodName := ⟨RX10, "pass", "(I)I"⟩
abbrev cX10_forget : ByteArray := prog_12_method_55_code
def yX10_forget : MethodName := ⟨RX10, "forget", "(I)I"⟩
abbrev cX10_append : ByteArray := prog_12_method_56_code
def yX10_append : MethodName := ⟨RX10, "append", "(I)I"⟩
abbrev cX10_clearText : ByteArray := prog_12_method_57_code
def yX10_clearText : MethodName := ⟨RX10, "clearText", "()I"⟩
abbrev cX10_passesSign : ByteArray := prog_12_method_58_code
def yX10_passesSign : MethodName := ⟨RX10, "passesSign", "(I)Z"⟩
abbrev cX10_isDigitHere : ByteArray := prog_12_method_59_code
def yX10_isDigitHere : MethodName := ⟨RX10, "isDigitHere", "()Z"⟩
abbrev cX10_passesNumber : ByteArray := prog_12_method_60_code
def yX10_passesNumber : MethodName := ⟨RX10, "passesNumber", "(II)Z"⟩
abbrev cX10_passesLetter : ByteArray := prog_12_method_61_code
def yX10_passesLetter : MethodName := ⟨RX10, "passesLetter", "()Z"⟩
abbrev cX10_passesAct : ByteArray := prog_12_method_62_code
def yX10_passesAct : MethodName := ⟨RX10, "passesAct", "()Z"⟩
abbrev cX10_faultOf : ByteArray := prog_12_method_63_code
def yX10_faultOf : MethodName := ⟨RX10, "faultOf", "()I"⟩
abbrev cX10_faultPosition : ByteArray := prog_12_method_64_code
def yX10_faultPosition : MethodName := ⟨RX10, "faultPosition", "()I"⟩
abbrev cX10_does : ByteArray := prog_12_method_65_code
def yX10_does : MethodName := ⟨RX10, "does", "()Z"⟩
abbrev cX10_run : ByteArray := prog_12_method_66_code
def yX10_run : MethodName := ⟨RX10, "run", "()I"⟩
abbrev cX10_children : ByteArray := prog_12_method_67_code
def yX10_children : MethodName := ⟨RX10, "children", "(I)I"⟩
abbrev cX10_sitesOf : ByteArray := prog_12_method_68_code
def yX10_sitesOf : MethodName := ⟨RX10, "sitesOf", "(I)I"⟩
abbrev cX10_server : ByteArray := prog_12_method_69_code
def yX10_server : MethodName := ⟨RX10, "server", "(II)I"⟩
abbrev cX10_copiesOf : ByteArray := prog_12_method_70_code
def yX10_copiesOf : MethodName := ⟨RX10, "copiesOf", "(I)I"⟩
abbrev cX10_site : ByteArray := prog_12_method_71_code
def yX10_site : MethodName := ⟨RX10, "site", "(II)I"⟩
abbrev cX10_slot : ByteArray := prog_12_method_72_code
def yX10_slot : MethodName := ⟨RX10, "slot", "(III)I"⟩
abbrev cX10_router : ByteArray := prog_12_method_73_code
def yX10_router : MethodName := ⟨RX10, "router", "(II)I"⟩
abbrev cX10_map : ByteArray := prog_12_method_74_code
def yX10_map : MethodName := ⟨RX10, "map", "(III)I"⟩
abbrev cX10_isAhead : ByteArray := prog_12_method_75_code
def yX10_isAhead : MethodName := ⟨RX10, "isAhead", "(II)Z"⟩
abbrev cX10_endingNext : ByteArray := prog_12_method_76_code
def yX10_endingNext : MethodName := ⟨RX10, "endingNext", "(I)I"⟩
abbrev cX10_upMany : ByteArray := prog_12_method_77_code
def yX10_upMany : MethodName := ⟨RX10, "upMany", "()I"⟩
abbrev cX10_sumOf : ByteArray := prog_12_method_78_code
def yX10_sumOf : MethodName := ⟨RX10, "sumOf", "(I)I"⟩
abbrev cX10_answered : ByteArray := prog_12_method_79_code
def yX10_answered : MethodName := ⟨RX10, "answered", "()I"⟩
abbrev cX10_total : ByteArray := prog_12_method_80_code
def yX10_total : MethodName := ⟨RX10, "total", "(I)I"⟩
abbrev cX10_wouldReach : ByteArray := prog_12_method_81_code
def yX10_wouldReach : MethodName := ⟨RX10, "wouldReach", "(IIII)I"⟩
abbrev cX10_wouldAsk : ByteArray := prog_12_method_82_code
def yX10_wouldAsk : MethodName := ⟨RX10, "wouldAsk", "(III)I"⟩
abbrev cX10_share : ByteArray := prog_12_method_83_code
def yX10_share : MethodName := ⟨RX10, "share", "(II)I"⟩
def RJ6 : String := "java/lang/Integer"
abbrev cJ6_bitCount_0f7a4 : ByteArray := prog_13_method_49_code
def yJ6_bitCount_0f7a4 : MethodName := ⟨RJ6, "bitCount", "(I)I"⟩
def RJ9 : String := "java/lang/Math"
abbrev cJ9_floorMod_7cf53 : ByteArray := prog_14_method_50_code
def yJ9_floorMod_7cf53 : MethodName := ⟨RJ9, "floorMod", "(II)I"⟩
abbrev cJ9_min_7cf53 : ByteArray := prog_14_method_69_code
def yJ9_min_7cf53 : MethodName := ⟨RJ9, "min", "(II)I"⟩
def RL : String := "NameMapsLaw"
abbrev cL_law : ByteArray := code
def yL_law : MethodName := ⟨RL, "law", "([I)Z"⟩
abbrev vwCl : List vw_C := [(RX0, TX0, 8), (RX1, TX1, 2), (RX2, TX2, 6), (RX3, TX3, 3), (RX4, TX4, 7), (RX5, TX5, 2), (RX6, TX6, 5), (RX7, TX7, 1), (RX8, TX8, 8), (RX9, TX9, 6), (RX10, TX10, 12)]
end
section
/-! THE SMALL MACHINE: bytecode over a typed store. A reference is (kind, number); a store is the numbers that fields and int arrays hold, and what the rows of maps hold. -/
abbrev MV : Type := Int32 ⊕ (Nat × Nat)
abbrev St : Type := (Nat → Nat → Nat → Int32) × (Nat → Nat → Nat)
/-- an instruction: its place; (kind, operands); a constant; a list of pairs -/
abbrev Ent : Type := Nat × (Nat × Nat × Nat × Nat) × Int32 × List (Nat × Nat)
/-- fields that hold one object for ever: which -/
def lk (c k i : Nat) : Option (Nat × Nat) := match c with
  | 0 => (match k with | 0 => some (19, 0) | _ => none)
  | 1 => none
  | 2 => (match k with | 0 => some (1, 160 + i) | 1 => some (7, 80 + i) | _ => none)
  | 3 => (match k with | 0 => some (16, 0) | _ => none)
  | 4 => (match k with | 0 => some (14, i) | _ => none)
  | 5 => (match k with | 0 => some (1, i) | _ => none)
  | 6 => (match k with | 0 => some (1, 80 + i) | 1 => some (7, i) | _ => none)
  | 7 => some (15, i)
  | 8 => (match k with | 0 => some (11, i) | 1 => some (12, i) | 2 => some (13, i) | _ => none)
  | 9 => (match k with | 0 => some (8, 0) | 1 => some (8, 1) | 2 => some (3, 0) | 3 => some (17, 0) | 4 => some (18, 0) | _ => some (0, 0))
  | 10 => (match k with | 0 => some (20, 0) | 1 => some (21, 0) | 2 => some (22, 0) | 4 => some (23, 0) | _ => none)
  | _ => none
/-- the elements of an array of references -/
def el (P : Nat → Nat → Nat) (c i j : Nat) : Nat × Nat := match c with
  | 11 => (5, 8 * i + j)
  | 12 => (6, 8 * i + j)
  | 13 => (4, 4 * i + j)
  | 14 => (2, P i j)
  | 16 => (8, 2 + j)
  | _ => (8, 8 + j)
def alen (c : Nat) : Nat := match c with
  | 11 => 8 | 12 => 8 | 13 => 4 | 14 => 5 | 15 => 9 | 16 => 6 | 17 => 2 | 18 => 2 | 19 => 80 | 20 => 509 | 21 => 4072 | 22 => 2 | _ => 80
/-- what kind of array: 0 int, 1 boolean, 2 byte, 3 references, 9 none -/
def akind (c : Nat) : Nat := match c with
  | 11 => 3 | 12 => 3 | 13 => 3 | 14 => 3 | 15 => 0 | 16 => 3 | 17 => 3 | 18 => 1 | 19 => 2 | 20 => 0 | 21 => 0 | 22 => 0 | 23 => 0 | _ => 9
def fv (s : St) (c i k : Nat) : MV := match lk c k i with
  | some r => .inr r
  | none => .inl (s.1 c i k)
def putV (s : St) (c i k : Nat) (x : Int32) : St := (fun a b d => if a = c ∧ b = i ∧ d = k then x else s.1 a b d, s.2)
def putP (s : St) (i k y : Nat) : St := (s.1, fun a b => if a = i ∧ b = k then y else s.2 a b)
def getL : List MV → Nat → Option MV
  | [], _ => none
  | x :: _, 0 => some x
  | _ :: l, n + 1 => getL l n
/-- a local is set, or the next one comes -/
def setL : List MV → Nat → MV → List MV
  | [], _, v => [v]
  | _ :: l, 0, v => v :: l
  | x :: l, n + 1, v => x :: setL l n v
def takeL : List MV → Nat → List MV
  | [], _ => []
  | _ :: _, 0 => []
  | x :: l, n + 1 => x :: takeL l n
def popL : Nat → List MV → List MV → Option (List MV × List MV)
  | 0, acc, st => some (acc, st)
  | n + 1, acc, v :: st => popL n (v :: acc) st
  | _ + 1, _, [] => none
def fromPc : List Ent → Nat → List Ent
  | [], _ => []
  | e :: es, t => match Nat.beq e.1 t with
    | true => e :: es
    | false => fromPc es t
/-- behind the mark that stands at a loop's head -/
def behind : List Ent → List Ent
  | (pc, (0, a), c) :: es => es
  | es => es
def cmpT (b : Nat) (x y : Int32) : Prop := match b with
  | 0 => x = y | 1 => ¬ x = y | 2 => x.toInt < y.toInt | 3 => y.toInt ≤ x.toInt | 4 => y.toInt < x.toInt | _ => x.toInt ≤ y.toInt
def cmpF (b : Nat) (x y : Int32) : Prop := match b with
  | 0 => ¬ x = y | 1 => x = y | 2 => y.toInt ≤ x.toInt | 3 => x.toInt < y.toInt | 4 => x.toInt ≤ y.toInt | _ => y.toInt < x.toInt
def binW (a : Nat) (x y : Int32) (k : Int32 → Prop) : Prop := match a with
  | 0 => k (x + y)
  | 1 => k (x - y)
  | 2 => k (x * y)
  | 3 => ¬ y = 0 ∧ k (x / y)
  | 4 => ¬ y = 0 ∧ k (x - x / y * y)
  | 5 => k (x &&& y)
  | 6 => k ((x.toUInt32 >>> (y.toUInt32 &&& Int32.toUInt32 31)).toInt32)
  | _ => k (x ^^^ y)
def swW (x : Int32) (k : Nat → Prop) (d : Nat) : List (Nat × Nat) → Prop
  | [] => k d
  | (v, t) :: cs => (x = Int32.ofNat v → k t) ∧ (¬ x = Int32.ofNat v → swW x k d cs)
def retW (ret : Nat) (v : Int32) (q : Prop) : Prop := match ret with
  | 0 => q
  | 1 => (v = 0 ∨ v = 1) ∧ q
  | _ => False
def pushW (r : Option MV) (st : List MV) : List MV := match r with
  | some v => v :: st
  | none => st
def inA (i : Int32) (n : Nat) : Prop := 0 ≤ i.toInt ∧ i.toInt < (n : Int)
def boolW (b : Bool) (q : Prop) : Prop := match b with
  | true => q
  | false => False
/-- one instruction: k goes on with the next one, j jumps, X takes a loop's head over, call calls, Q is what is wanted of the answer -/
def stepW (call : Nat → List MV → St → (Option MV → St → Prop) → Prop) (L : Nat) (xs : Nat → Int32) (ret : Nat) (Q : Option MV → St → Prop) (X : Nat → List MV → List MV → St → Prop) (k : List Ent → List MV → List MV → St → Prop) (j : Nat → List MV → List MV → St → Prop) (es : List Ent) (ls st : List MV) (s : St) : Prop :=
  match es with
  | [] => False
  | (pc, (op, a, b, d), c, cs) :: es => match op with
    | 0 => X pc (takeL ls a) st s
    | 1 => k es ls (.inl c :: st) s
    | 2 => (match getL ls a with
      | some (.inl x) => boolW (Nat.ble b 1) (k es ls (.inl x :: st) s)
      | some (.inr r) => boolW (Nat.ble 2 b) (k es ls (.inr r :: st) s)
      | none => False)
    | 3 => (match st with
      | .inl x :: st => boolW (Nat.ble b 1 && Nat.ble a ls.length) (k es (setL ls a (.inl x)) st s)
      | .inr r :: st => boolW (Nat.ble 2 b && Nat.ble a ls.length) (k es (setL ls a (.inr r)) st s)
      | [] => False)
    | 4 => (match st with
      | .inl y :: .inl x :: st => binW a x y (fun v => k es ls (.inl v :: st) s)
      | _ => False)
    | 5 => (match getL ls a with
      | some (.inl x) => k es (setL ls a (.inl (x + c))) st s
      | _ => False)
    | 6 => (match st with
      | .inl x :: st => (cmpF b x 0 → k es ls st s) ∧ (cmpT b x 0 → j a ls st s)
      | _ => False)
    | 7 => (match st with
      | .inl y :: .inl x :: st => (cmpF b x y → k es ls st s) ∧ (cmpT b x y → j a ls st s)
      | _ => False)
    | 8 => j a ls st s
    | 9 => (match st with
      | .inr (q, i) :: st => boolW (Nat.beq q b) (k es ls (fv s b i d :: st) s)
      | _ => False)
    | 10 => (match st with
      | .inl x :: .inr (q, i) :: st => boolW (Nat.beq q b) (match lk b d i with
        | none => (match Nat.beq b 2 && Nat.beq d 5 with
          | true => (x = 0 ∨ x = 1) ∧ k es ls st (putV s b i d x)
          | false => k es ls st (putV s b i d x))
        | some _ => False)
      | _ => False)
    | 11 => (match st with
      | .inl i :: .inr (q, n) :: st => (match Nat.beq q 24 with
        | true => boolW (Nat.beq a 0) (inA i L ∧ k es ls (.inl (xs i.toNatClampNeg) :: st) s)
        | false => (match akind q with
          | 0 => boolW (Nat.beq a 0) (inA i (alen q) ∧ k es ls (.inl (s.1 q n i.toNatClampNeg) :: st) s)
          | 1 => boolW (Nat.beq a 1) (inA i (alen q) ∧ k es ls (.inl (s.1 q n i.toNatClampNeg) :: st) s)
          | 2 => boolW (Nat.beq a 1) (inA i (alen q) ∧ k es ls (.inl (s.1 q n i.toNatClampNeg) :: st) s)
          | 3 => boolW (Nat.beq a 2) (inA i (alen q) ∧ k es ls (.inr (el s.2 q n i.toNatClampNeg) :: st) s)
          | _ => False))
      | _ => False)
    | 12 => (match st with
      | .inl x :: .inl i :: .inr (q, n) :: st => (match akind q with
        | 0 => boolW (Nat.beq a 0) (inA i (alen q) ∧ k es ls st (putV s q n i.toNatClampNeg x))
        | 1 => boolW (Nat.beq a 1) (inA i (alen q) ∧ (x = 0 ∨ x = 1) ∧ k es ls st (putV s q n i.toNatClampNeg x))
        | 2 => boolW (Nat.beq a 1) (inA i (alen q) ∧ x.toInt8.toInt32 = x ∧ k es ls st (putV s q n i.toNatClampNeg x))
        | _ => False)
      | .inr (w, y) :: .inl i :: .inr (q, n) :: st => boolW (Nat.beq w 2 && (Nat.beq a 2 && Nat.beq q 14)) (inA i 5 ∧ k es ls st (putP s n i.toNatClampNeg y))
      | _ => False)
    | 13 => (match cs with
      | (n, w) :: _ => (match popL n [] st with
        | some (as, st) => boolW (Nat.ble st.length 8) (match Nat.beq d 0 with
          | true => (match as with
            | .inr (q, _) :: _ => boolW (Nat.beq q w) (call b as s (fun r s => k es ls (pushW r st) s))
            | _ => False)
          | false => call b as s (fun r s => k es ls (pushW r st) s))
        | none => False)
      | [] => False)
    | 14 => (match Nat.beq a 0 with
      | true => (match st with
        | [.inl v] => retW ret v (Q (some (.inl v)) s)
        | _ => False)
      | false => (match st with
        | [] => boolW (Nat.beq ret 2) (Q none s)
        | _ => False))
    | 15 => (match st with
      | v :: st => k es ls (v :: v :: st) s
      | _ => False)
    | 16 => (match st with
      | v :: w :: st => k es ls (v :: w :: v :: w :: st) s
      | _ => False)
    | 17 => (match st with
      | .inl x :: st => k es ls (.inl x.toInt8.toInt32 :: st) s
      | _ => False)
    | 18 => (match st with
      | .inl x :: st => swW x (fun t => j t ls st s) a cs
      | _ => False)
    | 19 => (match st with
      | .inr (q, _) :: st => boolW (Nat.beq q 24) (k es ls (.inl (Int32.ofNat L) :: st) s)
      | _ => False)
    | 20 => (match st with
      | .inl y :: .inl x :: st => boolW (Nat.ble st.length 8) (k es ls (.inl (if y < x then y else x) :: st) s)
      | _ => False)
    | _ => False
/-- at most n instructions from an entry on, up to a loop's head or the end -/
def wp (call : Nat → List MV → St → (Option MV → St → Prop) → Prop) (L : Nat) (xs : Nat → Int32) (ret : Nat) (Q : Option MV → St → Prop) (X : Nat → List MV → List MV → St → Prop) (code : List Ent) : Nat → List Ent → List MV → List MV → St → Prop
  | 0 => fun _ _ _ _ => False
  | n + 1 => fun es ls st s => stepW call L xs ret Q X (wp call L xs ret Q X code n) (fun t ls st s => wp call L xs ret Q X code n (fromPc code t) ls st s) es ls st s
/-- a method's body meets Q: X holds at its start, whatever X is closed under the body's stretches -/
def bodyW (call : Nat → List MV → St → (Option MV → St → Prop) → Prop) (L : Nat) (xs : Nat → Int32) (ret : Nat) (Q : Option MV → St → Prop) (code : List Ent) (pc : Nat) (ls st : List MV) (s : St) : Prop :=
  ∀ X : Nat → List MV → List MV → St → Prop, (∀ (n pc : Nat) (ls st : List MV) (s : St), wp call L xs ret Q X code n (behind (fromPc code pc)) ls st s → X pc ls st s) → X pc ls st s
/-- method m, on these arguments and this store, with f frames of room, returns, and Q holds of its answer and its store -/
def wpM (L : Nat) (xs : Nat → Int32) (cod : Nat → List Ent) (rets : Nat → Nat) : Nat → Nat → List MV → St → (Option MV → St → Prop) → Prop
  | 0 => fun _ _ _ _ => False
  | f + 1 => fun m as s Q => ∀ call : Nat → List MV → St → (Option MV → St → Prop) → Prop, (∀ (m : Nat) (as : List MV) (s : St) (Q : Option MV → St → Prop), wpM L xs cod rets f m as s Q → call m as s Q) → bodyW call L xs (rets m) Q (cod m) 0 as [] s
end
section
/-- NameMaps$ActText.<init>()V: 10 entries; loop heads [] -/
def co_X0_init : List Ent := [(0, (2, 0, 2, 0), 0, []),
  (1, (24, 3, 999, 0), 0, []),
  (4, (2, 0, 2, 0), 0, []),
  (5, (1, 0, 1, 0), nI 80, []),
  (7, (22, 2, 0, 0), 0, []),
  (9, (10, 9, 0, 0), 0, []),
  (12, (2, 0, 2, 0), 0, []),
  (13, (1, 0, 0, 0), (-1), []),
  (14, (10, 15, 0, 3), 0, []),
  (17, (14, 1, 0, 0), 0, [])]
abbrev m_X0_init : Nat := 0
/-- NameMaps$ActText.add(I)I: 30 entries; loop heads [] -/
def co_X0_add : List Ent := [(0, (2, 1, 0, 0), 0, []),
  (1, (1, 0, 1, 0), nI 32, []),
  (3, (7, 12, 2, 0), 0, []),
  (6, (2, 1, 0, 0), 0, []),
  (7, (1, 0, 1, 0), nI 126, []),
  (9, (7, 15, 5, 0), 0, []),
  (12, (1, 0, 1, 0), (-2), []),
  (14, (14, 0, 0, 0), 0, []),
  (15, (2, 0, 2, 0), 0, []),
  (16, (9, 19, 0, 1), 0, []),
  (19, (1, 0, 1, 0), nI 80, []),
  (21, (7, 27, 2, 0), 0, []),
  (24, (1, 0, 1, 0), (-4), []),
  (26, (14, 0, 0, 0), 0, []),
  (27, (2, 0, 2, 0), 0, []),
  (28, (9, 9, 0, 0), 0, []),
  (31, (2, 0, 2, 0), 0, []),
  (32, (9, 19, 0, 1), 0, []),
  (35, (2, 1, 0, 0), 0, []),
  (36, (17, 0, 0, 0), 0, []),
  (37, (12, 1, 0, 0), 0, []),
  (38, (2, 0, 2, 0), 0, []),
  (39, (15, 0, 0, 0), 0, []),
  (40, (9, 19, 0, 1), 0, []),
  (43, (1, 0, 0, 0), nI 1, []),
  (44, (4, 0, 0, 0), 0, []),
  (45, (10, 19, 0, 1), 0, []),
  (48, (2, 0, 2, 0), 0, []),
  (49, (9, 19, 0, 1), 0, []),
  (52, (14, 0, 0, 0), 0, [])]
abbrev m_X0_add : Nat := 1
/-- NameMaps$ActText.rewind()V: 7 entries; loop heads [] -/
def co_X0_rewind : List Ent := [(0, (2, 0, 2, 0), 0, []),
  (1, (1, 0, 0, 0), nI 0, []),
  (2, (10, 22, 0, 2), 0, []),
  (5, (2, 0, 2, 0), 0, []),
  (6, (1, 0, 0, 0), (-1), []),
  (7, (10, 15, 0, 3), 0, []),
  (10, (14, 1, 0, 0), 0, [])]
abbrev m_X0_rewind : Nat := 2
/-- NameMaps$ActText.findFault()I: 16 entries; loop heads [6] -/
def co_X0_findFault : List Ent := [(0, (2, 0, 2, 0), 0, []),
  (1, (13, 25, 2, 0), 0, [(1, 0)]),
  (4, (1, 0, 0, 0), nI 0, []),
  (5, (3, 1, 0, 0), 0, []),
  (6, (0, 2, 0, 0), 0, []),
  (6, (2, 1, 0, 0), 0, []),
  (7, (1, 0, 1, 0), nI 80, []),
  (9, (7, 25, 3, 0), 0, []),
  (12, (2, 0, 2, 0), 0, []),
  (13, (13, 28, 4, 0), 0, [(1, 0)]),
  (16, (6, 25, 0, 0), 0, []),
  (19, (5, 1, 0, 0), nI 1, []),
  (22, (8, 6, 0, 0), 0, []),
  (25, (2, 0, 2, 0), 0, []),
  (26, (9, 15, 0, 3), 0, []),
  (29, (14, 0, 0, 0), 0, [])]
abbrev m_X0_findFault : Nat := 3
/-- NameMaps$ActText.readAct()Z: 63 entries; loop heads [127] -/
def co_X0_readAct : List Ent := [(0, (2, 0, 2, 0), 0, []),
  (1, (9, 15, 0, 3), 0, []),
  (4, (1, 0, 0, 0), (-1), []),
  (5, (7, 19, 1, 0), 0, []),
  (8, (2, 0, 2, 0), 0, []),
  (9, (9, 22, 0, 2), 0, []),
  (12, (2, 0, 2, 0), 0, []),
  (13, (9, 19, 0, 1), 0, []),
  (16, (7, 21, 2, 0), 0, []),
  (19, (1, 0, 0, 0), nI 0, []),
  (20, (14, 0, 0, 0), 0, []),
  (21, (2, 0, 2, 0), 0, []),
  (22, (2, 0, 2, 0), 0, []),
  (23, (13, 32, 8, 0), 0, [(1, 0)]),
  (26, (10, 36, 0, 4), 0, []),
  (29, (2, 0, 2, 0), 0, []),
  (30, (9, 36, 0, 4), 0, []),
  (33, (18, 119, 31, 0), 0, [(114, 71), (115, 64), (116, 95), (117, 71)]),
  (64, (2, 0, 2, 0), 0, []),
  (65, (13, 39, 5, 0), 0, [(1, 0)]),
  (68, (8, 127, 0, 0), 0, []),
  (71, (2, 0, 2, 0), 0, []),
  (72, (15, 0, 0, 0), 0, []),
  (73, (9, 22, 0, 2), 0, []),
  (76, (1, 0, 0, 0), nI 1, []),
  (77, (4, 0, 0, 0), 0, []),
  (78, (10, 22, 0, 2), 0, []),
  (81, (2, 0, 2, 0), 0, []),
  (82, (2, 0, 2, 0), 0, []),
  (83, (1, 0, 0, 0), nI 0, []),
  (84, (1, 0, 1, 0), nI 7, []),
  (86, (13, 42, 7, 0), 0, [(3, 0)]),
  (89, (10, 46, 0, 5), 0, []),
  (92, (8, 127, 0, 0), 0, []),
  (95, (2, 0, 2, 0), 0, []),
  (96, (15, 0, 0, 0), 0, []),
  (97, (9, 22, 0, 2), 0, []),
  (100, (1, 0, 0, 0), nI 1, []),
  (101, (4, 0, 0, 0), 0, []),
  (102, (10, 22, 0, 2), 0, []),
  (105, (2, 0, 2, 0), 0, []),
  (106, (2, 0, 2, 0), 0, []),
  (107, (1, 0, 0, 0), nI 1, []),
  (108, (1, 0, 1, 0), nI 99, []),
  (110, (13, 42, 7, 0), 0, [(3, 0)]),
  (113, (10, 46, 0, 5), 0, []),
  (116, (8, 127, 0, 0), 0, []),
  (119, (2, 0, 2, 0), 0, []),
  (120, (2, 0, 2, 0), 0, []),
  (121, (9, 22, 0, 2), 0, []),
  (124, (10, 15, 0, 3), 0, []),
  (127, (0, 1, 0, 0), 0, []),
  (127, (2, 0, 2, 0), 0, []),
  (128, (1, 0, 1, 0), nI 59, []),
  (130, (13, 49, 6, 0), 0, [(2, 0)]),
  (133, (2, 0, 2, 0), 0, []),
  (134, (9, 15, 0, 3), 0, []),
  (137, (1, 0, 0, 0), (-1), []),
  (138, (7, 145, 1, 0), 0, []),
  (141, (1, 0, 0, 0), nI 1, []),
  (142, (8, 146, 0, 0), 0, []),
  (145, (1, 0, 0, 0), nI 0, []),
  (146, (14, 0, 0, 0), 0, [])]
abbrev m_X0_readAct : Nat := 4
/-- NameMaps$ActText.readSending()V: 28 entries; loop heads [] -/
def co_X0_readSending : List Ent := [(0, (2, 0, 2, 0), 0, []),
  (1, (1, 0, 1, 0), nI 115, []),
  (3, (13, 49, 6, 0), 0, [(2, 0)]),
  (6, (2, 0, 2, 0), 0, []),
  (7, (2, 0, 2, 0), 0, []),
  (8, (1, 0, 0, 0), nI 0, []),
  (9, (1, 0, 0, 0), nI 3, []),
  (10, (13, 42, 7, 0), 0, [(3, 0)]),
  (13, (10, 46, 0, 5), 0, []),
  (16, (2, 0, 2, 0), 0, []),
  (17, (1, 0, 1, 0), nI 110, []),
  (19, (13, 49, 6, 0), 0, [(2, 0)]),
  (22, (2, 0, 2, 0), 0, []),
  (23, (2, 0, 2, 0), 0, []),
  (24, (1, 0, 0, 0), nI 0, []),
  (25, (1, 0, 2, 0), nI 255, []),
  (28, (13, 42, 7, 0), 0, [(3, 0)]),
  (31, (10, 53, 0, 6), 0, []),
  (34, (2, 0, 2, 0), 0, []),
  (35, (1, 0, 1, 0), nI 102, []),
  (37, (13, 49, 6, 0), 0, [(2, 0)]),
  (40, (2, 0, 2, 0), 0, []),
  (41, (2, 0, 2, 0), 0, []),
  (42, (1, 0, 0, 0), nI 0, []),
  (43, (1, 0, 1, 0), nI 99, []),
  (45, (13, 42, 7, 0), 0, [(3, 0)]),
  (48, (10, 56, 0, 7), 0, []),
  (51, (14, 1, 0, 0), 0, [])]
abbrev m_X0_readSending : Nat := 5
/-- NameMaps$ActText.readSign(I)V: 21 entries; loop heads [] -/
def co_X0_readSign : List Ent := [(0, (2, 0, 2, 0), 0, []),
  (1, (9, 15, 0, 3), 0, []),
  (4, (1, 0, 0, 0), (-1), []),
  (5, (7, 9, 0, 0), 0, []),
  (8, (14, 1, 0, 0), 0, []),
  (9, (2, 0, 2, 0), 0, []),
  (10, (13, 32, 8, 0), 0, [(1, 0)]),
  (13, (2, 1, 0, 0), 0, []),
  (14, (7, 30, 1, 0), 0, []),
  (17, (2, 0, 2, 0), 0, []),
  (18, (15, 0, 0, 0), 0, []),
  (19, (9, 22, 0, 2), 0, []),
  (22, (1, 0, 0, 0), nI 1, []),
  (23, (4, 0, 0, 0), 0, []),
  (24, (10, 22, 0, 2), 0, []),
  (27, (8, 38, 0, 0), 0, []),
  (30, (2, 0, 2, 0), 0, []),
  (31, (2, 0, 2, 0), 0, []),
  (32, (9, 22, 0, 2), 0, []),
  (35, (10, 15, 0, 3), 0, []),
  (38, (14, 1, 0, 0), 0, [])]
abbrev m_X0_readSign : Nat := 6
/-- NameMaps$ActText.readNumber(II)I: 61 entries; loop heads [24] -/
def co_X0_readNumber : List Ent := [(0, (2, 0, 2, 0), 0, []),
  (1, (9, 15, 0, 3), 0, []),
  (4, (1, 0, 0, 0), (-1), []),
  (5, (7, 10, 0, 0), 0, []),
  (8, (1, 0, 0, 0), nI 0, []),
  (9, (14, 0, 0, 0), 0, []),
  (10, (2, 0, 2, 0), 0, []),
  (11, (9, 22, 0, 2), 0, []),
  (14, (3, 3, 0, 0), 0, []),
  (15, (1, 0, 0, 0), nI 0, []),
  (16, (3, 4, 1, 0), 0, []),
  (18, (1, 0, 0, 0), nI 0, []),
  (19, (3, 5, 1, 0), 0, []),
  (21, (1, 0, 0, 0), nI 1, []),
  (22, (3, 6, 1, 0), 0, []),
  (24, (0, 7, 0, 0), 0, []),
  (24, (2, 6, 1, 0), 0, []),
  (26, (6, 88, 0, 0), 0, []),
  (29, (2, 5, 1, 0), 0, []),
  (31, (1, 0, 0, 0), nI 3, []),
  (32, (7, 88, 3, 0), 0, []),
  (35, (2, 0, 2, 0), 0, []),
  (36, (13, 32, 8, 0), 0, [(1, 0)]),
  (39, (13, 59, 9, 1), 0, [(1, 0)]),
  (42, (6, 88, 0, 0), 0, []),
  (45, (2, 4, 1, 0), 0, []),
  (47, (1, 0, 1, 0), nI 10, []),
  (49, (4, 2, 0, 0), 0, []),
  (50, (2, 0, 2, 0), 0, []),
  (51, (13, 32, 8, 0), 0, [(1, 0)]),
  (54, (4, 0, 0, 0), 0, []),
  (55, (1, 0, 1, 0), nI 48, []),
  (57, (4, 1, 0, 0), 0, []),
  (58, (3, 4, 1, 0), 0, []),
  (60, (5, 5, 0, 0), nI 1, []),
  (63, (2, 0, 2, 0), 0, []),
  (64, (15, 0, 0, 0), 0, []),
  (65, (9, 22, 0, 2), 0, []),
  (68, (1, 0, 0, 0), nI 1, []),
  (69, (4, 0, 0, 0), 0, []),
  (70, (10, 22, 0, 2), 0, []),
  (73, (2, 4, 1, 0), 0, []),
  (75, (6, 82, 5, 0), 0, []),
  (78, (1, 0, 0, 0), nI 1, []),
  (79, (8, 83, 0, 0), 0, []),
  (82, (1, 0, 0, 0), nI 0, []),
  (83, (3, 6, 1, 0), 0, []),
  (85, (8, 24, 0, 0), 0, []),
  (88, (2, 5, 1, 0), 0, []),
  (90, (6, 105, 0, 0), 0, []),
  (93, (2, 4, 1, 0), 0, []),
  (95, (2, 1, 0, 0), 0, []),
  (96, (7, 105, 2, 0), 0, []),
  (99, (2, 4, 1, 0), 0, []),
  (101, (2, 2, 0, 0), 0, []),
  (102, (7, 110, 5, 0), 0, []),
  (105, (2, 0, 2, 0), 0, []),
  (106, (2, 3, 0, 0), 0, []),
  (107, (10, 15, 0, 3), 0, []),
  (110, (2, 4, 1, 0), 0, []),
  (112, (14, 0, 0, 0), 0, [])]
abbrev m_X0_readNumber : Nat := 7
/-- NameMaps$ActText.byteHere()I: 23 entries; loop heads [] -/
def co_X0_byteHere : List Ent := [(0, (2, 0, 2, 0), 0, []),
  (1, (9, 22, 0, 2), 0, []),
  (4, (2, 0, 2, 0), 0, []),
  (5, (9, 19, 0, 1), 0, []),
  (8, (7, 24, 3, 0), 0, []),
  (11, (2, 0, 2, 0), 0, []),
  (12, (9, 22, 0, 2), 0, []),
  (15, (1, 0, 1, 0), nI 80, []),
  (17, (7, 24, 3, 0), 0, []),
  (20, (1, 0, 0, 0), nI 1, []),
  (21, (8, 25, 0, 0), 0, []),
  (24, (1, 0, 0, 0), nI 0, []),
  (25, (3, 1, 0, 0), 0, []),
  (26, (2, 1, 0, 0), 0, []),
  (27, (6, 42, 0, 0), 0, []),
  (30, (2, 0, 2, 0), 0, []),
  (31, (9, 9, 0, 0), 0, []),
  (34, (2, 0, 2, 0), 0, []),
  (35, (9, 22, 0, 2), 0, []),
  (38, (11, 1, 0, 0), 0, []),
  (39, (8, 43, 0, 0), 0, []),
  (42, (1, 0, 0, 0), (-1), []),
  (43, (14, 0, 0, 0), 0, [])]
abbrev m_X0_byteHere : Nat := 8
/-- NameMaps$ActText.isDigit(I)Z: 10 entries; loop heads [] -/
def co_X0_isDigit : List Ent := [(0, (2, 0, 0, 0), 0, []),
  (1, (1, 0, 1, 0), nI 48, []),
  (3, (7, 16, 2, 0), 0, []),
  (6, (2, 0, 0, 0), 0, []),
  (7, (1, 0, 1, 0), nI 57, []),
  (9, (7, 16, 4, 0), 0, []),
  (12, (1, 0, 0, 0), nI 1, []),
  (13, (8, 17, 0, 0), 0, []),
  (16, (1, 0, 0, 0), nI 0, []),
  (17, (14, 0, 0, 0), 0, [])]
abbrev m_X0_isDigit : Nat := 9
/-- NameMaps$Block.<init>()V: 3 entries; loop heads [] -/
def co_X1_init : List Ent := [(0, (2, 0, 2, 0), 0, []),
  (1, (24, 1, 999, 0), 0, []),
  (4, (14, 1, 0, 0), 0, [])]
abbrev m_X1_init : Nat := 10
/-- NameMaps$Block.become(II)V: 7 entries; loop heads [] -/
def co_X1_become : List Ent := [(0, (2, 0, 2, 0), 0, []),
  (1, (2, 1, 0, 0), 0, []),
  (2, (10, 7, 1, 0), 0, []),
  (5, (2, 0, 2, 0), 0, []),
  (6, (2, 2, 0, 0), 0, []),
  (7, (10, 13, 1, 1), 0, []),
  (10, (14, 1, 0, 0), 0, [])]
abbrev m_X1_become : Nat := 11
/-- NameMaps$Block.copyFrom(LNameMaps$Block;)V: 9 entries; loop heads [] -/
def co_X1_copyFrom : List Ent := [(0, (2, 0, 2, 0), 0, []),
  (1, (2, 1, 2, 0), 0, []),
  (2, (9, 7, 1, 0), 0, []),
  (5, (10, 7, 1, 0), 0, []),
  (8, (2, 0, 2, 0), 0, []),
  (9, (2, 1, 2, 0), 0, []),
  (10, (9, 13, 1, 1), 0, []),
  (13, (10, 13, 1, 1), 0, []),
  (16, (14, 1, 0, 0), 0, [])]
abbrev m_X1_copyFrom : Nat := 12
/-- NameMaps$Block.isAt(II)Z: 12 entries; loop heads [] -/
def co_X1_isAt : List Ent := [(0, (2, 0, 2, 0), 0, []),
  (1, (9, 7, 1, 0), 0, []),
  (4, (2, 1, 0, 0), 0, []),
  (5, (7, 20, 1, 0), 0, []),
  (8, (2, 0, 2, 0), 0, []),
  (9, (9, 13, 1, 1), 0, []),
  (12, (2, 2, 0, 0), 0, []),
  (13, (7, 20, 1, 0), 0, []),
  (16, (1, 0, 0, 0), nI 1, []),
  (17, (8, 21, 0, 0), 0, []),
  (20, (1, 0, 0, 0), nI 0, []),
  (21, (14, 0, 0, 0), 0, [])]
abbrev m_X1_isAt : Nat := 13
/-- NameMaps$Block.has(I)Z: 5 entries; loop heads [] -/
def co_X1_has : List Ent := [(0, (2, 0, 2, 0), 0, []),
  (1, (2, 1, 0, 0), 0, []),
  (2, (1, 0, 0, 0), nI 1, []),
  (3, (13, 16, 15, 0), 0, [(3, 1)]),
  (6, (14, 0, 0, 0), 0, [])]
abbrev m_X1_has : Nat := 14
/-- NameMaps$Block.holds(II)Z: 17 entries; loop heads [] -/
def co_X1_holds : List Ent := [(0, (2, 0, 2, 0), 0, []),
  (1, (9, 7, 1, 0), 0, []),
  (4, (2, 1, 0, 0), 0, []),
  (5, (7, 27, 4, 0), 0, []),
  (8, (2, 1, 0, 0), 0, []),
  (9, (2, 2, 0, 0), 0, []),
  (10, (4, 0, 0, 0), 0, []),
  (11, (2, 0, 2, 0), 0, []),
  (12, (9, 7, 1, 0), 0, []),
  (15, (2, 0, 2, 0), 0, []),
  (16, (9, 13, 1, 1), 0, []),
  (19, (4, 0, 0, 0), 0, []),
  (20, (7, 27, 4, 0), 0, []),
  (23, (1, 0, 0, 0), nI 1, []),
  (24, (8, 28, 0, 0), 0, []),
  (27, (1, 0, 0, 0), nI 0, []),
  (28, (14, 0, 0, 0), 0, [])]
abbrev m_X1_holds : Nat := 15
/-- NameMaps$Block.meets(II)Z: 17 entries; loop heads [] -/
def co_X1_meets : List Ent := [(0, (2, 0, 2, 0), 0, []),
  (1, (9, 7, 1, 0), 0, []),
  (4, (2, 1, 0, 0), 0, []),
  (5, (2, 2, 0, 0), 0, []),
  (6, (4, 0, 0, 0), 0, []),
  (7, (7, 27, 3, 0), 0, []),
  (10, (2, 1, 0, 0), 0, []),
  (11, (2, 0, 2, 0), 0, []),
  (12, (9, 7, 1, 0), 0, []),
  (15, (2, 0, 2, 0), 0, []),
  (16, (9, 13, 1, 1), 0, []),
  (19, (4, 0, 0, 0), 0, []),
  (20, (7, 27, 3, 0), 0, []),
  (23, (1, 0, 0, 0), nI 1, []),
  (24, (8, 28, 0, 0), 0, []),
  (27, (1, 0, 0, 0), nI 0, []),
  (28, (14, 0, 0, 0), 0, [])]
abbrev m_X1_meets : Nat := 16
/-- NameMaps$CacheMap.<init>()V: 13 entries; loop heads [] -/
def co_X2_init : List Ent := [(0, (2, 0, 2, 0), 0, []),
  (1, (24, 3, 999, 0), 0, []),
  (4, (2, 0, 2, 0), 0, []),
  (5, (21, 9, 1, 0), 0, []),
  (8, (15, 0, 0, 0), 0, []),
  (9, (24, 11, 10, 1), 0, [(1, 0)]),
  (12, (10, 12, 2, 0), 0, []),
  (15, (2, 0, 2, 0), 0, []),
  (16, (21, 18, 7, 0), 0, []),
  (19, (15, 0, 0, 0), 0, []),
  (20, (24, 20, 45, 1), 0, [(1, 0)]),
  (23, (10, 21, 2, 1), 0, []),
  (26, (14, 1, 0, 0), 0, [])]
abbrev m_X2_init : Nat := 17
/-- NameMaps$CacheMap.become(ILNameMaps$Site;I)V: 24 entries; loop heads [] -/
def co_X2_become : List Ent := [(0, (2, 0, 2, 0), 0, []),
  (1, (9, 12, 2, 0), 0, []),
  (4, (2, 2, 2, 0), 0, []),
  (5, (9, 25, 6, 0), 0, []),
  (8, (13, 28, 12, 0), 0, [(2, 1)]),
  (11, (2, 0, 2, 0), 0, []),
  (12, (9, 21, 2, 1), 0, []),
  (15, (2, 2, 2, 0), 0, []),
  (16, (9, 32, 6, 1), 0, []),
  (19, (13, 33, 46, 0), 0, [(2, 7)]),
  (22, (2, 0, 2, 0), 0, []),
  (23, (2, 1, 0, 0), 0, []),
  (24, (10, 36, 2, 2), 0, []),
  (27, (2, 0, 2, 0), 0, []),
  (28, (2, 2, 2, 0), 0, []),
  (29, (9, 40, 6, 3), 0, []),
  (32, (10, 43, 2, 3), 0, []),
  (35, (2, 0, 2, 0), 0, []),
  (36, (2, 3, 0, 0), 0, []),
  (37, (10, 44, 2, 4), 0, []),
  (40, (2, 0, 2, 0), 0, []),
  (41, (1, 0, 0, 0), nI 0, []),
  (42, (10, 47, 2, 5), 0, []),
  (45, (14, 1, 0, 0), 0, [])]
abbrev m_X2_become : Nat := 18
/-- NameMaps$CacheMap.copyFrom(LNameMaps$CacheMap;)V: 27 entries; loop heads [] -/
def co_X2_copyFrom : List Ent := [(0, (2, 0, 2, 0), 0, []),
  (1, (9, 12, 2, 0), 0, []),
  (4, (2, 1, 2, 0), 0, []),
  (5, (9, 12, 2, 0), 0, []),
  (8, (13, 28, 12, 0), 0, [(2, 1)]),
  (11, (2, 0, 2, 0), 0, []),
  (12, (9, 21, 2, 1), 0, []),
  (15, (2, 1, 2, 0), 0, []),
  (16, (9, 21, 2, 1), 0, []),
  (19, (13, 33, 46, 0), 0, [(2, 7)]),
  (22, (2, 0, 2, 0), 0, []),
  (23, (2, 1, 2, 0), 0, []),
  (24, (9, 36, 2, 2), 0, []),
  (27, (10, 36, 2, 2), 0, []),
  (30, (2, 0, 2, 0), 0, []),
  (31, (2, 1, 2, 0), 0, []),
  (32, (9, 43, 2, 3), 0, []),
  (35, (10, 43, 2, 3), 0, []),
  (38, (2, 0, 2, 0), 0, []),
  (39, (2, 1, 2, 0), 0, []),
  (40, (9, 44, 2, 4), 0, []),
  (43, (10, 44, 2, 4), 0, []),
  (46, (2, 0, 2, 0), 0, []),
  (47, (2, 1, 2, 0), 0, []),
  (48, (9, 47, 2, 5), 0, []),
  (51, (10, 47, 2, 5), 0, []),
  (54, (14, 1, 0, 0), 0, [])]
abbrev m_X2_copyFrom : Nat := 19
/-- NameMaps$CacheMap.isHolding(I)Z: 8 entries; loop heads [] -/
def co_X2_isHolding : List Ent := [(0, (2, 1, 0, 0), 0, []),
  (1, (2, 0, 2, 0), 0, []),
  (2, (9, 44, 2, 4), 0, []),
  (5, (7, 12, 3, 0), 0, []),
  (8, (1, 0, 0, 0), nI 1, []),
  (9, (8, 13, 0, 0), 0, []),
  (12, (1, 0, 0, 0), nI 0, []),
  (13, (14, 0, 0, 0), 0, [])]
abbrev m_X2_isHolding : Nat := 20
/-- NameMaps$CacheMap.property(II)I: 28 entries; loop heads [] -/
def co_X2_property : List Ent := [(0, (2, 1, 0, 0), 0, []),
  (1, (18, 78, 35, 0), 0, [(0, 36), (1, 41), (2, 46), (3, 51), (4, 64)]),
  (36, (2, 0, 2, 0), 0, []),
  (37, (9, 36, 2, 2), 0, []),
  (40, (14, 0, 0, 0), 0, []),
  (41, (2, 0, 2, 0), 0, []),
  (42, (9, 43, 2, 3), 0, []),
  (45, (14, 0, 0, 0), 0, []),
  (46, (2, 0, 2, 0), 0, []),
  (47, (9, 44, 2, 4), 0, []),
  (50, (14, 0, 0, 0), 0, []),
  (51, (2, 0, 2, 0), 0, []),
  (52, (9, 47, 2, 5), 0, []),
  (55, (6, 62, 0, 0), 0, []),
  (58, (1, 0, 0, 0), nI 1, []),
  (59, (8, 63, 0, 0), 0, []),
  (62, (1, 0, 0, 0), nI 0, []),
  (63, (14, 0, 0, 0), 0, []),
  (64, (2, 0, 2, 0), 0, []),
  (65, (2, 2, 0, 0), 0, []),
  (66, (13, 51, 20, 0), 0, [(2, 2)]),
  (69, (6, 76, 0, 0), 0, []),
  (72, (1, 0, 0, 0), nI 1, []),
  (73, (8, 77, 0, 0), 0, []),
  (76, (1, 0, 0, 0), nI 0, []),
  (77, (14, 0, 0, 0), 0, []),
  (78, (1, 0, 1, 0), (-2), []),
  (80, (14, 0, 0, 0), 0, [])]
abbrev m_X2_property : Nat := 21
/-- NameMaps$History.<init>()V: 22 entries; loop heads [15] -/
def co_X3_init : List Ent := [(0, (2, 0, 2, 0), 0, []),
  (1, (24, 3, 999, 0), 0, []),
  (4, (2, 0, 2, 0), 0, []),
  (5, (1, 0, 1, 0), nI 6, []),
  (7, (23, 11, 8, 0), 0, []),
  (10, (10, 13, 3, 0), 0, []),
  (13, (1, 0, 0, 0), nI 0, []),
  (14, (3, 1, 0, 0), 0, []),
  (15, (0, 2, 0, 0), 0, []),
  (15, (2, 1, 0, 0), 0, []),
  (16, (1, 0, 1, 0), nI 6, []),
  (18, (7, 40, 3, 0), 0, []),
  (21, (2, 0, 2, 0), 0, []),
  (22, (9, 13, 3, 0), 0, []),
  (25, (2, 1, 0, 0), 0, []),
  (26, (21, 11, 8, 0), 0, []),
  (29, (15, 0, 0, 0), 0, []),
  (30, (24, 17, 56, 0), 0, [(1, 0)]),
  (33, (12, 2, 0, 0), 0, []),
  (34, (5, 1, 0, 0), nI 1, []),
  (37, (8, 15, 0, 0), 0, []),
  (40, (14, 1, 0, 0), 0, [])]
abbrev m_X3_init : Nat := 22
/-- NameMaps$History.row(I)I: 7 entries; loop heads [] -/
def co_X3_row : List Ent := [(0, (2, 0, 2, 0), 0, []),
  (1, (9, 18, 3, 1), 0, []),
  (4, (2, 1, 0, 0), 0, []),
  (5, (4, 0, 0, 0), 0, []),
  (6, (1, 0, 1, 0), nI 6, []),
  (8, (13, 22, 213, 3), 0, [(2, 26)]),
  (11, (14, 0, 0, 0), 0, [])]
abbrev m_X3_row : Nat := 23
/-- NameMaps$History.draft(LNameMaps$World;)V: 10 entries; loop heads [] -/
def co_X3_draft : List Ent := [(0, (2, 0, 2, 0), 0, []),
  (1, (9, 13, 3, 0), 0, []),
  (4, (2, 0, 2, 0), 0, []),
  (5, (2, 0, 2, 0), 0, []),
  (6, (9, 28, 3, 2), 0, []),
  (9, (13, 31, 23, 0), 0, [(2, 3)]),
  (12, (11, 2, 0, 0), 0, []),
  (13, (2, 1, 2, 0), 0, []),
  (14, (13, 35, 57, 0), 0, [(2, 8)]),
  (17, (14, 1, 0, 0), 0, [])]
abbrev m_X3_draft : Nat := 24
/-- NameMaps$History.keepDraft()V: 17 entries; loop heads [] -/
def co_X3_keepDraft : List Ent := [(0, (2, 0, 2, 0), 0, []),
  (1, (9, 28, 3, 2), 0, []),
  (4, (1, 0, 0, 0), nI 5, []),
  (5, (7, 21, 3, 0), 0, []),
  (8, (2, 0, 2, 0), 0, []),
  (9, (15, 0, 0, 0), 0, []),
  (10, (9, 28, 3, 2), 0, []),
  (13, (1, 0, 0, 0), nI 1, []),
  (14, (4, 0, 0, 0), 0, []),
  (15, (10, 28, 3, 2), 0, []),
  (18, (8, 30, 0, 0), 0, []),
  (21, (2, 0, 2, 0), 0, []),
  (22, (2, 0, 2, 0), 0, []),
  (23, (1, 0, 0, 0), nI 1, []),
  (24, (13, 31, 23, 0), 0, [(2, 3)]),
  (27, (10, 18, 3, 1), 0, []),
  (30, (14, 1, 0, 0), 0, [])]
abbrev m_X3_keepDraft : Nat := 25
/-- NameMaps$History.takeLatest(LNameMaps$World;)V: 19 entries; loop heads [] -/
def co_X3_takeLatest : List Ent := [(0, (2, 0, 2, 0), 0, []),
  (1, (9, 28, 3, 2), 0, []),
  (4, (6, 34, 5, 0), 0, []),
  (7, (2, 0, 2, 0), 0, []),
  (8, (15, 0, 0, 0), 0, []),
  (9, (9, 28, 3, 2), 0, []),
  (12, (1, 0, 0, 0), nI 1, []),
  (13, (4, 1, 0, 0), 0, []),
  (14, (10, 28, 3, 2), 0, []),
  (17, (2, 1, 2, 0), 0, []),
  (18, (2, 0, 2, 0), 0, []),
  (19, (9, 13, 3, 0), 0, []),
  (22, (2, 0, 2, 0), 0, []),
  (23, (2, 0, 2, 0), 0, []),
  (24, (9, 28, 3, 2), 0, []),
  (27, (13, 31, 23, 0), 0, [(2, 3)]),
  (30, (11, 2, 0, 0), 0, []),
  (31, (13, 35, 57, 0), 0, [(2, 8)]),
  (34, (14, 1, 0, 0), 0, [])]
abbrev m_X3_takeLatest : Nat := 26
/-- NameMaps$Router.<init>()V: 22 entries; loop heads [14] -/
def co_X4_init : List Ent := [(0, (2, 0, 2, 0), 0, []),
  (1, (24, 3, 999, 0), 0, []),
  (4, (2, 0, 2, 0), 0, []),
  (5, (1, 0, 0, 0), nI 5, []),
  (6, (23, 9, 2, 0), 0, []),
  (9, (10, 11, 4, 0), 0, []),
  (12, (1, 0, 0, 0), nI 0, []),
  (13, (3, 1, 0, 0), 0, []),
  (14, (0, 2, 0, 0), 0, []),
  (14, (2, 1, 0, 0), 0, []),
  (15, (1, 0, 0, 0), nI 5, []),
  (16, (7, 38, 3, 0), 0, []),
  (19, (2, 0, 2, 0), 0, []),
  (20, (9, 11, 4, 0), 0, []),
  (23, (2, 1, 0, 0), 0, []),
  (24, (21, 9, 2, 0), 0, []),
  (27, (15, 0, 0, 0), 0, []),
  (28, (24, 17, 17, 1), 0, [(1, 0)]),
  (31, (12, 2, 0, 0), 0, []),
  (32, (5, 1, 0, 0), nI 1, []),
  (35, (8, 14, 0, 0), 0, []),
  (38, (14, 1, 0, 0), 0, [])]
abbrev m_X4_init : Nat := 27
/-- NameMaps$Router.start()V: 19 entries; loop heads [] -/
def co_X4_start : List Ent := [(0, (2, 0, 2, 0), 0, []),
  (1, (1, 0, 0, 0), nI 0, []),
  (2, (10, 18, 4, 1), 0, []),
  (5, (2, 0, 2, 0), 0, []),
  (6, (1, 0, 0, 0), nI 0, []),
  (7, (10, 22, 4, 2), 0, []),
  (10, (2, 0, 2, 0), 0, []),
  (11, (1, 0, 0, 0), nI 0, []),
  (12, (10, 25, 4, 3), 0, []),
  (15, (2, 0, 2, 0), 0, []),
  (16, (1, 0, 0, 0), nI 0, []),
  (17, (10, 28, 4, 4), 0, []),
  (20, (2, 0, 2, 0), 0, []),
  (21, (1, 0, 0, 0), nI 0, []),
  (22, (10, 31, 4, 5), 0, []),
  (25, (2, 0, 2, 0), 0, []),
  (26, (1, 0, 0, 0), nI 0, []),
  (27, (10, 34, 4, 6), 0, []),
  (30, (14, 1, 0, 0), 0, [])]
abbrev m_X4_start : Nat := 28
/-- NameMaps$Router.copyFrom(LNameMaps$Router;)V: 43 entries; loop heads [10] -/
def co_X4_copyFrom : List Ent := [(0, (2, 0, 2, 0), 0, []),
  (1, (2, 1, 2, 0), 0, []),
  (2, (9, 18, 4, 1), 0, []),
  (5, (10, 18, 4, 1), 0, []),
  (8, (1, 0, 0, 0), nI 0, []),
  (9, (3, 2, 0, 0), 0, []),
  (10, (0, 3, 0, 0), 0, []),
  (10, (2, 2, 0, 0), 0, []),
  (11, (2, 0, 2, 0), 0, []),
  (12, (9, 18, 4, 1), 0, []),
  (15, (7, 39, 3, 0), 0, []),
  (18, (2, 0, 2, 0), 0, []),
  (19, (9, 11, 4, 0), 0, []),
  (22, (2, 2, 0, 0), 0, []),
  (23, (11, 2, 0, 0), 0, []),
  (24, (2, 1, 2, 0), 0, []),
  (25, (9, 11, 4, 0), 0, []),
  (28, (2, 2, 0, 0), 0, []),
  (29, (11, 2, 0, 0), 0, []),
  (30, (13, 37, 19, 0), 0, [(2, 2)]),
  (33, (5, 2, 0, 0), nI 1, []),
  (36, (8, 10, 0, 0), 0, []),
  (39, (2, 0, 2, 0), 0, []),
  (40, (2, 1, 2, 0), 0, []),
  (41, (9, 22, 4, 2), 0, []),
  (44, (10, 22, 4, 2), 0, []),
  (47, (2, 0, 2, 0), 0, []),
  (48, (2, 1, 2, 0), 0, []),
  (49, (9, 25, 4, 3), 0, []),
  (52, (10, 25, 4, 3), 0, []),
  (55, (2, 0, 2, 0), 0, []),
  (56, (2, 1, 2, 0), 0, []),
  (57, (9, 28, 4, 4), 0, []),
  (60, (10, 28, 4, 4), 0, []),
  (63, (2, 0, 2, 0), 0, []),
  (64, (2, 1, 2, 0), 0, []),
  (65, (9, 31, 4, 5), 0, []),
  (68, (10, 31, 4, 5), 0, []),
  (71, (2, 0, 2, 0), 0, []),
  (72, (2, 1, 2, 0), 0, []),
  (73, (9, 34, 4, 6), 0, []),
  (76, (10, 34, 4, 6), 0, []),
  (79, (14, 1, 0, 0), 0, [])]
abbrev m_X4_copyFrom : Nat := 29
/-- NameMaps$Router.isPlace(I)Z: 13 entries; loop heads [] -/
def co_X4_isPlace : List Ent := [(0, (2, 1, 0, 0), 0, []),
  (1, (6, 21, 2, 0), 0, []),
  (4, (2, 1, 0, 0), 0, []),
  (5, (2, 0, 2, 0), 0, []),
  (6, (9, 18, 4, 1), 0, []),
  (9, (7, 21, 3, 0), 0, []),
  (12, (2, 1, 0, 0), 0, []),
  (13, (1, 0, 0, 0), nI 5, []),
  (14, (7, 21, 3, 0), 0, []),
  (17, (1, 0, 0, 0), nI 1, []),
  (18, (8, 22, 0, 0), 0, []),
  (21, (1, 0, 0, 0), nI 0, []),
  (22, (14, 0, 0, 0), 0, [])]
abbrev m_X4_isPlace : Nat := 30
/-- NameMaps$Router.property(I)I: 22 entries; loop heads [] -/
def co_X4_property : List Ent := [(0, (2, 1, 0, 0), 0, []),
  (1, (18, 70, 39, 0), 0, [(0, 40), (1, 45), (2, 50), (3, 55), (4, 60), (5, 65)]),
  (40, (2, 0, 2, 0), 0, []),
  (41, (9, 18, 4, 1), 0, []),
  (44, (14, 0, 0, 0), 0, []),
  (45, (2, 0, 2, 0), 0, []),
  (46, (9, 22, 4, 2), 0, []),
  (49, (14, 0, 0, 0), 0, []),
  (50, (2, 0, 2, 0), 0, []),
  (51, (9, 25, 4, 3), 0, []),
  (54, (14, 0, 0, 0), 0, []),
  (55, (2, 0, 2, 0), 0, []),
  (56, (9, 28, 4, 4), 0, []),
  (59, (14, 0, 0, 0), 0, []),
  (60, (2, 0, 2, 0), 0, []),
  (61, (9, 31, 4, 5), 0, []),
  (64, (14, 0, 0, 0), 0, []),
  (65, (2, 0, 2, 0), 0, []),
  (66, (9, 34, 4, 6), 0, []),
  (69, (14, 0, 0, 0), 0, []),
  (70, (1, 0, 1, 0), (-2), []),
  (72, (14, 0, 0, 0), 0, [])]
abbrev m_X4_property : Nat := 31
/-- NameMaps$Router.moveToFront(I)V: 33 entries; loop heads [18] -/
def co_X4_moveToFront : List Ent := [(0, (2, 0, 2, 0), 0, []),
  (1, (2, 1, 0, 0), 0, []),
  (2, (13, 41, 30, 0), 0, [(2, 4)]),
  (5, (6, 9, 1, 0), 0, []),
  (8, (14, 1, 0, 0), 0, []),
  (9, (2, 0, 2, 0), 0, []),
  (10, (9, 11, 4, 0), 0, []),
  (13, (2, 1, 0, 0), 0, []),
  (14, (11, 2, 0, 0), 0, []),
  (15, (3, 2, 2, 0), 0, []),
  (16, (2, 1, 0, 0), 0, []),
  (17, (3, 3, 0, 0), 0, []),
  (18, (0, 4, 0, 0), 0, []),
  (18, (2, 3, 0, 0), 0, []),
  (19, (6, 42, 5, 0), 0, []),
  (22, (2, 0, 2, 0), 0, []),
  (23, (9, 11, 4, 0), 0, []),
  (26, (2, 3, 0, 0), 0, []),
  (27, (2, 0, 2, 0), 0, []),
  (28, (9, 11, 4, 0), 0, []),
  (31, (2, 3, 0, 0), 0, []),
  (32, (1, 0, 0, 0), nI 1, []),
  (33, (4, 1, 0, 0), 0, []),
  (34, (11, 2, 0, 0), 0, []),
  (35, (12, 2, 0, 0), 0, []),
  (36, (5, 3, 0, 0), (-1), []),
  (39, (8, 18, 0, 0), 0, []),
  (42, (2, 0, 2, 0), 0, []),
  (43, (9, 11, 4, 0), 0, []),
  (46, (1, 0, 0, 0), nI 0, []),
  (47, (2, 2, 2, 0), 0, []),
  (48, (12, 2, 0, 0), 0, []),
  (49, (14, 1, 0, 0), 0, [])]
abbrev m_X4_moveToFront : Nat := 32
/-- NameMaps$Router.drop(I)V: 44 entries; loop heads [18] -/
def co_X4_drop : List Ent := [(0, (2, 0, 2, 0), 0, []),
  (1, (2, 1, 0, 0), 0, []),
  (2, (13, 41, 30, 0), 0, [(2, 4)]),
  (5, (6, 9, 1, 0), 0, []),
  (8, (14, 1, 0, 0), 0, []),
  (9, (2, 0, 2, 0), 0, []),
  (10, (9, 11, 4, 0), 0, []),
  (13, (2, 1, 0, 0), 0, []),
  (14, (11, 2, 0, 0), 0, []),
  (15, (3, 2, 2, 0), 0, []),
  (16, (2, 1, 0, 0), 0, []),
  (17, (3, 3, 0, 0), 0, []),
  (18, (0, 4, 0, 0), 0, []),
  (18, (2, 3, 0, 0), 0, []),
  (19, (2, 0, 2, 0), 0, []),
  (20, (9, 18, 4, 1), 0, []),
  (23, (1, 0, 0, 0), nI 1, []),
  (24, (4, 1, 0, 0), 0, []),
  (25, (7, 48, 3, 0), 0, []),
  (28, (2, 0, 2, 0), 0, []),
  (29, (9, 11, 4, 0), 0, []),
  (32, (2, 3, 0, 0), 0, []),
  (33, (2, 0, 2, 0), 0, []),
  (34, (9, 11, 4, 0), 0, []),
  (37, (2, 3, 0, 0), 0, []),
  (38, (1, 0, 0, 0), nI 1, []),
  (39, (4, 0, 0, 0), 0, []),
  (40, (11, 2, 0, 0), 0, []),
  (41, (12, 2, 0, 0), 0, []),
  (42, (5, 3, 0, 0), nI 1, []),
  (45, (8, 18, 0, 0), 0, []),
  (48, (2, 0, 2, 0), 0, []),
  (49, (15, 0, 0, 0), 0, []),
  (50, (9, 18, 4, 1), 0, []),
  (53, (1, 0, 0, 0), nI 1, []),
  (54, (4, 1, 0, 0), 0, []),
  (55, (10, 18, 4, 1), 0, []),
  (58, (2, 0, 2, 0), 0, []),
  (59, (9, 11, 4, 0), 0, []),
  (62, (2, 0, 2, 0), 0, []),
  (63, (9, 18, 4, 1), 0, []),
  (66, (2, 2, 2, 0), 0, []),
  (67, (12, 2, 0, 0), 0, []),
  (68, (14, 1, 0, 0), 0, [])]
abbrev m_X4_drop : Nat := 33
/-- NameMaps$Router.dropEnded(I)V: 22 entries; loop heads [2] -/
def co_X4_dropEnded : List Ent := [(0, (1, 0, 0, 0), nI 4, []),
  (1, (3, 2, 0, 0), 0, []),
  (2, (0, 3, 0, 0), 0, []),
  (2, (2, 2, 0, 0), 0, []),
  (3, (6, 38, 2, 0), 0, []),
  (6, (2, 0, 2, 0), 0, []),
  (7, (2, 2, 0, 0), 0, []),
  (8, (13, 41, 30, 0), 0, [(2, 4)]),
  (11, (6, 32, 0, 0), 0, []),
  (14, (2, 0, 2, 0), 0, []),
  (15, (9, 11, 4, 0), 0, []),
  (18, (2, 2, 0, 0), 0, []),
  (19, (11, 2, 0, 0), 0, []),
  (20, (2, 1, 0, 0), 0, []),
  (21, (13, 45, 20, 0), 0, [(2, 2)]),
  (24, (6, 32, 1, 0), 0, []),
  (27, (2, 0, 2, 0), 0, []),
  (28, (2, 2, 0, 0), 0, []),
  (29, (13, 48, 33, 0), 0, [(2, 4)]),
  (32, (5, 2, 0, 0), (-1), []),
  (35, (8, 2, 0, 0), 0, []),
  (38, (14, 1, 0, 0), 0, [])]
abbrev m_X4_dropEnded : Nat := 34
/-- NameMaps$Router.placeOfSite(I)I: 20 entries; loop heads [2] -/
def co_X4_placeOfSite : List Ent := [(0, (1, 0, 0, 0), nI 0, []),
  (1, (3, 2, 0, 0), 0, []),
  (2, (0, 3, 0, 0), 0, []),
  (2, (2, 2, 0, 0), 0, []),
  (3, (2, 0, 2, 0), 0, []),
  (4, (9, 18, 4, 1), 0, []),
  (7, (7, 31, 3, 0), 0, []),
  (10, (2, 0, 2, 0), 0, []),
  (11, (9, 11, 4, 0), 0, []),
  (14, (2, 2, 0, 0), 0, []),
  (15, (11, 2, 0, 0), 0, []),
  (16, (9, 52, 2, 2), 0, []),
  (19, (2, 1, 0, 0), 0, []),
  (20, (7, 25, 1, 0), 0, []),
  (23, (2, 2, 0, 0), 0, []),
  (24, (14, 0, 0, 0), 0, []),
  (25, (5, 2, 0, 0), nI 1, []),
  (28, (8, 2, 0, 0), 0, []),
  (31, (1, 0, 0, 0), (-1), []),
  (32, (14, 0, 0, 0), 0, [])]
abbrev m_X4_placeOfSite : Nat := 35
/-- NameMaps$Router.placeOfSmallest(I)I: 34 entries; loop heads [9] -/
def co_X4_placeOfSmallest : List Ent := [(0, (1, 0, 0, 0), (-1), []),
  (1, (3, 2, 0, 0), 0, []),
  (2, (1, 0, 2, 0), nI 257, []),
  (5, (3, 3, 0, 0), 0, []),
  (6, (1, 0, 0, 0), nI 0, []),
  (7, (3, 4, 1, 0), 0, []),
  (9, (0, 5, 0, 0), 0, []),
  (9, (2, 4, 1, 0), 0, []),
  (11, (2, 0, 2, 0), 0, []),
  (12, (9, 18, 4, 1), 0, []),
  (15, (7, 63, 3, 0), 0, []),
  (18, (2, 0, 2, 0), 0, []),
  (19, (9, 11, 4, 0), 0, []),
  (22, (2, 4, 1, 0), 0, []),
  (24, (11, 2, 0, 0), 0, []),
  (25, (9, 55, 2, 0), 0, []),
  (28, (3, 5, 3, 0), 0, []),
  (30, (2, 5, 3, 0), 0, []),
  (32, (2, 1, 0, 0), 0, []),
  (33, (13, 59, 14, 0), 0, [(2, 1)]),
  (36, (6, 57, 0, 0), 0, []),
  (39, (2, 5, 3, 0), 0, []),
  (41, (9, 64, 1, 1), 0, []),
  (44, (2, 3, 0, 0), 0, []),
  (45, (7, 57, 3, 0), 0, []),
  (48, (2, 4, 1, 0), 0, []),
  (50, (3, 2, 0, 0), 0, []),
  (51, (2, 5, 3, 0), 0, []),
  (53, (9, 64, 1, 1), 0, []),
  (56, (3, 3, 0, 0), 0, []),
  (57, (5, 4, 0, 0), nI 1, []),
  (60, (8, 9, 0, 0), 0, []),
  (63, (2, 2, 0, 0), 0, []),
  (64, (14, 0, 0, 0), 0, [])]
abbrev m_X4_placeOfSmallest : Nat := 36
/-- NameMaps$Router.addMap(ILNameMaps$Site;I)V: 34 entries; loop heads [] -/
def co_X4_addMap : List Ent := [(0, (2, 0, 2, 0), 0, []),
  (1, (2, 0, 2, 0), 0, []),
  (2, (2, 1, 0, 0), 0, []),
  (3, (13, 67, 35, 0), 0, [(2, 4)]),
  (6, (13, 48, 33, 0), 0, [(2, 4)]),
  (9, (2, 0, 2, 0), 0, []),
  (10, (9, 18, 4, 1), 0, []),
  (13, (1, 0, 0, 0), nI 5, []),
  (14, (7, 22, 2, 0), 0, []),
  (17, (2, 0, 2, 0), 0, []),
  (18, (1, 0, 0, 0), nI 4, []),
  (19, (13, 48, 33, 0), 0, [(2, 4)]),
  (22, (2, 0, 2, 0), 0, []),
  (23, (9, 11, 4, 0), 0, []),
  (26, (2, 0, 2, 0), 0, []),
  (27, (9, 18, 4, 1), 0, []),
  (30, (11, 2, 0, 0), 0, []),
  (31, (2, 1, 0, 0), 0, []),
  (32, (2, 2, 2, 0), 0, []),
  (33, (2, 3, 0, 0), 0, []),
  (34, (13, 71, 18, 0), 0, [(4, 2)]),
  (37, (2, 0, 2, 0), 0, []),
  (38, (15, 0, 0, 0), 0, []),
  (39, (9, 18, 4, 1), 0, []),
  (42, (1, 0, 0, 0), nI 1, []),
  (43, (4, 0, 0, 0), 0, []),
  (44, (10, 18, 4, 1), 0, []),
  (47, (2, 0, 2, 0), 0, []),
  (48, (2, 0, 2, 0), 0, []),
  (49, (9, 18, 4, 1), 0, []),
  (52, (1, 0, 0, 0), nI 1, []),
  (53, (4, 1, 0, 0), 0, []),
  (54, (13, 75, 32, 0), 0, [(2, 4)]),
  (57, (14, 1, 0, 0), 0, [])]
abbrev m_X4_addMap : Nat := 37
/-- NameMaps$Server.<init>()V: 11 entries; loop heads [] -/
def co_X5_init : List Ent := [(0, (2, 0, 2, 0), 0, []),
  (1, (24, 3, 999, 0), 0, []),
  (4, (2, 0, 2, 0), 0, []),
  (5, (21, 9, 1, 0), 0, []),
  (8, (15, 0, 0, 0), 0, []),
  (9, (24, 11, 10, 1), 0, [(1, 0)]),
  (12, (10, 12, 5, 0), 0, []),
  (15, (2, 0, 2, 0), 0, []),
  (16, (1, 0, 1, 0), (-5), []),
  (18, (10, 18, 5, 1), 0, []),
  (21, (14, 1, 0, 0), 0, [])]
abbrev m_X5_init : Nat := 38
/-- NameMaps$Server.copyFrom(LNameMaps$Server;)V: 10 entries; loop heads [] -/
def co_X5_copyFrom : List Ent := [(0, (2, 0, 2, 0), 0, []),
  (1, (9, 12, 5, 0), 0, []),
  (4, (2, 1, 2, 0), 0, []),
  (5, (9, 12, 5, 0), 0, []),
  (8, (13, 22, 12, 0), 0, [(2, 1)]),
  (11, (2, 0, 2, 0), 0, []),
  (12, (2, 1, 2, 0), 0, []),
  (13, (9, 18, 5, 1), 0, []),
  (16, (10, 18, 5, 1), 0, []),
  (19, (14, 1, 0, 0), 0, [])]
abbrev m_X5_copyFrom : Nat := 39
/-- NameMaps$Site.<init>()V: 13 entries; loop heads [] -/
def co_X6_init : List Ent := [(0, (2, 0, 2, 0), 0, []),
  (1, (24, 3, 999, 0), 0, []),
  (4, (2, 0, 2, 0), 0, []),
  (5, (21, 9, 1, 0), 0, []),
  (8, (15, 0, 0, 0), 0, []),
  (9, (24, 11, 10, 1), 0, [(1, 0)]),
  (12, (10, 12, 6, 0), 0, []),
  (15, (2, 0, 2, 0), 0, []),
  (16, (21, 18, 7, 0), 0, []),
  (19, (15, 0, 0, 0), 0, []),
  (20, (24, 20, 45, 1), 0, [(1, 0)]),
  (23, (10, 21, 6, 1), 0, []),
  (26, (14, 1, 0, 0), 0, [])]
abbrev m_X6_init : Nat := 40
/-- NameMaps$Site.start(III)V: 30 entries; loop heads [27] -/
def co_X6_start : List Ent := [(0, (2, 0, 2, 0), 0, []),
  (1, (9, 12, 6, 0), 0, []),
  (4, (2, 1, 0, 0), 0, []),
  (5, (2, 2, 0, 0), 0, []),
  (6, (13, 25, 11, 0), 0, [(3, 1)]),
  (9, (2, 0, 2, 0), 0, []),
  (10, (2, 3, 0, 0), 0, []),
  (11, (10, 29, 6, 2), 0, []),
  (14, (2, 0, 2, 0), 0, []),
  (15, (1, 0, 0, 0), nI 1, []),
  (16, (10, 33, 6, 3), 0, []),
  (19, (2, 0, 2, 0), 0, []),
  (20, (1, 0, 0, 0), nI 0, []),
  (21, (10, 36, 6, 4), 0, []),
  (24, (1, 0, 0, 0), nI 0, []),
  (25, (3, 4, 1, 0), 0, []),
  (27, (0, 5, 0, 0), 0, []),
  (27, (2, 4, 1, 0), 0, []),
  (29, (1, 0, 0, 0), nI 3, []),
  (30, (7, 51, 3, 0), 0, []),
  (33, (2, 0, 2, 0), 0, []),
  (34, (9, 21, 6, 1), 0, []),
  (37, (2, 4, 1, 0), 0, []),
  (39, (1, 0, 0, 0), nI 0, []),
  (40, (1, 0, 0, 0), nI 0, []),
  (41, (1, 0, 0, 0), nI 0, []),
  (42, (13, 39, 47, 0), 0, [(5, 7)]),
  (45, (5, 4, 0, 0), nI 1, []),
  (48, (8, 27, 0, 0), 0, []),
  (51, (14, 1, 0, 0), 0, [])]
abbrev m_X6_start : Nat := 41
/-- NameMaps$Site.copyFrom(LNameMaps$Site;)V: 23 entries; loop heads [] -/
def co_X6_copyFrom : List Ent := [(0, (2, 0, 2, 0), 0, []),
  (1, (9, 12, 6, 0), 0, []),
  (4, (2, 1, 2, 0), 0, []),
  (5, (9, 12, 6, 0), 0, []),
  (8, (13, 43, 12, 0), 0, [(2, 1)]),
  (11, (2, 0, 2, 0), 0, []),
  (12, (9, 21, 6, 1), 0, []),
  (15, (2, 1, 2, 0), 0, []),
  (16, (9, 21, 6, 1), 0, []),
  (19, (13, 47, 46, 0), 0, [(2, 7)]),
  (22, (2, 0, 2, 0), 0, []),
  (23, (2, 1, 2, 0), 0, []),
  (24, (9, 29, 6, 2), 0, []),
  (27, (10, 29, 6, 2), 0, []),
  (30, (2, 0, 2, 0), 0, []),
  (31, (2, 1, 2, 0), 0, []),
  (32, (9, 33, 6, 3), 0, []),
  (35, (10, 33, 6, 3), 0, []),
  (38, (2, 0, 2, 0), 0, []),
  (39, (2, 1, 2, 0), 0, []),
  (40, (9, 36, 6, 4), 0, []),
  (43, (10, 36, 6, 4), 0, []),
  (46, (14, 1, 0, 0), 0, [])]
abbrev m_X6_copyFrom : Nat := 42
/-- NameMaps$Site.isRegistered(I)Z: 8 entries; loop heads [] -/
def co_X6_isRegistered : List Ent := [(0, (2, 1, 0, 0), 0, []),
  (1, (2, 0, 2, 0), 0, []),
  (2, (9, 36, 6, 4), 0, []),
  (5, (7, 12, 3, 0), 0, []),
  (8, (1, 0, 0, 0), nI 1, []),
  (9, (8, 13, 0, 0), 0, []),
  (12, (1, 0, 0, 0), nI 0, []),
  (13, (14, 0, 0, 0), 0, [])]
abbrev m_X6_isRegistered : Nat := 43
/-- NameMaps$Site.isUp(I)Z: 12 entries; loop heads [] -/
def co_X6_isUp : List Ent := [(0, (2, 0, 2, 0), 0, []),
  (1, (2, 1, 0, 0), 0, []),
  (2, (13, 50, 43, 0), 0, [(2, 6)]),
  (5, (6, 22, 0, 0), 0, []),
  (8, (2, 0, 2, 0), 0, []),
  (9, (9, 21, 6, 1), 0, []),
  (12, (13, 54, 50, 0), 0, [(1, 7)]),
  (15, (6, 22, 1, 0), 0, []),
  (18, (1, 0, 0, 0), nI 1, []),
  (19, (8, 23, 0, 0), 0, []),
  (22, (1, 0, 0, 0), nI 0, []),
  (23, (14, 0, 0, 0), 0, [])]
abbrev m_X6_isUp : Nat := 44
/-- NameMaps$Slots.<init>()V: 7 entries; loop heads [] -/
def co_X7_init : List Ent := [(0, (2, 0, 2, 0), 0, []),
  (1, (24, 3, 999, 0), 0, []),
  (4, (2, 0, 2, 0), 0, []),
  (5, (1, 0, 1, 0), nI 9, []),
  (7, (22, 0, 0, 0), 0, []),
  (9, (10, 11, 7, 0), 0, []),
  (12, (14, 1, 0, 0), 0, [])]
abbrev m_X7_init : Nat := 45
/-- NameMaps$Slots.copyFrom(LNameMaps$Slots;)V: 17 entries; loop heads [2] -/
def co_X7_copyFrom : List Ent := [(0, (1, 0, 0, 0), nI 0, []),
  (1, (3, 2, 0, 0), 0, []),
  (2, (0, 3, 0, 0), 0, []),
  (2, (2, 2, 0, 0), 0, []),
  (3, (1, 0, 1, 0), nI 9, []),
  (5, (7, 26, 3, 0), 0, []),
  (8, (2, 0, 2, 0), 0, []),
  (9, (9, 11, 7, 0), 0, []),
  (12, (2, 2, 0, 0), 0, []),
  (13, (2, 1, 2, 0), 0, []),
  (14, (9, 11, 7, 0), 0, []),
  (17, (2, 2, 0, 0), 0, []),
  (18, (11, 0, 0, 0), 0, []),
  (19, (12, 0, 0, 0), 0, []),
  (20, (5, 2, 0, 0), nI 1, []),
  (23, (8, 2, 0, 0), 0, []),
  (26, (14, 1, 0, 0), 0, [])]
abbrev m_X7_copyFrom : Nat := 46
/-- NameMaps$Slots.fill(IIII)V: 32 entries; loop heads [] -/
def co_X7_fill : List Ent := [(0, (2, 1, 0, 0), 0, []),
  (1, (13, 15, 124, 2), 0, [(1, 9)]),
  (4, (6, 8, 1, 0), 0, []),
  (7, (14, 1, 0, 0), 0, []),
  (8, (2, 0, 2, 0), 0, []),
  (9, (9, 11, 7, 0), 0, []),
  (12, (2, 1, 0, 0), 0, []),
  (13, (1, 0, 0, 0), nI 3, []),
  (14, (4, 2, 0, 0), 0, []),
  (15, (1, 0, 0, 0), nI 0, []),
  (16, (4, 0, 0, 0), 0, []),
  (17, (2, 2, 0, 0), 0, []),
  (18, (12, 0, 0, 0), 0, []),
  (19, (2, 0, 2, 0), 0, []),
  (20, (9, 11, 7, 0), 0, []),
  (23, (2, 1, 0, 0), 0, []),
  (24, (1, 0, 0, 0), nI 3, []),
  (25, (4, 2, 0, 0), 0, []),
  (26, (1, 0, 0, 0), nI 1, []),
  (27, (4, 0, 0, 0), 0, []),
  (28, (2, 3, 0, 0), 0, []),
  (29, (12, 0, 0, 0), 0, []),
  (30, (2, 0, 2, 0), 0, []),
  (31, (9, 11, 7, 0), 0, []),
  (34, (2, 1, 0, 0), 0, []),
  (35, (1, 0, 0, 0), nI 3, []),
  (36, (4, 2, 0, 0), 0, []),
  (37, (1, 0, 0, 0), nI 2, []),
  (38, (4, 0, 0, 0), 0, []),
  (39, (2, 4, 1, 0), 0, []),
  (41, (12, 0, 0, 0), 0, []),
  (42, (14, 1, 0, 0), 0, [])]
abbrev m_X7_fill : Nat := 47
/-- NameMaps$Slots.propertyOf(II)I: 22 entries; loop heads [] -/
def co_X7_propertyOf : List Ent := [(0, (2, 2, 0, 0), 0, []),
  (1, (6, 9, 2, 0), 0, []),
  (4, (2, 2, 0, 0), 0, []),
  (5, (1, 0, 0, 0), nI 3, []),
  (6, (7, 12, 2, 0), 0, []),
  (9, (1, 0, 1, 0), (-2), []),
  (11, (14, 0, 0, 0), 0, []),
  (12, (2, 0, 2, 0), 0, []),
  (13, (2, 1, 0, 0), 0, []),
  (14, (13, 19, 49, 0), 0, [(2, 7)]),
  (17, (6, 25, 0, 0), 0, []),
  (20, (1, 0, 1, 0), (-5), []),
  (22, (8, 35, 0, 0), 0, []),
  (25, (2, 0, 2, 0), 0, []),
  (26, (9, 11, 7, 0), 0, []),
  (29, (2, 1, 0, 0), 0, []),
  (30, (1, 0, 0, 0), nI 3, []),
  (31, (4, 2, 0, 0), 0, []),
  (32, (2, 2, 0, 0), 0, []),
  (33, (4, 0, 0, 0), 0, []),
  (34, (11, 0, 0, 0), 0, []),
  (35, (14, 0, 0, 0), 0, [])]
abbrev m_X7_propertyOf : Nat := 48
/-- NameMaps$Slots.isEmpty(I)Z: 18 entries; loop heads [] -/
def co_X7_isEmpty : List Ent := [(0, (2, 1, 0, 0), 0, []),
  (1, (6, 22, 2, 0), 0, []),
  (4, (2, 1, 0, 0), 0, []),
  (5, (1, 0, 0, 0), nI 3, []),
  (6, (7, 22, 3, 0), 0, []),
  (9, (2, 0, 2, 0), 0, []),
  (10, (9, 11, 7, 0), 0, []),
  (13, (2, 1, 0, 0), 0, []),
  (14, (1, 0, 0, 0), nI 3, []),
  (15, (4, 2, 0, 0), 0, []),
  (16, (1, 0, 0, 0), nI 2, []),
  (17, (4, 0, 0, 0), 0, []),
  (18, (11, 0, 0, 0), 0, []),
  (19, (6, 26, 1, 0), 0, []),
  (22, (1, 0, 0, 0), nI 1, []),
  (23, (8, 27, 0, 0), 0, []),
  (26, (1, 0, 0, 0), nI 0, []),
  (27, (14, 0, 0, 0), 0, [])]
abbrev m_X7_isEmpty : Nat := 49
/-- NameMaps$Slots.areEmpty()Z: 27 entries; loop heads [4] -/
def co_X7_areEmpty : List Ent := [(0, (1, 0, 0, 0), nI 0, []),
  (1, (3, 1, 0, 0), 0, []),
  (2, (1, 0, 0, 0), nI 0, []),
  (3, (3, 2, 0, 0), 0, []),
  (4, (0, 3, 0, 0), 0, []),
  (4, (2, 2, 0, 0), 0, []),
  (5, (1, 0, 0, 0), nI 3, []),
  (6, (7, 28, 3, 0), 0, []),
  (9, (2, 1, 0, 0), 0, []),
  (10, (2, 0, 2, 0), 0, []),
  (11, (9, 11, 7, 0), 0, []),
  (14, (2, 2, 0, 0), 0, []),
  (15, (1, 0, 0, 0), nI 3, []),
  (16, (4, 2, 0, 0), 0, []),
  (17, (1, 0, 0, 0), nI 2, []),
  (18, (4, 0, 0, 0), 0, []),
  (19, (11, 0, 0, 0), 0, []),
  (20, (4, 0, 0, 0), 0, []),
  (21, (3, 1, 0, 0), 0, []),
  (22, (5, 2, 0, 0), nI 1, []),
  (25, (8, 4, 0, 0), 0, []),
  (28, (2, 1, 0, 0), 0, []),
  (29, (6, 36, 1, 0), 0, []),
  (32, (1, 0, 0, 0), nI 1, []),
  (33, (8, 37, 0, 0), 0, []),
  (36, (1, 0, 0, 0), nI 0, []),
  (37, (14, 0, 0, 0), 0, [])]
abbrev m_X7_areEmpty : Nat := 50
/-- NameMaps$Slots.have(I)Z: 26 entries; loop heads [2] -/
def co_X7_have : List Ent := [(0, (1, 0, 0, 0), nI 0, []),
  (1, (3, 2, 0, 0), 0, []),
  (2, (0, 3, 0, 0), 0, []),
  (2, (2, 2, 0, 0), 0, []),
  (3, (1, 0, 0, 0), nI 3, []),
  (4, (7, 37, 3, 0), 0, []),
  (7, (2, 0, 2, 0), 0, []),
  (8, (2, 2, 0, 0), 0, []),
  (9, (13, 19, 49, 0), 0, [(2, 7)]),
  (12, (6, 31, 1, 0), 0, []),
  (15, (2, 0, 2, 0), 0, []),
  (16, (9, 11, 7, 0), 0, []),
  (19, (2, 2, 0, 0), 0, []),
  (20, (1, 0, 0, 0), nI 3, []),
  (21, (4, 2, 0, 0), 0, []),
  (22, (1, 0, 0, 0), nI 0, []),
  (23, (4, 0, 0, 0), 0, []),
  (24, (11, 0, 0, 0), 0, []),
  (25, (2, 1, 0, 0), 0, []),
  (26, (7, 31, 1, 0), 0, []),
  (29, (1, 0, 0, 0), nI 1, []),
  (30, (14, 0, 0, 0), 0, []),
  (31, (5, 2, 0, 0), nI 1, []),
  (34, (8, 2, 0, 0), 0, []),
  (37, (1, 0, 0, 0), nI 0, []),
  (38, (14, 0, 0, 0), 0, [])]
abbrev m_X7_have : Nat := 51
/-- NameMaps$Slots.lowestPriority()I: 27 entries; loop heads [5] -/
def co_X7_lowestPriority : List Ent := [(0, (1, 0, 1, 0), nI 10, []),
  (2, (3, 1, 0, 0), 0, []),
  (3, (1, 0, 0, 0), nI 0, []),
  (4, (3, 2, 0, 0), 0, []),
  (5, (0, 3, 0, 0), 0, []),
  (5, (2, 2, 0, 0), 0, []),
  (6, (1, 0, 0, 0), nI 3, []),
  (7, (7, 39, 3, 0), 0, []),
  (10, (2, 0, 2, 0), 0, []),
  (11, (2, 2, 0, 0), 0, []),
  (12, (13, 19, 49, 0), 0, [(2, 7)]),
  (15, (6, 33, 1, 0), 0, []),
  (18, (2, 1, 0, 0), 0, []),
  (19, (2, 0, 2, 0), 0, []),
  (20, (9, 11, 7, 0), 0, []),
  (23, (2, 2, 0, 0), 0, []),
  (24, (1, 0, 0, 0), nI 3, []),
  (25, (4, 2, 0, 0), 0, []),
  (26, (1, 0, 0, 0), nI 1, []),
  (27, (4, 0, 0, 0), 0, []),
  (28, (11, 0, 0, 0), 0, []),
  (29, (20, 22, 0, 0), 0, []),
  (32, (3, 1, 0, 0), 0, []),
  (33, (5, 2, 0, 0), nI 1, []),
  (36, (8, 5, 0, 0), 0, []),
  (39, (2, 1, 0, 0), 0, []),
  (40, (14, 0, 0, 0), 0, [])]
abbrev m_X7_lowestPriority : Nat := 52
/-- NameMaps$Slots.weightThatCounts(II)I: 25 entries; loop heads [] -/
def co_X7_weightThatCounts : List Ent := [(0, (2, 0, 2, 0), 0, []),
  (1, (2, 1, 0, 0), 0, []),
  (2, (13, 19, 49, 0), 0, [(2, 7)]),
  (5, (6, 22, 1, 0), 0, []),
  (8, (2, 0, 2, 0), 0, []),
  (9, (9, 11, 7, 0), 0, []),
  (12, (2, 1, 0, 0), 0, []),
  (13, (1, 0, 0, 0), nI 3, []),
  (14, (4, 2, 0, 0), 0, []),
  (15, (1, 0, 0, 0), nI 1, []),
  (16, (4, 0, 0, 0), 0, []),
  (17, (11, 0, 0, 0), 0, []),
  (18, (2, 2, 0, 0), 0, []),
  (19, (7, 24, 0, 0), 0, []),
  (22, (1, 0, 0, 0), nI 0, []),
  (23, (14, 0, 0, 0), 0, []),
  (24, (2, 0, 2, 0), 0, []),
  (25, (9, 11, 7, 0), 0, []),
  (28, (2, 1, 0, 0), 0, []),
  (29, (1, 0, 0, 0), nI 3, []),
  (30, (4, 2, 0, 0), 0, []),
  (31, (1, 0, 0, 0), nI 2, []),
  (32, (4, 0, 0, 0), 0, []),
  (33, (11, 0, 0, 0), 0, []),
  (34, (14, 0, 0, 0), 0, [])]
abbrev m_X7_weightThatCounts : Nat := 53
/-- NameMaps$Slots.placeFor(I)I: 59 entries; loop heads [10, 49] -/
def co_X7_placeFor : List Ent := [(0, (2, 0, 2, 0), 0, []),
  (1, (13, 28, 52, 0), 0, [(1, 7)]),
  (4, (3, 2, 0, 0), 0, []),
  (5, (1, 0, 0, 0), nI 0, []),
  (6, (3, 3, 0, 0), 0, []),
  (7, (1, 0, 0, 0), nI 0, []),
  (8, (3, 4, 1, 0), 0, []),
  (10, (0, 5, 0, 0), 0, []),
  (10, (2, 4, 1, 0), 0, []),
  (12, (1, 0, 0, 0), nI 3, []),
  (13, (7, 32, 3, 0), 0, []),
  (16, (2, 3, 0, 0), 0, []),
  (17, (2, 0, 2, 0), 0, []),
  (18, (2, 4, 1, 0), 0, []),
  (20, (2, 2, 0, 0), 0, []),
  (21, (13, 32, 53, 0), 0, [(3, 7)]),
  (24, (4, 0, 0, 0), 0, []),
  (25, (3, 3, 0, 0), 0, []),
  (26, (5, 4, 0, 0), nI 1, []),
  (29, (8, 10, 0, 0), 0, []),
  (32, (2, 3, 0, 0), 0, []),
  (33, (6, 38, 4, 0), 0, []),
  (36, (1, 0, 0, 0), (-1), []),
  (37, (14, 0, 0, 0), 0, []),
  (38, (2, 1, 0, 0), 0, []),
  (39, (2, 3, 0, 0), 0, []),
  (40, (4, 4, 0, 0), 0, []),
  (41, (3, 4, 1, 0), 0, []),
  (43, (1, 0, 0, 0), nI 0, []),
  (44, (3, 5, 1, 0), 0, []),
  (46, (1, 0, 0, 0), nI 0, []),
  (47, (3, 6, 1, 0), 0, []),
  (49, (0, 7, 0, 0), 0, []),
  (49, (2, 6, 1, 0), 0, []),
  (51, (1, 0, 0, 0), nI 3, []),
  (52, (7, 92, 3, 0), 0, []),
  (55, (2, 5, 1, 0), 0, []),
  (57, (2, 0, 2, 0), 0, []),
  (58, (2, 6, 1, 0), 0, []),
  (60, (2, 2, 0, 0), 0, []),
  (61, (13, 32, 53, 0), 0, [(3, 7)]),
  (64, (4, 0, 0, 0), 0, []),
  (65, (3, 5, 1, 0), 0, []),
  (67, (2, 5, 1, 0), 0, []),
  (69, (2, 4, 1, 0), 0, []),
  (71, (7, 86, 5, 0), 0, []),
  (74, (2, 0, 2, 0), 0, []),
  (75, (9, 11, 7, 0), 0, []),
  (78, (2, 6, 1, 0), 0, []),
  (80, (1, 0, 0, 0), nI 3, []),
  (81, (4, 2, 0, 0), 0, []),
  (82, (1, 0, 0, 0), nI 0, []),
  (83, (4, 0, 0, 0), 0, []),
  (84, (11, 0, 0, 0), 0, []),
  (85, (14, 0, 0, 0), 0, []),
  (86, (5, 6, 0, 0), nI 1, []),
  (89, (8, 49, 0, 0), 0, []),
  (92, (1, 0, 0, 0), (-1), []),
  (93, (14, 0, 0, 0), 0, [])]
abbrev m_X7_placeFor : Nat := 54
/-- NameMaps$Slots.flowsTo(I)I: 18 entries; loop heads [4] -/
def co_X7_flowsTo : List Ent := [(0, (1, 0, 0, 0), nI 0, []),
  (1, (3, 2, 0, 0), 0, []),
  (2, (1, 0, 0, 0), nI 0, []),
  (3, (3, 3, 0, 0), 0, []),
  (4, (0, 4, 0, 0), 0, []),
  (4, (2, 3, 0, 0), 0, []),
  (5, (1, 0, 1, 0), nI 100, []),
  (7, (7, 28, 3, 0), 0, []),
  (10, (2, 0, 2, 0), 0, []),
  (11, (2, 3, 0, 0), 0, []),
  (12, (13, 35, 54, 0), 0, [(2, 7)]),
  (15, (2, 1, 0, 0), 0, []),
  (16, (7, 22, 1, 0), 0, []),
  (19, (5, 2, 0, 0), nI 1, []),
  (22, (5, 3, 0, 0), nI 1, []),
  (25, (8, 4, 0, 0), 0, []),
  (28, (2, 2, 0, 0), 0, []),
  (29, (14, 0, 0, 0), 0, [])]
abbrev m_X7_flowsTo : Nat := 55
/-- NameMaps$World.<init>()V: 74 entries; loop heads [43, 86, 113] -/
def co_X8_init : List Ent := [(0, (2, 0, 2, 0), 0, []),
  (1, (24, 3, 999, 0), 0, []),
  (4, (2, 0, 2, 0), 0, []),
  (5, (1, 0, 1, 0), nI 8, []),
  (7, (23, 9, 5, 0), 0, []),
  (10, (10, 11, 8, 0), 0, []),
  (13, (2, 0, 2, 0), 0, []),
  (14, (1, 0, 1, 0), nI 8, []),
  (16, (23, 17, 6, 0), 0, []),
  (19, (10, 19, 8, 1), 0, []),
  (22, (2, 0, 2, 0), 0, []),
  (23, (1, 0, 0, 0), nI 4, []),
  (24, (23, 23, 4, 0), 0, []),
  (27, (10, 25, 8, 2), 0, []),
  (30, (2, 0, 2, 0), 0, []),
  (31, (1, 0, 0, 0), nI 1, []),
  (32, (10, 29, 8, 3), 0, []),
  (35, (2, 0, 2, 0), 0, []),
  (36, (1, 0, 1, 0), nI 10, []),
  (38, (10, 33, 8, 7), 0, []),
  (41, (1, 0, 0, 0), nI 0, []),
  (42, (3, 1, 0, 0), 0, []),
  (43, (0, 2, 0, 0), 0, []),
  (43, (2, 1, 0, 0), 0, []),
  (44, (1, 0, 1, 0), nI 8, []),
  (46, (7, 68, 3, 0), 0, []),
  (49, (2, 0, 2, 0), 0, []),
  (50, (9, 11, 8, 0), 0, []),
  (53, (2, 1, 0, 0), 0, []),
  (54, (21, 9, 5, 0), 0, []),
  (57, (15, 0, 0, 0), 0, []),
  (58, (24, 36, 38, 1), 0, [(1, 0)]),
  (61, (12, 2, 0, 0), 0, []),
  (62, (5, 1, 0, 0), nI 1, []),
  (65, (8, 43, 0, 0), 0, []),
  (68, (2, 0, 2, 0), 0, []),
  (69, (9, 11, 8, 0), 0, []),
  (72, (1, 0, 0, 0), nI 0, []),
  (73, (11, 2, 0, 0), 0, []),
  (74, (9, 37, 5, 0), 0, []),
  (77, (1, 0, 0, 0), nI 0, []),
  (78, (1, 0, 2, 0), nI 256, []),
  (81, (13, 41, 11, 0), 0, [(3, 1)]),
  (84, (1, 0, 0, 0), nI 0, []),
  (85, (3, 1, 0, 0), 0, []),
  (86, (0, 2, 0, 0), 0, []),
  (86, (2, 1, 0, 0), 0, []),
  (87, (1, 0, 1, 0), nI 8, []),
  (89, (7, 111, 3, 0), 0, []),
  (92, (2, 0, 2, 0), 0, []),
  (93, (9, 19, 8, 1), 0, []),
  (96, (2, 1, 0, 0), 0, []),
  (97, (21, 17, 6, 0), 0, []),
  (100, (15, 0, 0, 0), 0, []),
  (101, (24, 47, 40, 1), 0, [(1, 0)]),
  (104, (12, 2, 0, 0), 0, []),
  (105, (5, 1, 0, 0), nI 1, []),
  (108, (8, 86, 0, 0), 0, []),
  (111, (1, 0, 0, 0), nI 0, []),
  (112, (3, 1, 0, 0), 0, []),
  (113, (0, 2, 0, 0), 0, []),
  (113, (2, 1, 0, 0), 0, []),
  (114, (1, 0, 0, 0), nI 4, []),
  (115, (7, 137, 3, 0), 0, []),
  (118, (2, 0, 2, 0), 0, []),
  (119, (9, 25, 8, 2), 0, []),
  (122, (2, 1, 0, 0), 0, []),
  (123, (21, 23, 4, 0), 0, []),
  (126, (15, 0, 0, 0), 0, []),
  (127, (24, 48, 27, 0), 0, [(1, 0)]),
  (130, (12, 2, 0, 0), 0, []),
  (131, (5, 1, 0, 0), nI 1, []),
  (134, (8, 113, 0, 0), 0, []),
  (137, (14, 1, 0, 0), 0, [])]
abbrev m_X8_init : Nat := 56
/-- NameMaps$World.copyFrom(LNameMaps$World;)V: 75 entries; loop heads [10, 49, 88] -/
def co_X8_copyFrom : List Ent := [(0, (2, 0, 2, 0), 0, []),
  (1, (2, 1, 2, 0), 0, []),
  (2, (9, 29, 8, 3), 0, []),
  (5, (10, 29, 8, 3), 0, []),
  (8, (1, 0, 0, 0), nI 0, []),
  (9, (3, 2, 0, 0), 0, []),
  (10, (0, 3, 0, 0), 0, []),
  (10, (2, 2, 0, 0), 0, []),
  (11, (2, 0, 2, 0), 0, []),
  (12, (9, 29, 8, 3), 0, []),
  (15, (7, 39, 3, 0), 0, []),
  (18, (2, 0, 2, 0), 0, []),
  (19, (9, 11, 8, 0), 0, []),
  (22, (2, 2, 0, 0), 0, []),
  (23, (11, 2, 0, 0), 0, []),
  (24, (2, 1, 2, 0), 0, []),
  (25, (9, 11, 8, 0), 0, []),
  (28, (2, 2, 0, 0), 0, []),
  (29, (11, 2, 0, 0), 0, []),
  (30, (13, 49, 39, 0), 0, [(2, 5)]),
  (33, (5, 2, 0, 0), nI 1, []),
  (36, (8, 10, 0, 0), 0, []),
  (39, (2, 0, 2, 0), 0, []),
  (40, (2, 1, 2, 0), 0, []),
  (41, (9, 53, 8, 4), 0, []),
  (44, (10, 53, 8, 4), 0, []),
  (47, (1, 0, 0, 0), nI 0, []),
  (48, (3, 2, 0, 0), 0, []),
  (49, (0, 3, 0, 0), 0, []),
  (49, (2, 2, 0, 0), 0, []),
  (50, (2, 0, 2, 0), 0, []),
  (51, (9, 53, 8, 4), 0, []),
  (54, (7, 78, 3, 0), 0, []),
  (57, (2, 0, 2, 0), 0, []),
  (58, (9, 19, 8, 1), 0, []),
  (61, (2, 2, 0, 0), 0, []),
  (62, (11, 2, 0, 0), 0, []),
  (63, (2, 1, 2, 0), 0, []),
  (64, (9, 19, 8, 1), 0, []),
  (67, (2, 2, 0, 0), 0, []),
  (68, (11, 2, 0, 0), 0, []),
  (69, (13, 56, 42, 0), 0, [(2, 6)]),
  (72, (5, 2, 0, 0), nI 1, []),
  (75, (8, 49, 0, 0), 0, []),
  (78, (2, 0, 2, 0), 0, []),
  (79, (2, 1, 2, 0), 0, []),
  (80, (9, 59, 8, 5), 0, []),
  (83, (10, 59, 8, 5), 0, []),
  (86, (1, 0, 0, 0), nI 0, []),
  (87, (3, 2, 0, 0), 0, []),
  (88, (0, 3, 0, 0), 0, []),
  (88, (2, 2, 0, 0), 0, []),
  (89, (2, 0, 2, 0), 0, []),
  (90, (9, 59, 8, 5), 0, []),
  (93, (7, 117, 3, 0), 0, []),
  (96, (2, 0, 2, 0), 0, []),
  (97, (9, 25, 8, 2), 0, []),
  (100, (2, 2, 0, 0), 0, []),
  (101, (11, 2, 0, 0), 0, []),
  (102, (2, 1, 2, 0), 0, []),
  (103, (9, 25, 8, 2), 0, []),
  (106, (2, 2, 0, 0), 0, []),
  (107, (11, 2, 0, 0), 0, []),
  (108, (13, 62, 29, 0), 0, [(2, 4)]),
  (111, (5, 2, 0, 0), nI 1, []),
  (114, (8, 88, 0, 0), 0, []),
  (117, (2, 0, 2, 0), 0, []),
  (118, (2, 1, 2, 0), 0, []),
  (119, (9, 65, 8, 6), 0, []),
  (122, (10, 65, 8, 6), 0, []),
  (125, (2, 0, 2, 0), 0, []),
  (126, (2, 1, 2, 0), 0, []),
  (127, (9, 33, 8, 7), 0, []),
  (130, (10, 33, 8, 7), 0, []),
  (133, (14, 1, 0, 0), 0, [])]
abbrev m_X8_copyFrom : Nat := 57
/-- NameMaps$World.isServer(I)Z: 13 entries; loop heads [] -/
def co_X8_isServer : List Ent := [(0, (2, 1, 0, 0), 0, []),
  (1, (6, 22, 2, 0), 0, []),
  (4, (2, 1, 0, 0), 0, []),
  (5, (2, 0, 2, 0), 0, []),
  (6, (9, 29, 8, 3), 0, []),
  (9, (7, 22, 3, 0), 0, []),
  (12, (2, 1, 0, 0), 0, []),
  (13, (1, 0, 1, 0), nI 8, []),
  (15, (7, 22, 3, 0), 0, []),
  (18, (1, 0, 0, 0), nI 1, []),
  (19, (8, 23, 0, 0), 0, []),
  (22, (1, 0, 0, 0), nI 0, []),
  (23, (14, 0, 0, 0), 0, [])]
abbrev m_X8_isServer : Nat := 58
/-- NameMaps$World.isSite(I)Z: 13 entries; loop heads [] -/
def co_X8_isSite : List Ent := [(0, (2, 1, 0, 0), 0, []),
  (1, (6, 22, 2, 0), 0, []),
  (4, (2, 1, 0, 0), 0, []),
  (5, (2, 0, 2, 0), 0, []),
  (6, (9, 53, 8, 4), 0, []),
  (9, (7, 22, 3, 0), 0, []),
  (12, (2, 1, 0, 0), 0, []),
  (13, (1, 0, 1, 0), nI 8, []),
  (15, (7, 22, 3, 0), 0, []),
  (18, (1, 0, 0, 0), nI 1, []),
  (19, (8, 23, 0, 0), 0, []),
  (22, (1, 0, 0, 0), nI 0, []),
  (23, (14, 0, 0, 0), 0, [])]
abbrev m_X8_isSite : Nat := 59
/-- NameMaps$World.isRouter(I)Z: 13 entries; loop heads [] -/
def co_X8_isRouter : List Ent := [(0, (2, 1, 0, 0), 0, []),
  (1, (6, 21, 2, 0), 0, []),
  (4, (2, 1, 0, 0), 0, []),
  (5, (2, 0, 2, 0), 0, []),
  (6, (9, 59, 8, 5), 0, []),
  (9, (7, 21, 3, 0), 0, []),
  (12, (2, 1, 0, 0), 0, []),
  (13, (1, 0, 0, 0), nI 4, []),
  (14, (7, 21, 3, 0), 0, []),
  (17, (1, 0, 0, 0), nI 1, []),
  (18, (8, 22, 0, 0), 0, []),
  (21, (1, 0, 0, 0), nI 0, []),
  (22, (14, 0, 0, 0), 0, [])]
abbrev m_X8_isRouter : Nat := 60
/-- NameMaps$World.newServer(III)I: 87 entries; loop heads [54] -/
def co_X8_newServer : List Ent := [(0, (2, 0, 2, 0), 0, []),
  (1, (2, 1, 0, 0), 0, []),
  (2, (13, 68, 58, 0), 0, [(2, 8)]),
  (5, (6, 10, 1, 0), 0, []),
  (8, (1, 0, 0, 0), (-1), []),
  (9, (14, 0, 0, 0), 0, []),
  (10, (2, 0, 2, 0), 0, []),
  (11, (9, 11, 8, 0), 0, []),
  (14, (2, 1, 0, 0), 0, []),
  (15, (11, 2, 0, 0), 0, []),
  (16, (9, 37, 5, 0), 0, []),
  (19, (3, 4, 3, 0), 0, []),
  (21, (2, 2, 0, 0), 0, []),
  (22, (2, 3, 0, 0), 0, []),
  (23, (13, 72, 128, 2), 0, [(2, 9)]),
  (26, (6, 48, 0, 0), 0, []),
  (29, (2, 4, 3, 0), 0, []),
  (31, (2, 2, 0, 0), 0, []),
  (32, (2, 3, 0, 0), 0, []),
  (33, (13, 76, 15, 0), 0, [(3, 1)]),
  (36, (6, 48, 0, 0), 0, []),
  (39, (2, 3, 0, 0), 0, []),
  (40, (2, 4, 3, 0), 0, []),
  (42, (9, 79, 1, 1), 0, []),
  (45, (7, 51, 2, 0), 0, []),
  (48, (1, 0, 1, 0), (-2), []),
  (50, (14, 0, 0, 0), 0, []),
  (51, (1, 0, 0, 0), nI 0, []),
  (52, (3, 5, 1, 0), 0, []),
  (54, (0, 6, 0, 0), 0, []),
  (54, (2, 5, 1, 0), 0, []),
  (56, (2, 0, 2, 0), 0, []),
  (57, (9, 29, 8, 3), 0, []),
  (60, (7, 104, 3, 0), 0, []),
  (63, (2, 0, 2, 0), 0, []),
  (64, (9, 11, 8, 0), 0, []),
  (67, (2, 5, 1, 0), 0, []),
  (69, (11, 2, 0, 0), 0, []),
  (70, (9, 82, 5, 1), 0, []),
  (73, (2, 1, 0, 0), 0, []),
  (74, (7, 98, 1, 0), 0, []),
  (77, (2, 0, 2, 0), 0, []),
  (78, (9, 11, 8, 0), 0, []),
  (81, (2, 5, 1, 0), 0, []),
  (83, (11, 2, 0, 0), 0, []),
  (84, (9, 37, 5, 0), 0, []),
  (87, (2, 2, 0, 0), 0, []),
  (88, (2, 3, 0, 0), 0, []),
  (89, (13, 85, 16, 0), 0, [(3, 1)]),
  (92, (6, 98, 0, 0), 0, []),
  (95, (1, 0, 1, 0), (-3), []),
  (97, (14, 0, 0, 0), 0, []),
  (98, (5, 5, 0, 0), nI 1, []),
  (101, (8, 54, 0, 0), 0, []),
  (104, (2, 0, 2, 0), 0, []),
  (105, (9, 29, 8, 3), 0, []),
  (108, (1, 0, 1, 0), nI 8, []),
  (110, (7, 116, 2, 0), 0, []),
  (113, (1, 0, 1, 0), (-4), []),
  (115, (14, 0, 0, 0), 0, []),
  (116, (2, 0, 2, 0), 0, []),
  (117, (9, 11, 8, 0), 0, []),
  (120, (2, 0, 2, 0), 0, []),
  (121, (9, 29, 8, 3), 0, []),
  (124, (11, 2, 0, 0), 0, []),
  (125, (9, 37, 5, 0), 0, []),
  (128, (2, 2, 0, 0), 0, []),
  (129, (2, 3, 0, 0), 0, []),
  (130, (13, 41, 11, 0), 0, [(3, 1)]),
  (133, (2, 0, 2, 0), 0, []),
  (134, (9, 11, 8, 0), 0, []),
  (137, (2, 0, 2, 0), 0, []),
  (138, (9, 29, 8, 3), 0, []),
  (141, (11, 2, 0, 0), 0, []),
  (142, (2, 1, 0, 0), 0, []),
  (143, (10, 82, 5, 1), 0, []),
  (146, (2, 0, 2, 0), 0, []),
  (147, (15, 0, 0, 0), 0, []),
  (148, (9, 29, 8, 3), 0, []),
  (151, (1, 0, 0, 0), nI 1, []),
  (152, (4, 0, 0, 0), 0, []),
  (153, (10, 29, 8, 3), 0, []),
  (156, (2, 0, 2, 0), 0, []),
  (157, (9, 29, 8, 3), 0, []),
  (160, (1, 0, 0, 0), nI 1, []),
  (161, (4, 1, 0, 0), 0, []),
  (162, (14, 0, 0, 0), 0, [])]
abbrev m_X8_newServer : Nat := 61
/-- NameMaps$World.newSite(III)I: 58 entries; loop heads [25] -/
def co_X8_newSite : List Ent := [(0, (2, 1, 0, 0), 0, []),
  (1, (2, 2, 0, 0), 0, []),
  (2, (13, 72, 128, 2), 0, [(2, 9)]),
  (5, (6, 19, 0, 0), 0, []),
  (8, (2, 3, 0, 0), 0, []),
  (9, (1, 0, 0, 0), nI 1, []),
  (10, (7, 19, 2, 0), 0, []),
  (13, (2, 3, 0, 0), 0, []),
  (14, (1, 0, 1, 0), nI 48, []),
  (16, (7, 22, 5, 0), 0, []),
  (19, (1, 0, 1, 0), (-2), []),
  (21, (14, 0, 0, 0), 0, []),
  (22, (1, 0, 0, 0), nI 0, []),
  (23, (3, 4, 1, 0), 0, []),
  (25, (0, 5, 0, 0), 0, []),
  (25, (2, 4, 1, 0), 0, []),
  (27, (2, 0, 2, 0), 0, []),
  (28, (9, 53, 8, 4), 0, []),
  (31, (7, 61, 3, 0), 0, []),
  (34, (2, 0, 2, 0), 0, []),
  (35, (9, 19, 8, 1), 0, []),
  (38, (2, 4, 1, 0), 0, []),
  (40, (11, 2, 0, 0), 0, []),
  (41, (9, 88, 6, 0), 0, []),
  (44, (2, 1, 0, 0), 0, []),
  (45, (2, 2, 0, 0), 0, []),
  (46, (13, 89, 13, 0), 0, [(3, 1)]),
  (49, (6, 55, 0, 0), 0, []),
  (52, (1, 0, 1, 0), (-3), []),
  (54, (14, 0, 0, 0), 0, []),
  (55, (5, 4, 0, 0), nI 1, []),
  (58, (8, 25, 0, 0), 0, []),
  (61, (2, 0, 2, 0), 0, []),
  (62, (9, 53, 8, 4), 0, []),
  (65, (1, 0, 1, 0), nI 8, []),
  (67, (7, 73, 2, 0), 0, []),
  (70, (1, 0, 1, 0), (-4), []),
  (72, (14, 0, 0, 0), 0, []),
  (73, (2, 0, 2, 0), 0, []),
  (74, (9, 19, 8, 1), 0, []),
  (77, (2, 0, 2, 0), 0, []),
  (78, (9, 53, 8, 4), 0, []),
  (81, (11, 2, 0, 0), 0, []),
  (82, (2, 1, 0, 0), 0, []),
  (83, (2, 2, 0, 0), 0, []),
  (84, (2, 3, 0, 0), 0, []),
  (85, (13, 92, 41, 0), 0, [(4, 6)]),
  (88, (2, 0, 2, 0), 0, []),
  (89, (15, 0, 0, 0), 0, []),
  (90, (9, 53, 8, 4), 0, []),
  (93, (1, 0, 0, 0), nI 1, []),
  (94, (4, 0, 0, 0), 0, []),
  (95, (10, 53, 8, 4), 0, []),
  (98, (2, 0, 2, 0), 0, []),
  (99, (9, 53, 8, 4), 0, []),
  (102, (1, 0, 0, 0), nI 1, []),
  (103, (4, 1, 0, 0), 0, []),
  (104, (14, 0, 0, 0), 0, [])]
abbrev m_X8_newSite : Nat := 62
/-- NameMaps$World.newRouter()I: 23 entries; loop heads [] -/
def co_X8_newRouter : List Ent := [(0, (2, 0, 2, 0), 0, []),
  (1, (9, 59, 8, 5), 0, []),
  (4, (1, 0, 0, 0), nI 4, []),
  (5, (7, 11, 2, 0), 0, []),
  (8, (1, 0, 1, 0), (-4), []),
  (10, (14, 0, 0, 0), 0, []),
  (11, (2, 0, 2, 0), 0, []),
  (12, (9, 25, 8, 2), 0, []),
  (15, (2, 0, 2, 0), 0, []),
  (16, (9, 59, 8, 5), 0, []),
  (19, (11, 2, 0, 0), 0, []),
  (20, (13, 96, 28, 0), 0, [(1, 4)]),
  (23, (2, 0, 2, 0), 0, []),
  (24, (15, 0, 0, 0), 0, []),
  (25, (9, 59, 8, 5), 0, []),
  (28, (1, 0, 0, 0), nI 1, []),
  (29, (4, 0, 0, 0), 0, []),
  (30, (10, 59, 8, 5), 0, []),
  (33, (2, 0, 2, 0), 0, []),
  (34, (9, 59, 8, 5), 0, []),
  (37, (1, 0, 0, 0), nI 1, []),
  (38, (4, 1, 0, 0), 0, []),
  (39, (14, 0, 0, 0), 0, [])]
abbrev m_X8_newRouter : Nat := 63
/-- NameMaps$World.fillSlot(IIIII)I: 52 entries; loop heads [] -/
def co_X8_fillSlot : List Ent := [(0, (2, 0, 2, 0), 0, []),
  (1, (2, 1, 0, 0), 0, []),
  (2, (13, 98, 59, 0), 0, [(2, 8)]),
  (5, (6, 15, 0, 0), 0, []),
  (8, (2, 2, 0, 0), 0, []),
  (9, (13, 101, 124, 2), 0, [(1, 9)]),
  (12, (6, 17, 1, 0), 0, []),
  (15, (1, 0, 0, 0), (-1), []),
  (16, (14, 0, 0, 0), 0, []),
  (17, (2, 3, 0, 0), 0, []),
  (18, (13, 104, 127, 2), 0, [(1, 9)]),
  (21, (6, 36, 0, 0), 0, []),
  (24, (2, 4, 1, 0), 0, []),
  (26, (6, 36, 2, 0), 0, []),
  (29, (2, 4, 1, 0), 0, []),
  (31, (1, 0, 1, 0), nI 10, []),
  (33, (7, 39, 2, 0), 0, []),
  (36, (1, 0, 1, 0), (-2), []),
  (38, (14, 0, 0, 0), 0, []),
  (39, (2, 5, 1, 0), 0, []),
  (41, (1, 0, 0, 0), nI 1, []),
  (42, (7, 52, 2, 0), 0, []),
  (45, (2, 5, 1, 0), 0, []),
  (47, (1, 0, 1, 0), nI 9, []),
  (49, (7, 55, 5, 0), 0, []),
  (52, (1, 0, 1, 0), (-2), []),
  (54, (14, 0, 0, 0), 0, []),
  (55, (2, 0, 2, 0), 0, []),
  (56, (9, 19, 8, 1), 0, []),
  (59, (2, 1, 0, 0), 0, []),
  (60, (11, 2, 0, 0), 0, []),
  (61, (9, 107, 6, 1), 0, []),
  (64, (2, 2, 0, 0), 0, []),
  (65, (2, 3, 0, 0), 0, []),
  (66, (2, 4, 1, 0), 0, []),
  (68, (2, 5, 1, 0), 0, []),
  (70, (13, 111, 47, 0), 0, [(5, 7)]),
  (73, (2, 0, 2, 0), 0, []),
  (74, (9, 19, 8, 1), 0, []),
  (77, (2, 1, 0, 0), 0, []),
  (78, (11, 2, 0, 0), 0, []),
  (79, (15, 0, 0, 0), 0, []),
  (80, (9, 117, 6, 3), 0, []),
  (83, (1, 0, 0, 0), nI 1, []),
  (84, (4, 0, 0, 0), 0, []),
  (85, (10, 117, 6, 3), 0, []),
  (88, (2, 0, 2, 0), 0, []),
  (89, (9, 19, 8, 1), 0, []),
  (92, (2, 1, 0, 0), 0, []),
  (93, (11, 2, 0, 0), 0, []),
  (94, (9, 117, 6, 3), 0, []),
  (97, (14, 0, 0, 0), 0, [])]
abbrev m_X8_fillSlot : Nat := 64
/-- NameMaps$World.vacateSlot(II)I: 44 entries; loop heads [] -/
def co_X8_vacateSlot : List Ent := [(0, (2, 0, 2, 0), 0, []),
  (1, (2, 1, 0, 0), 0, []),
  (2, (13, 98, 59, 0), 0, [(2, 8)]),
  (5, (6, 15, 0, 0), 0, []),
  (8, (2, 2, 0, 0), 0, []),
  (9, (13, 101, 124, 2), 0, [(1, 9)]),
  (12, (6, 17, 1, 0), 0, []),
  (15, (1, 0, 0, 0), (-1), []),
  (16, (14, 0, 0, 0), 0, []),
  (17, (2, 0, 2, 0), 0, []),
  (18, (9, 19, 8, 1), 0, []),
  (21, (2, 1, 0, 0), 0, []),
  (22, (11, 2, 0, 0), 0, []),
  (23, (9, 107, 6, 1), 0, []),
  (26, (2, 2, 0, 0), 0, []),
  (27, (13, 120, 49, 0), 0, [(2, 7)]),
  (30, (6, 36, 0, 0), 0, []),
  (33, (1, 0, 1, 0), (-3), []),
  (35, (14, 0, 0, 0), 0, []),
  (36, (2, 0, 2, 0), 0, []),
  (37, (9, 19, 8, 1), 0, []),
  (40, (2, 1, 0, 0), 0, []),
  (41, (11, 2, 0, 0), 0, []),
  (42, (9, 107, 6, 1), 0, []),
  (45, (2, 2, 0, 0), 0, []),
  (46, (1, 0, 0, 0), nI 0, []),
  (47, (1, 0, 0, 0), nI 0, []),
  (48, (1, 0, 0, 0), nI 0, []),
  (49, (13, 111, 47, 0), 0, [(5, 7)]),
  (52, (2, 0, 2, 0), 0, []),
  (53, (9, 19, 8, 1), 0, []),
  (56, (2, 1, 0, 0), 0, []),
  (57, (11, 2, 0, 0), 0, []),
  (58, (15, 0, 0, 0), 0, []),
  (59, (9, 117, 6, 3), 0, []),
  (62, (1, 0, 0, 0), nI 1, []),
  (63, (4, 0, 0, 0), 0, []),
  (64, (10, 117, 6, 3), 0, []),
  (67, (2, 0, 2, 0), 0, []),
  (68, (9, 19, 8, 1), 0, []),
  (71, (2, 1, 0, 0), 0, []),
  (72, (11, 2, 0, 0), 0, []),
  (73, (9, 117, 6, 3), 0, []),
  (76, (14, 0, 0, 0), 0, [])]
abbrev m_X8_vacateSlot : Nat := 65
/-- NameMaps$World.startRegistration(I)I: 25 entries; loop heads [] -/
def co_X8_startRegistration : List Ent := [(0, (2, 0, 2, 0), 0, []),
  (1, (2, 1, 0, 0), 0, []),
  (2, (13, 98, 59, 0), 0, [(2, 8)]),
  (5, (6, 10, 1, 0), 0, []),
  (8, (1, 0, 0, 0), (-1), []),
  (9, (14, 0, 0, 0), 0, []),
  (10, (2, 0, 2, 0), 0, []),
  (11, (9, 19, 8, 1), 0, []),
  (14, (2, 1, 0, 0), 0, []),
  (15, (11, 2, 0, 0), 0, []),
  (16, (2, 0, 2, 0), 0, []),
  (17, (9, 65, 8, 6), 0, []),
  (20, (2, 0, 2, 0), 0, []),
  (21, (9, 19, 8, 1), 0, []),
  (24, (2, 1, 0, 0), 0, []),
  (25, (11, 2, 0, 0), 0, []),
  (26, (9, 123, 6, 2), 0, []),
  (29, (4, 0, 0, 0), 0, []),
  (30, (10, 126, 6, 4), 0, []),
  (33, (2, 0, 2, 0), 0, []),
  (34, (9, 19, 8, 1), 0, []),
  (37, (2, 1, 0, 0), 0, []),
  (38, (11, 2, 0, 0), 0, []),
  (39, (9, 126, 6, 4), 0, []),
  (42, (14, 0, 0, 0), 0, [])]
abbrev m_X8_startRegistration : Nat := 66
/-- NameMaps$World.endRegistration(I)I: 34 entries; loop heads [] -/
def co_X8_endRegistration : List Ent := [(0, (2, 0, 2, 0), 0, []),
  (1, (2, 1, 0, 0), 0, []),
  (2, (13, 98, 59, 0), 0, [(2, 8)]),
  (5, (6, 10, 1, 0), 0, []),
  (8, (1, 0, 0, 0), (-1), []),
  (9, (14, 0, 0, 0), 0, []),
  (10, (2, 0, 2, 0), 0, []),
  (11, (9, 19, 8, 1), 0, []),
  (14, (2, 1, 0, 0), 0, []),
  (15, (11, 2, 0, 0), 0, []),
  (16, (2, 0, 2, 0), 0, []),
  (17, (9, 65, 8, 6), 0, []),
  (20, (13, 129, 43, 0), 0, [(2, 6)]),
  (23, (6, 29, 1, 0), 0, []),
  (26, (1, 0, 1, 0), (-3), []),
  (28, (14, 0, 0, 0), 0, []),
  (29, (2, 0, 2, 0), 0, []),
  (30, (9, 19, 8, 1), 0, []),
  (33, (2, 1, 0, 0), 0, []),
  (34, (11, 2, 0, 0), 0, []),
  (35, (9, 126, 6, 4), 0, []),
  (38, (2, 0, 2, 0), 0, []),
  (39, (9, 65, 8, 6), 0, []),
  (42, (4, 1, 0, 0), 0, []),
  (43, (3, 2, 0, 0), 0, []),
  (44, (2, 0, 2, 0), 0, []),
  (45, (9, 19, 8, 1), 0, []),
  (48, (2, 1, 0, 0), 0, []),
  (49, (11, 2, 0, 0), 0, []),
  (50, (2, 0, 2, 0), 0, []),
  (51, (9, 65, 8, 6), 0, []),
  (54, (10, 126, 6, 4), 0, []),
  (57, (2, 2, 0, 0), 0, []),
  (58, (14, 0, 0, 0), 0, [])]
abbrev m_X8_endRegistration : Nat := 67
/-- NameMaps$World.changeMapLife(I)I: 16 entries; loop heads [] -/
def co_X8_changeMapLife : List Ent := [(0, (2, 1, 0, 0), 0, []),
  (1, (1, 0, 0, 0), nI 1, []),
  (2, (7, 11, 2, 0), 0, []),
  (5, (2, 1, 0, 0), 0, []),
  (6, (1, 0, 1, 0), nI 100, []),
  (8, (7, 14, 5, 0), 0, []),
  (11, (1, 0, 1, 0), (-2), []),
  (13, (14, 0, 0, 0), 0, []),
  (14, (2, 0, 2, 0), 0, []),
  (15, (9, 33, 8, 7), 0, []),
  (18, (3, 2, 0, 0), 0, []),
  (19, (2, 0, 2, 0), 0, []),
  (20, (2, 1, 0, 0), 0, []),
  (21, (10, 33, 8, 7), 0, []),
  (24, (2, 2, 0, 0), 0, []),
  (25, (14, 0, 0, 0), 0, [])]
abbrev m_X8_changeMapLife : Nat := 68
/-- NameMaps$World.letPass(I)I: 25 entries; loop heads [] -/
def co_X8_letPass : List Ent := [(0, (2, 1, 0, 0), 0, []),
  (1, (1, 0, 0, 0), nI 1, []),
  (2, (7, 11, 2, 0), 0, []),
  (5, (2, 1, 0, 0), 0, []),
  (6, (1, 0, 1, 0), nI 99, []),
  (8, (7, 14, 5, 0), 0, []),
  (11, (1, 0, 1, 0), (-2), []),
  (13, (14, 0, 0, 0), 0, []),
  (14, (2, 0, 2, 0), 0, []),
  (15, (9, 65, 8, 6), 0, []),
  (18, (2, 1, 0, 0), 0, []),
  (19, (4, 0, 0, 0), 0, []),
  (20, (1, 0, 2, 0), nI 9999, []),
  (23, (7, 29, 5, 0), 0, []),
  (26, (1, 0, 1, 0), (-3), []),
  (28, (14, 0, 0, 0), 0, []),
  (29, (2, 0, 2, 0), 0, []),
  (30, (15, 0, 0, 0), 0, []),
  (31, (9, 65, 8, 6), 0, []),
  (34, (2, 1, 0, 0), 0, []),
  (35, (4, 0, 0, 0), 0, []),
  (36, (10, 65, 8, 6), 0, []),
  (39, (2, 0, 2, 0), 0, []),
  (40, (9, 65, 8, 6), 0, []),
  (43, (14, 0, 0, 0), 0, [])]
abbrev m_X8_letPass : Nat := 69
/-- NameMaps$World.emptyCache(I)I: 20 entries; loop heads [] -/
def co_X8_emptyCache : List Ent := [(0, (2, 0, 2, 0), 0, []),
  (1, (2, 1, 0, 0), 0, []),
  (2, (13, 132, 60, 0), 0, [(2, 8)]),
  (5, (6, 10, 1, 0), 0, []),
  (8, (1, 0, 0, 0), (-1), []),
  (9, (14, 0, 0, 0), 0, []),
  (10, (2, 0, 2, 0), 0, []),
  (11, (9, 25, 8, 2), 0, []),
  (14, (2, 1, 0, 0), 0, []),
  (15, (11, 2, 0, 0), 0, []),
  (16, (9, 135, 4, 1), 0, []),
  (19, (3, 2, 0, 0), 0, []),
  (20, (2, 0, 2, 0), 0, []),
  (21, (9, 25, 8, 2), 0, []),
  (24, (2, 1, 0, 0), 0, []),
  (25, (11, 2, 0, 0), 0, []),
  (26, (1, 0, 0, 0), nI 0, []),
  (27, (10, 135, 4, 1), 0, []),
  (30, (2, 2, 0, 0), 0, []),
  (31, (14, 0, 0, 0), 0, [])]
abbrev m_X8_emptyCache : Nat := 70
/-- NameMaps$World.sendLetter(III)I: 101 entries; loop heads [122] -/
def co_X8_sendLetter : List Ent := [(0, (2, 0, 2, 0), 0, []),
  (1, (2, 1, 0, 0), 0, []),
  (2, (13, 132, 60, 0), 0, [(2, 8)]),
  (5, (6, 10, 1, 0), 0, []),
  (8, (1, 0, 0, 0), (-1), []),
  (9, (14, 0, 0, 0), 0, []),
  (10, (2, 2, 0, 0), 0, []),
  (11, (13, 138, 125, 2), 0, [(1, 9)]),
  (14, (6, 24, 0, 0), 0, []),
  (17, (2, 3, 0, 0), 0, []),
  (18, (13, 141, 126, 2), 0, [(1, 9)]),
  (21, (6, 27, 1, 0), 0, []),
  (24, (1, 0, 1, 0), (-2), []),
  (26, (14, 0, 0, 0), 0, []),
  (27, (2, 0, 2, 0), 0, []),
  (28, (9, 25, 8, 2), 0, []),
  (31, (2, 1, 0, 0), 0, []),
  (32, (11, 2, 0, 0), 0, []),
  (33, (3, 4, 3, 0), 0, []),
  (35, (2, 4, 3, 0), 0, []),
  (37, (15, 0, 0, 0), 0, []),
  (38, (9, 144, 4, 4), 0, []),
  (41, (1, 0, 0, 0), nI 1, []),
  (42, (4, 0, 0, 0), 0, []),
  (43, (10, 144, 4, 4), 0, []),
  (46, (2, 4, 3, 0), 0, []),
  (48, (2, 0, 2, 0), 0, []),
  (49, (9, 65, 8, 6), 0, []),
  (52, (13, 147, 34, 0), 0, [(2, 4)]),
  (55, (2, 4, 3, 0), 0, []),
  (57, (2, 2, 0, 0), 0, []),
  (58, (13, 151, 36, 0), 0, [(2, 4)]),
  (61, (3, 5, 1, 0), 0, []),
  (63, (2, 4, 3, 0), 0, []),
  (65, (2, 5, 1, 0), 0, []),
  (67, (13, 155, 30, 0), 0, [(2, 4)]),
  (70, (6, 97, 0, 0), 0, []),
  (73, (2, 4, 3, 0), 0, []),
  (75, (9, 158, 4, 0), 0, []),
  (78, (2, 5, 1, 0), 0, []),
  (80, (11, 2, 0, 0), 0, []),
  (81, (9, 162, 2, 5), 0, []),
  (84, (6, 97, 1, 0), 0, []),
  (87, (2, 4, 3, 0), 0, []),
  (89, (2, 5, 1, 0), 0, []),
  (91, (13, 168, 32, 0), 0, [(2, 4)]),
  (94, (8, 122, 0, 0), 0, []),
  (97, (2, 0, 2, 0), 0, []),
  (98, (2, 4, 3, 0), 0, []),
  (100, (2, 2, 0, 0), 0, []),
  (101, (13, 171, 73, 0), 0, [(3, 8)]),
  (104, (6, 122, 1, 0), 0, []),
  (107, (2, 4, 3, 0), 0, []),
  (109, (2, 5, 1, 0), 0, []),
  (111, (13, 175, 33, 0), 0, [(2, 4)]),
  (114, (2, 0, 2, 0), 0, []),
  (115, (2, 4, 3, 0), 0, []),
  (117, (2, 2, 0, 0), 0, []),
  (118, (13, 178, 74, 0), 0, [(3, 8)]),
  (121, (14, 0, 0, 0), 0, []),
  (122, (0, 6, 0, 0), 0, []),
  (122, (2, 0, 2, 0), 0, []),
  (123, (2, 4, 3, 0), 0, []),
  (125, (9, 158, 4, 0), 0, []),
  (128, (1, 0, 0, 0), nI 0, []),
  (129, (11, 2, 0, 0), 0, []),
  (130, (2, 3, 0, 0), 0, []),
  (131, (13, 182, 72, 0), 0, [(3, 8)]),
  (134, (3, 6, 1, 0), 0, []),
  (136, (2, 6, 1, 0), 0, []),
  (138, (1, 0, 0, 0), (-1), []),
  (139, (7, 145, 0, 0), 0, []),
  (142, (2, 6, 1, 0), 0, []),
  (144, (14, 0, 0, 0), 0, []),
  (145, (2, 4, 3, 0), 0, []),
  (147, (15, 0, 0, 0), 0, []),
  (148, (9, 186, 4, 6), 0, []),
  (151, (1, 0, 0, 0), nI 1, []),
  (152, (4, 0, 0, 0), 0, []),
  (153, (10, 186, 4, 6), 0, []),
  (156, (2, 4, 3, 0), 0, []),
  (158, (1, 0, 0, 0), nI 0, []),
  (159, (13, 175, 33, 0), 0, [(2, 4)]),
  (162, (2, 0, 2, 0), 0, []),
  (163, (2, 4, 3, 0), 0, []),
  (165, (2, 2, 0, 0), 0, []),
  (166, (13, 171, 73, 0), 0, [(3, 8)]),
  (169, (6, 180, 1, 0), 0, []),
  (172, (2, 0, 2, 0), 0, []),
  (173, (2, 4, 3, 0), 0, []),
  (175, (2, 2, 0, 0), 0, []),
  (176, (13, 178, 74, 0), 0, [(3, 8)]),
  (179, (14, 0, 0, 0), 0, []),
  (180, (2, 4, 3, 0), 0, []),
  (182, (9, 158, 4, 0), 0, []),
  (185, (1, 0, 0, 0), nI 0, []),
  (186, (11, 2, 0, 0), 0, []),
  (187, (9, 189, 2, 1), 0, []),
  (190, (2, 3, 0, 0), 0, []),
  (191, (13, 190, 54, 0), 0, [(2, 7)]),
  (194, (14, 0, 0, 0), 0, [])]
abbrev m_X8_sendLetter : Nat := 71
/-- NameMaps$World.placeByMap(LNameMaps$CacheMap;I)I: 40 entries; loop heads [] -/
def co_X8_placeByMap : List Ent := [(0, (2, 1, 2, 0), 0, []),
  (1, (9, 189, 2, 1), 0, []),
  (4, (2, 2, 0, 0), 0, []),
  (5, (13, 190, 54, 0), 0, [(2, 7)]),
  (8, (3, 3, 0, 0), 0, []),
  (9, (2, 0, 2, 0), 0, []),
  (10, (2, 1, 2, 0), 0, []),
  (11, (9, 193, 2, 2), 0, []),
  (14, (13, 98, 59, 0), 0, [(2, 8)]),
  (17, (6, 22, 1, 0), 0, []),
  (20, (1, 0, 0, 0), (-1), []),
  (21, (14, 0, 0, 0), 0, []),
  (22, (2, 0, 2, 0), 0, []),
  (23, (9, 19, 8, 1), 0, []),
  (26, (2, 1, 2, 0), 0, []),
  (27, (9, 193, 2, 2), 0, []),
  (30, (11, 2, 0, 0), 0, []),
  (31, (3, 4, 3, 0), 0, []),
  (33, (2, 4, 3, 0), 0, []),
  (35, (2, 0, 2, 0), 0, []),
  (36, (9, 65, 8, 6), 0, []),
  (39, (13, 196, 44, 0), 0, [(2, 6)]),
  (42, (6, 57, 0, 0), 0, []),
  (45, (2, 4, 3, 0), 0, []),
  (47, (9, 107, 6, 1), 0, []),
  (50, (2, 3, 0, 0), 0, []),
  (51, (13, 199, 51, 0), 0, [(2, 7)]),
  (54, (6, 59, 1, 0), 0, []),
  (57, (1, 0, 0, 0), (-1), []),
  (58, (14, 0, 0, 0), 0, []),
  (59, (2, 1, 2, 0), 0, []),
  (60, (9, 202, 2, 3), 0, []),
  (63, (2, 4, 3, 0), 0, []),
  (65, (9, 117, 6, 3), 0, []),
  (68, (7, 76, 0, 0), 0, []),
  (71, (2, 1, 2, 0), 0, []),
  (72, (1, 0, 0, 0), nI 1, []),
  (73, (10, 162, 2, 5), 0, []),
  (76, (2, 3, 0, 0), 0, []),
  (77, (14, 0, 0, 0), 0, [])]
abbrev m_X8_placeByMap : Nat := 72
/-- NameMaps$World.ask(LNameMaps$Router;I)Z: 41 entries; loop heads [] -/
def co_X8_ask : List Ent := [(0, (2, 1, 2, 0), 0, []),
  (1, (15, 0, 0, 0), 0, []),
  (2, (9, 203, 4, 2), 0, []),
  (5, (1, 0, 0, 0), nI 1, []),
  (6, (4, 0, 0, 0), 0, []),
  (7, (10, 203, 4, 2), 0, []),
  (10, (2, 1, 2, 0), 0, []),
  (11, (15, 0, 0, 0), 0, []),
  (12, (9, 206, 4, 3), 0, []),
  (15, (2, 0, 2, 0), 0, []),
  (16, (2, 0, 2, 0), 0, []),
  (17, (2, 2, 0, 0), 0, []),
  (18, (1, 0, 0, 0), nI 1, []),
  (19, (13, 209, 75, 0), 0, [(3, 8)]),
  (22, (13, 213, 77, 0), 0, [(2, 8)]),
  (25, (4, 0, 0, 0), 0, []),
  (26, (10, 206, 4, 3), 0, []),
  (29, (2, 0, 2, 0), 0, []),
  (30, (2, 2, 0, 0), 0, []),
  (31, (13, 216, 78, 0), 0, [(2, 8)]),
  (34, (3, 3, 0, 0), 0, []),
  (35, (2, 0, 2, 0), 0, []),
  (36, (2, 3, 0, 0), 0, []),
  (37, (13, 98, 59, 0), 0, [(2, 8)]),
  (40, (6, 45, 1, 0), 0, []),
  (43, (1, 0, 0, 0), nI 0, []),
  (44, (14, 0, 0, 0), 0, []),
  (45, (2, 1, 2, 0), 0, []),
  (46, (2, 3, 0, 0), 0, []),
  (47, (2, 0, 2, 0), 0, []),
  (48, (9, 19, 8, 1), 0, []),
  (51, (2, 3, 0, 0), 0, []),
  (52, (11, 2, 0, 0), 0, []),
  (53, (2, 0, 2, 0), 0, []),
  (54, (9, 65, 8, 6), 0, []),
  (57, (2, 0, 2, 0), 0, []),
  (58, (9, 33, 8, 7), 0, []),
  (61, (4, 0, 0, 0), 0, []),
  (62, (13, 219, 37, 0), 0, [(4, 4)]),
  (65, (1, 0, 0, 0), nI 1, []),
  (66, (14, 0, 0, 0), 0, [])]
abbrev m_X8_ask : Nat := 73
/-- NameMaps$World.goByProxy(LNameMaps$Router;I)I: 12 entries; loop heads [] -/
def co_X8_goByProxy : List Ent := [(0, (2, 1, 2, 0), 0, []),
  (1, (15, 0, 0, 0), 0, []),
  (2, (9, 223, 4, 5), 0, []),
  (5, (1, 0, 0, 0), nI 1, []),
  (6, (4, 0, 0, 0), 0, []),
  (7, (10, 223, 4, 5), 0, []),
  (10, (1, 0, 1, 0), nI 32, []),
  (12, (2, 2, 0, 0), 0, []),
  (13, (1, 0, 1, 0), nI 32, []),
  (15, (4, 3, 0, 0), 0, []),
  (16, (4, 0, 0, 0), 0, []),
  (17, (14, 0, 0, 0), 0, [])]
abbrev m_X8_goByProxy : Nat := 74
/-- NameMaps$World.homeOf(II)I: 35 entries; loop heads [5] -/
def co_X8_homeOf : List Ent := [(0, (1, 0, 0, 0), nI 0, []),
  (1, (3, 3, 0, 0), 0, []),
  (2, (1, 0, 0, 0), nI 1, []),
  (3, (3, 4, 1, 0), 0, []),
  (5, (0, 5, 0, 0), 0, []),
  (5, (2, 4, 1, 0), 0, []),
  (7, (2, 0, 2, 0), 0, []),
  (8, (9, 29, 8, 3), 0, []),
  (11, (7, 65, 3, 0), 0, []),
  (14, (2, 0, 2, 0), 0, []),
  (15, (9, 11, 8, 0), 0, []),
  (18, (2, 4, 1, 0), 0, []),
  (20, (11, 2, 0, 0), 0, []),
  (21, (9, 37, 5, 0), 0, []),
  (24, (3, 5, 3, 0), 0, []),
  (26, (2, 5, 3, 0), 0, []),
  (28, (2, 1, 0, 0), 0, []),
  (29, (2, 2, 0, 0), 0, []),
  (30, (13, 76, 15, 0), 0, [(3, 1)]),
  (33, (6, 59, 0, 0), 0, []),
  (36, (2, 5, 3, 0), 0, []),
  (38, (9, 79, 1, 1), 0, []),
  (41, (2, 0, 2, 0), 0, []),
  (42, (9, 11, 8, 0), 0, []),
  (45, (2, 3, 0, 0), 0, []),
  (46, (11, 2, 0, 0), 0, []),
  (47, (9, 37, 5, 0), 0, []),
  (50, (9, 79, 1, 1), 0, []),
  (53, (7, 59, 3, 0), 0, []),
  (56, (2, 4, 1, 0), 0, []),
  (58, (3, 3, 0, 0), 0, []),
  (59, (5, 4, 0, 0), nI 1, []),
  (62, (8, 5, 0, 0), 0, []),
  (65, (2, 3, 0, 0), 0, []),
  (66, (14, 0, 0, 0), 0, [])]
abbrev m_X8_homeOf : Nat := 75
/-- NameMaps$World.homeOfSite(I)I: 21 entries; loop heads [] -/
def co_X8_homeOfSite : List Ent := [(0, (2, 0, 2, 0), 0, []),
  (1, (2, 1, 0, 0), 0, []),
  (2, (13, 98, 59, 0), 0, [(2, 8)]),
  (5, (6, 39, 0, 0), 0, []),
  (8, (2, 0, 2, 0), 0, []),
  (9, (2, 0, 2, 0), 0, []),
  (10, (9, 19, 8, 1), 0, []),
  (13, (2, 1, 0, 0), 0, []),
  (14, (11, 2, 0, 0), 0, []),
  (15, (9, 88, 6, 0), 0, []),
  (18, (9, 226, 1, 0), 0, []),
  (21, (2, 0, 2, 0), 0, []),
  (22, (9, 19, 8, 1), 0, []),
  (25, (2, 1, 0, 0), 0, []),
  (26, (11, 2, 0, 0), 0, []),
  (27, (9, 88, 6, 0), 0, []),
  (30, (9, 79, 1, 1), 0, []),
  (33, (13, 209, 75, 0), 0, [(3, 8)]),
  (36, (8, 40, 0, 0), 0, []),
  (39, (1, 0, 0, 0), (-1), []),
  (40, (14, 0, 0, 0), 0, [])]
abbrev m_X8_homeOfSite : Nat := 76
/-- NameMaps$World.hopsTo(I)I: 22 entries; loop heads [4] -/
def co_X8_hopsTo : List Ent := [(0, (1, 0, 0, 0), nI 0, []),
  (1, (3, 2, 0, 0), 0, []),
  (2, (2, 1, 0, 0), 0, []),
  (3, (3, 3, 0, 0), 0, []),
  (4, (0, 4, 0, 0), 0, []),
  (4, (2, 0, 2, 0), 0, []),
  (5, (2, 3, 0, 0), 0, []),
  (6, (13, 68, 58, 0), 0, [(2, 8)]),
  (9, (6, 34, 0, 0), 0, []),
  (12, (2, 2, 0, 0), 0, []),
  (13, (1, 0, 1, 0), nI 8, []),
  (15, (7, 34, 3, 0), 0, []),
  (18, (5, 2, 0, 0), nI 1, []),
  (21, (2, 0, 2, 0), 0, []),
  (22, (9, 11, 8, 0), 0, []),
  (25, (2, 3, 0, 0), 0, []),
  (26, (11, 2, 0, 0), 0, []),
  (27, (9, 82, 5, 1), 0, []),
  (30, (3, 3, 0, 0), 0, []),
  (31, (8, 4, 0, 0), 0, []),
  (34, (2, 2, 0, 0), 0, []),
  (35, (14, 0, 0, 0), 0, [])]
abbrev m_X8_hopsTo : Nat := 77
/-- NameMaps$World.answerFor(I)I: 55 entries; loop heads [17] -/
def co_X8_answerFor : List Ent := [(0, (2, 0, 2, 0), 0, []),
  (1, (2, 1, 0, 0), 0, []),
  (2, (1, 0, 0, 0), nI 1, []),
  (3, (13, 209, 75, 0), 0, [(3, 8)]),
  (6, (3, 2, 0, 0), 0, []),
  (7, (1, 0, 0, 0), (-1), []),
  (8, (3, 3, 0, 0), 0, []),
  (9, (1, 0, 2, 0), nI 257, []),
  (12, (3, 4, 1, 0), 0, []),
  (14, (1, 0, 0, 0), nI 0, []),
  (15, (3, 5, 1, 0), 0, []),
  (17, (0, 6, 0, 0), 0, []),
  (17, (2, 5, 1, 0), 0, []),
  (19, (2, 0, 2, 0), 0, []),
  (20, (9, 53, 8, 4), 0, []),
  (23, (7, 108, 3, 0), 0, []),
  (26, (2, 0, 2, 0), 0, []),
  (27, (9, 19, 8, 1), 0, []),
  (30, (2, 5, 1, 0), 0, []),
  (32, (11, 2, 0, 0), 0, []),
  (33, (9, 88, 6, 0), 0, []),
  (36, (3, 6, 3, 0), 0, []),
  (38, (2, 6, 3, 0), 0, []),
  (40, (2, 1, 0, 0), 0, []),
  (41, (13, 229, 14, 0), 0, [(2, 1)]),
  (44, (6, 102, 0, 0), 0, []),
  (47, (2, 6, 3, 0), 0, []),
  (49, (9, 79, 1, 1), 0, []),
  (52, (2, 4, 1, 0), 0, []),
  (54, (7, 102, 3, 0), 0, []),
  (57, (2, 0, 2, 0), 0, []),
  (58, (9, 19, 8, 1), 0, []),
  (61, (2, 5, 1, 0), 0, []),
  (63, (11, 2, 0, 0), 0, []),
  (64, (2, 0, 2, 0), 0, []),
  (65, (9, 65, 8, 6), 0, []),
  (68, (13, 196, 44, 0), 0, [(2, 6)]),
  (71, (6, 102, 0, 0), 0, []),
  (74, (2, 0, 2, 0), 0, []),
  (75, (2, 6, 3, 0), 0, []),
  (77, (9, 226, 1, 0), 0, []),
  (80, (2, 6, 3, 0), 0, []),
  (82, (9, 79, 1, 1), 0, []),
  (85, (13, 209, 75, 0), 0, [(3, 8)]),
  (88, (2, 2, 0, 0), 0, []),
  (89, (7, 102, 1, 0), 0, []),
  (92, (2, 5, 1, 0), 0, []),
  (94, (3, 3, 0, 0), 0, []),
  (95, (2, 6, 3, 0), 0, []),
  (97, (9, 79, 1, 1), 0, []),
  (100, (3, 4, 1, 0), 0, []),
  (102, (5, 5, 0, 0), nI 1, []),
  (105, (8, 17, 0, 0), 0, []),
  (108, (2, 3, 0, 0), 0, []),
  (109, (14, 0, 0, 0), 0, [])]
abbrev m_X8_answerFor : Nat := 78
/-- NameMaps$World.siteEndingAt(I)I: 26 entries; loop heads [2] -/
def co_X8_siteEndingAt : List Ent := [(0, (1, 0, 0, 0), nI 0, []),
  (1, (3, 2, 0, 0), 0, []),
  (2, (0, 3, 0, 0), 0, []),
  (2, (2, 2, 0, 0), 0, []),
  (3, (2, 0, 2, 0), 0, []),
  (4, (9, 53, 8, 4), 0, []),
  (7, (7, 43, 3, 0), 0, []),
  (10, (2, 0, 2, 0), 0, []),
  (11, (9, 19, 8, 1), 0, []),
  (14, (2, 2, 0, 0), 0, []),
  (15, (11, 2, 0, 0), 0, []),
  (16, (2, 0, 2, 0), 0, []),
  (17, (9, 65, 8, 6), 0, []),
  (20, (13, 129, 43, 0), 0, [(2, 6)]),
  (23, (6, 37, 0, 0), 0, []),
  (26, (2, 0, 2, 0), 0, []),
  (27, (2, 2, 0, 0), 0, []),
  (28, (13, 232, 80, 0), 0, [(2, 8)]),
  (31, (2, 1, 0, 0), 0, []),
  (32, (7, 37, 1, 0), 0, []),
  (35, (2, 2, 0, 0), 0, []),
  (36, (14, 0, 0, 0), 0, []),
  (37, (5, 2, 0, 0), nI 1, []),
  (40, (8, 2, 0, 0), 0, []),
  (43, (1, 0, 0, 0), (-1), []),
  (44, (14, 0, 0, 0), 0, [])]
abbrev m_X8_siteEndingAt : Nat := 79
/-- NameMaps$World.sitesEndingAheadOf(I)I: 57 entries; loop heads [27] -/
def co_X8_sitesEndingAheadOf : List Ent := [(0, (2, 0, 2, 0), 0, []),
  (1, (2, 1, 0, 0), 0, []),
  (2, (13, 98, 59, 0), 0, [(2, 8)]),
  (5, (6, 20, 0, 0), 0, []),
  (8, (2, 0, 2, 0), 0, []),
  (9, (9, 19, 8, 1), 0, []),
  (12, (2, 1, 0, 0), 0, []),
  (13, (11, 2, 0, 0), 0, []),
  (14, (9, 126, 6, 4), 0, []),
  (17, (8, 21, 0, 0), 0, []),
  (20, (1, 0, 0, 0), nI 0, []),
  (21, (3, 2, 0, 0), 0, []),
  (22, (1, 0, 0, 0), nI 0, []),
  (23, (3, 3, 0, 0), 0, []),
  (24, (1, 0, 0, 0), nI 0, []),
  (25, (3, 4, 1, 0), 0, []),
  (27, (0, 5, 0, 0), 0, []),
  (27, (2, 4, 1, 0), 0, []),
  (29, (2, 0, 2, 0), 0, []),
  (30, (9, 53, 8, 4), 0, []),
  (33, (7, 108, 3, 0), 0, []),
  (36, (2, 0, 2, 0), 0, []),
  (37, (9, 19, 8, 1), 0, []),
  (40, (2, 4, 1, 0), 0, []),
  (42, (11, 2, 0, 0), 0, []),
  (43, (9, 126, 6, 4), 0, []),
  (46, (2, 2, 0, 0), 0, []),
  (47, (7, 70, 2, 0), 0, []),
  (50, (2, 0, 2, 0), 0, []),
  (51, (9, 19, 8, 1), 0, []),
  (54, (2, 4, 1, 0), 0, []),
  (56, (11, 2, 0, 0), 0, []),
  (57, (9, 126, 6, 4), 0, []),
  (60, (2, 2, 0, 0), 0, []),
  (61, (7, 74, 1, 0), 0, []),
  (64, (2, 4, 1, 0), 0, []),
  (66, (2, 1, 0, 0), 0, []),
  (67, (7, 74, 3, 0), 0, []),
  (70, (1, 0, 0, 0), nI 1, []),
  (71, (8, 75, 0, 0), 0, []),
  (74, (1, 0, 0, 0), nI 0, []),
  (75, (3, 5, 1, 0), 0, []),
  (77, (2, 5, 1, 0), 0, []),
  (79, (6, 102, 0, 0), 0, []),
  (82, (2, 0, 2, 0), 0, []),
  (83, (9, 19, 8, 1), 0, []),
  (86, (2, 4, 1, 0), 0, []),
  (88, (11, 2, 0, 0), 0, []),
  (89, (2, 0, 2, 0), 0, []),
  (90, (9, 65, 8, 6), 0, []),
  (93, (13, 129, 43, 0), 0, [(2, 6)]),
  (96, (6, 102, 0, 0), 0, []),
  (99, (5, 3, 0, 0), nI 1, []),
  (102, (5, 4, 0, 0), nI 1, []),
  (105, (8, 27, 0, 0), 0, []),
  (108, (2, 3, 0, 0), 0, []),
  (109, (14, 0, 0, 0), 0, [])]
abbrev m_X8_sitesEndingAheadOf : Nat := 80
/-- NameMaps$World.serverProperty(II)I: 42 entries; loop heads [] -/
def co_X8_serverProperty : List Ent := [(0, (2, 0, 2, 0), 0, []),
  (1, (2, 1, 0, 0), 0, []),
  (2, (13, 68, 58, 0), 0, [(2, 8)]),
  (5, (6, 10, 1, 0), 0, []),
  (8, (1, 0, 0, 0), (-1), []),
  (9, (14, 0, 0, 0), 0, []),
  (10, (2, 2, 0, 0), 0, []),
  (11, (18, 102, 37, 0), 0, [(0, 48), (1, 58), (2, 71), (3, 84), (4, 90), (5, 96)]),
  (48, (2, 0, 2, 0), 0, []),
  (49, (9, 11, 8, 0), 0, []),
  (52, (2, 1, 0, 0), 0, []),
  (53, (11, 2, 0, 0), 0, []),
  (54, (9, 82, 5, 1), 0, []),
  (57, (14, 0, 0, 0), 0, []),
  (58, (2, 0, 2, 0), 0, []),
  (59, (9, 11, 8, 0), 0, []),
  (62, (2, 1, 0, 0), 0, []),
  (63, (11, 2, 0, 0), 0, []),
  (64, (9, 37, 5, 0), 0, []),
  (67, (9, 226, 1, 0), 0, []),
  (70, (14, 0, 0, 0), 0, []),
  (71, (2, 0, 2, 0), 0, []),
  (72, (9, 11, 8, 0), 0, []),
  (75, (2, 1, 0, 0), 0, []),
  (76, (11, 2, 0, 0), 0, []),
  (77, (9, 37, 5, 0), 0, []),
  (80, (9, 79, 1, 1), 0, []),
  (83, (14, 0, 0, 0), 0, []),
  (84, (2, 0, 2, 0), 0, []),
  (85, (2, 1, 0, 0), 0, []),
  (86, (13, 235, 82, 0), 0, [(2, 8)]),
  (89, (14, 0, 0, 0), 0, []),
  (90, (2, 0, 2, 0), 0, []),
  (91, (2, 1, 0, 0), 0, []),
  (92, (13, 213, 77, 0), 0, [(2, 8)]),
  (95, (14, 0, 0, 0), 0, []),
  (96, (2, 0, 2, 0), 0, []),
  (97, (2, 1, 0, 0), 0, []),
  (98, (13, 238, 83, 0), 0, [(2, 8)]),
  (101, (14, 0, 0, 0), 0, []),
  (102, (1, 0, 1, 0), (-2), []),
  (104, (14, 0, 0, 0), 0, [])]
abbrev m_X8_serverProperty : Nat := 81
/-- NameMaps$World.childrenOf(I)I: 21 entries; loop heads [4] -/
def co_X8_childrenOf : List Ent := [(0, (1, 0, 0, 0), nI 0, []),
  (1, (3, 2, 0, 0), 0, []),
  (2, (1, 0, 0, 0), nI 0, []),
  (3, (3, 3, 0, 0), 0, []),
  (4, (0, 4, 0, 0), 0, []),
  (4, (2, 3, 0, 0), 0, []),
  (5, (2, 0, 2, 0), 0, []),
  (6, (9, 29, 8, 3), 0, []),
  (9, (7, 34, 3, 0), 0, []),
  (12, (2, 0, 2, 0), 0, []),
  (13, (9, 11, 8, 0), 0, []),
  (16, (2, 3, 0, 0), 0, []),
  (17, (11, 2, 0, 0), 0, []),
  (18, (9, 82, 5, 1), 0, []),
  (21, (2, 1, 0, 0), 0, []),
  (22, (7, 28, 1, 0), 0, []),
  (25, (5, 2, 0, 0), nI 1, []),
  (28, (5, 3, 0, 0), nI 1, []),
  (31, (8, 4, 0, 0), 0, []),
  (34, (2, 2, 0, 0), 0, []),
  (35, (14, 0, 0, 0), 0, [])]
abbrev m_X8_childrenOf : Nat := 82
/-- NameMaps$World.sitesAtHome(I)I: 19 entries; loop heads [4] -/
def co_X8_sitesAtHome : List Ent := [(0, (1, 0, 0, 0), nI 0, []),
  (1, (3, 2, 0, 0), 0, []),
  (2, (1, 0, 0, 0), nI 0, []),
  (3, (3, 3, 0, 0), 0, []),
  (4, (0, 4, 0, 0), 0, []),
  (4, (2, 3, 0, 0), 0, []),
  (5, (2, 0, 2, 0), 0, []),
  (6, (9, 53, 8, 4), 0, []),
  (9, (7, 30, 3, 0), 0, []),
  (12, (2, 0, 2, 0), 0, []),
  (13, (2, 3, 0, 0), 0, []),
  (14, (13, 241, 76, 0), 0, [(2, 8)]),
  (17, (2, 1, 0, 0), 0, []),
  (18, (7, 24, 1, 0), 0, []),
  (21, (5, 2, 0, 0), nI 1, []),
  (24, (5, 3, 0, 0), nI 1, []),
  (27, (8, 4, 0, 0), 0, []),
  (30, (2, 2, 0, 0), 0, []),
  (31, (14, 0, 0, 0), 0, [])]
abbrev m_X8_sitesAtHome : Nat := 83
/-- NameMaps$World.siteProperty(II)I: 62 entries; loop heads [] -/
def co_X8_siteProperty : List Ent := [(0, (2, 0, 2, 0), 0, []),
  (1, (2, 1, 0, 0), 0, []),
  (2, (13, 98, 59, 0), 0, [(2, 8)]),
  (5, (6, 10, 1, 0), 0, []),
  (8, (1, 0, 0, 0), (-1), []),
  (9, (14, 0, 0, 0), 0, []),
  (10, (2, 2, 0, 0), 0, []),
  (11, (18, 146, 45, 0), 0, [(0, 56), (1, 69), (2, 82), (3, 92), (4, 102), (5, 112), (6, 118), (7, 140)]),
  (56, (2, 0, 2, 0), 0, []),
  (57, (9, 19, 8, 1), 0, []),
  (60, (2, 1, 0, 0), 0, []),
  (61, (11, 2, 0, 0), 0, []),
  (62, (9, 88, 6, 0), 0, []),
  (65, (9, 226, 1, 0), 0, []),
  (68, (14, 0, 0, 0), 0, []),
  (69, (2, 0, 2, 0), 0, []),
  (70, (9, 19, 8, 1), 0, []),
  (73, (2, 1, 0, 0), 0, []),
  (74, (11, 2, 0, 0), 0, []),
  (75, (9, 88, 6, 0), 0, []),
  (78, (9, 79, 1, 1), 0, []),
  (81, (14, 0, 0, 0), 0, []),
  (82, (2, 0, 2, 0), 0, []),
  (83, (9, 19, 8, 1), 0, []),
  (86, (2, 1, 0, 0), 0, []),
  (87, (11, 2, 0, 0), 0, []),
  (88, (9, 123, 6, 2), 0, []),
  (91, (14, 0, 0, 0), 0, []),
  (92, (2, 0, 2, 0), 0, []),
  (93, (9, 19, 8, 1), 0, []),
  (96, (2, 1, 0, 0), 0, []),
  (97, (11, 2, 0, 0), 0, []),
  (98, (9, 117, 6, 3), 0, []),
  (101, (14, 0, 0, 0), 0, []),
  (102, (2, 0, 2, 0), 0, []),
  (103, (9, 19, 8, 1), 0, []),
  (106, (2, 1, 0, 0), 0, []),
  (107, (11, 2, 0, 0), 0, []),
  (108, (9, 126, 6, 4), 0, []),
  (111, (14, 0, 0, 0), 0, []),
  (112, (2, 0, 2, 0), 0, []),
  (113, (2, 1, 0, 0), 0, []),
  (114, (13, 241, 76, 0), 0, [(2, 8)]),
  (117, (14, 0, 0, 0), 0, []),
  (118, (2, 0, 2, 0), 0, []),
  (119, (9, 19, 8, 1), 0, []),
  (122, (2, 1, 0, 0), 0, []),
  (123, (11, 2, 0, 0), 0, []),
  (124, (2, 0, 2, 0), 0, []),
  (125, (9, 65, 8, 6), 0, []),
  (128, (13, 196, 44, 0), 0, [(2, 6)]),
  (131, (6, 138, 0, 0), 0, []),
  (134, (1, 0, 0, 0), nI 1, []),
  (135, (8, 139, 0, 0), 0, []),
  (138, (1, 0, 0, 0), nI 0, []),
  (139, (14, 0, 0, 0), 0, []),
  (140, (2, 0, 2, 0), 0, []),
  (141, (2, 1, 0, 0), 0, []),
  (142, (13, 244, 85, 0), 0, [(2, 8)]),
  (145, (14, 0, 0, 0), 0, []),
  (146, (1, 0, 1, 0), (-2), []),
  (148, (14, 0, 0, 0), 0, [])]
abbrev m_X8_siteProperty : Nat := 84
/-- NameMaps$World.mapsOf(I)I: 22 entries; loop heads [4] -/
def co_X8_mapsOf : List Ent := [(0, (1, 0, 0, 0), nI 0, []),
  (1, (3, 2, 0, 0), 0, []),
  (2, (1, 0, 0, 0), nI 0, []),
  (3, (3, 3, 0, 0), 0, []),
  (4, (0, 4, 0, 0), 0, []),
  (4, (2, 3, 0, 0), 0, []),
  (5, (2, 0, 2, 0), 0, []),
  (6, (9, 59, 8, 5), 0, []),
  (9, (7, 35, 3, 0), 0, []),
  (12, (2, 0, 2, 0), 0, []),
  (13, (9, 25, 8, 2), 0, []),
  (16, (2, 3, 0, 0), 0, []),
  (17, (11, 2, 0, 0), 0, []),
  (18, (2, 1, 0, 0), 0, []),
  (19, (13, 247, 35, 0), 0, [(2, 4)]),
  (22, (1, 0, 0, 0), (-1), []),
  (23, (7, 29, 0, 0), 0, []),
  (26, (5, 2, 0, 0), nI 1, []),
  (29, (5, 3, 0, 0), nI 1, []),
  (32, (8, 4, 0, 0), 0, []),
  (35, (2, 2, 0, 0), 0, []),
  (36, (14, 0, 0, 0), 0, [])]
abbrev m_X8_mapsOf : Nat := 85
/-- NameMaps$World.totalOf(I)I: 45 entries; loop heads [] -/
def co_X8_totalOf : List Ent := [(0, (2, 1, 0, 0), 0, []),
  (1, (18, 137, 71, 0), 0, [(0, 72), (1, 77), (2, 82), (3, 87), (4, 92), (5, 97), (6, 103), (7, 109), (8, 115), (9, 121), (10, 127), (11, 137), (12, 137), (13, 132)]),
  (72, (2, 0, 2, 0), 0, []),
  (73, (9, 65, 8, 6), 0, []),
  (76, (14, 0, 0, 0), 0, []),
  (77, (2, 0, 2, 0), 0, []),
  (78, (9, 29, 8, 3), 0, []),
  (81, (14, 0, 0, 0), 0, []),
  (82, (2, 0, 2, 0), 0, []),
  (83, (9, 53, 8, 4), 0, []),
  (86, (14, 0, 0, 0), 0, []),
  (87, (2, 0, 2, 0), 0, []),
  (88, (9, 59, 8, 5), 0, []),
  (91, (14, 0, 0, 0), 0, []),
  (92, (2, 0, 2, 0), 0, []),
  (93, (13, 250, 87, 0), 0, [(1, 8)]),
  (96, (14, 0, 0, 0), 0, []),
  (97, (2, 0, 2, 0), 0, []),
  (98, (1, 0, 0, 0), nI 0, []),
  (99, (13, 254, 88, 0), 0, [(2, 8)]),
  (102, (14, 0, 0, 0), 0, []),
  (103, (2, 0, 2, 0), 0, []),
  (104, (1, 0, 0, 0), nI 1, []),
  (105, (13, 254, 88, 0), 0, [(2, 8)]),
  (108, (14, 0, 0, 0), 0, []),
  (109, (2, 0, 2, 0), 0, []),
  (110, (1, 0, 0, 0), nI 3, []),
  (111, (13, 254, 88, 0), 0, [(2, 8)]),
  (114, (14, 0, 0, 0), 0, []),
  (115, (2, 0, 2, 0), 0, []),
  (116, (1, 0, 0, 0), nI 4, []),
  (117, (13, 254, 88, 0), 0, [(2, 8)]),
  (120, (14, 0, 0, 0), 0, []),
  (121, (2, 0, 2, 0), 0, []),
  (122, (1, 0, 0, 0), nI 5, []),
  (123, (13, 254, 88, 0), 0, [(2, 8)]),
  (126, (14, 0, 0, 0), 0, []),
  (127, (2, 0, 2, 0), 0, []),
  (128, (9, 33, 8, 7), 0, []),
  (131, (14, 0, 0, 0), 0, []),
  (132, (2, 0, 2, 0), 0, []),
  (133, (13, 257, 89, 0), 0, [(1, 8)]),
  (136, (14, 0, 0, 0), 0, []),
  (137, (1, 0, 1, 0), (-2), []),
  (139, (14, 0, 0, 0), 0, [])]
abbrev m_X8_totalOf : Nat := 86
/-- NameMaps$World.sitesUp()I: 22 entries; loop heads [4] -/
def co_X8_sitesUp : List Ent := [(0, (1, 0, 0, 0), nI 0, []),
  (1, (3, 1, 0, 0), 0, []),
  (2, (1, 0, 0, 0), nI 0, []),
  (3, (3, 2, 0, 0), 0, []),
  (4, (0, 3, 0, 0), 0, []),
  (4, (2, 2, 0, 0), 0, []),
  (5, (2, 0, 2, 0), 0, []),
  (6, (9, 53, 8, 4), 0, []),
  (9, (7, 37, 3, 0), 0, []),
  (12, (2, 0, 2, 0), 0, []),
  (13, (9, 19, 8, 1), 0, []),
  (16, (2, 2, 0, 0), 0, []),
  (17, (11, 2, 0, 0), 0, []),
  (18, (2, 0, 2, 0), 0, []),
  (19, (9, 65, 8, 6), 0, []),
  (22, (13, 196, 44, 0), 0, [(2, 6)]),
  (25, (6, 31, 0, 0), 0, []),
  (28, (5, 1, 0, 0), nI 1, []),
  (31, (5, 2, 0, 0), nI 1, []),
  (34, (8, 4, 0, 0), 0, []),
  (37, (2, 1, 0, 0), 0, []),
  (38, (14, 0, 0, 0), 0, [])]
abbrev m_X8_sitesUp : Nat := 87
/-- NameMaps$World.sumOverRouters(I)I: 22 entries; loop heads [4] -/
def co_X8_sumOverRouters : List Ent := [(0, (1, 0, 0, 0), nI 0, []),
  (1, (3, 2, 0, 0), 0, []),
  (2, (1, 0, 0, 0), nI 0, []),
  (3, (3, 3, 0, 0), 0, []),
  (4, (0, 4, 0, 0), 0, []),
  (4, (2, 3, 0, 0), 0, []),
  (5, (2, 0, 2, 0), 0, []),
  (6, (9, 59, 8, 5), 0, []),
  (9, (7, 31, 3, 0), 0, []),
  (12, (2, 2, 0, 0), 0, []),
  (13, (2, 0, 2, 0), 0, []),
  (14, (9, 25, 8, 2), 0, []),
  (17, (2, 3, 0, 0), 0, []),
  (18, (11, 2, 0, 0), 0, []),
  (19, (2, 1, 0, 0), 0, []),
  (20, (13, 260, 31, 0), 0, [(2, 4)]),
  (23, (4, 0, 0, 0), 0, []),
  (24, (3, 2, 0, 0), 0, []),
  (25, (5, 3, 0, 0), nI 1, []),
  (28, (8, 4, 0, 0), 0, []),
  (31, (2, 2, 0, 0), 0, []),
  (32, (14, 0, 0, 0), 0, [])]
abbrev m_X8_sumOverRouters : Nat := 88
/-- NameMaps$World.namesWithAnswer()I: 18 entries; loop heads [4] -/
def co_X8_namesWithAnswer : List Ent := [(0, (1, 0, 0, 0), nI 0, []),
  (1, (3, 1, 0, 0), 0, []),
  (2, (1, 0, 0, 0), nI 0, []),
  (3, (3, 2, 0, 0), 0, []),
  (4, (0, 3, 0, 0), 0, []),
  (4, (2, 2, 0, 0), 0, []),
  (5, (1, 0, 2, 0), nI 256, []),
  (8, (7, 29, 3, 0), 0, []),
  (11, (2, 0, 2, 0), 0, []),
  (12, (2, 2, 0, 0), 0, []),
  (13, (13, 216, 78, 0), 0, [(2, 8)]),
  (16, (1, 0, 0, 0), (-1), []),
  (17, (7, 23, 0, 0), 0, []),
  (20, (5, 1, 0, 0), nI 1, []),
  (23, (5, 2, 0, 0), nI 1, []),
  (26, (8, 4, 0, 0), 0, []),
  (29, (2, 1, 0, 0), 0, []),
  (30, (14, 0, 0, 0), 0, [])]
abbrev m_X8_namesWithAnswer : Nat := 89
/-- NameMaps.<init>()V: 46 entries; loop heads [47] -/
def co_X9_init : List Ent := [(0, (2, 0, 2, 0), 0, []),
  (1, (24, 1, 999, 0), 0, []),
  (4, (2, 0, 2, 0), 0, []),
  (5, (21, 7, 8, 0), 0, []),
  (8, (15, 0, 0, 0), 0, []),
  (9, (24, 9, 56, 0), 0, [(1, 0)]),
  (12, (10, 10, 9, 0), 0, []),
  (15, (2, 0, 2, 0), 0, []),
  (16, (21, 7, 8, 0), 0, []),
  (19, (15, 0, 0, 0), 0, []),
  (20, (24, 9, 56, 0), 0, [(1, 0)]),
  (23, (10, 16, 9, 1), 0, []),
  (26, (2, 0, 2, 0), 0, []),
  (27, (21, 19, 3, 0), 0, []),
  (30, (15, 0, 0, 0), 0, []),
  (31, (24, 21, 22, 0), 0, [(1, 0)]),
  (34, (10, 22, 9, 2), 0, []),
  (37, (2, 0, 2, 0), 0, []),
  (38, (1, 0, 0, 0), nI 2, []),
  (39, (23, 7, 8, 0), 0, []),
  (42, (10, 26, 9, 3), 0, []),
  (45, (1, 0, 0, 0), nI 0, []),
  (46, (3, 1, 0, 0), 0, []),
  (47, (0, 2, 0, 0), 0, []),
  (47, (2, 1, 0, 0), 0, []),
  (48, (1, 0, 0, 0), nI 2, []),
  (49, (7, 71, 3, 0), 0, []),
  (52, (2, 0, 2, 0), 0, []),
  (53, (9, 26, 9, 3), 0, []),
  (56, (2, 1, 0, 0), 0, []),
  (57, (21, 7, 8, 0), 0, []),
  (60, (15, 0, 0, 0), 0, []),
  (61, (24, 9, 56, 0), 0, [(1, 0)]),
  (64, (12, 2, 0, 0), 0, []),
  (65, (5, 1, 0, 0), nI 1, []),
  (68, (8, 47, 0, 0), 0, []),
  (71, (2, 0, 2, 0), 0, []),
  (72, (1, 0, 0, 0), nI 2, []),
  (73, (22, 1, 0, 0), 0, []),
  (75, (10, 30, 9, 4), 0, []),
  (78, (2, 0, 2, 0), 0, []),
  (79, (21, 34, 0, 0), 0, []),
  (82, (15, 0, 0, 0), 0, []),
  (83, (24, 36, 0, 1), 0, [(1, 0)]),
  (86, (10, 37, 9, 5), 0, []),
  (89, (14, 1, 0, 0), 0, [])]
abbrev m_X9_init : Nat := 90
/-- NameMaps.addServer(III)I: 14 entries; loop heads [] -/
def co_X9_addServer : List Ent := [(0, (2, 0, 2, 0), 0, []),
  (1, (9, 22, 9, 2), 0, []),
  (4, (2, 0, 2, 0), 0, []),
  (5, (9, 10, 9, 0), 0, []),
  (8, (13, 41, 24, 0), 0, [(2, 3)]),
  (11, (2, 0, 2, 0), 0, []),
  (12, (2, 0, 2, 0), 0, []),
  (13, (9, 10, 9, 0), 0, []),
  (16, (2, 1, 0, 0), 0, []),
  (17, (2, 2, 0, 0), 0, []),
  (18, (2, 3, 0, 0), 0, []),
  (19, (13, 45, 61, 0), 0, [(4, 8)]),
  (22, (13, 49, 121, 0), 0, [(2, 9)]),
  (25, (14, 0, 0, 0), 0, [])]
abbrev m_X9_addServer : Nat := 91
/-- NameMaps.addSite(III)I: 14 entries; loop heads [] -/
def co_X9_addSite : List Ent := [(0, (2, 0, 2, 0), 0, []),
  (1, (9, 22, 9, 2), 0, []),
  (4, (2, 0, 2, 0), 0, []),
  (5, (9, 10, 9, 0), 0, []),
  (8, (13, 41, 24, 0), 0, [(2, 3)]),
  (11, (2, 0, 2, 0), 0, []),
  (12, (2, 0, 2, 0), 0, []),
  (13, (9, 10, 9, 0), 0, []),
  (16, (2, 1, 0, 0), 0, []),
  (17, (2, 2, 0, 0), 0, []),
  (18, (2, 3, 0, 0), 0, []),
  (19, (13, 53, 62, 0), 0, [(4, 8)]),
  (22, (13, 49, 121, 0), 0, [(2, 9)]),
  (25, (14, 0, 0, 0), 0, [])]
abbrev m_X9_addSite : Nat := 92
/-- NameMaps.addRouter()I: 11 entries; loop heads [] -/
def co_X9_addRouter : List Ent := [(0, (2, 0, 2, 0), 0, []),
  (1, (9, 22, 9, 2), 0, []),
  (4, (2, 0, 2, 0), 0, []),
  (5, (9, 10, 9, 0), 0, []),
  (8, (13, 41, 24, 0), 0, [(2, 3)]),
  (11, (2, 0, 2, 0), 0, []),
  (12, (2, 0, 2, 0), 0, []),
  (13, (9, 10, 9, 0), 0, []),
  (16, (13, 56, 63, 0), 0, [(1, 8)]),
  (19, (13, 49, 121, 0), 0, [(2, 9)]),
  (22, (14, 0, 0, 0), 0, [])]
abbrev m_X9_addRouter : Nat := 93
/-- NameMaps.setSlot(IIIII)I: 16 entries; loop heads [] -/
def co_X9_setSlot : List Ent := [(0, (2, 0, 2, 0), 0, []),
  (1, (9, 22, 9, 2), 0, []),
  (4, (2, 0, 2, 0), 0, []),
  (5, (9, 10, 9, 0), 0, []),
  (8, (13, 41, 24, 0), 0, [(2, 3)]),
  (11, (2, 0, 2, 0), 0, []),
  (12, (2, 0, 2, 0), 0, []),
  (13, (9, 10, 9, 0), 0, []),
  (16, (2, 1, 0, 0), 0, []),
  (17, (2, 2, 0, 0), 0, []),
  (18, (2, 3, 0, 0), 0, []),
  (19, (2, 4, 1, 0), 0, []),
  (21, (2, 5, 1, 0), 0, []),
  (23, (13, 60, 64, 0), 0, [(6, 8)]),
  (26, (13, 49, 121, 0), 0, [(2, 9)]),
  (29, (14, 0, 0, 0), 0, [])]
abbrev m_X9_setSlot : Nat := 94
/-- NameMaps.emptySlot(II)I: 13 entries; loop heads [] -/
def co_X9_emptySlot : List Ent := [(0, (2, 0, 2, 0), 0, []),
  (1, (9, 22, 9, 2), 0, []),
  (4, (2, 0, 2, 0), 0, []),
  (5, (9, 10, 9, 0), 0, []),
  (8, (13, 41, 24, 0), 0, [(2, 3)]),
  (11, (2, 0, 2, 0), 0, []),
  (12, (2, 0, 2, 0), 0, []),
  (13, (9, 10, 9, 0), 0, []),
  (16, (2, 1, 0, 0), 0, []),
  (17, (2, 2, 0, 0), 0, []),
  (18, (13, 64, 65, 0), 0, [(3, 8)]),
  (21, (13, 49, 121, 0), 0, [(2, 9)]),
  (24, (14, 0, 0, 0), 0, [])]
abbrev m_X9_emptySlot : Nat := 95
/-- NameMaps.register(I)I: 12 entries; loop heads [] -/
def co_X9_register : List Ent := [(0, (2, 0, 2, 0), 0, []),
  (1, (9, 22, 9, 2), 0, []),
  (4, (2, 0, 2, 0), 0, []),
  (5, (9, 10, 9, 0), 0, []),
  (8, (13, 41, 24, 0), 0, [(2, 3)]),
  (11, (2, 0, 2, 0), 0, []),
  (12, (2, 0, 2, 0), 0, []),
  (13, (9, 10, 9, 0), 0, []),
  (16, (2, 1, 0, 0), 0, []),
  (17, (13, 68, 66, 0), 0, [(2, 8)]),
  (20, (13, 49, 121, 0), 0, [(2, 9)]),
  (23, (14, 0, 0, 0), 0, [])]
abbrev m_X9_register : Nat := 96
/-- NameMaps.unregister(I)I: 12 entries; loop heads [] -/
def co_X9_unregister : List Ent := [(0, (2, 0, 2, 0), 0, []),
  (1, (9, 22, 9, 2), 0, []),
  (4, (2, 0, 2, 0), 0, []),
  (5, (9, 10, 9, 0), 0, []),
  (8, (13, 41, 24, 0), 0, [(2, 3)]),
  (11, (2, 0, 2, 0), 0, []),
  (12, (2, 0, 2, 0), 0, []),
  (13, (9, 10, 9, 0), 0, []),
  (16, (2, 1, 0, 0), 0, []),
  (17, (13, 71, 67, 0), 0, [(2, 8)]),
  (20, (13, 49, 121, 0), 0, [(2, 9)]),
  (23, (14, 0, 0, 0), 0, [])]
abbrev m_X9_unregister : Nat := 97
/-- NameMaps.setMapLife(I)I: 12 entries; loop heads [] -/
def co_X9_setMapLife : List Ent := [(0, (2, 0, 2, 0), 0, []),
  (1, (9, 22, 9, 2), 0, []),
  (4, (2, 0, 2, 0), 0, []),
  (5, (9, 10, 9, 0), 0, []),
  (8, (13, 41, 24, 0), 0, [(2, 3)]),
  (11, (2, 0, 2, 0), 0, []),
  (12, (2, 0, 2, 0), 0, []),
  (13, (9, 10, 9, 0), 0, []),
  (16, (2, 1, 0, 0), 0, []),
  (17, (13, 74, 68, 0), 0, [(2, 8)]),
  (20, (13, 49, 121, 0), 0, [(2, 9)]),
  (23, (14, 0, 0, 0), 0, [])]
abbrev m_X9_setMapLife : Nat := 98
/-- NameMaps.send(III)I: 14 entries; loop heads [] -/
def co_X9_send : List Ent := [(0, (2, 0, 2, 0), 0, []),
  (1, (9, 22, 9, 2), 0, []),
  (4, (2, 0, 2, 0), 0, []),
  (5, (9, 10, 9, 0), 0, []),
  (8, (13, 41, 24, 0), 0, [(2, 3)]),
  (11, (2, 0, 2, 0), 0, []),
  (12, (2, 0, 2, 0), 0, []),
  (13, (9, 10, 9, 0), 0, []),
  (16, (2, 1, 0, 0), 0, []),
  (17, (2, 2, 0, 0), 0, []),
  (18, (2, 3, 0, 0), 0, []),
  (19, (13, 77, 71, 0), 0, [(4, 8)]),
  (22, (13, 49, 121, 0), 0, [(2, 9)]),
  (25, (14, 0, 0, 0), 0, [])]
abbrev m_X9_send : Nat := 99
/-- NameMaps.pass(I)I: 12 entries; loop heads [] -/
def co_X9_pass : List Ent := [(0, (2, 0, 2, 0), 0, []),
  (1, (9, 22, 9, 2), 0, []),
  (4, (2, 0, 2, 0), 0, []),
  (5, (9, 10, 9, 0), 0, []),
  (8, (13, 41, 24, 0), 0, [(2, 3)]),
  (11, (2, 0, 2, 0), 0, []),
  (12, (2, 0, 2, 0), 0, []),
  (13, (9, 10, 9, 0), 0, []),
  (16, (2, 1, 0, 0), 0, []),
  (17, (13, 80, 69, 0), 0, [(2, 8)]),
  (20, (13, 49, 121, 0), 0, [(2, 9)]),
  (23, (14, 0, 0, 0), 0, [])]
abbrev m_X9_pass : Nat := 100
/-- NameMaps.forget(I)I: 12 entries; loop heads [] -/
def co_X9_forget : List Ent := [(0, (2, 0, 2, 0), 0, []),
  (1, (9, 22, 9, 2), 0, []),
  (4, (2, 0, 2, 0), 0, []),
  (5, (9, 10, 9, 0), 0, []),
  (8, (13, 41, 24, 0), 0, [(2, 3)]),
  (11, (2, 0, 2, 0), 0, []),
  (12, (2, 0, 2, 0), 0, []),
  (13, (9, 10, 9, 0), 0, []),
  (16, (2, 1, 0, 0), 0, []),
  (17, (13, 83, 70, 0), 0, [(2, 8)]),
  (20, (13, 49, 121, 0), 0, [(2, 9)]),
  (23, (14, 0, 0, 0), 0, [])]
abbrev m_X9_forget : Nat := 101
/-- NameMaps.append(I)I: 5 entries; loop heads [] -/
def co_X9_append : List Ent := [(0, (2, 0, 2, 0), 0, []),
  (1, (9, 37, 9, 5), 0, []),
  (4, (2, 1, 0, 0), 0, []),
  (5, (13, 86, 1, 0), 0, [(2, 0)]),
  (8, (14, 0, 0, 0), 0, [])]
abbrev m_X9_append : Nat := 102
/-- NameMaps.clearText()I: 10 entries; loop heads [] -/
def co_X9_clearText : List Ent := [(0, (2, 0, 2, 0), 0, []),
  (1, (9, 37, 9, 5), 0, []),
  (4, (9, 89, 0, 1), 0, []),
  (7, (3, 1, 0, 0), 0, []),
  (8, (2, 0, 2, 0), 0, []),
  (9, (9, 37, 9, 5), 0, []),
  (12, (1, 0, 0, 0), nI 0, []),
  (13, (10, 89, 0, 1), 0, []),
  (16, (2, 1, 0, 0), 0, []),
  (17, (14, 0, 0, 0), 0, [])]
abbrev m_X9_clearText : Nat := 103
/-- NameMaps.faultPosition()I: 11 entries; loop heads [] -/
def co_X9_faultPosition : List Ent := [(0, (2, 0, 2, 0), 0, []),
  (1, (9, 37, 9, 5), 0, []),
  (4, (13, 93, 3, 0), 0, [(1, 0)]),
  (7, (3, 1, 0, 0), 0, []),
  (8, (2, 1, 0, 0), 0, []),
  (9, (1, 0, 0, 0), (-1), []),
  (10, (7, 18, 1, 0), 0, []),
  (13, (1, 0, 1, 0), (-5), []),
  (15, (8, 19, 0, 0), 0, []),
  (18, (2, 1, 0, 0), 0, []),
  (19, (14, 0, 0, 0), 0, [])]
abbrev m_X9_faultPosition : Nat := 104
/-- NameMaps.run()I: 34 entries; loop heads [34] -/
def co_X9_run : List Ent := [(0, (2, 0, 2, 0), 0, []),
  (1, (9, 37, 9, 5), 0, []),
  (4, (13, 93, 3, 0), 0, [(1, 0)]),
  (7, (1, 0, 0, 0), (-1), []),
  (8, (7, 14, 0, 0), 0, []),
  (11, (1, 0, 1, 0), (-3), []),
  (13, (14, 0, 0, 0), 0, []),
  (14, (2, 0, 2, 0), 0, []),
  (15, (9, 22, 9, 2), 0, []),
  (18, (2, 0, 2, 0), 0, []),
  (19, (9, 10, 9, 0), 0, []),
  (22, (13, 41, 24, 0), 0, [(2, 3)]),
  (25, (2, 0, 2, 0), 0, []),
  (26, (9, 37, 9, 5), 0, []),
  (29, (13, 96, 2, 0), 0, [(1, 0)]),
  (32, (1, 0, 0, 0), nI 0, []),
  (33, (3, 1, 0, 0), 0, []),
  (34, (0, 2, 0, 0), 0, []),
  (34, (2, 1, 0, 0), 0, []),
  (35, (1, 0, 1, 0), nI 80, []),
  (37, (7, 63, 3, 0), 0, []),
  (40, (2, 0, 2, 0), 0, []),
  (41, (9, 37, 9, 5), 0, []),
  (44, (13, 99, 4, 0), 0, [(1, 0)]),
  (47, (6, 63, 0, 0), 0, []),
  (50, (2, 0, 2, 0), 0, []),
  (51, (13, 103, 122, 0), 0, [(1, 9)]),
  (54, (6, 63, 2, 0), 0, []),
  (57, (5, 1, 0, 0), nI 1, []),
  (60, (8, 34, 0, 0), 0, []),
  (63, (2, 0, 2, 0), 0, []),
  (64, (2, 1, 0, 0), 0, []),
  (65, (13, 49, 121, 0), 0, [(2, 9)]),
  (68, (14, 0, 0, 0), 0, [])]
abbrev m_X9_run : Nat := 105
/-- NameMaps.undo()I: 15 entries; loop heads [] -/
def co_X9_undo : List Ent := [(0, (2, 0, 2, 0), 0, []),
  (1, (9, 22, 9, 2), 0, []),
  (4, (9, 106, 3, 2), 0, []),
  (7, (6, 13, 1, 0), 0, []),
  (10, (1, 0, 1, 0), (-3), []),
  (12, (14, 0, 0, 0), 0, []),
  (13, (2, 0, 2, 0), 0, []),
  (14, (9, 22, 9, 2), 0, []),
  (17, (2, 0, 2, 0), 0, []),
  (18, (9, 10, 9, 0), 0, []),
  (21, (13, 109, 26, 0), 0, [(2, 3)]),
  (24, (2, 0, 2, 0), 0, []),
  (25, (9, 22, 9, 2), 0, []),
  (28, (9, 106, 3, 2), 0, []),
  (31, (14, 0, 0, 0), 0, [])]
abbrev m_X9_undo : Nat := 106
/-- NameMaps.save(I)I: 21 entries; loop heads [] -/
def co_X9_save : List Ent := [(0, (2, 1, 0, 0), 0, []),
  (1, (13, 112, 123, 1), 0, [(1, 9)]),
  (4, (6, 9, 1, 0), 0, []),
  (7, (1, 0, 0, 0), (-1), []),
  (8, (14, 0, 0, 0), 0, []),
  (9, (2, 0, 2, 0), 0, []),
  (10, (9, 26, 9, 3), 0, []),
  (13, (2, 1, 0, 0), 0, []),
  (14, (11, 2, 0, 0), 0, []),
  (15, (2, 0, 2, 0), 0, []),
  (16, (9, 10, 9, 0), 0, []),
  (19, (13, 116, 57, 0), 0, [(2, 8)]),
  (22, (2, 0, 2, 0), 0, []),
  (23, (9, 30, 9, 4), 0, []),
  (26, (2, 1, 0, 0), 0, []),
  (27, (1, 0, 0, 0), nI 1, []),
  (28, (12, 1, 0, 0), 0, []),
  (29, (2, 0, 2, 0), 0, []),
  (30, (9, 10, 9, 0), 0, []),
  (33, (9, 119, 8, 6), 0, []),
  (36, (14, 0, 0, 0), 0, [])]
abbrev m_X9_save : Nat := 107
/-- NameMaps.restore(I)I: 30 entries; loop heads [] -/
def co_X9_restore : List Ent := [(0, (2, 1, 0, 0), 0, []),
  (1, (13, 112, 123, 1), 0, [(1, 9)]),
  (4, (6, 9, 1, 0), 0, []),
  (7, (1, 0, 0, 0), (-1), []),
  (8, (14, 0, 0, 0), 0, []),
  (9, (2, 0, 2, 0), 0, []),
  (10, (9, 30, 9, 4), 0, []),
  (13, (2, 1, 0, 0), 0, []),
  (14, (11, 1, 0, 0), 0, []),
  (15, (6, 21, 1, 0), 0, []),
  (18, (1, 0, 1, 0), (-3), []),
  (20, (14, 0, 0, 0), 0, []),
  (21, (2, 0, 2, 0), 0, []),
  (22, (9, 22, 9, 2), 0, []),
  (25, (2, 0, 2, 0), 0, []),
  (26, (9, 10, 9, 0), 0, []),
  (29, (13, 41, 24, 0), 0, [(2, 3)]),
  (32, (2, 0, 2, 0), 0, []),
  (33, (9, 10, 9, 0), 0, []),
  (36, (2, 0, 2, 0), 0, []),
  (37, (9, 26, 9, 3), 0, []),
  (40, (2, 1, 0, 0), 0, []),
  (41, (11, 2, 0, 0), 0, []),
  (42, (13, 116, 57, 0), 0, [(2, 8)]),
  (45, (2, 0, 2, 0), 0, []),
  (46, (2, 0, 2, 0), 0, []),
  (47, (9, 10, 9, 0), 0, []),
  (50, (9, 119, 8, 6), 0, []),
  (53, (13, 49, 121, 0), 0, [(2, 9)]),
  (56, (14, 0, 0, 0), 0, [])]
abbrev m_X9_restore : Nat := 108
/-- NameMaps.server(II)I: 13 entries; loop heads [] -/
def co_X9_server : List Ent := [(0, (2, 0, 2, 0), 0, []),
  (1, (9, 10, 9, 0), 0, []),
  (4, (2, 1, 0, 0), 0, []),
  (5, (13, 122, 58, 0), 0, [(2, 8)]),
  (8, (6, 23, 0, 0), 0, []),
  (11, (2, 0, 2, 0), 0, []),
  (12, (9, 10, 9, 0), 0, []),
  (15, (2, 1, 0, 0), 0, []),
  (16, (2, 2, 0, 0), 0, []),
  (17, (13, 125, 81, 0), 0, [(3, 8)]),
  (20, (8, 24, 0, 0), 0, []),
  (23, (1, 0, 0, 0), (-1), []),
  (24, (14, 0, 0, 0), 0, [])]
abbrev m_X9_server : Nat := 109
/-- NameMaps.site(II)I: 13 entries; loop heads [] -/
def co_X9_site : List Ent := [(0, (2, 0, 2, 0), 0, []),
  (1, (9, 10, 9, 0), 0, []),
  (4, (2, 1, 0, 0), 0, []),
  (5, (13, 128, 59, 0), 0, [(2, 8)]),
  (8, (6, 23, 0, 0), 0, []),
  (11, (2, 0, 2, 0), 0, []),
  (12, (9, 10, 9, 0), 0, []),
  (15, (2, 1, 0, 0), 0, []),
  (16, (2, 2, 0, 0), 0, []),
  (17, (13, 131, 84, 0), 0, [(3, 8)]),
  (20, (8, 24, 0, 0), 0, []),
  (23, (1, 0, 0, 0), (-1), []),
  (24, (14, 0, 0, 0), 0, [])]
abbrev m_X9_site : Nat := 110
/-- NameMaps.slot(III)I: 20 entries; loop heads [] -/
def co_X9_slot : List Ent := [(0, (2, 0, 2, 0), 0, []),
  (1, (9, 10, 9, 0), 0, []),
  (4, (2, 1, 0, 0), 0, []),
  (5, (13, 128, 59, 0), 0, [(2, 8)]),
  (8, (6, 18, 0, 0), 0, []),
  (11, (2, 2, 0, 0), 0, []),
  (12, (13, 134, 124, 1), 0, [(1, 9)]),
  (15, (6, 20, 1, 0), 0, []),
  (18, (1, 0, 0, 0), (-1), []),
  (19, (14, 0, 0, 0), 0, []),
  (20, (2, 0, 2, 0), 0, []),
  (21, (9, 10, 9, 0), 0, []),
  (24, (9, 137, 8, 1), 0, []),
  (27, (2, 1, 0, 0), 0, []),
  (28, (11, 2, 0, 0), 0, []),
  (29, (9, 141, 6, 1), 0, []),
  (32, (2, 2, 0, 0), 0, []),
  (33, (2, 3, 0, 0), 0, []),
  (34, (13, 147, 48, 0), 0, [(3, 7)]),
  (37, (14, 0, 0, 0), 0, [])]
abbrev m_X9_slot : Nat := 111
/-- NameMaps.router(II)I: 15 entries; loop heads [] -/
def co_X9_router : List Ent := [(0, (2, 0, 2, 0), 0, []),
  (1, (9, 10, 9, 0), 0, []),
  (4, (2, 1, 0, 0), 0, []),
  (5, (13, 152, 60, 0), 0, [(2, 8)]),
  (8, (6, 27, 0, 0), 0, []),
  (11, (2, 0, 2, 0), 0, []),
  (12, (9, 10, 9, 0), 0, []),
  (15, (9, 155, 8, 2), 0, []),
  (18, (2, 1, 0, 0), 0, []),
  (19, (11, 2, 0, 0), 0, []),
  (20, (2, 2, 0, 0), 0, []),
  (21, (13, 159, 31, 0), 0, [(2, 4)]),
  (24, (8, 28, 0, 0), 0, []),
  (27, (1, 0, 0, 0), (-1), []),
  (28, (14, 0, 0, 0), 0, [])]
abbrev m_X9_router : Nat := 112
/-- NameMaps.map(III)I: 29 entries; loop heads [] -/
def co_X9_map : List Ent := [(0, (2, 0, 2, 0), 0, []),
  (1, (9, 10, 9, 0), 0, []),
  (4, (2, 1, 0, 0), 0, []),
  (5, (13, 152, 60, 0), 0, [(2, 8)]),
  (8, (6, 27, 0, 0), 0, []),
  (11, (2, 0, 2, 0), 0, []),
  (12, (9, 10, 9, 0), 0, []),
  (15, (9, 155, 8, 2), 0, []),
  (18, (2, 1, 0, 0), 0, []),
  (19, (11, 2, 0, 0), 0, []),
  (20, (2, 2, 0, 0), 0, []),
  (21, (13, 164, 30, 0), 0, [(2, 4)]),
  (24, (6, 29, 1, 0), 0, []),
  (27, (1, 0, 0, 0), (-1), []),
  (28, (14, 0, 0, 0), 0, []),
  (29, (2, 0, 2, 0), 0, []),
  (30, (9, 10, 9, 0), 0, []),
  (33, (9, 155, 8, 2), 0, []),
  (36, (2, 1, 0, 0), 0, []),
  (37, (11, 2, 0, 0), 0, []),
  (38, (9, 167, 4, 0), 0, []),
  (41, (2, 2, 0, 0), 0, []),
  (42, (11, 2, 0, 0), 0, []),
  (43, (2, 3, 0, 0), 0, []),
  (44, (2, 0, 2, 0), 0, []),
  (45, (9, 10, 9, 0), 0, []),
  (48, (9, 119, 8, 6), 0, []),
  (51, (13, 171, 21, 0), 0, [(3, 2)]),
  (54, (14, 0, 0, 0), 0, [])]
abbrev m_X9_map : Nat := 113
/-- NameMaps.answer(I)I: 17 entries; loop heads [] -/
def co_X9_answer : List Ent := [(0, (2, 1, 0, 0), 0, []),
  (1, (13, 175, 125, 1), 0, [(1, 9)]),
  (4, (6, 10, 1, 0), 0, []),
  (7, (1, 0, 1, 0), (-2), []),
  (9, (14, 0, 0, 0), 0, []),
  (10, (2, 0, 2, 0), 0, []),
  (11, (9, 10, 9, 0), 0, []),
  (14, (2, 1, 0, 0), 0, []),
  (15, (13, 178, 78, 0), 0, [(2, 8)]),
  (18, (3, 2, 0, 0), 0, []),
  (19, (2, 2, 0, 0), 0, []),
  (20, (1, 0, 0, 0), (-1), []),
  (21, (7, 29, 1, 0), 0, []),
  (24, (1, 0, 1, 0), (-5), []),
  (26, (8, 30, 0, 0), 0, []),
  (29, (2, 2, 0, 0), 0, []),
  (30, (14, 0, 0, 0), 0, [])]
abbrev m_X9_answer : Nat := 114
/-- NameMaps.way(II)I: 25 entries; loop heads [] -/
def co_X9_way : List Ent := [(0, (2, 1, 0, 0), 0, []),
  (1, (13, 175, 125, 1), 0, [(1, 9)]),
  (4, (6, 16, 0, 0), 0, []),
  (7, (2, 2, 0, 0), 0, []),
  (8, (6, 16, 2, 0), 0, []),
  (11, (2, 2, 0, 0), 0, []),
  (12, (1, 0, 0, 0), nI 1, []),
  (13, (7, 19, 5, 0), 0, []),
  (16, (1, 0, 1, 0), (-2), []),
  (18, (14, 0, 0, 0), 0, []),
  (19, (2, 0, 2, 0), 0, []),
  (20, (9, 10, 9, 0), 0, []),
  (23, (2, 1, 0, 0), 0, []),
  (24, (1, 0, 0, 0), nI 1, []),
  (25, (13, 181, 75, 0), 0, [(3, 8)]),
  (28, (3, 3, 0, 0), 0, []),
  (29, (2, 2, 0, 0), 0, []),
  (30, (6, 37, 1, 0), 0, []),
  (33, (2, 3, 0, 0), 0, []),
  (34, (8, 45, 0, 0), 0, []),
  (37, (2, 0, 2, 0), 0, []),
  (38, (9, 10, 9, 0), 0, []),
  (41, (2, 3, 0, 0), 0, []),
  (42, (13, 184, 77, 0), 0, [(2, 8)]),
  (45, (14, 0, 0, 0), 0, [])]
abbrev m_X9_way : Nat := 115
/-- NameMaps.endingNext(I)I: 16 entries; loop heads [] -/
def co_X9_endingNext : List Ent := [(0, (2, 1, 0, 0), 0, []),
  (1, (6, 7, 3, 0), 0, []),
  (4, (1, 0, 1, 0), (-2), []),
  (6, (14, 0, 0, 0), 0, []),
  (7, (2, 0, 2, 0), 0, []),
  (8, (9, 10, 9, 0), 0, []),
  (11, (2, 1, 0, 0), 0, []),
  (12, (13, 187, 79, 0), 0, [(2, 8)]),
  (15, (3, 2, 0, 0), 0, []),
  (16, (2, 2, 0, 0), 0, []),
  (17, (1, 0, 0, 0), (-1), []),
  (18, (7, 26, 1, 0), 0, []),
  (21, (1, 0, 1, 0), (-5), []),
  (23, (8, 27, 0, 0), 0, []),
  (26, (2, 2, 0, 0), 0, []),
  (27, (14, 0, 0, 0), 0, [])]
abbrev m_X9_endingNext : Nat := 116
/-- NameMaps.total(I)I: 15 entries; loop heads [] -/
def co_X9_total : List Ent := [(0, (2, 1, 0, 0), 0, []),
  (1, (18, 44, 27, 1), 0, [(11, 28), (12, 36)]),
  (28, (2, 0, 2, 0), 0, []),
  (29, (9, 22, 9, 2), 0, []),
  (32, (9, 106, 3, 2), 0, []),
  (35, (14, 0, 0, 0), 0, []),
  (36, (2, 0, 2, 0), 0, []),
  (37, (9, 37, 9, 5), 0, []),
  (40, (9, 89, 0, 1), 0, []),
  (43, (14, 0, 0, 0), 0, []),
  (44, (2, 0, 2, 0), 0, []),
  (45, (9, 10, 9, 0), 0, []),
  (48, (2, 1, 0, 0), 0, []),
  (49, (13, 190, 86, 0), 0, [(2, 8)]),
  (52, (14, 0, 0, 0), 0, [])]
abbrev m_X9_total : Nat := 117
/-- NameMaps.wouldReach(IIII)I: 33 entries; loop heads [] -/
def co_X9_wouldReach : List Ent := [(0, (2, 0, 2, 0), 0, []),
  (1, (9, 10, 9, 0), 0, []),
  (4, (2, 1, 0, 0), 0, []),
  (5, (13, 152, 60, 0), 0, [(2, 8)]),
  (8, (6, 13, 1, 0), 0, []),
  (11, (1, 0, 0, 0), (-1), []),
  (12, (14, 0, 0, 0), 0, []),
  (13, (2, 4, 1, 0), 0, []),
  (15, (6, 25, 2, 0), 0, []),
  (18, (2, 4, 1, 0), 0, []),
  (20, (1, 0, 1, 0), nI 99, []),
  (22, (7, 28, 5, 0), 0, []),
  (25, (1, 0, 1, 0), (-2), []),
  (27, (14, 0, 0, 0), 0, []),
  (28, (2, 0, 2, 0), 0, []),
  (29, (9, 16, 9, 1), 0, []),
  (32, (2, 0, 2, 0), 0, []),
  (33, (9, 10, 9, 0), 0, []),
  (36, (13, 116, 57, 0), 0, [(2, 8)]),
  (39, (2, 0, 2, 0), 0, []),
  (40, (9, 16, 9, 1), 0, []),
  (43, (15, 0, 0, 0), 0, []),
  (44, (9, 119, 8, 6), 0, []),
  (47, (2, 4, 1, 0), 0, []),
  (49, (4, 0, 0, 0), 0, []),
  (50, (10, 119, 8, 6), 0, []),
  (53, (2, 0, 2, 0), 0, []),
  (54, (9, 16, 9, 1), 0, []),
  (57, (2, 1, 0, 0), 0, []),
  (58, (2, 2, 0, 0), 0, []),
  (59, (2, 3, 0, 0), 0, []),
  (60, (13, 77, 71, 0), 0, [(4, 8)]),
  (63, (14, 0, 0, 0), 0, [])]
abbrev m_X9_wouldReach : Nat := 118
/-- NameMaps.wouldAsk(III)I: 37 entries; loop heads [] -/
def co_X9_wouldAsk : List Ent := [(0, (2, 0, 2, 0), 0, []),
  (1, (9, 10, 9, 0), 0, []),
  (4, (2, 1, 0, 0), 0, []),
  (5, (13, 152, 60, 0), 0, [(2, 8)]),
  (8, (6, 13, 1, 0), 0, []),
  (11, (1, 0, 0, 0), (-1), []),
  (12, (14, 0, 0, 0), 0, []),
  (13, (2, 0, 2, 0), 0, []),
  (14, (9, 16, 9, 1), 0, []),
  (17, (2, 0, 2, 0), 0, []),
  (18, (9, 10, 9, 0), 0, []),
  (21, (13, 116, 57, 0), 0, [(2, 8)]),
  (24, (2, 0, 2, 0), 0, []),
  (25, (9, 16, 9, 1), 0, []),
  (28, (2, 1, 0, 0), 0, []),
  (29, (2, 2, 0, 0), 0, []),
  (30, (2, 3, 0, 0), 0, []),
  (31, (13, 77, 71, 0), 0, [(4, 8)]),
  (34, (3, 4, 1, 0), 0, []),
  (36, (2, 4, 1, 0), 0, []),
  (38, (6, 46, 3, 0), 0, []),
  (41, (2, 4, 1, 0), 0, []),
  (43, (8, 71, 0, 0), 0, []),
  (46, (2, 0, 2, 0), 0, []),
  (47, (9, 16, 9, 1), 0, []),
  (50, (9, 155, 8, 2), 0, []),
  (53, (2, 1, 0, 0), 0, []),
  (54, (11, 2, 0, 0), 0, []),
  (55, (9, 193, 4, 2), 0, []),
  (58, (2, 0, 2, 0), 0, []),
  (59, (9, 10, 9, 0), 0, []),
  (62, (9, 155, 8, 2), 0, []),
  (65, (2, 1, 0, 0), 0, []),
  (66, (11, 2, 0, 0), 0, []),
  (67, (9, 193, 4, 2), 0, []),
  (70, (4, 1, 0, 0), 0, []),
  (71, (14, 0, 0, 0), 0, [])]
abbrev m_X9_wouldAsk : Nat := 119
/-- NameMaps.share(II)I: 21 entries; loop heads [] -/
def co_X9_share : List Ent := [(0, (2, 0, 2, 0), 0, []),
  (1, (9, 10, 9, 0), 0, []),
  (4, (2, 1, 0, 0), 0, []),
  (5, (13, 128, 59, 0), 0, [(2, 8)]),
  (8, (6, 13, 1, 0), 0, []),
  (11, (1, 0, 0, 0), (-1), []),
  (12, (14, 0, 0, 0), 0, []),
  (13, (2, 2, 0, 0), 0, []),
  (14, (13, 196, 127, 1), 0, [(1, 9)]),
  (17, (6, 39, 0, 0), 0, []),
  (20, (2, 0, 2, 0), 0, []),
  (21, (9, 10, 9, 0), 0, []),
  (24, (9, 137, 8, 1), 0, []),
  (27, (2, 1, 0, 0), 0, []),
  (28, (11, 2, 0, 0), 0, []),
  (29, (9, 141, 6, 1), 0, []),
  (32, (2, 2, 0, 0), 0, []),
  (33, (13, 199, 55, 0), 0, [(2, 7)]),
  (36, (8, 41, 0, 0), 0, []),
  (39, (1, 0, 1, 0), (-2), []),
  (41, (14, 0, 0, 0), 0, [])]
abbrev m_X9_share : Nat := 120
/-- NameMaps.recorded(I)I: 7 entries; loop heads [] -/
def co_X9_recorded : List Ent := [(0, (2, 1, 0, 0), 0, []),
  (1, (6, 11, 2, 0), 0, []),
  (4, (2, 0, 2, 0), 0, []),
  (5, (9, 22, 9, 2), 0, []),
  (8, (13, 202, 25, 0), 0, [(1, 3)]),
  (11, (2, 1, 0, 0), 0, []),
  (12, (14, 0, 0, 0), 0, [])]
abbrev m_X9_recorded : Nat := 121
/-- NameMaps.carryOutAct()I: 38 entries; loop heads [] -/
def co_X9_carryOutAct : List Ent := [(0, (2, 0, 2, 0), 0, []),
  (1, (9, 37, 9, 5), 0, []),
  (4, (9, 205, 0, 4), 0, []),
  (7, (18, 95, 29, 0), 0, [(114, 65), (115, 36), (116, 95), (117, 80)]),
  (36, (2, 0, 2, 0), 0, []),
  (37, (9, 10, 9, 0), 0, []),
  (40, (2, 0, 2, 0), 0, []),
  (41, (9, 37, 9, 5), 0, []),
  (44, (9, 208, 0, 5), 0, []),
  (47, (2, 0, 2, 0), 0, []),
  (48, (9, 37, 9, 5), 0, []),
  (51, (9, 211, 0, 6), 0, []),
  (54, (2, 0, 2, 0), 0, []),
  (55, (9, 37, 9, 5), 0, []),
  (58, (9, 214, 0, 7), 0, []),
  (61, (13, 77, 71, 0), 0, [(4, 8)]),
  (64, (14, 0, 0, 0), 0, []),
  (65, (2, 0, 2, 0), 0, []),
  (66, (9, 10, 9, 0), 0, []),
  (69, (2, 0, 2, 0), 0, []),
  (70, (9, 37, 9, 5), 0, []),
  (73, (9, 208, 0, 5), 0, []),
  (76, (13, 68, 66, 0), 0, [(2, 8)]),
  (79, (14, 0, 0, 0), 0, []),
  (80, (2, 0, 2, 0), 0, []),
  (81, (9, 10, 9, 0), 0, []),
  (84, (2, 0, 2, 0), 0, []),
  (85, (9, 37, 9, 5), 0, []),
  (88, (9, 208, 0, 5), 0, []),
  (91, (13, 71, 67, 0), 0, [(2, 8)]),
  (94, (14, 0, 0, 0), 0, []),
  (95, (2, 0, 2, 0), 0, []),
  (96, (9, 10, 9, 0), 0, []),
  (99, (2, 0, 2, 0), 0, []),
  (100, (9, 37, 9, 5), 0, []),
  (103, (9, 208, 0, 5), 0, []),
  (106, (13, 80, 69, 0), 0, [(2, 8)]),
  (109, (14, 0, 0, 0), 0, [])]
abbrev m_X9_carryOutAct : Nat := 122
/-- NameMaps.isSave(I)Z: 9 entries; loop heads [] -/
def co_X9_isSave : List Ent := [(0, (2, 0, 0, 0), 0, []),
  (1, (6, 13, 2, 0), 0, []),
  (4, (2, 0, 0, 0), 0, []),
  (5, (1, 0, 0, 0), nI 2, []),
  (6, (7, 13, 3, 0), 0, []),
  (9, (1, 0, 0, 0), nI 1, []),
  (10, (8, 14, 0, 0), 0, []),
  (13, (1, 0, 0, 0), nI 0, []),
  (14, (14, 0, 0, 0), 0, [])]
abbrev m_X9_isSave : Nat := 123
/-- NameMaps.isSlot(I)Z: 9 entries; loop heads [] -/
def co_X9_isSlot : List Ent := [(0, (2, 0, 0, 0), 0, []),
  (1, (6, 13, 2, 0), 0, []),
  (4, (2, 0, 0, 0), 0, []),
  (5, (1, 0, 0, 0), nI 3, []),
  (6, (7, 13, 3, 0), 0, []),
  (9, (1, 0, 0, 0), nI 1, []),
  (10, (8, 14, 0, 0), 0, []),
  (13, (1, 0, 0, 0), nI 0, []),
  (14, (14, 0, 0, 0), 0, [])]
abbrev m_X9_isSlot : Nat := 124
/-- NameMaps.isName(I)Z: 9 entries; loop heads [] -/
def co_X9_isName : List Ent := [(0, (2, 0, 0, 0), 0, []),
  (1, (6, 15, 2, 0), 0, []),
  (4, (2, 0, 0, 0), 0, []),
  (5, (1, 0, 2, 0), nI 256, []),
  (8, (7, 15, 3, 0), 0, []),
  (11, (1, 0, 0, 0), nI 1, []),
  (12, (8, 16, 0, 0), 0, []),
  (15, (1, 0, 0, 0), nI 0, []),
  (16, (14, 0, 0, 0), 0, [])]
abbrev m_X9_isName : Nat := 125
/-- NameMaps.isFlow(I)Z: 9 entries; loop heads [] -/
def co_X9_isFlow : List Ent := [(0, (2, 0, 0, 0), 0, []),
  (1, (6, 14, 2, 0), 0, []),
  (4, (2, 0, 0, 0), 0, []),
  (5, (1, 0, 1, 0), nI 100, []),
  (7, (7, 14, 3, 0), 0, []),
  (10, (1, 0, 0, 0), nI 1, []),
  (11, (8, 15, 0, 0), 0, []),
  (14, (1, 0, 0, 0), nI 0, []),
  (15, (14, 0, 0, 0), 0, [])]
abbrev m_X9_isFlow : Nat := 126
/-- NameMaps.isPlaceOfSlot(I)Z: 9 entries; loop heads [] -/
def co_X9_isPlaceOfSlot : List Ent := [(0, (2, 0, 0, 0), 0, []),
  (1, (6, 14, 2, 0), 0, []),
  (4, (2, 0, 0, 0), 0, []),
  (5, (1, 0, 1, 0), nI 32, []),
  (7, (7, 14, 3, 0), 0, []),
  (10, (1, 0, 0, 0), nI 1, []),
  (11, (8, 15, 0, 0), 0, []),
  (14, (1, 0, 0, 0), nI 0, []),
  (15, (14, 0, 0, 0), 0, [])]
abbrev m_X9_isPlaceOfSlot : Nat := 127
/-- NameMaps.isBlock(II)Z: 23 entries; loop heads [] -/
def co_X9_isBlock : List Ent := [(0, (2, 1, 0, 0), 0, []),
  (1, (1, 0, 0, 0), nI 1, []),
  (2, (7, 20, 2, 0), 0, []),
  (5, (2, 1, 0, 0), 0, []),
  (6, (1, 0, 2, 0), nI 256, []),
  (9, (7, 20, 4, 0), 0, []),
  (12, (2, 1, 0, 0), 0, []),
  (13, (13, 217, 212, 3), 0, [(1, 25)]),
  (16, (1, 0, 0, 0), nI 1, []),
  (17, (7, 22, 0, 0), 0, []),
  (20, (1, 0, 0, 0), nI 0, []),
  (21, (14, 0, 0, 0), 0, []),
  (22, (2, 0, 0, 0), 0, []),
  (23, (13, 175, 125, 1), 0, [(1, 9)]),
  (26, (6, 39, 0, 0), 0, []),
  (29, (2, 0, 0, 0), 0, []),
  (30, (2, 1, 0, 0), 0, []),
  (31, (4, 4, 0, 0), 0, []),
  (32, (6, 39, 1, 0), 0, []),
  (35, (1, 0, 0, 0), nI 1, []),
  (36, (8, 40, 0, 0), 0, []),
  (39, (1, 0, 0, 0), nI 0, []),
  (40, (14, 0, 0, 0), 0, [])]
abbrev m_X9_isBlock : Nat := 128
/-- NameMapsModel.<init>()V: 39 entries; loop heads [] -/
def co_X10_init : List Ent := [(0, (2, 0, 2, 0), 0, []),
  (1, (24, 1, 999, 0), 0, []),
  (4, (2, 0, 2, 0), 0, []),
  (5, (1, 0, 2, 0), nI 509, []),
  (8, (22, 0, 0, 0), 0, []),
  (10, (10, 7, 10, 0), 0, []),
  (13, (2, 0, 2, 0), 0, []),
  (14, (1, 0, 2, 0), nI 4072, []),
  (17, (22, 0, 0, 0), 0, []),
  (19, (10, 13, 10, 1), 0, []),
  (22, (2, 0, 2, 0), 0, []),
  (23, (1, 0, 0, 0), nI 2, []),
  (24, (22, 0, 0, 0), 0, []),
  (26, (10, 16, 10, 2), 0, []),
  (29, (2, 0, 2, 0), 0, []),
  (30, (1, 0, 1, 0), nI 80, []),
  (32, (22, 0, 0, 0), 0, []),
  (34, (10, 19, 10, 4), 0, []),
  (37, (2, 0, 2, 0), 0, []),
  (38, (9, 7, 10, 0), 0, []),
  (41, (1, 0, 0, 0), nI 1, []),
  (42, (1, 0, 0, 0), nI 1, []),
  (43, (12, 0, 0, 0), 0, []),
  (44, (2, 0, 2, 0), 0, []),
  (45, (9, 7, 10, 0), 0, []),
  (48, (1, 0, 0, 0), nI 4, []),
  (49, (1, 0, 1, 0), nI 10, []),
  (51, (12, 0, 0, 0), 0, []),
  (52, (2, 0, 2, 0), 0, []),
  (53, (9, 7, 10, 0), 0, []),
  (56, (1, 0, 0, 0), nI 5, []),
  (57, (1, 0, 1, 0), (-5), []),
  (59, (12, 0, 0, 0), 0, []),
  (60, (2, 0, 2, 0), 0, []),
  (61, (9, 7, 10, 0), 0, []),
  (64, (1, 0, 1, 0), nI 7, []),
  (66, (1, 0, 2, 0), nI 256, []),
  (69, (12, 0, 0, 0), 0, []),
  (70, (14, 1, 0, 0), 0, [])]
abbrev m_X10_init : Nat := 129
/-- NameMapsModel.isIn(III)Z: 10 entries; loop heads [] -/
def co_X10_isIn : List Ent := [(0, (2, 0, 0, 0), 0, []),
  (1, (2, 1, 0, 0), 0, []),
  (2, (7, 14, 2, 0), 0, []),
  (5, (2, 0, 0, 0), 0, []),
  (6, (2, 2, 0, 0), 0, []),
  (7, (7, 14, 4, 0), 0, []),
  (10, (1, 0, 0, 0), nI 1, []),
  (11, (8, 15, 0, 0), 0, []),
  (14, (1, 0, 0, 0), nI 0, []),
  (15, (14, 0, 0, 0), 0, [])]
abbrev m_X10_isIn : Nat := 130
/-- NameMapsModel.isServer(I)Z: 10 entries; loop heads [] -/
def co_X10_isServer : List Ent := [(0, (2, 1, 0, 0), 0, []),
  (1, (1, 0, 0, 0), nI 0, []),
  (2, (2, 0, 2, 0), 0, []),
  (3, (9, 7, 10, 0), 0, []),
  (6, (1, 0, 0, 0), nI 1, []),
  (7, (11, 0, 0, 0), 0, []),
  (8, (1, 0, 0, 0), nI 1, []),
  (9, (4, 1, 0, 0), 0, []),
  (10, (13, 22, 130, 1), 0, [(3, 10)]),
  (13, (14, 0, 0, 0), 0, [])]
abbrev m_X10_isServer : Nat := 131
/-- NameMapsModel.isSite(I)Z: 10 entries; loop heads [] -/
def co_X10_isSite : List Ent := [(0, (2, 1, 0, 0), 0, []),
  (1, (1, 0, 0, 0), nI 0, []),
  (2, (2, 0, 2, 0), 0, []),
  (3, (9, 7, 10, 0), 0, []),
  (6, (1, 0, 0, 0), nI 2, []),
  (7, (11, 0, 0, 0), 0, []),
  (8, (1, 0, 0, 0), nI 1, []),
  (9, (4, 1, 0, 0), 0, []),
  (10, (13, 22, 130, 1), 0, [(3, 10)]),
  (13, (14, 0, 0, 0), 0, [])]
abbrev m_X10_isSite : Nat := 132
/-- NameMapsModel.isRouter(I)Z: 10 entries; loop heads [] -/
def co_X10_isRouter : List Ent := [(0, (2, 1, 0, 0), 0, []),
  (1, (1, 0, 0, 0), nI 0, []),
  (2, (2, 0, 2, 0), 0, []),
  (3, (9, 7, 10, 0), 0, []),
  (6, (1, 0, 0, 0), nI 3, []),
  (7, (11, 0, 0, 0), 0, []),
  (8, (1, 0, 0, 0), nI 1, []),
  (9, (4, 1, 0, 0), 0, []),
  (10, (13, 22, 130, 1), 0, [(3, 10)]),
  (13, (14, 0, 0, 0), 0, [])]
abbrev m_X10_isRouter : Nat := 133
/-- NameMapsModel.isName(I)Z: 5 entries; loop heads [] -/
def co_X10_isName : List Ent := [(0, (2, 0, 0, 0), 0, []),
  (1, (1, 0, 0, 0), nI 0, []),
  (2, (1, 0, 2, 0), nI 255, []),
  (5, (13, 22, 130, 1), 0, [(3, 10)]),
  (8, (14, 0, 0, 0), 0, [])]
abbrev m_X10_isName : Nat := 134
/-- NameMapsModel.siteAt(I)I: 6 entries; loop heads [] -/
def co_X10_siteAt : List Ent := [(0, (1, 0, 1, 0), nI 29, []),
  (2, (1, 0, 1, 0), nI 17, []),
  (4, (2, 0, 0, 0), 0, []),
  (5, (4, 2, 0, 0), 0, []),
  (6, (4, 0, 0, 0), 0, []),
  (7, (14, 0, 0, 0), 0, [])]
abbrev m_X10_siteAt : Nat := 135
/-- NameMapsModel.routerAt(I)I: 6 entries; loop heads [] -/
def co_X10_routerAt : List Ent := [(0, (1, 0, 2, 0), nI 165, []),
  (3, (1, 0, 1, 0), nI 6, []),
  (5, (2, 0, 0, 0), 0, []),
  (6, (4, 2, 0, 0), 0, []),
  (7, (4, 0, 0, 0), 0, []),
  (8, (14, 0, 0, 0), 0, [])]
abbrev m_X10_routerAt : Nat := 136
/-- NameMapsModel.mapAt(II)I: 10 entries; loop heads [] -/
def co_X10_mapAt : List Ent := [(0, (1, 0, 2, 0), nI 189, []),
  (3, (1, 0, 1, 0), nI 16, []),
  (5, (1, 0, 0, 0), nI 5, []),
  (6, (2, 0, 0, 0), 0, []),
  (7, (4, 2, 0, 0), 0, []),
  (8, (2, 1, 0, 0), 0, []),
  (9, (4, 0, 0, 0), 0, []),
  (10, (4, 2, 0, 0), 0, []),
  (11, (4, 0, 0, 0), 0, []),
  (12, (14, 0, 0, 0), 0, [])]
abbrev m_X10_mapAt : Nat := 137
/-- NameMapsModel.keeps(I)V: 21 entries; loop heads [2] -/
def co_X10_keeps : List Ent := [(0, (1, 0, 0, 0), nI 0, []),
  (1, (3, 2, 0, 0), 0, []),
  (2, (0, 3, 0, 0), 0, []),
  (2, (2, 2, 0, 0), 0, []),
  (3, (1, 0, 2, 0), nI 509, []),
  (6, (7, 33, 3, 0), 0, []),
  (9, (2, 0, 2, 0), 0, []),
  (10, (9, 13, 10, 1), 0, []),
  (13, (2, 1, 0, 0), 0, []),
  (14, (1, 0, 2, 0), nI 509, []),
  (17, (4, 2, 0, 0), 0, []),
  (18, (2, 2, 0, 0), 0, []),
  (19, (4, 0, 0, 0), 0, []),
  (20, (2, 0, 2, 0), 0, []),
  (21, (9, 7, 10, 0), 0, []),
  (24, (2, 2, 0, 0), 0, []),
  (25, (11, 0, 0, 0), 0, []),
  (26, (12, 0, 0, 0), 0, []),
  (27, (5, 2, 0, 0), nI 1, []),
  (30, (8, 2, 0, 0), 0, []),
  (33, (14, 1, 0, 0), 0, [])]
abbrev m_X10_keeps : Nat := 138
/-- NameMapsModel.brings(I)V: 21 entries; loop heads [2] -/
def co_X10_brings : List Ent := [(0, (1, 0, 0, 0), nI 0, []),
  (1, (3, 2, 0, 0), 0, []),
  (2, (0, 3, 0, 0), 0, []),
  (2, (2, 2, 0, 0), 0, []),
  (3, (1, 0, 2, 0), nI 509, []),
  (6, (7, 33, 3, 0), 0, []),
  (9, (2, 0, 2, 0), 0, []),
  (10, (9, 7, 10, 0), 0, []),
  (13, (2, 2, 0, 0), 0, []),
  (14, (2, 0, 2, 0), 0, []),
  (15, (9, 13, 10, 1), 0, []),
  (18, (2, 1, 0, 0), 0, []),
  (19, (1, 0, 2, 0), nI 509, []),
  (22, (4, 2, 0, 0), 0, []),
  (23, (2, 2, 0, 0), 0, []),
  (24, (4, 0, 0, 0), 0, []),
  (25, (11, 0, 0, 0), 0, []),
  (26, (12, 0, 0, 0), 0, []),
  (27, (5, 2, 0, 0), nI 1, []),
  (30, (8, 2, 0, 0), 0, []),
  (33, (14, 1, 0, 0), 0, [])]
abbrev m_X10_brings : Nat := 139
/-- NameMapsModel.records()V: 39 entries; loop heads [10] -/
def co_X10_records : List Ent := [(0, (2, 0, 2, 0), 0, []),
  (1, (9, 26, 10, 3), 0, []),
  (4, (1, 0, 0, 0), nI 5, []),
  (5, (7, 49, 1, 0), 0, []),
  (8, (1, 0, 0, 0), nI 0, []),
  (9, (3, 1, 0, 0), 0, []),
  (10, (0, 2, 0, 0), 0, []),
  (10, (2, 1, 0, 0), 0, []),
  (11, (1, 0, 2, 0), nI 2036, []),
  (14, (7, 39, 3, 0), 0, []),
  (17, (2, 0, 2, 0), 0, []),
  (18, (9, 13, 10, 1), 0, []),
  (21, (2, 1, 0, 0), 0, []),
  (22, (2, 0, 2, 0), 0, []),
  (23, (9, 13, 10, 1), 0, []),
  (26, (2, 1, 0, 0), 0, []),
  (27, (1, 0, 2, 0), nI 509, []),
  (30, (4, 0, 0, 0), 0, []),
  (31, (11, 0, 0, 0), 0, []),
  (32, (12, 0, 0, 0), 0, []),
  (33, (5, 1, 0, 0), nI 1, []),
  (36, (8, 10, 0, 0), 0, []),
  (39, (2, 0, 2, 0), 0, []),
  (40, (15, 0, 0, 0), 0, []),
  (41, (9, 26, 10, 3), 0, []),
  (44, (1, 0, 0, 0), nI 1, []),
  (45, (4, 1, 0, 0), 0, []),
  (46, (10, 26, 10, 3), 0, []),
  (49, (2, 0, 2, 0), 0, []),
  (50, (2, 0, 2, 0), 0, []),
  (51, (9, 26, 10, 3), 0, []),
  (54, (13, 30, 138, 0), 0, [(2, 10)]),
  (57, (2, 0, 2, 0), 0, []),
  (58, (15, 0, 0, 0), 0, []),
  (59, (9, 26, 10, 3), 0, []),
  (62, (1, 0, 0, 0), nI 1, []),
  (63, (4, 0, 0, 0), 0, []),
  (64, (10, 26, 10, 3), 0, []),
  (67, (14, 1, 0, 0), 0, [])]
abbrev m_X10_records : Nat := 140
/-- NameMapsModel.undo()I: 18 entries; loop heads [] -/
def co_X10_undo : List Ent := [(0, (2, 0, 2, 0), 0, []),
  (1, (9, 26, 10, 3), 0, []),
  (4, (6, 10, 1, 0), 0, []),
  (7, (1, 0, 1, 0), (-3), []),
  (9, (14, 0, 0, 0), 0, []),
  (10, (2, 0, 2, 0), 0, []),
  (11, (15, 0, 0, 0), 0, []),
  (12, (9, 26, 10, 3), 0, []),
  (15, (1, 0, 0, 0), nI 1, []),
  (16, (4, 1, 0, 0), 0, []),
  (17, (10, 26, 10, 3), 0, []),
  (20, (2, 0, 2, 0), 0, []),
  (21, (2, 0, 2, 0), 0, []),
  (22, (9, 26, 10, 3), 0, []),
  (25, (13, 34, 139, 0), 0, [(2, 10)]),
  (28, (2, 0, 2, 0), 0, []),
  (29, (9, 26, 10, 3), 0, []),
  (32, (14, 0, 0, 0), 0, [])]
abbrev m_X10_undo : Nat := 141
/-- NameMapsModel.save(I)I: 22 entries; loop heads [] -/
def co_X10_save : List Ent := [(0, (2, 1, 0, 0), 0, []),
  (1, (1, 0, 0, 0), nI 0, []),
  (2, (1, 0, 0, 0), nI 1, []),
  (3, (13, 22, 130, 1), 0, [(3, 10)]),
  (6, (6, 11, 1, 0), 0, []),
  (9, (1, 0, 0, 0), (-1), []),
  (10, (14, 0, 0, 0), 0, []),
  (11, (2, 0, 2, 0), 0, []),
  (12, (1, 0, 0, 0), nI 5, []),
  (13, (2, 1, 0, 0), 0, []),
  (14, (4, 0, 0, 0), 0, []),
  (15, (13, 30, 138, 0), 0, [(2, 10)]),
  (18, (2, 0, 2, 0), 0, []),
  (19, (9, 16, 10, 2), 0, []),
  (22, (2, 1, 0, 0), 0, []),
  (23, (1, 0, 0, 0), nI 1, []),
  (24, (12, 0, 0, 0), 0, []),
  (25, (2, 0, 2, 0), 0, []),
  (26, (9, 7, 10, 0), 0, []),
  (29, (1, 0, 0, 0), nI 0, []),
  (30, (11, 0, 0, 0), 0, []),
  (31, (14, 0, 0, 0), 0, [])]
abbrev m_X10_save : Nat := 142
/-- NameMapsModel.restore(I)I: 26 entries; loop heads [] -/
def co_X10_restore : List Ent := [(0, (2, 1, 0, 0), 0, []),
  (1, (1, 0, 0, 0), nI 0, []),
  (2, (1, 0, 0, 0), nI 1, []),
  (3, (13, 22, 130, 1), 0, [(3, 10)]),
  (6, (6, 11, 1, 0), 0, []),
  (9, (1, 0, 0, 0), (-1), []),
  (10, (14, 0, 0, 0), 0, []),
  (11, (2, 0, 2, 0), 0, []),
  (12, (9, 16, 10, 2), 0, []),
  (15, (2, 1, 0, 0), 0, []),
  (16, (11, 0, 0, 0), 0, []),
  (17, (6, 23, 1, 0), 0, []),
  (20, (1, 0, 1, 0), (-3), []),
  (22, (14, 0, 0, 0), 0, []),
  (23, (2, 0, 2, 0), 0, []),
  (24, (13, 37, 140, 0), 0, [(1, 10)]),
  (27, (2, 0, 2, 0), 0, []),
  (28, (1, 0, 0, 0), nI 5, []),
  (29, (2, 1, 0, 0), 0, []),
  (30, (4, 0, 0, 0), 0, []),
  (31, (13, 34, 139, 0), 0, [(2, 10)]),
  (34, (2, 0, 2, 0), 0, []),
  (35, (9, 7, 10, 0), 0, []),
  (38, (1, 0, 0, 0), nI 0, []),
  (39, (11, 0, 0, 0), 0, []),
  (40, (14, 0, 0, 0), 0, [])]
abbrev m_X10_restore : Nat := 143
/-- NameMapsModel.isBlock(II)Z: 44 entries; loop heads [] -/
def co_X10_isBlock : List Ent := [(0, (2, 1, 0, 0), 0, []),
  (1, (1, 0, 0, 0), nI 1, []),
  (2, (7, 53, 0, 0), 0, []),
  (5, (2, 1, 0, 0), 0, []),
  (6, (1, 0, 0, 0), nI 2, []),
  (7, (7, 53, 0, 0), 0, []),
  (10, (2, 1, 0, 0), 0, []),
  (11, (1, 0, 0, 0), nI 4, []),
  (12, (7, 53, 0, 0), 0, []),
  (15, (2, 1, 0, 0), 0, []),
  (16, (1, 0, 1, 0), nI 8, []),
  (18, (7, 53, 0, 0), 0, []),
  (21, (2, 1, 0, 0), 0, []),
  (22, (1, 0, 1, 0), nI 16, []),
  (24, (7, 53, 0, 0), 0, []),
  (27, (2, 1, 0, 0), 0, []),
  (28, (1, 0, 1, 0), nI 32, []),
  (30, (7, 53, 0, 0), 0, []),
  (33, (2, 1, 0, 0), 0, []),
  (34, (1, 0, 1, 0), nI 64, []),
  (36, (7, 53, 0, 0), 0, []),
  (39, (2, 1, 0, 0), 0, []),
  (40, (1, 0, 2, 0), nI 128, []),
  (43, (7, 53, 0, 0), 0, []),
  (46, (2, 1, 0, 0), 0, []),
  (47, (1, 0, 2, 0), nI 256, []),
  (50, (7, 57, 1, 0), 0, []),
  (53, (1, 0, 0, 0), nI 1, []),
  (54, (8, 58, 0, 0), 0, []),
  (57, (1, 0, 0, 0), nI 0, []),
  (58, (3, 2, 0, 0), 0, []),
  (59, (2, 2, 0, 0), 0, []),
  (60, (6, 80, 0, 0), 0, []),
  (63, (2, 0, 0, 0), 0, []),
  (64, (13, 40, 134, 1), 0, [(1, 10)]),
  (67, (6, 80, 0, 0), 0, []),
  (70, (2, 0, 0, 0), 0, []),
  (71, (2, 1, 0, 0), 0, []),
  (72, (4, 4, 0, 0), 0, []),
  (73, (6, 80, 1, 0), 0, []),
  (76, (1, 0, 0, 0), nI 1, []),
  (77, (8, 81, 0, 0), 0, []),
  (80, (1, 0, 0, 0), nI 0, []),
  (81, (14, 0, 0, 0), 0, [])]
abbrev m_X10_isBlock : Nat := 144
/-- NameMapsModel.firstOf(I)I: 11 entries; loop heads [] -/
def co_X10_firstOf : List Ent := [(0, (2, 0, 2, 0), 0, []),
  (1, (9, 7, 10, 0), 0, []),
  (4, (1, 0, 0, 0), nI 5, []),
  (5, (1, 0, 0, 0), nI 3, []),
  (6, (2, 1, 0, 0), 0, []),
  (7, (4, 2, 0, 0), 0, []),
  (8, (4, 0, 0, 0), 0, []),
  (9, (1, 0, 0, 0), nI 1, []),
  (10, (4, 0, 0, 0), 0, []),
  (11, (11, 0, 0, 0), 0, []),
  (12, (14, 0, 0, 0), 0, [])]
abbrev m_X10_firstOf : Nat := 145
/-- NameMapsModel.sizeOf(I)I: 11 entries; loop heads [] -/
def co_X10_sizeOf : List Ent := [(0, (2, 0, 2, 0), 0, []),
  (1, (9, 7, 10, 0), 0, []),
  (4, (1, 0, 0, 0), nI 5, []),
  (5, (1, 0, 0, 0), nI 3, []),
  (6, (2, 1, 0, 0), 0, []),
  (7, (4, 2, 0, 0), 0, []),
  (8, (4, 0, 0, 0), 0, []),
  (9, (1, 0, 0, 0), nI 2, []),
  (10, (4, 0, 0, 0), 0, []),
  (11, (11, 0, 0, 0), 0, []),
  (12, (14, 0, 0, 0), 0, [])]
abbrev m_X10_sizeOf : Nat := 146
/-- NameMapsModel.holds(III)Z: 20 entries; loop heads [] -/
def co_X10_holds : List Ent := [(0, (2, 2, 0, 0), 0, []),
  (1, (2, 0, 2, 0), 0, []),
  (2, (2, 1, 0, 0), 0, []),
  (3, (13, 44, 145, 0), 0, [(2, 10)]),
  (6, (7, 30, 2, 0), 0, []),
  (9, (2, 2, 0, 0), 0, []),
  (10, (2, 3, 0, 0), 0, []),
  (11, (4, 0, 0, 0), 0, []),
  (12, (2, 0, 2, 0), 0, []),
  (13, (2, 1, 0, 0), 0, []),
  (14, (13, 44, 145, 0), 0, [(2, 10)]),
  (17, (2, 0, 2, 0), 0, []),
  (18, (2, 1, 0, 0), 0, []),
  (19, (13, 48, 146, 0), 0, [(2, 10)]),
  (22, (4, 0, 0, 0), 0, []),
  (23, (7, 30, 4, 0), 0, []),
  (26, (1, 0, 0, 0), nI 1, []),
  (27, (8, 31, 0, 0), 0, []),
  (30, (1, 0, 0, 0), nI 0, []),
  (31, (14, 0, 0, 0), 0, [])]
abbrev m_X10_holds : Nat := 147
/-- NameMapsModel.homeOf(II)I: 32 entries; loop heads [5] -/
def co_X10_homeOf : List Ent := [(0, (1, 0, 0, 0), nI 0, []),
  (1, (3, 3, 0, 0), 0, []),
  (2, (1, 0, 0, 0), nI 1, []),
  (3, (3, 4, 1, 0), 0, []),
  (5, (0, 5, 0, 0), 0, []),
  (5, (2, 4, 1, 0), 0, []),
  (7, (2, 0, 2, 0), 0, []),
  (8, (9, 7, 10, 0), 0, []),
  (11, (1, 0, 0, 0), nI 1, []),
  (12, (11, 0, 0, 0), 0, []),
  (13, (7, 54, 3, 0), 0, []),
  (16, (2, 0, 2, 0), 0, []),
  (17, (2, 4, 1, 0), 0, []),
  (19, (2, 1, 0, 0), 0, []),
  (20, (2, 2, 0, 0), 0, []),
  (21, (13, 51, 147, 0), 0, [(4, 10)]),
  (24, (6, 46, 0, 0), 0, []),
  (27, (2, 0, 2, 0), 0, []),
  (28, (2, 4, 1, 0), 0, []),
  (30, (13, 48, 146, 0), 0, [(2, 10)]),
  (33, (2, 0, 2, 0), 0, []),
  (34, (2, 3, 0, 0), 0, []),
  (35, (13, 48, 146, 0), 0, [(2, 10)]),
  (38, (7, 46, 3, 0), 0, []),
  (41, (2, 4, 1, 0), 0, []),
  (43, (8, 47, 0, 0), 0, []),
  (46, (2, 3, 0, 0), 0, []),
  (47, (3, 3, 0, 0), 0, []),
  (48, (5, 4, 0, 0), nI 1, []),
  (51, (8, 5, 0, 0), 0, []),
  (54, (2, 3, 0, 0), 0, []),
  (55, (14, 0, 0, 0), 0, [])]
abbrev m_X10_homeOf : Nat := 148
/-- NameMapsModel.wayTo(I)I: 20 entries; loop heads [4] -/
def co_X10_wayTo : List Ent := [(0, (1, 0, 0, 0), nI 1, []),
  (1, (3, 2, 0, 0), 0, []),
  (2, (2, 1, 0, 0), 0, []),
  (3, (3, 3, 0, 0), 0, []),
  (4, (0, 4, 0, 0), 0, []),
  (4, (2, 3, 0, 0), 0, []),
  (5, (6, 25, 0, 0), 0, []),
  (8, (2, 0, 2, 0), 0, []),
  (9, (9, 7, 10, 0), 0, []),
  (12, (1, 0, 0, 0), nI 5, []),
  (13, (1, 0, 0, 0), nI 3, []),
  (14, (2, 3, 0, 0), 0, []),
  (15, (4, 2, 0, 0), 0, []),
  (16, (4, 0, 0, 0), 0, []),
  (17, (11, 0, 0, 0), 0, []),
  (18, (3, 3, 0, 0), 0, []),
  (19, (5, 2, 0, 0), nI 1, []),
  (22, (8, 4, 0, 0), 0, []),
  (25, (2, 2, 0, 0), 0, []),
  (26, (14, 0, 0, 0), 0, [])]
abbrev m_X10_wayTo : Nat := 149
/-- NameMapsModel.way(II)I: 23 entries; loop heads [] -/
def co_X10_way : List Ent := [(0, (2, 1, 0, 0), 0, []),
  (1, (13, 40, 134, 1), 0, [(1, 10)]),
  (4, (6, 16, 0, 0), 0, []),
  (7, (2, 2, 0, 0), 0, []),
  (8, (1, 0, 0, 0), nI 0, []),
  (9, (1, 0, 0, 0), nI 1, []),
  (10, (13, 22, 130, 1), 0, [(3, 10)]),
  (13, (6, 19, 1, 0), 0, []),
  (16, (1, 0, 1, 0), (-2), []),
  (18, (14, 0, 0, 0), 0, []),
  (19, (2, 0, 2, 0), 0, []),
  (20, (2, 1, 0, 0), 0, []),
  (21, (1, 0, 0, 0), nI 1, []),
  (22, (13, 54, 148, 0), 0, [(3, 10)]),
  (25, (3, 3, 0, 0), 0, []),
  (26, (2, 2, 0, 0), 0, []),
  (27, (6, 34, 1, 0), 0, []),
  (30, (2, 3, 0, 0), 0, []),
  (31, (8, 39, 0, 0), 0, []),
  (34, (2, 0, 2, 0), 0, []),
  (35, (2, 3, 0, 0), 0, []),
  (36, (13, 58, 149, 0), 0, [(2, 10)]),
  (39, (14, 0, 0, 0), 0, [])]
abbrev m_X10_way : Nat := 150
/-- NameMapsModel.addServer(III)I: 121 entries; loop heads [43] -/
def co_X10_addServer : List Ent := [(0, (2, 0, 2, 0), 0, []),
  (1, (2, 1, 0, 0), 0, []),
  (2, (13, 61, 131, 0), 0, [(2, 10)]),
  (5, (6, 10, 1, 0), 0, []),
  (8, (1, 0, 0, 0), (-1), []),
  (9, (14, 0, 0, 0), 0, []),
  (10, (2, 2, 0, 0), 0, []),
  (11, (2, 3, 0, 0), 0, []),
  (12, (13, 64, 144, 1), 0, [(2, 10)]),
  (15, (6, 37, 0, 0), 0, []),
  (18, (2, 0, 2, 0), 0, []),
  (19, (2, 1, 0, 0), 0, []),
  (20, (2, 2, 0, 0), 0, []),
  (21, (2, 3, 0, 0), 0, []),
  (22, (13, 51, 147, 0), 0, [(4, 10)]),
  (25, (6, 37, 0, 0), 0, []),
  (28, (2, 3, 0, 0), 0, []),
  (29, (2, 0, 2, 0), 0, []),
  (30, (2, 1, 0, 0), 0, []),
  (31, (13, 48, 146, 0), 0, [(2, 10)]),
  (34, (7, 40, 2, 0), 0, []),
  (37, (1, 0, 1, 0), (-2), []),
  (39, (14, 0, 0, 0), 0, []),
  (40, (1, 0, 0, 0), nI 1, []),
  (41, (3, 4, 1, 0), 0, []),
  (43, (0, 5, 0, 0), 0, []),
  (43, (2, 4, 1, 0), 0, []),
  (45, (2, 0, 2, 0), 0, []),
  (46, (9, 7, 10, 0), 0, []),
  (49, (1, 0, 0, 0), nI 1, []),
  (50, (11, 0, 0, 0), 0, []),
  (51, (7, 119, 3, 0), 0, []),
  (54, (2, 2, 0, 0), 0, []),
  (55, (2, 0, 2, 0), 0, []),
  (56, (2, 4, 1, 0), 0, []),
  (58, (13, 44, 145, 0), 0, [(2, 10)]),
  (61, (2, 0, 2, 0), 0, []),
  (62, (2, 4, 1, 0), 0, []),
  (64, (13, 48, 146, 0), 0, [(2, 10)]),
  (67, (4, 0, 0, 0), 0, []),
  (68, (7, 87, 3, 0), 0, []),
  (71, (2, 0, 2, 0), 0, []),
  (72, (2, 4, 1, 0), 0, []),
  (74, (13, 44, 145, 0), 0, [(2, 10)]),
  (77, (2, 2, 0, 0), 0, []),
  (78, (2, 3, 0, 0), 0, []),
  (79, (4, 0, 0, 0), 0, []),
  (80, (7, 87, 3, 0), 0, []),
  (83, (1, 0, 0, 0), nI 1, []),
  (84, (8, 88, 0, 0), 0, []),
  (87, (1, 0, 0, 0), nI 0, []),
  (88, (3, 5, 1, 0), 0, []),
  (90, (2, 0, 2, 0), 0, []),
  (91, (9, 7, 10, 0), 0, []),
  (94, (1, 0, 0, 0), nI 5, []),
  (95, (1, 0, 0, 0), nI 3, []),
  (96, (2, 4, 1, 0), 0, []),
  (98, (4, 2, 0, 0), 0, []),
  (99, (4, 0, 0, 0), 0, []),
  (100, (11, 0, 0, 0), 0, []),
  (101, (2, 1, 0, 0), 0, []),
  (102, (7, 113, 1, 0), 0, []),
  (105, (2, 5, 1, 0), 0, []),
  (107, (6, 113, 0, 0), 0, []),
  (110, (1, 0, 1, 0), (-3), []),
  (112, (14, 0, 0, 0), 0, []),
  (113, (5, 4, 0, 0), nI 1, []),
  (116, (8, 43, 0, 0), 0, []),
  (119, (2, 0, 2, 0), 0, []),
  (120, (9, 7, 10, 0), 0, []),
  (123, (1, 0, 0, 0), nI 1, []),
  (124, (11, 0, 0, 0), 0, []),
  (125, (1, 0, 1, 0), nI 8, []),
  (127, (7, 133, 1, 0), 0, []),
  (130, (1, 0, 1, 0), (-4), []),
  (132, (14, 0, 0, 0), 0, []),
  (133, (2, 0, 2, 0), 0, []),
  (134, (13, 37, 140, 0), 0, [(1, 10)]),
  (137, (1, 0, 0, 0), nI 5, []),
  (138, (1, 0, 0, 0), nI 3, []),
  (139, (2, 0, 2, 0), 0, []),
  (140, (9, 7, 10, 0), 0, []),
  (143, (1, 0, 0, 0), nI 1, []),
  (144, (11, 0, 0, 0), 0, []),
  (145, (4, 2, 0, 0), 0, []),
  (146, (4, 0, 0, 0), 0, []),
  (147, (3, 4, 1, 0), 0, []),
  (149, (2, 0, 2, 0), 0, []),
  (150, (9, 7, 10, 0), 0, []),
  (153, (2, 4, 1, 0), 0, []),
  (155, (2, 1, 0, 0), 0, []),
  (156, (12, 0, 0, 0), 0, []),
  (157, (2, 0, 2, 0), 0, []),
  (158, (9, 7, 10, 0), 0, []),
  (161, (2, 4, 1, 0), 0, []),
  (163, (1, 0, 0, 0), nI 1, []),
  (164, (4, 0, 0, 0), 0, []),
  (165, (2, 2, 0, 0), 0, []),
  (166, (12, 0, 0, 0), 0, []),
  (167, (2, 0, 2, 0), 0, []),
  (168, (9, 7, 10, 0), 0, []),
  (171, (2, 4, 1, 0), 0, []),
  (173, (1, 0, 0, 0), nI 2, []),
  (174, (4, 0, 0, 0), 0, []),
  (175, (2, 3, 0, 0), 0, []),
  (176, (12, 0, 0, 0), 0, []),
  (177, (2, 0, 2, 0), 0, []),
  (178, (9, 7, 10, 0), 0, []),
  (181, (1, 0, 0, 0), nI 1, []),
  (182, (16, 0, 0, 0), 0, []),
  (183, (11, 0, 0, 0), 0, []),
  (184, (1, 0, 0, 0), nI 1, []),
  (185, (4, 0, 0, 0), 0, []),
  (186, (12, 0, 0, 0), 0, []),
  (187, (2, 0, 2, 0), 0, []),
  (188, (9, 7, 10, 0), 0, []),
  (191, (1, 0, 0, 0), nI 1, []),
  (192, (11, 0, 0, 0), 0, []),
  (193, (1, 0, 0, 0), nI 1, []),
  (194, (4, 1, 0, 0), 0, []),
  (195, (14, 0, 0, 0), 0, [])]
abbrev m_X10_addServer : Nat := 151
/-- NameMapsModel.ofSite(II)I: 8 entries; loop heads [] -/
def co_X10_ofSite : List Ent := [(0, (2, 0, 2, 0), 0, []),
  (1, (9, 7, 10, 0), 0, []),
  (4, (2, 1, 0, 0), 0, []),
  (5, (13, 68, 135, 1), 0, [(1, 10)]),
  (8, (2, 2, 0, 0), 0, []),
  (9, (4, 0, 0, 0), 0, []),
  (10, (11, 0, 0, 0), 0, []),
  (11, (14, 0, 0, 0), 0, [])]
abbrev m_X10_ofSite : Nat := 152
/-- NameMapsModel.has(II)Z: 21 entries; loop heads [] -/
def co_X10_has : List Ent := [(0, (2, 2, 0, 0), 0, []),
  (1, (2, 0, 2, 0), 0, []),
  (2, (2, 1, 0, 0), 0, []),
  (3, (1, 0, 0, 0), nI 0, []),
  (4, (13, 71, 152, 0), 0, [(3, 10)]),
  (7, (7, 31, 2, 0), 0, []),
  (10, (2, 2, 0, 0), 0, []),
  (11, (2, 0, 2, 0), 0, []),
  (12, (2, 1, 0, 0), 0, []),
  (13, (1, 0, 0, 0), nI 0, []),
  (14, (13, 71, 152, 0), 0, [(3, 10)]),
  (17, (2, 0, 2, 0), 0, []),
  (18, (2, 1, 0, 0), 0, []),
  (19, (1, 0, 0, 0), nI 1, []),
  (20, (13, 71, 152, 0), 0, [(3, 10)]),
  (23, (4, 0, 0, 0), 0, []),
  (24, (7, 31, 3, 0), 0, []),
  (27, (1, 0, 0, 0), nI 1, []),
  (28, (8, 32, 0, 0), 0, []),
  (31, (1, 0, 0, 0), nI 0, []),
  (32, (14, 0, 0, 0), 0, [])]
abbrev m_X10_has : Nat := 153
/-- NameMapsModel.homeOfSite(I)I: 11 entries; loop heads [] -/
def co_X10_homeOfSite : List Ent := [(0, (2, 0, 2, 0), 0, []),
  (1, (2, 0, 2, 0), 0, []),
  (2, (2, 1, 0, 0), 0, []),
  (3, (1, 0, 0, 0), nI 0, []),
  (4, (13, 71, 152, 0), 0, [(3, 10)]),
  (7, (2, 0, 2, 0), 0, []),
  (8, (2, 1, 0, 0), 0, []),
  (9, (1, 0, 0, 0), nI 1, []),
  (10, (13, 71, 152, 0), 0, [(3, 10)]),
  (13, (13, 54, 148, 0), 0, [(3, 10)]),
  (16, (14, 0, 0, 0), 0, [])]
abbrev m_X10_homeOfSite : Nat := 154
/-- NameMapsModel.isRegistered(I)Z: 13 entries; loop heads [] -/
def co_X10_isRegistered : List Ent := [(0, (2, 0, 2, 0), 0, []),
  (1, (9, 7, 10, 0), 0, []),
  (4, (1, 0, 0, 0), nI 0, []),
  (5, (11, 0, 0, 0), 0, []),
  (6, (2, 0, 2, 0), 0, []),
  (7, (2, 1, 0, 0), 0, []),
  (8, (1, 0, 0, 0), nI 4, []),
  (9, (13, 71, 152, 0), 0, [(3, 10)]),
  (12, (7, 19, 3, 0), 0, []),
  (15, (1, 0, 0, 0), nI 1, []),
  (16, (8, 20, 0, 0), 0, []),
  (19, (1, 0, 0, 0), nI 0, []),
  (20, (14, 0, 0, 0), 0, [])]
abbrev m_X10_isRegistered : Nat := 155
/-- NameMapsModel.isUp(I)Z: 36 entries; loop heads [4] -/
def co_X10_isUp : List Ent := [(0, (1, 0, 0, 0), nI 0, []),
  (1, (3, 2, 0, 0), 0, []),
  (2, (1, 0, 0, 0), nI 0, []),
  (3, (3, 3, 0, 0), 0, []),
  (4, (0, 4, 0, 0), 0, []),
  (4, (2, 3, 0, 0), 0, []),
  (5, (1, 0, 0, 0), nI 3, []),
  (6, (7, 39, 3, 0), 0, []),
  (9, (2, 2, 0, 0), 0, []),
  (10, (6, 27, 1, 0), 0, []),
  (13, (2, 0, 2, 0), 0, []),
  (14, (2, 1, 0, 0), 0, []),
  (15, (1, 0, 0, 0), nI 5, []),
  (16, (1, 0, 0, 0), nI 4, []),
  (17, (2, 3, 0, 0), 0, []),
  (18, (4, 2, 0, 0), 0, []),
  (19, (4, 0, 0, 0), 0, []),
  (20, (13, 71, 152, 0), 0, [(3, 10)]),
  (23, (1, 0, 0, 0), nI 1, []),
  (24, (7, 31, 1, 0), 0, []),
  (27, (1, 0, 0, 0), nI 1, []),
  (28, (8, 32, 0, 0), 0, []),
  (31, (1, 0, 0, 0), nI 0, []),
  (32, (3, 2, 0, 0), 0, []),
  (33, (5, 3, 0, 0), nI 1, []),
  (36, (8, 4, 0, 0), 0, []),
  (39, (2, 2, 0, 0), 0, []),
  (40, (6, 55, 0, 0), 0, []),
  (43, (2, 0, 2, 0), 0, []),
  (44, (2, 1, 0, 0), 0, []),
  (45, (13, 74, 155, 0), 0, [(2, 10)]),
  (48, (6, 55, 0, 0), 0, []),
  (51, (1, 0, 0, 0), nI 1, []),
  (52, (8, 56, 0, 0), 0, []),
  (55, (1, 0, 0, 0), nI 0, []),
  (56, (14, 0, 0, 0), 0, [])]
abbrev m_X10_isUp : Nat := 156
/-- NameMapsModel.answerOf(I)I: 56 entries; loop heads [13] -/
def co_X10_answerOf : List Ent := [(0, (1, 0, 1, 0), (-5), []),
  (2, (3, 2, 0, 0), 0, []),
  (3, (2, 0, 2, 0), 0, []),
  (4, (2, 1, 0, 0), 0, []),
  (5, (1, 0, 0, 0), nI 1, []),
  (6, (13, 54, 148, 0), 0, [(3, 10)]),
  (9, (3, 3, 0, 0), 0, []),
  (10, (1, 0, 0, 0), nI 0, []),
  (11, (3, 4, 1, 0), 0, []),
  (13, (0, 5, 0, 0), 0, []),
  (13, (2, 4, 1, 0), 0, []),
  (15, (2, 0, 2, 0), 0, []),
  (16, (9, 7, 10, 0), 0, []),
  (19, (1, 0, 0, 0), nI 2, []),
  (20, (11, 0, 0, 0), 0, []),
  (21, (7, 100, 3, 0), 0, []),
  (24, (2, 0, 2, 0), 0, []),
  (25, (2, 4, 1, 0), 0, []),
  (27, (13, 77, 156, 0), 0, [(2, 10)]),
  (30, (6, 57, 0, 0), 0, []),
  (33, (2, 0, 2, 0), 0, []),
  (34, (2, 4, 1, 0), 0, []),
  (36, (2, 1, 0, 0), 0, []),
  (37, (13, 80, 153, 0), 0, [(3, 10)]),
  (40, (6, 57, 0, 0), 0, []),
  (43, (2, 0, 2, 0), 0, []),
  (44, (2, 4, 1, 0), 0, []),
  (46, (13, 83, 154, 0), 0, [(2, 10)]),
  (49, (2, 3, 0, 0), 0, []),
  (50, (7, 57, 1, 0), 0, []),
  (53, (1, 0, 0, 0), nI 1, []),
  (54, (8, 58, 0, 0), 0, []),
  (57, (1, 0, 0, 0), nI 0, []),
  (58, (3, 5, 1, 0), 0, []),
  (60, (2, 5, 1, 0), 0, []),
  (62, (6, 92, 0, 0), 0, []),
  (65, (2, 2, 0, 0), 0, []),
  (66, (1, 0, 1, 0), (-5), []),
  (68, (7, 87, 0, 0), 0, []),
  (71, (2, 0, 2, 0), 0, []),
  (72, (2, 4, 1, 0), 0, []),
  (74, (1, 0, 0, 0), nI 1, []),
  (75, (13, 71, 152, 0), 0, [(3, 10)]),
  (78, (2, 0, 2, 0), 0, []),
  (79, (2, 2, 0, 0), 0, []),
  (80, (1, 0, 0, 0), nI 1, []),
  (81, (13, 71, 152, 0), 0, [(3, 10)]),
  (84, (7, 92, 3, 0), 0, []),
  (87, (2, 4, 1, 0), 0, []),
  (89, (8, 93, 0, 0), 0, []),
  (92, (2, 2, 0, 0), 0, []),
  (93, (3, 2, 0, 0), 0, []),
  (94, (5, 4, 0, 0), nI 1, []),
  (97, (8, 13, 0, 0), 0, []),
  (100, (2, 2, 0, 0), 0, []),
  (101, (14, 0, 0, 0), 0, [])]
abbrev m_X10_answerOf : Nat := 157
/-- NameMapsModel.answer(I)I: 9 entries; loop heads [] -/
def co_X10_answer : List Ent := [(0, (2, 1, 0, 0), 0, []),
  (1, (13, 40, 134, 1), 0, [(1, 10)]),
  (4, (6, 15, 0, 0), 0, []),
  (7, (2, 0, 2, 0), 0, []),
  (8, (2, 1, 0, 0), 0, []),
  (9, (13, 86, 157, 0), 0, [(2, 10)]),
  (12, (8, 17, 0, 0), 0, []),
  (15, (1, 0, 1, 0), (-2), []),
  (17, (14, 0, 0, 0), 0, [])]
abbrev m_X10_answer : Nat := 158
/-- NameMapsModel.addSite(III)I: 110 entries; loop heads [24, 98] -/
def co_X10_addSite : List Ent := [(0, (2, 1, 0, 0), 0, []),
  (1, (2, 2, 0, 0), 0, []),
  (2, (13, 64, 144, 1), 0, [(2, 10)]),
  (5, (6, 18, 0, 0), 0, []),
  (8, (2, 3, 0, 0), 0, []),
  (9, (1, 0, 0, 0), nI 1, []),
  (10, (1, 0, 1, 0), nI 48, []),
  (12, (13, 22, 130, 1), 0, [(3, 10)]),
  (15, (6, 21, 1, 0), 0, []),
  (18, (1, 0, 1, 0), (-2), []),
  (20, (14, 0, 0, 0), 0, []),
  (21, (1, 0, 0, 0), nI 0, []),
  (22, (3, 4, 1, 0), 0, []),
  (24, (0, 5, 0, 0), 0, []),
  (24, (2, 4, 1, 0), 0, []),
  (26, (2, 0, 2, 0), 0, []),
  (27, (9, 7, 10, 0), 0, []),
  (30, (1, 0, 0, 0), nI 2, []),
  (31, (11, 0, 0, 0), 0, []),
  (32, (7, 66, 3, 0), 0, []),
  (35, (2, 0, 2, 0), 0, []),
  (36, (2, 4, 1, 0), 0, []),
  (38, (1, 0, 0, 0), nI 0, []),
  (39, (13, 71, 152, 0), 0, [(3, 10)]),
  (42, (2, 1, 0, 0), 0, []),
  (43, (7, 60, 1, 0), 0, []),
  (46, (2, 0, 2, 0), 0, []),
  (47, (2, 4, 1, 0), 0, []),
  (49, (1, 0, 0, 0), nI 1, []),
  (50, (13, 71, 152, 0), 0, [(3, 10)]),
  (53, (2, 2, 0, 0), 0, []),
  (54, (7, 60, 1, 0), 0, []),
  (57, (1, 0, 1, 0), (-3), []),
  (59, (14, 0, 0, 0), 0, []),
  (60, (5, 4, 0, 0), nI 1, []),
  (63, (8, 24, 0, 0), 0, []),
  (66, (2, 0, 2, 0), 0, []),
  (67, (9, 7, 10, 0), 0, []),
  (70, (1, 0, 0, 0), nI 2, []),
  (71, (11, 0, 0, 0), 0, []),
  (72, (1, 0, 1, 0), nI 8, []),
  (74, (7, 80, 1, 0), 0, []),
  (77, (1, 0, 1, 0), (-4), []),
  (79, (14, 0, 0, 0), 0, []),
  (80, (2, 0, 2, 0), 0, []),
  (81, (13, 37, 140, 0), 0, [(1, 10)]),
  (84, (2, 0, 2, 0), 0, []),
  (85, (9, 7, 10, 0), 0, []),
  (88, (1, 0, 0, 0), nI 2, []),
  (89, (11, 0, 0, 0), 0, []),
  (90, (13, 68, 135, 1), 0, [(1, 10)]),
  (93, (3, 4, 1, 0), 0, []),
  (95, (1, 0, 0, 0), nI 0, []),
  (96, (3, 5, 1, 0), 0, []),
  (98, (0, 6, 0, 0), 0, []),
  (98, (2, 5, 1, 0), 0, []),
  (100, (1, 0, 1, 0), nI 17, []),
  (102, (7, 122, 3, 0), 0, []),
  (105, (2, 0, 2, 0), 0, []),
  (106, (9, 7, 10, 0), 0, []),
  (109, (2, 4, 1, 0), 0, []),
  (111, (2, 5, 1, 0), 0, []),
  (113, (4, 0, 0, 0), 0, []),
  (114, (1, 0, 0, 0), nI 0, []),
  (115, (12, 0, 0, 0), 0, []),
  (116, (5, 5, 0, 0), nI 1, []),
  (119, (8, 98, 0, 0), 0, []),
  (122, (2, 0, 2, 0), 0, []),
  (123, (9, 7, 10, 0), 0, []),
  (126, (2, 4, 1, 0), 0, []),
  (128, (1, 0, 0, 0), nI 0, []),
  (129, (4, 0, 0, 0), 0, []),
  (130, (2, 1, 0, 0), 0, []),
  (131, (12, 0, 0, 0), 0, []),
  (132, (2, 0, 2, 0), 0, []),
  (133, (9, 7, 10, 0), 0, []),
  (136, (2, 4, 1, 0), 0, []),
  (138, (1, 0, 0, 0), nI 1, []),
  (139, (4, 0, 0, 0), 0, []),
  (140, (2, 2, 0, 0), 0, []),
  (141, (12, 0, 0, 0), 0, []),
  (142, (2, 0, 2, 0), 0, []),
  (143, (9, 7, 10, 0), 0, []),
  (146, (2, 4, 1, 0), 0, []),
  (148, (1, 0, 0, 0), nI 2, []),
  (149, (4, 0, 0, 0), 0, []),
  (150, (2, 3, 0, 0), 0, []),
  (151, (12, 0, 0, 0), 0, []),
  (152, (2, 0, 2, 0), 0, []),
  (153, (9, 7, 10, 0), 0, []),
  (156, (2, 4, 1, 0), 0, []),
  (158, (1, 0, 0, 0), nI 3, []),
  (159, (4, 0, 0, 0), 0, []),
  (160, (1, 0, 0, 0), nI 1, []),
  (161, (12, 0, 0, 0), 0, []),
  (162, (2, 0, 2, 0), 0, []),
  (163, (9, 7, 10, 0), 0, []),
  (166, (1, 0, 0, 0), nI 2, []),
  (167, (16, 0, 0, 0), 0, []),
  (168, (11, 0, 0, 0), 0, []),
  (169, (1, 0, 0, 0), nI 1, []),
  (170, (4, 0, 0, 0), 0, []),
  (171, (12, 0, 0, 0), 0, []),
  (172, (2, 0, 2, 0), 0, []),
  (173, (9, 7, 10, 0), 0, []),
  (176, (1, 0, 0, 0), nI 2, []),
  (177, (11, 0, 0, 0), 0, []),
  (178, (1, 0, 0, 0), nI 1, []),
  (179, (4, 1, 0, 0), 0, []),
  (180, (14, 0, 0, 0), 0, [])]
abbrev m_X10_addSite : Nat := 159
/-- NameMapsModel.addRouter()I: 44 entries; loop heads [19] -/
def co_X10_addRouter : List Ent := [(0, (2, 0, 2, 0), 0, []),
  (1, (9, 7, 10, 0), 0, []),
  (4, (1, 0, 0, 0), nI 3, []),
  (5, (11, 0, 0, 0), 0, []),
  (6, (1, 0, 0, 0), nI 4, []),
  (7, (7, 13, 1, 0), 0, []),
  (10, (1, 0, 1, 0), (-4), []),
  (12, (14, 0, 0, 0), 0, []),
  (13, (2, 0, 2, 0), 0, []),
  (14, (13, 37, 140, 0), 0, [(1, 10)]),
  (17, (1, 0, 0, 0), nI 0, []),
  (18, (3, 1, 0, 0), 0, []),
  (19, (0, 2, 0, 0), 0, []),
  (19, (2, 1, 0, 0), 0, []),
  (20, (1, 0, 1, 0), nI 6, []),
  (22, (7, 48, 3, 0), 0, []),
  (25, (2, 0, 2, 0), 0, []),
  (26, (9, 7, 10, 0), 0, []),
  (29, (2, 0, 2, 0), 0, []),
  (30, (9, 7, 10, 0), 0, []),
  (33, (1, 0, 0, 0), nI 3, []),
  (34, (11, 0, 0, 0), 0, []),
  (35, (13, 89, 136, 1), 0, [(1, 10)]),
  (38, (2, 1, 0, 0), 0, []),
  (39, (4, 0, 0, 0), 0, []),
  (40, (1, 0, 0, 0), nI 0, []),
  (41, (12, 0, 0, 0), 0, []),
  (42, (5, 1, 0, 0), nI 1, []),
  (45, (8, 19, 0, 0), 0, []),
  (48, (2, 0, 2, 0), 0, []),
  (49, (9, 7, 10, 0), 0, []),
  (52, (1, 0, 0, 0), nI 3, []),
  (53, (16, 0, 0, 0), 0, []),
  (54, (11, 0, 0, 0), 0, []),
  (55, (1, 0, 0, 0), nI 1, []),
  (56, (4, 0, 0, 0), 0, []),
  (57, (12, 0, 0, 0), 0, []),
  (58, (2, 0, 2, 0), 0, []),
  (59, (9, 7, 10, 0), 0, []),
  (62, (1, 0, 0, 0), nI 3, []),
  (63, (11, 0, 0, 0), 0, []),
  (64, (1, 0, 0, 0), nI 1, []),
  (65, (4, 1, 0, 0), 0, []),
  (66, (14, 0, 0, 0), 0, [])]
abbrev m_X10_addRouter : Nat := 160
/-- NameMapsModel.setSlot(IIIII)I: 81 entries; loop heads [] -/
def co_X10_setSlot : List Ent := [(0, (2, 0, 2, 0), 0, []),
  (1, (2, 1, 0, 0), 0, []),
  (2, (13, 92, 132, 0), 0, [(2, 10)]),
  (5, (6, 17, 0, 0), 0, []),
  (8, (2, 2, 0, 0), 0, []),
  (9, (1, 0, 0, 0), nI 0, []),
  (10, (1, 0, 0, 0), nI 2, []),
  (11, (13, 22, 130, 1), 0, [(3, 10)]),
  (14, (6, 19, 1, 0), 0, []),
  (17, (1, 0, 0, 0), (-1), []),
  (18, (14, 0, 0, 0), 0, []),
  (19, (2, 3, 0, 0), 0, []),
  (20, (1, 0, 0, 0), nI 0, []),
  (21, (1, 0, 1, 0), nI 31, []),
  (23, (13, 22, 130, 1), 0, [(3, 10)]),
  (26, (6, 51, 0, 0), 0, []),
  (29, (2, 4, 1, 0), 0, []),
  (31, (1, 0, 0, 0), nI 0, []),
  (32, (1, 0, 1, 0), nI 9, []),
  (34, (13, 22, 130, 1), 0, [(3, 10)]),
  (37, (6, 51, 0, 0), 0, []),
  (40, (2, 5, 1, 0), 0, []),
  (42, (1, 0, 0, 0), nI 1, []),
  (43, (1, 0, 1, 0), nI 9, []),
  (45, (13, 22, 130, 1), 0, [(3, 10)]),
  (48, (6, 54, 1, 0), 0, []),
  (51, (1, 0, 1, 0), (-2), []),
  (53, (14, 0, 0, 0), 0, []),
  (54, (2, 0, 2, 0), 0, []),
  (55, (13, 37, 140, 0), 0, [(1, 10)]),
  (58, (2, 1, 0, 0), 0, []),
  (59, (13, 68, 135, 1), 0, [(1, 10)]),
  (62, (1, 0, 0, 0), nI 5, []),
  (63, (4, 0, 0, 0), 0, []),
  (64, (1, 0, 0, 0), nI 4, []),
  (65, (2, 2, 0, 0), 0, []),
  (66, (4, 2, 0, 0), 0, []),
  (67, (4, 0, 0, 0), 0, []),
  (68, (3, 6, 1, 0), 0, []),
  (70, (2, 0, 2, 0), 0, []),
  (71, (9, 7, 10, 0), 0, []),
  (74, (2, 6, 1, 0), 0, []),
  (76, (1, 0, 0, 0), nI 1, []),
  (77, (12, 0, 0, 0), 0, []),
  (78, (2, 0, 2, 0), 0, []),
  (79, (9, 7, 10, 0), 0, []),
  (82, (2, 6, 1, 0), 0, []),
  (84, (1, 0, 0, 0), nI 1, []),
  (85, (4, 0, 0, 0), 0, []),
  (86, (2, 3, 0, 0), 0, []),
  (87, (12, 0, 0, 0), 0, []),
  (88, (2, 0, 2, 0), 0, []),
  (89, (9, 7, 10, 0), 0, []),
  (92, (2, 6, 1, 0), 0, []),
  (94, (1, 0, 0, 0), nI 2, []),
  (95, (4, 0, 0, 0), 0, []),
  (96, (2, 4, 1, 0), 0, []),
  (98, (12, 0, 0, 0), 0, []),
  (99, (2, 0, 2, 0), 0, []),
  (100, (9, 7, 10, 0), 0, []),
  (103, (2, 6, 1, 0), 0, []),
  (105, (1, 0, 0, 0), nI 3, []),
  (106, (4, 0, 0, 0), 0, []),
  (107, (2, 5, 1, 0), 0, []),
  (109, (12, 0, 0, 0), 0, []),
  (110, (2, 0, 2, 0), 0, []),
  (111, (9, 7, 10, 0), 0, []),
  (114, (2, 1, 0, 0), 0, []),
  (115, (13, 68, 135, 1), 0, [(1, 10)]),
  (118, (1, 0, 0, 0), nI 3, []),
  (119, (4, 0, 0, 0), 0, []),
  (120, (16, 0, 0, 0), 0, []),
  (121, (11, 0, 0, 0), 0, []),
  (122, (1, 0, 0, 0), nI 1, []),
  (123, (4, 0, 0, 0), 0, []),
  (124, (12, 0, 0, 0), 0, []),
  (125, (2, 0, 2, 0), 0, []),
  (126, (2, 1, 0, 0), 0, []),
  (127, (1, 0, 0, 0), nI 3, []),
  (128, (13, 71, 152, 0), 0, [(3, 10)]),
  (131, (14, 0, 0, 0), 0, [])]
abbrev m_X10_setSlot : Nat := 161
/-- NameMapsModel.emptySlot(II)I: 50 entries; loop heads [] -/
def co_X10_emptySlot : List Ent := [(0, (2, 0, 2, 0), 0, []),
  (1, (2, 1, 0, 0), 0, []),
  (2, (13, 92, 132, 0), 0, [(2, 10)]),
  (5, (6, 17, 0, 0), 0, []),
  (8, (2, 2, 0, 0), 0, []),
  (9, (1, 0, 0, 0), nI 0, []),
  (10, (1, 0, 0, 0), nI 2, []),
  (11, (13, 22, 130, 1), 0, [(3, 10)]),
  (14, (6, 19, 1, 0), 0, []),
  (17, (1, 0, 0, 0), (-1), []),
  (18, (14, 0, 0, 0), 0, []),
  (19, (2, 1, 0, 0), 0, []),
  (20, (13, 68, 135, 1), 0, [(1, 10)]),
  (23, (1, 0, 0, 0), nI 5, []),
  (24, (4, 0, 0, 0), 0, []),
  (25, (1, 0, 0, 0), nI 4, []),
  (26, (2, 2, 0, 0), 0, []),
  (27, (4, 2, 0, 0), 0, []),
  (28, (4, 0, 0, 0), 0, []),
  (29, (3, 3, 0, 0), 0, []),
  (30, (2, 0, 2, 0), 0, []),
  (31, (9, 7, 10, 0), 0, []),
  (34, (2, 3, 0, 0), 0, []),
  (35, (11, 0, 0, 0), 0, []),
  (36, (6, 42, 1, 0), 0, []),
  (39, (1, 0, 1, 0), (-3), []),
  (41, (14, 0, 0, 0), 0, []),
  (42, (2, 0, 2, 0), 0, []),
  (43, (13, 37, 140, 0), 0, [(1, 10)]),
  (46, (2, 0, 2, 0), 0, []),
  (47, (9, 7, 10, 0), 0, []),
  (50, (2, 3, 0, 0), 0, []),
  (51, (1, 0, 0, 0), nI 0, []),
  (52, (12, 0, 0, 0), 0, []),
  (53, (2, 0, 2, 0), 0, []),
  (54, (9, 7, 10, 0), 0, []),
  (57, (2, 1, 0, 0), 0, []),
  (58, (13, 68, 135, 1), 0, [(1, 10)]),
  (61, (1, 0, 0, 0), nI 3, []),
  (62, (4, 0, 0, 0), 0, []),
  (63, (16, 0, 0, 0), 0, []),
  (64, (11, 0, 0, 0), 0, []),
  (65, (1, 0, 0, 0), nI 1, []),
  (66, (4, 0, 0, 0), 0, []),
  (67, (12, 0, 0, 0), 0, []),
  (68, (2, 0, 2, 0), 0, []),
  (69, (2, 1, 0, 0), 0, []),
  (70, (1, 0, 0, 0), nI 3, []),
  (71, (13, 71, 152, 0), 0, [(3, 10)]),
  (74, (14, 0, 0, 0), 0, [])]
abbrev m_X10_emptySlot : Nat := 162
/-- NameMapsModel.registers(I)I: 21 entries; loop heads [] -/
def co_X10_registers : List Ent := [(0, (2, 0, 2, 0), 0, []),
  (1, (9, 7, 10, 0), 0, []),
  (4, (2, 1, 0, 0), 0, []),
  (5, (13, 68, 135, 1), 0, [(1, 10)]),
  (8, (1, 0, 0, 0), nI 4, []),
  (9, (4, 0, 0, 0), 0, []),
  (10, (2, 0, 2, 0), 0, []),
  (11, (9, 7, 10, 0), 0, []),
  (14, (1, 0, 0, 0), nI 0, []),
  (15, (11, 0, 0, 0), 0, []),
  (16, (2, 0, 2, 0), 0, []),
  (17, (2, 1, 0, 0), 0, []),
  (18, (1, 0, 0, 0), nI 2, []),
  (19, (13, 71, 152, 0), 0, [(3, 10)]),
  (22, (4, 0, 0, 0), 0, []),
  (23, (12, 0, 0, 0), 0, []),
  (24, (2, 0, 2, 0), 0, []),
  (25, (2, 1, 0, 0), 0, []),
  (26, (1, 0, 0, 0), nI 4, []),
  (27, (13, 71, 152, 0), 0, [(3, 10)]),
  (30, (14, 0, 0, 0), 0, [])]
abbrev m_X10_registers : Nat := 163
/-- NameMapsModel.register(I)I: 12 entries; loop heads [] -/
def co_X10_register : List Ent := [(0, (2, 0, 2, 0), 0, []),
  (1, (2, 1, 0, 0), 0, []),
  (2, (13, 92, 132, 0), 0, [(2, 10)]),
  (5, (6, 10, 1, 0), 0, []),
  (8, (1, 0, 0, 0), (-1), []),
  (9, (14, 0, 0, 0), 0, []),
  (10, (2, 0, 2, 0), 0, []),
  (11, (13, 37, 140, 0), 0, [(1, 10)]),
  (14, (2, 0, 2, 0), 0, []),
  (15, (2, 1, 0, 0), 0, []),
  (16, (13, 95, 163, 0), 0, [(2, 10)]),
  (19, (14, 0, 0, 0), 0, [])]
abbrev m_X10_register : Nat := 164
/-- NameMapsModel.unregisterError(I)I: 14 entries; loop heads [] -/
def co_X10_unregisterError : List Ent := [(0, (2, 0, 2, 0), 0, []),
  (1, (2, 1, 0, 0), 0, []),
  (2, (13, 92, 132, 0), 0, [(2, 10)]),
  (5, (6, 10, 1, 0), 0, []),
  (8, (1, 0, 0, 0), (-1), []),
  (9, (14, 0, 0, 0), 0, []),
  (10, (2, 0, 2, 0), 0, []),
  (11, (2, 1, 0, 0), 0, []),
  (12, (13, 74, 155, 0), 0, [(2, 10)]),
  (15, (6, 22, 0, 0), 0, []),
  (18, (1, 0, 0, 0), nI 0, []),
  (19, (8, 24, 0, 0), 0, []),
  (22, (1, 0, 1, 0), (-3), []),
  (24, (14, 0, 0, 0), 0, [])]
abbrev m_X10_unregisterError : Nat := 165
/-- NameMapsModel.unregisters(I)I: 23 entries; loop heads [] -/
def co_X10_unregisters : List Ent := [(0, (2, 0, 2, 0), 0, []),
  (1, (2, 1, 0, 0), 0, []),
  (2, (1, 0, 0, 0), nI 4, []),
  (3, (13, 71, 152, 0), 0, [(3, 10)]),
  (6, (2, 0, 2, 0), 0, []),
  (7, (9, 7, 10, 0), 0, []),
  (10, (1, 0, 0, 0), nI 0, []),
  (11, (11, 0, 0, 0), 0, []),
  (12, (4, 1, 0, 0), 0, []),
  (13, (3, 2, 0, 0), 0, []),
  (14, (2, 0, 2, 0), 0, []),
  (15, (9, 7, 10, 0), 0, []),
  (18, (2, 1, 0, 0), 0, []),
  (19, (13, 68, 135, 1), 0, [(1, 10)]),
  (22, (1, 0, 0, 0), nI 4, []),
  (23, (4, 0, 0, 0), 0, []),
  (24, (2, 0, 2, 0), 0, []),
  (25, (9, 7, 10, 0), 0, []),
  (28, (1, 0, 0, 0), nI 0, []),
  (29, (11, 0, 0, 0), 0, []),
  (30, (12, 0, 0, 0), 0, []),
  (31, (2, 2, 0, 0), 0, []),
  (32, (14, 0, 0, 0), 0, [])]
abbrev m_X10_unregisters : Nat := 166
/-- NameMapsModel.unregister(I)I: 14 entries; loop heads [] -/
def co_X10_unregister : List Ent := [(0, (2, 0, 2, 0), 0, []),
  (1, (2, 1, 0, 0), 0, []),
  (2, (13, 98, 165, 0), 0, [(2, 10)]),
  (5, (3, 2, 0, 0), 0, []),
  (6, (2, 2, 0, 0), 0, []),
  (7, (6, 12, 0, 0), 0, []),
  (10, (2, 2, 0, 0), 0, []),
  (11, (14, 0, 0, 0), 0, []),
  (12, (2, 0, 2, 0), 0, []),
  (13, (13, 37, 140, 0), 0, [(1, 10)]),
  (16, (2, 0, 2, 0), 0, []),
  (17, (2, 1, 0, 0), 0, []),
  (18, (13, 101, 166, 0), 0, [(2, 10)]),
  (21, (14, 0, 0, 0), 0, [])]
abbrev m_X10_unregister : Nat := 167
/-- NameMapsModel.setMapLife(I)I: 21 entries; loop heads [] -/
def co_X10_setMapLife : List Ent := [(0, (2, 1, 0, 0), 0, []),
  (1, (1, 0, 0, 0), nI 1, []),
  (2, (1, 0, 1, 0), nI 100, []),
  (4, (13, 22, 130, 1), 0, [(3, 10)]),
  (7, (6, 13, 1, 0), 0, []),
  (10, (1, 0, 1, 0), (-2), []),
  (12, (14, 0, 0, 0), 0, []),
  (13, (2, 0, 2, 0), 0, []),
  (14, (13, 37, 140, 0), 0, [(1, 10)]),
  (17, (2, 0, 2, 0), 0, []),
  (18, (9, 7, 10, 0), 0, []),
  (21, (1, 0, 0, 0), nI 4, []),
  (22, (11, 0, 0, 0), 0, []),
  (23, (3, 2, 0, 0), 0, []),
  (24, (2, 0, 2, 0), 0, []),
  (25, (9, 7, 10, 0), 0, []),
  (28, (1, 0, 0, 0), nI 4, []),
  (29, (2, 1, 0, 0), 0, []),
  (30, (12, 0, 0, 0), 0, []),
  (31, (2, 2, 0, 0), 0, []),
  (32, (14, 0, 0, 0), 0, [])]
abbrev m_X10_setMapLife : Nat := 168
/-- NameMapsModel.mapsOf(I)I: 8 entries; loop heads [] -/
def co_X10_mapsOf : List Ent := [(0, (2, 0, 2, 0), 0, []),
  (1, (9, 7, 10, 0), 0, []),
  (4, (2, 1, 0, 0), 0, []),
  (5, (13, 89, 136, 1), 0, [(1, 10)]),
  (8, (1, 0, 0, 0), nI 0, []),
  (9, (4, 0, 0, 0), 0, []),
  (10, (11, 0, 0, 0), 0, []),
  (11, (14, 0, 0, 0), 0, [])]
abbrev m_X10_mapsOf : Nat := 169
/-- NameMapsModel.ofMap(III)I: 9 entries; loop heads [] -/
def co_X10_ofMap : List Ent := [(0, (2, 0, 2, 0), 0, []),
  (1, (9, 7, 10, 0), 0, []),
  (4, (2, 1, 0, 0), 0, []),
  (5, (2, 2, 0, 0), 0, []),
  (6, (13, 104, 137, 1), 0, [(2, 10)]),
  (9, (2, 3, 0, 0), 0, []),
  (10, (4, 0, 0, 0), 0, []),
  (11, (11, 0, 0, 0), 0, []),
  (12, (14, 0, 0, 0), 0, [])]
abbrev m_X10_ofMap : Nat := 170
/-- NameMapsModel.drops(II)V: 36 entries; loop heads [21] -/
def co_X10_drops : List Ent := [(0, (2, 0, 2, 0), 0, []),
  (1, (9, 7, 10, 0), 0, []),
  (4, (2, 1, 0, 0), 0, []),
  (5, (13, 89, 136, 1), 0, [(1, 10)]),
  (8, (1, 0, 0, 0), nI 0, []),
  (9, (4, 0, 0, 0), 0, []),
  (10, (16, 0, 0, 0), 0, []),
  (11, (11, 0, 0, 0), 0, []),
  (12, (1, 0, 0, 0), nI 1, []),
  (13, (4, 1, 0, 0), 0, []),
  (14, (12, 0, 0, 0), 0, []),
  (15, (2, 1, 0, 0), 0, []),
  (16, (2, 2, 0, 0), 0, []),
  (17, (13, 104, 137, 1), 0, [(2, 10)]),
  (20, (3, 3, 0, 0), 0, []),
  (21, (0, 4, 0, 0), 0, []),
  (21, (2, 3, 0, 0), 0, []),
  (22, (2, 1, 0, 0), 0, []),
  (23, (2, 0, 2, 0), 0, []),
  (24, (2, 1, 0, 0), 0, []),
  (25, (13, 107, 169, 0), 0, [(2, 10)]),
  (28, (13, 104, 137, 1), 0, [(2, 10)]),
  (31, (7, 55, 3, 0), 0, []),
  (34, (2, 0, 2, 0), 0, []),
  (35, (9, 7, 10, 0), 0, []),
  (38, (2, 3, 0, 0), 0, []),
  (39, (2, 0, 2, 0), 0, []),
  (40, (9, 7, 10, 0), 0, []),
  (43, (2, 3, 0, 0), 0, []),
  (44, (1, 0, 1, 0), nI 16, []),
  (46, (4, 0, 0, 0), 0, []),
  (47, (11, 0, 0, 0), 0, []),
  (48, (12, 0, 0, 0), 0, []),
  (49, (5, 3, 0, 0), nI 1, []),
  (52, (8, 21, 0, 0), 0, []),
  (55, (14, 1, 0, 0), 0, [])]
abbrev m_X10_drops : Nat := 171
/-- NameMapsModel.makesRoom(II)V: 25 entries; loop heads [9] -/
def co_X10_makesRoom : List Ent := [(0, (2, 1, 0, 0), 0, []),
  (1, (2, 2, 0, 0), 0, []),
  (2, (13, 104, 137, 1), 0, [(2, 10)]),
  (5, (1, 0, 1, 0), nI 15, []),
  (7, (4, 0, 0, 0), 0, []),
  (8, (3, 3, 0, 0), 0, []),
  (9, (0, 4, 0, 0), 0, []),
  (9, (2, 3, 0, 0), 0, []),
  (10, (2, 1, 0, 0), 0, []),
  (11, (1, 0, 0, 0), nI 1, []),
  (12, (13, 104, 137, 1), 0, [(2, 10)]),
  (15, (7, 39, 2, 0), 0, []),
  (18, (2, 0, 2, 0), 0, []),
  (19, (9, 7, 10, 0), 0, []),
  (22, (2, 3, 0, 0), 0, []),
  (23, (2, 0, 2, 0), 0, []),
  (24, (9, 7, 10, 0), 0, []),
  (27, (2, 3, 0, 0), 0, []),
  (28, (1, 0, 1, 0), nI 16, []),
  (30, (4, 1, 0, 0), 0, []),
  (31, (11, 0, 0, 0), 0, []),
  (32, (12, 0, 0, 0), 0, []),
  (33, (5, 3, 0, 0), (-1), []),
  (36, (8, 9, 0, 0), 0, []),
  (39, (14, 1, 0, 0), 0, [])]
abbrev m_X10_makesRoom : Nat := 172
/-- NameMapsModel.uses(II)V: 54 entries; loop heads [2, 9] -/
def co_X10_uses : List Ent := [(0, (2, 2, 0, 0), 0, []),
  (1, (3, 3, 0, 0), 0, []),
  (2, (0, 4, 0, 0), 0, []),
  (2, (2, 3, 0, 0), 0, []),
  (3, (6, 88, 5, 0), 0, []),
  (6, (1, 0, 0, 0), nI 0, []),
  (7, (3, 4, 1, 0), 0, []),
  (9, (0, 5, 0, 0), 0, []),
  (9, (2, 4, 1, 0), 0, []),
  (11, (1, 0, 1, 0), nI 16, []),
  (13, (7, 82, 3, 0), 0, []),
  (16, (2, 0, 2, 0), 0, []),
  (17, (9, 7, 10, 0), 0, []),
  (20, (2, 1, 0, 0), 0, []),
  (21, (2, 3, 0, 0), 0, []),
  (22, (13, 104, 137, 1), 0, [(2, 10)]),
  (25, (2, 4, 1, 0), 0, []),
  (27, (4, 0, 0, 0), 0, []),
  (28, (11, 0, 0, 0), 0, []),
  (29, (3, 5, 1, 0), 0, []),
  (31, (2, 0, 2, 0), 0, []),
  (32, (9, 7, 10, 0), 0, []),
  (35, (2, 1, 0, 0), 0, []),
  (36, (2, 3, 0, 0), 0, []),
  (37, (13, 104, 137, 1), 0, [(2, 10)]),
  (40, (2, 4, 1, 0), 0, []),
  (42, (4, 0, 0, 0), 0, []),
  (43, (2, 0, 2, 0), 0, []),
  (44, (9, 7, 10, 0), 0, []),
  (47, (2, 1, 0, 0), 0, []),
  (48, (2, 3, 0, 0), 0, []),
  (49, (1, 0, 0, 0), nI 1, []),
  (50, (4, 1, 0, 0), 0, []),
  (51, (13, 104, 137, 1), 0, [(2, 10)]),
  (54, (2, 4, 1, 0), 0, []),
  (56, (4, 0, 0, 0), 0, []),
  (57, (11, 0, 0, 0), 0, []),
  (58, (12, 0, 0, 0), 0, []),
  (59, (2, 0, 2, 0), 0, []),
  (60, (9, 7, 10, 0), 0, []),
  (63, (2, 1, 0, 0), 0, []),
  (64, (2, 3, 0, 0), 0, []),
  (65, (1, 0, 0, 0), nI 1, []),
  (66, (4, 1, 0, 0), 0, []),
  (67, (13, 104, 137, 1), 0, [(2, 10)]),
  (70, (2, 4, 1, 0), 0, []),
  (72, (4, 0, 0, 0), 0, []),
  (73, (2, 5, 1, 0), 0, []),
  (75, (12, 0, 0, 0), 0, []),
  (76, (5, 4, 0, 0), nI 1, []),
  (79, (8, 9, 0, 0), 0, []),
  (82, (5, 3, 0, 0), (-1), []),
  (85, (8, 2, 0, 0), 0, []),
  (88, (14, 1, 0, 0), 0, [])]
abbrev m_X10_uses : Nat := 173
/-- NameMapsModel.asks(II)Z: 152 entries; loop heads [62, 107, 199] -/
def co_X10_asks : List Ent := [(0, (2, 0, 2, 0), 0, []),
  (1, (9, 7, 10, 0), 0, []),
  (4, (2, 1, 0, 0), 0, []),
  (5, (13, 89, 136, 1), 0, [(1, 10)]),
  (8, (1, 0, 0, 0), nI 1, []),
  (9, (4, 0, 0, 0), 0, []),
  (10, (16, 0, 0, 0), 0, []),
  (11, (11, 0, 0, 0), 0, []),
  (12, (1, 0, 0, 0), nI 1, []),
  (13, (4, 0, 0, 0), 0, []),
  (14, (12, 0, 0, 0), 0, []),
  (15, (2, 0, 2, 0), 0, []),
  (16, (9, 7, 10, 0), 0, []),
  (19, (2, 1, 0, 0), 0, []),
  (20, (13, 89, 136, 1), 0, [(1, 10)]),
  (23, (1, 0, 0, 0), nI 2, []),
  (24, (4, 0, 0, 0), 0, []),
  (25, (16, 0, 0, 0), 0, []),
  (26, (11, 0, 0, 0), 0, []),
  (27, (2, 0, 2, 0), 0, []),
  (28, (2, 0, 2, 0), 0, []),
  (29, (2, 2, 0, 0), 0, []),
  (30, (1, 0, 0, 0), nI 1, []),
  (31, (13, 54, 148, 0), 0, [(3, 10)]),
  (34, (13, 58, 149, 0), 0, [(2, 10)]),
  (37, (4, 0, 0, 0), 0, []),
  (38, (12, 0, 0, 0), 0, []),
  (39, (2, 0, 2, 0), 0, []),
  (40, (2, 2, 0, 0), 0, []),
  (41, (13, 86, 157, 0), 0, [(2, 10)]),
  (44, (3, 3, 0, 0), 0, []),
  (45, (2, 3, 0, 0), 0, []),
  (46, (1, 0, 1, 0), (-5), []),
  (48, (7, 53, 1, 0), 0, []),
  (51, (1, 0, 0, 0), nI 0, []),
  (52, (14, 0, 0, 0), 0, []),
  (53, (2, 0, 2, 0), 0, []),
  (54, (2, 1, 0, 0), 0, []),
  (55, (13, 107, 169, 0), 0, [(2, 10)]),
  (58, (1, 0, 0, 0), nI 1, []),
  (59, (4, 1, 0, 0), 0, []),
  (60, (3, 4, 1, 0), 0, []),
  (62, (0, 5, 0, 0), 0, []),
  (62, (2, 4, 1, 0), 0, []),
  (64, (6, 92, 2, 0), 0, []),
  (67, (2, 0, 2, 0), 0, []),
  (68, (2, 1, 0, 0), 0, []),
  (69, (2, 4, 1, 0), 0, []),
  (71, (1, 0, 0, 0), nI 0, []),
  (72, (13, 110, 170, 0), 0, [(4, 10)]),
  (75, (2, 3, 0, 0), 0, []),
  (76, (7, 86, 1, 0), 0, []),
  (79, (2, 0, 2, 0), 0, []),
  (80, (2, 1, 0, 0), 0, []),
  (81, (2, 4, 1, 0), 0, []),
  (83, (13, 114, 171, 0), 0, [(3, 10)]),
  (86, (5, 4, 0, 0), (-1), []),
  (89, (8, 62, 0, 0), 0, []),
  (92, (2, 0, 2, 0), 0, []),
  (93, (2, 1, 0, 0), 0, []),
  (94, (13, 107, 169, 0), 0, [(2, 10)]),
  (97, (1, 0, 0, 0), nI 5, []),
  (98, (7, 107, 1, 0), 0, []),
  (101, (2, 0, 2, 0), 0, []),
  (102, (2, 1, 0, 0), 0, []),
  (103, (1, 0, 0, 0), nI 4, []),
  (104, (13, 114, 171, 0), 0, [(3, 10)]),
  (107, (0, 5, 0, 0), 0, []),
  (107, (2, 0, 2, 0), 0, []),
  (108, (2, 1, 0, 0), 0, []),
  (109, (2, 0, 2, 0), 0, []),
  (110, (2, 1, 0, 0), 0, []),
  (111, (13, 107, 169, 0), 0, [(2, 10)]),
  (114, (13, 118, 172, 0), 0, [(3, 10)]),
  (117, (2, 0, 2, 0), 0, []),
  (118, (9, 7, 10, 0), 0, []),
  (121, (2, 1, 0, 0), 0, []),
  (122, (13, 89, 136, 1), 0, [(1, 10)]),
  (125, (1, 0, 0, 0), nI 0, []),
  (126, (4, 0, 0, 0), 0, []),
  (127, (16, 0, 0, 0), 0, []),
  (128, (11, 0, 0, 0), 0, []),
  (129, (1, 0, 0, 0), nI 1, []),
  (130, (4, 0, 0, 0), 0, []),
  (131, (12, 0, 0, 0), 0, []),
  (132, (2, 1, 0, 0), 0, []),
  (133, (1, 0, 0, 0), nI 0, []),
  (134, (13, 104, 137, 1), 0, [(2, 10)]),
  (137, (3, 4, 1, 0), 0, []),
  (139, (2, 0, 2, 0), 0, []),
  (140, (9, 7, 10, 0), 0, []),
  (143, (2, 4, 1, 0), 0, []),
  (145, (1, 0, 0, 0), nI 0, []),
  (146, (4, 0, 0, 0), 0, []),
  (147, (2, 3, 0, 0), 0, []),
  (148, (12, 0, 0, 0), 0, []),
  (149, (2, 0, 2, 0), 0, []),
  (150, (9, 7, 10, 0), 0, []),
  (153, (2, 4, 1, 0), 0, []),
  (155, (1, 0, 0, 0), nI 1, []),
  (156, (4, 0, 0, 0), 0, []),
  (157, (2, 0, 2, 0), 0, []),
  (158, (2, 3, 0, 0), 0, []),
  (159, (1, 0, 0, 0), nI 3, []),
  (160, (13, 71, 152, 0), 0, [(3, 10)]),
  (163, (12, 0, 0, 0), 0, []),
  (164, (2, 0, 2, 0), 0, []),
  (165, (9, 7, 10, 0), 0, []),
  (168, (2, 4, 1, 0), 0, []),
  (170, (1, 0, 0, 0), nI 2, []),
  (171, (4, 0, 0, 0), 0, []),
  (172, (2, 0, 2, 0), 0, []),
  (173, (9, 7, 10, 0), 0, []),
  (176, (1, 0, 0, 0), nI 0, []),
  (177, (11, 0, 0, 0), 0, []),
  (178, (2, 0, 2, 0), 0, []),
  (179, (9, 7, 10, 0), 0, []),
  (182, (1, 0, 0, 0), nI 4, []),
  (183, (11, 0, 0, 0), 0, []),
  (184, (4, 0, 0, 0), 0, []),
  (185, (12, 0, 0, 0), 0, []),
  (186, (2, 0, 2, 0), 0, []),
  (187, (9, 7, 10, 0), 0, []),
  (190, (2, 4, 1, 0), 0, []),
  (192, (1, 0, 0, 0), nI 3, []),
  (193, (4, 0, 0, 0), 0, []),
  (194, (1, 0, 0, 0), nI 0, []),
  (195, (12, 0, 0, 0), 0, []),
  (196, (1, 0, 0, 0), nI 0, []),
  (197, (3, 5, 1, 0), 0, []),
  (199, (0, 6, 0, 0), 0, []),
  (199, (2, 5, 1, 0), 0, []),
  (201, (1, 0, 1, 0), nI 12, []),
  (203, (7, 233, 3, 0), 0, []),
  (206, (2, 0, 2, 0), 0, []),
  (207, (9, 7, 10, 0), 0, []),
  (210, (2, 4, 1, 0), 0, []),
  (212, (1, 0, 0, 0), nI 4, []),
  (213, (4, 0, 0, 0), 0, []),
  (214, (2, 5, 1, 0), 0, []),
  (216, (4, 0, 0, 0), 0, []),
  (217, (2, 0, 2, 0), 0, []),
  (218, (2, 3, 0, 0), 0, []),
  (219, (1, 0, 0, 0), nI 5, []),
  (220, (2, 5, 1, 0), 0, []),
  (222, (4, 0, 0, 0), 0, []),
  (223, (13, 71, 152, 0), 0, [(3, 10)]),
  (226, (12, 0, 0, 0), 0, []),
  (227, (5, 5, 0, 0), nI 1, []),
  (230, (8, 199, 0, 0), 0, []),
  (233, (1, 0, 0, 0), nI 1, []),
  (234, (14, 0, 0, 0), 0, [])]
abbrev m_X10_asks : Nat := 174
/-- NameMapsModel.chosen(II)I: 119 entries; loop heads [9, 120] -/
def co_X10_chosen : List Ent := [(0, (1, 0, 1, 0), nI 10, []),
  (2, (3, 3, 0, 0), 0, []),
  (3, (1, 0, 0, 0), nI 0, []),
  (4, (3, 4, 1, 0), 0, []),
  (6, (1, 0, 0, 0), nI 0, []),
  (7, (3, 5, 1, 0), 0, []),
  (9, (0, 6, 0, 0), 0, []),
  (9, (2, 5, 1, 0), 0, []),
  (11, (1, 0, 0, 0), nI 3, []),
  (12, (7, 102, 3, 0), 0, []),
  (15, (2, 1, 0, 0), 0, []),
  (16, (1, 0, 0, 0), nI 4, []),
  (17, (2, 5, 1, 0), 0, []),
  (19, (4, 2, 0, 0), 0, []),
  (20, (4, 0, 0, 0), 0, []),
  (21, (3, 6, 1, 0), 0, []),
  (23, (2, 0, 2, 0), 0, []),
  (24, (9, 7, 10, 0), 0, []),
  (27, (2, 6, 1, 0), 0, []),
  (29, (11, 0, 0, 0), 0, []),
  (30, (1, 0, 0, 0), nI 1, []),
  (31, (7, 96, 1, 0), 0, []),
  (34, (2, 0, 2, 0), 0, []),
  (35, (9, 7, 10, 0), 0, []),
  (38, (2, 6, 1, 0), 0, []),
  (40, (1, 0, 0, 0), nI 2, []),
  (41, (4, 0, 0, 0), 0, []),
  (42, (11, 0, 0, 0), 0, []),
  (43, (2, 3, 0, 0), 0, []),
  (44, (7, 96, 4, 0), 0, []),
  (47, (2, 0, 2, 0), 0, []),
  (48, (9, 7, 10, 0), 0, []),
  (51, (2, 6, 1, 0), 0, []),
  (53, (1, 0, 0, 0), nI 2, []),
  (54, (4, 0, 0, 0), 0, []),
  (55, (11, 0, 0, 0), 0, []),
  (56, (2, 3, 0, 0), 0, []),
  (57, (7, 72, 3, 0), 0, []),
  (60, (2, 0, 2, 0), 0, []),
  (61, (9, 7, 10, 0), 0, []),
  (64, (2, 6, 1, 0), 0, []),
  (66, (1, 0, 0, 0), nI 3, []),
  (67, (4, 0, 0, 0), 0, []),
  (68, (11, 0, 0, 0), 0, []),
  (69, (8, 84, 0, 0), 0, []),
  (72, (2, 4, 1, 0), 0, []),
  (74, (2, 0, 2, 0), 0, []),
  (75, (9, 7, 10, 0), 0, []),
  (78, (2, 6, 1, 0), 0, []),
  (80, (1, 0, 0, 0), nI 3, []),
  (81, (4, 0, 0, 0), 0, []),
  (82, (11, 0, 0, 0), 0, []),
  (83, (4, 0, 0, 0), 0, []),
  (84, (3, 4, 1, 0), 0, []),
  (86, (2, 0, 2, 0), 0, []),
  (87, (9, 7, 10, 0), 0, []),
  (90, (2, 6, 1, 0), 0, []),
  (92, (1, 0, 0, 0), nI 2, []),
  (93, (4, 0, 0, 0), 0, []),
  (94, (11, 0, 0, 0), 0, []),
  (95, (3, 3, 0, 0), 0, []),
  (96, (5, 5, 0, 0), nI 1, []),
  (99, (8, 9, 0, 0), 0, []),
  (102, (2, 4, 1, 0), 0, []),
  (104, (6, 111, 1, 0), 0, []),
  (107, (1, 0, 0, 0), nI 0, []),
  (108, (8, 115, 0, 0), 0, []),
  (111, (2, 2, 0, 0), 0, []),
  (112, (2, 4, 1, 0), 0, []),
  (114, (4, 4, 0, 0), 0, []),
  (115, (3, 5, 1, 0), 0, []),
  (117, (1, 0, 0, 0), nI 0, []),
  (118, (3, 6, 1, 0), 0, []),
  (120, (0, 7, 0, 0), 0, []),
  (120, (2, 6, 1, 0), 0, []),
  (122, (1, 0, 0, 0), nI 3, []),
  (123, (7, 193, 3, 0), 0, []),
  (126, (2, 1, 0, 0), 0, []),
  (127, (1, 0, 0, 0), nI 4, []),
  (128, (2, 6, 1, 0), 0, []),
  (130, (4, 2, 0, 0), 0, []),
  (131, (4, 0, 0, 0), 0, []),
  (132, (3, 7, 1, 0), 0, []),
  (134, (2, 0, 2, 0), 0, []),
  (135, (9, 7, 10, 0), 0, []),
  (138, (2, 7, 1, 0), 0, []),
  (140, (11, 0, 0, 0), 0, []),
  (141, (1, 0, 0, 0), nI 1, []),
  (142, (7, 187, 1, 0), 0, []),
  (145, (2, 0, 2, 0), 0, []),
  (146, (9, 7, 10, 0), 0, []),
  (149, (2, 7, 1, 0), 0, []),
  (151, (1, 0, 0, 0), nI 2, []),
  (152, (4, 0, 0, 0), 0, []),
  (153, (11, 0, 0, 0), 0, []),
  (154, (2, 3, 0, 0), 0, []),
  (155, (7, 187, 1, 0), 0, []),
  (158, (2, 5, 1, 0), 0, []),
  (160, (2, 0, 2, 0), 0, []),
  (161, (9, 7, 10, 0), 0, []),
  (164, (2, 7, 1, 0), 0, []),
  (166, (1, 0, 0, 0), nI 3, []),
  (167, (4, 0, 0, 0), 0, []),
  (168, (11, 0, 0, 0), 0, []),
  (169, (4, 1, 0, 0), 0, []),
  (170, (3, 5, 1, 0), 0, []),
  (172, (2, 5, 1, 0), 0, []),
  (174, (6, 187, 3, 0), 0, []),
  (177, (2, 0, 2, 0), 0, []),
  (178, (9, 7, 10, 0), 0, []),
  (181, (2, 7, 1, 0), 0, []),
  (183, (1, 0, 0, 0), nI 1, []),
  (184, (4, 0, 0, 0), 0, []),
  (185, (11, 0, 0, 0), 0, []),
  (186, (14, 0, 0, 0), 0, []),
  (187, (5, 6, 0, 0), nI 1, []),
  (190, (8, 120, 0, 0), 0, []),
  (193, (1, 0, 1, 0), (-5), []),
  (195, (14, 0, 0, 0), 0, [])]
abbrev m_X10_chosen : Nat := 175
/-- NameMapsModel.isAt(II)Z: 49 entries; loop heads [5] -/
def co_X10_isAt : List Ent := [(0, (1, 0, 0, 0), nI 0, []),
  (1, (3, 3, 0, 0), 0, []),
  (2, (1, 0, 0, 0), nI 0, []),
  (3, (3, 4, 1, 0), 0, []),
  (5, (0, 5, 0, 0), 0, []),
  (5, (2, 4, 1, 0), 0, []),
  (7, (1, 0, 0, 0), nI 3, []),
  (8, (7, 64, 3, 0), 0, []),
  (11, (2, 1, 0, 0), 0, []),
  (12, (13, 68, 135, 1), 0, [(1, 10)]),
  (15, (1, 0, 0, 0), nI 5, []),
  (16, (4, 0, 0, 0), 0, []),
  (17, (1, 0, 0, 0), nI 4, []),
  (18, (2, 4, 1, 0), 0, []),
  (20, (4, 2, 0, 0), 0, []),
  (21, (4, 0, 0, 0), 0, []),
  (22, (3, 5, 1, 0), 0, []),
  (24, (2, 3, 0, 0), 0, []),
  (25, (6, 52, 1, 0), 0, []),
  (28, (2, 0, 2, 0), 0, []),
  (29, (9, 7, 10, 0), 0, []),
  (32, (2, 5, 1, 0), 0, []),
  (34, (11, 0, 0, 0), 0, []),
  (35, (1, 0, 0, 0), nI 1, []),
  (36, (7, 56, 1, 0), 0, []),
  (39, (2, 0, 2, 0), 0, []),
  (40, (9, 7, 10, 0), 0, []),
  (43, (2, 5, 1, 0), 0, []),
  (45, (1, 0, 0, 0), nI 1, []),
  (46, (4, 0, 0, 0), 0, []),
  (47, (11, 0, 0, 0), 0, []),
  (48, (2, 2, 0, 0), 0, []),
  (49, (7, 56, 1, 0), 0, []),
  (52, (1, 0, 0, 0), nI 1, []),
  (53, (8, 57, 0, 0), 0, []),
  (56, (1, 0, 0, 0), nI 0, []),
  (57, (3, 3, 0, 0), 0, []),
  (58, (5, 4, 0, 0), nI 1, []),
  (61, (8, 5, 0, 0), 0, []),
  (64, (2, 3, 0, 0), 0, []),
  (65, (6, 80, 0, 0), 0, []),
  (68, (2, 0, 2, 0), 0, []),
  (69, (2, 1, 0, 0), 0, []),
  (70, (13, 77, 156, 0), 0, [(2, 10)]),
  (73, (6, 80, 0, 0), 0, []),
  (76, (1, 0, 0, 0), nI 1, []),
  (77, (8, 81, 0, 0), 0, []),
  (80, (1, 0, 0, 0), nI 0, []),
  (81, (14, 0, 0, 0), 0, [])]
abbrev m_X10_isAt : Nat := 176
/-- NameMapsModel.takes(II)I: 65 entries; loop heads [8, 51] -/
def co_X10_takes : List Ent := [(0, (2, 0, 2, 0), 0, []),
  (1, (2, 1, 0, 0), 0, []),
  (2, (13, 107, 169, 0), 0, [(2, 10)]),
  (5, (1, 0, 0, 0), nI 1, []),
  (6, (4, 1, 0, 0), 0, []),
  (7, (3, 3, 0, 0), 0, []),
  (8, (0, 4, 0, 0), 0, []),
  (8, (2, 3, 0, 0), 0, []),
  (9, (6, 40, 2, 0), 0, []),
  (12, (2, 0, 2, 0), 0, []),
  (13, (2, 1, 0, 0), 0, []),
  (14, (2, 3, 0, 0), 0, []),
  (15, (1, 0, 0, 0), nI 2, []),
  (16, (13, 110, 170, 0), 0, [(4, 10)]),
  (19, (2, 0, 2, 0), 0, []),
  (20, (9, 7, 10, 0), 0, []),
  (23, (1, 0, 0, 0), nI 0, []),
  (24, (11, 0, 0, 0), 0, []),
  (25, (7, 34, 4, 0), 0, []),
  (28, (2, 0, 2, 0), 0, []),
  (29, (2, 1, 0, 0), 0, []),
  (30, (2, 3, 0, 0), 0, []),
  (31, (13, 114, 171, 0), 0, [(3, 10)]),
  (34, (5, 3, 0, 0), (-1), []),
  (37, (8, 8, 0, 0), 0, []),
  (40, (1, 0, 1, 0), (-5), []),
  (42, (3, 3, 0, 0), 0, []),
  (43, (1, 0, 2, 0), nI 257, []),
  (46, (3, 4, 1, 0), 0, []),
  (48, (1, 0, 0, 0), nI 0, []),
  (49, (3, 5, 1, 0), 0, []),
  (51, (0, 6, 0, 0), 0, []),
  (51, (2, 5, 1, 0), 0, []),
  (53, (2, 0, 2, 0), 0, []),
  (54, (2, 1, 0, 0), 0, []),
  (55, (13, 107, 169, 0), 0, [(2, 10)]),
  (58, (7, 111, 3, 0), 0, []),
  (61, (2, 0, 2, 0), 0, []),
  (62, (2, 1, 0, 0), 0, []),
  (63, (2, 5, 1, 0), 0, []),
  (65, (1, 0, 0, 0), nI 0, []),
  (66, (13, 110, 170, 0), 0, [(4, 10)]),
  (69, (3, 6, 1, 0), 0, []),
  (71, (2, 0, 2, 0), 0, []),
  (72, (2, 6, 1, 0), 0, []),
  (74, (2, 2, 0, 0), 0, []),
  (75, (13, 80, 153, 0), 0, [(3, 10)]),
  (78, (6, 105, 0, 0), 0, []),
  (81, (2, 0, 2, 0), 0, []),
  (82, (2, 6, 1, 0), 0, []),
  (84, (1, 0, 0, 0), nI 1, []),
  (85, (13, 71, 152, 0), 0, [(3, 10)]),
  (88, (2, 4, 1, 0), 0, []),
  (90, (7, 105, 3, 0), 0, []),
  (93, (2, 5, 1, 0), 0, []),
  (95, (3, 3, 0, 0), 0, []),
  (96, (2, 0, 2, 0), 0, []),
  (97, (2, 6, 1, 0), 0, []),
  (99, (1, 0, 0, 0), nI 1, []),
  (100, (13, 71, 152, 0), 0, [(3, 10)]),
  (103, (3, 4, 1, 0), 0, []),
  (105, (5, 5, 0, 0), nI 1, []),
  (108, (8, 51, 0, 0), 0, []),
  (111, (2, 3, 0, 0), 0, []),
  (112, (14, 0, 0, 0), 0, [])]
abbrev m_X10_takes : Nat := 177
/-- NameMapsModel.proxy(II)I: 17 entries; loop heads [] -/
def co_X10_proxy : List Ent := [(0, (2, 0, 2, 0), 0, []),
  (1, (9, 7, 10, 0), 0, []),
  (4, (2, 1, 0, 0), 0, []),
  (5, (13, 89, 136, 1), 0, [(1, 10)]),
  (8, (1, 0, 0, 0), nI 4, []),
  (9, (4, 0, 0, 0), 0, []),
  (10, (16, 0, 0, 0), 0, []),
  (11, (11, 0, 0, 0), 0, []),
  (12, (1, 0, 0, 0), nI 1, []),
  (13, (4, 0, 0, 0), 0, []),
  (14, (12, 0, 0, 0), 0, []),
  (15, (1, 0, 1, 0), nI 32, []),
  (17, (2, 2, 0, 0), 0, []),
  (18, (1, 0, 1, 0), nI 32, []),
  (20, (4, 3, 0, 0), 0, []),
  (21, (4, 0, 0, 0), 0, []),
  (22, (14, 0, 0, 0), 0, [])]
abbrev m_X10_proxy : Nat := 178
/-- NameMapsModel.sends(III)I: 125 entries; loop heads [75] -/
def co_X10_sends : List Ent := [(0, (2, 0, 2, 0), 0, []),
  (1, (9, 7, 10, 0), 0, []),
  (4, (2, 1, 0, 0), 0, []),
  (5, (13, 89, 136, 1), 0, [(1, 10)]),
  (8, (1, 0, 0, 0), nI 3, []),
  (9, (4, 0, 0, 0), 0, []),
  (10, (16, 0, 0, 0), 0, []),
  (11, (11, 0, 0, 0), 0, []),
  (12, (1, 0, 0, 0), nI 1, []),
  (13, (4, 0, 0, 0), 0, []),
  (14, (12, 0, 0, 0), 0, []),
  (15, (2, 0, 2, 0), 0, []),
  (16, (2, 1, 0, 0), 0, []),
  (17, (2, 2, 0, 0), 0, []),
  (18, (13, 121, 177, 0), 0, [(3, 10)]),
  (21, (3, 4, 1, 0), 0, []),
  (23, (2, 4, 1, 0), 0, []),
  (25, (1, 0, 1, 0), (-5), []),
  (27, (7, 42, 0, 0), 0, []),
  (30, (2, 0, 2, 0), 0, []),
  (31, (2, 1, 0, 0), 0, []),
  (32, (2, 4, 1, 0), 0, []),
  (34, (1, 0, 0, 0), nI 3, []),
  (35, (13, 110, 170, 0), 0, [(4, 10)]),
  (38, (1, 0, 0, 0), nI 1, []),
  (39, (7, 75, 1, 0), 0, []),
  (42, (2, 0, 2, 0), 0, []),
  (43, (2, 1, 0, 0), 0, []),
  (44, (2, 2, 0, 0), 0, []),
  (45, (13, 124, 174, 0), 0, [(3, 10)]),
  (48, (6, 72, 1, 0), 0, []),
  (51, (2, 4, 1, 0), 0, []),
  (53, (1, 0, 1, 0), (-5), []),
  (55, (7, 65, 0, 0), 0, []),
  (58, (2, 0, 2, 0), 0, []),
  (59, (2, 1, 0, 0), 0, []),
  (60, (2, 4, 1, 0), 0, []),
  (62, (13, 114, 171, 0), 0, [(3, 10)]),
  (65, (2, 0, 2, 0), 0, []),
  (66, (2, 1, 0, 0), 0, []),
  (67, (2, 2, 0, 0), 0, []),
  (68, (13, 127, 178, 0), 0, [(3, 10)]),
  (71, (14, 0, 0, 0), 0, []),
  (72, (1, 0, 0, 0), nI 0, []),
  (73, (3, 4, 1, 0), 0, []),
  (75, (0, 5, 0, 0), 0, []),
  (75, (2, 0, 2, 0), 0, []),
  (76, (2, 1, 0, 0), 0, []),
  (77, (2, 4, 1, 0), 0, []),
  (79, (13, 130, 173, 0), 0, [(3, 10)]),
  (82, (2, 0, 2, 0), 0, []),
  (83, (2, 1, 0, 0), 0, []),
  (84, (1, 0, 0, 0), nI 0, []),
  (85, (1, 0, 0, 0), nI 0, []),
  (86, (13, 110, 170, 0), 0, [(4, 10)]),
  (89, (3, 5, 1, 0), 0, []),
  (91, (2, 0, 2, 0), 0, []),
  (92, (2, 1, 0, 0), 0, []),
  (93, (1, 0, 0, 0), nI 0, []),
  (94, (13, 104, 137, 1), 0, [(2, 10)]),
  (97, (1, 0, 0, 0), nI 4, []),
  (98, (4, 0, 0, 0), 0, []),
  (99, (2, 3, 0, 0), 0, []),
  (100, (13, 133, 175, 0), 0, [(3, 10)]),
  (103, (3, 6, 1, 0), 0, []),
  (105, (2, 0, 2, 0), 0, []),
  (106, (2, 5, 1, 0), 0, []),
  (108, (2, 6, 1, 0), 0, []),
  (110, (13, 136, 176, 0), 0, [(3, 10)]),
  (113, (6, 149, 0, 0), 0, []),
  (116, (2, 0, 2, 0), 0, []),
  (117, (2, 1, 0, 0), 0, []),
  (118, (1, 0, 0, 0), nI 0, []),
  (119, (1, 0, 0, 0), nI 1, []),
  (120, (13, 110, 170, 0), 0, [(4, 10)]),
  (123, (2, 0, 2, 0), 0, []),
  (124, (2, 5, 1, 0), 0, []),
  (126, (1, 0, 0, 0), nI 3, []),
  (127, (13, 71, 152, 0), 0, [(3, 10)]),
  (130, (7, 146, 0, 0), 0, []),
  (133, (2, 0, 2, 0), 0, []),
  (134, (9, 7, 10, 0), 0, []),
  (137, (2, 1, 0, 0), 0, []),
  (138, (1, 0, 0, 0), nI 0, []),
  (139, (13, 104, 137, 1), 0, [(2, 10)]),
  (142, (1, 0, 0, 0), nI 3, []),
  (143, (4, 0, 0, 0), 0, []),
  (144, (1, 0, 0, 0), nI 1, []),
  (145, (12, 0, 0, 0), 0, []),
  (146, (2, 6, 1, 0), 0, []),
  (148, (14, 0, 0, 0), 0, []),
  (149, (2, 0, 2, 0), 0, []),
  (150, (9, 7, 10, 0), 0, []),
  (153, (2, 1, 0, 0), 0, []),
  (154, (13, 89, 136, 1), 0, [(1, 10)]),
  (157, (1, 0, 0, 0), nI 5, []),
  (158, (4, 0, 0, 0), 0, []),
  (159, (16, 0, 0, 0), 0, []),
  (160, (11, 0, 0, 0), 0, []),
  (161, (1, 0, 0, 0), nI 1, []),
  (162, (4, 0, 0, 0), 0, []),
  (163, (12, 0, 0, 0), 0, []),
  (164, (2, 0, 2, 0), 0, []),
  (165, (2, 1, 0, 0), 0, []),
  (166, (1, 0, 0, 0), nI 0, []),
  (167, (13, 114, 171, 0), 0, [(3, 10)]),
  (170, (2, 0, 2, 0), 0, []),
  (171, (2, 1, 0, 0), 0, []),
  (172, (2, 2, 0, 0), 0, []),
  (173, (13, 124, 174, 0), 0, [(3, 10)]),
  (176, (6, 194, 0, 0), 0, []),
  (179, (2, 0, 2, 0), 0, []),
  (180, (2, 1, 0, 0), 0, []),
  (181, (1, 0, 0, 0), nI 0, []),
  (182, (13, 104, 137, 1), 0, [(2, 10)]),
  (185, (1, 0, 0, 0), nI 4, []),
  (186, (4, 0, 0, 0), 0, []),
  (187, (2, 3, 0, 0), 0, []),
  (188, (13, 133, 175, 0), 0, [(3, 10)]),
  (191, (8, 200, 0, 0), 0, []),
  (194, (2, 0, 2, 0), 0, []),
  (195, (2, 1, 0, 0), 0, []),
  (196, (2, 2, 0, 0), 0, []),
  (197, (13, 127, 178, 0), 0, [(3, 10)]),
  (200, (14, 0, 0, 0), 0, [])]
abbrev m_X10_sends : Nat := 179
/-- NameMapsModel.isLetter(II)Z: 12 entries; loop heads [] -/
def co_X10_isLetter : List Ent := [(0, (2, 0, 0, 0), 0, []),
  (1, (13, 40, 134, 1), 0, [(1, 10)]),
  (4, (6, 21, 0, 0), 0, []),
  (7, (2, 1, 0, 0), 0, []),
  (8, (1, 0, 0, 0), nI 0, []),
  (9, (1, 0, 1, 0), nI 99, []),
  (11, (13, 22, 130, 1), 0, [(3, 10)]),
  (14, (6, 21, 0, 0), 0, []),
  (17, (1, 0, 0, 0), nI 1, []),
  (18, (8, 22, 0, 0), 0, []),
  (21, (1, 0, 0, 0), nI 0, []),
  (22, (14, 0, 0, 0), 0, [])]
abbrev m_X10_isLetter : Nat := 180
/-- NameMapsModel.send(III)I: 20 entries; loop heads [] -/
def co_X10_send : List Ent := [(0, (2, 0, 2, 0), 0, []),
  (1, (2, 1, 0, 0), 0, []),
  (2, (13, 139, 133, 0), 0, [(2, 10)]),
  (5, (6, 10, 1, 0), 0, []),
  (8, (1, 0, 0, 0), (-1), []),
  (9, (14, 0, 0, 0), 0, []),
  (10, (2, 2, 0, 0), 0, []),
  (11, (2, 3, 0, 0), 0, []),
  (12, (13, 142, 180, 1), 0, [(2, 10)]),
  (15, (6, 21, 1, 0), 0, []),
  (18, (1, 0, 1, 0), (-2), []),
  (20, (14, 0, 0, 0), 0, []),
  (21, (2, 0, 2, 0), 0, []),
  (22, (13, 37, 140, 0), 0, [(1, 10)]),
  (25, (2, 0, 2, 0), 0, []),
  (26, (2, 1, 0, 0), 0, []),
  (27, (2, 2, 0, 0), 0, []),
  (28, (2, 3, 0, 0), 0, []),
  (29, (13, 145, 179, 0), 0, [(4, 10)]),
  (32, (14, 0, 0, 0), 0, [])]
abbrev m_X10_send : Nat := 181
/-- NameMapsModel.pass(I)I: 32 entries; loop heads [] -/
def co_X10_pass : List Ent := [(0, (2, 1, 0, 0), 0, []),
  (1, (1, 0, 0, 0), nI 1, []),
  (2, (1, 0, 1, 0), nI 99, []),
  (4, (13, 22, 130, 1), 0, [(3, 10)]),
  (7, (6, 13, 1, 0), 0, []),
  (10, (1, 0, 1, 0), (-2), []),
  (12, (14, 0, 0, 0), 0, []),
  (13, (2, 0, 2, 0), 0, []),
  (14, (9, 7, 10, 0), 0, []),
  (17, (1, 0, 0, 0), nI 0, []),
  (18, (11, 0, 0, 0), 0, []),
  (19, (2, 1, 0, 0), 0, []),
  (20, (4, 0, 0, 0), 0, []),
  (21, (1, 0, 2, 0), nI 9999, []),
  (24, (7, 30, 5, 0), 0, []),
  (27, (1, 0, 1, 0), (-3), []),
  (29, (14, 0, 0, 0), 0, []),
  (30, (2, 0, 2, 0), 0, []),
  (31, (13, 37, 140, 0), 0, [(1, 10)]),
  (34, (2, 0, 2, 0), 0, []),
  (35, (9, 7, 10, 0), 0, []),
  (38, (1, 0, 0, 0), nI 0, []),
  (39, (16, 0, 0, 0), 0, []),
  (40, (11, 0, 0, 0), 0, []),
  (41, (2, 1, 0, 0), 0, []),
  (42, (4, 0, 0, 0), 0, []),
  (43, (12, 0, 0, 0), 0, []),
  (44, (2, 0, 2, 0), 0, []),
  (45, (9, 7, 10, 0), 0, []),
  (48, (1, 0, 0, 0), nI 0, []),
  (49, (11, 0, 0, 0), 0, []),
  (50, (14, 0, 0, 0), 0, [])]
abbrev m_X10_pass : Nat := 182
/-- NameMapsModel.forget(I)I: 22 entries; loop heads [] -/
def co_X10_forget : List Ent := [(0, (2, 0, 2, 0), 0, []),
  (1, (2, 1, 0, 0), 0, []),
  (2, (13, 139, 133, 0), 0, [(2, 10)]),
  (5, (6, 10, 1, 0), 0, []),
  (8, (1, 0, 0, 0), (-1), []),
  (9, (14, 0, 0, 0), 0, []),
  (10, (2, 0, 2, 0), 0, []),
  (11, (13, 37, 140, 0), 0, [(1, 10)]),
  (14, (2, 0, 2, 0), 0, []),
  (15, (2, 1, 0, 0), 0, []),
  (16, (13, 107, 169, 0), 0, [(2, 10)]),
  (19, (3, 2, 0, 0), 0, []),
  (20, (2, 0, 2, 0), 0, []),
  (21, (9, 7, 10, 0), 0, []),
  (24, (2, 1, 0, 0), 0, []),
  (25, (13, 89, 136, 1), 0, [(1, 10)]),
  (28, (1, 0, 0, 0), nI 0, []),
  (29, (4, 0, 0, 0), 0, []),
  (30, (1, 0, 0, 0), nI 0, []),
  (31, (12, 0, 0, 0), 0, []),
  (32, (2, 2, 0, 0), 0, []),
  (33, (14, 0, 0, 0), 0, [])]
abbrev m_X10_forget : Nat := 183
/-- NameMapsModel.append(I)I: 28 entries; loop heads [] -/
def co_X10_append : List Ent := [(0, (2, 1, 0, 0), 0, []),
  (1, (1, 0, 1, 0), nI 32, []),
  (3, (1, 0, 1, 0), nI 126, []),
  (5, (13, 22, 130, 1), 0, [(3, 10)]),
  (8, (6, 14, 1, 0), 0, []),
  (11, (1, 0, 1, 0), (-2), []),
  (13, (14, 0, 0, 0), 0, []),
  (14, (2, 0, 2, 0), 0, []),
  (15, (9, 148, 10, 5), 0, []),
  (18, (1, 0, 1, 0), nI 80, []),
  (20, (7, 26, 1, 0), 0, []),
  (23, (1, 0, 1, 0), (-4), []),
  (25, (14, 0, 0, 0), 0, []),
  (26, (2, 0, 2, 0), 0, []),
  (27, (9, 19, 10, 4), 0, []),
  (30, (2, 0, 2, 0), 0, []),
  (31, (9, 148, 10, 5), 0, []),
  (34, (2, 1, 0, 0), 0, []),
  (35, (12, 0, 0, 0), 0, []),
  (36, (2, 0, 2, 0), 0, []),
  (37, (15, 0, 0, 0), 0, []),
  (38, (9, 148, 10, 5), 0, []),
  (41, (1, 0, 0, 0), nI 1, []),
  (42, (4, 0, 0, 0), 0, []),
  (43, (10, 148, 10, 5), 0, []),
  (46, (2, 0, 2, 0), 0, []),
  (47, (9, 148, 10, 5), 0, []),
  (50, (14, 0, 0, 0), 0, [])]
abbrev m_X10_append : Nat := 184
/-- NameMapsModel.clearText()I: 8 entries; loop heads [] -/
def co_X10_clearText : List Ent := [(0, (2, 0, 2, 0), 0, []),
  (1, (9, 148, 10, 5), 0, []),
  (4, (3, 1, 0, 0), 0, []),
  (5, (2, 0, 2, 0), 0, []),
  (6, (1, 0, 0, 0), nI 0, []),
  (7, (10, 148, 10, 5), 0, []),
  (10, (2, 1, 0, 0), 0, []),
  (11, (14, 0, 0, 0), 0, [])]
abbrev m_X10_clearText : Nat := 185
/-- NameMapsModel.passesSign(I)Z: 28 entries; loop heads [] -/
def co_X10_passesSign : List Ent := [(0, (2, 0, 2, 0), 0, []),
  (1, (9, 151, 10, 6), 0, []),
  (4, (2, 0, 2, 0), 0, []),
  (5, (9, 148, 10, 5), 0, []),
  (8, (7, 28, 3, 0), 0, []),
  (11, (2, 0, 2, 0), 0, []),
  (12, (9, 19, 10, 4), 0, []),
  (15, (2, 0, 2, 0), 0, []),
  (16, (9, 151, 10, 6), 0, []),
  (19, (11, 0, 0, 0), 0, []),
  (20, (2, 1, 0, 0), 0, []),
  (21, (7, 28, 1, 0), 0, []),
  (24, (1, 0, 0, 0), nI 1, []),
  (25, (8, 29, 0, 0), 0, []),
  (28, (1, 0, 0, 0), nI 0, []),
  (29, (3, 2, 0, 0), 0, []),
  (30, (2, 0, 2, 0), 0, []),
  (31, (15, 0, 0, 0), 0, []),
  (32, (9, 151, 10, 6), 0, []),
  (35, (2, 2, 0, 0), 0, []),
  (36, (6, 43, 0, 0), 0, []),
  (39, (1, 0, 0, 0), nI 1, []),
  (40, (8, 44, 0, 0), 0, []),
  (43, (1, 0, 0, 0), nI 0, []),
  (44, (4, 0, 0, 0), 0, []),
  (45, (10, 151, 10, 6), 0, []),
  (48, (2, 2, 0, 0), 0, []),
  (49, (14, 0, 0, 0), 0, [])]
abbrev m_X10_passesSign : Nat := 186
/-- NameMapsModel.isDigitHere()Z: 18 entries; loop heads [] -/
def co_X10_isDigitHere : List Ent := [(0, (2, 0, 2, 0), 0, []),
  (1, (9, 151, 10, 6), 0, []),
  (4, (2, 0, 2, 0), 0, []),
  (5, (9, 148, 10, 5), 0, []),
  (8, (7, 34, 3, 0), 0, []),
  (11, (2, 0, 2, 0), 0, []),
  (12, (9, 19, 10, 4), 0, []),
  (15, (2, 0, 2, 0), 0, []),
  (16, (9, 151, 10, 6), 0, []),
  (19, (11, 0, 0, 0), 0, []),
  (20, (1, 0, 1, 0), nI 48, []),
  (22, (1, 0, 1, 0), nI 57, []),
  (24, (13, 22, 130, 1), 0, [(3, 10)]),
  (27, (6, 34, 0, 0), 0, []),
  (30, (1, 0, 0, 0), nI 1, []),
  (31, (8, 35, 0, 0), 0, []),
  (34, (1, 0, 0, 0), nI 0, []),
  (35, (14, 0, 0, 0), 0, [])]
abbrev m_X10_isDigitHere : Nat := 187
/-- NameMapsModel.passesNumber(II)Z: 68 entries; loop heads [41] -/
def co_X10_passesNumber : List Ent := [(0, (2, 0, 2, 0), 0, []),
  (1, (13, 154, 187, 0), 0, [(1, 10)]),
  (4, (6, 9, 1, 0), 0, []),
  (7, (1, 0, 0, 0), nI 0, []),
  (8, (14, 0, 0, 0), 0, []),
  (9, (2, 0, 2, 0), 0, []),
  (10, (9, 151, 10, 6), 0, []),
  (13, (3, 3, 0, 0), 0, []),
  (14, (2, 0, 2, 0), 0, []),
  (15, (9, 19, 10, 4), 0, []),
  (18, (2, 0, 2, 0), 0, []),
  (19, (9, 151, 10, 6), 0, []),
  (22, (11, 0, 0, 0), 0, []),
  (23, (1, 0, 1, 0), nI 48, []),
  (25, (4, 1, 0, 0), 0, []),
  (26, (3, 4, 1, 0), 0, []),
  (28, (2, 0, 2, 0), 0, []),
  (29, (15, 0, 0, 0), 0, []),
  (30, (9, 151, 10, 6), 0, []),
  (33, (1, 0, 0, 0), nI 1, []),
  (34, (4, 0, 0, 0), 0, []),
  (35, (10, 151, 10, 6), 0, []),
  (38, (1, 0, 0, 0), nI 1, []),
  (39, (3, 5, 1, 0), 0, []),
  (41, (0, 6, 0, 0), 0, []),
  (41, (2, 5, 1, 0), 0, []),
  (43, (1, 0, 0, 0), nI 3, []),
  (44, (7, 95, 3, 0), 0, []),
  (47, (2, 4, 1, 0), 0, []),
  (49, (6, 95, 5, 0), 0, []),
  (52, (2, 0, 2, 0), 0, []),
  (53, (13, 154, 187, 0), 0, [(1, 10)]),
  (56, (6, 95, 0, 0), 0, []),
  (59, (1, 0, 1, 0), nI 10, []),
  (61, (2, 4, 1, 0), 0, []),
  (63, (4, 2, 0, 0), 0, []),
  (64, (2, 0, 2, 0), 0, []),
  (65, (9, 19, 10, 4), 0, []),
  (68, (2, 0, 2, 0), 0, []),
  (69, (9, 151, 10, 6), 0, []),
  (72, (11, 0, 0, 0), 0, []),
  (73, (4, 0, 0, 0), 0, []),
  (74, (1, 0, 1, 0), nI 48, []),
  (76, (4, 1, 0, 0), 0, []),
  (77, (3, 4, 1, 0), 0, []),
  (79, (2, 0, 2, 0), 0, []),
  (80, (15, 0, 0, 0), 0, []),
  (81, (9, 151, 10, 6), 0, []),
  (84, (1, 0, 0, 0), nI 1, []),
  (85, (4, 0, 0, 0), 0, []),
  (86, (10, 151, 10, 6), 0, []),
  (89, (5, 5, 0, 0), nI 1, []),
  (92, (8, 41, 0, 0), 0, []),
  (95, (2, 0, 2, 0), 0, []),
  (96, (2, 4, 1, 0), 0, []),
  (98, (10, 158, 10, 7), 0, []),
  (101, (2, 4, 1, 0), 0, []),
  (103, (2, 1, 0, 0), 0, []),
  (104, (2, 2, 0, 0), 0, []),
  (105, (13, 22, 130, 1), 0, [(3, 10)]),
  (108, (6, 118, 1, 0), 0, []),
  (111, (2, 0, 2, 0), 0, []),
  (112, (2, 3, 0, 0), 0, []),
  (113, (10, 151, 10, 6), 0, []),
  (116, (1, 0, 0, 0), nI 0, []),
  (117, (14, 0, 0, 0), 0, []),
  (118, (1, 0, 0, 0), nI 1, []),
  (119, (14, 0, 0, 0), 0, [])]
abbrev m_X10_passesNumber : Nat := 188
/-- NameMapsModel.passesLetter()Z: 43 entries; loop heads [] -/
def co_X10_passesLetter : List Ent := [(0, (2, 0, 2, 0), 0, []),
  (1, (1, 0, 0, 0), nI 0, []),
  (2, (1, 0, 0, 0), nI 3, []),
  (3, (13, 161, 188, 0), 0, [(3, 10)]),
  (6, (6, 11, 1, 0), 0, []),
  (9, (1, 0, 0, 0), nI 0, []),
  (10, (14, 0, 0, 0), 0, []),
  (11, (2, 0, 2, 0), 0, []),
  (12, (2, 0, 2, 0), 0, []),
  (13, (9, 158, 10, 7), 0, []),
  (16, (10, 164, 10, 9), 0, []),
  (19, (2, 0, 2, 0), 0, []),
  (20, (1, 0, 1, 0), nI 110, []),
  (22, (13, 167, 186, 0), 0, [(2, 10)]),
  (25, (6, 39, 0, 0), 0, []),
  (28, (2, 0, 2, 0), 0, []),
  (29, (1, 0, 0, 0), nI 0, []),
  (30, (1, 0, 2, 0), nI 255, []),
  (33, (13, 161, 188, 0), 0, [(3, 10)]),
  (36, (6, 41, 1, 0), 0, []),
  (39, (1, 0, 0, 0), nI 0, []),
  (40, (14, 0, 0, 0), 0, []),
  (41, (2, 0, 2, 0), 0, []),
  (42, (2, 0, 2, 0), 0, []),
  (43, (9, 158, 10, 7), 0, []),
  (46, (10, 170, 10, 10), 0, []),
  (49, (2, 0, 2, 0), 0, []),
  (50, (1, 0, 1, 0), nI 102, []),
  (52, (13, 167, 186, 0), 0, [(2, 10)]),
  (55, (6, 68, 0, 0), 0, []),
  (58, (2, 0, 2, 0), 0, []),
  (59, (1, 0, 0, 0), nI 0, []),
  (60, (1, 0, 1, 0), nI 99, []),
  (62, (13, 161, 188, 0), 0, [(3, 10)]),
  (65, (6, 70, 1, 0), 0, []),
  (68, (1, 0, 0, 0), nI 0, []),
  (69, (14, 0, 0, 0), 0, []),
  (70, (2, 0, 2, 0), 0, []),
  (71, (2, 0, 2, 0), 0, []),
  (72, (9, 158, 10, 7), 0, []),
  (75, (10, 173, 10, 11), 0, []),
  (78, (1, 0, 0, 0), nI 1, []),
  (79, (14, 0, 0, 0), 0, [])]
abbrev m_X10_passesLetter : Nat := 189
/-- NameMapsModel.passesAct()Z: 76 entries; loop heads [66, 128] -/
def co_X10_passesAct : List Ent := [(0, (2, 0, 2, 0), 0, []),
  (1, (2, 0, 2, 0), 0, []),
  (2, (9, 151, 10, 6), 0, []),
  (5, (2, 0, 2, 0), 0, []),
  (6, (9, 148, 10, 5), 0, []),
  (9, (7, 24, 3, 0), 0, []),
  (12, (2, 0, 2, 0), 0, []),
  (13, (9, 19, 10, 4), 0, []),
  (16, (2, 0, 2, 0), 0, []),
  (17, (9, 151, 10, 6), 0, []),
  (20, (11, 0, 0, 0), 0, []),
  (21, (8, 25, 0, 0), 0, []),
  (24, (1, 0, 0, 0), nI 0, []),
  (25, (10, 176, 10, 8), 0, []),
  (28, (2, 0, 2, 0), 0, []),
  (29, (9, 176, 10, 8), 0, []),
  (32, (1, 0, 1, 0), nI 115, []),
  (34, (7, 66, 0, 0), 0, []),
  (37, (2, 0, 2, 0), 0, []),
  (38, (9, 176, 10, 8), 0, []),
  (41, (1, 0, 1, 0), nI 114, []),
  (43, (7, 66, 0, 0), 0, []),
  (46, (2, 0, 2, 0), 0, []),
  (47, (9, 176, 10, 8), 0, []),
  (50, (1, 0, 1, 0), nI 117, []),
  (52, (7, 66, 0, 0), 0, []),
  (55, (2, 0, 2, 0), 0, []),
  (56, (9, 176, 10, 8), 0, []),
  (59, (1, 0, 1, 0), nI 116, []),
  (61, (7, 66, 0, 0), 0, []),
  (64, (1, 0, 0, 0), nI 0, []),
  (65, (14, 0, 0, 0), 0, []),
  (66, (0, 1, 0, 0), 0, []),
  (66, (2, 0, 2, 0), 0, []),
  (67, (15, 0, 0, 0), 0, []),
  (68, (9, 151, 10, 6), 0, []),
  (71, (1, 0, 0, 0), nI 1, []),
  (72, (4, 0, 0, 0), 0, []),
  (73, (10, 151, 10, 6), 0, []),
  (76, (2, 0, 2, 0), 0, []),
  (77, (9, 176, 10, 8), 0, []),
  (80, (1, 0, 1, 0), nI 115, []),
  (82, (7, 93, 1, 0), 0, []),
  (85, (2, 0, 2, 0), 0, []),
  (86, (13, 179, 189, 0), 0, [(1, 10)]),
  (89, (3, 1, 0, 0), 0, []),
  (90, (8, 128, 0, 0), 0, []),
  (93, (2, 0, 2, 0), 0, []),
  (94, (9, 176, 10, 8), 0, []),
  (97, (1, 0, 1, 0), nI 116, []),
  (99, (7, 112, 1, 0), 0, []),
  (102, (2, 0, 2, 0), 0, []),
  (103, (1, 0, 0, 0), nI 1, []),
  (104, (1, 0, 1, 0), nI 99, []),
  (106, (13, 161, 188, 0), 0, [(3, 10)]),
  (109, (8, 119, 0, 0), 0, []),
  (112, (2, 0, 2, 0), 0, []),
  (113, (1, 0, 0, 0), nI 0, []),
  (114, (1, 0, 1, 0), nI 7, []),
  (116, (13, 161, 188, 0), 0, [(3, 10)]),
  (119, (3, 1, 0, 0), 0, []),
  (120, (2, 0, 2, 0), 0, []),
  (121, (2, 0, 2, 0), 0, []),
  (122, (9, 158, 10, 7), 0, []),
  (125, (10, 164, 10, 9), 0, []),
  (128, (0, 2, 0, 0), 0, []),
  (128, (2, 1, 0, 0), 0, []),
  (129, (6, 145, 0, 0), 0, []),
  (132, (2, 0, 2, 0), 0, []),
  (133, (1, 0, 1, 0), nI 59, []),
  (135, (13, 167, 186, 0), 0, [(2, 10)]),
  (138, (6, 145, 0, 0), 0, []),
  (141, (1, 0, 0, 0), nI 1, []),
  (142, (8, 146, 0, 0), 0, []),
  (145, (1, 0, 0, 0), nI 0, []),
  (146, (14, 0, 0, 0), 0, [])]
abbrev m_X10_passesAct : Nat := 190
/-- NameMapsModel.faultOf()I: 17 entries; loop heads [5] -/
def co_X10_faultOf : List Ent := [(0, (2, 0, 2, 0), 0, []),
  (1, (1, 0, 0, 0), nI 0, []),
  (2, (10, 151, 10, 6), 0, []),
  (5, (0, 1, 0, 0), 0, []),
  (5, (2, 0, 2, 0), 0, []),
  (6, (9, 151, 10, 6), 0, []),
  (9, (2, 0, 2, 0), 0, []),
  (10, (9, 148, 10, 5), 0, []),
  (13, (7, 28, 3, 0), 0, []),
  (16, (2, 0, 2, 0), 0, []),
  (17, (13, 182, 190, 0), 0, [(1, 10)]),
  (20, (6, 5, 1, 0), 0, []),
  (23, (2, 0, 2, 0), 0, []),
  (24, (9, 151, 10, 6), 0, []),
  (27, (14, 0, 0, 0), 0, []),
  (28, (1, 0, 1, 0), (-5), []),
  (30, (14, 0, 0, 0), 0, [])]
abbrev m_X10_faultOf : Nat := 191
/-- NameMapsModel.faultPosition()I: 3 entries; loop heads [] -/
def co_X10_faultPosition : List Ent := [(0, (2, 0, 2, 0), 0, []),
  (1, (13, 185, 191, 0), 0, [(1, 10)]),
  (4, (14, 0, 0, 0), 0, [])]
abbrev m_X10_faultPosition : Nat := 192
/-- NameMapsModel.does()Z: 86 entries; loop heads [] -/
def co_X10_does : List Ent := [(0, (2, 0, 2, 0), 0, []),
  (1, (9, 176, 10, 8), 0, []),
  (4, (1, 0, 1, 0), nI 115, []),
  (6, (7, 45, 1, 0), 0, []),
  (9, (2, 0, 2, 0), 0, []),
  (10, (2, 0, 2, 0), 0, []),
  (11, (9, 164, 10, 9), 0, []),
  (14, (13, 139, 133, 0), 0, [(2, 10)]),
  (17, (6, 43, 0, 0), 0, []),
  (20, (2, 0, 2, 0), 0, []),
  (21, (2, 0, 2, 0), 0, []),
  (22, (9, 164, 10, 9), 0, []),
  (25, (2, 0, 2, 0), 0, []),
  (26, (9, 170, 10, 10), 0, []),
  (29, (2, 0, 2, 0), 0, []),
  (30, (9, 173, 10, 11), 0, []),
  (33, (13, 145, 179, 0), 0, [(4, 10)]),
  (36, (6, 43, 2, 0), 0, []),
  (39, (1, 0, 0, 0), nI 1, []),
  (40, (8, 44, 0, 0), 0, []),
  (43, (1, 0, 0, 0), nI 0, []),
  (44, (14, 0, 0, 0), 0, []),
  (45, (2, 0, 2, 0), 0, []),
  (46, (9, 176, 10, 8), 0, []),
  (49, (1, 0, 1, 0), nI 114, []),
  (51, (7, 82, 1, 0), 0, []),
  (54, (2, 0, 2, 0), 0, []),
  (55, (2, 0, 2, 0), 0, []),
  (56, (9, 164, 10, 9), 0, []),
  (59, (13, 92, 132, 0), 0, [(2, 10)]),
  (62, (6, 80, 0, 0), 0, []),
  (65, (2, 0, 2, 0), 0, []),
  (66, (2, 0, 2, 0), 0, []),
  (67, (9, 164, 10, 9), 0, []),
  (70, (13, 95, 163, 0), 0, [(2, 10)]),
  (73, (6, 80, 2, 0), 0, []),
  (76, (1, 0, 0, 0), nI 1, []),
  (77, (8, 81, 0, 0), 0, []),
  (80, (1, 0, 0, 0), nI 0, []),
  (81, (14, 0, 0, 0), 0, []),
  (82, (2, 0, 2, 0), 0, []),
  (83, (9, 176, 10, 8), 0, []),
  (86, (1, 0, 1, 0), nI 117, []),
  (88, (7, 119, 1, 0), 0, []),
  (91, (2, 0, 2, 0), 0, []),
  (92, (2, 0, 2, 0), 0, []),
  (93, (9, 164, 10, 9), 0, []),
  (96, (13, 98, 165, 0), 0, [(2, 10)]),
  (99, (6, 117, 1, 0), 0, []),
  (102, (2, 0, 2, 0), 0, []),
  (103, (2, 0, 2, 0), 0, []),
  (104, (9, 164, 10, 9), 0, []),
  (107, (13, 101, 166, 0), 0, [(2, 10)]),
  (110, (6, 117, 2, 0), 0, []),
  (113, (1, 0, 0, 0), nI 1, []),
  (114, (8, 118, 0, 0), 0, []),
  (117, (1, 0, 0, 0), nI 0, []),
  (118, (14, 0, 0, 0), 0, []),
  (119, (2, 0, 2, 0), 0, []),
  (120, (9, 7, 10, 0), 0, []),
  (123, (1, 0, 0, 0), nI 0, []),
  (124, (11, 0, 0, 0), 0, []),
  (125, (2, 0, 2, 0), 0, []),
  (126, (9, 164, 10, 9), 0, []),
  (129, (4, 0, 0, 0), 0, []),
  (130, (1, 0, 2, 0), nI 9999, []),
  (133, (7, 140, 4, 0), 0, []),
  (136, (1, 0, 0, 0), nI 1, []),
  (137, (8, 141, 0, 0), 0, []),
  (140, (1, 0, 0, 0), nI 0, []),
  (141, (3, 1, 0, 0), 0, []),
  (142, (2, 0, 2, 0), 0, []),
  (143, (9, 7, 10, 0), 0, []),
  (146, (1, 0, 0, 0), nI 0, []),
  (147, (16, 0, 0, 0), 0, []),
  (148, (11, 0, 0, 0), 0, []),
  (149, (2, 1, 0, 0), 0, []),
  (150, (6, 160, 0, 0), 0, []),
  (153, (2, 0, 2, 0), 0, []),
  (154, (9, 164, 10, 9), 0, []),
  (157, (8, 161, 0, 0), 0, []),
  (160, (1, 0, 0, 0), nI 0, []),
  (161, (4, 0, 0, 0), 0, []),
  (162, (12, 0, 0, 0), 0, []),
  (163, (2, 1, 0, 0), 0, []),
  (164, (14, 0, 0, 0), 0, [])]
abbrev m_X10_does : Nat := 193
/-- NameMapsModel.run()I: 55 entries; loop heads [36] -/
def co_X10_run : List Ent := [(0, (2, 0, 2, 0), 0, []),
  (1, (13, 185, 191, 0), 0, [(1, 10)]),
  (4, (1, 0, 1, 0), (-5), []),
  (6, (7, 12, 0, 0), 0, []),
  (9, (1, 0, 1, 0), (-3), []),
  (11, (14, 0, 0, 0), 0, []),
  (12, (2, 0, 2, 0), 0, []),
  (13, (13, 37, 140, 0), 0, [(1, 10)]),
  (16, (1, 0, 0, 0), nI 0, []),
  (17, (3, 1, 0, 0), 0, []),
  (18, (2, 0, 2, 0), 0, []),
  (19, (1, 0, 0, 0), nI 0, []),
  (20, (10, 151, 10, 6), 0, []),
  (23, (2, 0, 2, 0), 0, []),
  (24, (9, 148, 10, 5), 0, []),
  (27, (6, 34, 5, 0), 0, []),
  (30, (1, 0, 0, 0), nI 1, []),
  (31, (8, 35, 0, 0), 0, []),
  (34, (1, 0, 0, 0), nI 0, []),
  (35, (3, 2, 0, 0), 0, []),
  (36, (0, 3, 0, 0), 0, []),
  (36, (2, 2, 0, 0), 0, []),
  (37, (6, 96, 0, 0), 0, []),
  (40, (2, 0, 2, 0), 0, []),
  (41, (13, 182, 190, 0), 0, [(1, 10)]),
  (44, (6, 58, 0, 0), 0, []),
  (47, (2, 0, 2, 0), 0, []),
  (48, (13, 189, 193, 0), 0, [(1, 10)]),
  (51, (6, 58, 0, 0), 0, []),
  (54, (1, 0, 0, 0), nI 1, []),
  (55, (8, 59, 0, 0), 0, []),
  (58, (1, 0, 0, 0), nI 0, []),
  (59, (3, 2, 0, 0), 0, []),
  (60, (2, 1, 0, 0), 0, []),
  (61, (2, 2, 0, 0), 0, []),
  (62, (6, 69, 0, 0), 0, []),
  (65, (1, 0, 0, 0), nI 1, []),
  (66, (8, 70, 0, 0), 0, []),
  (69, (1, 0, 0, 0), nI 0, []),
  (70, (4, 0, 0, 0), 0, []),
  (71, (3, 1, 0, 0), 0, []),
  (72, (2, 2, 0, 0), 0, []),
  (73, (6, 91, 0, 0), 0, []),
  (76, (2, 0, 2, 0), 0, []),
  (77, (9, 151, 10, 6), 0, []),
  (80, (2, 0, 2, 0), 0, []),
  (81, (9, 148, 10, 5), 0, []),
  (84, (7, 91, 3, 0), 0, []),
  (87, (1, 0, 0, 0), nI 1, []),
  (88, (8, 92, 0, 0), 0, []),
  (91, (1, 0, 0, 0), nI 0, []),
  (92, (3, 2, 0, 0), 0, []),
  (93, (8, 36, 0, 0), 0, []),
  (96, (2, 1, 0, 0), 0, []),
  (97, (14, 0, 0, 0), 0, [])]
abbrev m_X10_run : Nat := 194
/-- NameMapsModel.children(I)I: 31 entries; loop heads [4] -/
def co_X10_children : List Ent := [(0, (1, 0, 0, 0), nI 0, []),
  (1, (3, 2, 0, 0), 0, []),
  (2, (1, 0, 0, 0), nI 1, []),
  (3, (3, 3, 0, 0), 0, []),
  (4, (0, 4, 0, 0), 0, []),
  (4, (2, 3, 0, 0), 0, []),
  (5, (2, 0, 2, 0), 0, []),
  (6, (9, 7, 10, 0), 0, []),
  (9, (1, 0, 0, 0), nI 1, []),
  (10, (11, 0, 0, 0), 0, []),
  (11, (7, 42, 3, 0), 0, []),
  (14, (2, 2, 0, 0), 0, []),
  (15, (2, 0, 2, 0), 0, []),
  (16, (9, 7, 10, 0), 0, []),
  (19, (1, 0, 0, 0), nI 5, []),
  (20, (1, 0, 0, 0), nI 3, []),
  (21, (2, 3, 0, 0), 0, []),
  (22, (4, 2, 0, 0), 0, []),
  (23, (4, 0, 0, 0), 0, []),
  (24, (11, 0, 0, 0), 0, []),
  (25, (2, 1, 0, 0), 0, []),
  (26, (7, 33, 1, 0), 0, []),
  (29, (1, 0, 0, 0), nI 1, []),
  (30, (8, 34, 0, 0), 0, []),
  (33, (1, 0, 0, 0), nI 0, []),
  (34, (4, 0, 0, 0), 0, []),
  (35, (3, 2, 0, 0), 0, []),
  (36, (5, 3, 0, 0), nI 1, []),
  (39, (8, 4, 0, 0), 0, []),
  (42, (2, 2, 0, 0), 0, []),
  (43, (14, 0, 0, 0), 0, [])]
abbrev m_X10_children : Nat := 195
/-- NameMapsModel.sitesOf(I)I: 26 entries; loop heads [4] -/
def co_X10_sitesOf : List Ent := [(0, (1, 0, 0, 0), nI 0, []),
  (1, (3, 2, 0, 0), 0, []),
  (2, (1, 0, 0, 0), nI 0, []),
  (3, (3, 3, 0, 0), 0, []),
  (4, (0, 4, 0, 0), 0, []),
  (4, (2, 3, 0, 0), 0, []),
  (5, (2, 0, 2, 0), 0, []),
  (6, (9, 7, 10, 0), 0, []),
  (9, (1, 0, 0, 0), nI 2, []),
  (10, (11, 0, 0, 0), 0, []),
  (11, (7, 37, 3, 0), 0, []),
  (14, (2, 2, 0, 0), 0, []),
  (15, (2, 0, 2, 0), 0, []),
  (16, (2, 3, 0, 0), 0, []),
  (17, (13, 83, 154, 0), 0, [(2, 10)]),
  (20, (2, 1, 0, 0), 0, []),
  (21, (7, 28, 1, 0), 0, []),
  (24, (1, 0, 0, 0), nI 1, []),
  (25, (8, 29, 0, 0), 0, []),
  (28, (1, 0, 0, 0), nI 0, []),
  (29, (4, 0, 0, 0), 0, []),
  (30, (3, 2, 0, 0), 0, []),
  (31, (5, 3, 0, 0), nI 1, []),
  (34, (8, 4, 0, 0), 0, []),
  (37, (2, 2, 0, 0), 0, []),
  (38, (14, 0, 0, 0), 0, [])]
abbrev m_X10_sitesOf : Nat := 196
/-- NameMapsModel.server(II)I: 33 entries; loop heads [] -/
def co_X10_server : List Ent := [(0, (2, 0, 2, 0), 0, []),
  (1, (2, 1, 0, 0), 0, []),
  (2, (13, 61, 131, 0), 0, [(2, 10)]),
  (5, (6, 10, 1, 0), 0, []),
  (8, (1, 0, 0, 0), (-1), []),
  (9, (14, 0, 0, 0), 0, []),
  (10, (2, 2, 0, 0), 0, []),
  (11, (18, 79, 37, 0), 0, [(0, 48), (1, 48), (2, 48), (3, 61), (4, 67), (5, 73)]),
  (48, (2, 0, 2, 0), 0, []),
  (49, (9, 7, 10, 0), 0, []),
  (52, (1, 0, 0, 0), nI 5, []),
  (53, (1, 0, 0, 0), nI 3, []),
  (54, (2, 1, 0, 0), 0, []),
  (55, (4, 2, 0, 0), 0, []),
  (56, (4, 0, 0, 0), 0, []),
  (57, (2, 2, 0, 0), 0, []),
  (58, (4, 0, 0, 0), 0, []),
  (59, (11, 0, 0, 0), 0, []),
  (60, (14, 0, 0, 0), 0, []),
  (61, (2, 0, 2, 0), 0, []),
  (62, (2, 1, 0, 0), 0, []),
  (63, (13, 192, 195, 0), 0, [(2, 10)]),
  (66, (14, 0, 0, 0), 0, []),
  (67, (2, 0, 2, 0), 0, []),
  (68, (2, 1, 0, 0), 0, []),
  (69, (13, 58, 149, 0), 0, [(2, 10)]),
  (72, (14, 0, 0, 0), 0, []),
  (73, (2, 0, 2, 0), 0, []),
  (74, (2, 1, 0, 0), 0, []),
  (75, (13, 195, 196, 0), 0, [(2, 10)]),
  (78, (14, 0, 0, 0), 0, []),
  (79, (1, 0, 1, 0), (-2), []),
  (81, (14, 0, 0, 0), 0, [])]
abbrev m_X10_server : Nat := 197
/-- NameMapsModel.copiesOf(I)I: 38 entries; loop heads [4, 17] -/
def co_X10_copiesOf : List Ent := [(0, (1, 0, 0, 0), nI 0, []),
  (1, (3, 2, 0, 0), 0, []),
  (2, (1, 0, 0, 0), nI 0, []),
  (3, (3, 3, 0, 0), 0, []),
  (4, (0, 4, 0, 0), 0, []),
  (4, (2, 3, 0, 0), 0, []),
  (5, (2, 0, 2, 0), 0, []),
  (6, (9, 7, 10, 0), 0, []),
  (9, (1, 0, 0, 0), nI 3, []),
  (10, (11, 0, 0, 0), 0, []),
  (11, (7, 59, 3, 0), 0, []),
  (14, (1, 0, 0, 0), nI 0, []),
  (15, (3, 4, 1, 0), 0, []),
  (17, (0, 5, 0, 0), 0, []),
  (17, (2, 4, 1, 0), 0, []),
  (19, (2, 0, 2, 0), 0, []),
  (20, (2, 3, 0, 0), 0, []),
  (21, (13, 107, 169, 0), 0, [(2, 10)]),
  (24, (7, 53, 3, 0), 0, []),
  (27, (2, 2, 0, 0), 0, []),
  (28, (2, 0, 2, 0), 0, []),
  (29, (2, 3, 0, 0), 0, []),
  (30, (2, 4, 1, 0), 0, []),
  (32, (1, 0, 0, 0), nI 0, []),
  (33, (13, 110, 170, 0), 0, [(4, 10)]),
  (36, (2, 1, 0, 0), 0, []),
  (37, (7, 44, 1, 0), 0, []),
  (40, (1, 0, 0, 0), nI 1, []),
  (41, (8, 45, 0, 0), 0, []),
  (44, (1, 0, 0, 0), nI 0, []),
  (45, (4, 0, 0, 0), 0, []),
  (46, (3, 2, 0, 0), 0, []),
  (47, (5, 4, 0, 0), nI 1, []),
  (50, (8, 17, 0, 0), 0, []),
  (53, (5, 3, 0, 0), nI 1, []),
  (56, (8, 4, 0, 0), 0, []),
  (59, (2, 2, 0, 0), 0, []),
  (60, (14, 0, 0, 0), 0, [])]
abbrev m_X10_copiesOf : Nat := 198
/-- NameMapsModel.site(II)I: 31 entries; loop heads [] -/
def co_X10_site : List Ent := [(0, (2, 0, 2, 0), 0, []),
  (1, (2, 1, 0, 0), 0, []),
  (2, (13, 92, 132, 0), 0, [(2, 10)]),
  (5, (6, 10, 1, 0), 0, []),
  (8, (1, 0, 0, 0), (-1), []),
  (9, (14, 0, 0, 0), 0, []),
  (10, (2, 2, 0, 0), 0, []),
  (11, (18, 89, 45, 0), 0, [(0, 56), (1, 56), (2, 56), (3, 56), (4, 56), (5, 63), (6, 69), (7, 83)]),
  (56, (2, 0, 2, 0), 0, []),
  (57, (2, 1, 0, 0), 0, []),
  (58, (2, 2, 0, 0), 0, []),
  (59, (13, 71, 152, 0), 0, [(3, 10)]),
  (62, (14, 0, 0, 0), 0, []),
  (63, (2, 0, 2, 0), 0, []),
  (64, (2, 1, 0, 0), 0, []),
  (65, (13, 83, 154, 0), 0, [(2, 10)]),
  (68, (14, 0, 0, 0), 0, []),
  (69, (2, 0, 2, 0), 0, []),
  (70, (2, 1, 0, 0), 0, []),
  (71, (13, 77, 156, 0), 0, [(2, 10)]),
  (74, (6, 81, 0, 0), 0, []),
  (77, (1, 0, 0, 0), nI 1, []),
  (78, (8, 82, 0, 0), 0, []),
  (81, (1, 0, 0, 0), nI 0, []),
  (82, (14, 0, 0, 0), 0, []),
  (83, (2, 0, 2, 0), 0, []),
  (84, (2, 1, 0, 0), 0, []),
  (85, (13, 198, 198, 0), 0, [(2, 10)]),
  (88, (14, 0, 0, 0), 0, []),
  (89, (1, 0, 1, 0), (-2), []),
  (91, (14, 0, 0, 0), 0, [])]
abbrev m_X10_site : Nat := 199
/-- NameMapsModel.slot(III)I: 44 entries; loop heads [] -/
def co_X10_slot : List Ent := [(0, (2, 0, 2, 0), 0, []),
  (1, (2, 1, 0, 0), 0, []),
  (2, (13, 92, 132, 0), 0, [(2, 10)]),
  (5, (6, 17, 0, 0), 0, []),
  (8, (2, 2, 0, 0), 0, []),
  (9, (1, 0, 0, 0), nI 0, []),
  (10, (1, 0, 0, 0), nI 2, []),
  (11, (13, 22, 130, 1), 0, [(3, 10)]),
  (14, (6, 19, 1, 0), 0, []),
  (17, (1, 0, 0, 0), (-1), []),
  (18, (14, 0, 0, 0), 0, []),
  (19, (2, 3, 0, 0), 0, []),
  (20, (1, 0, 0, 0), nI 0, []),
  (21, (1, 0, 0, 0), nI 2, []),
  (22, (13, 22, 130, 1), 0, [(3, 10)]),
  (25, (6, 31, 1, 0), 0, []),
  (28, (1, 0, 1, 0), (-2), []),
  (30, (14, 0, 0, 0), 0, []),
  (31, (2, 1, 0, 0), 0, []),
  (32, (13, 68, 135, 1), 0, [(1, 10)]),
  (35, (1, 0, 0, 0), nI 5, []),
  (36, (4, 0, 0, 0), 0, []),
  (37, (1, 0, 0, 0), nI 4, []),
  (38, (2, 2, 0, 0), 0, []),
  (39, (4, 2, 0, 0), 0, []),
  (40, (4, 0, 0, 0), 0, []),
  (41, (3, 4, 1, 0), 0, []),
  (43, (2, 0, 2, 0), 0, []),
  (44, (9, 7, 10, 0), 0, []),
  (47, (2, 4, 1, 0), 0, []),
  (49, (11, 0, 0, 0), 0, []),
  (50, (1, 0, 0, 0), nI 1, []),
  (51, (7, 68, 1, 0), 0, []),
  (54, (2, 0, 2, 0), 0, []),
  (55, (9, 7, 10, 0), 0, []),
  (58, (2, 4, 1, 0), 0, []),
  (60, (1, 0, 0, 0), nI 1, []),
  (61, (4, 0, 0, 0), 0, []),
  (62, (2, 3, 0, 0), 0, []),
  (63, (4, 0, 0, 0), 0, []),
  (64, (11, 0, 0, 0), 0, []),
  (65, (8, 70, 0, 0), 0, []),
  (68, (1, 0, 1, 0), (-5), []),
  (70, (14, 0, 0, 0), 0, [])]
abbrev m_X10_slot : Nat := 200
/-- NameMapsModel.router(II)I: 21 entries; loop heads [] -/
def co_X10_router : List Ent := [(0, (2, 0, 2, 0), 0, []),
  (1, (2, 1, 0, 0), 0, []),
  (2, (13, 139, 133, 0), 0, [(2, 10)]),
  (5, (6, 10, 1, 0), 0, []),
  (8, (1, 0, 0, 0), (-1), []),
  (9, (14, 0, 0, 0), 0, []),
  (10, (2, 2, 0, 0), 0, []),
  (11, (1, 0, 0, 0), nI 0, []),
  (12, (1, 0, 0, 0), nI 5, []),
  (13, (13, 22, 130, 1), 0, [(3, 10)]),
  (16, (6, 33, 0, 0), 0, []),
  (19, (2, 0, 2, 0), 0, []),
  (20, (9, 7, 10, 0), 0, []),
  (23, (2, 1, 0, 0), 0, []),
  (24, (13, 89, 136, 1), 0, [(1, 10)]),
  (27, (2, 2, 0, 0), 0, []),
  (28, (4, 0, 0, 0), 0, []),
  (29, (11, 0, 0, 0), 0, []),
  (30, (8, 35, 0, 0), 0, []),
  (33, (1, 0, 1, 0), (-2), []),
  (35, (14, 0, 0, 0), 0, [])]
abbrev m_X10_router : Nat := 201
/-- NameMapsModel.map(III)I: 45 entries; loop heads [] -/
def co_X10_map : List Ent := [(0, (2, 0, 2, 0), 0, []),
  (1, (2, 1, 0, 0), 0, []),
  (2, (13, 139, 133, 0), 0, [(2, 10)]),
  (5, (6, 23, 0, 0), 0, []),
  (8, (2, 2, 0, 0), 0, []),
  (9, (1, 0, 0, 0), nI 0, []),
  (10, (2, 0, 2, 0), 0, []),
  (11, (2, 1, 0, 0), 0, []),
  (12, (13, 107, 169, 0), 0, [(2, 10)]),
  (15, (1, 0, 0, 0), nI 1, []),
  (16, (4, 1, 0, 0), 0, []),
  (17, (13, 22, 130, 1), 0, [(3, 10)]),
  (20, (6, 25, 1, 0), 0, []),
  (23, (1, 0, 0, 0), (-1), []),
  (24, (14, 0, 0, 0), 0, []),
  (25, (2, 3, 0, 0), 0, []),
  (26, (1, 0, 0, 0), nI 0, []),
  (27, (1, 0, 0, 0), nI 4, []),
  (28, (13, 22, 130, 1), 0, [(3, 10)]),
  (31, (6, 37, 1, 0), 0, []),
  (34, (1, 0, 1, 0), (-2), []),
  (36, (14, 0, 0, 0), 0, []),
  (37, (2, 3, 0, 0), 0, []),
  (38, (1, 0, 0, 0), nI 4, []),
  (39, (7, 52, 3, 0), 0, []),
  (42, (2, 0, 2, 0), 0, []),
  (43, (2, 1, 0, 0), 0, []),
  (44, (2, 2, 0, 0), 0, []),
  (45, (2, 3, 0, 0), 0, []),
  (46, (13, 110, 170, 0), 0, [(4, 10)]),
  (49, (8, 73, 0, 0), 0, []),
  (52, (2, 0, 2, 0), 0, []),
  (53, (9, 7, 10, 0), 0, []),
  (56, (1, 0, 0, 0), nI 0, []),
  (57, (11, 0, 0, 0), 0, []),
  (58, (2, 0, 2, 0), 0, []),
  (59, (2, 1, 0, 0), 0, []),
  (60, (2, 2, 0, 0), 0, []),
  (61, (1, 0, 0, 0), nI 2, []),
  (62, (13, 110, 170, 0), 0, [(4, 10)]),
  (65, (7, 72, 3, 0), 0, []),
  (68, (1, 0, 0, 0), nI 1, []),
  (69, (8, 73, 0, 0), 0, []),
  (72, (1, 0, 0, 0), nI 0, []),
  (73, (14, 0, 0, 0), 0, [])]
abbrev m_X10_map : Nat := 202
/-- NameMapsModel.isAhead(II)Z: 27 entries; loop heads [] -/
def co_X10_isAhead : List Ent := [(0, (2, 0, 2, 0), 0, []),
  (1, (2, 1, 0, 0), 0, []),
  (2, (1, 0, 0, 0), nI 4, []),
  (3, (13, 71, 152, 0), 0, [(3, 10)]),
  (6, (3, 3, 0, 0), 0, []),
  (7, (2, 0, 2, 0), 0, []),
  (8, (2, 2, 0, 0), 0, []),
  (9, (1, 0, 0, 0), nI 4, []),
  (10, (13, 71, 152, 0), 0, [(3, 10)]),
  (13, (3, 4, 1, 0), 0, []),
  (15, (2, 0, 2, 0), 0, []),
  (16, (2, 1, 0, 0), 0, []),
  (17, (13, 74, 155, 0), 0, [(2, 10)]),
  (20, (6, 44, 0, 0), 0, []),
  (23, (2, 3, 0, 0), 0, []),
  (24, (2, 4, 1, 0), 0, []),
  (26, (7, 40, 2, 0), 0, []),
  (29, (2, 3, 0, 0), 0, []),
  (30, (2, 4, 1, 0), 0, []),
  (32, (7, 44, 1, 0), 0, []),
  (35, (2, 1, 0, 0), 0, []),
  (36, (2, 2, 0, 0), 0, []),
  (37, (7, 44, 3, 0), 0, []),
  (40, (1, 0, 0, 0), nI 1, []),
  (41, (8, 45, 0, 0), 0, []),
  (44, (1, 0, 0, 0), nI 0, []),
  (45, (14, 0, 0, 0), 0, [])]
abbrev m_X10_isAhead : Nat := 203
/-- NameMapsModel.endingNext(I)I: 50 entries; loop heads [9, 24] -/
def co_X10_endingNext : List Ent := [(0, (2, 1, 0, 0), 0, []),
  (1, (6, 7, 3, 0), 0, []),
  (4, (1, 0, 1, 0), (-2), []),
  (6, (14, 0, 0, 0), 0, []),
  (7, (1, 0, 0, 0), nI 0, []),
  (8, (3, 2, 0, 0), 0, []),
  (9, (0, 3, 0, 0), 0, []),
  (9, (2, 2, 0, 0), 0, []),
  (10, (2, 0, 2, 0), 0, []),
  (11, (9, 7, 10, 0), 0, []),
  (14, (1, 0, 0, 0), nI 2, []),
  (15, (11, 0, 0, 0), 0, []),
  (16, (7, 80, 3, 0), 0, []),
  (19, (1, 0, 0, 0), nI 0, []),
  (20, (3, 3, 0, 0), 0, []),
  (21, (1, 0, 0, 0), nI 0, []),
  (22, (3, 4, 1, 0), 0, []),
  (24, (0, 5, 0, 0), 0, []),
  (24, (2, 4, 1, 0), 0, []),
  (26, (2, 0, 2, 0), 0, []),
  (27, (9, 7, 10, 0), 0, []),
  (30, (1, 0, 0, 0), nI 2, []),
  (31, (11, 0, 0, 0), 0, []),
  (32, (7, 59, 3, 0), 0, []),
  (35, (2, 3, 0, 0), 0, []),
  (36, (2, 0, 2, 0), 0, []),
  (37, (2, 4, 1, 0), 0, []),
  (39, (2, 2, 0, 0), 0, []),
  (40, (13, 201, 203, 0), 0, [(3, 10)]),
  (43, (6, 50, 0, 0), 0, []),
  (46, (1, 0, 0, 0), nI 1, []),
  (47, (8, 51, 0, 0), 0, []),
  (50, (1, 0, 0, 0), nI 0, []),
  (51, (4, 0, 0, 0), 0, []),
  (52, (3, 3, 0, 0), 0, []),
  (53, (5, 4, 0, 0), nI 1, []),
  (56, (8, 24, 0, 0), 0, []),
  (59, (2, 0, 2, 0), 0, []),
  (60, (2, 2, 0, 0), 0, []),
  (61, (13, 74, 155, 0), 0, [(2, 10)]),
  (64, (6, 74, 0, 0), 0, []),
  (67, (2, 3, 0, 0), 0, []),
  (68, (2, 1, 0, 0), 0, []),
  (69, (7, 74, 1, 0), 0, []),
  (72, (2, 2, 0, 0), 0, []),
  (73, (14, 0, 0, 0), 0, []),
  (74, (5, 2, 0, 0), nI 1, []),
  (77, (8, 9, 0, 0), 0, []),
  (80, (1, 0, 1, 0), (-5), []),
  (82, (14, 0, 0, 0), 0, [])]
abbrev m_X10_endingNext : Nat := 204
/-- NameMapsModel.upMany()I: 25 entries; loop heads [4] -/
def co_X10_upMany : List Ent := [(0, (1, 0, 0, 0), nI 0, []),
  (1, (3, 1, 0, 0), 0, []),
  (2, (1, 0, 0, 0), nI 0, []),
  (3, (3, 2, 0, 0), 0, []),
  (4, (0, 3, 0, 0), 0, []),
  (4, (2, 2, 0, 0), 0, []),
  (5, (2, 0, 2, 0), 0, []),
  (6, (9, 7, 10, 0), 0, []),
  (9, (1, 0, 0, 0), nI 2, []),
  (10, (11, 0, 0, 0), 0, []),
  (11, (7, 36, 3, 0), 0, []),
  (14, (2, 1, 0, 0), 0, []),
  (15, (2, 0, 2, 0), 0, []),
  (16, (2, 2, 0, 0), 0, []),
  (17, (13, 77, 156, 0), 0, [(2, 10)]),
  (20, (6, 27, 0, 0), 0, []),
  (23, (1, 0, 0, 0), nI 1, []),
  (24, (8, 28, 0, 0), 0, []),
  (27, (1, 0, 0, 0), nI 0, []),
  (28, (4, 0, 0, 0), 0, []),
  (29, (3, 1, 0, 0), 0, []),
  (30, (5, 2, 0, 0), nI 1, []),
  (33, (8, 4, 0, 0), 0, []),
  (36, (2, 1, 0, 0), 0, []),
  (37, (14, 0, 0, 0), 0, [])]
abbrev m_X10_upMany : Nat := 205
/-- NameMapsModel.sumOf(I)I: 25 entries; loop heads [4] -/
def co_X10_sumOf : List Ent := [(0, (1, 0, 0, 0), nI 0, []),
  (1, (3, 2, 0, 0), 0, []),
  (2, (1, 0, 0, 0), nI 0, []),
  (3, (3, 3, 0, 0), 0, []),
  (4, (0, 4, 0, 0), 0, []),
  (4, (2, 3, 0, 0), 0, []),
  (5, (2, 0, 2, 0), 0, []),
  (6, (9, 7, 10, 0), 0, []),
  (9, (1, 0, 0, 0), nI 3, []),
  (10, (11, 0, 0, 0), 0, []),
  (11, (7, 34, 3, 0), 0, []),
  (14, (2, 2, 0, 0), 0, []),
  (15, (2, 0, 2, 0), 0, []),
  (16, (9, 7, 10, 0), 0, []),
  (19, (2, 3, 0, 0), 0, []),
  (20, (13, 89, 136, 1), 0, [(1, 10)]),
  (23, (2, 1, 0, 0), 0, []),
  (24, (4, 0, 0, 0), 0, []),
  (25, (11, 0, 0, 0), 0, []),
  (26, (4, 0, 0, 0), 0, []),
  (27, (3, 2, 0, 0), 0, []),
  (28, (5, 3, 0, 0), nI 1, []),
  (31, (8, 4, 0, 0), 0, []),
  (34, (2, 2, 0, 0), 0, []),
  (35, (14, 0, 0, 0), 0, [])]
abbrev m_X10_sumOf : Nat := 206
/-- NameMapsModel.answered()I: 23 entries; loop heads [4] -/
def co_X10_answered : List Ent := [(0, (1, 0, 0, 0), nI 0, []),
  (1, (3, 1, 0, 0), 0, []),
  (2, (1, 0, 0, 0), nI 0, []),
  (3, (3, 2, 0, 0), 0, []),
  (4, (0, 3, 0, 0), 0, []),
  (4, (2, 2, 0, 0), 0, []),
  (5, (1, 0, 2, 0), nI 256, []),
  (8, (7, 35, 3, 0), 0, []),
  (11, (2, 1, 0, 0), 0, []),
  (12, (2, 0, 2, 0), 0, []),
  (13, (2, 2, 0, 0), 0, []),
  (14, (13, 86, 157, 0), 0, [(2, 10)]),
  (17, (1, 0, 1, 0), (-5), []),
  (19, (7, 26, 1, 0), 0, []),
  (22, (1, 0, 0, 0), nI 0, []),
  (23, (8, 27, 0, 0), 0, []),
  (26, (1, 0, 0, 0), nI 1, []),
  (27, (4, 0, 0, 0), 0, []),
  (28, (3, 1, 0, 0), 0, []),
  (29, (5, 2, 0, 0), nI 1, []),
  (32, (8, 4, 0, 0), 0, []),
  (35, (2, 1, 0, 0), 0, []),
  (36, (14, 0, 0, 0), 0, [])]
abbrev m_X10_answered : Nat := 207
/-- NameMapsModel.total(I)I: 46 entries; loop heads [] -/
def co_X10_total : List Ent := [(0, (2, 1, 0, 0), 0, []),
  (1, (18, 136, 71, 0), 0, [(0, 72), (1, 72), (2, 72), (3, 72), (4, 79), (5, 84), (6, 90), (7, 96), (8, 102), (9, 108), (10, 114), (11, 121), (12, 126), (13, 131)]),
  (72, (2, 0, 2, 0), 0, []),
  (73, (9, 7, 10, 0), 0, []),
  (76, (2, 1, 0, 0), 0, []),
  (77, (11, 0, 0, 0), 0, []),
  (78, (14, 0, 0, 0), 0, []),
  (79, (2, 0, 2, 0), 0, []),
  (80, (13, 204, 205, 0), 0, [(1, 10)]),
  (83, (14, 0, 0, 0), 0, []),
  (84, (2, 0, 2, 0), 0, []),
  (85, (1, 0, 0, 0), nI 0, []),
  (86, (13, 207, 206, 0), 0, [(2, 10)]),
  (89, (14, 0, 0, 0), 0, []),
  (90, (2, 0, 2, 0), 0, []),
  (91, (1, 0, 0, 0), nI 1, []),
  (92, (13, 207, 206, 0), 0, [(2, 10)]),
  (95, (14, 0, 0, 0), 0, []),
  (96, (2, 0, 2, 0), 0, []),
  (97, (1, 0, 0, 0), nI 3, []),
  (98, (13, 207, 206, 0), 0, [(2, 10)]),
  (101, (14, 0, 0, 0), 0, []),
  (102, (2, 0, 2, 0), 0, []),
  (103, (1, 0, 0, 0), nI 4, []),
  (104, (13, 207, 206, 0), 0, [(2, 10)]),
  (107, (14, 0, 0, 0), 0, []),
  (108, (2, 0, 2, 0), 0, []),
  (109, (1, 0, 0, 0), nI 5, []),
  (110, (13, 207, 206, 0), 0, [(2, 10)]),
  (113, (14, 0, 0, 0), 0, []),
  (114, (2, 0, 2, 0), 0, []),
  (115, (9, 7, 10, 0), 0, []),
  (118, (1, 0, 0, 0), nI 4, []),
  (119, (11, 0, 0, 0), 0, []),
  (120, (14, 0, 0, 0), 0, []),
  (121, (2, 0, 2, 0), 0, []),
  (122, (9, 26, 10, 3), 0, []),
  (125, (14, 0, 0, 0), 0, []),
  (126, (2, 0, 2, 0), 0, []),
  (127, (9, 148, 10, 5), 0, []),
  (130, (14, 0, 0, 0), 0, []),
  (131, (2, 0, 2, 0), 0, []),
  (132, (13, 210, 207, 0), 0, [(1, 10)]),
  (135, (14, 0, 0, 0), 0, []),
  (136, (1, 0, 1, 0), (-2), []),
  (138, (14, 0, 0, 0), 0, [])]
abbrev m_X10_total : Nat := 208
/-- NameMapsModel.wouldReach(IIII)I: 39 entries; loop heads [] -/
def co_X10_wouldReach : List Ent := [(0, (2, 0, 2, 0), 0, []),
  (1, (2, 1, 0, 0), 0, []),
  (2, (13, 139, 133, 0), 0, [(2, 10)]),
  (5, (6, 10, 1, 0), 0, []),
  (8, (1, 0, 0, 0), (-1), []),
  (9, (14, 0, 0, 0), 0, []),
  (10, (2, 2, 0, 0), 0, []),
  (11, (2, 3, 0, 0), 0, []),
  (12, (13, 142, 180, 1), 0, [(2, 10)]),
  (15, (6, 29, 0, 0), 0, []),
  (18, (2, 4, 1, 0), 0, []),
  (20, (1, 0, 0, 0), nI 0, []),
  (21, (1, 0, 1, 0), nI 99, []),
  (23, (13, 22, 130, 1), 0, [(3, 10)]),
  (26, (6, 32, 1, 0), 0, []),
  (29, (1, 0, 1, 0), (-2), []),
  (31, (14, 0, 0, 0), 0, []),
  (32, (2, 0, 2, 0), 0, []),
  (33, (1, 0, 1, 0), nI 7, []),
  (35, (13, 30, 138, 0), 0, [(2, 10)]),
  (38, (2, 0, 2, 0), 0, []),
  (39, (9, 7, 10, 0), 0, []),
  (42, (1, 0, 0, 0), nI 0, []),
  (43, (16, 0, 0, 0), 0, []),
  (44, (11, 0, 0, 0), 0, []),
  (45, (2, 4, 1, 0), 0, []),
  (47, (4, 0, 0, 0), 0, []),
  (48, (12, 0, 0, 0), 0, []),
  (49, (2, 0, 2, 0), 0, []),
  (50, (2, 1, 0, 0), 0, []),
  (51, (2, 2, 0, 0), 0, []),
  (52, (2, 3, 0, 0), 0, []),
  (53, (13, 145, 179, 0), 0, [(4, 10)]),
  (56, (3, 5, 1, 0), 0, []),
  (58, (2, 0, 2, 0), 0, []),
  (59, (1, 0, 1, 0), nI 7, []),
  (61, (13, 34, 139, 0), 0, [(2, 10)]),
  (64, (2, 5, 1, 0), 0, []),
  (66, (14, 0, 0, 0), 0, [])]
abbrev m_X10_wouldReach : Nat := 209
/-- NameMapsModel.wouldAsk(III)I: 46 entries; loop heads [] -/
def co_X10_wouldAsk : List Ent := [(0, (2, 0, 2, 0), 0, []),
  (1, (2, 1, 0, 0), 0, []),
  (2, (13, 139, 133, 0), 0, [(2, 10)]),
  (5, (6, 10, 1, 0), 0, []),
  (8, (1, 0, 0, 0), (-1), []),
  (9, (14, 0, 0, 0), 0, []),
  (10, (2, 2, 0, 0), 0, []),
  (11, (2, 3, 0, 0), 0, []),
  (12, (13, 142, 180, 1), 0, [(2, 10)]),
  (15, (6, 21, 1, 0), 0, []),
  (18, (1, 0, 1, 0), (-2), []),
  (20, (14, 0, 0, 0), 0, []),
  (21, (2, 0, 2, 0), 0, []),
  (22, (1, 0, 1, 0), nI 7, []),
  (24, (13, 30, 138, 0), 0, [(2, 10)]),
  (27, (2, 0, 2, 0), 0, []),
  (28, (9, 7, 10, 0), 0, []),
  (31, (2, 1, 0, 0), 0, []),
  (32, (13, 89, 136, 1), 0, [(1, 10)]),
  (35, (1, 0, 0, 0), nI 1, []),
  (36, (4, 0, 0, 0), 0, []),
  (37, (11, 0, 0, 0), 0, []),
  (38, (3, 4, 1, 0), 0, []),
  (40, (2, 0, 2, 0), 0, []),
  (41, (2, 1, 0, 0), 0, []),
  (42, (2, 2, 0, 0), 0, []),
  (43, (2, 3, 0, 0), 0, []),
  (44, (13, 145, 179, 0), 0, [(4, 10)]),
  (47, (6, 54, 3, 0), 0, []),
  (50, (1, 0, 0, 0), nI 0, []),
  (51, (8, 68, 0, 0), 0, []),
  (54, (2, 0, 2, 0), 0, []),
  (55, (9, 7, 10, 0), 0, []),
  (58, (2, 1, 0, 0), 0, []),
  (59, (13, 89, 136, 1), 0, [(1, 10)]),
  (62, (1, 0, 0, 0), nI 1, []),
  (63, (4, 0, 0, 0), 0, []),
  (64, (11, 0, 0, 0), 0, []),
  (65, (2, 4, 1, 0), 0, []),
  (67, (4, 1, 0, 0), 0, []),
  (68, (3, 5, 1, 0), 0, []),
  (70, (2, 0, 2, 0), 0, []),
  (71, (1, 0, 1, 0), nI 7, []),
  (73, (13, 34, 139, 0), 0, [(2, 10)]),
  (76, (2, 5, 1, 0), 0, []),
  (78, (14, 0, 0, 0), 0, [])]
abbrev m_X10_wouldAsk : Nat := 210
/-- NameMapsModel.share(II)I: 40 entries; loop heads [28] -/
def co_X10_share : List Ent := [(0, (2, 0, 2, 0), 0, []),
  (1, (2, 1, 0, 0), 0, []),
  (2, (13, 92, 132, 0), 0, [(2, 10)]),
  (5, (6, 10, 1, 0), 0, []),
  (8, (1, 0, 0, 0), (-1), []),
  (9, (14, 0, 0, 0), 0, []),
  (10, (2, 2, 0, 0), 0, []),
  (11, (1, 0, 0, 0), nI 0, []),
  (12, (1, 0, 1, 0), nI 31, []),
  (14, (13, 22, 130, 1), 0, [(3, 10)]),
  (17, (6, 23, 1, 0), 0, []),
  (20, (1, 0, 1, 0), (-2), []),
  (22, (14, 0, 0, 0), 0, []),
  (23, (1, 0, 0, 0), nI 0, []),
  (24, (3, 3, 0, 0), 0, []),
  (25, (1, 0, 0, 0), nI 0, []),
  (26, (3, 4, 1, 0), 0, []),
  (28, (0, 5, 0, 0), 0, []),
  (28, (2, 4, 1, 0), 0, []),
  (30, (1, 0, 1, 0), nI 100, []),
  (32, (7, 65, 3, 0), 0, []),
  (35, (2, 3, 0, 0), 0, []),
  (36, (2, 0, 2, 0), 0, []),
  (37, (2, 1, 0, 0), 0, []),
  (38, (13, 68, 135, 1), 0, [(1, 10)]),
  (41, (1, 0, 0, 0), nI 5, []),
  (42, (4, 0, 0, 0), 0, []),
  (43, (2, 4, 1, 0), 0, []),
  (45, (13, 133, 175, 0), 0, [(3, 10)]),
  (48, (2, 2, 0, 0), 0, []),
  (49, (7, 56, 1, 0), 0, []),
  (52, (1, 0, 0, 0), nI 1, []),
  (53, (8, 57, 0, 0), 0, []),
  (56, (1, 0, 0, 0), nI 0, []),
  (57, (4, 0, 0, 0), 0, []),
  (58, (3, 3, 0, 0), 0, []),
  (59, (5, 4, 0, 0), nI 1, []),
  (62, (8, 28, 0, 0), 0, []),
  (65, (2, 3, 0, 0), 0, []),
  (66, (14, 0, 0, 0), 0, [])]
abbrev m_X10_share : Nat := 211
/-- java/lang/Integer.bitCount(I)I: 42 entries; loop heads [] -/
def co_J6_bitCount_0f7a4 : List Ent := [(0, (2, 0, 0, 0), 0, []),
  (1, (2, 0, 0, 0), 0, []),
  (2, (1, 0, 0, 0), nI 1, []),
  (3, (4, 6, 0, 0), 0, []),
  (4, (1, 265, 3, 0), nI 1431655765, []),
  (7, (4, 5, 0, 0), 0, []),
  (8, (4, 1, 0, 0), 0, []),
  (9, (3, 0, 0, 0), 0, []),
  (10, (2, 0, 0, 0), 0, []),
  (11, (1, 266, 3, 0), nI 858993459, []),
  (14, (4, 5, 0, 0), 0, []),
  (15, (2, 0, 0, 0), 0, []),
  (16, (1, 0, 0, 0), nI 2, []),
  (17, (4, 6, 0, 0), 0, []),
  (18, (1, 266, 3, 0), nI 858993459, []),
  (21, (4, 5, 0, 0), 0, []),
  (22, (4, 0, 0, 0), 0, []),
  (23, (3, 0, 0, 0), 0, []),
  (24, (2, 0, 0, 0), 0, []),
  (25, (2, 0, 0, 0), 0, []),
  (26, (1, 0, 0, 0), nI 4, []),
  (27, (4, 6, 0, 0), 0, []),
  (28, (4, 0, 0, 0), 0, []),
  (29, (1, 267, 3, 0), nI 252645135, []),
  (32, (4, 5, 0, 0), 0, []),
  (33, (3, 0, 0, 0), 0, []),
  (34, (2, 0, 0, 0), 0, []),
  (35, (2, 0, 0, 0), 0, []),
  (36, (1, 0, 1, 0), nI 8, []),
  (38, (4, 6, 0, 0), 0, []),
  (39, (4, 0, 0, 0), 0, []),
  (40, (3, 0, 0, 0), 0, []),
  (41, (2, 0, 0, 0), 0, []),
  (42, (2, 0, 0, 0), 0, []),
  (43, (1, 0, 1, 0), nI 16, []),
  (45, (4, 6, 0, 0), 0, []),
  (46, (4, 0, 0, 0), 0, []),
  (47, (3, 0, 0, 0), 0, []),
  (48, (2, 0, 0, 0), 0, []),
  (49, (1, 0, 1, 0), nI 63, []),
  (51, (4, 5, 0, 0), 0, []),
  (52, (14, 0, 0, 0), 0, [])]
abbrev m_J6_bitCount_0f7a4 : Nat := 212
/-- java/lang/Math.floorMod(II)I: 16 entries; loop heads [] -/
def co_J9_floorMod_7cf53 : List Ent := [(0, (2, 0, 0, 0), 0, []),
  (1, (2, 1, 0, 0), 0, []),
  (2, (4, 4, 0, 0), 0, []),
  (3, (3, 2, 0, 0), 0, []),
  (4, (2, 0, 0, 0), 0, []),
  (5, (2, 1, 0, 0), 0, []),
  (6, (4, 7, 0, 0), 0, []),
  (7, (6, 18, 3, 0), 0, []),
  (10, (2, 2, 0, 0), 0, []),
  (11, (6, 18, 0, 0), 0, []),
  (14, (2, 2, 0, 0), 0, []),
  (15, (2, 1, 0, 0), 0, []),
  (16, (4, 0, 0, 0), 0, []),
  (17, (14, 0, 0, 0), 0, []),
  (18, (2, 2, 0, 0), 0, []),
  (19, (14, 0, 0, 0), 0, [])]
abbrev m_J9_floorMod_7cf53 : Nat := 213
/-- NameMapsLaw.law([I)Z: 737 entries; loop heads [18] -/
def cx_L_law_0 : List Ent := [(0, (21, 7, 9, 0), 0, []),
  (3, (15, 0, 0, 0), 0, []),
  (4, (24, 9, 90, 0), 0, [(1, 0)]),
  (7, (3, 1, 2, 0), 0, []),
  (8, (21, 10, 10, 0), 0, []),
  (11, (15, 0, 0, 0), 0, []),
  (12, (24, 12, 129, 0), 0, [(1, 0)]),
  (15, (3, 2, 2, 0), 0, []),
  (16, (1, 0, 0, 0), nI 0, []),
  (17, (3, 3, 0, 0), 0, []),
  (18, (0, 4, 0, 0), 0, []),
  (18, (2, 3, 0, 0), 0, []),
  (19, (2, 0, 2, 0), 0, []),
  (20, (19, 0, 0, 0), 0, []),
  (21, (1, 0, 1, 0), nI 6, []),
  (23, (4, 1, 0, 0), 0, []),
  (24, (7, 1064, 4, 0), 0, []),
  (27, (2, 0, 2, 0), 0, []),
  (28, (2, 3, 0, 0), 0, []),
  (29, (11, 0, 0, 0), 0, []),
  (30, (1, 0, 1, 0), nI 31, []),
  (32, (4, 5, 0, 0), 0, []),
  (33, (18, 1058, 135, 0), 0, [(0, 168), (1, 211), (2, 254), (3, 267), (4, 330), (5, 363), (6, 386), (7, 409), (8, 432), (9, 475), (10, 498), (11, 521), (12, 544), (13, 557), (14, 570), (15, 583), (16, 596), (17, 619), (18, 642), (19, 675), (20, 708), (21, 751), (22, 784), (23, 827), (24, 850), (25, 883), (26, 906), (27, 929), (28, 982), (29, 1025)]),
  (168, (2, 1, 2, 0), 0, []),
  (169, (2, 0, 2, 0), 0, []),
  (170, (2, 3, 0, 0), 0, []),
  (171, (1, 0, 0, 0), nI 1, []),
  (172, (4, 0, 0, 0), 0, []),
  (173, (11, 0, 0, 0), 0, []),
  (174, (2, 0, 2, 0), 0, [])]
def cx_L_law_1 : List Ent := [(175, (2, 3, 0, 0), 0, []),
  (176, (1, 0, 0, 0), nI 2, []),
  (177, (4, 0, 0, 0), 0, []),
  (178, (11, 0, 0, 0), 0, []),
  (179, (2, 0, 2, 0), 0, []),
  (180, (2, 3, 0, 0), 0, []),
  (181, (1, 0, 0, 0), nI 3, []),
  (182, (4, 0, 0, 0), 0, []),
  (183, (11, 0, 0, 0), 0, []),
  (184, (13, 13, 91, 0), 0, [(4, 9)]),
  (187, (2, 2, 2, 0), 0, []),
  (188, (2, 0, 2, 0), 0, []),
  (189, (2, 3, 0, 0), 0, []),
  (190, (1, 0, 0, 0), nI 1, []),
  (191, (4, 0, 0, 0), 0, []),
  (192, (11, 0, 0, 0), 0, []),
  (193, (2, 0, 2, 0), 0, []),
  (194, (2, 3, 0, 0), 0, []),
  (195, (1, 0, 0, 0), nI 2, []),
  (196, (4, 0, 0, 0), 0, []),
  (197, (11, 0, 0, 0), 0, []),
  (198, (2, 0, 2, 0), 0, []),
  (199, (2, 3, 0, 0), 0, []),
  (200, (1, 0, 0, 0), nI 3, []),
  (201, (4, 0, 0, 0), 0, []),
  (202, (11, 0, 0, 0), 0, []),
  (203, (13, 17, 151, 0), 0, [(4, 10)]),
  (206, (7, 1058, 0, 0), 0, []),
  (209, (1, 0, 0, 0), nI 0, []),
  (210, (14, 0, 0, 0), 0, [])]
def cx_L_law_2 : List Ent := [(211, (2, 1, 2, 0), 0, []),
  (212, (2, 0, 2, 0), 0, []),
  (213, (2, 3, 0, 0), 0, []),
  (214, (1, 0, 0, 0), nI 1, []),
  (215, (4, 0, 0, 0), 0, []),
  (216, (11, 0, 0, 0), 0, []),
  (217, (2, 0, 2, 0), 0, []),
  (218, (2, 3, 0, 0), 0, []),
  (219, (1, 0, 0, 0), nI 2, []),
  (220, (4, 0, 0, 0), 0, []),
  (221, (11, 0, 0, 0), 0, []),
  (222, (2, 0, 2, 0), 0, []),
  (223, (2, 3, 0, 0), 0, []),
  (224, (1, 0, 0, 0), nI 3, []),
  (225, (4, 0, 0, 0), 0, []),
  (226, (11, 0, 0, 0), 0, []),
  (227, (13, 18, 92, 0), 0, [(4, 9)]),
  (230, (2, 2, 2, 0), 0, []),
  (231, (2, 0, 2, 0), 0, []),
  (232, (2, 3, 0, 0), 0, []),
  (233, (1, 0, 0, 0), nI 1, []),
  (234, (4, 0, 0, 0), 0, []),
  (235, (11, 0, 0, 0), 0, []),
  (236, (2, 0, 2, 0), 0, []),
  (237, (2, 3, 0, 0), 0, []),
  (238, (1, 0, 0, 0), nI 2, []),
  (239, (4, 0, 0, 0), 0, []),
  (240, (11, 0, 0, 0), 0, []),
  (241, (2, 0, 2, 0), 0, []),
  (242, (2, 3, 0, 0), 0, [])]
def cx_L_law_3 : List Ent := [(243, (1, 0, 0, 0), nI 3, []),
  (244, (4, 0, 0, 0), 0, []),
  (245, (11, 0, 0, 0), 0, []),
  (246, (13, 21, 159, 0), 0, [(4, 10)]),
  (249, (7, 1058, 0, 0), 0, []),
  (252, (1, 0, 0, 0), nI 0, []),
  (253, (14, 0, 0, 0), 0, []),
  (254, (2, 1, 2, 0), 0, []),
  (255, (13, 22, 93, 0), 0, [(1, 9)]),
  (258, (2, 2, 2, 0), 0, []),
  (259, (13, 26, 160, 0), 0, [(1, 10)]),
  (262, (7, 1058, 0, 0), 0, []),
  (265, (1, 0, 0, 0), nI 0, []),
  (266, (14, 0, 0, 0), 0, []),
  (267, (2, 1, 2, 0), 0, []),
  (268, (2, 0, 2, 0), 0, []),
  (269, (2, 3, 0, 0), 0, []),
  (270, (1, 0, 0, 0), nI 1, []),
  (271, (4, 0, 0, 0), 0, []),
  (272, (11, 0, 0, 0), 0, []),
  (273, (2, 0, 2, 0), 0, []),
  (274, (2, 3, 0, 0), 0, []),
  (275, (1, 0, 0, 0), nI 2, []),
  (276, (4, 0, 0, 0), 0, []),
  (277, (11, 0, 0, 0), 0, []),
  (278, (2, 0, 2, 0), 0, []),
  (279, (2, 3, 0, 0), 0, []),
  (280, (1, 0, 0, 0), nI 3, []),
  (281, (4, 0, 0, 0), 0, []),
  (282, (11, 0, 0, 0), 0, [])]
def cx_L_law_4 : List Ent := [(283, (2, 0, 2, 0), 0, []),
  (284, (2, 3, 0, 0), 0, []),
  (285, (1, 0, 0, 0), nI 4, []),
  (286, (4, 0, 0, 0), 0, []),
  (287, (11, 0, 0, 0), 0, []),
  (288, (2, 0, 2, 0), 0, []),
  (289, (2, 3, 0, 0), 0, []),
  (290, (1, 0, 0, 0), nI 5, []),
  (291, (4, 0, 0, 0), 0, []),
  (292, (11, 0, 0, 0), 0, []),
  (293, (13, 27, 94, 0), 0, [(6, 9)]),
  (296, (2, 2, 2, 0), 0, []),
  (297, (2, 0, 2, 0), 0, []),
  (298, (2, 3, 0, 0), 0, []),
  (299, (1, 0, 0, 0), nI 1, []),
  (300, (4, 0, 0, 0), 0, []),
  (301, (11, 0, 0, 0), 0, []),
  (302, (2, 0, 2, 0), 0, []),
  (303, (2, 3, 0, 0), 0, []),
  (304, (1, 0, 0, 0), nI 2, []),
  (305, (4, 0, 0, 0), 0, []),
  (306, (11, 0, 0, 0), 0, []),
  (307, (2, 0, 2, 0), 0, []),
  (308, (2, 3, 0, 0), 0, []),
  (309, (1, 0, 0, 0), nI 3, []),
  (310, (4, 0, 0, 0), 0, []),
  (311, (11, 0, 0, 0), 0, []),
  (312, (2, 0, 2, 0), 0, []),
  (313, (2, 3, 0, 0), 0, []),
  (314, (1, 0, 0, 0), nI 4, [])]
def cx_L_law_5 : List Ent := [(315, (4, 0, 0, 0), 0, []),
  (316, (11, 0, 0, 0), 0, []),
  (317, (2, 0, 2, 0), 0, []),
  (318, (2, 3, 0, 0), 0, []),
  (319, (1, 0, 0, 0), nI 5, []),
  (320, (4, 0, 0, 0), 0, []),
  (321, (11, 0, 0, 0), 0, []),
  (322, (13, 31, 161, 0), 0, [(6, 10)]),
  (325, (7, 1058, 0, 0), 0, []),
  (328, (1, 0, 0, 0), nI 0, []),
  (329, (14, 0, 0, 0), 0, []),
  (330, (2, 1, 2, 0), 0, []),
  (331, (2, 0, 2, 0), 0, []),
  (332, (2, 3, 0, 0), 0, []),
  (333, (1, 0, 0, 0), nI 1, []),
  (334, (4, 0, 0, 0), 0, []),
  (335, (11, 0, 0, 0), 0, []),
  (336, (2, 0, 2, 0), 0, []),
  (337, (2, 3, 0, 0), 0, []),
  (338, (1, 0, 0, 0), nI 2, []),
  (339, (4, 0, 0, 0), 0, []),
  (340, (11, 0, 0, 0), 0, []),
  (341, (13, 32, 95, 0), 0, [(3, 9)]),
  (344, (2, 2, 2, 0), 0, []),
  (345, (2, 0, 2, 0), 0, []),
  (346, (2, 3, 0, 0), 0, []),
  (347, (1, 0, 0, 0), nI 1, []),
  (348, (4, 0, 0, 0), 0, []),
  (349, (11, 0, 0, 0), 0, []),
  (350, (2, 0, 2, 0), 0, [])]
def cx_L_law_6 : List Ent := [(351, (2, 3, 0, 0), 0, []),
  (352, (1, 0, 0, 0), nI 2, []),
  (353, (4, 0, 0, 0), 0, []),
  (354, (11, 0, 0, 0), 0, []),
  (355, (13, 36, 162, 0), 0, [(3, 10)]),
  (358, (7, 1058, 0, 0), 0, []),
  (361, (1, 0, 0, 0), nI 0, []),
  (362, (14, 0, 0, 0), 0, []),
  (363, (2, 1, 2, 0), 0, []),
  (364, (2, 0, 2, 0), 0, []),
  (365, (2, 3, 0, 0), 0, []),
  (366, (1, 0, 0, 0), nI 1, []),
  (367, (4, 0, 0, 0), 0, []),
  (368, (11, 0, 0, 0), 0, []),
  (369, (13, 37, 96, 0), 0, [(2, 9)]),
  (372, (2, 2, 2, 0), 0, []),
  (373, (2, 0, 2, 0), 0, []),
  (374, (2, 3, 0, 0), 0, []),
  (375, (1, 0, 0, 0), nI 1, []),
  (376, (4, 0, 0, 0), 0, []),
  (377, (11, 0, 0, 0), 0, []),
  (378, (13, 41, 164, 0), 0, [(2, 10)]),
  (381, (7, 1058, 0, 0), 0, []),
  (384, (1, 0, 0, 0), nI 0, []),
  (385, (14, 0, 0, 0), 0, []),
  (386, (2, 1, 2, 0), 0, []),
  (387, (2, 0, 2, 0), 0, []),
  (388, (2, 3, 0, 0), 0, []),
  (389, (1, 0, 0, 0), nI 1, []),
  (390, (4, 0, 0, 0), 0, [])]
def cx_L_law_7 : List Ent := [(391, (11, 0, 0, 0), 0, []),
  (392, (13, 42, 97, 0), 0, [(2, 9)]),
  (395, (2, 2, 2, 0), 0, []),
  (396, (2, 0, 2, 0), 0, []),
  (397, (2, 3, 0, 0), 0, []),
  (398, (1, 0, 0, 0), nI 1, []),
  (399, (4, 0, 0, 0), 0, []),
  (400, (11, 0, 0, 0), 0, []),
  (401, (13, 45, 167, 0), 0, [(2, 10)]),
  (404, (7, 1058, 0, 0), 0, []),
  (407, (1, 0, 0, 0), nI 0, []),
  (408, (14, 0, 0, 0), 0, []),
  (409, (2, 1, 2, 0), 0, []),
  (410, (2, 0, 2, 0), 0, []),
  (411, (2, 3, 0, 0), 0, []),
  (412, (1, 0, 0, 0), nI 1, []),
  (413, (4, 0, 0, 0), 0, []),
  (414, (11, 0, 0, 0), 0, []),
  (415, (13, 46, 98, 0), 0, [(2, 9)]),
  (418, (2, 2, 2, 0), 0, []),
  (419, (2, 0, 2, 0), 0, []),
  (420, (2, 3, 0, 0), 0, []),
  (421, (1, 0, 0, 0), nI 1, []),
  (422, (4, 0, 0, 0), 0, []),
  (423, (11, 0, 0, 0), 0, []),
  (424, (13, 49, 168, 0), 0, [(2, 10)]),
  (427, (7, 1058, 0, 0), 0, []),
  (430, (1, 0, 0, 0), nI 0, []),
  (431, (14, 0, 0, 0), 0, []),
  (432, (2, 1, 2, 0), 0, [])]
def cx_L_law_8 : List Ent := [(433, (2, 0, 2, 0), 0, []),
  (434, (2, 3, 0, 0), 0, []),
  (435, (1, 0, 0, 0), nI 1, []),
  (436, (4, 0, 0, 0), 0, []),
  (437, (11, 0, 0, 0), 0, []),
  (438, (2, 0, 2, 0), 0, []),
  (439, (2, 3, 0, 0), 0, []),
  (440, (1, 0, 0, 0), nI 2, []),
  (441, (4, 0, 0, 0), 0, []),
  (442, (11, 0, 0, 0), 0, []),
  (443, (2, 0, 2, 0), 0, []),
  (444, (2, 3, 0, 0), 0, []),
  (445, (1, 0, 0, 0), nI 3, []),
  (446, (4, 0, 0, 0), 0, []),
  (447, (11, 0, 0, 0), 0, []),
  (448, (13, 50, 99, 0), 0, [(4, 9)]),
  (451, (2, 2, 2, 0), 0, []),
  (452, (2, 0, 2, 0), 0, []),
  (453, (2, 3, 0, 0), 0, []),
  (454, (1, 0, 0, 0), nI 1, []),
  (455, (4, 0, 0, 0), 0, []),
  (456, (11, 0, 0, 0), 0, []),
  (457, (2, 0, 2, 0), 0, []),
  (458, (2, 3, 0, 0), 0, []),
  (459, (1, 0, 0, 0), nI 2, []),
  (460, (4, 0, 0, 0), 0, []),
  (461, (11, 0, 0, 0), 0, []),
  (462, (2, 0, 2, 0), 0, []),
  (463, (2, 3, 0, 0), 0, []),
  (464, (1, 0, 0, 0), nI 3, [])]
def cx_L_law_9 : List Ent := [(465, (4, 0, 0, 0), 0, []),
  (466, (11, 0, 0, 0), 0, []),
  (467, (13, 53, 181, 0), 0, [(4, 10)]),
  (470, (7, 1058, 0, 0), 0, []),
  (473, (1, 0, 0, 0), nI 0, []),
  (474, (14, 0, 0, 0), 0, []),
  (475, (2, 1, 2, 0), 0, []),
  (476, (2, 0, 2, 0), 0, []),
  (477, (2, 3, 0, 0), 0, []),
  (478, (1, 0, 0, 0), nI 1, []),
  (479, (4, 0, 0, 0), 0, []),
  (480, (11, 0, 0, 0), 0, []),
  (481, (13, 54, 100, 0), 0, [(2, 9)]),
  (484, (2, 2, 2, 0), 0, []),
  (485, (2, 0, 2, 0), 0, []),
  (486, (2, 3, 0, 0), 0, []),
  (487, (1, 0, 0, 0), nI 1, []),
  (488, (4, 0, 0, 0), 0, []),
  (489, (11, 0, 0, 0), 0, []),
  (490, (13, 57, 182, 0), 0, [(2, 10)]),
  (493, (7, 1058, 0, 0), 0, []),
  (496, (1, 0, 0, 0), nI 0, []),
  (497, (14, 0, 0, 0), 0, []),
  (498, (2, 1, 2, 0), 0, []),
  (499, (2, 0, 2, 0), 0, []),
  (500, (2, 3, 0, 0), 0, []),
  (501, (1, 0, 0, 0), nI 1, []),
  (502, (4, 0, 0, 0), 0, []),
  (503, (11, 0, 0, 0), 0, []),
  (504, (13, 58, 101, 0), 0, [(2, 9)])]
def cx_L_law_10 : List Ent := [(507, (2, 2, 2, 0), 0, []),
  (508, (2, 0, 2, 0), 0, []),
  (509, (2, 3, 0, 0), 0, []),
  (510, (1, 0, 0, 0), nI 1, []),
  (511, (4, 0, 0, 0), 0, []),
  (512, (11, 0, 0, 0), 0, []),
  (513, (13, 61, 183, 0), 0, [(2, 10)]),
  (516, (7, 1058, 0, 0), 0, []),
  (519, (1, 0, 0, 0), nI 0, []),
  (520, (14, 0, 0, 0), 0, []),
  (521, (2, 1, 2, 0), 0, []),
  (522, (2, 0, 2, 0), 0, []),
  (523, (2, 3, 0, 0), 0, []),
  (524, (1, 0, 0, 0), nI 1, []),
  (525, (4, 0, 0, 0), 0, []),
  (526, (11, 0, 0, 0), 0, []),
  (527, (13, 62, 102, 0), 0, [(2, 9)]),
  (530, (2, 2, 2, 0), 0, []),
  (531, (2, 0, 2, 0), 0, []),
  (532, (2, 3, 0, 0), 0, []),
  (533, (1, 0, 0, 0), nI 1, []),
  (534, (4, 0, 0, 0), 0, []),
  (535, (11, 0, 0, 0), 0, []),
  (536, (13, 65, 184, 0), 0, [(2, 10)]),
  (539, (7, 1058, 0, 0), 0, []),
  (542, (1, 0, 0, 0), nI 0, []),
  (543, (14, 0, 0, 0), 0, []),
  (544, (2, 1, 2, 0), 0, []),
  (545, (13, 66, 103, 0), 0, [(1, 9)]),
  (548, (2, 2, 2, 0), 0, [])]
def cx_L_law_11 : List Ent := [(549, (13, 69, 185, 0), 0, [(1, 10)]),
  (552, (7, 1058, 0, 0), 0, []),
  (555, (1, 0, 0, 0), nI 0, []),
  (556, (14, 0, 0, 0), 0, []),
  (557, (2, 1, 2, 0), 0, []),
  (558, (13, 70, 104, 0), 0, [(1, 9)]),
  (561, (2, 2, 2, 0), 0, []),
  (562, (13, 73, 192, 0), 0, [(1, 10)]),
  (565, (7, 1058, 0, 0), 0, []),
  (568, (1, 0, 0, 0), nI 0, []),
  (569, (14, 0, 0, 0), 0, []),
  (570, (2, 1, 2, 0), 0, []),
  (571, (13, 74, 105, 0), 0, [(1, 9)]),
  (574, (2, 2, 2, 0), 0, []),
  (575, (13, 77, 194, 0), 0, [(1, 10)]),
  (578, (7, 1058, 0, 0), 0, []),
  (581, (1, 0, 0, 0), nI 0, []),
  (582, (14, 0, 0, 0), 0, []),
  (583, (2, 1, 2, 0), 0, []),
  (584, (13, 78, 106, 0), 0, [(1, 9)]),
  (587, (2, 2, 2, 0), 0, []),
  (588, (13, 81, 141, 0), 0, [(1, 10)]),
  (591, (7, 1058, 0, 0), 0, []),
  (594, (1, 0, 0, 0), nI 0, []),
  (595, (14, 0, 0, 0), 0, []),
  (596, (2, 1, 2, 0), 0, []),
  (597, (2, 0, 2, 0), 0, []),
  (598, (2, 3, 0, 0), 0, []),
  (599, (1, 0, 0, 0), nI 1, []),
  (600, (4, 0, 0, 0), 0, [])]
def cx_L_law_12 : List Ent := [(601, (11, 0, 0, 0), 0, []),
  (602, (13, 82, 107, 0), 0, [(2, 9)]),
  (605, (2, 2, 2, 0), 0, []),
  (606, (2, 0, 2, 0), 0, []),
  (607, (2, 3, 0, 0), 0, []),
  (608, (1, 0, 0, 0), nI 1, []),
  (609, (4, 0, 0, 0), 0, []),
  (610, (11, 0, 0, 0), 0, []),
  (611, (13, 85, 142, 0), 0, [(2, 10)]),
  (614, (7, 1058, 0, 0), 0, []),
  (617, (1, 0, 0, 0), nI 0, []),
  (618, (14, 0, 0, 0), 0, []),
  (619, (2, 1, 2, 0), 0, []),
  (620, (2, 0, 2, 0), 0, []),
  (621, (2, 3, 0, 0), 0, []),
  (622, (1, 0, 0, 0), nI 1, []),
  (623, (4, 0, 0, 0), 0, []),
  (624, (11, 0, 0, 0), 0, []),
  (625, (13, 86, 108, 0), 0, [(2, 9)]),
  (628, (2, 2, 2, 0), 0, []),
  (629, (2, 0, 2, 0), 0, []),
  (630, (2, 3, 0, 0), 0, []),
  (631, (1, 0, 0, 0), nI 1, []),
  (632, (4, 0, 0, 0), 0, []),
  (633, (11, 0, 0, 0), 0, []),
  (634, (13, 89, 143, 0), 0, [(2, 10)]),
  (637, (7, 1058, 0, 0), 0, []),
  (640, (1, 0, 0, 0), nI 0, []),
  (641, (14, 0, 0, 0), 0, []),
  (642, (2, 1, 2, 0), 0, [])]
def cx_L_law_13 : List Ent := [(643, (2, 0, 2, 0), 0, []),
  (644, (2, 3, 0, 0), 0, []),
  (645, (1, 0, 0, 0), nI 1, []),
  (646, (4, 0, 0, 0), 0, []),
  (647, (11, 0, 0, 0), 0, []),
  (648, (2, 0, 2, 0), 0, []),
  (649, (2, 3, 0, 0), 0, []),
  (650, (1, 0, 0, 0), nI 2, []),
  (651, (4, 0, 0, 0), 0, []),
  (652, (11, 0, 0, 0), 0, []),
  (653, (13, 90, 109, 0), 0, [(3, 9)]),
  (656, (2, 2, 2, 0), 0, []),
  (657, (2, 0, 2, 0), 0, []),
  (658, (2, 3, 0, 0), 0, []),
  (659, (1, 0, 0, 0), nI 1, []),
  (660, (4, 0, 0, 0), 0, []),
  (661, (11, 0, 0, 0), 0, []),
  (662, (2, 0, 2, 0), 0, []),
  (663, (2, 3, 0, 0), 0, []),
  (664, (1, 0, 0, 0), nI 2, []),
  (665, (4, 0, 0, 0), 0, []),
  (666, (11, 0, 0, 0), 0, []),
  (667, (13, 93, 197, 0), 0, [(3, 10)]),
  (670, (7, 1058, 0, 0), 0, []),
  (673, (1, 0, 0, 0), nI 0, []),
  (674, (14, 0, 0, 0), 0, []),
  (675, (2, 1, 2, 0), 0, []),
  (676, (2, 0, 2, 0), 0, []),
  (677, (2, 3, 0, 0), 0, []),
  (678, (1, 0, 0, 0), nI 1, [])]
def cx_L_law_14 : List Ent := [(679, (4, 0, 0, 0), 0, []),
  (680, (11, 0, 0, 0), 0, []),
  (681, (2, 0, 2, 0), 0, []),
  (682, (2, 3, 0, 0), 0, []),
  (683, (1, 0, 0, 0), nI 2, []),
  (684, (4, 0, 0, 0), 0, []),
  (685, (11, 0, 0, 0), 0, []),
  (686, (13, 94, 110, 0), 0, [(3, 9)]),
  (689, (2, 2, 2, 0), 0, []),
  (690, (2, 0, 2, 0), 0, []),
  (691, (2, 3, 0, 0), 0, []),
  (692, (1, 0, 0, 0), nI 1, []),
  (693, (4, 0, 0, 0), 0, []),
  (694, (11, 0, 0, 0), 0, []),
  (695, (2, 0, 2, 0), 0, []),
  (696, (2, 3, 0, 0), 0, []),
  (697, (1, 0, 0, 0), nI 2, []),
  (698, (4, 0, 0, 0), 0, []),
  (699, (11, 0, 0, 0), 0, []),
  (700, (13, 97, 199, 0), 0, [(3, 10)]),
  (703, (7, 1058, 0, 0), 0, []),
  (706, (1, 0, 0, 0), nI 0, []),
  (707, (14, 0, 0, 0), 0, []),
  (708, (2, 1, 2, 0), 0, []),
  (709, (2, 0, 2, 0), 0, []),
  (710, (2, 3, 0, 0), 0, []),
  (711, (1, 0, 0, 0), nI 1, []),
  (712, (4, 0, 0, 0), 0, []),
  (713, (11, 0, 0, 0), 0, []),
  (714, (2, 0, 2, 0), 0, [])]
def cx_L_law_15 : List Ent := [(715, (2, 3, 0, 0), 0, []),
  (716, (1, 0, 0, 0), nI 2, []),
  (717, (4, 0, 0, 0), 0, []),
  (718, (11, 0, 0, 0), 0, []),
  (719, (2, 0, 2, 0), 0, []),
  (720, (2, 3, 0, 0), 0, []),
  (721, (1, 0, 0, 0), nI 3, []),
  (722, (4, 0, 0, 0), 0, []),
  (723, (11, 0, 0, 0), 0, []),
  (724, (13, 98, 111, 0), 0, [(4, 9)]),
  (727, (2, 2, 2, 0), 0, []),
  (728, (2, 0, 2, 0), 0, []),
  (729, (2, 3, 0, 0), 0, []),
  (730, (1, 0, 0, 0), nI 1, []),
  (731, (4, 0, 0, 0), 0, []),
  (732, (11, 0, 0, 0), 0, []),
  (733, (2, 0, 2, 0), 0, []),
  (734, (2, 3, 0, 0), 0, []),
  (735, (1, 0, 0, 0), nI 2, []),
  (736, (4, 0, 0, 0), 0, []),
  (737, (11, 0, 0, 0), 0, []),
  (738, (2, 0, 2, 0), 0, []),
  (739, (2, 3, 0, 0), 0, []),
  (740, (1, 0, 0, 0), nI 3, []),
  (741, (4, 0, 0, 0), 0, []),
  (742, (11, 0, 0, 0), 0, []),
  (743, (13, 101, 200, 0), 0, [(4, 10)]),
  (746, (7, 1058, 0, 0), 0, []),
  (749, (1, 0, 0, 0), nI 0, []),
  (750, (14, 0, 0, 0), 0, [])]
def cx_L_law_16 : List Ent := [(751, (2, 1, 2, 0), 0, []),
  (752, (2, 0, 2, 0), 0, []),
  (753, (2, 3, 0, 0), 0, []),
  (754, (1, 0, 0, 0), nI 1, []),
  (755, (4, 0, 0, 0), 0, []),
  (756, (11, 0, 0, 0), 0, []),
  (757, (2, 0, 2, 0), 0, []),
  (758, (2, 3, 0, 0), 0, []),
  (759, (1, 0, 0, 0), nI 2, []),
  (760, (4, 0, 0, 0), 0, []),
  (761, (11, 0, 0, 0), 0, []),
  (762, (13, 102, 112, 0), 0, [(3, 9)]),
  (765, (2, 2, 2, 0), 0, []),
  (766, (2, 0, 2, 0), 0, []),
  (767, (2, 3, 0, 0), 0, []),
  (768, (1, 0, 0, 0), nI 1, []),
  (769, (4, 0, 0, 0), 0, []),
  (770, (11, 0, 0, 0), 0, []),
  (771, (2, 0, 2, 0), 0, []),
  (772, (2, 3, 0, 0), 0, []),
  (773, (1, 0, 0, 0), nI 2, []),
  (774, (4, 0, 0, 0), 0, []),
  (775, (11, 0, 0, 0), 0, []),
  (776, (13, 105, 201, 0), 0, [(3, 10)]),
  (779, (7, 1058, 0, 0), 0, []),
  (782, (1, 0, 0, 0), nI 0, []),
  (783, (14, 0, 0, 0), 0, []),
  (784, (2, 1, 2, 0), 0, []),
  (785, (2, 0, 2, 0), 0, []),
  (786, (2, 3, 0, 0), 0, [])]
def cx_L_law_17 : List Ent := [(787, (1, 0, 0, 0), nI 1, []),
  (788, (4, 0, 0, 0), 0, []),
  (789, (11, 0, 0, 0), 0, []),
  (790, (2, 0, 2, 0), 0, []),
  (791, (2, 3, 0, 0), 0, []),
  (792, (1, 0, 0, 0), nI 2, []),
  (793, (4, 0, 0, 0), 0, []),
  (794, (11, 0, 0, 0), 0, []),
  (795, (2, 0, 2, 0), 0, []),
  (796, (2, 3, 0, 0), 0, []),
  (797, (1, 0, 0, 0), nI 3, []),
  (798, (4, 0, 0, 0), 0, []),
  (799, (11, 0, 0, 0), 0, []),
  (800, (13, 106, 113, 0), 0, [(4, 9)]),
  (803, (2, 2, 2, 0), 0, []),
  (804, (2, 0, 2, 0), 0, []),
  (805, (2, 3, 0, 0), 0, []),
  (806, (1, 0, 0, 0), nI 1, []),
  (807, (4, 0, 0, 0), 0, []),
  (808, (11, 0, 0, 0), 0, []),
  (809, (2, 0, 2, 0), 0, []),
  (810, (2, 3, 0, 0), 0, []),
  (811, (1, 0, 0, 0), nI 2, []),
  (812, (4, 0, 0, 0), 0, []),
  (813, (11, 0, 0, 0), 0, []),
  (814, (2, 0, 2, 0), 0, []),
  (815, (2, 3, 0, 0), 0, []),
  (816, (1, 0, 0, 0), nI 3, []),
  (817, (4, 0, 0, 0), 0, []),
  (818, (11, 0, 0, 0), 0, [])]
def cx_L_law_18 : List Ent := [(819, (13, 109, 202, 0), 0, [(4, 10)]),
  (822, (7, 1058, 0, 0), 0, []),
  (825, (1, 0, 0, 0), nI 0, []),
  (826, (14, 0, 0, 0), 0, []),
  (827, (2, 1, 2, 0), 0, []),
  (828, (2, 0, 2, 0), 0, []),
  (829, (2, 3, 0, 0), 0, []),
  (830, (1, 0, 0, 0), nI 1, []),
  (831, (4, 0, 0, 0), 0, []),
  (832, (11, 0, 0, 0), 0, []),
  (833, (13, 110, 114, 0), 0, [(2, 9)]),
  (836, (2, 2, 2, 0), 0, []),
  (837, (2, 0, 2, 0), 0, []),
  (838, (2, 3, 0, 0), 0, []),
  (839, (1, 0, 0, 0), nI 1, []),
  (840, (4, 0, 0, 0), 0, []),
  (841, (11, 0, 0, 0), 0, []),
  (842, (13, 113, 158, 0), 0, [(2, 10)]),
  (845, (7, 1058, 0, 0), 0, []),
  (848, (1, 0, 0, 0), nI 0, []),
  (849, (14, 0, 0, 0), 0, []),
  (850, (2, 1, 2, 0), 0, []),
  (851, (2, 0, 2, 0), 0, []),
  (852, (2, 3, 0, 0), 0, []),
  (853, (1, 0, 0, 0), nI 1, []),
  (854, (4, 0, 0, 0), 0, []),
  (855, (11, 0, 0, 0), 0, []),
  (856, (2, 0, 2, 0), 0, []),
  (857, (2, 3, 0, 0), 0, []),
  (858, (1, 0, 0, 0), nI 2, [])]
def cx_L_law_19 : List Ent := [(859, (4, 0, 0, 0), 0, []),
  (860, (11, 0, 0, 0), 0, []),
  (861, (13, 114, 115, 0), 0, [(3, 9)]),
  (864, (2, 2, 2, 0), 0, []),
  (865, (2, 0, 2, 0), 0, []),
  (866, (2, 3, 0, 0), 0, []),
  (867, (1, 0, 0, 0), nI 1, []),
  (868, (4, 0, 0, 0), 0, []),
  (869, (11, 0, 0, 0), 0, []),
  (870, (2, 0, 2, 0), 0, []),
  (871, (2, 3, 0, 0), 0, []),
  (872, (1, 0, 0, 0), nI 2, []),
  (873, (4, 0, 0, 0), 0, []),
  (874, (11, 0, 0, 0), 0, []),
  (875, (13, 117, 150, 0), 0, [(3, 10)]),
  (878, (7, 1058, 0, 0), 0, []),
  (881, (1, 0, 0, 0), nI 0, []),
  (882, (14, 0, 0, 0), 0, []),
  (883, (2, 1, 2, 0), 0, []),
  (884, (2, 0, 2, 0), 0, []),
  (885, (2, 3, 0, 0), 0, []),
  (886, (1, 0, 0, 0), nI 1, []),
  (887, (4, 0, 0, 0), 0, []),
  (888, (11, 0, 0, 0), 0, []),
  (889, (13, 118, 116, 0), 0, [(2, 9)]),
  (892, (2, 2, 2, 0), 0, []),
  (893, (2, 0, 2, 0), 0, []),
  (894, (2, 3, 0, 0), 0, []),
  (895, (1, 0, 0, 0), nI 1, []),
  (896, (4, 0, 0, 0), 0, [])]
def cx_L_law_20 : List Ent := [(897, (11, 0, 0, 0), 0, []),
  (898, (13, 121, 204, 0), 0, [(2, 10)]),
  (901, (7, 1058, 0, 0), 0, []),
  (904, (1, 0, 0, 0), nI 0, []),
  (905, (14, 0, 0, 0), 0, []),
  (906, (2, 1, 2, 0), 0, []),
  (907, (2, 0, 2, 0), 0, []),
  (908, (2, 3, 0, 0), 0, []),
  (909, (1, 0, 0, 0), nI 1, []),
  (910, (4, 0, 0, 0), 0, []),
  (911, (11, 0, 0, 0), 0, []),
  (912, (13, 122, 117, 0), 0, [(2, 9)]),
  (915, (2, 2, 2, 0), 0, []),
  (916, (2, 0, 2, 0), 0, []),
  (917, (2, 3, 0, 0), 0, []),
  (918, (1, 0, 0, 0), nI 1, []),
  (919, (4, 0, 0, 0), 0, []),
  (920, (11, 0, 0, 0), 0, []),
  (921, (13, 125, 208, 0), 0, [(2, 10)]),
  (924, (7, 1058, 0, 0), 0, []),
  (927, (1, 0, 0, 0), nI 0, []),
  (928, (14, 0, 0, 0), 0, []),
  (929, (2, 1, 2, 0), 0, []),
  (930, (2, 0, 2, 0), 0, []),
  (931, (2, 3, 0, 0), 0, []),
  (932, (1, 0, 0, 0), nI 1, []),
  (933, (4, 0, 0, 0), 0, []),
  (934, (11, 0, 0, 0), 0, []),
  (935, (2, 0, 2, 0), 0, []),
  (936, (2, 3, 0, 0), 0, [])]
def cx_L_law_21 : List Ent := [(937, (1, 0, 0, 0), nI 2, []),
  (938, (4, 0, 0, 0), 0, []),
  (939, (11, 0, 0, 0), 0, []),
  (940, (2, 0, 2, 0), 0, []),
  (941, (2, 3, 0, 0), 0, []),
  (942, (1, 0, 0, 0), nI 3, []),
  (943, (4, 0, 0, 0), 0, []),
  (944, (11, 0, 0, 0), 0, []),
  (945, (2, 0, 2, 0), 0, []),
  (946, (2, 3, 0, 0), 0, []),
  (947, (1, 0, 0, 0), nI 4, []),
  (948, (4, 0, 0, 0), 0, []),
  (949, (11, 0, 0, 0), 0, []),
  (950, (13, 126, 118, 0), 0, [(5, 9)]),
  (953, (2, 2, 2, 0), 0, []),
  (954, (2, 0, 2, 0), 0, []),
  (955, (2, 3, 0, 0), 0, []),
  (956, (1, 0, 0, 0), nI 1, []),
  (957, (4, 0, 0, 0), 0, []),
  (958, (11, 0, 0, 0), 0, []),
  (959, (2, 0, 2, 0), 0, []),
  (960, (2, 3, 0, 0), 0, []),
  (961, (1, 0, 0, 0), nI 2, []),
  (962, (4, 0, 0, 0), 0, []),
  (963, (11, 0, 0, 0), 0, []),
  (964, (2, 0, 2, 0), 0, []),
  (965, (2, 3, 0, 0), 0, []),
  (966, (1, 0, 0, 0), nI 3, []),
  (967, (4, 0, 0, 0), 0, []),
  (968, (11, 0, 0, 0), 0, [])]
def cx_L_law_22 : List Ent := [(969, (2, 0, 2, 0), 0, []),
  (970, (2, 3, 0, 0), 0, []),
  (971, (1, 0, 0, 0), nI 4, []),
  (972, (4, 0, 0, 0), 0, []),
  (973, (11, 0, 0, 0), 0, []),
  (974, (13, 130, 209, 0), 0, [(5, 10)]),
  (977, (7, 1058, 0, 0), 0, []),
  (980, (1, 0, 0, 0), nI 0, []),
  (981, (14, 0, 0, 0), 0, []),
  (982, (2, 1, 2, 0), 0, []),
  (983, (2, 0, 2, 0), 0, []),
  (984, (2, 3, 0, 0), 0, []),
  (985, (1, 0, 0, 0), nI 1, []),
  (986, (4, 0, 0, 0), 0, []),
  (987, (11, 0, 0, 0), 0, []),
  (988, (2, 0, 2, 0), 0, []),
  (989, (2, 3, 0, 0), 0, []),
  (990, (1, 0, 0, 0), nI 2, []),
  (991, (4, 0, 0, 0), 0, []),
  (992, (11, 0, 0, 0), 0, []),
  (993, (2, 0, 2, 0), 0, []),
  (994, (2, 3, 0, 0), 0, []),
  (995, (1, 0, 0, 0), nI 3, []),
  (996, (4, 0, 0, 0), 0, []),
  (997, (11, 0, 0, 0), 0, []),
  (998, (13, 131, 119, 0), 0, [(4, 9)]),
  (1001, (2, 2, 2, 0), 0, []),
  (1002, (2, 0, 2, 0), 0, []),
  (1003, (2, 3, 0, 0), 0, []),
  (1004, (1, 0, 0, 0), nI 1, [])]
def cx_L_law_23 : List Ent := [(1005, (4, 0, 0, 0), 0, []),
  (1006, (11, 0, 0, 0), 0, []),
  (1007, (2, 0, 2, 0), 0, []),
  (1008, (2, 3, 0, 0), 0, []),
  (1009, (1, 0, 0, 0), nI 2, []),
  (1010, (4, 0, 0, 0), 0, []),
  (1011, (11, 0, 0, 0), 0, []),
  (1012, (2, 0, 2, 0), 0, []),
  (1013, (2, 3, 0, 0), 0, []),
  (1014, (1, 0, 0, 0), nI 3, []),
  (1015, (4, 0, 0, 0), 0, []),
  (1016, (11, 0, 0, 0), 0, []),
  (1017, (13, 134, 210, 0), 0, [(4, 10)]),
  (1020, (7, 1058, 0, 0), 0, []),
  (1023, (1, 0, 0, 0), nI 0, []),
  (1024, (14, 0, 0, 0), 0, []),
  (1025, (2, 1, 2, 0), 0, []),
  (1026, (2, 0, 2, 0), 0, []),
  (1027, (2, 3, 0, 0), 0, []),
  (1028, (1, 0, 0, 0), nI 1, []),
  (1029, (4, 0, 0, 0), 0, []),
  (1030, (11, 0, 0, 0), 0, []),
  (1031, (2, 0, 2, 0), 0, []),
  (1032, (2, 3, 0, 0), 0, []),
  (1033, (1, 0, 0, 0), nI 2, []),
  (1034, (4, 0, 0, 0), 0, []),
  (1035, (11, 0, 0, 0), 0, []),
  (1036, (13, 135, 120, 0), 0, [(3, 9)]),
  (1039, (2, 2, 2, 0), 0, []),
  (1040, (2, 0, 2, 0), 0, [])]
def cx_L_law_24 : List Ent := [(1041, (2, 3, 0, 0), 0, []),
  (1042, (1, 0, 0, 0), nI 1, []),
  (1043, (4, 0, 0, 0), 0, []),
  (1044, (11, 0, 0, 0), 0, []),
  (1045, (2, 0, 2, 0), 0, []),
  (1046, (2, 3, 0, 0), 0, []),
  (1047, (1, 0, 0, 0), nI 2, []),
  (1048, (4, 0, 0, 0), 0, []),
  (1049, (11, 0, 0, 0), 0, []),
  (1050, (13, 138, 211, 0), 0, [(3, 10)]),
  (1053, (7, 1058, 0, 0), 0, []),
  (1056, (1, 0, 0, 0), nI 0, []),
  (1057, (14, 0, 0, 0), 0, []),
  (1058, (5, 3, 0, 0), nI 6, []),
  (1061, (8, 18, 0, 0), 0, []),
  (1064, (1, 0, 0, 0), nI 1, []),
  (1065, (14, 0, 0, 0), 0, [])]
def co_L_law : List Ent := cx_L_law_0 ++ (cx_L_law_1 ++ (cx_L_law_2 ++ (cx_L_law_3 ++ (cx_L_law_4 ++ (cx_L_law_5 ++ (cx_L_law_6 ++ (cx_L_law_7 ++ (cx_L_law_8 ++ (cx_L_law_9 ++ (cx_L_law_10 ++ (cx_L_law_11 ++ (cx_L_law_12 ++ (cx_L_law_13 ++ (cx_L_law_14 ++ (cx_L_law_15 ++ (cx_L_law_16 ++ (cx_L_law_17 ++ (cx_L_law_18 ++ (cx_L_law_19 ++ (cx_L_law_20 ++ (cx_L_law_21 ++ (cx_L_law_22 ++ (cx_L_law_23 ++ (cx_L_law_24))))))))))))))))))))))))
abbrev m_L_law : Nat := 214
def allCo : List (List Ent) := [co_X0_init, co_X0_add, co_X0_rewind, co_X0_findFault, co_X0_readAct, co_X0_readSending, co_X0_readSign, co_X0_readNumber, co_X0_byteHere, co_X0_isDigit, co_X1_init, co_X1_become, co_X1_copyFrom, co_X1_isAt, co_X1_has, co_X1_holds, co_X1_meets, co_X2_init, co_X2_become, co_X2_copyFrom, co_X2_isHolding, co_X2_property, co_X3_init, co_X3_row, co_X3_draft, co_X3_keepDraft, co_X3_takeLatest, co_X4_init, co_X4_start, co_X4_copyFrom, co_X4_isPlace, co_X4_property, co_X4_moveToFront, co_X4_drop, co_X4_dropEnded, co_X4_placeOfSite, co_X4_placeOfSmallest, co_X4_addMap, co_X5_init, co_X5_copyFrom, co_X6_init, co_X6_start, co_X6_copyFrom, co_X6_isRegistered, co_X6_isUp, co_X7_init, co_X7_copyFrom, co_X7_fill, co_X7_propertyOf, co_X7_isEmpty, co_X7_areEmpty, co_X7_have, co_X7_lowestPriority, co_X7_weightThatCounts, co_X7_placeFor, co_X7_flowsTo, co_X8_init, co_X8_copyFrom, co_X8_isServer, co_X8_isSite, co_X8_isRouter, co_X8_newServer, co_X8_newSite, co_X8_newRouter, co_X8_fillSlot, co_X8_vacateSlot, co_X8_startRegistration, co_X8_endRegistration, co_X8_changeMapLife, co_X8_letPass, co_X8_emptyCache, co_X8_sendLetter, co_X8_placeByMap, co_X8_ask, co_X8_goByProxy, co_X8_homeOf, co_X8_homeOfSite, co_X8_hopsTo, co_X8_answerFor, co_X8_siteEndingAt, co_X8_sitesEndingAheadOf, co_X8_serverProperty, co_X8_childrenOf, co_X8_sitesAtHome, co_X8_siteProperty, co_X8_mapsOf, co_X8_totalOf, co_X8_sitesUp, co_X8_sumOverRouters, co_X8_namesWithAnswer, co_X9_init, co_X9_addServer, co_X9_addSite, co_X9_addRouter, co_X9_setSlot, co_X9_emptySlot, co_X9_register, co_X9_unregister, co_X9_setMapLife, co_X9_send, co_X9_pass, co_X9_forget, co_X9_append, co_X9_clearText, co_X9_faultPosition, co_X9_run, co_X9_undo, co_X9_save, co_X9_restore, co_X9_server, co_X9_site, co_X9_slot, co_X9_router, co_X9_map, co_X9_answer, co_X9_way, co_X9_endingNext, co_X9_total, co_X9_wouldReach, co_X9_wouldAsk, co_X9_share, co_X9_recorded, co_X9_carryOutAct, co_X9_isSave, co_X9_isSlot, co_X9_isName, co_X9_isFlow, co_X9_isPlaceOfSlot, co_X9_isBlock, co_X10_init, co_X10_isIn, co_X10_isServer, co_X10_isSite, co_X10_isRouter, co_X10_isName, co_X10_siteAt, co_X10_routerAt, co_X10_mapAt, co_X10_keeps, co_X10_brings, co_X10_records, co_X10_undo, co_X10_save, co_X10_restore, co_X10_isBlock, co_X10_firstOf, co_X10_sizeOf, co_X10_holds, co_X10_homeOf, co_X10_wayTo, co_X10_way, co_X10_addServer, co_X10_ofSite, co_X10_has, co_X10_homeOfSite, co_X10_isRegistered, co_X10_isUp, co_X10_answerOf, co_X10_answer, co_X10_addSite, co_X10_addRouter, co_X10_setSlot, co_X10_emptySlot, co_X10_registers, co_X10_register, co_X10_unregisterError, co_X10_unregisters, co_X10_unregister, co_X10_setMapLife, co_X10_mapsOf, co_X10_ofMap, co_X10_drops, co_X10_makesRoom, co_X10_uses, co_X10_asks, co_X10_chosen, co_X10_isAt, co_X10_takes, co_X10_proxy, co_X10_sends, co_X10_isLetter, co_X10_send, co_X10_pass, co_X10_forget, co_X10_append, co_X10_clearText, co_X10_passesSign, co_X10_isDigitHere, co_X10_passesNumber, co_X10_passesLetter, co_X10_passesAct, co_X10_faultOf, co_X10_faultPosition, co_X10_does, co_X10_run, co_X10_children, co_X10_sitesOf, co_X10_server, co_X10_copiesOf, co_X10_site, co_X10_slot, co_X10_router, co_X10_map, co_X10_isAhead, co_X10_endingNext, co_X10_upMany, co_X10_sumOf, co_X10_answered, co_X10_total, co_X10_wouldReach, co_X10_wouldAsk, co_X10_share, co_J6_bitCount_0f7a4, co_J9_floorMod_7cf53, co_L_law]
/-- of each method: its answer (0 int, 1 boolean, 2 none) -/
def allRet : List Nat := [2, 0, 2, 0, 1, 2, 2, 0, 0, 1, 2, 2, 2, 1, 1, 1, 1, 2, 2, 2, 1, 0, 2, 0, 2, 2, 2, 2, 2, 2, 1, 0, 2, 2, 2, 0, 0, 2, 2, 2, 2, 2, 2, 1, 1, 2, 2, 2, 0, 1, 1, 1, 0, 0, 0, 0, 2, 2, 1, 1, 1, 0, 0, 0, 0, 0, 0, 0, 0, 0, 0, 0, 0, 1, 0, 0, 0, 0, 0, 0, 0, 0, 0, 0, 0, 0, 0, 0, 0, 0, 2, 0, 0, 0, 0, 0, 0, 0, 0, 0, 0, 0, 0, 0, 0, 0, 0, 0, 0, 0, 0, 0, 0, 0, 0, 0, 0, 0, 0, 0, 0, 0, 0, 1, 1, 1, 1, 1, 1, 2, 1, 1, 1, 1, 1, 0, 0, 0, 2, 2, 2, 0, 0, 0, 1, 0, 0, 1, 0, 0, 0, 0, 0, 1, 0, 1, 1, 0, 0, 0, 0, 0, 0, 0, 0, 0, 0, 0, 0, 0, 0, 2, 2, 2, 1, 0, 1, 0, 0, 0, 1, 0, 0, 0, 0, 0, 1, 1, 1, 1, 1, 0, 0, 1, 0, 0, 0, 0, 0, 0, 0, 0, 0, 1, 0, 0, 0, 0, 0, 0, 0, 0, 0, 0, 1]
end
section
/-- words that any later state keeps -/
def isNest : Cond → Bool
  | .methodLinkNest _ _ _ _ => true
  | _ => false
def kw (w : Cond) : Bool := (w.onTables && w.keeps) || isNest w
def inT (w : Cond) : Prop := w ∈ lw_tbl ∧ kw w = true
theorem inT_at {w : Cond} (i : Nat) (h : lw_tbl[i]? = some w ∧ kw w = true) : inT w := ⟨List.mem_of_getElem? h.1, h.2⟩
def cnm : Nat → String := fun c => match c with
  | 0 => RX0
  | 1 => RX1
  | 2 => RX2
  | 3 => RX3
  | 4 => RX4
  | 5 => RX5
  | 6 => RX6
  | 7 => RX7
  | 8 => RX8
  | 9 => RX9
  | 10 => RX10
  | 24 => RL
  | 25 => RJ6
  | _ => RJ9
abbrev MRow : Type := MethodName × ByteArray × Nat × Option FieldType × Nat × Nat × Bool
/-- name, bytes, locals, answer, class, arguments (with the receiver), static -/
def mTab : List MRow := [(yX0_init, cX0_init, 1, none, 0, 1, false),
  (yX0_add, cX0_add, 2, (some .int), 0, 2, false),
  (yX0_rewind, cX0_rewind, 1, none, 0, 1, false),
  (yX0_findFault, cX0_findFault, 2, (some .int), 0, 1, false),
  (yX0_readAct, cX0_readAct, 1, (some .boolean), 0, 1, false),
  (yX0_readSending, cX0_readSending, 1, none, 0, 1, false),
  (yX0_readSign, cX0_readSign, 2, none, 0, 2, false),
  (yX0_readNumber, cX0_readNumber, 7, (some .int), 0, 3, false),
  (yX0_byteHere, cX0_byteHere, 2, (some .int), 0, 1, false),
  (yX0_isDigit, cX0_isDigit, 1, (some .boolean), 0, 1, true),
  (yX1_init, cX1_init, 1, none, 1, 1, false),
  (yX1_become, cX1_become, 3, none, 1, 3, false),
  (yX1_copyFrom, cX1_copyFrom, 2, none, 1, 2, false),
  (yX1_isAt, cX1_isAt, 3, (some .boolean), 1, 3, false),
  (yX1_has, cX1_has, 2, (some .boolean), 1, 2, false),
  (yX1_holds, cX1_holds, 3, (some .boolean), 1, 3, false),
  (yX1_meets, cX1_meets, 3, (some .boolean), 1, 3, false),
  (yX2_init, cX2_init, 1, none, 2, 1, false),
  (yX2_become, cX2_become, 4, none, 2, 4, false),
  (yX2_copyFrom, cX2_copyFrom, 2, none, 2, 2, false),
  (yX2_isHolding, cX2_isHolding, 2, (some .boolean), 2, 2, false),
  (yX2_property, cX2_property, 3, (some .int), 2, 3, false),
  (yX3_init, cX3_init, 2, none, 3, 1, false),
  (yX3_row, cX3_row, 2, (some .int), 3, 2, false),
  (yX3_draft, cX3_draft, 2, none, 3, 2, false),
  (yX3_keepDraft, cX3_keepDraft, 1, none, 3, 1, false),
  (yX3_takeLatest, cX3_takeLatest, 2, none, 3, 2, false),
  (yX4_init, cX4_init, 2, none, 4, 1, false),
  (yX4_start, cX4_start, 1, none, 4, 1, false),
  (yX4_copyFrom, cX4_copyFrom, 3, none, 4, 2, false),
  (yX4_isPlace, cX4_isPlace, 2, (some .boolean), 4, 2, false),
  (yX4_property, cX4_property, 2, (some .int), 4, 2, false),
  (yX4_moveToFront, cX4_moveToFront, 4, none, 4, 2, false),
  (yX4_drop, cX4_drop, 4, none, 4, 2, false),
  (yX4_dropEnded, cX4_dropEnded, 3, none, 4, 2, false),
  (yX4_placeOfSite, cX4_placeOfSite, 3, (some .int), 4, 2, false),
  (yX4_placeOfSmallest, cX4_placeOfSmallest, 6, (some .int), 4, 2, false),
  (yX4_addMap, cX4_addMap, 4, none, 4, 4, false),
  (yX5_init, cX5_init, 1, none, 5, 1, false),
  (yX5_copyFrom, cX5_copyFrom, 2, none, 5, 2, false),
  (yX6_init, cX6_init, 1, none, 6, 1, false),
  (yX6_start, cX6_start, 5, none, 6, 4, false),
  (yX6_copyFrom, cX6_copyFrom, 2, none, 6, 2, false),
  (yX6_isRegistered, cX6_isRegistered, 2, (some .boolean), 6, 2, false),
  (yX6_isUp, cX6_isUp, 2, (some .boolean), 6, 2, false),
  (yX7_init, cX7_init, 1, none, 7, 1, false),
  (yX7_copyFrom, cX7_copyFrom, 3, none, 7, 2, false),
  (yX7_fill, cX7_fill, 5, none, 7, 5, false),
  (yX7_propertyOf, cX7_propertyOf, 3, (some .int), 7, 3, false),
  (yX7_isEmpty, cX7_isEmpty, 2, (some .boolean), 7, 2, false),
  (yX7_areEmpty, cX7_areEmpty, 3, (some .boolean), 7, 1, false),
  (yX7_have, cX7_have, 3, (some .boolean), 7, 2, false),
  (yX7_lowestPriority, cX7_lowestPriority, 3, (some .int), 7, 1, false),
  (yX7_weightThatCounts, cX7_weightThatCounts, 3, (some .int), 7, 3, false),
  (yX7_placeFor, cX7_placeFor, 7, (some .int), 7, 2, false),
  (yX7_flowsTo, cX7_flowsTo, 4, (some .int), 7, 2, false),
  (yX8_init, cX8_init, 2, none, 8, 1, false),
  (yX8_copyFrom, cX8_copyFrom, 3, none, 8, 2, false),
  (yX8_isServer, cX8_isServer, 2, (some .boolean), 8, 2, false),
  (yX8_isSite, cX8_isSite, 2, (some .boolean), 8, 2, false),
  (yX8_isRouter, cX8_isRouter, 2, (some .boolean), 8, 2, false),
  (yX8_newServer, cX8_newServer, 6, (some .int), 8, 4, false),
  (yX8_newSite, cX8_newSite, 5, (some .int), 8, 4, false),
  (yX8_newRouter, cX8_newRouter, 1, (some .int), 8, 1, false),
  (yX8_fillSlot, cX8_fillSlot, 6, (some .int), 8, 6, false),
  (yX8_vacateSlot, cX8_vacateSlot, 3, (some .int), 8, 3, false),
  (yX8_startRegistration, cX8_startRegistration, 2, (some .int), 8, 2, false),
  (yX8_endRegistration, cX8_endRegistration, 3, (some .int), 8, 2, false),
  (yX8_changeMapLife, cX8_changeMapLife, 3, (some .int), 8, 2, false),
  (yX8_letPass, cX8_letPass, 2, (some .int), 8, 2, false),
  (yX8_emptyCache, cX8_emptyCache, 3, (some .int), 8, 2, false),
  (yX8_sendLetter, cX8_sendLetter, 7, (some .int), 8, 4, false),
  (yX8_placeByMap, cX8_placeByMap, 5, (some .int), 8, 3, false),
  (yX8_ask, cX8_ask, 4, (some .boolean), 8, 3, false),
  (yX8_goByProxy, cX8_goByProxy, 3, (some .int), 8, 3, false),
  (yX8_homeOf, cX8_homeOf, 6, (some .int), 8, 3, false),
  (yX8_homeOfSite, cX8_homeOfSite, 2, (some .int), 8, 2, false),
  (yX8_hopsTo, cX8_hopsTo, 4, (some .int), 8, 2, false),
  (yX8_answerFor, cX8_answerFor, 7, (some .int), 8, 2, false),
  (yX8_siteEndingAt, cX8_siteEndingAt, 3, (some .int), 8, 2, false),
  (yX8_sitesEndingAheadOf, cX8_sitesEndingAheadOf, 6, (some .int), 8, 2, false),
  (yX8_serverProperty, cX8_serverProperty, 3, (some .int), 8, 3, false),
  (yX8_childrenOf, cX8_childrenOf, 4, (some .int), 8, 2, false),
  (yX8_sitesAtHome, cX8_sitesAtHome, 4, (some .int), 8, 2, false),
  (yX8_siteProperty, cX8_siteProperty, 3, (some .int), 8, 3, false),
  (yX8_mapsOf, cX8_mapsOf, 4, (some .int), 8, 2, false),
  (yX8_totalOf, cX8_totalOf, 2, (some .int), 8, 2, false),
  (yX8_sitesUp, cX8_sitesUp, 3, (some .int), 8, 1, false),
  (yX8_sumOverRouters, cX8_sumOverRouters, 4, (some .int), 8, 2, false),
  (yX8_namesWithAnswer, cX8_namesWithAnswer, 3, (some .int), 8, 1, false),
  (yX9_init, cX9_init, 2, none, 9, 1, false),
  (yX9_addServer, cX9_addServer, 4, (some .int), 9, 4, false),
  (yX9_addSite, cX9_addSite, 4, (some .int), 9, 4, false),
  (yX9_addRouter, cX9_addRouter, 1, (some .int), 9, 1, false),
  (yX9_setSlot, cX9_setSlot, 6, (some .int), 9, 6, false),
  (yX9_emptySlot, cX9_emptySlot, 3, (some .int), 9, 3, false),
  (yX9_register, cX9_register, 2, (some .int), 9, 2, false),
  (yX9_unregister, cX9_unregister, 2, (some .int), 9, 2, false),
  (yX9_setMapLife, cX9_setMapLife, 2, (some .int), 9, 2, false),
  (yX9_send, cX9_send, 4, (some .int), 9, 4, false),
  (yX9_pass, cX9_pass, 2, (some .int), 9, 2, false),
  (yX9_forget, cX9_forget, 2, (some .int), 9, 2, false),
  (yX9_append, cX9_append, 2, (some .int), 9, 2, false),
  (yX9_clearText, cX9_clearText, 2, (some .int), 9, 1, false),
  (yX9_faultPosition, cX9_faultPosition, 2, (some .int), 9, 1, false),
  (yX9_run, cX9_run, 2, (some .int), 9, 1, false),
  (yX9_undo, cX9_undo, 1, (some .int), 9, 1, false),
  (yX9_save, cX9_save, 2, (some .int), 9, 2, false),
  (yX9_restore, cX9_restore, 2, (some .int), 9, 2, false),
  (yX9_server, cX9_server, 3, (some .int), 9, 3, false),
  (yX9_site, cX9_site, 3, (some .int), 9, 3, false),
  (yX9_slot, cX9_slot, 4, (some .int), 9, 4, false),
  (yX9_router, cX9_router, 3, (some .int), 9, 3, false),
  (yX9_map, cX9_map, 4, (some .int), 9, 4, false),
  (yX9_answer, cX9_answer, 3, (some .int), 9, 2, false),
  (yX9_way, cX9_way, 4, (some .int), 9, 3, false),
  (yX9_endingNext, cX9_endingNext, 3, (some .int), 9, 2, false),
  (yX9_total, cX9_total, 2, (some .int), 9, 2, false),
  (yX9_wouldReach, cX9_wouldReach, 5, (some .int), 9, 5, false),
  (yX9_wouldAsk, cX9_wouldAsk, 5, (some .int), 9, 4, false),
  (yX9_share, cX9_share, 3, (some .int), 9, 3, false),
  (yX9_recorded, cX9_recorded, 2, (some .int), 9, 2, false),
  (yX9_carryOutAct, cX9_carryOutAct, 1, (some .int), 9, 1, false),
  (yX9_isSave, cX9_isSave, 1, (some .boolean), 9, 1, true),
  (yX9_isSlot, cX9_isSlot, 1, (some .boolean), 9, 1, true),
  (yX9_isName, cX9_isName, 1, (some .boolean), 9, 1, true),
  (yX9_isFlow, cX9_isFlow, 1, (some .boolean), 9, 1, true),
  (yX9_isPlaceOfSlot, cX9_isPlaceOfSlot, 1, (some .boolean), 9, 1, true),
  (yX9_isBlock, cX9_isBlock, 2, (some .boolean), 9, 2, true),
  (yX10_init, cX10_init, 1, none, 10, 1, false),
  (yX10_isIn, cX10_isIn, 3, (some .boolean), 10, 3, true),
  (yX10_isServer, cX10_isServer, 2, (some .boolean), 10, 2, false),
  (yX10_isSite, cX10_isSite, 2, (some .boolean), 10, 2, false),
  (yX10_isRouter, cX10_isRouter, 2, (some .boolean), 10, 2, false),
  (yX10_isName, cX10_isName, 1, (some .boolean), 10, 1, true),
  (yX10_siteAt, cX10_siteAt, 1, (some .int), 10, 1, true),
  (yX10_routerAt, cX10_routerAt, 1, (some .int), 10, 1, true),
  (yX10_mapAt, cX10_mapAt, 2, (some .int), 10, 2, true),
  (yX10_keeps, cX10_keeps, 3, none, 10, 2, false),
  (yX10_brings, cX10_brings, 3, none, 10, 2, false),
  (yX10_records, cX10_records, 2, none, 10, 1, false),
  (yX10_undo, cX10_undo, 1, (some .int), 10, 1, false),
  (yX10_save, cX10_save, 2, (some .int), 10, 2, false),
  (yX10_restore, cX10_restore, 2, (some .int), 10, 2, false),
  (yX10_isBlock, cX10_isBlock, 3, (some .boolean), 10, 2, true),
  (yX10_firstOf, cX10_firstOf, 2, (some .int), 10, 2, false),
  (yX10_sizeOf, cX10_sizeOf, 2, (some .int), 10, 2, false),
  (yX10_holds, cX10_holds, 4, (some .boolean), 10, 4, false),
  (yX10_homeOf, cX10_homeOf, 5, (some .int), 10, 3, false),
  (yX10_wayTo, cX10_wayTo, 4, (some .int), 10, 2, false),
  (yX10_way, cX10_way, 4, (some .int), 10, 3, false),
  (yX10_addServer, cX10_addServer, 6, (some .int), 10, 4, false),
  (yX10_ofSite, cX10_ofSite, 3, (some .int), 10, 3, false),
  (yX10_has, cX10_has, 3, (some .boolean), 10, 3, false),
  (yX10_homeOfSite, cX10_homeOfSite, 2, (some .int), 10, 2, false),
  (yX10_isRegistered, cX10_isRegistered, 2, (some .boolean), 10, 2, false),
  (yX10_isUp, cX10_isUp, 4, (some .boolean), 10, 2, false),
  (yX10_answerOf, cX10_answerOf, 6, (some .int), 10, 2, false),
  (yX10_answer, cX10_answer, 2, (some .int), 10, 2, false),
  (yX10_addSite, cX10_addSite, 6, (some .int), 10, 4, false),
  (yX10_addRouter, cX10_addRouter, 2, (some .int), 10, 1, false),
  (yX10_setSlot, cX10_setSlot, 7, (some .int), 10, 6, false),
  (yX10_emptySlot, cX10_emptySlot, 4, (some .int), 10, 3, false),
  (yX10_registers, cX10_registers, 2, (some .int), 10, 2, false),
  (yX10_register, cX10_register, 2, (some .int), 10, 2, false),
  (yX10_unregisterError, cX10_unregisterError, 2, (some .int), 10, 2, false),
  (yX10_unregisters, cX10_unregisters, 3, (some .int), 10, 2, false),
  (yX10_unregister, cX10_unregister, 3, (some .int), 10, 2, false),
  (yX10_setMapLife, cX10_setMapLife, 3, (some .int), 10, 2, false),
  (yX10_mapsOf, cX10_mapsOf, 2, (some .int), 10, 2, false),
  (yX10_ofMap, cX10_ofMap, 4, (some .int), 10, 4, false),
  (yX10_drops, cX10_drops, 4, none, 10, 3, false),
  (yX10_makesRoom, cX10_makesRoom, 4, none, 10, 3, false),
  (yX10_uses, cX10_uses, 6, none, 10, 3, false),
  (yX10_asks, cX10_asks, 6, (some .boolean), 10, 3, false),
  (yX10_chosen, cX10_chosen, 8, (some .int), 10, 3, false),
  (yX10_isAt, cX10_isAt, 6, (some .boolean), 10, 3, false),
  (yX10_takes, cX10_takes, 7, (some .int), 10, 3, false),
  (yX10_proxy, cX10_proxy, 3, (some .int), 10, 3, false),
  (yX10_sends, cX10_sends, 7, (some .int), 10, 4, false),
  (yX10_isLetter, cX10_isLetter, 2, (some .boolean), 10, 2, true),
  (yX10_send, cX10_send, 4, (some .int), 10, 4, false),
  (yX10_pass, cX10_pass, 2, (some .int), 10, 2, false),
  (yX10_forget, cX10_forget, 3, (some .int), 10, 2, false),
  (yX10_append, cX10_append, 2, (some .int), 10, 2, false),
  (yX10_clearText, cX10_clearText, 2, (some .int), 10, 1, false),
  (yX10_passesSign, cX10_passesSign, 3, (some .boolean), 10, 2, false),
  (yX10_isDigitHere, cX10_isDigitHere, 1, (some .boolean), 10, 1, false),
  (yX10_passesNumber, cX10_passesNumber, 6, (some .boolean), 10, 3, false),
  (yX10_passesLetter, cX10_passesLetter, 1, (some .boolean), 10, 1, false),
  (yX10_passesAct, cX10_passesAct, 2, (some .boolean), 10, 1, false),
  (yX10_faultOf, cX10_faultOf, 1, (some .int), 10, 1, false),
  (yX10_faultPosition, cX10_faultPosition, 1, (some .int), 10, 1, false),
  (yX10_does, cX10_does, 2, (some .boolean), 10, 1, false),
  (yX10_run, cX10_run, 3, (some .int), 10, 1, false),
  (yX10_children, cX10_children, 4, (some .int), 10, 2, false),
  (yX10_sitesOf, cX10_sitesOf, 4, (some .int), 10, 2, false),
  (yX10_server, cX10_server, 3, (some .int), 10, 3, false),
  (yX10_copiesOf, cX10_copiesOf, 5, (some .int), 10, 2, false),
  (yX10_site, cX10_site, 3, (some .int), 10, 3, false),
  (yX10_slot, cX10_slot, 5, (some .int), 10, 4, false),
  (yX10_router, cX10_router, 3, (some .int), 10, 3, false),
  (yX10_map, cX10_map, 4, (some .int), 10, 4, false),
  (yX10_isAhead, cX10_isAhead, 5, (some .boolean), 10, 3, false),
  (yX10_endingNext, cX10_endingNext, 5, (some .int), 10, 2, false),
  (yX10_upMany, cX10_upMany, 3, (some .int), 10, 1, false),
  (yX10_sumOf, cX10_sumOf, 4, (some .int), 10, 2, false),
  (yX10_answered, cX10_answered, 3, (some .int), 10, 1, false),
  (yX10_total, cX10_total, 2, (some .int), 10, 2, false),
  (yX10_wouldReach, cX10_wouldReach, 6, (some .int), 10, 5, false),
  (yX10_wouldAsk, cX10_wouldAsk, 6, (some .int), 10, 4, false),
  (yX10_share, cX10_share, 5, (some .int), 10, 3, false),
  (yJ6_bitCount_0f7a4, cJ6_bitCount_0f7a4, 1, (some .int), 25, 1, true),
  (yJ9_floorMod_7cf53, cJ9_floorMod_7cf53, 3, (some .int), 26, 2, true),
  (yL_law, cL_law, 4, (some .boolean), 24, 1, true)]
def mRow (m : Nat) : MRow := mTab.getD m (⟨"", "", ""⟩, code, 0, none, 0, 0, false)
def codT (m : Nat) : List Ent := allCo.getD m []
def retT (m : Nat) : Nat := allRet.getD m 9
/-- links of fields: the class that holds the link, its entry, the class and the field -/
def flT : List (Nat × Nat × Nat × Nat) := [(1, 7, 1, 0), (8, 226, 1, 0), (1, 13, 1, 1), (8, 79, 1, 1), (4, 64, 1, 1), (5, 12, 5, 0), (8, 37, 5, 0), (5, 18, 5, 1), (8, 82, 5, 1), (7, 11, 7, 0), (6, 12, 6, 0), (2, 25, 6, 0), (8, 88, 6, 0), (6, 21, 6, 1), (2, 32, 6, 1), (8, 107, 6, 1), (9, 141, 6, 1), (6, 29, 6, 2), (8, 123, 6, 2), (6, 33, 6, 3), (2, 40, 6, 3), (8, 117, 6, 3), (6, 36, 6, 4), (8, 126, 6, 4), (2, 12, 2, 0), (4, 55, 2, 0), (2, 21, 2, 1), (8, 189, 2, 1), (2, 36, 2, 2), (4, 52, 2, 2), (8, 193, 2, 2), (2, 43, 2, 3), (8, 202, 2, 3), (2, 44, 2, 4), (2, 47, 2, 5), (8, 162, 2, 5), (4, 11, 4, 0), (8, 158, 4, 0), (9, 167, 4, 0), (4, 18, 4, 1), (8, 135, 4, 1), (4, 22, 4, 2), (8, 203, 4, 2), (9, 193, 4, 2), (4, 25, 4, 3), (8, 206, 4, 3), (4, 28, 4, 4), (8, 144, 4, 4), (4, 31, 4, 5), (8, 223, 4, 5), (4, 34, 4, 6), (8, 186, 4, 6), (8, 11, 8, 0), (8, 19, 8, 1), (9, 137, 8, 1), (8, 25, 8, 2), (9, 155, 8, 2), (8, 29, 8, 3), (8, 53, 8, 4), (8, 59, 8, 5), (8, 65, 8, 6), (9, 119, 8, 6), (8, 33, 8, 7), (3, 13, 3, 0), (3, 18, 3, 1), (3, 28, 3, 2), (9, 106, 3, 2), (0, 9, 0, 0), (0, 19, 0, 1), (9, 89, 0, 1), (0, 22, 0, 2), (0, 15, 0, 3), (0, 36, 0, 4), (9, 205, 0, 4), (0, 46, 0, 5), (9, 208, 0, 5), (0, 53, 0, 6), (9, 211, 0, 6), (0, 56, 0, 7), (9, 214, 0, 7), (9, 10, 9, 0), (9, 16, 9, 1), (9, 22, 9, 2), (9, 26, 9, 3), (9, 30, 9, 4), (9, 37, 9, 5), (10, 7, 10, 0), (10, 13, 10, 1), (10, 16, 10, 2), (10, 26, 10, 3), (10, 19, 10, 4), (10, 148, 10, 5), (10, 151, 10, 6), (10, 158, 10, 7), (10, 176, 10, 8), (10, 164, 10, 9), (10, 170, 10, 10), (10, 173, 10, 11)]
def tOf (c : Nat) : u_T := (vwCl.getD c ("", TX0, 0)).2.1
def flOk (q : Nat × Nat × Nat × Nat) : Prop := inT (.fieldLink (cnm q.1) q.2.1 (cnm q.2.2.1) (tOf q.2.2.1 q.2.2.2).2.1 (tOf q.2.2.1 q.2.2.2).2.2.1)
theorem fl_0 : flOk (1, 7, 1, 0) := inT_at 109 (by decide +kernel)
theorem fl_1 : flOk (8, 226, 1, 0) := inT_at 110 (by decide +kernel)
theorem fl_2 : flOk (1, 13, 1, 1) := inT_at 111 (by decide +kernel)
theorem fl_3 : flOk (8, 79, 1, 1) := inT_at 112 (by decide +kernel)
theorem fl_4 : flOk (4, 64, 1, 1) := inT_at 113 (by decide +kernel)
theorem fl_5 : flOk (5, 12, 5, 0) := inT_at 119 (by decide +kernel)
theorem fl_6 : flOk (8, 37, 5, 0) := inT_at 120 (by decide +kernel)
theorem fl_7 : flOk (5, 18, 5, 1) := inT_at 121 (by decide +kernel)
theorem fl_8 : flOk (8, 82, 5, 1) := inT_at 122 (by decide +kernel)
theorem fl_9 : flOk (7, 11, 7, 0) := inT_at 145 (by decide +kernel)
theorem fl_10 : flOk (6, 12, 6, 0) := inT_at 150 (by decide +kernel)
theorem fl_11 : flOk (2, 25, 6, 0) := inT_at 151 (by decide +kernel)
theorem fl_12 : flOk (8, 88, 6, 0) := inT_at 152 (by decide +kernel)
theorem fl_13 : flOk (6, 21, 6, 1) := inT_at 153 (by decide +kernel)
theorem fl_14 : flOk (2, 32, 6, 1) := inT_at 154 (by decide +kernel)
theorem fl_15 : flOk (8, 107, 6, 1) := inT_at 155 (by decide +kernel)
theorem fl_16 : flOk (9, 141, 6, 1) := inT_at 156 (by decide +kernel)
theorem fl_17 : flOk (6, 29, 6, 2) := inT_at 157 (by decide +kernel)
theorem fl_18 : flOk (8, 123, 6, 2) := inT_at 158 (by decide +kernel)
theorem fl_19 : flOk (6, 33, 6, 3) := inT_at 159 (by decide +kernel)
theorem fl_20 : flOk (2, 40, 6, 3) := inT_at 160 (by decide +kernel)
theorem fl_21 : flOk (8, 117, 6, 3) := inT_at 161 (by decide +kernel)
theorem fl_22 : flOk (6, 36, 6, 4) := inT_at 162 (by decide +kernel)
theorem fl_23 : flOk (8, 126, 6, 4) := inT_at 163 (by decide +kernel)
theorem fl_24 : flOk (2, 12, 2, 0) := inT_at 191 (by decide +kernel)
theorem fl_25 : flOk (4, 55, 2, 0) := inT_at 192 (by decide +kernel)
theorem fl_26 : flOk (2, 21, 2, 1) := inT_at 193 (by decide +kernel)
theorem fl_27 : flOk (8, 189, 2, 1) := inT_at 194 (by decide +kernel)
theorem fl_28 : flOk (2, 36, 2, 2) := inT_at 195 (by decide +kernel)
theorem fl_29 : flOk (4, 52, 2, 2) := inT_at 196 (by decide +kernel)
theorem fl_30 : flOk (8, 193, 2, 2) := inT_at 197 (by decide +kernel)
theorem fl_31 : flOk (2, 43, 2, 3) := inT_at 198 (by decide +kernel)
theorem fl_32 : flOk (8, 202, 2, 3) := inT_at 199 (by decide +kernel)
theorem fl_33 : flOk (2, 44, 2, 4) := inT_at 200 (by decide +kernel)
theorem fl_34 : flOk (2, 47, 2, 5) := inT_at 201 (by decide +kernel)
theorem fl_35 : flOk (8, 162, 2, 5) := inT_at 202 (by decide +kernel)
theorem fl_36 : flOk (4, 11, 4, 0) := inT_at 216 (by decide +kernel)
theorem fl_37 : flOk (8, 158, 4, 0) := inT_at 217 (by decide +kernel)
theorem fl_38 : flOk (9, 167, 4, 0) := inT_at 218 (by decide +kernel)
theorem fl_39 : flOk (4, 18, 4, 1) := inT_at 219 (by decide +kernel)
theorem fl_40 : flOk (8, 135, 4, 1) := inT_at 220 (by decide +kernel)
theorem fl_41 : flOk (4, 22, 4, 2) := inT_at 221 (by decide +kernel)
theorem fl_42 : flOk (8, 203, 4, 2) := inT_at 222 (by decide +kernel)
theorem fl_43 : flOk (9, 193, 4, 2) := inT_at 223 (by decide +kernel)
theorem fl_44 : flOk (4, 25, 4, 3) := inT_at 224 (by decide +kernel)
theorem fl_45 : flOk (8, 206, 4, 3) := inT_at 225 (by decide +kernel)
theorem fl_46 : flOk (4, 28, 4, 4) := inT_at 226 (by decide +kernel)
theorem fl_47 : flOk (8, 144, 4, 4) := inT_at 227 (by decide +kernel)
theorem fl_48 : flOk (4, 31, 4, 5) := inT_at 228 (by decide +kernel)
theorem fl_49 : flOk (8, 223, 4, 5) := inT_at 229 (by decide +kernel)
theorem fl_50 : flOk (4, 34, 4, 6) := inT_at 230 (by decide +kernel)
theorem fl_51 : flOk (8, 186, 4, 6) := inT_at 231 (by decide +kernel)
theorem fl_52 : flOk (8, 11, 8, 0) := inT_at 247 (by decide +kernel)
theorem fl_53 : flOk (8, 19, 8, 1) := inT_at 248 (by decide +kernel)
theorem fl_54 : flOk (9, 137, 8, 1) := inT_at 249 (by decide +kernel)
theorem fl_55 : flOk (8, 25, 8, 2) := inT_at 250 (by decide +kernel)
theorem fl_56 : flOk (9, 155, 8, 2) := inT_at 251 (by decide +kernel)
theorem fl_57 : flOk (8, 29, 8, 3) := inT_at 252 (by decide +kernel)
theorem fl_58 : flOk (8, 53, 8, 4) := inT_at 253 (by decide +kernel)
theorem fl_59 : flOk (8, 59, 8, 5) := inT_at 254 (by decide +kernel)
theorem fl_60 : flOk (8, 65, 8, 6) := inT_at 255 (by decide +kernel)
theorem fl_61 : flOk (9, 119, 8, 6) := inT_at 256 (by decide +kernel)
theorem fl_62 : flOk (8, 33, 8, 7) := inT_at 257 (by decide +kernel)
theorem fl_63 : flOk (3, 13, 3, 0) := inT_at 284 (by decide +kernel)
theorem fl_64 : flOk (3, 18, 3, 1) := inT_at 285 (by decide +kernel)
theorem fl_65 : flOk (3, 28, 3, 2) := inT_at 286 (by decide +kernel)
theorem fl_66 : flOk (9, 106, 3, 2) := inT_at 287 (by decide +kernel)
theorem fl_67 : flOk (0, 9, 0, 0) := inT_at 301 (by decide +kernel)
theorem fl_68 : flOk (0, 19, 0, 1) := inT_at 302 (by decide +kernel)
theorem fl_69 : flOk (9, 89, 0, 1) := inT_at 303 (by decide +kernel)
theorem fl_70 : flOk (0, 22, 0, 2) := inT_at 304 (by decide +kernel)
theorem fl_71 : flOk (0, 15, 0, 3) := inT_at 305 (by decide +kernel)
theorem fl_72 : flOk (0, 36, 0, 4) := inT_at 306 (by decide +kernel)
theorem fl_73 : flOk (9, 205, 0, 4) := inT_at 307 (by decide +kernel)
theorem fl_74 : flOk (0, 46, 0, 5) := inT_at 308 (by decide +kernel)
theorem fl_75 : flOk (9, 208, 0, 5) := inT_at 309 (by decide +kernel)
theorem fl_76 : flOk (0, 53, 0, 6) := inT_at 310 (by decide +kernel)
theorem fl_77 : flOk (9, 211, 0, 6) := inT_at 311 (by decide +kernel)
theorem fl_78 : flOk (0, 56, 0, 7) := inT_at 312 (by decide +kernel)
theorem fl_79 : flOk (9, 214, 0, 7) := inT_at 313 (by decide +kernel)
theorem fl_80 : flOk (9, 10, 9, 0) := inT_at 333 (by decide +kernel)
theorem fl_81 : flOk (9, 16, 9, 1) := inT_at 334 (by decide +kernel)
theorem fl_82 : flOk (9, 22, 9, 2) := inT_at 335 (by decide +kernel)
theorem fl_83 : flOk (9, 26, 9, 3) := inT_at 336 (by decide +kernel)
theorem fl_84 : flOk (9, 30, 9, 4) := inT_at 337 (by decide +kernel)
theorem fl_85 : flOk (9, 37, 9, 5) := inT_at 338 (by decide +kernel)
theorem fl_86 : flOk (10, 7, 10, 0) := inT_at 865 (by decide +kernel)
theorem fl_87 : flOk (10, 13, 10, 1) := inT_at 866 (by decide +kernel)
theorem fl_88 : flOk (10, 16, 10, 2) := inT_at 867 (by decide +kernel)
theorem fl_89 : flOk (10, 26, 10, 3) := inT_at 868 (by decide +kernel)
theorem fl_90 : flOk (10, 19, 10, 4) := inT_at 869 (by decide +kernel)
theorem fl_91 : flOk (10, 148, 10, 5) := inT_at 870 (by decide +kernel)
theorem fl_92 : flOk (10, 151, 10, 6) := inT_at 871 (by decide +kernel)
theorem fl_93 : flOk (10, 158, 10, 7) := inT_at 872 (by decide +kernel)
theorem fl_94 : flOk (10, 176, 10, 8) := inT_at 873 (by decide +kernel)
theorem fl_95 : flOk (10, 164, 10, 9) := inT_at 874 (by decide +kernel)
theorem fl_96 : flOk (10, 170, 10, 10) := inT_at 875 (by decide +kernel)
theorem fl_97 : flOk (10, 173, 10, 11) := inT_at 876 (by decide +kernel)
set_option maxRecDepth 100000 in
theorem flT_ok : ∀ q ∈ flT, flOk q := List.forall_mem_cons.mpr ⟨fl_0, List.forall_mem_cons.mpr ⟨fl_1, List.forall_mem_cons.mpr ⟨fl_2, List.forall_mem_cons.mpr ⟨fl_3, List.forall_mem_cons.mpr ⟨fl_4, List.forall_mem_cons.mpr ⟨fl_5, List.forall_mem_cons.mpr ⟨fl_6, List.forall_mem_cons.mpr ⟨fl_7, List.forall_mem_cons.mpr ⟨fl_8, List.forall_mem_cons.mpr ⟨fl_9, List.forall_mem_cons.mpr ⟨fl_10, List.forall_mem_cons.mpr ⟨fl_11, List.forall_mem_cons.mpr ⟨fl_12, List.forall_mem_cons.mpr ⟨fl_13, List.forall_mem_cons.mpr ⟨fl_14, List.forall_mem_cons.mpr ⟨fl_15, List.forall_mem_cons.mpr ⟨fl_16, List.forall_mem_cons.mpr ⟨fl_17, List.forall_mem_cons.mpr ⟨fl_18, List.forall_mem_cons.mpr ⟨fl_19, List.forall_mem_cons.mpr ⟨fl_20, List.forall_mem_cons.mpr ⟨fl_21, List.forall_mem_cons.mpr ⟨fl_22, List.forall_mem_cons.mpr ⟨fl_23, List.forall_mem_cons.mpr ⟨fl_24, List.forall_mem_cons.mpr ⟨fl_25, List.forall_mem_cons.mpr ⟨fl_26, List.forall_mem_cons.mpr ⟨fl_27, List.forall_mem_cons.mpr ⟨fl_28, List.forall_mem_cons.mpr ⟨fl_29, List.forall_mem_cons.mpr ⟨fl_30, List.forall_mem_cons.mpr ⟨fl_31, List.forall_mem_cons.mpr ⟨fl_32, List.forall_mem_cons.mpr ⟨fl_33, List.forall_mem_cons.mpr ⟨fl_34, List.forall_mem_cons.mpr ⟨fl_35, List.forall_mem_cons.mpr ⟨fl_36, List.forall_mem_cons.mpr ⟨fl_37, List.forall_mem_cons.mpr ⟨fl_38, List.forall_mem_cons.mpr ⟨fl_39, List.forall_mem_cons.mpr ⟨fl_40, List.forall_mem_cons.mpr ⟨fl_41, List.forall_mem_cons.mpr ⟨fl_42, List.forall_mem_cons.mpr ⟨fl_43, List.forall_mem_cons.mpr ⟨fl_44, List.forall_mem_cons.mpr ⟨fl_45, List.forall_mem_cons.mpr ⟨fl_46, List.forall_mem_cons.mpr ⟨fl_47, List.forall_mem_cons.mpr ⟨fl_48, List.forall_mem_cons.mpr ⟨fl_49, List.forall_mem_cons.mpr ⟨fl_50, List.forall_mem_cons.mpr ⟨fl_51, List.forall_mem_cons.mpr ⟨fl_52, List.forall_mem_cons.mpr ⟨fl_53, List.forall_mem_cons.mpr ⟨fl_54, List.forall_mem_cons.mpr ⟨fl_55, List.forall_mem_cons.mpr ⟨fl_56, List.forall_mem_cons.mpr ⟨fl_57, List.forall_mem_cons.mpr ⟨fl_58, List.forall_mem_cons.mpr ⟨fl_59, List.forall_mem_cons.mpr ⟨fl_60, List.forall_mem_cons.mpr ⟨fl_61, List.forall_mem_cons.mpr ⟨fl_62, List.forall_mem_cons.mpr ⟨fl_63, List.forall_mem_cons.mpr ⟨fl_64, List.forall_mem_cons.mpr ⟨fl_65, List.forall_mem_cons.mpr ⟨fl_66, List.forall_mem_cons.mpr ⟨fl_67, List.forall_mem_cons.mpr ⟨fl_68, List.forall_mem_cons.mpr ⟨fl_69, List.forall_mem_cons.mpr ⟨fl_70, List.forall_mem_cons.mpr ⟨fl_71, List.forall_mem_cons.mpr ⟨fl_72, List.forall_mem_cons.mpr ⟨fl_73, List.forall_mem_cons.mpr ⟨fl_74, List.forall_mem_cons.mpr ⟨fl_75, List.forall_mem_cons.mpr ⟨fl_76, List.forall_mem_cons.mpr ⟨fl_77, List.forall_mem_cons.mpr ⟨fl_78, List.forall_mem_cons.mpr ⟨fl_79, List.forall_mem_cons.mpr ⟨fl_80, List.forall_mem_cons.mpr ⟨fl_81, List.forall_mem_cons.mpr ⟨fl_82, List.forall_mem_cons.mpr ⟨fl_83, List.forall_mem_cons.mpr ⟨fl_84, List.forall_mem_cons.mpr ⟨fl_85, List.forall_mem_cons.mpr ⟨fl_86, List.forall_mem_cons.mpr ⟨fl_87, List.forall_mem_cons.mpr ⟨fl_88, List.forall_mem_cons.mpr ⟨fl_89, List.forall_mem_cons.mpr ⟨fl_90, List.forall_mem_cons.mpr ⟨fl_91, List.forall_mem_cons.mpr ⟨fl_92, List.forall_mem_cons.mpr ⟨fl_93, List.forall_mem_cons.mpr ⟨fl_94, List.forall_mem_cons.mpr ⟨fl_95, List.forall_mem_cons.mpr ⟨fl_96, List.forall_mem_cons.mpr ⟨fl_97, fun _ h => absurd h List.not_mem_nil⟩⟩⟩⟩⟩⟩⟩⟩⟩⟩⟩⟩⟩⟩⟩⟩⟩⟩⟩⟩⟩⟩⟩⟩⟩⟩⟩⟩⟩⟩⟩⟩⟩⟩⟩⟩⟩⟩⟩⟩⟩⟩⟩⟩⟩⟩⟩⟩⟩⟩⟩⟩⟩⟩⟩⟩⟩⟩⟩⟩⟩⟩⟩⟩⟩⟩⟩⟩⟩⟩⟩⟩⟩⟩⟩⟩⟩⟩⟩⟩⟩⟩⟩⟩⟩⟩⟩⟩⟩⟩⟩⟩⟩⟩⟩⟩⟩⟩
def mhOk (r : MRow) : Prop := (r.1.cls ≠ "java/lang/invoke/MethodHandle" ∧ r.1.cls ≠ "java/lang/invoke/VarHandle") ∧ (parseMethodDescriptor r.1.desc).map (fun d => d.parameters.length) = some (r.2.2.2.2.2.1 - if r.2.2.2.2.2.2 = true then 0 else 1) ∧ plainFor r.1 = true ∧ cnm r.2.2.2.2.1 = r.1.cls ∧ r.2.2.1 ≤ 19 ∧ (r.2.2.2.2.2.2 = false → 0 < r.2.2.2.2.2.1)
theorem mh_all : ∀ r ∈ mTab, mhOk r := by unfold mhOk; decide +kernel
def mwOk (r : MRow) : Prop := inT (.code r.1 r.2.1 r.2.2.1 r.2.2.2.1) ∧ inT (.initialized r.1.cls) ∧ (if r.2.2.2.2.2.2 = true then inT (.static r.1) else inT (.instanceMethod r.1) ∧ (r.1.name = "<init>" ∨ inT (.selects r.1.cls r.1 r.1)))
theorem mw_X0_init : mwOk (mRow m_X0_init) := ⟨inT_at 299 (by decide +kernel), inT_at 74 (by decide +kernel), ⟨inT_at 298 (by decide +kernel), Or.inl rfl⟩⟩
theorem mw_X0_add : mwOk (mRow m_X0_add) := ⟨inT_at 664 (by decide +kernel), inT_at 74 (by decide +kernel), ⟨inT_at 662 (by decide +kernel), Or.inr (inT_at 663 (by decide +kernel))⟩⟩
theorem mw_X0_rewind : mwOk (mRow m_X0_rewind) := ⟨inT_at 680 (by decide +kernel), inT_at 74 (by decide +kernel), ⟨inT_at 678 (by decide +kernel), Or.inr (inT_at 679 (by decide +kernel))⟩⟩
theorem mw_X0_findFault : mwOk (mRow m_X0_findFault) := ⟨inT_at 676 (by decide +kernel), inT_at 74 (by decide +kernel), ⟨inT_at 674 (by decide +kernel), Or.inr (inT_at 675 (by decide +kernel))⟩⟩
theorem mw_X0_readAct : mwOk (mRow m_X0_readAct) := ⟨inT_at 684 (by decide +kernel), inT_at 74 (by decide +kernel), ⟨inT_at 682 (by decide +kernel), Or.inr (inT_at 683 (by decide +kernel))⟩⟩
theorem mw_X0_readSending : mwOk (mRow m_X0_readSending) := ⟨inT_at 692 (by decide +kernel), inT_at 74 (by decide +kernel), ⟨inT_at 691 (by decide +kernel), Or.inr (inT_at 8 (by decide +kernel))⟩⟩
theorem mw_X0_readSign : mwOk (mRow m_X0_readSign) := ⟨inT_at 696 (by decide +kernel), inT_at 74 (by decide +kernel), ⟨inT_at 695 (by decide +kernel), Or.inr (inT_at 9 (by decide +kernel))⟩⟩
theorem mw_X0_readNumber : mwOk (mRow m_X0_readNumber) := ⟨inT_at 700 (by decide +kernel), inT_at 74 (by decide +kernel), ⟨inT_at 699 (by decide +kernel), Or.inr (inT_at 10 (by decide +kernel))⟩⟩
theorem mw_X0_byteHere : mwOk (mRow m_X0_byteHere) := ⟨inT_at 688 (by decide +kernel), inT_at 74 (by decide +kernel), ⟨inT_at 687 (by decide +kernel), Or.inr (inT_at 7 (by decide +kernel))⟩⟩
theorem mw_X0_isDigit : mwOk (mRow m_X0_isDigit) := ⟨inT_at 703 (by decide +kernel), inT_at 74 (by decide +kernel), inT_at 702 (by decide +kernel)⟩
theorem mw_X1_init : mwOk (mRow m_X1_init) := ⟨inT_at 107 (by decide +kernel), inT_at 68 (by decide +kernel), ⟨inT_at 106 (by decide +kernel), Or.inl rfl⟩⟩
theorem mw_X1_become : mwOk (mRow m_X1_become) := ⟨inT_at 131 (by decide +kernel), inT_at 68 (by decide +kernel), ⟨inT_at 129 (by decide +kernel), Or.inr (inT_at 130 (by decide +kernel))⟩⟩
theorem mw_X1_copyFrom : mwOk (mRow m_X1_copyFrom) := ⟨inT_at 378 (by decide +kernel), inT_at 68 (by decide +kernel), ⟨inT_at 376 (by decide +kernel), Or.inr (inT_at 377 (by decide +kernel))⟩⟩
theorem mw_X1_isAt : mwOk (mRow m_X1_isAt) := ⟨inT_at 445 (by decide +kernel), inT_at 68 (by decide +kernel), ⟨inT_at 443 (by decide +kernel), Or.inr (inT_at 444 (by decide +kernel))⟩⟩
theorem mw_X1_has : mwOk (mRow m_X1_has) := ⟨inT_at 566 (by decide +kernel), inT_at 68 (by decide +kernel), ⟨inT_at 564 (by decide +kernel), Or.inr (inT_at 565 (by decide +kernel))⟩⟩
theorem mw_X1_holds : mwOk (mRow m_X1_holds) := ⟨inT_at 421 (by decide +kernel), inT_at 68 (by decide +kernel), ⟨inT_at 419 (by decide +kernel), Or.inr (inT_at 420 (by decide +kernel))⟩⟩
theorem mw_X1_meets : mwOk (mRow m_X1_meets) := ⟨inT_at 425 (by decide +kernel), inT_at 68 (by decide +kernel), ⟨inT_at 423 (by decide +kernel), Or.inr (inT_at 424 (by decide +kernel))⟩⟩
theorem mw_X2_init : mwOk (mRow m_X2_init) := ⟨inT_at 185 (by decide +kernel), inT_at 72 (by decide +kernel), ⟨inT_at 184 (by decide +kernel), Or.inl rfl⟩⟩
theorem mw_X2_become : mwOk (mRow m_X2_become) := ⟨inT_at 610 (by decide +kernel), inT_at 72 (by decide +kernel), ⟨inT_at 608 (by decide +kernel), Or.inr (inT_at 609 (by decide +kernel))⟩⟩
theorem mw_X2_copyFrom : mwOk (mRow m_X2_copyFrom) := ⟨inT_at 395 (by decide +kernel), inT_at 72 (by decide +kernel), ⟨inT_at 393 (by decide +kernel), Or.inr (inT_at 394 (by decide +kernel))⟩⟩
theorem mw_X2_isHolding : mwOk (mRow m_X2_isHolding) := ⟨inT_at 554 (by decide +kernel), inT_at 72 (by decide +kernel), ⟨inT_at 552 (by decide +kernel), Or.inr (inT_at 553 (by decide +kernel))⟩⟩
theorem mw_X2_property : mwOk (mRow m_X2_property) := ⟨inT_at 795 (by decide +kernel), inT_at 72 (by decide +kernel), ⟨inT_at 793 (by decide +kernel), Or.inr (inT_at 794 (by decide +kernel))⟩⟩
theorem mw_X3_init : mwOk (mRow m_X3_init) := ⟨inT_at 279 (by decide +kernel), inT_at 73 (by decide +kernel), ⟨inT_at 278 (by decide +kernel), Or.inl rfl⟩⟩
theorem mw_X3_row : mwOk (mRow m_X3_row) := ⟨inT_at 363 (by decide +kernel), inT_at 73 (by decide +kernel), ⟨inT_at 362 (by decide +kernel), Or.inr (inT_at 0 (by decide +kernel))⟩⟩
theorem mw_X3_draft : mwOk (mRow m_X3_draft) := ⟨inT_at 359 (by decide +kernel), inT_at 73 (by decide +kernel), ⟨inT_at 357 (by decide +kernel), Or.inr (inT_at 358 (by decide +kernel))⟩⟩
theorem mw_X3_keepDraft : mwOk (mRow m_X3_keepDraft) := ⟨inT_at 433 (by decide +kernel), inT_at 73 (by decide +kernel), ⟨inT_at 431 (by decide +kernel), Or.inr (inT_at 432 (by decide +kernel))⟩⟩
theorem mw_X3_takeLatest : mwOk (mRow m_X3_takeLatest) := ⟨inT_at 721 (by decide +kernel), inT_at 73 (by decide +kernel), ⟨inT_at 719 (by decide +kernel), Or.inr (inT_at 720 (by decide +kernel))⟩⟩
theorem mw_X4_init : mwOk (mRow m_X4_init) := ⟨inT_at 178 (by decide +kernel), inT_at 71 (by decide +kernel), ⟨inT_at 177 (by decide +kernel), Or.inl rfl⟩⟩
theorem mw_X4_start : mwOk (mRow m_X4_start) := ⟨inT_at 469 (by decide +kernel), inT_at 71 (by decide +kernel), ⟨inT_at 467 (by decide +kernel), Or.inr (inT_at 468 (by decide +kernel))⟩⟩
theorem mw_X4_copyFrom : mwOk (mRow m_X4_copyFrom) := ⟨inT_at 391 (by decide +kernel), inT_at 71 (by decide +kernel), ⟨inT_at 389 (by decide +kernel), Or.inr (inT_at 390 (by decide +kernel))⟩⟩
theorem mw_X4_isPlace : mwOk (mRow m_X4_isPlace) := ⟨inT_at 550 (by decide +kernel), inT_at 71 (by decide +kernel), ⟨inT_at 548 (by decide +kernel), Or.inr (inT_at 549 (by decide +kernel))⟩⟩
theorem mw_X4_property : mwOk (mRow m_X4_property) := ⟨inT_at 786 (by decide +kernel), inT_at 71 (by decide +kernel), ⟨inT_at 784 (by decide +kernel), Or.inr (inT_at 785 (by decide +kernel))⟩⟩
theorem mw_X4_moveToFront : mwOk (mRow m_X4_moveToFront) := ⟨inT_at 572 (by decide +kernel), inT_at 71 (by decide +kernel), ⟨inT_at 570 (by decide +kernel), Or.inr (inT_at 571 (by decide +kernel))⟩⟩
theorem mw_X4_drop : mwOk (mRow m_X4_drop) := ⟨inT_at 558 (by decide +kernel), inT_at 71 (by decide +kernel), ⟨inT_at 556 (by decide +kernel), Or.inr (inT_at 557 (by decide +kernel))⟩⟩
theorem mw_X4_dropEnded : mwOk (mRow m_X4_dropEnded) := ⟨inT_at 546 (by decide +kernel), inT_at 71 (by decide +kernel), ⟨inT_at 544 (by decide +kernel), Or.inr (inT_at 545 (by decide +kernel))⟩⟩
theorem mw_X4_placeOfSite : mwOk (mRow m_X4_placeOfSite) := ⟨inT_at 606 (by decide +kernel), inT_at 71 (by decide +kernel), ⟨inT_at 604 (by decide +kernel), Or.inr (inT_at 605 (by decide +kernel))⟩⟩
theorem mw_X4_placeOfSmallest : mwOk (mRow m_X4_placeOfSmallest) := ⟨inT_at 562 (by decide +kernel), inT_at 71 (by decide +kernel), ⟨inT_at 560 (by decide +kernel), Or.inr (inT_at 561 (by decide +kernel))⟩⟩
theorem mw_X4_addMap : mwOk (mRow m_X4_addMap) := ⟨inT_at 602 (by decide +kernel), inT_at 71 (by decide +kernel), ⟨inT_at 600 (by decide +kernel), Or.inr (inT_at 601 (by decide +kernel))⟩⟩
theorem mw_X5_init : mwOk (mRow m_X5_init) := ⟨inT_at 101 (by decide +kernel), inT_at 67 (by decide +kernel), ⟨inT_at 100 (by decide +kernel), Or.inl rfl⟩⟩
theorem mw_X5_copyFrom : mwOk (mRow m_X5_copyFrom) := ⟨inT_at 374 (by decide +kernel), inT_at 67 (by decide +kernel), ⟨inT_at 372 (by decide +kernel), Or.inr (inT_at 373 (by decide +kernel))⟩⟩
theorem mw_X6_init : mwOk (mRow m_X6_init) := ⟨inT_at 135 (by decide +kernel), inT_at 69 (by decide +kernel), ⟨inT_at 134 (by decide +kernel), Or.inl rfl⟩⟩
theorem mw_X6_start : mwOk (mRow m_X6_start) := ⟨inT_at 449 (by decide +kernel), inT_at 69 (by decide +kernel), ⟨inT_at 447 (by decide +kernel), Or.inr (inT_at 448 (by decide +kernel))⟩⟩
theorem mw_X6_copyFrom : mwOk (mRow m_X6_copyFrom) := ⟨inT_at 382 (by decide +kernel), inT_at 69 (by decide +kernel), ⟨inT_at 380 (by decide +kernel), Or.inr (inT_at 381 (by decide +kernel))⟩⟩
theorem mw_X6_isRegistered : mwOk (mRow m_X6_isRegistered) := ⟨inT_at 518 (by decide +kernel), inT_at 69 (by decide +kernel), ⟨inT_at 516 (by decide +kernel), Or.inr (inT_at 517 (by decide +kernel))⟩⟩
theorem mw_X6_isUp : mwOk (mRow m_X6_isUp) := ⟨inT_at 593 (by decide +kernel), inT_at 69 (by decide +kernel), ⟨inT_at 591 (by decide +kernel), Or.inr (inT_at 592 (by decide +kernel))⟩⟩
theorem mw_X7_init : mwOk (mRow m_X7_init) := ⟨inT_at 143 (by decide +kernel), inT_at 70 (by decide +kernel), ⟨inT_at 142 (by decide +kernel), Or.inl rfl⟩⟩
theorem mw_X7_copyFrom : mwOk (mRow m_X7_copyFrom) := ⟨inT_at 387 (by decide +kernel), inT_at 70 (by decide +kernel), ⟨inT_at 385 (by decide +kernel), Or.inr (inT_at 386 (by decide +kernel))⟩⟩
theorem mw_X7_fill : mwOk (mRow m_X7_fill) := ⟨inT_at 454 (by decide +kernel), inT_at 70 (by decide +kernel), ⟨inT_at 452 (by decide +kernel), Or.inr (inT_at 453 (by decide +kernel))⟩⟩
theorem mw_X7_propertyOf : mwOk (mRow m_X7_propertyOf) := ⟨inT_at 777 (by decide +kernel), inT_at 70 (by decide +kernel), ⟨inT_at 775 (by decide +kernel), Or.inr (inT_at 776 (by decide +kernel))⟩⟩
theorem mw_X7_isEmpty : mwOk (mRow m_X7_isEmpty) := ⟨inT_at 498 (by decide +kernel), inT_at 70 (by decide +kernel), ⟨inT_at 496 (by decide +kernel), Or.inr (inT_at 497 (by decide +kernel))⟩⟩
theorem mw_X7_areEmpty : mwOk (mRow m_X7_areEmpty) := ⟨inT_at 598 (by decide +kernel), inT_at 70 (by decide +kernel), ⟨inT_at 596 (by decide +kernel), Or.inr (inT_at 597 (by decide +kernel))⟩⟩
theorem mw_X7_have : mwOk (mRow m_X7_have) := ⟨inT_at 640 (by decide +kernel), inT_at 70 (by decide +kernel), ⟨inT_at 638 (by decide +kernel), Or.inr (inT_at 639 (by decide +kernel))⟩⟩
theorem mw_X7_lowestPriority : mwOk (mRow m_X7_lowestPriority) := ⟨inT_at 628 (by decide +kernel), inT_at 70 (by decide +kernel), ⟨inT_at 627 (by decide +kernel), Or.inr (inT_at 5 (by decide +kernel))⟩⟩
theorem mw_X7_weightThatCounts : mwOk (mRow m_X7_weightThatCounts) := ⟨inT_at 636 (by decide +kernel), inT_at 70 (by decide +kernel), ⟨inT_at 635 (by decide +kernel), Or.inr (inT_at 6 (by decide +kernel))⟩⟩
theorem mw_X7_placeFor : mwOk (mRow m_X7_placeFor) := ⟨inT_at 624 (by decide +kernel), inT_at 70 (by decide +kernel), ⟨inT_at 622 (by decide +kernel), Or.inr (inT_at 623 (by decide +kernel))⟩⟩
theorem mw_X7_flowsTo : mwOk (mRow m_X7_flowsTo) := ⟨inT_at 857 (by decide +kernel), inT_at 70 (by decide +kernel), ⟨inT_at 855 (by decide +kernel), Or.inr (inT_at 856 (by decide +kernel))⟩⟩
theorem mw_X8_init : mwOk (mRow m_X8_init) := ⟨inT_at 90 (by decide +kernel), inT_at 66 (by decide +kernel), ⟨inT_at 89 (by decide +kernel), Or.inl rfl⟩⟩
theorem mw_X8_copyFrom : mwOk (mRow m_X8_copyFrom) := ⟨inT_at 370 (by decide +kernel), inT_at 66 (by decide +kernel), ⟨inT_at 368 (by decide +kernel), Or.inr (inT_at 369 (by decide +kernel))⟩⟩
theorem mw_X8_isServer : mwOk (mRow m_X8_isServer) := ⟨inT_at 405 (by decide +kernel), inT_at 66 (by decide +kernel), ⟨inT_at 403 (by decide +kernel), Or.inr (inT_at 404 (by decide +kernel))⟩⟩
theorem mw_X8_isSite : mwOk (mRow m_X8_isSite) := ⟨inT_at 481 (by decide +kernel), inT_at 66 (by decide +kernel), ⟨inT_at 479 (by decide +kernel), Or.inr (inT_at 480 (by decide +kernel))⟩⟩
theorem mw_X8_isRouter : mwOk (mRow m_X8_isRouter) := ⟨inT_at 538 (by decide +kernel), inT_at 66 (by decide +kernel), ⟨inT_at 536 (by decide +kernel), Or.inr (inT_at 537 (by decide +kernel))⟩⟩
theorem mw_X8_newServer : mwOk (mRow m_X8_newServer) := ⟨inT_at 401 (by decide +kernel), inT_at 66 (by decide +kernel), ⟨inT_at 399 (by decide +kernel), Or.inr (inT_at 400 (by decide +kernel))⟩⟩
theorem mw_X8_newSite : mwOk (mRow m_X8_newSite) := ⟨inT_at 441 (by decide +kernel), inT_at 66 (by decide +kernel), ⟨inT_at 439 (by decide +kernel), Or.inr (inT_at 440 (by decide +kernel))⟩⟩
theorem mw_X8_newRouter : mwOk (mRow m_X8_newRouter) := ⟨inT_at 465 (by decide +kernel), inT_at 66 (by decide +kernel), ⟨inT_at 463 (by decide +kernel), Or.inr (inT_at 464 (by decide +kernel))⟩⟩
theorem mw_X8_fillSlot : mwOk (mRow m_X8_fillSlot) := ⟨inT_at 477 (by decide +kernel), inT_at 66 (by decide +kernel), ⟨inT_at 475 (by decide +kernel), Or.inr (inT_at 476 (by decide +kernel))⟩⟩
theorem mw_X8_vacateSlot : mwOk (mRow m_X8_vacateSlot) := ⟨inT_at 494 (by decide +kernel), inT_at 66 (by decide +kernel), ⟨inT_at 492 (by decide +kernel), Or.inr (inT_at 493 (by decide +kernel))⟩⟩
theorem mw_X8_startRegistration : mwOk (mRow m_X8_startRegistration) := ⟨inT_at 506 (by decide +kernel), inT_at 66 (by decide +kernel), ⟨inT_at 504 (by decide +kernel), Or.inr (inT_at 505 (by decide +kernel))⟩⟩
theorem mw_X8_endRegistration : mwOk (mRow m_X8_endRegistration) := ⟨inT_at 514 (by decide +kernel), inT_at 66 (by decide +kernel), ⟨inT_at 512 (by decide +kernel), Or.inr (inT_at 513 (by decide +kernel))⟩⟩
theorem mw_X8_changeMapLife : mwOk (mRow m_X8_changeMapLife) := ⟨inT_at 526 (by decide +kernel), inT_at 66 (by decide +kernel), ⟨inT_at 524 (by decide +kernel), Or.inr (inT_at 525 (by decide +kernel))⟩⟩
theorem mw_X8_letPass : mwOk (mRow m_X8_letPass) := ⟨inT_at 648 (by decide +kernel), inT_at 66 (by decide +kernel), ⟨inT_at 646 (by decide +kernel), Or.inr (inT_at 647 (by decide +kernel))⟩⟩
theorem mw_X8_emptyCache : mwOk (mRow m_X8_emptyCache) := ⟨inT_at 656 (by decide +kernel), inT_at 66 (by decide +kernel), ⟨inT_at 654 (by decide +kernel), Or.inr (inT_at 655 (by decide +kernel))⟩⟩
theorem mw_X8_sendLetter : mwOk (mRow m_X8_sendLetter) := ⟨inT_at 534 (by decide +kernel), inT_at 66 (by decide +kernel), ⟨inT_at 532 (by decide +kernel), Or.inr (inT_at 533 (by decide +kernel))⟩⟩
theorem mw_X8_placeByMap : mwOk (mRow m_X8_placeByMap) := ⟨inT_at 620 (by decide +kernel), inT_at 66 (by decide +kernel), ⟨inT_at 619 (by decide +kernel), Or.inr (inT_at 4 (by decide +kernel))⟩⟩
theorem mw_X8_ask : mwOk (mRow m_X8_ask) := ⟨inT_at 576 (by decide +kernel), inT_at 66 (by decide +kernel), ⟨inT_at 575 (by decide +kernel), Or.inr (inT_at 2 (by decide +kernel))⟩⟩
theorem mw_X8_goByProxy : mwOk (mRow m_X8_goByProxy) := ⟨inT_at 616 (by decide +kernel), inT_at 66 (by decide +kernel), ⟨inT_at 615 (by decide +kernel), Or.inr (inT_at 3 (by decide +kernel))⟩⟩
theorem mw_X8_homeOf : mwOk (mRow m_X8_homeOf) := ⟨inT_at 580 (by decide +kernel), inT_at 66 (by decide +kernel), ⟨inT_at 578 (by decide +kernel), Or.inr (inT_at 579 (by decide +kernel))⟩⟩
theorem mw_X8_homeOfSite : mwOk (mRow m_X8_homeOfSite) := ⟨inT_at 754 (by decide +kernel), inT_at 66 (by decide +kernel), ⟨inT_at 752 (by decide +kernel), Or.inr (inT_at 753 (by decide +kernel))⟩⟩
theorem mw_X8_hopsTo : mwOk (mRow m_X8_hopsTo) := ⟨inT_at 584 (by decide +kernel), inT_at 66 (by decide +kernel), ⟨inT_at 582 (by decide +kernel), Or.inr (inT_at 583 (by decide +kernel))⟩⟩
theorem mw_X8_answerFor : mwOk (mRow m_X8_answerFor) := ⟨inT_at 588 (by decide +kernel), inT_at 66 (by decide +kernel), ⟨inT_at 586 (by decide +kernel), Or.inr (inT_at 587 (by decide +kernel))⟩⟩
theorem mw_X8_siteEndingAt : mwOk (mRow m_X8_siteEndingAt) := ⟨inT_at 815 (by decide +kernel), inT_at 66 (by decide +kernel), ⟨inT_at 813 (by decide +kernel), Or.inr (inT_at 814 (by decide +kernel))⟩⟩
theorem mw_X8_sitesEndingAheadOf : mwOk (mRow m_X8_sitesEndingAheadOf) := ⟨inT_at 819 (by decide +kernel), inT_at 66 (by decide +kernel), ⟨inT_at 818 (by decide +kernel), Or.inr (inT_at 15 (by decide +kernel))⟩⟩
theorem mw_X8_serverProperty : mwOk (mRow m_X8_serverProperty) := ⟨inT_at 742 (by decide +kernel), inT_at 66 (by decide +kernel), ⟨inT_at 740 (by decide +kernel), Or.inr (inT_at 741 (by decide +kernel))⟩⟩
theorem mw_X8_childrenOf : mwOk (mRow m_X8_childrenOf) := ⟨inT_at 746 (by decide +kernel), inT_at 66 (by decide +kernel), ⟨inT_at 745 (by decide +kernel), Or.inr (inT_at 12 (by decide +kernel))⟩⟩
theorem mw_X8_sitesAtHome : mwOk (mRow m_X8_sitesAtHome) := ⟨inT_at 750 (by decide +kernel), inT_at 66 (by decide +kernel), ⟨inT_at 749 (by decide +kernel), Or.inr (inT_at 13 (by decide +kernel))⟩⟩
theorem mw_X8_siteProperty : mwOk (mRow m_X8_siteProperty) := ⟨inT_at 763 (by decide +kernel), inT_at 66 (by decide +kernel), ⟨inT_at 761 (by decide +kernel), Or.inr (inT_at 762 (by decide +kernel))⟩⟩
theorem mw_X8_mapsOf : mwOk (mRow m_X8_mapsOf) := ⟨inT_at 767 (by decide +kernel), inT_at 66 (by decide +kernel), ⟨inT_at 766 (by decide +kernel), Or.inr (inT_at 14 (by decide +kernel))⟩⟩
theorem mw_X8_totalOf : mwOk (mRow m_X8_totalOf) := ⟨inT_at 827 (by decide +kernel), inT_at 66 (by decide +kernel), ⟨inT_at 825 (by decide +kernel), Or.inr (inT_at 826 (by decide +kernel))⟩⟩
theorem mw_X8_sitesUp : mwOk (mRow m_X8_sitesUp) := ⟨inT_at 831 (by decide +kernel), inT_at 66 (by decide +kernel), ⟨inT_at 830 (by decide +kernel), Or.inr (inT_at 16 (by decide +kernel))⟩⟩
theorem mw_X8_sumOverRouters : mwOk (mRow m_X8_sumOverRouters) := ⟨inT_at 835 (by decide +kernel), inT_at 66 (by decide +kernel), ⟨inT_at 834 (by decide +kernel), Or.inr (inT_at 17 (by decide +kernel))⟩⟩
theorem mw_X8_namesWithAnswer : mwOk (mRow m_X8_namesWithAnswer) := ⟨inT_at 840 (by decide +kernel), inT_at 66 (by decide +kernel), ⟨inT_at 839 (by decide +kernel), Or.inr (inT_at 18 (by decide +kernel))⟩⟩
theorem mw_X9_init : mwOk (mRow m_X9_init) := ⟨inT_at 82 (by decide +kernel), inT_at 65 (by decide +kernel), ⟨inT_at 81 (by decide +kernel), Or.inl rfl⟩⟩
theorem mw_X9_addServer : mwOk (mRow m_X9_addServer) := ⟨inT_at 355 (by decide +kernel), inT_at 65 (by decide +kernel), ⟨inT_at 353 (by decide +kernel), Or.inr (inT_at 354 (by decide +kernel))⟩⟩
theorem mw_X9_addSite : mwOk (mRow m_X9_addSite) := ⟨inT_at 437 (by decide +kernel), inT_at 65 (by decide +kernel), ⟨inT_at 435 (by decide +kernel), Or.inr (inT_at 436 (by decide +kernel))⟩⟩
theorem mw_X9_addRouter : mwOk (mRow m_X9_addRouter) := ⟨inT_at 461 (by decide +kernel), inT_at 65 (by decide +kernel), ⟨inT_at 459 (by decide +kernel), Or.inr (inT_at 460 (by decide +kernel))⟩⟩
theorem mw_X9_setSlot : mwOk (mRow m_X9_setSlot) := ⟨inT_at 473 (by decide +kernel), inT_at 65 (by decide +kernel), ⟨inT_at 471 (by decide +kernel), Or.inr (inT_at 472 (by decide +kernel))⟩⟩
theorem mw_X9_emptySlot : mwOk (mRow m_X9_emptySlot) := ⟨inT_at 490 (by decide +kernel), inT_at 65 (by decide +kernel), ⟨inT_at 488 (by decide +kernel), Or.inr (inT_at 489 (by decide +kernel))⟩⟩
theorem mw_X9_register : mwOk (mRow m_X9_register) := ⟨inT_at 502 (by decide +kernel), inT_at 65 (by decide +kernel), ⟨inT_at 500 (by decide +kernel), Or.inr (inT_at 501 (by decide +kernel))⟩⟩
theorem mw_X9_unregister : mwOk (mRow m_X9_unregister) := ⟨inT_at 510 (by decide +kernel), inT_at 65 (by decide +kernel), ⟨inT_at 508 (by decide +kernel), Or.inr (inT_at 509 (by decide +kernel))⟩⟩
theorem mw_X9_setMapLife : mwOk (mRow m_X9_setMapLife) := ⟨inT_at 522 (by decide +kernel), inT_at 65 (by decide +kernel), ⟨inT_at 520 (by decide +kernel), Or.inr (inT_at 521 (by decide +kernel))⟩⟩
theorem mw_X9_send : mwOk (mRow m_X9_send) := ⟨inT_at 530 (by decide +kernel), inT_at 65 (by decide +kernel), ⟨inT_at 528 (by decide +kernel), Or.inr (inT_at 529 (by decide +kernel))⟩⟩
theorem mw_X9_pass : mwOk (mRow m_X9_pass) := ⟨inT_at 644 (by decide +kernel), inT_at 65 (by decide +kernel), ⟨inT_at 642 (by decide +kernel), Or.inr (inT_at 643 (by decide +kernel))⟩⟩
theorem mw_X9_forget : mwOk (mRow m_X9_forget) := ⟨inT_at 652 (by decide +kernel), inT_at 65 (by decide +kernel), ⟨inT_at 650 (by decide +kernel), Or.inr (inT_at 651 (by decide +kernel))⟩⟩
theorem mw_X9_append : mwOk (mRow m_X9_append) := ⟨inT_at 660 (by decide +kernel), inT_at 65 (by decide +kernel), ⟨inT_at 658 (by decide +kernel), Or.inr (inT_at 659 (by decide +kernel))⟩⟩
theorem mw_X9_clearText : mwOk (mRow m_X9_clearText) := ⟨inT_at 668 (by decide +kernel), inT_at 65 (by decide +kernel), ⟨inT_at 666 (by decide +kernel), Or.inr (inT_at 667 (by decide +kernel))⟩⟩
theorem mw_X9_faultPosition : mwOk (mRow m_X9_faultPosition) := ⟨inT_at 672 (by decide +kernel), inT_at 65 (by decide +kernel), ⟨inT_at 670 (by decide +kernel), Or.inr (inT_at 671 (by decide +kernel))⟩⟩
theorem mw_X9_run : mwOk (mRow m_X9_run) := ⟨inT_at 707 (by decide +kernel), inT_at 65 (by decide +kernel), ⟨inT_at 705 (by decide +kernel), Or.inr (inT_at 706 (by decide +kernel))⟩⟩
theorem mw_X9_undo : mwOk (mRow m_X9_undo) := ⟨inT_at 717 (by decide +kernel), inT_at 65 (by decide +kernel), ⟨inT_at 715 (by decide +kernel), Or.inr (inT_at 716 (by decide +kernel))⟩⟩
theorem mw_X9_save : mwOk (mRow m_X9_save) := ⟨inT_at 725 (by decide +kernel), inT_at 65 (by decide +kernel), ⟨inT_at 723 (by decide +kernel), Or.inr (inT_at 724 (by decide +kernel))⟩⟩
theorem mw_X9_restore : mwOk (mRow m_X9_restore) := ⟨inT_at 733 (by decide +kernel), inT_at 65 (by decide +kernel), ⟨inT_at 731 (by decide +kernel), Or.inr (inT_at 732 (by decide +kernel))⟩⟩
theorem mw_X9_server : mwOk (mRow m_X9_server) := ⟨inT_at 737 (by decide +kernel), inT_at 65 (by decide +kernel), ⟨inT_at 735 (by decide +kernel), Or.inr (inT_at 736 (by decide +kernel))⟩⟩
theorem mw_X9_site : mwOk (mRow m_X9_site) := ⟨inT_at 758 (by decide +kernel), inT_at 65 (by decide +kernel), ⟨inT_at 756 (by decide +kernel), Or.inr (inT_at 757 (by decide +kernel))⟩⟩
theorem mw_X9_slot : mwOk (mRow m_X9_slot) := ⟨inT_at 772 (by decide +kernel), inT_at 65 (by decide +kernel), ⟨inT_at 770 (by decide +kernel), Or.inr (inT_at 771 (by decide +kernel))⟩⟩
theorem mw_X9_router : mwOk (mRow m_X9_router) := ⟨inT_at 781 (by decide +kernel), inT_at 65 (by decide +kernel), ⟨inT_at 779 (by decide +kernel), Or.inr (inT_at 780 (by decide +kernel))⟩⟩
theorem mw_X9_map : mwOk (mRow m_X9_map) := ⟨inT_at 790 (by decide +kernel), inT_at 65 (by decide +kernel), ⟨inT_at 788 (by decide +kernel), Or.inr (inT_at 789 (by decide +kernel))⟩⟩
theorem mw_X9_answer : mwOk (mRow m_X9_answer) := ⟨inT_at 800 (by decide +kernel), inT_at 65 (by decide +kernel), ⟨inT_at 798 (by decide +kernel), Or.inr (inT_at 799 (by decide +kernel))⟩⟩
theorem mw_X9_way : mwOk (mRow m_X9_way) := ⟨inT_at 805 (by decide +kernel), inT_at 65 (by decide +kernel), ⟨inT_at 803 (by decide +kernel), Or.inr (inT_at 804 (by decide +kernel))⟩⟩
theorem mw_X9_endingNext : mwOk (mRow m_X9_endingNext) := ⟨inT_at 811 (by decide +kernel), inT_at 65 (by decide +kernel), ⟨inT_at 809 (by decide +kernel), Or.inr (inT_at 810 (by decide +kernel))⟩⟩
theorem mw_X9_total : mwOk (mRow m_X9_total) := ⟨inT_at 823 (by decide +kernel), inT_at 65 (by decide +kernel), ⟨inT_at 821 (by decide +kernel), Or.inr (inT_at 822 (by decide +kernel))⟩⟩
theorem mw_X9_wouldReach : mwOk (mRow m_X9_wouldReach) := ⟨inT_at 844 (by decide +kernel), inT_at 65 (by decide +kernel), ⟨inT_at 842 (by decide +kernel), Or.inr (inT_at 843 (by decide +kernel))⟩⟩
theorem mw_X9_wouldAsk : mwOk (mRow m_X9_wouldAsk) := ⟨inT_at 848 (by decide +kernel), inT_at 65 (by decide +kernel), ⟨inT_at 846 (by decide +kernel), Or.inr (inT_at 847 (by decide +kernel))⟩⟩
theorem mw_X9_share : mwOk (mRow m_X9_share) := ⟨inT_at 852 (by decide +kernel), inT_at 65 (by decide +kernel), ⟨inT_at 850 (by decide +kernel), Or.inr (inT_at 851 (by decide +kernel))⟩⟩
theorem mw_X9_recorded : mwOk (mRow m_X9_recorded) := ⟨inT_at 429 (by decide +kernel), inT_at 65 (by decide +kernel), ⟨inT_at 428 (by decide +kernel), Or.inr (inT_at 1 (by decide +kernel))⟩⟩
theorem mw_X9_carryOutAct : mwOk (mRow m_X9_carryOutAct) := ⟨inT_at 713 (by decide +kernel), inT_at 65 (by decide +kernel), ⟨inT_at 712 (by decide +kernel), Or.inr (inT_at 11 (by decide +kernel))⟩⟩
theorem mw_X9_isSave : mwOk (mRow m_X9_isSave) := ⟨inT_at 728 (by decide +kernel), inT_at 65 (by decide +kernel), inT_at 727 (by decide +kernel)⟩
theorem mw_X9_isSlot : mwOk (mRow m_X9_isSlot) := ⟨inT_at 457 (by decide +kernel), inT_at 65 (by decide +kernel), inT_at 456 (by decide +kernel)⟩
theorem mw_X9_isName : mwOk (mRow m_X9_isName) := ⟨inT_at 417 (by decide +kernel), inT_at 65 (by decide +kernel), inT_at 416 (by decide +kernel)⟩
theorem mw_X9_isFlow : mwOk (mRow m_X9_isFlow) := ⟨inT_at 542 (by decide +kernel), inT_at 65 (by decide +kernel), inT_at 541 (by decide +kernel)⟩
theorem mw_X9_isPlaceOfSlot : mwOk (mRow m_X9_isPlaceOfSlot) := ⟨inT_at 485 (by decide +kernel), inT_at 65 (by decide +kernel), inT_at 484 (by decide +kernel)⟩
theorem mw_X9_isBlock : mwOk (mRow m_X9_isBlock) := ⟨inT_at 408 (by decide +kernel), inT_at 65 (by decide +kernel), inT_at 407 (by decide +kernel)⟩
theorem mw_X10_init : mwOk (mRow m_X10_init) := ⟨inT_at 863 (by decide +kernel), inT_at 75 (by decide +kernel), ⟨inT_at 862 (by decide +kernel), Or.inl rfl⟩⟩
theorem mw_X10_isIn : mwOk (mRow m_X10_isIn) := ⟨inT_at 916 (by decide +kernel), inT_at 75 (by decide +kernel), inT_at 915 (by decide +kernel)⟩
theorem mw_X10_isServer : mwOk (mRow m_X10_isServer) := ⟨inT_at 963 (by decide +kernel), inT_at 75 (by decide +kernel), ⟨inT_at 962 (by decide +kernel), Or.inr (inT_at 27 (by decide +kernel))⟩⟩
theorem mw_X10_isSite : mwOk (mRow m_X10_isSite) := ⟨inT_at 1016 (by decide +kernel), inT_at 75 (by decide +kernel), ⟨inT_at 1015 (by decide +kernel), Or.inr (inT_at 34 (by decide +kernel))⟩⟩
theorem mw_X10_isRouter : mwOk (mRow m_X10_isRouter) := ⟨inT_at 1052 (by decide +kernel), inT_at 75 (by decide +kernel), ⟨inT_at 1051 (by decide +kernel), Or.inr (inT_at 38 (by decide +kernel))⟩⟩
theorem mw_X10_isName : mwOk (mRow m_X10_isName) := ⟨inT_at 935 (by decide +kernel), inT_at 75 (by decide +kernel), inT_at 934 (by decide +kernel)⟩
theorem mw_X10_siteAt : mwOk (mRow m_X10_siteAt) := ⟨inT_at 985 (by decide +kernel), inT_at 75 (by decide +kernel), inT_at 984 (by decide +kernel)⟩
theorem mw_X10_routerAt : mwOk (mRow m_X10_routerAt) := ⟨inT_at 1008 (by decide +kernel), inT_at 75 (by decide +kernel), inT_at 1007 (by decide +kernel)⟩
theorem mw_X10_mapAt : mwOk (mRow m_X10_mapAt) := ⟨inT_at 1074 (by decide +kernel), inT_at 75 (by decide +kernel), inT_at 1073 (by decide +kernel)⟩
theorem mw_X10_keeps : mwOk (mRow m_X10_keeps) := ⟨inT_at 920 (by decide +kernel), inT_at 75 (by decide +kernel), ⟨inT_at 919 (by decide +kernel), Or.inr (inT_at 20 (by decide +kernel))⟩⟩
theorem mw_X10_brings : mwOk (mRow m_X10_brings) := ⟨inT_at 909 (by decide +kernel), inT_at 75 (by decide +kernel), ⟨inT_at 908 (by decide +kernel), Or.inr (inT_at 19 (by decide +kernel))⟩⟩
theorem mw_X10_records : mwOk (mRow m_X10_records) := ⟨inT_at 928 (by decide +kernel), inT_at 75 (by decide +kernel), ⟨inT_at 927 (by decide +kernel), Or.inr (inT_at 21 (by decide +kernel))⟩⟩
theorem mw_X10_undo : mwOk (mRow m_X10_undo) := ⟨inT_at 905 (by decide +kernel), inT_at 75 (by decide +kernel), ⟨inT_at 903 (by decide +kernel), Or.inr (inT_at 904 (by decide +kernel))⟩⟩
theorem mw_X10_save : mwOk (mRow m_X10_save) := ⟨inT_at 913 (by decide +kernel), inT_at 75 (by decide +kernel), ⟨inT_at 911 (by decide +kernel), Or.inr (inT_at 912 (by decide +kernel))⟩⟩
theorem mw_X10_restore : mwOk (mRow m_X10_restore) := ⟨inT_at 924 (by decide +kernel), inT_at 75 (by decide +kernel), ⟨inT_at 922 (by decide +kernel), Or.inr (inT_at 923 (by decide +kernel))⟩⟩
theorem mw_X10_isBlock : mwOk (mRow m_X10_isBlock) := ⟨inT_at 966 (by decide +kernel), inT_at 75 (by decide +kernel), inT_at 965 (by decide +kernel)⟩
theorem mw_X10_firstOf : mwOk (mRow m_X10_firstOf) := ⟨inT_at 947 (by decide +kernel), inT_at 75 (by decide +kernel), ⟨inT_at 946 (by decide +kernel), Or.inr (inT_at 24 (by decide +kernel))⟩⟩
theorem mw_X10_sizeOf : mwOk (mRow m_X10_sizeOf) := ⟨inT_at 951 (by decide +kernel), inT_at 75 (by decide +kernel), ⟨inT_at 950 (by decide +kernel), Or.inr (inT_at 25 (by decide +kernel))⟩⟩
theorem mw_X10_holds : mwOk (mRow m_X10_holds) := ⟨inT_at 943 (by decide +kernel), inT_at 75 (by decide +kernel), ⟨inT_at 942 (by decide +kernel), Or.inr (inT_at 23 (by decide +kernel))⟩⟩
theorem mw_X10_homeOf : mwOk (mRow m_X10_homeOf) := ⟨inT_at 939 (by decide +kernel), inT_at 75 (by decide +kernel), ⟨inT_at 938 (by decide +kernel), Or.inr (inT_at 22 (by decide +kernel))⟩⟩
theorem mw_X10_wayTo : mwOk (mRow m_X10_wayTo) := ⟨inT_at 955 (by decide +kernel), inT_at 75 (by decide +kernel), ⟨inT_at 954 (by decide +kernel), Or.inr (inT_at 26 (by decide +kernel))⟩⟩
theorem mw_X10_way : mwOk (mRow m_X10_way) := ⟨inT_at 932 (by decide +kernel), inT_at 75 (by decide +kernel), ⟨inT_at 930 (by decide +kernel), Or.inr (inT_at 931 (by decide +kernel))⟩⟩
theorem mw_X10_addServer : mwOk (mRow m_X10_addServer) := ⟨inT_at 959 (by decide +kernel), inT_at 75 (by decide +kernel), ⟨inT_at 957 (by decide +kernel), Or.inr (inT_at 958 (by decide +kernel))⟩⟩
theorem mw_X10_ofSite : mwOk (mRow m_X10_ofSite) := ⟨inT_at 982 (by decide +kernel), inT_at 75 (by decide +kernel), ⟨inT_at 981 (by decide +kernel), Or.inr (inT_at 30 (by decide +kernel))⟩⟩
theorem mw_X10_has : mwOk (mRow m_X10_has) := ⟨inT_at 993 (by decide +kernel), inT_at 75 (by decide +kernel), ⟨inT_at 992 (by decide +kernel), Or.inr (inT_at 32 (by decide +kernel))⟩⟩
theorem mw_X10_homeOfSite : mwOk (mRow m_X10_homeOfSite) := ⟨inT_at 997 (by decide +kernel), inT_at 75 (by decide +kernel), ⟨inT_at 996 (by decide +kernel), Or.inr (inT_at 33 (by decide +kernel))⟩⟩
theorem mw_X10_isRegistered : mwOk (mRow m_X10_isRegistered) := ⟨inT_at 989 (by decide +kernel), inT_at 75 (by decide +kernel), ⟨inT_at 988 (by decide +kernel), Or.inr (inT_at 31 (by decide +kernel))⟩⟩
theorem mw_X10_isUp : mwOk (mRow m_X10_isUp) := ⟨inT_at 978 (by decide +kernel), inT_at 75 (by decide +kernel), ⟨inT_at 977 (by decide +kernel), Or.inr (inT_at 29 (by decide +kernel))⟩⟩
theorem mw_X10_answerOf : mwOk (mRow m_X10_answerOf) := ⟨inT_at 974 (by decide +kernel), inT_at 75 (by decide +kernel), ⟨inT_at 973 (by decide +kernel), Or.inr (inT_at 28 (by decide +kernel))⟩⟩
theorem mw_X10_answer : mwOk (mRow m_X10_answer) := ⟨inT_at 970 (by decide +kernel), inT_at 75 (by decide +kernel), ⟨inT_at 968 (by decide +kernel), Or.inr (inT_at 969 (by decide +kernel))⟩⟩
theorem mw_X10_addSite : mwOk (mRow m_X10_addSite) := ⟨inT_at 1001 (by decide +kernel), inT_at 75 (by decide +kernel), ⟨inT_at 999 (by decide +kernel), Or.inr (inT_at 1000 (by decide +kernel))⟩⟩
theorem mw_X10_addRouter : mwOk (mRow m_X10_addRouter) := ⟨inT_at 1005 (by decide +kernel), inT_at 75 (by decide +kernel), ⟨inT_at 1003 (by decide +kernel), Or.inr (inT_at 1004 (by decide +kernel))⟩⟩
theorem mw_X10_setSlot : mwOk (mRow m_X10_setSlot) := ⟨inT_at 1012 (by decide +kernel), inT_at 75 (by decide +kernel), ⟨inT_at 1010 (by decide +kernel), Or.inr (inT_at 1011 (by decide +kernel))⟩⟩
theorem mw_X10_emptySlot : mwOk (mRow m_X10_emptySlot) := ⟨inT_at 1020 (by decide +kernel), inT_at 75 (by decide +kernel), ⟨inT_at 1018 (by decide +kernel), Or.inr (inT_at 1019 (by decide +kernel))⟩⟩
theorem mw_X10_registers : mwOk (mRow m_X10_registers) := ⟨inT_at 1028 (by decide +kernel), inT_at 75 (by decide +kernel), ⟨inT_at 1027 (by decide +kernel), Or.inr (inT_at 35 (by decide +kernel))⟩⟩
theorem mw_X10_register : mwOk (mRow m_X10_register) := ⟨inT_at 1024 (by decide +kernel), inT_at 75 (by decide +kernel), ⟨inT_at 1022 (by decide +kernel), Or.inr (inT_at 1023 (by decide +kernel))⟩⟩
theorem mw_X10_unregisterError : mwOk (mRow m_X10_unregisterError) := ⟨inT_at 1036 (by decide +kernel), inT_at 75 (by decide +kernel), ⟨inT_at 1035 (by decide +kernel), Or.inr (inT_at 36 (by decide +kernel))⟩⟩
theorem mw_X10_unregisters : mwOk (mRow m_X10_unregisters) := ⟨inT_at 1040 (by decide +kernel), inT_at 75 (by decide +kernel), ⟨inT_at 1039 (by decide +kernel), Or.inr (inT_at 37 (by decide +kernel))⟩⟩
theorem mw_X10_unregister : mwOk (mRow m_X10_unregister) := ⟨inT_at 1032 (by decide +kernel), inT_at 75 (by decide +kernel), ⟨inT_at 1030 (by decide +kernel), Or.inr (inT_at 1031 (by decide +kernel))⟩⟩
theorem mw_X10_setMapLife : mwOk (mRow m_X10_setMapLife) := ⟨inT_at 1044 (by decide +kernel), inT_at 75 (by decide +kernel), ⟨inT_at 1042 (by decide +kernel), Or.inr (inT_at 1043 (by decide +kernel))⟩⟩
theorem mw_X10_mapsOf : mwOk (mRow m_X10_mapsOf) := ⟨inT_at 1067 (by decide +kernel), inT_at 75 (by decide +kernel), ⟨inT_at 1066 (by decide +kernel), Or.inr (inT_at 41 (by decide +kernel))⟩⟩
theorem mw_X10_ofMap : mwOk (mRow m_X10_ofMap) := ⟨inT_at 1071 (by decide +kernel), inT_at 75 (by decide +kernel), ⟨inT_at 1070 (by decide +kernel), Or.inr (inT_at 42 (by decide +kernel))⟩⟩
theorem mw_X10_drops : mwOk (mRow m_X10_drops) := ⟨inT_at 1078 (by decide +kernel), inT_at 75 (by decide +kernel), ⟨inT_at 1077 (by decide +kernel), Or.inr (inT_at 43 (by decide +kernel))⟩⟩
theorem mw_X10_makesRoom : mwOk (mRow m_X10_makesRoom) := ⟨inT_at 1086 (by decide +kernel), inT_at 75 (by decide +kernel), ⟨inT_at 1085 (by decide +kernel), Or.inr (inT_at 45 (by decide +kernel))⟩⟩
theorem mw_X10_uses : mwOk (mRow m_X10_uses) := ⟨inT_at 1094 (by decide +kernel), inT_at 75 (by decide +kernel), ⟨inT_at 1093 (by decide +kernel), Or.inr (inT_at 47 (by decide +kernel))⟩⟩
theorem mw_X10_asks : mwOk (mRow m_X10_asks) := ⟨inT_at 1082 (by decide +kernel), inT_at 75 (by decide +kernel), ⟨inT_at 1081 (by decide +kernel), Or.inr (inT_at 44 (by decide +kernel))⟩⟩
theorem mw_X10_chosen : mwOk (mRow m_X10_chosen) := ⟨inT_at 1098 (by decide +kernel), inT_at 75 (by decide +kernel), ⟨inT_at 1097 (by decide +kernel), Or.inr (inT_at 48 (by decide +kernel))⟩⟩
theorem mw_X10_isAt : mwOk (mRow m_X10_isAt) := ⟨inT_at 1102 (by decide +kernel), inT_at 75 (by decide +kernel), ⟨inT_at 1101 (by decide +kernel), Or.inr (inT_at 49 (by decide +kernel))⟩⟩
theorem mw_X10_takes : mwOk (mRow m_X10_takes) := ⟨inT_at 1063 (by decide +kernel), inT_at 75 (by decide +kernel), ⟨inT_at 1062 (by decide +kernel), Or.inr (inT_at 40 (by decide +kernel))⟩⟩
theorem mw_X10_proxy : mwOk (mRow m_X10_proxy) := ⟨inT_at 1090 (by decide +kernel), inT_at 75 (by decide +kernel), ⟨inT_at 1089 (by decide +kernel), Or.inr (inT_at 46 (by decide +kernel))⟩⟩
theorem mw_X10_sends : mwOk (mRow m_X10_sends) := ⟨inT_at 1059 (by decide +kernel), inT_at 75 (by decide +kernel), ⟨inT_at 1058 (by decide +kernel), Or.inr (inT_at 39 (by decide +kernel))⟩⟩
theorem mw_X10_isLetter : mwOk (mRow m_X10_isLetter) := ⟨inT_at 1055 (by decide +kernel), inT_at 75 (by decide +kernel), inT_at 1054 (by decide +kernel)⟩
theorem mw_X10_send : mwOk (mRow m_X10_send) := ⟨inT_at 1048 (by decide +kernel), inT_at 75 (by decide +kernel), ⟨inT_at 1046 (by decide +kernel), Or.inr (inT_at 1047 (by decide +kernel))⟩⟩
theorem mw_X10_pass : mwOk (mRow m_X10_pass) := ⟨inT_at 1106 (by decide +kernel), inT_at 75 (by decide +kernel), ⟨inT_at 1104 (by decide +kernel), Or.inr (inT_at 1105 (by decide +kernel))⟩⟩
theorem mw_X10_forget : mwOk (mRow m_X10_forget) := ⟨inT_at 1110 (by decide +kernel), inT_at 75 (by decide +kernel), ⟨inT_at 1108 (by decide +kernel), Or.inr (inT_at 1109 (by decide +kernel))⟩⟩
theorem mw_X10_append : mwOk (mRow m_X10_append) := ⟨inT_at 1114 (by decide +kernel), inT_at 75 (by decide +kernel), ⟨inT_at 1112 (by decide +kernel), Or.inr (inT_at 1113 (by decide +kernel))⟩⟩
theorem mw_X10_clearText : mwOk (mRow m_X10_clearText) := ⟨inT_at 1118 (by decide +kernel), inT_at 75 (by decide +kernel), ⟨inT_at 1116 (by decide +kernel), Or.inr (inT_at 1117 (by decide +kernel))⟩⟩
theorem mw_X10_passesSign : mwOk (mRow m_X10_passesSign) := ⟨inT_at 1146 (by decide +kernel), inT_at 75 (by decide +kernel), ⟨inT_at 1145 (by decide +kernel), Or.inr (inT_at 55 (by decide +kernel))⟩⟩
theorem mw_X10_isDigitHere : mwOk (mRow m_X10_isDigitHere) := ⟨inT_at 1142 (by decide +kernel), inT_at 75 (by decide +kernel), ⟨inT_at 1141 (by decide +kernel), Or.inr (inT_at 54 (by decide +kernel))⟩⟩
theorem mw_X10_passesNumber : mwOk (mRow m_X10_passesNumber) := ⟨inT_at 1138 (by decide +kernel), inT_at 75 (by decide +kernel), ⟨inT_at 1137 (by decide +kernel), Or.inr (inT_at 53 (by decide +kernel))⟩⟩
theorem mw_X10_passesLetter : mwOk (mRow m_X10_passesLetter) := ⟨inT_at 1134 (by decide +kernel), inT_at 75 (by decide +kernel), ⟨inT_at 1133 (by decide +kernel), Or.inr (inT_at 52 (by decide +kernel))⟩⟩
theorem mw_X10_passesAct : mwOk (mRow m_X10_passesAct) := ⟨inT_at 1130 (by decide +kernel), inT_at 75 (by decide +kernel), ⟨inT_at 1129 (by decide +kernel), Or.inr (inT_at 51 (by decide +kernel))⟩⟩
theorem mw_X10_faultOf : mwOk (mRow m_X10_faultOf) := ⟨inT_at 1126 (by decide +kernel), inT_at 75 (by decide +kernel), ⟨inT_at 1125 (by decide +kernel), Or.inr (inT_at 50 (by decide +kernel))⟩⟩
theorem mw_X10_faultPosition : mwOk (mRow m_X10_faultPosition) := ⟨inT_at 1122 (by decide +kernel), inT_at 75 (by decide +kernel), ⟨inT_at 1120 (by decide +kernel), Or.inr (inT_at 1121 (by decide +kernel))⟩⟩
theorem mw_X10_does : mwOk (mRow m_X10_does) := ⟨inT_at 1154 (by decide +kernel), inT_at 75 (by decide +kernel), ⟨inT_at 1153 (by decide +kernel), Or.inr (inT_at 56 (by decide +kernel))⟩⟩
theorem mw_X10_run : mwOk (mRow m_X10_run) := ⟨inT_at 1150 (by decide +kernel), inT_at 75 (by decide +kernel), ⟨inT_at 1148 (by decide +kernel), Or.inr (inT_at 1149 (by decide +kernel))⟩⟩
theorem mw_X10_children : mwOk (mRow m_X10_children) := ⟨inT_at 1162 (by decide +kernel), inT_at 75 (by decide +kernel), ⟨inT_at 1161 (by decide +kernel), Or.inr (inT_at 57 (by decide +kernel))⟩⟩
theorem mw_X10_sitesOf : mwOk (mRow m_X10_sitesOf) := ⟨inT_at 1166 (by decide +kernel), inT_at 75 (by decide +kernel), ⟨inT_at 1165 (by decide +kernel), Or.inr (inT_at 58 (by decide +kernel))⟩⟩
theorem mw_X10_server : mwOk (mRow m_X10_server) := ⟨inT_at 1158 (by decide +kernel), inT_at 75 (by decide +kernel), ⟨inT_at 1156 (by decide +kernel), Or.inr (inT_at 1157 (by decide +kernel))⟩⟩
theorem mw_X10_copiesOf : mwOk (mRow m_X10_copiesOf) := ⟨inT_at 1174 (by decide +kernel), inT_at 75 (by decide +kernel), ⟨inT_at 1173 (by decide +kernel), Or.inr (inT_at 59 (by decide +kernel))⟩⟩
theorem mw_X10_site : mwOk (mRow m_X10_site) := ⟨inT_at 1170 (by decide +kernel), inT_at 75 (by decide +kernel), ⟨inT_at 1168 (by decide +kernel), Or.inr (inT_at 1169 (by decide +kernel))⟩⟩
theorem mw_X10_slot : mwOk (mRow m_X10_slot) := ⟨inT_at 1178 (by decide +kernel), inT_at 75 (by decide +kernel), ⟨inT_at 1176 (by decide +kernel), Or.inr (inT_at 1177 (by decide +kernel))⟩⟩
theorem mw_X10_router : mwOk (mRow m_X10_router) := ⟨inT_at 1182 (by decide +kernel), inT_at 75 (by decide +kernel), ⟨inT_at 1180 (by decide +kernel), Or.inr (inT_at 1181 (by decide +kernel))⟩⟩
theorem mw_X10_map : mwOk (mRow m_X10_map) := ⟨inT_at 1186 (by decide +kernel), inT_at 75 (by decide +kernel), ⟨inT_at 1184 (by decide +kernel), Or.inr (inT_at 1185 (by decide +kernel))⟩⟩
theorem mw_X10_isAhead : mwOk (mRow m_X10_isAhead) := ⟨inT_at 1194 (by decide +kernel), inT_at 75 (by decide +kernel), ⟨inT_at 1193 (by decide +kernel), Or.inr (inT_at 60 (by decide +kernel))⟩⟩
theorem mw_X10_endingNext : mwOk (mRow m_X10_endingNext) := ⟨inT_at 1190 (by decide +kernel), inT_at 75 (by decide +kernel), ⟨inT_at 1188 (by decide +kernel), Or.inr (inT_at 1189 (by decide +kernel))⟩⟩
theorem mw_X10_upMany : mwOk (mRow m_X10_upMany) := ⟨inT_at 1202 (by decide +kernel), inT_at 75 (by decide +kernel), ⟨inT_at 1201 (by decide +kernel), Or.inr (inT_at 61 (by decide +kernel))⟩⟩
theorem mw_X10_sumOf : mwOk (mRow m_X10_sumOf) := ⟨inT_at 1206 (by decide +kernel), inT_at 75 (by decide +kernel), ⟨inT_at 1205 (by decide +kernel), Or.inr (inT_at 62 (by decide +kernel))⟩⟩
theorem mw_X10_answered : mwOk (mRow m_X10_answered) := ⟨inT_at 1210 (by decide +kernel), inT_at 75 (by decide +kernel), ⟨inT_at 1209 (by decide +kernel), Or.inr (inT_at 63 (by decide +kernel))⟩⟩
theorem mw_X10_total : mwOk (mRow m_X10_total) := ⟨inT_at 1198 (by decide +kernel), inT_at 75 (by decide +kernel), ⟨inT_at 1196 (by decide +kernel), Or.inr (inT_at 1197 (by decide +kernel))⟩⟩
theorem mw_X10_wouldReach : mwOk (mRow m_X10_wouldReach) := ⟨inT_at 1214 (by decide +kernel), inT_at 75 (by decide +kernel), ⟨inT_at 1212 (by decide +kernel), Or.inr (inT_at 1213 (by decide +kernel))⟩⟩
theorem mw_X10_wouldAsk : mwOk (mRow m_X10_wouldAsk) := ⟨inT_at 1218 (by decide +kernel), inT_at 75 (by decide +kernel), ⟨inT_at 1216 (by decide +kernel), Or.inr (inT_at 1217 (by decide +kernel))⟩⟩
theorem mw_X10_share : mwOk (mRow m_X10_share) := ⟨inT_at 1222 (by decide +kernel), inT_at 75 (by decide +kernel), ⟨inT_at 1220 (by decide +kernel), Or.inr (inT_at 1221 (by decide +kernel))⟩⟩
theorem mw_J6_bitCount_0f7a4 : mwOk (mRow m_J6_bitCount_0f7a4) := ⟨inT_at 411 (by decide +kernel), inT_at 77 (by decide +kernel), inT_at 410 (by decide +kernel)⟩
theorem mw_J9_floorMod_7cf53 : mwOk (mRow m_J9_floorMod_7cf53) := ⟨inT_at 366 (by decide +kernel), inT_at 76 (by decide +kernel), inT_at 365 (by decide +kernel)⟩
/-- links of methods: the class that holds the link, its entry, the method, nest or not -/
def mlT : List (Nat × Nat × Nat × Nat) := [(24, 9, 90, 0), (9, 9, 56, 0), (8, 41, 11, 0), (8, 48, 27, 0), (9, 21, 22, 0), (3, 17, 56, 0), (24, 13, 91, 0), (9, 41, 24, 0), (3, 31, 23, 0), (3, 22, 213, 0), (3, 35, 57, 0), (8, 49, 39, 0), (5, 22, 12, 0), (8, 56, 42, 0), (6, 43, 12, 0), (6, 47, 46, 0), (8, 62, 29, 0), (4, 37, 19, 0), (2, 28, 12, 0), (2, 33, 46, 0), (9, 45, 61, 0), (8, 68, 58, 0), (9, 217, 212, 0), (9, 175, 125, 0), (8, 76, 15, 0), (8, 85, 16, 0), (9, 49, 121, 0), (9, 202, 25, 0), (24, 18, 92, 0), (9, 53, 62, 0), (8, 89, 13, 0), (8, 92, 41, 0), (6, 25, 11, 0), (6, 39, 47, 0), (24, 22, 93, 0), (9, 56, 63, 0), (8, 96, 28, 0), (24, 27, 94, 0), (9, 60, 64, 0), (8, 98, 59, 0), (8, 111, 47, 0), (24, 32, 95, 0), (9, 64, 65, 0), (8, 120, 49, 0), (24, 37, 96, 0), (9, 68, 66, 0), (24, 42, 97, 0), (9, 71, 67, 0), (8, 129, 43, 0), (24, 46, 98, 0), (9, 74, 68, 0), (24, 50, 99, 0), (9, 77, 71, 0), (8, 132, 60, 0), (8, 147, 34, 0), (4, 41, 30, 0), (4, 45, 20, 0), (4, 48, 33, 0), (8, 151, 36, 0), (4, 59, 14, 0), (1, 16, 15, 0), (8, 155, 30, 0), (8, 168, 32, 0), (8, 171, 73, 0), (8, 209, 75, 0), (8, 213, 77, 0), (8, 216, 78, 0), (8, 229, 14, 0), (8, 196, 44, 0), (6, 50, 43, 0), (6, 54, 50, 0), (8, 219, 37, 0), (4, 67, 35, 0), (4, 71, 18, 0), (4, 75, 32, 0), (8, 175, 33, 0), (8, 178, 74, 0), (8, 182, 72, 0), (8, 190, 54, 0), (7, 28, 52, 0), (7, 19, 49, 0), (7, 32, 53, 0), (8, 199, 51, 0), (24, 54, 100, 0), (9, 80, 69, 0), (24, 58, 101, 0), (9, 83, 70, 0), (24, 62, 102, 0), (9, 86, 1, 0), (24, 66, 103, 0), (24, 70, 104, 0), (9, 93, 3, 0), (0, 25, 2, 0), (0, 28, 4, 0), (0, 32, 8, 0), (0, 39, 5, 0), (0, 49, 6, 0), (0, 42, 7, 0), (0, 59, 9, 0), (24, 74, 105, 0), (9, 96, 2, 0), (9, 99, 4, 0), (9, 103, 122, 0), (24, 78, 106, 0), (9, 109, 26, 0), (24, 82, 107, 0), (9, 112, 123, 0), (9, 116, 57, 0), (24, 86, 108, 0), (24, 90, 109, 0), (9, 122, 58, 0), (9, 125, 81, 0), (8, 235, 82, 0), (8, 238, 83, 0), (8, 241, 76, 0), (24, 94, 110, 0), (9, 128, 59, 0), (9, 131, 84, 0), (8, 244, 85, 0), (8, 247, 35, 0), (24, 98, 111, 0), (9, 134, 124, 0), (9, 147, 48, 0), (24, 102, 112, 0), (9, 152, 60, 0), (9, 159, 31, 0), (24, 106, 113, 0), (9, 164, 30, 0), (9, 171, 21, 0), (2, 51, 20, 0), (24, 110, 114, 0), (9, 178, 78, 0), (24, 114, 115, 0), (9, 181, 75, 0), (9, 184, 77, 0), (24, 118, 116, 0), (9, 187, 79, 0), (8, 232, 80, 0), (24, 122, 117, 0), (9, 190, 86, 0), (8, 250, 87, 0), (8, 254, 88, 0), (8, 260, 31, 0), (8, 257, 89, 0), (24, 126, 118, 0), (24, 131, 119, 0), (24, 135, 120, 0), (9, 196, 127, 0), (9, 199, 55, 0), (7, 35, 54, 0), (24, 12, 129, 0), (24, 81, 141, 0), (10, 34, 139, 0), (24, 85, 142, 0), (10, 22, 130, 0), (10, 30, 138, 0), (24, 89, 143, 0), (10, 37, 140, 0), (24, 117, 150, 0), (10, 40, 134, 0), (10, 54, 148, 0), (10, 51, 147, 0), (10, 44, 145, 0), (10, 48, 146, 0), (10, 58, 149, 0), (24, 17, 151, 0), (10, 61, 131, 0), (10, 64, 144, 0), (24, 113, 158, 0), (10, 86, 157, 0), (10, 77, 156, 0), (10, 71, 152, 0), (10, 68, 135, 0), (10, 74, 155, 0), (10, 80, 153, 0), (10, 83, 154, 0), (24, 21, 159, 0), (24, 26, 160, 0), (10, 89, 136, 0), (24, 31, 161, 0), (10, 92, 132, 0), (24, 36, 162, 0), (24, 41, 164, 0), (10, 95, 163, 0), (24, 45, 167, 0), (10, 98, 165, 0), (10, 101, 166, 0), (24, 49, 168, 0), (24, 53, 181, 0), (10, 139, 133, 0), (10, 142, 180, 0), (10, 145, 179, 0), (10, 121, 177, 0), (10, 107, 169, 0), (10, 110, 170, 0), (10, 104, 137, 0), (10, 114, 171, 0), (10, 124, 174, 0), (10, 118, 172, 0), (10, 127, 178, 0), (10, 130, 173, 0), (10, 133, 175, 0), (10, 136, 176, 0), (24, 57, 182, 0), (24, 61, 183, 0), (24, 65, 184, 0), (24, 69, 185, 0), (24, 73, 192, 0), (10, 185, 191, 0), (10, 182, 190, 0), (10, 179, 189, 0), (10, 161, 188, 0), (10, 154, 187, 0), (10, 167, 186, 0), (24, 77, 194, 0), (10, 189, 193, 0), (24, 93, 197, 0), (10, 192, 195, 0), (10, 195, 196, 0), (24, 97, 199, 0), (10, 198, 198, 0), (24, 101, 200, 0), (24, 105, 201, 0), (24, 109, 202, 0), (24, 121, 204, 0), (10, 201, 203, 0), (24, 125, 208, 0), (10, 204, 205, 0), (10, 207, 206, 0), (10, 210, 207, 0), (24, 130, 209, 0), (24, 134, 210, 0), (24, 138, 211, 0), (8, 36, 38, 1), (5, 11, 10, 1), (8, 47, 40, 1), (6, 11, 10, 1), (6, 20, 45, 1), (4, 17, 17, 1), (2, 11, 10, 1), (2, 20, 45, 1), (9, 36, 0, 1), (8, 72, 128, 1), (7, 15, 124, 1), (8, 101, 124, 1), (8, 104, 127, 1), (8, 138, 125, 1), (8, 141, 126, 1)]
def mlOk (q : Nat × Nat × Nat × Nat) : Prop := mwOk (mRow q.2.2.1) ∧ mhOk (mRow q.2.2.1) ∧ (if q.2.2.2 = 0 then inT (.methodLink (cnm q.1) q.2.1 (mRow q.2.2.1).1) else inT (.methodLinkNest (cnm q.1) q.2.1 (mRow q.2.2.1).1 RX9))
theorem mh_at {m : Nat} (h : m < mTab.length) : mhOk (mRow m) := by
  unfold mRow
  rw [List.getD_eq_getElem?_getD, List.getElem?_eq_getElem h]
  exact mh_all _ (List.getElem_mem h)
theorem ml_0 : mlOk (24, 9, 90, 0) := ⟨mw_X9_init, mh_at (by decide +kernel), inT_at 80 (by decide +kernel)⟩
theorem ml_1 : mlOk (9, 9, 56, 0) := ⟨mw_X8_init, mh_at (by decide +kernel), inT_at 88 (by decide +kernel)⟩
theorem ml_2 : mlOk (8, 41, 11, 0) := ⟨mw_X1_become, mh_at (by decide +kernel), inT_at 128 (by decide +kernel)⟩
theorem ml_3 : mlOk (8, 48, 27, 0) := ⟨mw_X4_init, mh_at (by decide +kernel), inT_at 176 (by decide +kernel)⟩
theorem ml_4 : mlOk (9, 21, 22, 0) := ⟨mw_X3_init, mh_at (by decide +kernel), inT_at 277 (by decide +kernel)⟩
theorem ml_5 : mlOk (3, 17, 56, 0) := ⟨mw_X8_init, mh_at (by decide +kernel), inT_at 283 (by decide +kernel)⟩
theorem ml_6 : mlOk (24, 13, 91, 0) := ⟨mw_X9_addServer, mh_at (by decide +kernel), inT_at 352 (by decide +kernel)⟩
theorem ml_7 : mlOk (9, 41, 24, 0) := ⟨mw_X3_draft, mh_at (by decide +kernel), inT_at 356 (by decide +kernel)⟩
theorem ml_8 : mlOk (3, 31, 23, 0) := ⟨mw_X3_row, mh_at (by decide +kernel), inT_at 360 (by decide +kernel)⟩
theorem ml_9 : mlOk (3, 22, 213, 0) := ⟨mw_J9_floorMod_7cf53, mh_at (by decide +kernel), inT_at 364 (by decide +kernel)⟩
theorem ml_10 : mlOk (3, 35, 57, 0) := ⟨mw_X8_copyFrom, mh_at (by decide +kernel), inT_at 367 (by decide +kernel)⟩
theorem ml_11 : mlOk (8, 49, 39, 0) := ⟨mw_X5_copyFrom, mh_at (by decide +kernel), inT_at 371 (by decide +kernel)⟩
theorem ml_12 : mlOk (5, 22, 12, 0) := ⟨mw_X1_copyFrom, mh_at (by decide +kernel), inT_at 375 (by decide +kernel)⟩
theorem ml_13 : mlOk (8, 56, 42, 0) := ⟨mw_X6_copyFrom, mh_at (by decide +kernel), inT_at 379 (by decide +kernel)⟩
theorem ml_14 : mlOk (6, 43, 12, 0) := ⟨mw_X1_copyFrom, mh_at (by decide +kernel), inT_at 383 (by decide +kernel)⟩
theorem ml_15 : mlOk (6, 47, 46, 0) := ⟨mw_X7_copyFrom, mh_at (by decide +kernel), inT_at 384 (by decide +kernel)⟩
theorem ml_16 : mlOk (8, 62, 29, 0) := ⟨mw_X4_copyFrom, mh_at (by decide +kernel), inT_at 388 (by decide +kernel)⟩
theorem ml_17 : mlOk (4, 37, 19, 0) := ⟨mw_X2_copyFrom, mh_at (by decide +kernel), inT_at 392 (by decide +kernel)⟩
theorem ml_18 : mlOk (2, 28, 12, 0) := ⟨mw_X1_copyFrom, mh_at (by decide +kernel), inT_at 396 (by decide +kernel)⟩
theorem ml_19 : mlOk (2, 33, 46, 0) := ⟨mw_X7_copyFrom, mh_at (by decide +kernel), inT_at 397 (by decide +kernel)⟩
theorem ml_20 : mlOk (9, 45, 61, 0) := ⟨mw_X8_newServer, mh_at (by decide +kernel), inT_at 398 (by decide +kernel)⟩
theorem ml_21 : mlOk (8, 68, 58, 0) := ⟨mw_X8_isServer, mh_at (by decide +kernel), inT_at 402 (by decide +kernel)⟩
theorem ml_22 : mlOk (9, 217, 212, 0) := ⟨mw_J6_bitCount_0f7a4, mh_at (by decide +kernel), inT_at 409 (by decide +kernel)⟩
theorem ml_23 : mlOk (9, 175, 125, 0) := ⟨mw_X9_isName, mh_at (by decide +kernel), inT_at 415 (by decide +kernel)⟩
theorem ml_24 : mlOk (8, 76, 15, 0) := ⟨mw_X1_holds, mh_at (by decide +kernel), inT_at 418 (by decide +kernel)⟩
theorem ml_25 : mlOk (8, 85, 16, 0) := ⟨mw_X1_meets, mh_at (by decide +kernel), inT_at 422 (by decide +kernel)⟩
theorem ml_26 : mlOk (9, 49, 121, 0) := ⟨mw_X9_recorded, mh_at (by decide +kernel), inT_at 426 (by decide +kernel)⟩
theorem ml_27 : mlOk (9, 202, 25, 0) := ⟨mw_X3_keepDraft, mh_at (by decide +kernel), inT_at 430 (by decide +kernel)⟩
theorem ml_28 : mlOk (24, 18, 92, 0) := ⟨mw_X9_addSite, mh_at (by decide +kernel), inT_at 434 (by decide +kernel)⟩
theorem ml_29 : mlOk (9, 53, 62, 0) := ⟨mw_X8_newSite, mh_at (by decide +kernel), inT_at 438 (by decide +kernel)⟩
theorem ml_30 : mlOk (8, 89, 13, 0) := ⟨mw_X1_isAt, mh_at (by decide +kernel), inT_at 442 (by decide +kernel)⟩
theorem ml_31 : mlOk (8, 92, 41, 0) := ⟨mw_X6_start, mh_at (by decide +kernel), inT_at 446 (by decide +kernel)⟩
theorem ml_32 : mlOk (6, 25, 11, 0) := ⟨mw_X1_become, mh_at (by decide +kernel), inT_at 450 (by decide +kernel)⟩
theorem ml_33 : mlOk (6, 39, 47, 0) := ⟨mw_X7_fill, mh_at (by decide +kernel), inT_at 451 (by decide +kernel)⟩
theorem ml_34 : mlOk (24, 22, 93, 0) := ⟨mw_X9_addRouter, mh_at (by decide +kernel), inT_at 458 (by decide +kernel)⟩
theorem ml_35 : mlOk (9, 56, 63, 0) := ⟨mw_X8_newRouter, mh_at (by decide +kernel), inT_at 462 (by decide +kernel)⟩
theorem ml_36 : mlOk (8, 96, 28, 0) := ⟨mw_X4_start, mh_at (by decide +kernel), inT_at 466 (by decide +kernel)⟩
theorem ml_37 : mlOk (24, 27, 94, 0) := ⟨mw_X9_setSlot, mh_at (by decide +kernel), inT_at 470 (by decide +kernel)⟩
theorem ml_38 : mlOk (9, 60, 64, 0) := ⟨mw_X8_fillSlot, mh_at (by decide +kernel), inT_at 474 (by decide +kernel)⟩
theorem ml_39 : mlOk (8, 98, 59, 0) := ⟨mw_X8_isSite, mh_at (by decide +kernel), inT_at 478 (by decide +kernel)⟩
theorem ml_40 : mlOk (8, 111, 47, 0) := ⟨mw_X7_fill, mh_at (by decide +kernel), inT_at 486 (by decide +kernel)⟩
theorem ml_41 : mlOk (24, 32, 95, 0) := ⟨mw_X9_emptySlot, mh_at (by decide +kernel), inT_at 487 (by decide +kernel)⟩
theorem ml_42 : mlOk (9, 64, 65, 0) := ⟨mw_X8_vacateSlot, mh_at (by decide +kernel), inT_at 491 (by decide +kernel)⟩
theorem ml_43 : mlOk (8, 120, 49, 0) := ⟨mw_X7_isEmpty, mh_at (by decide +kernel), inT_at 495 (by decide +kernel)⟩
theorem ml_44 : mlOk (24, 37, 96, 0) := ⟨mw_X9_register, mh_at (by decide +kernel), inT_at 499 (by decide +kernel)⟩
theorem ml_45 : mlOk (9, 68, 66, 0) := ⟨mw_X8_startRegistration, mh_at (by decide +kernel), inT_at 503 (by decide +kernel)⟩
theorem ml_46 : mlOk (24, 42, 97, 0) := ⟨mw_X9_unregister, mh_at (by decide +kernel), inT_at 507 (by decide +kernel)⟩
theorem ml_47 : mlOk (9, 71, 67, 0) := ⟨mw_X8_endRegistration, mh_at (by decide +kernel), inT_at 511 (by decide +kernel)⟩
theorem ml_48 : mlOk (8, 129, 43, 0) := ⟨mw_X6_isRegistered, mh_at (by decide +kernel), inT_at 515 (by decide +kernel)⟩
theorem ml_49 : mlOk (24, 46, 98, 0) := ⟨mw_X9_setMapLife, mh_at (by decide +kernel), inT_at 519 (by decide +kernel)⟩
theorem ml_50 : mlOk (9, 74, 68, 0) := ⟨mw_X8_changeMapLife, mh_at (by decide +kernel), inT_at 523 (by decide +kernel)⟩
theorem ml_51 : mlOk (24, 50, 99, 0) := ⟨mw_X9_send, mh_at (by decide +kernel), inT_at 527 (by decide +kernel)⟩
theorem ml_52 : mlOk (9, 77, 71, 0) := ⟨mw_X8_sendLetter, mh_at (by decide +kernel), inT_at 531 (by decide +kernel)⟩
theorem ml_53 : mlOk (8, 132, 60, 0) := ⟨mw_X8_isRouter, mh_at (by decide +kernel), inT_at 535 (by decide +kernel)⟩
theorem ml_54 : mlOk (8, 147, 34, 0) := ⟨mw_X4_dropEnded, mh_at (by decide +kernel), inT_at 543 (by decide +kernel)⟩
theorem ml_55 : mlOk (4, 41, 30, 0) := ⟨mw_X4_isPlace, mh_at (by decide +kernel), inT_at 547 (by decide +kernel)⟩
theorem ml_56 : mlOk (4, 45, 20, 0) := ⟨mw_X2_isHolding, mh_at (by decide +kernel), inT_at 551 (by decide +kernel)⟩
theorem ml_57 : mlOk (4, 48, 33, 0) := ⟨mw_X4_drop, mh_at (by decide +kernel), inT_at 555 (by decide +kernel)⟩
theorem ml_58 : mlOk (8, 151, 36, 0) := ⟨mw_X4_placeOfSmallest, mh_at (by decide +kernel), inT_at 559 (by decide +kernel)⟩
theorem ml_59 : mlOk (4, 59, 14, 0) := ⟨mw_X1_has, mh_at (by decide +kernel), inT_at 563 (by decide +kernel)⟩
theorem ml_60 : mlOk (1, 16, 15, 0) := ⟨mw_X1_holds, mh_at (by decide +kernel), inT_at 567 (by decide +kernel)⟩
theorem ml_61 : mlOk (8, 155, 30, 0) := ⟨mw_X4_isPlace, mh_at (by decide +kernel), inT_at 568 (by decide +kernel)⟩
theorem ml_62 : mlOk (8, 168, 32, 0) := ⟨mw_X4_moveToFront, mh_at (by decide +kernel), inT_at 569 (by decide +kernel)⟩
theorem ml_63 : mlOk (8, 171, 73, 0) := ⟨mw_X8_ask, mh_at (by decide +kernel), inT_at 573 (by decide +kernel)⟩
theorem ml_64 : mlOk (8, 209, 75, 0) := ⟨mw_X8_homeOf, mh_at (by decide +kernel), inT_at 577 (by decide +kernel)⟩
theorem ml_65 : mlOk (8, 213, 77, 0) := ⟨mw_X8_hopsTo, mh_at (by decide +kernel), inT_at 581 (by decide +kernel)⟩
theorem ml_66 : mlOk (8, 216, 78, 0) := ⟨mw_X8_answerFor, mh_at (by decide +kernel), inT_at 585 (by decide +kernel)⟩
theorem ml_67 : mlOk (8, 229, 14, 0) := ⟨mw_X1_has, mh_at (by decide +kernel), inT_at 589 (by decide +kernel)⟩
theorem ml_68 : mlOk (8, 196, 44, 0) := ⟨mw_X6_isUp, mh_at (by decide +kernel), inT_at 590 (by decide +kernel)⟩
theorem ml_69 : mlOk (6, 50, 43, 0) := ⟨mw_X6_isRegistered, mh_at (by decide +kernel), inT_at 594 (by decide +kernel)⟩
theorem ml_70 : mlOk (6, 54, 50, 0) := ⟨mw_X7_areEmpty, mh_at (by decide +kernel), inT_at 595 (by decide +kernel)⟩
theorem ml_71 : mlOk (8, 219, 37, 0) := ⟨mw_X4_addMap, mh_at (by decide +kernel), inT_at 599 (by decide +kernel)⟩
theorem ml_72 : mlOk (4, 67, 35, 0) := ⟨mw_X4_placeOfSite, mh_at (by decide +kernel), inT_at 603 (by decide +kernel)⟩
theorem ml_73 : mlOk (4, 71, 18, 0) := ⟨mw_X2_become, mh_at (by decide +kernel), inT_at 607 (by decide +kernel)⟩
theorem ml_74 : mlOk (4, 75, 32, 0) := ⟨mw_X4_moveToFront, mh_at (by decide +kernel), inT_at 611 (by decide +kernel)⟩
theorem ml_75 : mlOk (8, 175, 33, 0) := ⟨mw_X4_drop, mh_at (by decide +kernel), inT_at 612 (by decide +kernel)⟩
theorem ml_76 : mlOk (8, 178, 74, 0) := ⟨mw_X8_goByProxy, mh_at (by decide +kernel), inT_at 613 (by decide +kernel)⟩
theorem ml_77 : mlOk (8, 182, 72, 0) := ⟨mw_X8_placeByMap, mh_at (by decide +kernel), inT_at 617 (by decide +kernel)⟩
theorem ml_78 : mlOk (8, 190, 54, 0) := ⟨mw_X7_placeFor, mh_at (by decide +kernel), inT_at 621 (by decide +kernel)⟩
theorem ml_79 : mlOk (7, 28, 52, 0) := ⟨mw_X7_lowestPriority, mh_at (by decide +kernel), inT_at 625 (by decide +kernel)⟩
theorem ml_80 : mlOk (7, 19, 49, 0) := ⟨mw_X7_isEmpty, mh_at (by decide +kernel), inT_at 629 (by decide +kernel)⟩
theorem ml_81 : mlOk (7, 32, 53, 0) := ⟨mw_X7_weightThatCounts, mh_at (by decide +kernel), inT_at 633 (by decide +kernel)⟩
theorem ml_82 : mlOk (8, 199, 51, 0) := ⟨mw_X7_have, mh_at (by decide +kernel), inT_at 637 (by decide +kernel)⟩
theorem ml_83 : mlOk (24, 54, 100, 0) := ⟨mw_X9_pass, mh_at (by decide +kernel), inT_at 641 (by decide +kernel)⟩
theorem ml_84 : mlOk (9, 80, 69, 0) := ⟨mw_X8_letPass, mh_at (by decide +kernel), inT_at 645 (by decide +kernel)⟩
theorem ml_85 : mlOk (24, 58, 101, 0) := ⟨mw_X9_forget, mh_at (by decide +kernel), inT_at 649 (by decide +kernel)⟩
theorem ml_86 : mlOk (9, 83, 70, 0) := ⟨mw_X8_emptyCache, mh_at (by decide +kernel), inT_at 653 (by decide +kernel)⟩
theorem ml_87 : mlOk (24, 62, 102, 0) := ⟨mw_X9_append, mh_at (by decide +kernel), inT_at 657 (by decide +kernel)⟩
theorem ml_88 : mlOk (9, 86, 1, 0) := ⟨mw_X0_add, mh_at (by decide +kernel), inT_at 661 (by decide +kernel)⟩
theorem ml_89 : mlOk (24, 66, 103, 0) := ⟨mw_X9_clearText, mh_at (by decide +kernel), inT_at 665 (by decide +kernel)⟩
theorem ml_90 : mlOk (24, 70, 104, 0) := ⟨mw_X9_faultPosition, mh_at (by decide +kernel), inT_at 669 (by decide +kernel)⟩
theorem ml_91 : mlOk (9, 93, 3, 0) := ⟨mw_X0_findFault, mh_at (by decide +kernel), inT_at 673 (by decide +kernel)⟩
theorem ml_92 : mlOk (0, 25, 2, 0) := ⟨mw_X0_rewind, mh_at (by decide +kernel), inT_at 677 (by decide +kernel)⟩
theorem ml_93 : mlOk (0, 28, 4, 0) := ⟨mw_X0_readAct, mh_at (by decide +kernel), inT_at 681 (by decide +kernel)⟩
theorem ml_94 : mlOk (0, 32, 8, 0) := ⟨mw_X0_byteHere, mh_at (by decide +kernel), inT_at 685 (by decide +kernel)⟩
theorem ml_95 : mlOk (0, 39, 5, 0) := ⟨mw_X0_readSending, mh_at (by decide +kernel), inT_at 689 (by decide +kernel)⟩
theorem ml_96 : mlOk (0, 49, 6, 0) := ⟨mw_X0_readSign, mh_at (by decide +kernel), inT_at 693 (by decide +kernel)⟩
theorem ml_97 : mlOk (0, 42, 7, 0) := ⟨mw_X0_readNumber, mh_at (by decide +kernel), inT_at 697 (by decide +kernel)⟩
theorem ml_98 : mlOk (0, 59, 9, 0) := ⟨mw_X0_isDigit, mh_at (by decide +kernel), inT_at 701 (by decide +kernel)⟩
theorem ml_99 : mlOk (24, 74, 105, 0) := ⟨mw_X9_run, mh_at (by decide +kernel), inT_at 704 (by decide +kernel)⟩
theorem ml_100 : mlOk (9, 96, 2, 0) := ⟨mw_X0_rewind, mh_at (by decide +kernel), inT_at 708 (by decide +kernel)⟩
theorem ml_101 : mlOk (9, 99, 4, 0) := ⟨mw_X0_readAct, mh_at (by decide +kernel), inT_at 709 (by decide +kernel)⟩
theorem ml_102 : mlOk (9, 103, 122, 0) := ⟨mw_X9_carryOutAct, mh_at (by decide +kernel), inT_at 710 (by decide +kernel)⟩
theorem ml_103 : mlOk (24, 78, 106, 0) := ⟨mw_X9_undo, mh_at (by decide +kernel), inT_at 714 (by decide +kernel)⟩
theorem ml_104 : mlOk (9, 109, 26, 0) := ⟨mw_X3_takeLatest, mh_at (by decide +kernel), inT_at 718 (by decide +kernel)⟩
theorem ml_105 : mlOk (24, 82, 107, 0) := ⟨mw_X9_save, mh_at (by decide +kernel), inT_at 722 (by decide +kernel)⟩
theorem ml_106 : mlOk (9, 112, 123, 0) := ⟨mw_X9_isSave, mh_at (by decide +kernel), inT_at 726 (by decide +kernel)⟩
theorem ml_107 : mlOk (9, 116, 57, 0) := ⟨mw_X8_copyFrom, mh_at (by decide +kernel), inT_at 729 (by decide +kernel)⟩
theorem ml_108 : mlOk (24, 86, 108, 0) := ⟨mw_X9_restore, mh_at (by decide +kernel), inT_at 730 (by decide +kernel)⟩
theorem ml_109 : mlOk (24, 90, 109, 0) := ⟨mw_X9_server, mh_at (by decide +kernel), inT_at 734 (by decide +kernel)⟩
theorem ml_110 : mlOk (9, 122, 58, 0) := ⟨mw_X8_isServer, mh_at (by decide +kernel), inT_at 738 (by decide +kernel)⟩
theorem ml_111 : mlOk (9, 125, 81, 0) := ⟨mw_X8_serverProperty, mh_at (by decide +kernel), inT_at 739 (by decide +kernel)⟩
theorem ml_112 : mlOk (8, 235, 82, 0) := ⟨mw_X8_childrenOf, mh_at (by decide +kernel), inT_at 743 (by decide +kernel)⟩
theorem ml_113 : mlOk (8, 238, 83, 0) := ⟨mw_X8_sitesAtHome, mh_at (by decide +kernel), inT_at 747 (by decide +kernel)⟩
theorem ml_114 : mlOk (8, 241, 76, 0) := ⟨mw_X8_homeOfSite, mh_at (by decide +kernel), inT_at 751 (by decide +kernel)⟩
theorem ml_115 : mlOk (24, 94, 110, 0) := ⟨mw_X9_site, mh_at (by decide +kernel), inT_at 755 (by decide +kernel)⟩
theorem ml_116 : mlOk (9, 128, 59, 0) := ⟨mw_X8_isSite, mh_at (by decide +kernel), inT_at 759 (by decide +kernel)⟩
theorem ml_117 : mlOk (9, 131, 84, 0) := ⟨mw_X8_siteProperty, mh_at (by decide +kernel), inT_at 760 (by decide +kernel)⟩
theorem ml_118 : mlOk (8, 244, 85, 0) := ⟨mw_X8_mapsOf, mh_at (by decide +kernel), inT_at 764 (by decide +kernel)⟩
theorem ml_119 : mlOk (8, 247, 35, 0) := ⟨mw_X4_placeOfSite, mh_at (by decide +kernel), inT_at 768 (by decide +kernel)⟩
theorem ml_120 : mlOk (24, 98, 111, 0) := ⟨mw_X9_slot, mh_at (by decide +kernel), inT_at 769 (by decide +kernel)⟩
theorem ml_121 : mlOk (9, 134, 124, 0) := ⟨mw_X9_isSlot, mh_at (by decide +kernel), inT_at 773 (by decide +kernel)⟩
theorem ml_122 : mlOk (9, 147, 48, 0) := ⟨mw_X7_propertyOf, mh_at (by decide +kernel), inT_at 774 (by decide +kernel)⟩
theorem ml_123 : mlOk (24, 102, 112, 0) := ⟨mw_X9_router, mh_at (by decide +kernel), inT_at 778 (by decide +kernel)⟩
theorem ml_124 : mlOk (9, 152, 60, 0) := ⟨mw_X8_isRouter, mh_at (by decide +kernel), inT_at 782 (by decide +kernel)⟩
theorem ml_125 : mlOk (9, 159, 31, 0) := ⟨mw_X4_property, mh_at (by decide +kernel), inT_at 783 (by decide +kernel)⟩
theorem ml_126 : mlOk (24, 106, 113, 0) := ⟨mw_X9_map, mh_at (by decide +kernel), inT_at 787 (by decide +kernel)⟩
theorem ml_127 : mlOk (9, 164, 30, 0) := ⟨mw_X4_isPlace, mh_at (by decide +kernel), inT_at 791 (by decide +kernel)⟩
theorem ml_128 : mlOk (9, 171, 21, 0) := ⟨mw_X2_property, mh_at (by decide +kernel), inT_at 792 (by decide +kernel)⟩
theorem ml_129 : mlOk (2, 51, 20, 0) := ⟨mw_X2_isHolding, mh_at (by decide +kernel), inT_at 796 (by decide +kernel)⟩
theorem ml_130 : mlOk (24, 110, 114, 0) := ⟨mw_X9_answer, mh_at (by decide +kernel), inT_at 797 (by decide +kernel)⟩
theorem ml_131 : mlOk (9, 178, 78, 0) := ⟨mw_X8_answerFor, mh_at (by decide +kernel), inT_at 801 (by decide +kernel)⟩
theorem ml_132 : mlOk (24, 114, 115, 0) := ⟨mw_X9_way, mh_at (by decide +kernel), inT_at 802 (by decide +kernel)⟩
theorem ml_133 : mlOk (9, 181, 75, 0) := ⟨mw_X8_homeOf, mh_at (by decide +kernel), inT_at 806 (by decide +kernel)⟩
theorem ml_134 : mlOk (9, 184, 77, 0) := ⟨mw_X8_hopsTo, mh_at (by decide +kernel), inT_at 807 (by decide +kernel)⟩
theorem ml_135 : mlOk (24, 118, 116, 0) := ⟨mw_X9_endingNext, mh_at (by decide +kernel), inT_at 808 (by decide +kernel)⟩
theorem ml_136 : mlOk (9, 187, 79, 0) := ⟨mw_X8_siteEndingAt, mh_at (by decide +kernel), inT_at 812 (by decide +kernel)⟩
theorem ml_137 : mlOk (8, 232, 80, 0) := ⟨mw_X8_sitesEndingAheadOf, mh_at (by decide +kernel), inT_at 816 (by decide +kernel)⟩
theorem ml_138 : mlOk (24, 122, 117, 0) := ⟨mw_X9_total, mh_at (by decide +kernel), inT_at 820 (by decide +kernel)⟩
theorem ml_139 : mlOk (9, 190, 86, 0) := ⟨mw_X8_totalOf, mh_at (by decide +kernel), inT_at 824 (by decide +kernel)⟩
theorem ml_140 : mlOk (8, 250, 87, 0) := ⟨mw_X8_sitesUp, mh_at (by decide +kernel), inT_at 828 (by decide +kernel)⟩
theorem ml_141 : mlOk (8, 254, 88, 0) := ⟨mw_X8_sumOverRouters, mh_at (by decide +kernel), inT_at 832 (by decide +kernel)⟩
theorem ml_142 : mlOk (8, 260, 31, 0) := ⟨mw_X4_property, mh_at (by decide +kernel), inT_at 836 (by decide +kernel)⟩
theorem ml_143 : mlOk (8, 257, 89, 0) := ⟨mw_X8_namesWithAnswer, mh_at (by decide +kernel), inT_at 837 (by decide +kernel)⟩
theorem ml_144 : mlOk (24, 126, 118, 0) := ⟨mw_X9_wouldReach, mh_at (by decide +kernel), inT_at 841 (by decide +kernel)⟩
theorem ml_145 : mlOk (24, 131, 119, 0) := ⟨mw_X9_wouldAsk, mh_at (by decide +kernel), inT_at 845 (by decide +kernel)⟩
theorem ml_146 : mlOk (24, 135, 120, 0) := ⟨mw_X9_share, mh_at (by decide +kernel), inT_at 849 (by decide +kernel)⟩
theorem ml_147 : mlOk (9, 196, 127, 0) := ⟨mw_X9_isPlaceOfSlot, mh_at (by decide +kernel), inT_at 853 (by decide +kernel)⟩
theorem ml_148 : mlOk (9, 199, 55, 0) := ⟨mw_X7_flowsTo, mh_at (by decide +kernel), inT_at 854 (by decide +kernel)⟩
theorem ml_149 : mlOk (7, 35, 54, 0) := ⟨mw_X7_placeFor, mh_at (by decide +kernel), inT_at 858 (by decide +kernel)⟩
theorem ml_150 : mlOk (24, 12, 129, 0) := ⟨mw_X10_init, mh_at (by decide +kernel), inT_at 861 (by decide +kernel)⟩
theorem ml_151 : mlOk (24, 81, 141, 0) := ⟨mw_X10_undo, mh_at (by decide +kernel), inT_at 902 (by decide +kernel)⟩
theorem ml_152 : mlOk (10, 34, 139, 0) := ⟨mw_X10_brings, mh_at (by decide +kernel), inT_at 906 (by decide +kernel)⟩
theorem ml_153 : mlOk (24, 85, 142, 0) := ⟨mw_X10_save, mh_at (by decide +kernel), inT_at 910 (by decide +kernel)⟩
theorem ml_154 : mlOk (10, 22, 130, 0) := ⟨mw_X10_isIn, mh_at (by decide +kernel), inT_at 914 (by decide +kernel)⟩
theorem ml_155 : mlOk (10, 30, 138, 0) := ⟨mw_X10_keeps, mh_at (by decide +kernel), inT_at 917 (by decide +kernel)⟩
theorem ml_156 : mlOk (24, 89, 143, 0) := ⟨mw_X10_restore, mh_at (by decide +kernel), inT_at 921 (by decide +kernel)⟩
theorem ml_157 : mlOk (10, 37, 140, 0) := ⟨mw_X10_records, mh_at (by decide +kernel), inT_at 925 (by decide +kernel)⟩
theorem ml_158 : mlOk (24, 117, 150, 0) := ⟨mw_X10_way, mh_at (by decide +kernel), inT_at 929 (by decide +kernel)⟩
theorem ml_159 : mlOk (10, 40, 134, 0) := ⟨mw_X10_isName, mh_at (by decide +kernel), inT_at 933 (by decide +kernel)⟩
theorem ml_160 : mlOk (10, 54, 148, 0) := ⟨mw_X10_homeOf, mh_at (by decide +kernel), inT_at 936 (by decide +kernel)⟩
theorem ml_161 : mlOk (10, 51, 147, 0) := ⟨mw_X10_holds, mh_at (by decide +kernel), inT_at 940 (by decide +kernel)⟩
theorem ml_162 : mlOk (10, 44, 145, 0) := ⟨mw_X10_firstOf, mh_at (by decide +kernel), inT_at 944 (by decide +kernel)⟩
theorem ml_163 : mlOk (10, 48, 146, 0) := ⟨mw_X10_sizeOf, mh_at (by decide +kernel), inT_at 948 (by decide +kernel)⟩
theorem ml_164 : mlOk (10, 58, 149, 0) := ⟨mw_X10_wayTo, mh_at (by decide +kernel), inT_at 952 (by decide +kernel)⟩
theorem ml_165 : mlOk (24, 17, 151, 0) := ⟨mw_X10_addServer, mh_at (by decide +kernel), inT_at 956 (by decide +kernel)⟩
theorem ml_166 : mlOk (10, 61, 131, 0) := ⟨mw_X10_isServer, mh_at (by decide +kernel), inT_at 960 (by decide +kernel)⟩
theorem ml_167 : mlOk (10, 64, 144, 0) := ⟨mw_X10_isBlock, mh_at (by decide +kernel), inT_at 964 (by decide +kernel)⟩
theorem ml_168 : mlOk (24, 113, 158, 0) := ⟨mw_X10_answer, mh_at (by decide +kernel), inT_at 967 (by decide +kernel)⟩
theorem ml_169 : mlOk (10, 86, 157, 0) := ⟨mw_X10_answerOf, mh_at (by decide +kernel), inT_at 971 (by decide +kernel)⟩
theorem ml_170 : mlOk (10, 77, 156, 0) := ⟨mw_X10_isUp, mh_at (by decide +kernel), inT_at 975 (by decide +kernel)⟩
theorem ml_171 : mlOk (10, 71, 152, 0) := ⟨mw_X10_ofSite, mh_at (by decide +kernel), inT_at 979 (by decide +kernel)⟩
theorem ml_172 : mlOk (10, 68, 135, 0) := ⟨mw_X10_siteAt, mh_at (by decide +kernel), inT_at 983 (by decide +kernel)⟩
theorem ml_173 : mlOk (10, 74, 155, 0) := ⟨mw_X10_isRegistered, mh_at (by decide +kernel), inT_at 986 (by decide +kernel)⟩
theorem ml_174 : mlOk (10, 80, 153, 0) := ⟨mw_X10_has, mh_at (by decide +kernel), inT_at 990 (by decide +kernel)⟩
theorem ml_175 : mlOk (10, 83, 154, 0) := ⟨mw_X10_homeOfSite, mh_at (by decide +kernel), inT_at 994 (by decide +kernel)⟩
theorem ml_176 : mlOk (24, 21, 159, 0) := ⟨mw_X10_addSite, mh_at (by decide +kernel), inT_at 998 (by decide +kernel)⟩
theorem ml_177 : mlOk (24, 26, 160, 0) := ⟨mw_X10_addRouter, mh_at (by decide +kernel), inT_at 1002 (by decide +kernel)⟩
theorem ml_178 : mlOk (10, 89, 136, 0) := ⟨mw_X10_routerAt, mh_at (by decide +kernel), inT_at 1006 (by decide +kernel)⟩
theorem ml_179 : mlOk (24, 31, 161, 0) := ⟨mw_X10_setSlot, mh_at (by decide +kernel), inT_at 1009 (by decide +kernel)⟩
theorem ml_180 : mlOk (10, 92, 132, 0) := ⟨mw_X10_isSite, mh_at (by decide +kernel), inT_at 1013 (by decide +kernel)⟩
theorem ml_181 : mlOk (24, 36, 162, 0) := ⟨mw_X10_emptySlot, mh_at (by decide +kernel), inT_at 1017 (by decide +kernel)⟩
theorem ml_182 : mlOk (24, 41, 164, 0) := ⟨mw_X10_register, mh_at (by decide +kernel), inT_at 1021 (by decide +kernel)⟩
theorem ml_183 : mlOk (10, 95, 163, 0) := ⟨mw_X10_registers, mh_at (by decide +kernel), inT_at 1025 (by decide +kernel)⟩
theorem ml_184 : mlOk (24, 45, 167, 0) := ⟨mw_X10_unregister, mh_at (by decide +kernel), inT_at 1029 (by decide +kernel)⟩
theorem ml_185 : mlOk (10, 98, 165, 0) := ⟨mw_X10_unregisterError, mh_at (by decide +kernel), inT_at 1033 (by decide +kernel)⟩
theorem ml_186 : mlOk (10, 101, 166, 0) := ⟨mw_X10_unregisters, mh_at (by decide +kernel), inT_at 1037 (by decide +kernel)⟩
theorem ml_187 : mlOk (24, 49, 168, 0) := ⟨mw_X10_setMapLife, mh_at (by decide +kernel), inT_at 1041 (by decide +kernel)⟩
theorem ml_188 : mlOk (24, 53, 181, 0) := ⟨mw_X10_send, mh_at (by decide +kernel), inT_at 1045 (by decide +kernel)⟩
theorem ml_189 : mlOk (10, 139, 133, 0) := ⟨mw_X10_isRouter, mh_at (by decide +kernel), inT_at 1049 (by decide +kernel)⟩
theorem ml_190 : mlOk (10, 142, 180, 0) := ⟨mw_X10_isLetter, mh_at (by decide +kernel), inT_at 1053 (by decide +kernel)⟩
theorem ml_191 : mlOk (10, 145, 179, 0) := ⟨mw_X10_sends, mh_at (by decide +kernel), inT_at 1056 (by decide +kernel)⟩
theorem ml_192 : mlOk (10, 121, 177, 0) := ⟨mw_X10_takes, mh_at (by decide +kernel), inT_at 1060 (by decide +kernel)⟩
theorem ml_193 : mlOk (10, 107, 169, 0) := ⟨mw_X10_mapsOf, mh_at (by decide +kernel), inT_at 1064 (by decide +kernel)⟩
theorem ml_194 : mlOk (10, 110, 170, 0) := ⟨mw_X10_ofMap, mh_at (by decide +kernel), inT_at 1068 (by decide +kernel)⟩
theorem ml_195 : mlOk (10, 104, 137, 0) := ⟨mw_X10_mapAt, mh_at (by decide +kernel), inT_at 1072 (by decide +kernel)⟩
theorem ml_196 : mlOk (10, 114, 171, 0) := ⟨mw_X10_drops, mh_at (by decide +kernel), inT_at 1075 (by decide +kernel)⟩
theorem ml_197 : mlOk (10, 124, 174, 0) := ⟨mw_X10_asks, mh_at (by decide +kernel), inT_at 1079 (by decide +kernel)⟩
theorem ml_198 : mlOk (10, 118, 172, 0) := ⟨mw_X10_makesRoom, mh_at (by decide +kernel), inT_at 1083 (by decide +kernel)⟩
theorem ml_199 : mlOk (10, 127, 178, 0) := ⟨mw_X10_proxy, mh_at (by decide +kernel), inT_at 1087 (by decide +kernel)⟩
theorem ml_200 : mlOk (10, 130, 173, 0) := ⟨mw_X10_uses, mh_at (by decide +kernel), inT_at 1091 (by decide +kernel)⟩
theorem ml_201 : mlOk (10, 133, 175, 0) := ⟨mw_X10_chosen, mh_at (by decide +kernel), inT_at 1095 (by decide +kernel)⟩
theorem ml_202 : mlOk (10, 136, 176, 0) := ⟨mw_X10_isAt, mh_at (by decide +kernel), inT_at 1099 (by decide +kernel)⟩
theorem ml_203 : mlOk (24, 57, 182, 0) := ⟨mw_X10_pass, mh_at (by decide +kernel), inT_at 1103 (by decide +kernel)⟩
theorem ml_204 : mlOk (24, 61, 183, 0) := ⟨mw_X10_forget, mh_at (by decide +kernel), inT_at 1107 (by decide +kernel)⟩
theorem ml_205 : mlOk (24, 65, 184, 0) := ⟨mw_X10_append, mh_at (by decide +kernel), inT_at 1111 (by decide +kernel)⟩
theorem ml_206 : mlOk (24, 69, 185, 0) := ⟨mw_X10_clearText, mh_at (by decide +kernel), inT_at 1115 (by decide +kernel)⟩
theorem ml_207 : mlOk (24, 73, 192, 0) := ⟨mw_X10_faultPosition, mh_at (by decide +kernel), inT_at 1119 (by decide +kernel)⟩
theorem ml_208 : mlOk (10, 185, 191, 0) := ⟨mw_X10_faultOf, mh_at (by decide +kernel), inT_at 1123 (by decide +kernel)⟩
theorem ml_209 : mlOk (10, 182, 190, 0) := ⟨mw_X10_passesAct, mh_at (by decide +kernel), inT_at 1127 (by decide +kernel)⟩
theorem ml_210 : mlOk (10, 179, 189, 0) := ⟨mw_X10_passesLetter, mh_at (by decide +kernel), inT_at 1131 (by decide +kernel)⟩
theorem ml_211 : mlOk (10, 161, 188, 0) := ⟨mw_X10_passesNumber, mh_at (by decide +kernel), inT_at 1135 (by decide +kernel)⟩
theorem ml_212 : mlOk (10, 154, 187, 0) := ⟨mw_X10_isDigitHere, mh_at (by decide +kernel), inT_at 1139 (by decide +kernel)⟩
theorem ml_213 : mlOk (10, 167, 186, 0) := ⟨mw_X10_passesSign, mh_at (by decide +kernel), inT_at 1143 (by decide +kernel)⟩
theorem ml_214 : mlOk (24, 77, 194, 0) := ⟨mw_X10_run, mh_at (by decide +kernel), inT_at 1147 (by decide +kernel)⟩
theorem ml_215 : mlOk (10, 189, 193, 0) := ⟨mw_X10_does, mh_at (by decide +kernel), inT_at 1151 (by decide +kernel)⟩
theorem ml_216 : mlOk (24, 93, 197, 0) := ⟨mw_X10_server, mh_at (by decide +kernel), inT_at 1155 (by decide +kernel)⟩
theorem ml_217 : mlOk (10, 192, 195, 0) := ⟨mw_X10_children, mh_at (by decide +kernel), inT_at 1159 (by decide +kernel)⟩
theorem ml_218 : mlOk (10, 195, 196, 0) := ⟨mw_X10_sitesOf, mh_at (by decide +kernel), inT_at 1163 (by decide +kernel)⟩
theorem ml_219 : mlOk (24, 97, 199, 0) := ⟨mw_X10_site, mh_at (by decide +kernel), inT_at 1167 (by decide +kernel)⟩
theorem ml_220 : mlOk (10, 198, 198, 0) := ⟨mw_X10_copiesOf, mh_at (by decide +kernel), inT_at 1171 (by decide +kernel)⟩
theorem ml_221 : mlOk (24, 101, 200, 0) := ⟨mw_X10_slot, mh_at (by decide +kernel), inT_at 1175 (by decide +kernel)⟩
theorem ml_222 : mlOk (24, 105, 201, 0) := ⟨mw_X10_router, mh_at (by decide +kernel), inT_at 1179 (by decide +kernel)⟩
theorem ml_223 : mlOk (24, 109, 202, 0) := ⟨mw_X10_map, mh_at (by decide +kernel), inT_at 1183 (by decide +kernel)⟩
theorem ml_224 : mlOk (24, 121, 204, 0) := ⟨mw_X10_endingNext, mh_at (by decide +kernel), inT_at 1187 (by decide +kernel)⟩
theorem ml_225 : mlOk (10, 201, 203, 0) := ⟨mw_X10_isAhead, mh_at (by decide +kernel), inT_at 1191 (by decide +kernel)⟩
theorem ml_226 : mlOk (24, 125, 208, 0) := ⟨mw_X10_total, mh_at (by decide +kernel), inT_at 1195 (by decide +kernel)⟩
theorem ml_227 : mlOk (10, 204, 205, 0) := ⟨mw_X10_upMany, mh_at (by decide +kernel), inT_at 1199 (by decide +kernel)⟩
theorem ml_228 : mlOk (10, 207, 206, 0) := ⟨mw_X10_sumOf, mh_at (by decide +kernel), inT_at 1203 (by decide +kernel)⟩
theorem ml_229 : mlOk (10, 210, 207, 0) := ⟨mw_X10_answered, mh_at (by decide +kernel), inT_at 1207 (by decide +kernel)⟩
theorem ml_230 : mlOk (24, 130, 209, 0) := ⟨mw_X10_wouldReach, mh_at (by decide +kernel), inT_at 1211 (by decide +kernel)⟩
theorem ml_231 : mlOk (24, 134, 210, 0) := ⟨mw_X10_wouldAsk, mh_at (by decide +kernel), inT_at 1215 (by decide +kernel)⟩
theorem ml_232 : mlOk (24, 138, 211, 0) := ⟨mw_X10_share, mh_at (by decide +kernel), inT_at 1219 (by decide +kernel)⟩
theorem ml_233 : mlOk (8, 36, 38, 1) := ⟨mw_X5_init, mh_at (by decide +kernel), inT_at 99 (by decide +kernel)⟩
theorem ml_234 : mlOk (5, 11, 10, 1) := ⟨mw_X1_init, mh_at (by decide +kernel), inT_at 105 (by decide +kernel)⟩
theorem ml_235 : mlOk (8, 47, 40, 1) := ⟨mw_X6_init, mh_at (by decide +kernel), inT_at 133 (by decide +kernel)⟩
theorem ml_236 : mlOk (6, 11, 10, 1) := ⟨mw_X1_init, mh_at (by decide +kernel), inT_at 138 (by decide +kernel)⟩
theorem ml_237 : mlOk (6, 20, 45, 1) := ⟨mw_X7_init, mh_at (by decide +kernel), inT_at 141 (by decide +kernel)⟩
theorem ml_238 : mlOk (4, 17, 17, 1) := ⟨mw_X2_init, mh_at (by decide +kernel), inT_at 183 (by decide +kernel)⟩
theorem ml_239 : mlOk (2, 11, 10, 1) := ⟨mw_X1_init, mh_at (by decide +kernel), inT_at 188 (by decide +kernel)⟩
theorem ml_240 : mlOk (2, 20, 45, 1) := ⟨mw_X7_init, mh_at (by decide +kernel), inT_at 190 (by decide +kernel)⟩
theorem ml_241 : mlOk (9, 36, 0, 1) := ⟨mw_X0_init, mh_at (by decide +kernel), inT_at 297 (by decide +kernel)⟩
theorem ml_242 : mlOk (8, 72, 128, 1) := ⟨mw_X9_isBlock, mh_at (by decide +kernel), inT_at 406 (by decide +kernel)⟩
theorem ml_243 : mlOk (7, 15, 124, 1) := ⟨mw_X9_isSlot, mh_at (by decide +kernel), inT_at 455 (by decide +kernel)⟩
theorem ml_244 : mlOk (8, 101, 124, 1) := ⟨mw_X9_isSlot, mh_at (by decide +kernel), inT_at 482 (by decide +kernel)⟩
theorem ml_245 : mlOk (8, 104, 127, 1) := ⟨mw_X9_isPlaceOfSlot, mh_at (by decide +kernel), inT_at 483 (by decide +kernel)⟩
theorem ml_246 : mlOk (8, 138, 125, 1) := ⟨mw_X9_isName, mh_at (by decide +kernel), inT_at 539 (by decide +kernel)⟩
theorem ml_247 : mlOk (8, 141, 126, 1) := ⟨mw_X9_isFlow, mh_at (by decide +kernel), inT_at 540 (by decide +kernel)⟩
set_option maxRecDepth 100000 in
theorem mlT_ok : ∀ q ∈ mlT, mlOk q := List.forall_mem_cons.mpr ⟨ml_0, List.forall_mem_cons.mpr ⟨ml_1, List.forall_mem_cons.mpr ⟨ml_2, List.forall_mem_cons.mpr ⟨ml_3, List.forall_mem_cons.mpr ⟨ml_4, List.forall_mem_cons.mpr ⟨ml_5, List.forall_mem_cons.mpr ⟨ml_6, List.forall_mem_cons.mpr ⟨ml_7, List.forall_mem_cons.mpr ⟨ml_8, List.forall_mem_cons.mpr ⟨ml_9, List.forall_mem_cons.mpr ⟨ml_10, List.forall_mem_cons.mpr ⟨ml_11, List.forall_mem_cons.mpr ⟨ml_12, List.forall_mem_cons.mpr ⟨ml_13, List.forall_mem_cons.mpr ⟨ml_14, List.forall_mem_cons.mpr ⟨ml_15, List.forall_mem_cons.mpr ⟨ml_16, List.forall_mem_cons.mpr ⟨ml_17, List.forall_mem_cons.mpr ⟨ml_18, List.forall_mem_cons.mpr ⟨ml_19, List.forall_mem_cons.mpr ⟨ml_20, List.forall_mem_cons.mpr ⟨ml_21, List.forall_mem_cons.mpr ⟨ml_22, List.forall_mem_cons.mpr ⟨ml_23, List.forall_mem_cons.mpr ⟨ml_24, List.forall_mem_cons.mpr ⟨ml_25, List.forall_mem_cons.mpr ⟨ml_26, List.forall_mem_cons.mpr ⟨ml_27, List.forall_mem_cons.mpr ⟨ml_28, List.forall_mem_cons.mpr ⟨ml_29, List.forall_mem_cons.mpr ⟨ml_30, List.forall_mem_cons.mpr ⟨ml_31, List.forall_mem_cons.mpr ⟨ml_32, List.forall_mem_cons.mpr ⟨ml_33, List.forall_mem_cons.mpr ⟨ml_34, List.forall_mem_cons.mpr ⟨ml_35, List.forall_mem_cons.mpr ⟨ml_36, List.forall_mem_cons.mpr ⟨ml_37, List.forall_mem_cons.mpr ⟨ml_38, List.forall_mem_cons.mpr ⟨ml_39, List.forall_mem_cons.mpr ⟨ml_40, List.forall_mem_cons.mpr ⟨ml_41, List.forall_mem_cons.mpr ⟨ml_42, List.forall_mem_cons.mpr ⟨ml_43, List.forall_mem_cons.mpr ⟨ml_44, List.forall_mem_cons.mpr ⟨ml_45, List.forall_mem_cons.mpr ⟨ml_46, List.forall_mem_cons.mpr ⟨ml_47, List.forall_mem_cons.mpr ⟨ml_48, List.forall_mem_cons.mpr ⟨ml_49, List.forall_mem_cons.mpr ⟨ml_50, List.forall_mem_cons.mpr ⟨ml_51, List.forall_mem_cons.mpr ⟨ml_52, List.forall_mem_cons.mpr ⟨ml_53, List.forall_mem_cons.mpr ⟨ml_54, List.forall_mem_cons.mpr ⟨ml_55, List.forall_mem_cons.mpr ⟨ml_56, List.forall_mem_cons.mpr ⟨ml_57, List.forall_mem_cons.mpr ⟨ml_58, List.forall_mem_cons.mpr ⟨ml_59, List.forall_mem_cons.mpr ⟨ml_60, List.forall_mem_cons.mpr ⟨ml_61, List.forall_mem_cons.mpr ⟨ml_62, List.forall_mem_cons.mpr ⟨ml_63, List.forall_mem_cons.mpr ⟨ml_64, List.forall_mem_cons.mpr ⟨ml_65, List.forall_mem_cons.mpr ⟨ml_66, List.forall_mem_cons.mpr ⟨ml_67, List.forall_mem_cons.mpr ⟨ml_68, List.forall_mem_cons.mpr ⟨ml_69, List.forall_mem_cons.mpr ⟨ml_70, List.forall_mem_cons.mpr ⟨ml_71, List.forall_mem_cons.mpr ⟨ml_72, List.forall_mem_cons.mpr ⟨ml_73, List.forall_mem_cons.mpr ⟨ml_74, List.forall_mem_cons.mpr ⟨ml_75, List.forall_mem_cons.mpr ⟨ml_76, List.forall_mem_cons.mpr ⟨ml_77, List.forall_mem_cons.mpr ⟨ml_78, List.forall_mem_cons.mpr ⟨ml_79, List.forall_mem_cons.mpr ⟨ml_80, List.forall_mem_cons.mpr ⟨ml_81, List.forall_mem_cons.mpr ⟨ml_82, List.forall_mem_cons.mpr ⟨ml_83, List.forall_mem_cons.mpr ⟨ml_84, List.forall_mem_cons.mpr ⟨ml_85, List.forall_mem_cons.mpr ⟨ml_86, List.forall_mem_cons.mpr ⟨ml_87, List.forall_mem_cons.mpr ⟨ml_88, List.forall_mem_cons.mpr ⟨ml_89, List.forall_mem_cons.mpr ⟨ml_90, List.forall_mem_cons.mpr ⟨ml_91, List.forall_mem_cons.mpr ⟨ml_92, List.forall_mem_cons.mpr ⟨ml_93, List.forall_mem_cons.mpr ⟨ml_94, List.forall_mem_cons.mpr ⟨ml_95, List.forall_mem_cons.mpr ⟨ml_96, List.forall_mem_cons.mpr ⟨ml_97, List.forall_mem_cons.mpr ⟨ml_98, List.forall_mem_cons.mpr ⟨ml_99, List.forall_mem_cons.mpr ⟨ml_100, List.forall_mem_cons.mpr ⟨ml_101, List.forall_mem_cons.mpr ⟨ml_102, List.forall_mem_cons.mpr ⟨ml_103, List.forall_mem_cons.mpr ⟨ml_104, List.forall_mem_cons.mpr ⟨ml_105, List.forall_mem_cons.mpr ⟨ml_106, List.forall_mem_cons.mpr ⟨ml_107, List.forall_mem_cons.mpr ⟨ml_108, List.forall_mem_cons.mpr ⟨ml_109, List.forall_mem_cons.mpr ⟨ml_110, List.forall_mem_cons.mpr ⟨ml_111, List.forall_mem_cons.mpr ⟨ml_112, List.forall_mem_cons.mpr ⟨ml_113, List.forall_mem_cons.mpr ⟨ml_114, List.forall_mem_cons.mpr ⟨ml_115, List.forall_mem_cons.mpr ⟨ml_116, List.forall_mem_cons.mpr ⟨ml_117, List.forall_mem_cons.mpr ⟨ml_118, List.forall_mem_cons.mpr ⟨ml_119, List.forall_mem_cons.mpr ⟨ml_120, List.forall_mem_cons.mpr ⟨ml_121, List.forall_mem_cons.mpr ⟨ml_122, List.forall_mem_cons.mpr ⟨ml_123, List.forall_mem_cons.mpr ⟨ml_124, List.forall_mem_cons.mpr ⟨ml_125, List.forall_mem_cons.mpr ⟨ml_126, List.forall_mem_cons.mpr ⟨ml_127, List.forall_mem_cons.mpr ⟨ml_128, List.forall_mem_cons.mpr ⟨ml_129, List.forall_mem_cons.mpr ⟨ml_130, List.forall_mem_cons.mpr ⟨ml_131, List.forall_mem_cons.mpr ⟨ml_132, List.forall_mem_cons.mpr ⟨ml_133, List.forall_mem_cons.mpr ⟨ml_134, List.forall_mem_cons.mpr ⟨ml_135, List.forall_mem_cons.mpr ⟨ml_136, List.forall_mem_cons.mpr ⟨ml_137, List.forall_mem_cons.mpr ⟨ml_138, List.forall_mem_cons.mpr ⟨ml_139, List.forall_mem_cons.mpr ⟨ml_140, List.forall_mem_cons.mpr ⟨ml_141, List.forall_mem_cons.mpr ⟨ml_142, List.forall_mem_cons.mpr ⟨ml_143, List.forall_mem_cons.mpr ⟨ml_144, List.forall_mem_cons.mpr ⟨ml_145, List.forall_mem_cons.mpr ⟨ml_146, List.forall_mem_cons.mpr ⟨ml_147, List.forall_mem_cons.mpr ⟨ml_148, List.forall_mem_cons.mpr ⟨ml_149, List.forall_mem_cons.mpr ⟨ml_150, List.forall_mem_cons.mpr ⟨ml_151, List.forall_mem_cons.mpr ⟨ml_152, List.forall_mem_cons.mpr ⟨ml_153, List.forall_mem_cons.mpr ⟨ml_154, List.forall_mem_cons.mpr ⟨ml_155, List.forall_mem_cons.mpr ⟨ml_156, List.forall_mem_cons.mpr ⟨ml_157, List.forall_mem_cons.mpr ⟨ml_158, List.forall_mem_cons.mpr ⟨ml_159, List.forall_mem_cons.mpr ⟨ml_160, List.forall_mem_cons.mpr ⟨ml_161, List.forall_mem_cons.mpr ⟨ml_162, List.forall_mem_cons.mpr ⟨ml_163, List.forall_mem_cons.mpr ⟨ml_164, List.forall_mem_cons.mpr ⟨ml_165, List.forall_mem_cons.mpr ⟨ml_166, List.forall_mem_cons.mpr ⟨ml_167, List.forall_mem_cons.mpr ⟨ml_168, List.forall_mem_cons.mpr ⟨ml_169, List.forall_mem_cons.mpr ⟨ml_170, List.forall_mem_cons.mpr ⟨ml_171, List.forall_mem_cons.mpr ⟨ml_172, List.forall_mem_cons.mpr ⟨ml_173, List.forall_mem_cons.mpr ⟨ml_174, List.forall_mem_cons.mpr ⟨ml_175, List.forall_mem_cons.mpr ⟨ml_176, List.forall_mem_cons.mpr ⟨ml_177, List.forall_mem_cons.mpr ⟨ml_178, List.forall_mem_cons.mpr ⟨ml_179, List.forall_mem_cons.mpr ⟨ml_180, List.forall_mem_cons.mpr ⟨ml_181, List.forall_mem_cons.mpr ⟨ml_182, List.forall_mem_cons.mpr ⟨ml_183, List.forall_mem_cons.mpr ⟨ml_184, List.forall_mem_cons.mpr ⟨ml_185, List.forall_mem_cons.mpr ⟨ml_186, List.forall_mem_cons.mpr ⟨ml_187, List.forall_mem_cons.mpr ⟨ml_188, List.forall_mem_cons.mpr ⟨ml_189, List.forall_mem_cons.mpr ⟨ml_190, List.forall_mem_cons.mpr ⟨ml_191, List.forall_mem_cons.mpr ⟨ml_192, List.forall_mem_cons.mpr ⟨ml_193, List.forall_mem_cons.mpr ⟨ml_194, List.forall_mem_cons.mpr ⟨ml_195, List.forall_mem_cons.mpr ⟨ml_196, List.forall_mem_cons.mpr ⟨ml_197, List.forall_mem_cons.mpr ⟨ml_198, List.forall_mem_cons.mpr ⟨ml_199, List.forall_mem_cons.mpr ⟨ml_200, List.forall_mem_cons.mpr ⟨ml_201, List.forall_mem_cons.mpr ⟨ml_202, List.forall_mem_cons.mpr ⟨ml_203, List.forall_mem_cons.mpr ⟨ml_204, List.forall_mem_cons.mpr ⟨ml_205, List.forall_mem_cons.mpr ⟨ml_206, List.forall_mem_cons.mpr ⟨ml_207, List.forall_mem_cons.mpr ⟨ml_208, List.forall_mem_cons.mpr ⟨ml_209, List.forall_mem_cons.mpr ⟨ml_210, List.forall_mem_cons.mpr ⟨ml_211, List.forall_mem_cons.mpr ⟨ml_212, List.forall_mem_cons.mpr ⟨ml_213, List.forall_mem_cons.mpr ⟨ml_214, List.forall_mem_cons.mpr ⟨ml_215, List.forall_mem_cons.mpr ⟨ml_216, List.forall_mem_cons.mpr ⟨ml_217, List.forall_mem_cons.mpr ⟨ml_218, List.forall_mem_cons.mpr ⟨ml_219, List.forall_mem_cons.mpr ⟨ml_220, List.forall_mem_cons.mpr ⟨ml_221, List.forall_mem_cons.mpr ⟨ml_222, List.forall_mem_cons.mpr ⟨ml_223, List.forall_mem_cons.mpr ⟨ml_224, List.forall_mem_cons.mpr ⟨ml_225, List.forall_mem_cons.mpr ⟨ml_226, List.forall_mem_cons.mpr ⟨ml_227, List.forall_mem_cons.mpr ⟨ml_228, List.forall_mem_cons.mpr ⟨ml_229, List.forall_mem_cons.mpr ⟨ml_230, List.forall_mem_cons.mpr ⟨ml_231, List.forall_mem_cons.mpr ⟨ml_232, List.forall_mem_cons.mpr ⟨ml_233, List.forall_mem_cons.mpr ⟨ml_234, List.forall_mem_cons.mpr ⟨ml_235, List.forall_mem_cons.mpr ⟨ml_236, List.forall_mem_cons.mpr ⟨ml_237, List.forall_mem_cons.mpr ⟨ml_238, List.forall_mem_cons.mpr ⟨ml_239, List.forall_mem_cons.mpr ⟨ml_240, List.forall_mem_cons.mpr ⟨ml_241, List.forall_mem_cons.mpr ⟨ml_242, List.forall_mem_cons.mpr ⟨ml_243, List.forall_mem_cons.mpr ⟨ml_244, List.forall_mem_cons.mpr ⟨ml_245, List.forall_mem_cons.mpr ⟨ml_246, List.forall_mem_cons.mpr ⟨ml_247, fun _ h => absurd h List.not_mem_nil⟩⟩⟩⟩⟩⟩⟩⟩⟩⟩⟩⟩⟩⟩⟩⟩⟩⟩⟩⟩⟩⟩⟩⟩⟩⟩⟩⟩⟩⟩⟩⟩⟩⟩⟩⟩⟩⟩⟩⟩⟩⟩⟩⟩⟩⟩⟩⟩⟩⟩⟩⟩⟩⟩⟩⟩⟩⟩⟩⟩⟩⟩⟩⟩⟩⟩⟩⟩⟩⟩⟩⟩⟩⟩⟩⟩⟩⟩⟩⟩⟩⟩⟩⟩⟩⟩⟩⟩⟩⟩⟩⟩⟩⟩⟩⟩⟩⟩⟩⟩⟩⟩⟩⟩⟩⟩⟩⟩⟩⟩⟩⟩⟩⟩⟩⟩⟩⟩⟩⟩⟩⟩⟩⟩⟩⟩⟩⟩⟩⟩⟩⟩⟩⟩⟩⟩⟩⟩⟩⟩⟩⟩⟩⟩⟩⟩⟩⟩⟩⟩⟩⟩⟩⟩⟩⟩⟩⟩⟩⟩⟩⟩⟩⟩⟩⟩⟩⟩⟩⟩⟩⟩⟩⟩⟩⟩⟩⟩⟩⟩⟩⟩⟩⟩⟩⟩⟩⟩⟩⟩⟩⟩⟩⟩⟩⟩⟩⟩⟩⟩⟩⟩⟩⟩⟩⟩⟩⟩⟩⟩⟩⟩⟩⟩⟩⟩⟩⟩⟩⟩⟩⟩⟩⟩⟩⟩⟩⟩⟩⟩⟩⟩⟩⟩⟩⟩⟩⟩⟩⟩⟩⟩⟩⟩⟩⟩⟩⟩
theorem ck_265 : inT (.constant RJ6 265 1431655765) := inT_at 412 (by decide +kernel)
theorem ck_266 : inT (.constant RJ6 266 858993459) := inT_at 413 (by decide +kernel)
theorem ck_267 : inT (.constant RJ6 267 252645135) := inT_at 414 (by decide +kernel)
theorem mmin_ok : inT (.methodLink RX7 22 Lib.Math.min.name) ∧ inT (.static Lib.Math.min.name) ∧ inT (.initialized "java/lang/Math") ∧ inT (.code Lib.Math.min.name Lib.Math.min.code 2 (some .int)) := ⟨inT_at 630 (by decide +kernel), inT_at 631 (by decide +kernel), inT_at 76 (by decide +kernel), inT_at 632 (by decide +kernel)⟩
theorem wx_0 : ∀ w ∈ u_ws RX0 TX0 8, inT w := by
  intro w hw
  obtain ⟨k, hk, rfl⟩ := List.mem_map.mp hw
  have hk : k < 8 := List.mem_range.mp hk
  match k, hk with
  | 0, _ => exact inT_at 314 (by decide +kernel)
  | 1, _ => exact inT_at 316 (by decide +kernel)
  | 2, _ => exact inT_at 318 (by decide +kernel)
  | 3, _ => exact inT_at 320 (by decide +kernel)
  | 4, _ => exact inT_at 322 (by decide +kernel)
  | 5, _ => exact inT_at 324 (by decide +kernel)
  | 6, _ => exact inT_at 326 (by decide +kernel)
  | 7, _ => exact inT_at 328 (by decide +kernel)
  | k + 8, h => exact absurd h (by omega)
theorem wx_1 : ∀ w ∈ u_ws RX1 TX1 2, inT w := by
  intro w hw
  obtain ⟨k, hk, rfl⟩ := List.mem_map.mp hw
  have hk : k < 2 := List.mem_range.mp hk
  match k, hk with
  | 0, _ => exact inT_at 114 (by decide +kernel)
  | 1, _ => exact inT_at 116 (by decide +kernel)
  | k + 2, h => exact absurd h (by omega)
theorem wx_2 : ∀ w ∈ u_ws RX2 TX2 6, inT w := by
  intro w hw
  obtain ⟨k, hk, rfl⟩ := List.mem_map.mp hw
  have hk : k < 6 := List.mem_range.mp hk
  match k, hk with
  | 0, _ => exact inT_at 203 (by decide +kernel)
  | 1, _ => exact inT_at 205 (by decide +kernel)
  | 2, _ => exact inT_at 207 (by decide +kernel)
  | 3, _ => exact inT_at 209 (by decide +kernel)
  | 4, _ => exact inT_at 211 (by decide +kernel)
  | 5, _ => exact inT_at 213 (by decide +kernel)
  | k + 6, h => exact absurd h (by omega)
theorem wx_3 : ∀ w ∈ u_ws RX3 TX3 3, inT w := by
  intro w hw
  obtain ⟨k, hk, rfl⟩ := List.mem_map.mp hw
  have hk : k < 3 := List.mem_range.mp hk
  match k, hk with
  | 0, _ => exact inT_at 288 (by decide +kernel)
  | 1, _ => exact inT_at 290 (by decide +kernel)
  | 2, _ => exact inT_at 292 (by decide +kernel)
  | k + 3, h => exact absurd h (by omega)
theorem wx_4 : ∀ w ∈ u_ws RX4 TX4 7, inT w := by
  intro w hw
  obtain ⟨k, hk, rfl⟩ := List.mem_map.mp hw
  have hk : k < 7 := List.mem_range.mp hk
  match k, hk with
  | 0, _ => exact inT_at 232 (by decide +kernel)
  | 1, _ => exact inT_at 234 (by decide +kernel)
  | 2, _ => exact inT_at 236 (by decide +kernel)
  | 3, _ => exact inT_at 238 (by decide +kernel)
  | 4, _ => exact inT_at 240 (by decide +kernel)
  | 5, _ => exact inT_at 242 (by decide +kernel)
  | 6, _ => exact inT_at 244 (by decide +kernel)
  | k + 7, h => exact absurd h (by omega)
theorem wx_5 : ∀ w ∈ u_ws RX5 TX5 2, inT w := by
  intro w hw
  obtain ⟨k, hk, rfl⟩ := List.mem_map.mp hw
  have hk : k < 2 := List.mem_range.mp hk
  match k, hk with
  | 0, _ => exact inT_at 123 (by decide +kernel)
  | 1, _ => exact inT_at 125 (by decide +kernel)
  | k + 2, h => exact absurd h (by omega)
theorem wx_6 : ∀ w ∈ u_ws RX6 TX6 5, inT w := by
  intro w hw
  obtain ⟨k, hk, rfl⟩ := List.mem_map.mp hw
  have hk : k < 5 := List.mem_range.mp hk
  match k, hk with
  | 0, _ => exact inT_at 164 (by decide +kernel)
  | 1, _ => exact inT_at 166 (by decide +kernel)
  | 2, _ => exact inT_at 168 (by decide +kernel)
  | 3, _ => exact inT_at 170 (by decide +kernel)
  | 4, _ => exact inT_at 172 (by decide +kernel)
  | k + 5, h => exact absurd h (by omega)
theorem wx_7 : ∀ w ∈ u_ws RX7 TX7 1, inT w := by
  intro w hw
  obtain ⟨k, hk, rfl⟩ := List.mem_map.mp hw
  have hk : k < 1 := List.mem_range.mp hk
  match k, hk with
  | 0, _ => exact inT_at 146 (by decide +kernel)
  | k + 1, h => exact absurd h (by omega)
theorem wx_8 : ∀ w ∈ u_ws RX8 TX8 8, inT w := by
  intro w hw
  obtain ⟨k, hk, rfl⟩ := List.mem_map.mp hw
  have hk : k < 8 := List.mem_range.mp hk
  match k, hk with
  | 0, _ => exact inT_at 258 (by decide +kernel)
  | 1, _ => exact inT_at 260 (by decide +kernel)
  | 2, _ => exact inT_at 262 (by decide +kernel)
  | 3, _ => exact inT_at 264 (by decide +kernel)
  | 4, _ => exact inT_at 266 (by decide +kernel)
  | 5, _ => exact inT_at 268 (by decide +kernel)
  | 6, _ => exact inT_at 270 (by decide +kernel)
  | 7, _ => exact inT_at 272 (by decide +kernel)
  | k + 8, h => exact absurd h (by omega)
theorem wx_9 : ∀ w ∈ u_ws RX9 TX9 6, inT w := by
  intro w hw
  obtain ⟨k, hk, rfl⟩ := List.mem_map.mp hw
  have hk : k < 6 := List.mem_range.mp hk
  match k, hk with
  | 0, _ => exact inT_at 339 (by decide +kernel)
  | 1, _ => exact inT_at 341 (by decide +kernel)
  | 2, _ => exact inT_at 343 (by decide +kernel)
  | 3, _ => exact inT_at 345 (by decide +kernel)
  | 4, _ => exact inT_at 347 (by decide +kernel)
  | 5, _ => exact inT_at 349 (by decide +kernel)
  | k + 6, h => exact absurd h (by omega)
theorem wx_10 : ∀ w ∈ u_ws RX10 TX10 12, inT w := by
  intro w hw
  obtain ⟨k, hk, rfl⟩ := List.mem_map.mp hw
  have hk : k < 12 := List.mem_range.mp hk
  match k, hk with
  | 0, _ => exact inT_at 877 (by decide +kernel)
  | 1, _ => exact inT_at 879 (by decide +kernel)
  | 2, _ => exact inT_at 881 (by decide +kernel)
  | 3, _ => exact inT_at 883 (by decide +kernel)
  | 4, _ => exact inT_at 885 (by decide +kernel)
  | 5, _ => exact inT_at 887 (by decide +kernel)
  | 6, _ => exact inT_at 889 (by decide +kernel)
  | 7, _ => exact inT_at 891 (by decide +kernel)
  | 8, _ => exact inT_at 893 (by decide +kernel)
  | 9, _ => exact inT_at 895 (by decide +kernel)
  | 10, _ => exact inT_at 897 (by decide +kernel)
  | 11, _ => exact inT_at 899 (by decide +kernel)
  | k + 12, h => exact absurd h (by omega)
end
section
/-! THE CODE TABLES AGAINST THE BYTES: each entry is what stands at its place, and its links are the tables' -/
def cndOf (b : Nat) : ClassFile.Cond := match b with
  | 0 => .eq | 1 => .ne | 2 => .lt | 3 => .ge | 4 => .gt | _ => .le
def f4 (a : Nat) : Fin 4 := Fin.ofNat 4 a
def atOf (a : Nat) : ArrayType := match a with
  | 0 => .int | 1 => .boolean | _ => .byte
def instrOf (e : Ent) : Instr × Nat := match e with
  | (pc, (op, a, b, d), c, cs) => match op with
    | 1 => (match b with
      | 0 => (.iconst c.toInt, 1) | 1 => (.bipush c.toInt, 2) | 2 => (.sipush c.toInt, 3) | _ => (.ldc_w a, 3))
    | 2 => (match b with
      | 0 => (.iload_n (f4 a), 1) | 1 => (.iload a, 2) | 2 => (.aload_n (f4 a), 1) | _ => (.aload a, 2))
    | 3 => (match b with
      | 0 => (.istore_n (f4 a), 1) | 1 => (.istore a, 2) | 2 => (.astore_n (f4 a), 1) | _ => (.astore a, 2))
    | 4 => (match a with
      | 0 => (.iadd, 1) | 1 => (.isub, 1) | 2 => (.imul, 1) | 3 => (.idiv, 1) | 4 => (.irem, 1) | 5 => (.iand, 1) | 6 => (.iushr, 1) | _ => (.ixor, 1))
    | 5 => (.iinc a c.toInt, 3)
    | 6 => (.ifCond (cndOf b) ((a : Int) - (pc : Int)), 3)
    | 7 => (.if_icmp (cndOf b) ((a : Int) - (pc : Int)), 3)
    | 8 => (.goto ((a : Int) - (pc : Int)), 3)
    | 9 => (.getfield a, 3)
    | 10 => (.putfield a, 3)
    | 11 => (match a with | 0 => (.iaload, 1) | 1 => (.baload, 1) | _ => (.aaload, 1))
    | 12 => (match a with | 0 => (.iastore, 1) | 1 => (.bastore, 1) | _ => (.aastore, 1))
    | 13 => (match d with | 0 => (.invokevirtual a, 3) | _ => (.invokestatic a, 3))
    | 14 => (match a with | 0 => (.ireturn, 1) | _ => (.return_, 1))
    | 15 => (.dup, 1)
    | 16 => (.dup2, 1)
    | 17 => (.i2b, 1)
    | 18 => (match d with
      | 0 => (.tableswitch ((a : Int) - (pc : Int)) ((cs.head?.getD (0, 0)).1 : Int) (((cs.getLast?).getD (0, 0)).1 : Int) (cs.map fun q => (q.2 : Int) - (pc : Int)).toArray, b)
      | _ => (.lookupswitch ((a : Int) - (pc : Int)) (cs.map fun q => ((q.1 : Int), (q.2 : Int) - (pc : Int))).toArray, b))
    | 19 => (.arraylength, 1)
    | 20 => (.invokestatic a, 3)
    | 21 => (.new a, 3)
    | 22 => (.newarray (atOf a), 2)
    | 23 => (.anewarray a, 3)
    | _ => (.invokespecial a, 3)
def initL : List Nat := [0, 10, 17, 22, 27, 38, 40, 45, 56, 90, 129]
/-- what else an entry's place in the class wants: o its class, nL the locals -/
def moreOk (o nL : Nat) (e : Ent) : Bool := match e with
  | (pc, (op, a, b, d), c, cs) => match op with
    | 1 => (match b with
      | 0 => true | 1 => decide ((Int8.ofInt c.toInt).toInt32 = c) | 2 => decide ((Int16.ofInt c.toInt).toInt32 = c) | _ => decide ((o, a, c) ∈ [(25, 265, (1431655765 : Int32)), (25, 266, 858993459), (25, 267, 252645135)]))
    | 2 => (match b with
      | 0 => decide (a < 4) | 1 => true | 2 => decide (a < 4) | _ => true)
    | 3 => decide (a < nL) && (match b with
      | 0 => decide (a < 4) | 1 => true | 2 => decide (a < 4) | _ => true)
    | 5 => decide (a < nL)
    | 6 => decide (b < 6)
    | 7 => decide (b < 6)
    | 9 => decide ((o, a, b, d) ∈ flT)
    | 10 => decide ((o, a, b, d) ∈ flT)
    | 13 => decide ((o, a, b, (if d = 2 then 1 else 0)) ∈ mlT) && (decide (cs = [((mRow b).2.2.2.2.2.1, (mRow b).2.2.2.2.1)]) && (decide ((mRow b).2.2.2.2.2.2 = decide (¬ d = 0)) && decide (b ∉ initL)))
    | 18 => (match d with
      | 0 => decide (cs.map (fun q => q.1) = (List.range' (cs.head?.getD (0, 0)).1 cs.length)) && decide (cs ≠ [])
      | _ => ((cs.map fun q => ((q.1 : Int), (q.2 : Int) - (pc : Int))).zip ((cs.map fun q => ((q.1 : Int), (q.2 : Int) - (pc : Int))).drop 1)).all (fun (a, next) => a.1 < next.1)) && cs.all (fun q => decide (q.1 < 1000))
    | 20 => decide ((o, a) = (7, 22))
    | _ => true
def entOk (o nL : Nat) (cc : ByteArray) (e : Ent) : Bool := (decide (e.2.1.1 = 0) || decide (decode cc e.1 = .ok (instrOf e))) && moreOk o nL e
def nextPc (e : Ent) : Nat := if e.2.1.1 = 0 then e.1 else e.1 + (instrOf e).2
def chainOk : List Ent → Bool
  | [] => true
  | [_] => true
  | e :: f :: es => (f.1 == nextPc e) && chainOk (f :: es)
def rtN (t : Option FieldType) : Nat := match t with
  | some .int => 0
  | some .boolean => 1
  | none => 2
  | _ => 9
def mdOk (m : Nat) : Prop := (codT m).all (entOk (mRow m).2.2.2.2.1 (mRow m).2.2.1 (mRow m).2.1) = true ∧ chainOk (codT m) = true ∧ rtN (mRow m).2.2.2.1 = retT m ∧ ∃ e es, codT m = e :: es ∧ e.1 = 0
set_option maxRecDepth 100000 in
theorem ea_X0_init : co_X0_init.all (entOk (mRow m_X0_init).2.2.2.2.1 (mRow m_X0_init).2.2.1 (mRow m_X0_init).2.1) = true := by decide +kernel
theorem md_X0_init : mdOk m_X0_init := ⟨ea_X0_init, by decide +kernel, by decide +kernel, _, _, rfl, rfl⟩
set_option maxRecDepth 100000 in
theorem ea_X0_add : co_X0_add.all (entOk (mRow m_X0_add).2.2.2.2.1 (mRow m_X0_add).2.2.1 (mRow m_X0_add).2.1) = true := by decide +kernel
theorem md_X0_add : mdOk m_X0_add := ⟨ea_X0_add, by decide +kernel, by decide +kernel, _, _, rfl, rfl⟩
set_option maxRecDepth 100000 in
theorem ea_X0_rewind : co_X0_rewind.all (entOk (mRow m_X0_rewind).2.2.2.2.1 (mRow m_X0_rewind).2.2.1 (mRow m_X0_rewind).2.1) = true := by decide +kernel
theorem md_X0_rewind : mdOk m_X0_rewind := ⟨ea_X0_rewind, by decide +kernel, by decide +kernel, _, _, rfl, rfl⟩
set_option maxRecDepth 100000 in
theorem ea_X0_findFault : co_X0_findFault.all (entOk (mRow m_X0_findFault).2.2.2.2.1 (mRow m_X0_findFault).2.2.1 (mRow m_X0_findFault).2.1) = true := by decide +kernel
theorem md_X0_findFault : mdOk m_X0_findFault := ⟨ea_X0_findFault, by decide +kernel, by decide +kernel, _, _, rfl, rfl⟩
set_option maxRecDepth 100000 in
theorem ea_X0_readAct : co_X0_readAct.all (entOk (mRow m_X0_readAct).2.2.2.2.1 (mRow m_X0_readAct).2.2.1 (mRow m_X0_readAct).2.1) = true := by decide +kernel
theorem md_X0_readAct : mdOk m_X0_readAct := ⟨ea_X0_readAct, by decide +kernel, by decide +kernel, _, _, rfl, rfl⟩
set_option maxRecDepth 100000 in
theorem ea_X0_readSending : co_X0_readSending.all (entOk (mRow m_X0_readSending).2.2.2.2.1 (mRow m_X0_readSending).2.2.1 (mRow m_X0_readSending).2.1) = true := by decide +kernel
theorem md_X0_readSending : mdOk m_X0_readSending := ⟨ea_X0_readSending, by decide +kernel, by decide +kernel, _, _, rfl, rfl⟩
set_option maxRecDepth 100000 in
theorem ea_X0_readSign : co_X0_readSign.all (entOk (mRow m_X0_readSign).2.2.2.2.1 (mRow m_X0_readSign).2.2.1 (mRow m_X0_readSign).2.1) = true := by decide +kernel
theorem md_X0_readSign : mdOk m_X0_readSign := ⟨ea_X0_readSign, by decide +kernel, by decide +kernel, _, _, rfl, rfl⟩
set_option maxRecDepth 100000 in
theorem ea_X0_readNumber : co_X0_readNumber.all (entOk (mRow m_X0_readNumber).2.2.2.2.1 (mRow m_X0_readNumber).2.2.1 (mRow m_X0_readNumber).2.1) = true := by decide +kernel
theorem md_X0_readNumber : mdOk m_X0_readNumber := ⟨ea_X0_readNumber, by decide +kernel, by decide +kernel, _, _, rfl, rfl⟩
set_option maxRecDepth 100000 in
theorem ea_X0_byteHere : co_X0_byteHere.all (entOk (mRow m_X0_byteHere).2.2.2.2.1 (mRow m_X0_byteHere).2.2.1 (mRow m_X0_byteHere).2.1) = true := by decide +kernel
theorem md_X0_byteHere : mdOk m_X0_byteHere := ⟨ea_X0_byteHere, by decide +kernel, by decide +kernel, _, _, rfl, rfl⟩
set_option maxRecDepth 100000 in
theorem ea_X0_isDigit : co_X0_isDigit.all (entOk (mRow m_X0_isDigit).2.2.2.2.1 (mRow m_X0_isDigit).2.2.1 (mRow m_X0_isDigit).2.1) = true := by decide +kernel
theorem md_X0_isDigit : mdOk m_X0_isDigit := ⟨ea_X0_isDigit, by decide +kernel, by decide +kernel, _, _, rfl, rfl⟩
set_option maxRecDepth 100000 in
theorem ea_X1_init : co_X1_init.all (entOk (mRow m_X1_init).2.2.2.2.1 (mRow m_X1_init).2.2.1 (mRow m_X1_init).2.1) = true := by decide +kernel
theorem md_X1_init : mdOk m_X1_init := ⟨ea_X1_init, by decide +kernel, by decide +kernel, _, _, rfl, rfl⟩
set_option maxRecDepth 100000 in
theorem ea_X1_become : co_X1_become.all (entOk (mRow m_X1_become).2.2.2.2.1 (mRow m_X1_become).2.2.1 (mRow m_X1_become).2.1) = true := by decide +kernel
theorem md_X1_become : mdOk m_X1_become := ⟨ea_X1_become, by decide +kernel, by decide +kernel, _, _, rfl, rfl⟩
set_option maxRecDepth 100000 in
theorem ea_X1_copyFrom : co_X1_copyFrom.all (entOk (mRow m_X1_copyFrom).2.2.2.2.1 (mRow m_X1_copyFrom).2.2.1 (mRow m_X1_copyFrom).2.1) = true := by decide +kernel
theorem md_X1_copyFrom : mdOk m_X1_copyFrom := ⟨ea_X1_copyFrom, by decide +kernel, by decide +kernel, _, _, rfl, rfl⟩
set_option maxRecDepth 100000 in
theorem ea_X1_isAt : co_X1_isAt.all (entOk (mRow m_X1_isAt).2.2.2.2.1 (mRow m_X1_isAt).2.2.1 (mRow m_X1_isAt).2.1) = true := by decide +kernel
theorem md_X1_isAt : mdOk m_X1_isAt := ⟨ea_X1_isAt, by decide +kernel, by decide +kernel, _, _, rfl, rfl⟩
set_option maxRecDepth 100000 in
theorem ea_X1_has : co_X1_has.all (entOk (mRow m_X1_has).2.2.2.2.1 (mRow m_X1_has).2.2.1 (mRow m_X1_has).2.1) = true := by decide +kernel
theorem md_X1_has : mdOk m_X1_has := ⟨ea_X1_has, by decide +kernel, by decide +kernel, _, _, rfl, rfl⟩
set_option maxRecDepth 100000 in
theorem ea_X1_holds : co_X1_holds.all (entOk (mRow m_X1_holds).2.2.2.2.1 (mRow m_X1_holds).2.2.1 (mRow m_X1_holds).2.1) = true := by decide +kernel
theorem md_X1_holds : mdOk m_X1_holds := ⟨ea_X1_holds, by decide +kernel, by decide +kernel, _, _, rfl, rfl⟩
set_option maxRecDepth 100000 in
theorem ea_X1_meets : co_X1_meets.all (entOk (mRow m_X1_meets).2.2.2.2.1 (mRow m_X1_meets).2.2.1 (mRow m_X1_meets).2.1) = true := by decide +kernel
theorem md_X1_meets : mdOk m_X1_meets := ⟨ea_X1_meets, by decide +kernel, by decide +kernel, _, _, rfl, rfl⟩
set_option maxRecDepth 100000 in
theorem ea_X2_init : co_X2_init.all (entOk (mRow m_X2_init).2.2.2.2.1 (mRow m_X2_init).2.2.1 (mRow m_X2_init).2.1) = true := by decide +kernel
theorem md_X2_init : mdOk m_X2_init := ⟨ea_X2_init, by decide +kernel, by decide +kernel, _, _, rfl, rfl⟩
set_option maxRecDepth 100000 in
theorem ea_X2_become : co_X2_become.all (entOk (mRow m_X2_become).2.2.2.2.1 (mRow m_X2_become).2.2.1 (mRow m_X2_become).2.1) = true := by decide +kernel
theorem md_X2_become : mdOk m_X2_become := ⟨ea_X2_become, by decide +kernel, by decide +kernel, _, _, rfl, rfl⟩
set_option maxRecDepth 100000 in
theorem ea_X2_copyFrom : co_X2_copyFrom.all (entOk (mRow m_X2_copyFrom).2.2.2.2.1 (mRow m_X2_copyFrom).2.2.1 (mRow m_X2_copyFrom).2.1) = true := by decide +kernel
theorem md_X2_copyFrom : mdOk m_X2_copyFrom := ⟨ea_X2_copyFrom, by decide +kernel, by decide +kernel, _, _, rfl, rfl⟩
set_option maxRecDepth 100000 in
theorem ea_X2_isHolding : co_X2_isHolding.all (entOk (mRow m_X2_isHolding).2.2.2.2.1 (mRow m_X2_isHolding).2.2.1 (mRow m_X2_isHolding).2.1) = true := by decide +kernel
theorem md_X2_isHolding : mdOk m_X2_isHolding := ⟨ea_X2_isHolding, by decide +kernel, by decide +kernel, _, _, rfl, rfl⟩
set_option maxRecDepth 100000 in
theorem ea_X2_property : co_X2_property.all (entOk (mRow m_X2_property).2.2.2.2.1 (mRow m_X2_property).2.2.1 (mRow m_X2_property).2.1) = true := by decide +kernel
theorem md_X2_property : mdOk m_X2_property := ⟨ea_X2_property, by decide +kernel, by decide +kernel, _, _, rfl, rfl⟩
set_option maxRecDepth 100000 in
theorem ea_X3_init : co_X3_init.all (entOk (mRow m_X3_init).2.2.2.2.1 (mRow m_X3_init).2.2.1 (mRow m_X3_init).2.1) = true := by decide +kernel
theorem md_X3_init : mdOk m_X3_init := ⟨ea_X3_init, by decide +kernel, by decide +kernel, _, _, rfl, rfl⟩
set_option maxRecDepth 100000 in
theorem ea_X3_row : co_X3_row.all (entOk (mRow m_X3_row).2.2.2.2.1 (mRow m_X3_row).2.2.1 (mRow m_X3_row).2.1) = true := by decide +kernel
theorem md_X3_row : mdOk m_X3_row := ⟨ea_X3_row, by decide +kernel, by decide +kernel, _, _, rfl, rfl⟩
set_option maxRecDepth 100000 in
theorem ea_X3_draft : co_X3_draft.all (entOk (mRow m_X3_draft).2.2.2.2.1 (mRow m_X3_draft).2.2.1 (mRow m_X3_draft).2.1) = true := by decide +kernel
theorem md_X3_draft : mdOk m_X3_draft := ⟨ea_X3_draft, by decide +kernel, by decide +kernel, _, _, rfl, rfl⟩
set_option maxRecDepth 100000 in
theorem ea_X3_keepDraft : co_X3_keepDraft.all (entOk (mRow m_X3_keepDraft).2.2.2.2.1 (mRow m_X3_keepDraft).2.2.1 (mRow m_X3_keepDraft).2.1) = true := by decide +kernel
theorem md_X3_keepDraft : mdOk m_X3_keepDraft := ⟨ea_X3_keepDraft, by decide +kernel, by decide +kernel, _, _, rfl, rfl⟩
set_option maxRecDepth 100000 in
theorem ea_X3_takeLatest : co_X3_takeLatest.all (entOk (mRow m_X3_takeLatest).2.2.2.2.1 (mRow m_X3_takeLatest).2.2.1 (mRow m_X3_takeLatest).2.1) = true := by decide +kernel
theorem md_X3_takeLatest : mdOk m_X3_takeLatest := ⟨ea_X3_takeLatest, by decide +kernel, by decide +kernel, _, _, rfl, rfl⟩
set_option maxRecDepth 100000 in
theorem ea_X4_init : co_X4_init.all (entOk (mRow m_X4_init).2.2.2.2.1 (mRow m_X4_init).2.2.1 (mRow m_X4_init).2.1) = true := by decide +kernel
theorem md_X4_init : mdOk m_X4_init := ⟨ea_X4_init, by decide +kernel, by decide +kernel, _, _, rfl, rfl⟩
set_option maxRecDepth 100000 in
theorem ea_X4_start : co_X4_start.all (entOk (mRow m_X4_start).2.2.2.2.1 (mRow m_X4_start).2.2.1 (mRow m_X4_start).2.1) = true := by decide +kernel
theorem md_X4_start : mdOk m_X4_start := ⟨ea_X4_start, by decide +kernel, by decide +kernel, _, _, rfl, rfl⟩
set_option maxRecDepth 100000 in
theorem ea_X4_copyFrom : co_X4_copyFrom.all (entOk (mRow m_X4_copyFrom).2.2.2.2.1 (mRow m_X4_copyFrom).2.2.1 (mRow m_X4_copyFrom).2.1) = true := by decide +kernel
theorem md_X4_copyFrom : mdOk m_X4_copyFrom := ⟨ea_X4_copyFrom, by decide +kernel, by decide +kernel, _, _, rfl, rfl⟩
set_option maxRecDepth 100000 in
theorem ea_X4_isPlace : co_X4_isPlace.all (entOk (mRow m_X4_isPlace).2.2.2.2.1 (mRow m_X4_isPlace).2.2.1 (mRow m_X4_isPlace).2.1) = true := by decide +kernel
theorem md_X4_isPlace : mdOk m_X4_isPlace := ⟨ea_X4_isPlace, by decide +kernel, by decide +kernel, _, _, rfl, rfl⟩
set_option maxRecDepth 100000 in
theorem ea_X4_property : co_X4_property.all (entOk (mRow m_X4_property).2.2.2.2.1 (mRow m_X4_property).2.2.1 (mRow m_X4_property).2.1) = true := by decide +kernel
theorem md_X4_property : mdOk m_X4_property := ⟨ea_X4_property, by decide +kernel, by decide +kernel, _, _, rfl, rfl⟩
set_option maxRecDepth 100000 in
theorem ea_X4_moveToFront : co_X4_moveToFront.all (entOk (mRow m_X4_moveToFront).2.2.2.2.1 (mRow m_X4_moveToFront).2.2.1 (mRow m_X4_moveToFront).2.1) = true := by decide +kernel
theorem md_X4_moveToFront : mdOk m_X4_moveToFront := ⟨ea_X4_moveToFront, by decide +kernel, by decide +kernel, _, _, rfl, rfl⟩
set_option maxRecDepth 100000 in
theorem ea_X4_drop : co_X4_drop.all (entOk (mRow m_X4_drop).2.2.2.2.1 (mRow m_X4_drop).2.2.1 (mRow m_X4_drop).2.1) = true := by decide +kernel
theorem md_X4_drop : mdOk m_X4_drop := ⟨ea_X4_drop, by decide +kernel, by decide +kernel, _, _, rfl, rfl⟩
set_option maxRecDepth 100000 in
theorem ea_X4_dropEnded : co_X4_dropEnded.all (entOk (mRow m_X4_dropEnded).2.2.2.2.1 (mRow m_X4_dropEnded).2.2.1 (mRow m_X4_dropEnded).2.1) = true := by decide +kernel
theorem md_X4_dropEnded : mdOk m_X4_dropEnded := ⟨ea_X4_dropEnded, by decide +kernel, by decide +kernel, _, _, rfl, rfl⟩
set_option maxRecDepth 100000 in
theorem ea_X4_placeOfSite : co_X4_placeOfSite.all (entOk (mRow m_X4_placeOfSite).2.2.2.2.1 (mRow m_X4_placeOfSite).2.2.1 (mRow m_X4_placeOfSite).2.1) = true := by decide +kernel
theorem md_X4_placeOfSite : mdOk m_X4_placeOfSite := ⟨ea_X4_placeOfSite, by decide +kernel, by decide +kernel, _, _, rfl, rfl⟩
set_option maxRecDepth 100000 in
theorem ea_X4_placeOfSmallest : co_X4_placeOfSmallest.all (entOk (mRow m_X4_placeOfSmallest).2.2.2.2.1 (mRow m_X4_placeOfSmallest).2.2.1 (mRow m_X4_placeOfSmallest).2.1) = true := by decide +kernel
theorem md_X4_placeOfSmallest : mdOk m_X4_placeOfSmallest := ⟨ea_X4_placeOfSmallest, by decide +kernel, by decide +kernel, _, _, rfl, rfl⟩
set_option maxRecDepth 100000 in
theorem ea_X4_addMap : co_X4_addMap.all (entOk (mRow m_X4_addMap).2.2.2.2.1 (mRow m_X4_addMap).2.2.1 (mRow m_X4_addMap).2.1) = true := by decide +kernel
theorem md_X4_addMap : mdOk m_X4_addMap := ⟨ea_X4_addMap, by decide +kernel, by decide +kernel, _, _, rfl, rfl⟩
set_option maxRecDepth 100000 in
theorem ea_X5_init : co_X5_init.all (entOk (mRow m_X5_init).2.2.2.2.1 (mRow m_X5_init).2.2.1 (mRow m_X5_init).2.1) = true := by decide +kernel
theorem md_X5_init : mdOk m_X5_init := ⟨ea_X5_init, by decide +kernel, by decide +kernel, _, _, rfl, rfl⟩
set_option maxRecDepth 100000 in
theorem ea_X5_copyFrom : co_X5_copyFrom.all (entOk (mRow m_X5_copyFrom).2.2.2.2.1 (mRow m_X5_copyFrom).2.2.1 (mRow m_X5_copyFrom).2.1) = true := by decide +kernel
theorem md_X5_copyFrom : mdOk m_X5_copyFrom := ⟨ea_X5_copyFrom, by decide +kernel, by decide +kernel, _, _, rfl, rfl⟩
set_option maxRecDepth 100000 in
theorem ea_X6_init : co_X6_init.all (entOk (mRow m_X6_init).2.2.2.2.1 (mRow m_X6_init).2.2.1 (mRow m_X6_init).2.1) = true := by decide +kernel
theorem md_X6_init : mdOk m_X6_init := ⟨ea_X6_init, by decide +kernel, by decide +kernel, _, _, rfl, rfl⟩
set_option maxRecDepth 100000 in
theorem ea_X6_start : co_X6_start.all (entOk (mRow m_X6_start).2.2.2.2.1 (mRow m_X6_start).2.2.1 (mRow m_X6_start).2.1) = true := by decide +kernel
theorem md_X6_start : mdOk m_X6_start := ⟨ea_X6_start, by decide +kernel, by decide +kernel, _, _, rfl, rfl⟩
set_option maxRecDepth 100000 in
theorem ea_X6_copyFrom : co_X6_copyFrom.all (entOk (mRow m_X6_copyFrom).2.2.2.2.1 (mRow m_X6_copyFrom).2.2.1 (mRow m_X6_copyFrom).2.1) = true := by decide +kernel
theorem md_X6_copyFrom : mdOk m_X6_copyFrom := ⟨ea_X6_copyFrom, by decide +kernel, by decide +kernel, _, _, rfl, rfl⟩
set_option maxRecDepth 100000 in
theorem ea_X6_isRegistered : co_X6_isRegistered.all (entOk (mRow m_X6_isRegistered).2.2.2.2.1 (mRow m_X6_isRegistered).2.2.1 (mRow m_X6_isRegistered).2.1) = true := by decide +kernel
theorem md_X6_isRegistered : mdOk m_X6_isRegistered := ⟨ea_X6_isRegistered, by decide +kernel, by decide +kernel, _, _, rfl, rfl⟩
set_option maxRecDepth 100000 in
theorem ea_X6_isUp : co_X6_isUp.all (entOk (mRow m_X6_isUp).2.2.2.2.1 (mRow m_X6_isUp).2.2.1 (mRow m_X6_isUp).2.1) = true := by decide +kernel
theorem md_X6_isUp : mdOk m_X6_isUp := ⟨ea_X6_isUp, by decide +kernel, by decide +kernel, _, _, rfl, rfl⟩
set_option maxRecDepth 100000 in
theorem ea_X7_init : co_X7_init.all (entOk (mRow m_X7_init).2.2.2.2.1 (mRow m_X7_init).2.2.1 (mRow m_X7_init).2.1) = true := by decide +kernel
theorem md_X7_init : mdOk m_X7_init := ⟨ea_X7_init, by decide +kernel, by decide +kernel, _, _, rfl, rfl⟩
set_option maxRecDepth 100000 in
theorem ea_X7_copyFrom : co_X7_copyFrom.all (entOk (mRow m_X7_copyFrom).2.2.2.2.1 (mRow m_X7_copyFrom).2.2.1 (mRow m_X7_copyFrom).2.1) = true := by decide +kernel
theorem md_X7_copyFrom : mdOk m_X7_copyFrom := ⟨ea_X7_copyFrom, by decide +kernel, by decide +kernel, _, _, rfl, rfl⟩
set_option maxRecDepth 100000 in
theorem ea_X7_fill : co_X7_fill.all (entOk (mRow m_X7_fill).2.2.2.2.1 (mRow m_X7_fill).2.2.1 (mRow m_X7_fill).2.1) = true := by decide +kernel
theorem md_X7_fill : mdOk m_X7_fill := ⟨ea_X7_fill, by decide +kernel, by decide +kernel, _, _, rfl, rfl⟩
set_option maxRecDepth 100000 in
theorem ea_X7_propertyOf : co_X7_propertyOf.all (entOk (mRow m_X7_propertyOf).2.2.2.2.1 (mRow m_X7_propertyOf).2.2.1 (mRow m_X7_propertyOf).2.1) = true := by decide +kernel
theorem md_X7_propertyOf : mdOk m_X7_propertyOf := ⟨ea_X7_propertyOf, by decide +kernel, by decide +kernel, _, _, rfl, rfl⟩
set_option maxRecDepth 100000 in
theorem ea_X7_isEmpty : co_X7_isEmpty.all (entOk (mRow m_X7_isEmpty).2.2.2.2.1 (mRow m_X7_isEmpty).2.2.1 (mRow m_X7_isEmpty).2.1) = true := by decide +kernel
theorem md_X7_isEmpty : mdOk m_X7_isEmpty := ⟨ea_X7_isEmpty, by decide +kernel, by decide +kernel, _, _, rfl, rfl⟩
set_option maxRecDepth 100000 in
theorem ea_X7_areEmpty : co_X7_areEmpty.all (entOk (mRow m_X7_areEmpty).2.2.2.2.1 (mRow m_X7_areEmpty).2.2.1 (mRow m_X7_areEmpty).2.1) = true := by decide +kernel
theorem md_X7_areEmpty : mdOk m_X7_areEmpty := ⟨ea_X7_areEmpty, by decide +kernel, by decide +kernel, _, _, rfl, rfl⟩
set_option maxRecDepth 100000 in
theorem ea_X7_have : co_X7_have.all (entOk (mRow m_X7_have).2.2.2.2.1 (mRow m_X7_have).2.2.1 (mRow m_X7_have).2.1) = true := by decide +kernel
theorem md_X7_have : mdOk m_X7_have := ⟨ea_X7_have, by decide +kernel, by decide +kernel, _, _, rfl, rfl⟩
set_option maxRecDepth 100000 in
theorem ea_X7_lowestPriority : co_X7_lowestPriority.all (entOk (mRow m_X7_lowestPriority).2.2.2.2.1 (mRow m_X7_lowestPriority).2.2.1 (mRow m_X7_lowestPriority).2.1) = true := by decide +kernel
theorem md_X7_lowestPriority : mdOk m_X7_lowestPriority := ⟨ea_X7_lowestPriority, by decide +kernel, by decide +kernel, _, _, rfl, rfl⟩
set_option maxRecDepth 100000 in
theorem ea_X7_weightThatCounts : co_X7_weightThatCounts.all (entOk (mRow m_X7_weightThatCounts).2.2.2.2.1 (mRow m_X7_weightThatCounts).2.2.1 (mRow m_X7_weightThatCounts).2.1) = true := by decide +kernel
theorem md_X7_weightThatCounts : mdOk m_X7_weightThatCounts := ⟨ea_X7_weightThatCounts, by decide +kernel, by decide +kernel, _, _, rfl, rfl⟩
set_option maxRecDepth 100000 in
theorem ea_X7_placeFor : co_X7_placeFor.all (entOk (mRow m_X7_placeFor).2.2.2.2.1 (mRow m_X7_placeFor).2.2.1 (mRow m_X7_placeFor).2.1) = true := by decide +kernel
theorem md_X7_placeFor : mdOk m_X7_placeFor := ⟨ea_X7_placeFor, by decide +kernel, by decide +kernel, _, _, rfl, rfl⟩
set_option maxRecDepth 100000 in
theorem ea_X7_flowsTo : co_X7_flowsTo.all (entOk (mRow m_X7_flowsTo).2.2.2.2.1 (mRow m_X7_flowsTo).2.2.1 (mRow m_X7_flowsTo).2.1) = true := by decide +kernel
theorem md_X7_flowsTo : mdOk m_X7_flowsTo := ⟨ea_X7_flowsTo, by decide +kernel, by decide +kernel, _, _, rfl, rfl⟩
set_option maxRecDepth 100000 in
theorem ea_X8_init : co_X8_init.all (entOk (mRow m_X8_init).2.2.2.2.1 (mRow m_X8_init).2.2.1 (mRow m_X8_init).2.1) = true := by decide +kernel
theorem md_X8_init : mdOk m_X8_init := ⟨ea_X8_init, by decide +kernel, by decide +kernel, _, _, rfl, rfl⟩
set_option maxRecDepth 100000 in
theorem ea_X8_copyFrom : co_X8_copyFrom.all (entOk (mRow m_X8_copyFrom).2.2.2.2.1 (mRow m_X8_copyFrom).2.2.1 (mRow m_X8_copyFrom).2.1) = true := by decide +kernel
theorem md_X8_copyFrom : mdOk m_X8_copyFrom := ⟨ea_X8_copyFrom, by decide +kernel, by decide +kernel, _, _, rfl, rfl⟩
set_option maxRecDepth 100000 in
theorem ea_X8_isServer : co_X8_isServer.all (entOk (mRow m_X8_isServer).2.2.2.2.1 (mRow m_X8_isServer).2.2.1 (mRow m_X8_isServer).2.1) = true := by decide +kernel
theorem md_X8_isServer : mdOk m_X8_isServer := ⟨ea_X8_isServer, by decide +kernel, by decide +kernel, _, _, rfl, rfl⟩
set_option maxRecDepth 100000 in
theorem ea_X8_isSite : co_X8_isSite.all (entOk (mRow m_X8_isSite).2.2.2.2.1 (mRow m_X8_isSite).2.2.1 (mRow m_X8_isSite).2.1) = true := by decide +kernel
theorem md_X8_isSite : mdOk m_X8_isSite := ⟨ea_X8_isSite, by decide +kernel, by decide +kernel, _, _, rfl, rfl⟩
set_option maxRecDepth 100000 in
theorem ea_X8_isRouter : co_X8_isRouter.all (entOk (mRow m_X8_isRouter).2.2.2.2.1 (mRow m_X8_isRouter).2.2.1 (mRow m_X8_isRouter).2.1) = true := by decide +kernel
theorem md_X8_isRouter : mdOk m_X8_isRouter := ⟨ea_X8_isRouter, by decide +kernel, by decide +kernel, _, _, rfl, rfl⟩
set_option maxRecDepth 100000 in
theorem ea_X8_newServer : co_X8_newServer.all (entOk (mRow m_X8_newServer).2.2.2.2.1 (mRow m_X8_newServer).2.2.1 (mRow m_X8_newServer).2.1) = true := by decide +kernel
theorem md_X8_newServer : mdOk m_X8_newServer := ⟨ea_X8_newServer, by decide +kernel, by decide +kernel, _, _, rfl, rfl⟩
set_option maxRecDepth 100000 in
theorem ea_X8_newSite : co_X8_newSite.all (entOk (mRow m_X8_newSite).2.2.2.2.1 (mRow m_X8_newSite).2.2.1 (mRow m_X8_newSite).2.1) = true := by decide +kernel
theorem md_X8_newSite : mdOk m_X8_newSite := ⟨ea_X8_newSite, by decide +kernel, by decide +kernel, _, _, rfl, rfl⟩
set_option maxRecDepth 100000 in
theorem ea_X8_newRouter : co_X8_newRouter.all (entOk (mRow m_X8_newRouter).2.2.2.2.1 (mRow m_X8_newRouter).2.2.1 (mRow m_X8_newRouter).2.1) = true := by decide +kernel
theorem md_X8_newRouter : mdOk m_X8_newRouter := ⟨ea_X8_newRouter, by decide +kernel, by decide +kernel, _, _, rfl, rfl⟩
set_option maxRecDepth 100000 in
theorem ea_X8_fillSlot : co_X8_fillSlot.all (entOk (mRow m_X8_fillSlot).2.2.2.2.1 (mRow m_X8_fillSlot).2.2.1 (mRow m_X8_fillSlot).2.1) = true := by decide +kernel
theorem md_X8_fillSlot : mdOk m_X8_fillSlot := ⟨ea_X8_fillSlot, by decide +kernel, by decide +kernel, _, _, rfl, rfl⟩
set_option maxRecDepth 100000 in
theorem ea_X8_vacateSlot : co_X8_vacateSlot.all (entOk (mRow m_X8_vacateSlot).2.2.2.2.1 (mRow m_X8_vacateSlot).2.2.1 (mRow m_X8_vacateSlot).2.1) = true := by decide +kernel
theorem md_X8_vacateSlot : mdOk m_X8_vacateSlot := ⟨ea_X8_vacateSlot, by decide +kernel, by decide +kernel, _, _, rfl, rfl⟩
set_option maxRecDepth 100000 in
theorem ea_X8_startRegistration : co_X8_startRegistration.all (entOk (mRow m_X8_startRegistration).2.2.2.2.1 (mRow m_X8_startRegistration).2.2.1 (mRow m_X8_startRegistration).2.1) = true := by decide +kernel
theorem md_X8_startRegistration : mdOk m_X8_startRegistration := ⟨ea_X8_startRegistration, by decide +kernel, by decide +kernel, _, _, rfl, rfl⟩
set_option maxRecDepth 100000 in
theorem ea_X8_endRegistration : co_X8_endRegistration.all (entOk (mRow m_X8_endRegistration).2.2.2.2.1 (mRow m_X8_endRegistration).2.2.1 (mRow m_X8_endRegistration).2.1) = true := by decide +kernel
theorem md_X8_endRegistration : mdOk m_X8_endRegistration := ⟨ea_X8_endRegistration, by decide +kernel, by decide +kernel, _, _, rfl, rfl⟩
set_option maxRecDepth 100000 in
theorem ea_X8_changeMapLife : co_X8_changeMapLife.all (entOk (mRow m_X8_changeMapLife).2.2.2.2.1 (mRow m_X8_changeMapLife).2.2.1 (mRow m_X8_changeMapLife).2.1) = true := by decide +kernel
theorem md_X8_changeMapLife : mdOk m_X8_changeMapLife := ⟨ea_X8_changeMapLife, by decide +kernel, by decide +kernel, _, _, rfl, rfl⟩
set_option maxRecDepth 100000 in
theorem ea_X8_letPass : co_X8_letPass.all (entOk (mRow m_X8_letPass).2.2.2.2.1 (mRow m_X8_letPass).2.2.1 (mRow m_X8_letPass).2.1) = true := by decide +kernel
theorem md_X8_letPass : mdOk m_X8_letPass := ⟨ea_X8_letPass, by decide +kernel, by decide +kernel, _, _, rfl, rfl⟩
set_option maxRecDepth 100000 in
theorem ea_X8_emptyCache : co_X8_emptyCache.all (entOk (mRow m_X8_emptyCache).2.2.2.2.1 (mRow m_X8_emptyCache).2.2.1 (mRow m_X8_emptyCache).2.1) = true := by decide +kernel
theorem md_X8_emptyCache : mdOk m_X8_emptyCache := ⟨ea_X8_emptyCache, by decide +kernel, by decide +kernel, _, _, rfl, rfl⟩
set_option maxRecDepth 100000 in
theorem ea_X8_sendLetter : co_X8_sendLetter.all (entOk (mRow m_X8_sendLetter).2.2.2.2.1 (mRow m_X8_sendLetter).2.2.1 (mRow m_X8_sendLetter).2.1) = true := by decide +kernel
theorem md_X8_sendLetter : mdOk m_X8_sendLetter := ⟨ea_X8_sendLetter, by decide +kernel, by decide +kernel, _, _, rfl, rfl⟩
set_option maxRecDepth 100000 in
theorem ea_X8_placeByMap : co_X8_placeByMap.all (entOk (mRow m_X8_placeByMap).2.2.2.2.1 (mRow m_X8_placeByMap).2.2.1 (mRow m_X8_placeByMap).2.1) = true := by decide +kernel
theorem md_X8_placeByMap : mdOk m_X8_placeByMap := ⟨ea_X8_placeByMap, by decide +kernel, by decide +kernel, _, _, rfl, rfl⟩
set_option maxRecDepth 100000 in
theorem ea_X8_ask : co_X8_ask.all (entOk (mRow m_X8_ask).2.2.2.2.1 (mRow m_X8_ask).2.2.1 (mRow m_X8_ask).2.1) = true := by decide +kernel
theorem md_X8_ask : mdOk m_X8_ask := ⟨ea_X8_ask, by decide +kernel, by decide +kernel, _, _, rfl, rfl⟩
set_option maxRecDepth 100000 in
theorem ea_X8_goByProxy : co_X8_goByProxy.all (entOk (mRow m_X8_goByProxy).2.2.2.2.1 (mRow m_X8_goByProxy).2.2.1 (mRow m_X8_goByProxy).2.1) = true := by decide +kernel
theorem md_X8_goByProxy : mdOk m_X8_goByProxy := ⟨ea_X8_goByProxy, by decide +kernel, by decide +kernel, _, _, rfl, rfl⟩
set_option maxRecDepth 100000 in
theorem ea_X8_homeOf : co_X8_homeOf.all (entOk (mRow m_X8_homeOf).2.2.2.2.1 (mRow m_X8_homeOf).2.2.1 (mRow m_X8_homeOf).2.1) = true := by decide +kernel
theorem md_X8_homeOf : mdOk m_X8_homeOf := ⟨ea_X8_homeOf, by decide +kernel, by decide +kernel, _, _, rfl, rfl⟩
set_option maxRecDepth 100000 in
theorem ea_X8_homeOfSite : co_X8_homeOfSite.all (entOk (mRow m_X8_homeOfSite).2.2.2.2.1 (mRow m_X8_homeOfSite).2.2.1 (mRow m_X8_homeOfSite).2.1) = true := by decide +kernel
theorem md_X8_homeOfSite : mdOk m_X8_homeOfSite := ⟨ea_X8_homeOfSite, by decide +kernel, by decide +kernel, _, _, rfl, rfl⟩
set_option maxRecDepth 100000 in
theorem ea_X8_hopsTo : co_X8_hopsTo.all (entOk (mRow m_X8_hopsTo).2.2.2.2.1 (mRow m_X8_hopsTo).2.2.1 (mRow m_X8_hopsTo).2.1) = true := by decide +kernel
theorem md_X8_hopsTo : mdOk m_X8_hopsTo := ⟨ea_X8_hopsTo, by decide +kernel, by decide +kernel, _, _, rfl, rfl⟩
set_option maxRecDepth 100000 in
theorem ea_X8_answerFor : co_X8_answerFor.all (entOk (mRow m_X8_answerFor).2.2.2.2.1 (mRow m_X8_answerFor).2.2.1 (mRow m_X8_answerFor).2.1) = true := by decide +kernel
theorem md_X8_answerFor : mdOk m_X8_answerFor := ⟨ea_X8_answerFor, by decide +kernel, by decide +kernel, _, _, rfl, rfl⟩
set_option maxRecDepth 100000 in
theorem ea_X8_siteEndingAt : co_X8_siteEndingAt.all (entOk (mRow m_X8_siteEndingAt).2.2.2.2.1 (mRow m_X8_siteEndingAt).2.2.1 (mRow m_X8_siteEndingAt).2.1) = true := by decide +kernel
theorem md_X8_siteEndingAt : mdOk m_X8_siteEndingAt := ⟨ea_X8_siteEndingAt, by decide +kernel, by decide +kernel, _, _, rfl, rfl⟩
set_option maxRecDepth 100000 in
theorem ea_X8_sitesEndingAheadOf : co_X8_sitesEndingAheadOf.all (entOk (mRow m_X8_sitesEndingAheadOf).2.2.2.2.1 (mRow m_X8_sitesEndingAheadOf).2.2.1 (mRow m_X8_sitesEndingAheadOf).2.1) = true := by decide +kernel
theorem md_X8_sitesEndingAheadOf : mdOk m_X8_sitesEndingAheadOf := ⟨ea_X8_sitesEndingAheadOf, by decide +kernel, by decide +kernel, _, _, rfl, rfl⟩
set_option maxRecDepth 100000 in
theorem ea_X8_serverProperty : co_X8_serverProperty.all (entOk (mRow m_X8_serverProperty).2.2.2.2.1 (mRow m_X8_serverProperty).2.2.1 (mRow m_X8_serverProperty).2.1) = true := by decide +kernel
theorem md_X8_serverProperty : mdOk m_X8_serverProperty := ⟨ea_X8_serverProperty, by decide +kernel, by decide +kernel, _, _, rfl, rfl⟩
set_option maxRecDepth 100000 in
theorem ea_X8_childrenOf : co_X8_childrenOf.all (entOk (mRow m_X8_childrenOf).2.2.2.2.1 (mRow m_X8_childrenOf).2.2.1 (mRow m_X8_childrenOf).2.1) = true := by decide +kernel
theorem md_X8_childrenOf : mdOk m_X8_childrenOf := ⟨ea_X8_childrenOf, by decide +kernel, by decide +kernel, _, _, rfl, rfl⟩
set_option maxRecDepth 100000 in
theorem ea_X8_sitesAtHome : co_X8_sitesAtHome.all (entOk (mRow m_X8_sitesAtHome).2.2.2.2.1 (mRow m_X8_sitesAtHome).2.2.1 (mRow m_X8_sitesAtHome).2.1) = true := by decide +kernel
theorem md_X8_sitesAtHome : mdOk m_X8_sitesAtHome := ⟨ea_X8_sitesAtHome, by decide +kernel, by decide +kernel, _, _, rfl, rfl⟩
set_option maxRecDepth 100000 in
theorem ea_X8_siteProperty : co_X8_siteProperty.all (entOk (mRow m_X8_siteProperty).2.2.2.2.1 (mRow m_X8_siteProperty).2.2.1 (mRow m_X8_siteProperty).2.1) = true := by decide +kernel
theorem md_X8_siteProperty : mdOk m_X8_siteProperty := ⟨ea_X8_siteProperty, by decide +kernel, by decide +kernel, _, _, rfl, rfl⟩
set_option maxRecDepth 100000 in
theorem ea_X8_mapsOf : co_X8_mapsOf.all (entOk (mRow m_X8_mapsOf).2.2.2.2.1 (mRow m_X8_mapsOf).2.2.1 (mRow m_X8_mapsOf).2.1) = true := by decide +kernel
theorem md_X8_mapsOf : mdOk m_X8_mapsOf := ⟨ea_X8_mapsOf, by decide +kernel, by decide +kernel, _, _, rfl, rfl⟩
set_option maxRecDepth 100000 in
theorem ea_X8_totalOf : co_X8_totalOf.all (entOk (mRow m_X8_totalOf).2.2.2.2.1 (mRow m_X8_totalOf).2.2.1 (mRow m_X8_totalOf).2.1) = true := by decide +kernel
theorem md_X8_totalOf : mdOk m_X8_totalOf := ⟨ea_X8_totalOf, by decide +kernel, by decide +kernel, _, _, rfl, rfl⟩
set_option maxRecDepth 100000 in
theorem ea_X8_sitesUp : co_X8_sitesUp.all (entOk (mRow m_X8_sitesUp).2.2.2.2.1 (mRow m_X8_sitesUp).2.2.1 (mRow m_X8_sitesUp).2.1) = true := by decide +kernel
theorem md_X8_sitesUp : mdOk m_X8_sitesUp := ⟨ea_X8_sitesUp, by decide +kernel, by decide +kernel, _, _, rfl, rfl⟩
set_option maxRecDepth 100000 in
theorem ea_X8_sumOverRouters : co_X8_sumOverRouters.all (entOk (mRow m_X8_sumOverRouters).2.2.2.2.1 (mRow m_X8_sumOverRouters).2.2.1 (mRow m_X8_sumOverRouters).2.1) = true := by decide +kernel
theorem md_X8_sumOverRouters : mdOk m_X8_sumOverRouters := ⟨ea_X8_sumOverRouters, by decide +kernel, by decide +kernel, _, _, rfl, rfl⟩
set_option maxRecDepth 100000 in
theorem ea_X8_namesWithAnswer : co_X8_namesWithAnswer.all (entOk (mRow m_X8_namesWithAnswer).2.2.2.2.1 (mRow m_X8_namesWithAnswer).2.2.1 (mRow m_X8_namesWithAnswer).2.1) = true := by decide +kernel
theorem md_X8_namesWithAnswer : mdOk m_X8_namesWithAnswer := ⟨ea_X8_namesWithAnswer, by decide +kernel, by decide +kernel, _, _, rfl, rfl⟩
set_option maxRecDepth 100000 in
theorem ea_X9_init : co_X9_init.all (entOk (mRow m_X9_init).2.2.2.2.1 (mRow m_X9_init).2.2.1 (mRow m_X9_init).2.1) = true := by decide +kernel
theorem md_X9_init : mdOk m_X9_init := ⟨ea_X9_init, by decide +kernel, by decide +kernel, _, _, rfl, rfl⟩
set_option maxRecDepth 100000 in
theorem ea_X9_addServer : co_X9_addServer.all (entOk (mRow m_X9_addServer).2.2.2.2.1 (mRow m_X9_addServer).2.2.1 (mRow m_X9_addServer).2.1) = true := by decide +kernel
theorem md_X9_addServer : mdOk m_X9_addServer := ⟨ea_X9_addServer, by decide +kernel, by decide +kernel, _, _, rfl, rfl⟩
set_option maxRecDepth 100000 in
theorem ea_X9_addSite : co_X9_addSite.all (entOk (mRow m_X9_addSite).2.2.2.2.1 (mRow m_X9_addSite).2.2.1 (mRow m_X9_addSite).2.1) = true := by decide +kernel
theorem md_X9_addSite : mdOk m_X9_addSite := ⟨ea_X9_addSite, by decide +kernel, by decide +kernel, _, _, rfl, rfl⟩
set_option maxRecDepth 100000 in
theorem ea_X9_addRouter : co_X9_addRouter.all (entOk (mRow m_X9_addRouter).2.2.2.2.1 (mRow m_X9_addRouter).2.2.1 (mRow m_X9_addRouter).2.1) = true := by decide +kernel
theorem md_X9_addRouter : mdOk m_X9_addRouter := ⟨ea_X9_addRouter, by decide +kernel, by decide +kernel, _, _, rfl, rfl⟩
set_option maxRecDepth 100000 in
theorem ea_X9_setSlot : co_X9_setSlot.all (entOk (mRow m_X9_setSlot).2.2.2.2.1 (mRow m_X9_setSlot).2.2.1 (mRow m_X9_setSlot).2.1) = true := by decide +kernel
theorem md_X9_setSlot : mdOk m_X9_setSlot := ⟨ea_X9_setSlot, by decide +kernel, by decide +kernel, _, _, rfl, rfl⟩
set_option maxRecDepth 100000 in
theorem ea_X9_emptySlot : co_X9_emptySlot.all (entOk (mRow m_X9_emptySlot).2.2.2.2.1 (mRow m_X9_emptySlot).2.2.1 (mRow m_X9_emptySlot).2.1) = true := by decide +kernel
theorem md_X9_emptySlot : mdOk m_X9_emptySlot := ⟨ea_X9_emptySlot, by decide +kernel, by decide +kernel, _, _, rfl, rfl⟩
set_option maxRecDepth 100000 in
theorem ea_X9_register : co_X9_register.all (entOk (mRow m_X9_register).2.2.2.2.1 (mRow m_X9_register).2.2.1 (mRow m_X9_register).2.1) = true := by decide +kernel
theorem md_X9_register : mdOk m_X9_register := ⟨ea_X9_register, by decide +kernel, by decide +kernel, _, _, rfl, rfl⟩
set_option maxRecDepth 100000 in
theorem ea_X9_unregister : co_X9_unregister.all (entOk (mRow m_X9_unregister).2.2.2.2.1 (mRow m_X9_unregister).2.2.1 (mRow m_X9_unregister).2.1) = true := by decide +kernel
theorem md_X9_unregister : mdOk m_X9_unregister := ⟨ea_X9_unregister, by decide +kernel, by decide +kernel, _, _, rfl, rfl⟩
set_option maxRecDepth 100000 in
theorem ea_X9_setMapLife : co_X9_setMapLife.all (entOk (mRow m_X9_setMapLife).2.2.2.2.1 (mRow m_X9_setMapLife).2.2.1 (mRow m_X9_setMapLife).2.1) = true := by decide +kernel
theorem md_X9_setMapLife : mdOk m_X9_setMapLife := ⟨ea_X9_setMapLife, by decide +kernel, by decide +kernel, _, _, rfl, rfl⟩
set_option maxRecDepth 100000 in
theorem ea_X9_send : co_X9_send.all (entOk (mRow m_X9_send).2.2.2.2.1 (mRow m_X9_send).2.2.1 (mRow m_X9_send).2.1) = true := by decide +kernel
theorem md_X9_send : mdOk m_X9_send := ⟨ea_X9_send, by decide +kernel, by decide +kernel, _, _, rfl, rfl⟩
set_option maxRecDepth 100000 in
theorem ea_X9_pass : co_X9_pass.all (entOk (mRow m_X9_pass).2.2.2.2.1 (mRow m_X9_pass).2.2.1 (mRow m_X9_pass).2.1) = true := by decide +kernel
theorem md_X9_pass : mdOk m_X9_pass := ⟨ea_X9_pass, by decide +kernel, by decide +kernel, _, _, rfl, rfl⟩
set_option maxRecDepth 100000 in
theorem ea_X9_forget : co_X9_forget.all (entOk (mRow m_X9_forget).2.2.2.2.1 (mRow m_X9_forget).2.2.1 (mRow m_X9_forget).2.1) = true := by decide +kernel
theorem md_X9_forget : mdOk m_X9_forget := ⟨ea_X9_forget, by decide +kernel, by decide +kernel, _, _, rfl, rfl⟩
set_option maxRecDepth 100000 in
theorem ea_X9_append : co_X9_append.all (entOk (mRow m_X9_append).2.2.2.2.1 (mRow m_X9_append).2.2.1 (mRow m_X9_append).2.1) = true := by decide +kernel
theorem md_X9_append : mdOk m_X9_append := ⟨ea_X9_append, by decide +kernel, by decide +kernel, _, _, rfl, rfl⟩
set_option maxRecDepth 100000 in
theorem ea_X9_clearText : co_X9_clearText.all (entOk (mRow m_X9_clearText).2.2.2.2.1 (mRow m_X9_clearText).2.2.1 (mRow m_X9_clearText).2.1) = true := by decide +kernel
theorem md_X9_clearText : mdOk m_X9_clearText := ⟨ea_X9_clearText, by decide +kernel, by decide +kernel, _, _, rfl, rfl⟩
set_option maxRecDepth 100000 in
theorem ea_X9_faultPosition : co_X9_faultPosition.all (entOk (mRow m_X9_faultPosition).2.2.2.2.1 (mRow m_X9_faultPosition).2.2.1 (mRow m_X9_faultPosition).2.1) = true := by decide +kernel
theorem md_X9_faultPosition : mdOk m_X9_faultPosition := ⟨ea_X9_faultPosition, by decide +kernel, by decide +kernel, _, _, rfl, rfl⟩
set_option maxRecDepth 100000 in
theorem ea_X9_run : co_X9_run.all (entOk (mRow m_X9_run).2.2.2.2.1 (mRow m_X9_run).2.2.1 (mRow m_X9_run).2.1) = true := by decide +kernel
theorem md_X9_run : mdOk m_X9_run := ⟨ea_X9_run, by decide +kernel, by decide +kernel, _, _, rfl, rfl⟩
set_option maxRecDepth 100000 in
theorem ea_X9_undo : co_X9_undo.all (entOk (mRow m_X9_undo).2.2.2.2.1 (mRow m_X9_undo).2.2.1 (mRow m_X9_undo).2.1) = true := by decide +kernel
theorem md_X9_undo : mdOk m_X9_undo := ⟨ea_X9_undo, by decide +kernel, by decide +kernel, _, _, rfl, rfl⟩
set_option maxRecDepth 100000 in
theorem ea_X9_save : co_X9_save.all (entOk (mRow m_X9_save).2.2.2.2.1 (mRow m_X9_save).2.2.1 (mRow m_X9_save).2.1) = true := by decide +kernel
theorem md_X9_save : mdOk m_X9_save := ⟨ea_X9_save, by decide +kernel, by decide +kernel, _, _, rfl, rfl⟩
set_option maxRecDepth 100000 in
theorem ea_X9_restore : co_X9_restore.all (entOk (mRow m_X9_restore).2.2.2.2.1 (mRow m_X9_restore).2.2.1 (mRow m_X9_restore).2.1) = true := by decide +kernel
theorem md_X9_restore : mdOk m_X9_restore := ⟨ea_X9_restore, by decide +kernel, by decide +kernel, _, _, rfl, rfl⟩
set_option maxRecDepth 100000 in
theorem ea_X9_server : co_X9_server.all (entOk (mRow m_X9_server).2.2.2.2.1 (mRow m_X9_server).2.2.1 (mRow m_X9_server).2.1) = true := by decide +kernel
theorem md_X9_server : mdOk m_X9_server := ⟨ea_X9_server, by decide +kernel, by decide +kernel, _, _, rfl, rfl⟩
set_option maxRecDepth 100000 in
theorem ea_X9_site : co_X9_site.all (entOk (mRow m_X9_site).2.2.2.2.1 (mRow m_X9_site).2.2.1 (mRow m_X9_site).2.1) = true := by decide +kernel
theorem md_X9_site : mdOk m_X9_site := ⟨ea_X9_site, by decide +kernel, by decide +kernel, _, _, rfl, rfl⟩
set_option maxRecDepth 100000 in
theorem ea_X9_slot : co_X9_slot.all (entOk (mRow m_X9_slot).2.2.2.2.1 (mRow m_X9_slot).2.2.1 (mRow m_X9_slot).2.1) = true := by decide +kernel
theorem md_X9_slot : mdOk m_X9_slot := ⟨ea_X9_slot, by decide +kernel, by decide +kernel, _, _, rfl, rfl⟩
set_option maxRecDepth 100000 in
theorem ea_X9_router : co_X9_router.all (entOk (mRow m_X9_router).2.2.2.2.1 (mRow m_X9_router).2.2.1 (mRow m_X9_router).2.1) = true := by decide +kernel
theorem md_X9_router : mdOk m_X9_router := ⟨ea_X9_router, by decide +kernel, by decide +kernel, _, _, rfl, rfl⟩
set_option maxRecDepth 100000 in
theorem ea_X9_map : co_X9_map.all (entOk (mRow m_X9_map).2.2.2.2.1 (mRow m_X9_map).2.2.1 (mRow m_X9_map).2.1) = true := by decide +kernel
theorem md_X9_map : mdOk m_X9_map := ⟨ea_X9_map, by decide +kernel, by decide +kernel, _, _, rfl, rfl⟩
set_option maxRecDepth 100000 in
theorem ea_X9_answer : co_X9_answer.all (entOk (mRow m_X9_answer).2.2.2.2.1 (mRow m_X9_answer).2.2.1 (mRow m_X9_answer).2.1) = true := by decide +kernel
theorem md_X9_answer : mdOk m_X9_answer := ⟨ea_X9_answer, by decide +kernel, by decide +kernel, _, _, rfl, rfl⟩
set_option maxRecDepth 100000 in
theorem ea_X9_way : co_X9_way.all (entOk (mRow m_X9_way).2.2.2.2.1 (mRow m_X9_way).2.2.1 (mRow m_X9_way).2.1) = true := by decide +kernel
theorem md_X9_way : mdOk m_X9_way := ⟨ea_X9_way, by decide +kernel, by decide +kernel, _, _, rfl, rfl⟩
set_option maxRecDepth 100000 in
theorem ea_X9_endingNext : co_X9_endingNext.all (entOk (mRow m_X9_endingNext).2.2.2.2.1 (mRow m_X9_endingNext).2.2.1 (mRow m_X9_endingNext).2.1) = true := by decide +kernel
theorem md_X9_endingNext : mdOk m_X9_endingNext := ⟨ea_X9_endingNext, by decide +kernel, by decide +kernel, _, _, rfl, rfl⟩
set_option maxRecDepth 100000 in
theorem ea_X9_total : co_X9_total.all (entOk (mRow m_X9_total).2.2.2.2.1 (mRow m_X9_total).2.2.1 (mRow m_X9_total).2.1) = true := by decide +kernel
theorem md_X9_total : mdOk m_X9_total := ⟨ea_X9_total, by decide +kernel, by decide +kernel, _, _, rfl, rfl⟩
set_option maxRecDepth 100000 in
theorem ea_X9_wouldReach : co_X9_wouldReach.all (entOk (mRow m_X9_wouldReach).2.2.2.2.1 (mRow m_X9_wouldReach).2.2.1 (mRow m_X9_wouldReach).2.1) = true := by decide +kernel
theorem md_X9_wouldReach : mdOk m_X9_wouldReach := ⟨ea_X9_wouldReach, by decide +kernel, by decide +kernel, _, _, rfl, rfl⟩
set_option maxRecDepth 100000 in
theorem ea_X9_wouldAsk : co_X9_wouldAsk.all (entOk (mRow m_X9_wouldAsk).2.2.2.2.1 (mRow m_X9_wouldAsk).2.2.1 (mRow m_X9_wouldAsk).2.1) = true := by decide +kernel
theorem md_X9_wouldAsk : mdOk m_X9_wouldAsk := ⟨ea_X9_wouldAsk, by decide +kernel, by decide +kernel, _, _, rfl, rfl⟩
set_option maxRecDepth 100000 in
theorem ea_X9_share : co_X9_share.all (entOk (mRow m_X9_share).2.2.2.2.1 (mRow m_X9_share).2.2.1 (mRow m_X9_share).2.1) = true := by decide +kernel
theorem md_X9_share : mdOk m_X9_share := ⟨ea_X9_share, by decide +kernel, by decide +kernel, _, _, rfl, rfl⟩
set_option maxRecDepth 100000 in
theorem ea_X9_recorded : co_X9_recorded.all (entOk (mRow m_X9_recorded).2.2.2.2.1 (mRow m_X9_recorded).2.2.1 (mRow m_X9_recorded).2.1) = true := by decide +kernel
theorem md_X9_recorded : mdOk m_X9_recorded := ⟨ea_X9_recorded, by decide +kernel, by decide +kernel, _, _, rfl, rfl⟩
set_option maxRecDepth 100000 in
theorem ea_X9_carryOutAct : co_X9_carryOutAct.all (entOk (mRow m_X9_carryOutAct).2.2.2.2.1 (mRow m_X9_carryOutAct).2.2.1 (mRow m_X9_carryOutAct).2.1) = true := by decide +kernel
theorem md_X9_carryOutAct : mdOk m_X9_carryOutAct := ⟨ea_X9_carryOutAct, by decide +kernel, by decide +kernel, _, _, rfl, rfl⟩
set_option maxRecDepth 100000 in
theorem ea_X9_isSave : co_X9_isSave.all (entOk (mRow m_X9_isSave).2.2.2.2.1 (mRow m_X9_isSave).2.2.1 (mRow m_X9_isSave).2.1) = true := by decide +kernel
theorem md_X9_isSave : mdOk m_X9_isSave := ⟨ea_X9_isSave, by decide +kernel, by decide +kernel, _, _, rfl, rfl⟩
set_option maxRecDepth 100000 in
theorem ea_X9_isSlot : co_X9_isSlot.all (entOk (mRow m_X9_isSlot).2.2.2.2.1 (mRow m_X9_isSlot).2.2.1 (mRow m_X9_isSlot).2.1) = true := by decide +kernel
theorem md_X9_isSlot : mdOk m_X9_isSlot := ⟨ea_X9_isSlot, by decide +kernel, by decide +kernel, _, _, rfl, rfl⟩
set_option maxRecDepth 100000 in
theorem ea_X9_isName : co_X9_isName.all (entOk (mRow m_X9_isName).2.2.2.2.1 (mRow m_X9_isName).2.2.1 (mRow m_X9_isName).2.1) = true := by decide +kernel
theorem md_X9_isName : mdOk m_X9_isName := ⟨ea_X9_isName, by decide +kernel, by decide +kernel, _, _, rfl, rfl⟩
set_option maxRecDepth 100000 in
theorem ea_X9_isFlow : co_X9_isFlow.all (entOk (mRow m_X9_isFlow).2.2.2.2.1 (mRow m_X9_isFlow).2.2.1 (mRow m_X9_isFlow).2.1) = true := by decide +kernel
theorem md_X9_isFlow : mdOk m_X9_isFlow := ⟨ea_X9_isFlow, by decide +kernel, by decide +kernel, _, _, rfl, rfl⟩
set_option maxRecDepth 100000 in
theorem ea_X9_isPlaceOfSlot : co_X9_isPlaceOfSlot.all (entOk (mRow m_X9_isPlaceOfSlot).2.2.2.2.1 (mRow m_X9_isPlaceOfSlot).2.2.1 (mRow m_X9_isPlaceOfSlot).2.1) = true := by decide +kernel
theorem md_X9_isPlaceOfSlot : mdOk m_X9_isPlaceOfSlot := ⟨ea_X9_isPlaceOfSlot, by decide +kernel, by decide +kernel, _, _, rfl, rfl⟩
set_option maxRecDepth 100000 in
theorem ea_X9_isBlock : co_X9_isBlock.all (entOk (mRow m_X9_isBlock).2.2.2.2.1 (mRow m_X9_isBlock).2.2.1 (mRow m_X9_isBlock).2.1) = true := by decide +kernel
theorem md_X9_isBlock : mdOk m_X9_isBlock := ⟨ea_X9_isBlock, by decide +kernel, by decide +kernel, _, _, rfl, rfl⟩
set_option maxRecDepth 100000 in
theorem ea_X10_init : co_X10_init.all (entOk (mRow m_X10_init).2.2.2.2.1 (mRow m_X10_init).2.2.1 (mRow m_X10_init).2.1) = true := by decide +kernel
theorem md_X10_init : mdOk m_X10_init := ⟨ea_X10_init, by decide +kernel, by decide +kernel, _, _, rfl, rfl⟩
set_option maxRecDepth 100000 in
theorem ea_X10_isIn : co_X10_isIn.all (entOk (mRow m_X10_isIn).2.2.2.2.1 (mRow m_X10_isIn).2.2.1 (mRow m_X10_isIn).2.1) = true := by decide +kernel
theorem md_X10_isIn : mdOk m_X10_isIn := ⟨ea_X10_isIn, by decide +kernel, by decide +kernel, _, _, rfl, rfl⟩
set_option maxRecDepth 100000 in
theorem ea_X10_isServer : co_X10_isServer.all (entOk (mRow m_X10_isServer).2.2.2.2.1 (mRow m_X10_isServer).2.2.1 (mRow m_X10_isServer).2.1) = true := by decide +kernel
theorem md_X10_isServer : mdOk m_X10_isServer := ⟨ea_X10_isServer, by decide +kernel, by decide +kernel, _, _, rfl, rfl⟩
set_option maxRecDepth 100000 in
theorem ea_X10_isSite : co_X10_isSite.all (entOk (mRow m_X10_isSite).2.2.2.2.1 (mRow m_X10_isSite).2.2.1 (mRow m_X10_isSite).2.1) = true := by decide +kernel
theorem md_X10_isSite : mdOk m_X10_isSite := ⟨ea_X10_isSite, by decide +kernel, by decide +kernel, _, _, rfl, rfl⟩
set_option maxRecDepth 100000 in
theorem ea_X10_isRouter : co_X10_isRouter.all (entOk (mRow m_X10_isRouter).2.2.2.2.1 (mRow m_X10_isRouter).2.2.1 (mRow m_X10_isRouter).2.1) = true := by decide +kernel
theorem md_X10_isRouter : mdOk m_X10_isRouter := ⟨ea_X10_isRouter, by decide +kernel, by decide +kernel, _, _, rfl, rfl⟩
set_option maxRecDepth 100000 in
theorem ea_X10_isName : co_X10_isName.all (entOk (mRow m_X10_isName).2.2.2.2.1 (mRow m_X10_isName).2.2.1 (mRow m_X10_isName).2.1) = true := by decide +kernel
theorem md_X10_isName : mdOk m_X10_isName := ⟨ea_X10_isName, by decide +kernel, by decide +kernel, _, _, rfl, rfl⟩
set_option maxRecDepth 100000 in
theorem ea_X10_siteAt : co_X10_siteAt.all (entOk (mRow m_X10_siteAt).2.2.2.2.1 (mRow m_X10_siteAt).2.2.1 (mRow m_X10_siteAt).2.1) = true := by decide +kernel
theorem md_X10_siteAt : mdOk m_X10_siteAt := ⟨ea_X10_siteAt, by decide +kernel, by decide +kernel, _, _, rfl, rfl⟩
set_option maxRecDepth 100000 in
theorem ea_X10_routerAt : co_X10_routerAt.all (entOk (mRow m_X10_routerAt).2.2.2.2.1 (mRow m_X10_routerAt).2.2.1 (mRow m_X10_routerAt).2.1) = true := by decide +kernel
theorem md_X10_routerAt : mdOk m_X10_routerAt := ⟨ea_X10_routerAt, by decide +kernel, by decide +kernel, _, _, rfl, rfl⟩
set_option maxRecDepth 100000 in
theorem ea_X10_mapAt : co_X10_mapAt.all (entOk (mRow m_X10_mapAt).2.2.2.2.1 (mRow m_X10_mapAt).2.2.1 (mRow m_X10_mapAt).2.1) = true := by decide +kernel
theorem md_X10_mapAt : mdOk m_X10_mapAt := ⟨ea_X10_mapAt, by decide +kernel, by decide +kernel, _, _, rfl, rfl⟩
set_option maxRecDepth 100000 in
theorem ea_X10_keeps : co_X10_keeps.all (entOk (mRow m_X10_keeps).2.2.2.2.1 (mRow m_X10_keeps).2.2.1 (mRow m_X10_keeps).2.1) = true := by decide +kernel
theorem md_X10_keeps : mdOk m_X10_keeps := ⟨ea_X10_keeps, by decide +kernel, by decide +kernel, _, _, rfl, rfl⟩
set_option maxRecDepth 100000 in
theorem ea_X10_brings : co_X10_brings.all (entOk (mRow m_X10_brings).2.2.2.2.1 (mRow m_X10_brings).2.2.1 (mRow m_X10_brings).2.1) = true := by decide +kernel
theorem md_X10_brings : mdOk m_X10_brings := ⟨ea_X10_brings, by decide +kernel, by decide +kernel, _, _, rfl, rfl⟩
set_option maxRecDepth 100000 in
theorem ea_X10_records : co_X10_records.all (entOk (mRow m_X10_records).2.2.2.2.1 (mRow m_X10_records).2.2.1 (mRow m_X10_records).2.1) = true := by decide +kernel
theorem md_X10_records : mdOk m_X10_records := ⟨ea_X10_records, by decide +kernel, by decide +kernel, _, _, rfl, rfl⟩
set_option maxRecDepth 100000 in
theorem ea_X10_undo : co_X10_undo.all (entOk (mRow m_X10_undo).2.2.2.2.1 (mRow m_X10_undo).2.2.1 (mRow m_X10_undo).2.1) = true := by decide +kernel
theorem md_X10_undo : mdOk m_X10_undo := ⟨ea_X10_undo, by decide +kernel, by decide +kernel, _, _, rfl, rfl⟩
set_option maxRecDepth 100000 in
theorem ea_X10_save : co_X10_save.all (entOk (mRow m_X10_save).2.2.2.2.1 (mRow m_X10_save).2.2.1 (mRow m_X10_save).2.1) = true := by decide +kernel
theorem md_X10_save : mdOk m_X10_save := ⟨ea_X10_save, by decide +kernel, by decide +kernel, _, _, rfl, rfl⟩
set_option maxRecDepth 100000 in
theorem ea_X10_restore : co_X10_restore.all (entOk (mRow m_X10_restore).2.2.2.2.1 (mRow m_X10_restore).2.2.1 (mRow m_X10_restore).2.1) = true := by decide +kernel
theorem md_X10_restore : mdOk m_X10_restore := ⟨ea_X10_restore, by decide +kernel, by decide +kernel, _, _, rfl, rfl⟩
set_option maxRecDepth 100000 in
theorem ea_X10_isBlock : co_X10_isBlock.all (entOk (mRow m_X10_isBlock).2.2.2.2.1 (mRow m_X10_isBlock).2.2.1 (mRow m_X10_isBlock).2.1) = true := by decide +kernel
theorem md_X10_isBlock : mdOk m_X10_isBlock := ⟨ea_X10_isBlock, by decide +kernel, by decide +kernel, _, _, rfl, rfl⟩
set_option maxRecDepth 100000 in
theorem ea_X10_firstOf : co_X10_firstOf.all (entOk (mRow m_X10_firstOf).2.2.2.2.1 (mRow m_X10_firstOf).2.2.1 (mRow m_X10_firstOf).2.1) = true := by decide +kernel
theorem md_X10_firstOf : mdOk m_X10_firstOf := ⟨ea_X10_firstOf, by decide +kernel, by decide +kernel, _, _, rfl, rfl⟩
set_option maxRecDepth 100000 in
theorem ea_X10_sizeOf : co_X10_sizeOf.all (entOk (mRow m_X10_sizeOf).2.2.2.2.1 (mRow m_X10_sizeOf).2.2.1 (mRow m_X10_sizeOf).2.1) = true := by decide +kernel
theorem md_X10_sizeOf : mdOk m_X10_sizeOf := ⟨ea_X10_sizeOf, by decide +kernel, by decide +kernel, _, _, rfl, rfl⟩
set_option maxRecDepth 100000 in
theorem ea_X10_holds : co_X10_holds.all (entOk (mRow m_X10_holds).2.2.2.2.1 (mRow m_X10_holds).2.2.1 (mRow m_X10_holds).2.1) = true := by decide +kernel
theorem md_X10_holds : mdOk m_X10_holds := ⟨ea_X10_holds, by decide +kernel, by decide +kernel, _, _, rfl, rfl⟩
set_option maxRecDepth 100000 in
theorem ea_X10_homeOf : co_X10_homeOf.all (entOk (mRow m_X10_homeOf).2.2.2.2.1 (mRow m_X10_homeOf).2.2.1 (mRow m_X10_homeOf).2.1) = true := by decide +kernel
theorem md_X10_homeOf : mdOk m_X10_homeOf := ⟨ea_X10_homeOf, by decide +kernel, by decide +kernel, _, _, rfl, rfl⟩
set_option maxRecDepth 100000 in
theorem ea_X10_wayTo : co_X10_wayTo.all (entOk (mRow m_X10_wayTo).2.2.2.2.1 (mRow m_X10_wayTo).2.2.1 (mRow m_X10_wayTo).2.1) = true := by decide +kernel
theorem md_X10_wayTo : mdOk m_X10_wayTo := ⟨ea_X10_wayTo, by decide +kernel, by decide +kernel, _, _, rfl, rfl⟩
set_option maxRecDepth 100000 in
theorem ea_X10_way : co_X10_way.all (entOk (mRow m_X10_way).2.2.2.2.1 (mRow m_X10_way).2.2.1 (mRow m_X10_way).2.1) = true := by decide +kernel
theorem md_X10_way : mdOk m_X10_way := ⟨ea_X10_way, by decide +kernel, by decide +kernel, _, _, rfl, rfl⟩
set_option maxRecDepth 100000 in
theorem ea_X10_addServer : co_X10_addServer.all (entOk (mRow m_X10_addServer).2.2.2.2.1 (mRow m_X10_addServer).2.2.1 (mRow m_X10_addServer).2.1) = true := by decide +kernel
theorem md_X10_addServer : mdOk m_X10_addServer := ⟨ea_X10_addServer, by decide +kernel, by decide +kernel, _, _, rfl, rfl⟩
set_option maxRecDepth 100000 in
theorem ea_X10_ofSite : co_X10_ofSite.all (entOk (mRow m_X10_ofSite).2.2.2.2.1 (mRow m_X10_ofSite).2.2.1 (mRow m_X10_ofSite).2.1) = true := by decide +kernel
theorem md_X10_ofSite : mdOk m_X10_ofSite := ⟨ea_X10_ofSite, by decide +kernel, by decide +kernel, _, _, rfl, rfl⟩
set_option maxRecDepth 100000 in
theorem ea_X10_has : co_X10_has.all (entOk (mRow m_X10_has).2.2.2.2.1 (mRow m_X10_has).2.2.1 (mRow m_X10_has).2.1) = true := by decide +kernel
theorem md_X10_has : mdOk m_X10_has := ⟨ea_X10_has, by decide +kernel, by decide +kernel, _, _, rfl, rfl⟩
set_option maxRecDepth 100000 in
theorem ea_X10_homeOfSite : co_X10_homeOfSite.all (entOk (mRow m_X10_homeOfSite).2.2.2.2.1 (mRow m_X10_homeOfSite).2.2.1 (mRow m_X10_homeOfSite).2.1) = true := by decide +kernel
theorem md_X10_homeOfSite : mdOk m_X10_homeOfSite := ⟨ea_X10_homeOfSite, by decide +kernel, by decide +kernel, _, _, rfl, rfl⟩
set_option maxRecDepth 100000 in
theorem ea_X10_isRegistered : co_X10_isRegistered.all (entOk (mRow m_X10_isRegistered).2.2.2.2.1 (mRow m_X10_isRegistered).2.2.1 (mRow m_X10_isRegistered).2.1) = true := by decide +kernel
theorem md_X10_isRegistered : mdOk m_X10_isRegistered := ⟨ea_X10_isRegistered, by decide +kernel, by decide +kernel, _, _, rfl, rfl⟩
set_option maxRecDepth 100000 in
theorem ea_X10_isUp : co_X10_isUp.all (entOk (mRow m_X10_isUp).2.2.2.2.1 (mRow m_X10_isUp).2.2.1 (mRow m_X10_isUp).2.1) = true := by decide +kernel
theorem md_X10_isUp : mdOk m_X10_isUp := ⟨ea_X10_isUp, by decide +kernel, by decide +kernel, _, _, rfl, rfl⟩
set_option maxRecDepth 100000 in
theorem ea_X10_answerOf : co_X10_answerOf.all (entOk (mRow m_X10_answerOf).2.2.2.2.1 (mRow m_X10_answerOf).2.2.1 (mRow m_X10_answerOf).2.1) = true := by decide +kernel
theorem md_X10_answerOf : mdOk m_X10_answerOf := ⟨ea_X10_answerOf, by decide +kernel, by decide +kernel, _, _, rfl, rfl⟩
set_option maxRecDepth 100000 in
theorem ea_X10_answer : co_X10_answer.all (entOk (mRow m_X10_answer).2.2.2.2.1 (mRow m_X10_answer).2.2.1 (mRow m_X10_answer).2.1) = true := by decide +kernel
theorem md_X10_answer : mdOk m_X10_answer := ⟨ea_X10_answer, by decide +kernel, by decide +kernel, _, _, rfl, rfl⟩
set_option maxRecDepth 100000 in
theorem ea_X10_addSite : co_X10_addSite.all (entOk (mRow m_X10_addSite).2.2.2.2.1 (mRow m_X10_addSite).2.2.1 (mRow m_X10_addSite).2.1) = true := by decide +kernel
theorem md_X10_addSite : mdOk m_X10_addSite := ⟨ea_X10_addSite, by decide +kernel, by decide +kernel, _, _, rfl, rfl⟩
set_option maxRecDepth 100000 in
theorem ea_X10_addRouter : co_X10_addRouter.all (entOk (mRow m_X10_addRouter).2.2.2.2.1 (mRow m_X10_addRouter).2.2.1 (mRow m_X10_addRouter).2.1) = true := by decide +kernel
theorem md_X10_addRouter : mdOk m_X10_addRouter := ⟨ea_X10_addRouter, by decide +kernel, by decide +kernel, _, _, rfl, rfl⟩
set_option maxRecDepth 100000 in
theorem ea_X10_setSlot : co_X10_setSlot.all (entOk (mRow m_X10_setSlot).2.2.2.2.1 (mRow m_X10_setSlot).2.2.1 (mRow m_X10_setSlot).2.1) = true := by decide +kernel
theorem md_X10_setSlot : mdOk m_X10_setSlot := ⟨ea_X10_setSlot, by decide +kernel, by decide +kernel, _, _, rfl, rfl⟩
set_option maxRecDepth 100000 in
theorem ea_X10_emptySlot : co_X10_emptySlot.all (entOk (mRow m_X10_emptySlot).2.2.2.2.1 (mRow m_X10_emptySlot).2.2.1 (mRow m_X10_emptySlot).2.1) = true := by decide +kernel
theorem md_X10_emptySlot : mdOk m_X10_emptySlot := ⟨ea_X10_emptySlot, by decide +kernel, by decide +kernel, _, _, rfl, rfl⟩
set_option maxRecDepth 100000 in
theorem ea_X10_registers : co_X10_registers.all (entOk (mRow m_X10_registers).2.2.2.2.1 (mRow m_X10_registers).2.2.1 (mRow m_X10_registers).2.1) = true := by decide +kernel
theorem md_X10_registers : mdOk m_X10_registers := ⟨ea_X10_registers, by decide +kernel, by decide +kernel, _, _, rfl, rfl⟩
set_option maxRecDepth 100000 in
theorem ea_X10_register : co_X10_register.all (entOk (mRow m_X10_register).2.2.2.2.1 (mRow m_X10_register).2.2.1 (mRow m_X10_register).2.1) = true := by decide +kernel
theorem md_X10_register : mdOk m_X10_register := ⟨ea_X10_register, by decide +kernel, by decide +kernel, _, _, rfl, rfl⟩
set_option maxRecDepth 100000 in
theorem ea_X10_unregisterError : co_X10_unregisterError.all (entOk (mRow m_X10_unregisterError).2.2.2.2.1 (mRow m_X10_unregisterError).2.2.1 (mRow m_X10_unregisterError).2.1) = true := by decide +kernel
theorem md_X10_unregisterError : mdOk m_X10_unregisterError := ⟨ea_X10_unregisterError, by decide +kernel, by decide +kernel, _, _, rfl, rfl⟩
set_option maxRecDepth 100000 in
theorem ea_X10_unregisters : co_X10_unregisters.all (entOk (mRow m_X10_unregisters).2.2.2.2.1 (mRow m_X10_unregisters).2.2.1 (mRow m_X10_unregisters).2.1) = true := by decide +kernel
theorem md_X10_unregisters : mdOk m_X10_unregisters := ⟨ea_X10_unregisters, by decide +kernel, by decide +kernel, _, _, rfl, rfl⟩
set_option maxRecDepth 100000 in
theorem ea_X10_unregister : co_X10_unregister.all (entOk (mRow m_X10_unregister).2.2.2.2.1 (mRow m_X10_unregister).2.2.1 (mRow m_X10_unregister).2.1) = true := by decide +kernel
theorem md_X10_unregister : mdOk m_X10_unregister := ⟨ea_X10_unregister, by decide +kernel, by decide +kernel, _, _, rfl, rfl⟩
set_option maxRecDepth 100000 in
theorem ea_X10_setMapLife : co_X10_setMapLife.all (entOk (mRow m_X10_setMapLife).2.2.2.2.1 (mRow m_X10_setMapLife).2.2.1 (mRow m_X10_setMapLife).2.1) = true := by decide +kernel
theorem md_X10_setMapLife : mdOk m_X10_setMapLife := ⟨ea_X10_setMapLife, by decide +kernel, by decide +kernel, _, _, rfl, rfl⟩
set_option maxRecDepth 100000 in
theorem ea_X10_mapsOf : co_X10_mapsOf.all (entOk (mRow m_X10_mapsOf).2.2.2.2.1 (mRow m_X10_mapsOf).2.2.1 (mRow m_X10_mapsOf).2.1) = true := by decide +kernel
theorem md_X10_mapsOf : mdOk m_X10_mapsOf := ⟨ea_X10_mapsOf, by decide +kernel, by decide +kernel, _, _, rfl, rfl⟩
set_option maxRecDepth 100000 in
theorem ea_X10_ofMap : co_X10_ofMap.all (entOk (mRow m_X10_ofMap).2.2.2.2.1 (mRow m_X10_ofMap).2.2.1 (mRow m_X10_ofMap).2.1) = true := by decide +kernel
theorem md_X10_ofMap : mdOk m_X10_ofMap := ⟨ea_X10_ofMap, by decide +kernel, by decide +kernel, _, _, rfl, rfl⟩
set_option maxRecDepth 100000 in
theorem ea_X10_drops : co_X10_drops.all (entOk (mRow m_X10_drops).2.2.2.2.1 (mRow m_X10_drops).2.2.1 (mRow m_X10_drops).2.1) = true := by decide +kernel
theorem md_X10_drops : mdOk m_X10_drops := ⟨ea_X10_drops, by decide +kernel, by decide +kernel, _, _, rfl, rfl⟩
set_option maxRecDepth 100000 in
theorem ea_X10_makesRoom : co_X10_makesRoom.all (entOk (mRow m_X10_makesRoom).2.2.2.2.1 (mRow m_X10_makesRoom).2.2.1 (mRow m_X10_makesRoom).2.1) = true := by decide +kernel
theorem md_X10_makesRoom : mdOk m_X10_makesRoom := ⟨ea_X10_makesRoom, by decide +kernel, by decide +kernel, _, _, rfl, rfl⟩
set_option maxRecDepth 100000 in
theorem ea_X10_uses : co_X10_uses.all (entOk (mRow m_X10_uses).2.2.2.2.1 (mRow m_X10_uses).2.2.1 (mRow m_X10_uses).2.1) = true := by decide +kernel
theorem md_X10_uses : mdOk m_X10_uses := ⟨ea_X10_uses, by decide +kernel, by decide +kernel, _, _, rfl, rfl⟩
set_option maxRecDepth 100000 in
theorem ea_X10_asks : co_X10_asks.all (entOk (mRow m_X10_asks).2.2.2.2.1 (mRow m_X10_asks).2.2.1 (mRow m_X10_asks).2.1) = true := by decide +kernel
theorem md_X10_asks : mdOk m_X10_asks := ⟨ea_X10_asks, by decide +kernel, by decide +kernel, _, _, rfl, rfl⟩
set_option maxRecDepth 100000 in
theorem ea_X10_chosen : co_X10_chosen.all (entOk (mRow m_X10_chosen).2.2.2.2.1 (mRow m_X10_chosen).2.2.1 (mRow m_X10_chosen).2.1) = true := by decide +kernel
theorem md_X10_chosen : mdOk m_X10_chosen := ⟨ea_X10_chosen, by decide +kernel, by decide +kernel, _, _, rfl, rfl⟩
set_option maxRecDepth 100000 in
theorem ea_X10_isAt : co_X10_isAt.all (entOk (mRow m_X10_isAt).2.2.2.2.1 (mRow m_X10_isAt).2.2.1 (mRow m_X10_isAt).2.1) = true := by decide +kernel
theorem md_X10_isAt : mdOk m_X10_isAt := ⟨ea_X10_isAt, by decide +kernel, by decide +kernel, _, _, rfl, rfl⟩
set_option maxRecDepth 100000 in
theorem ea_X10_takes : co_X10_takes.all (entOk (mRow m_X10_takes).2.2.2.2.1 (mRow m_X10_takes).2.2.1 (mRow m_X10_takes).2.1) = true := by decide +kernel
theorem md_X10_takes : mdOk m_X10_takes := ⟨ea_X10_takes, by decide +kernel, by decide +kernel, _, _, rfl, rfl⟩
set_option maxRecDepth 100000 in
theorem ea_X10_proxy : co_X10_proxy.all (entOk (mRow m_X10_proxy).2.2.2.2.1 (mRow m_X10_proxy).2.2.1 (mRow m_X10_proxy).2.1) = true := by decide +kernel
theorem md_X10_proxy : mdOk m_X10_proxy := ⟨ea_X10_proxy, by decide +kernel, by decide +kernel, _, _, rfl, rfl⟩
set_option maxRecDepth 100000 in
theorem ea_X10_sends : co_X10_sends.all (entOk (mRow m_X10_sends).2.2.2.2.1 (mRow m_X10_sends).2.2.1 (mRow m_X10_sends).2.1) = true := by decide +kernel
theorem md_X10_sends : mdOk m_X10_sends := ⟨ea_X10_sends, by decide +kernel, by decide +kernel, _, _, rfl, rfl⟩
set_option maxRecDepth 100000 in
theorem ea_X10_isLetter : co_X10_isLetter.all (entOk (mRow m_X10_isLetter).2.2.2.2.1 (mRow m_X10_isLetter).2.2.1 (mRow m_X10_isLetter).2.1) = true := by decide +kernel
theorem md_X10_isLetter : mdOk m_X10_isLetter := ⟨ea_X10_isLetter, by decide +kernel, by decide +kernel, _, _, rfl, rfl⟩
set_option maxRecDepth 100000 in
theorem ea_X10_send : co_X10_send.all (entOk (mRow m_X10_send).2.2.2.2.1 (mRow m_X10_send).2.2.1 (mRow m_X10_send).2.1) = true := by decide +kernel
theorem md_X10_send : mdOk m_X10_send := ⟨ea_X10_send, by decide +kernel, by decide +kernel, _, _, rfl, rfl⟩
set_option maxRecDepth 100000 in
theorem ea_X10_pass : co_X10_pass.all (entOk (mRow m_X10_pass).2.2.2.2.1 (mRow m_X10_pass).2.2.1 (mRow m_X10_pass).2.1) = true := by decide +kernel
theorem md_X10_pass : mdOk m_X10_pass := ⟨ea_X10_pass, by decide +kernel, by decide +kernel, _, _, rfl, rfl⟩
set_option maxRecDepth 100000 in
theorem ea_X10_forget : co_X10_forget.all (entOk (mRow m_X10_forget).2.2.2.2.1 (mRow m_X10_forget).2.2.1 (mRow m_X10_forget).2.1) = true := by decide +kernel
theorem md_X10_forget : mdOk m_X10_forget := ⟨ea_X10_forget, by decide +kernel, by decide +kernel, _, _, rfl, rfl⟩
set_option maxRecDepth 100000 in
theorem ea_X10_append : co_X10_append.all (entOk (mRow m_X10_append).2.2.2.2.1 (mRow m_X10_append).2.2.1 (mRow m_X10_append).2.1) = true := by decide +kernel
theorem md_X10_append : mdOk m_X10_append := ⟨ea_X10_append, by decide +kernel, by decide +kernel, _, _, rfl, rfl⟩
set_option maxRecDepth 100000 in
theorem ea_X10_clearText : co_X10_clearText.all (entOk (mRow m_X10_clearText).2.2.2.2.1 (mRow m_X10_clearText).2.2.1 (mRow m_X10_clearText).2.1) = true := by decide +kernel
theorem md_X10_clearText : mdOk m_X10_clearText := ⟨ea_X10_clearText, by decide +kernel, by decide +kernel, _, _, rfl, rfl⟩
set_option maxRecDepth 100000 in
theorem ea_X10_passesSign : co_X10_passesSign.all (entOk (mRow m_X10_passesSign).2.2.2.2.1 (mRow m_X10_passesSign).2.2.1 (mRow m_X10_passesSign).2.1) = true := by decide +kernel
theorem md_X10_passesSign : mdOk m_X10_passesSign := ⟨ea_X10_passesSign, by decide +kernel, by decide +kernel, _, _, rfl, rfl⟩
set_option maxRecDepth 100000 in
theorem ea_X10_isDigitHere : co_X10_isDigitHere.all (entOk (mRow m_X10_isDigitHere).2.2.2.2.1 (mRow m_X10_isDigitHere).2.2.1 (mRow m_X10_isDigitHere).2.1) = true := by decide +kernel
theorem md_X10_isDigitHere : mdOk m_X10_isDigitHere := ⟨ea_X10_isDigitHere, by decide +kernel, by decide +kernel, _, _, rfl, rfl⟩
set_option maxRecDepth 100000 in
theorem ea_X10_passesNumber : co_X10_passesNumber.all (entOk (mRow m_X10_passesNumber).2.2.2.2.1 (mRow m_X10_passesNumber).2.2.1 (mRow m_X10_passesNumber).2.1) = true := by decide +kernel
theorem md_X10_passesNumber : mdOk m_X10_passesNumber := ⟨ea_X10_passesNumber, by decide +kernel, by decide +kernel, _, _, rfl, rfl⟩
set_option maxRecDepth 100000 in
theorem ea_X10_passesLetter : co_X10_passesLetter.all (entOk (mRow m_X10_passesLetter).2.2.2.2.1 (mRow m_X10_passesLetter).2.2.1 (mRow m_X10_passesLetter).2.1) = true := by decide +kernel
theorem md_X10_passesLetter : mdOk m_X10_passesLetter := ⟨ea_X10_passesLetter, by decide +kernel, by decide +kernel, _, _, rfl, rfl⟩
set_option maxRecDepth 100000 in
theorem ea_X10_passesAct : co_X10_passesAct.all (entOk (mRow m_X10_passesAct).2.2.2.2.1 (mRow m_X10_passesAct).2.2.1 (mRow m_X10_passesAct).2.1) = true := by decide +kernel
theorem md_X10_passesAct : mdOk m_X10_passesAct := ⟨ea_X10_passesAct, by decide +kernel, by decide +kernel, _, _, rfl, rfl⟩
set_option maxRecDepth 100000 in
theorem ea_X10_faultOf : co_X10_faultOf.all (entOk (mRow m_X10_faultOf).2.2.2.2.1 (mRow m_X10_faultOf).2.2.1 (mRow m_X10_faultOf).2.1) = true := by decide +kernel
theorem md_X10_faultOf : mdOk m_X10_faultOf := ⟨ea_X10_faultOf, by decide +kernel, by decide +kernel, _, _, rfl, rfl⟩
set_option maxRecDepth 100000 in
theorem ea_X10_faultPosition : co_X10_faultPosition.all (entOk (mRow m_X10_faultPosition).2.2.2.2.1 (mRow m_X10_faultPosition).2.2.1 (mRow m_X10_faultPosition).2.1) = true := by decide +kernel
theorem md_X10_faultPosition : mdOk m_X10_faultPosition := ⟨ea_X10_faultPosition, by decide +kernel, by decide +kernel, _, _, rfl, rfl⟩
set_option maxRecDepth 100000 in
theorem ea_X10_does : co_X10_does.all (entOk (mRow m_X10_does).2.2.2.2.1 (mRow m_X10_does).2.2.1 (mRow m_X10_does).2.1) = true := by decide +kernel
theorem md_X10_does : mdOk m_X10_does := ⟨ea_X10_does, by decide +kernel, by decide +kernel, _, _, rfl, rfl⟩
set_option maxRecDepth 100000 in
theorem ea_X10_run : co_X10_run.all (entOk (mRow m_X10_run).2.2.2.2.1 (mRow m_X10_run).2.2.1 (mRow m_X10_run).2.1) = true := by decide +kernel
theorem md_X10_run : mdOk m_X10_run := ⟨ea_X10_run, by decide +kernel, by decide +kernel, _, _, rfl, rfl⟩
set_option maxRecDepth 100000 in
theorem ea_X10_children : co_X10_children.all (entOk (mRow m_X10_children).2.2.2.2.1 (mRow m_X10_children).2.2.1 (mRow m_X10_children).2.1) = true := by decide +kernel
theorem md_X10_children : mdOk m_X10_children := ⟨ea_X10_children, by decide +kernel, by decide +kernel, _, _, rfl, rfl⟩
set_option maxRecDepth 100000 in
theorem ea_X10_sitesOf : co_X10_sitesOf.all (entOk (mRow m_X10_sitesOf).2.2.2.2.1 (mRow m_X10_sitesOf).2.2.1 (mRow m_X10_sitesOf).2.1) = true := by decide +kernel
theorem md_X10_sitesOf : mdOk m_X10_sitesOf := ⟨ea_X10_sitesOf, by decide +kernel, by decide +kernel, _, _, rfl, rfl⟩
set_option maxRecDepth 100000 in
theorem ea_X10_server : co_X10_server.all (entOk (mRow m_X10_server).2.2.2.2.1 (mRow m_X10_server).2.2.1 (mRow m_X10_server).2.1) = true := by decide +kernel
theorem md_X10_server : mdOk m_X10_server := ⟨ea_X10_server, by decide +kernel, by decide +kernel, _, _, rfl, rfl⟩
set_option maxRecDepth 100000 in
theorem ea_X10_copiesOf : co_X10_copiesOf.all (entOk (mRow m_X10_copiesOf).2.2.2.2.1 (mRow m_X10_copiesOf).2.2.1 (mRow m_X10_copiesOf).2.1) = true := by decide +kernel
theorem md_X10_copiesOf : mdOk m_X10_copiesOf := ⟨ea_X10_copiesOf, by decide +kernel, by decide +kernel, _, _, rfl, rfl⟩
set_option maxRecDepth 100000 in
theorem ea_X10_site : co_X10_site.all (entOk (mRow m_X10_site).2.2.2.2.1 (mRow m_X10_site).2.2.1 (mRow m_X10_site).2.1) = true := by decide +kernel
theorem md_X10_site : mdOk m_X10_site := ⟨ea_X10_site, by decide +kernel, by decide +kernel, _, _, rfl, rfl⟩
set_option maxRecDepth 100000 in
theorem ea_X10_slot : co_X10_slot.all (entOk (mRow m_X10_slot).2.2.2.2.1 (mRow m_X10_slot).2.2.1 (mRow m_X10_slot).2.1) = true := by decide +kernel
theorem md_X10_slot : mdOk m_X10_slot := ⟨ea_X10_slot, by decide +kernel, by decide +kernel, _, _, rfl, rfl⟩
set_option maxRecDepth 100000 in
theorem ea_X10_router : co_X10_router.all (entOk (mRow m_X10_router).2.2.2.2.1 (mRow m_X10_router).2.2.1 (mRow m_X10_router).2.1) = true := by decide +kernel
theorem md_X10_router : mdOk m_X10_router := ⟨ea_X10_router, by decide +kernel, by decide +kernel, _, _, rfl, rfl⟩
set_option maxRecDepth 100000 in
theorem ea_X10_map : co_X10_map.all (entOk (mRow m_X10_map).2.2.2.2.1 (mRow m_X10_map).2.2.1 (mRow m_X10_map).2.1) = true := by decide +kernel
theorem md_X10_map : mdOk m_X10_map := ⟨ea_X10_map, by decide +kernel, by decide +kernel, _, _, rfl, rfl⟩
set_option maxRecDepth 100000 in
theorem ea_X10_isAhead : co_X10_isAhead.all (entOk (mRow m_X10_isAhead).2.2.2.2.1 (mRow m_X10_isAhead).2.2.1 (mRow m_X10_isAhead).2.1) = true := by decide +kernel
theorem md_X10_isAhead : mdOk m_X10_isAhead := ⟨ea_X10_isAhead, by decide +kernel, by decide +kernel, _, _, rfl, rfl⟩
set_option maxRecDepth 100000 in
theorem ea_X10_endingNext : co_X10_endingNext.all (entOk (mRow m_X10_endingNext).2.2.2.2.1 (mRow m_X10_endingNext).2.2.1 (mRow m_X10_endingNext).2.1) = true := by decide +kernel
theorem md_X10_endingNext : mdOk m_X10_endingNext := ⟨ea_X10_endingNext, by decide +kernel, by decide +kernel, _, _, rfl, rfl⟩
set_option maxRecDepth 100000 in
theorem ea_X10_upMany : co_X10_upMany.all (entOk (mRow m_X10_upMany).2.2.2.2.1 (mRow m_X10_upMany).2.2.1 (mRow m_X10_upMany).2.1) = true := by decide +kernel
theorem md_X10_upMany : mdOk m_X10_upMany := ⟨ea_X10_upMany, by decide +kernel, by decide +kernel, _, _, rfl, rfl⟩
set_option maxRecDepth 100000 in
theorem ea_X10_sumOf : co_X10_sumOf.all (entOk (mRow m_X10_sumOf).2.2.2.2.1 (mRow m_X10_sumOf).2.2.1 (mRow m_X10_sumOf).2.1) = true := by decide +kernel
theorem md_X10_sumOf : mdOk m_X10_sumOf := ⟨ea_X10_sumOf, by decide +kernel, by decide +kernel, _, _, rfl, rfl⟩
set_option maxRecDepth 100000 in
theorem ea_X10_answered : co_X10_answered.all (entOk (mRow m_X10_answered).2.2.2.2.1 (mRow m_X10_answered).2.2.1 (mRow m_X10_answered).2.1) = true := by decide +kernel
theorem md_X10_answered : mdOk m_X10_answered := ⟨ea_X10_answered, by decide +kernel, by decide +kernel, _, _, rfl, rfl⟩
set_option maxRecDepth 100000 in
theorem ea_X10_total : co_X10_total.all (entOk (mRow m_X10_total).2.2.2.2.1 (mRow m_X10_total).2.2.1 (mRow m_X10_total).2.1) = true := by decide +kernel
theorem md_X10_total : mdOk m_X10_total := ⟨ea_X10_total, by decide +kernel, by decide +kernel, _, _, rfl, rfl⟩
set_option maxRecDepth 100000 in
theorem ea_X10_wouldReach : co_X10_wouldReach.all (entOk (mRow m_X10_wouldReach).2.2.2.2.1 (mRow m_X10_wouldReach).2.2.1 (mRow m_X10_wouldReach).2.1) = true := by decide +kernel
theorem md_X10_wouldReach : mdOk m_X10_wouldReach := ⟨ea_X10_wouldReach, by decide +kernel, by decide +kernel, _, _, rfl, rfl⟩
set_option maxRecDepth 100000 in
theorem ea_X10_wouldAsk : co_X10_wouldAsk.all (entOk (mRow m_X10_wouldAsk).2.2.2.2.1 (mRow m_X10_wouldAsk).2.2.1 (mRow m_X10_wouldAsk).2.1) = true := by decide +kernel
theorem md_X10_wouldAsk : mdOk m_X10_wouldAsk := ⟨ea_X10_wouldAsk, by decide +kernel, by decide +kernel, _, _, rfl, rfl⟩
set_option maxRecDepth 100000 in
theorem ea_X10_share : co_X10_share.all (entOk (mRow m_X10_share).2.2.2.2.1 (mRow m_X10_share).2.2.1 (mRow m_X10_share).2.1) = true := by decide +kernel
theorem md_X10_share : mdOk m_X10_share := ⟨ea_X10_share, by decide +kernel, by decide +kernel, _, _, rfl, rfl⟩
set_option maxRecDepth 100000 in
theorem ea_J6_bitCount_0f7a4 : co_J6_bitCount_0f7a4.all (entOk (mRow m_J6_bitCount_0f7a4).2.2.2.2.1 (mRow m_J6_bitCount_0f7a4).2.2.1 (mRow m_J6_bitCount_0f7a4).2.1) = true := by decide +kernel
theorem md_J6_bitCount_0f7a4 : mdOk m_J6_bitCount_0f7a4 := ⟨ea_J6_bitCount_0f7a4, by decide +kernel, by decide +kernel, _, _, rfl, rfl⟩
set_option maxRecDepth 100000 in
theorem ea_J9_floorMod_7cf53 : co_J9_floorMod_7cf53.all (entOk (mRow m_J9_floorMod_7cf53).2.2.2.2.1 (mRow m_J9_floorMod_7cf53).2.2.1 (mRow m_J9_floorMod_7cf53).2.1) = true := by decide +kernel
theorem md_J9_floorMod_7cf53 : mdOk m_J9_floorMod_7cf53 := ⟨ea_J9_floorMod_7cf53, by decide +kernel, by decide +kernel, _, _, rfl, rfl⟩
set_option maxRecDepth 100000 in
theorem ex_L_law_0 : cx_L_law_0.all (entOk (mRow m_L_law).2.2.2.2.1 (mRow m_L_law).2.2.1 (mRow m_L_law).2.1) = true := by decide +kernel
set_option maxRecDepth 100000 in
theorem ex_L_law_1 : cx_L_law_1.all (entOk (mRow m_L_law).2.2.2.2.1 (mRow m_L_law).2.2.1 (mRow m_L_law).2.1) = true := by decide +kernel
set_option maxRecDepth 100000 in
theorem ex_L_law_2 : cx_L_law_2.all (entOk (mRow m_L_law).2.2.2.2.1 (mRow m_L_law).2.2.1 (mRow m_L_law).2.1) = true := by decide +kernel
set_option maxRecDepth 100000 in
theorem ex_L_law_3 : cx_L_law_3.all (entOk (mRow m_L_law).2.2.2.2.1 (mRow m_L_law).2.2.1 (mRow m_L_law).2.1) = true := by decide +kernel
set_option maxRecDepth 100000 in
theorem ex_L_law_4 : cx_L_law_4.all (entOk (mRow m_L_law).2.2.2.2.1 (mRow m_L_law).2.2.1 (mRow m_L_law).2.1) = true := by decide +kernel
set_option maxRecDepth 100000 in
theorem ex_L_law_5 : cx_L_law_5.all (entOk (mRow m_L_law).2.2.2.2.1 (mRow m_L_law).2.2.1 (mRow m_L_law).2.1) = true := by decide +kernel
set_option maxRecDepth 100000 in
theorem ex_L_law_6 : cx_L_law_6.all (entOk (mRow m_L_law).2.2.2.2.1 (mRow m_L_law).2.2.1 (mRow m_L_law).2.1) = true := by decide +kernel
set_option maxRecDepth 100000 in
theorem ex_L_law_7 : cx_L_law_7.all (entOk (mRow m_L_law).2.2.2.2.1 (mRow m_L_law).2.2.1 (mRow m_L_law).2.1) = true := by decide +kernel
set_option maxRecDepth 100000 in
theorem ex_L_law_8 : cx_L_law_8.all (entOk (mRow m_L_law).2.2.2.2.1 (mRow m_L_law).2.2.1 (mRow m_L_law).2.1) = true := by decide +kernel
set_option maxRecDepth 100000 in
theorem ex_L_law_9 : cx_L_law_9.all (entOk (mRow m_L_law).2.2.2.2.1 (mRow m_L_law).2.2.1 (mRow m_L_law).2.1) = true := by decide +kernel
set_option maxRecDepth 100000 in
theorem ex_L_law_10 : cx_L_law_10.all (entOk (mRow m_L_law).2.2.2.2.1 (mRow m_L_law).2.2.1 (mRow m_L_law).2.1) = true := by decide +kernel
set_option maxRecDepth 100000 in
theorem ex_L_law_11 : cx_L_law_11.all (entOk (mRow m_L_law).2.2.2.2.1 (mRow m_L_law).2.2.1 (mRow m_L_law).2.1) = true := by decide +kernel
set_option maxRecDepth 100000 in
theorem ex_L_law_12 : cx_L_law_12.all (entOk (mRow m_L_law).2.2.2.2.1 (mRow m_L_law).2.2.1 (mRow m_L_law).2.1) = true := by decide +kernel
set_option maxRecDepth 100000 in
theorem ex_L_law_13 : cx_L_law_13.all (entOk (mRow m_L_law).2.2.2.2.1 (mRow m_L_law).2.2.1 (mRow m_L_law).2.1) = true := by decide +kernel
set_option maxRecDepth 100000 in
theorem ex_L_law_14 : cx_L_law_14.all (entOk (mRow m_L_law).2.2.2.2.1 (mRow m_L_law).2.2.1 (mRow m_L_law).2.1) = true := by decide +kernel
set_option maxRecDepth 100000 in
theorem ex_L_law_15 : cx_L_law_15.all (entOk (mRow m_L_law).2.2.2.2.1 (mRow m_L_law).2.2.1 (mRow m_L_law).2.1) = true := by decide +kernel
set_option maxRecDepth 100000 in
theorem ex_L_law_16 : cx_L_law_16.all (entOk (mRow m_L_law).2.2.2.2.1 (mRow m_L_law).2.2.1 (mRow m_L_law).2.1) = true := by decide +kernel
set_option maxRecDepth 100000 in
theorem ex_L_law_17 : cx_L_law_17.all (entOk (mRow m_L_law).2.2.2.2.1 (mRow m_L_law).2.2.1 (mRow m_L_law).2.1) = true := by decide +kernel
set_option maxRecDepth 100000 in
theorem ex_L_law_18 : cx_L_law_18.all (entOk (mRow m_L_law).2.2.2.2.1 (mRow m_L_law).2.2.1 (mRow m_L_law).2.1) = true := by decide +kernel
set_option maxRecDepth 100000 in
theorem ex_L_law_19 : cx_L_law_19.all (entOk (mRow m_L_law).2.2.2.2.1 (mRow m_L_law).2.2.1 (mRow m_L_law).2.1) = true := by decide +kernel
set_option maxRecDepth 100000 in
theorem ex_L_law_20 : cx_L_law_20.all (entOk (mRow m_L_law).2.2.2.2.1 (mRow m_L_law).2.2.1 (mRow m_L_law).2.1) = true := by decide +kernel
set_option maxRecDepth 100000 in
theorem ex_L_law_21 : cx_L_law_21.all (entOk (mRow m_L_law).2.2.2.2.1 (mRow m_L_law).2.2.1 (mRow m_L_law).2.1) = true := by decide +kernel
set_option maxRecDepth 100000 in
theorem ex_L_law_22 : cx_L_law_22.all (entOk (mRow m_L_law).2.2.2.2.1 (mRow m_L_law).2.2.1 (mRow m_L_law).2.1) = true := by decide +kernel
set_option maxRecDepth 100000 in
theorem ex_L_law_23 : cx_L_law_23.all (entOk (mRow m_L_law).2.2.2.2.1 (mRow m_L_law).2.2.1 (mRow m_L_law).2.1) = true := by decide +kernel
set_option maxRecDepth 100000 in
theorem ex_L_law_24 : cx_L_law_24.all (entOk (mRow m_L_law).2.2.2.2.1 (mRow m_L_law).2.2.1 (mRow m_L_law).2.1) = true := by decide +kernel
theorem ea_L_law : co_L_law.all (entOk (mRow m_L_law).2.2.2.2.1 (mRow m_L_law).2.2.1 (mRow m_L_law).2.1) = true := by
  unfold co_L_law
  simp only [List.all_append, ex_L_law_0, ex_L_law_1, ex_L_law_2, ex_L_law_3, ex_L_law_4, ex_L_law_5, ex_L_law_6, ex_L_law_7, ex_L_law_8, ex_L_law_9, ex_L_law_10, ex_L_law_11, ex_L_law_12, ex_L_law_13, ex_L_law_14, ex_L_law_15, ex_L_law_16, ex_L_law_17, ex_L_law_18, ex_L_law_19, ex_L_law_20, ex_L_law_21, ex_L_law_22, ex_L_law_23, ex_L_law_24, Bool.and_self]
theorem md_L_law : mdOk m_L_law := ⟨ea_L_law, by decide +kernel, by decide +kernel, _, _, rfl, rfl⟩
theorem mlT_lt : ∀ q ∈ mlT, q.2.2.1 < 215 := by decide +kernel
theorem initL_ok : ∀ m, m < 215 → m ∉ initL → (mRow m).1.name ≠ "<init>" := by decide +kernel
set_option maxRecDepth 100000 in
theorem md_all : ∀ m, m < 215 → mdOk m := fun m h => match m, h with
  | 0, _ => md_X0_init
  | 1, _ => md_X0_add
  | 2, _ => md_X0_rewind
  | 3, _ => md_X0_findFault
  | 4, _ => md_X0_readAct
  | 5, _ => md_X0_readSending
  | 6, _ => md_X0_readSign
  | 7, _ => md_X0_readNumber
  | 8, _ => md_X0_byteHere
  | 9, _ => md_X0_isDigit
  | 10, _ => md_X1_init
  | 11, _ => md_X1_become
  | 12, _ => md_X1_copyFrom
  | 13, _ => md_X1_isAt
  | 14, _ => md_X1_has
  | 15, _ => md_X1_holds
  | 16, _ => md_X1_meets
  | 17, _ => md_X2_init
  | 18, _ => md_X2_become
  | 19, _ => md_X2_copyFrom
  | 20, _ => md_X2_isHolding
  | 21, _ => md_X2_property
  | 22, _ => md_X3_init
  | 23, _ => md_X3_row
  | 24, _ => md_X3_draft
  | 25, _ => md_X3_keepDraft
  | 26, _ => md_X3_takeLatest
  | 27, _ => md_X4_init
  | 28, _ => md_X4_start
  | 29, _ => md_X4_copyFrom
  | 30, _ => md_X4_isPlace
  | 31, _ => md_X4_property
  | 32, _ => md_X4_moveToFront
  | 33, _ => md_X4_drop
  | 34, _ => md_X4_dropEnded
  | 35, _ => md_X4_placeOfSite
  | 36, _ => md_X4_placeOfSmallest
  | 37, _ => md_X4_addMap
  | 38, _ => md_X5_init
  | 39, _ => md_X5_copyFrom
  | 40, _ => md_X6_init
  | 41, _ => md_X6_start
  | 42, _ => md_X6_copyFrom
  | 43, _ => md_X6_isRegistered
  | 44, _ => md_X6_isUp
  | 45, _ => md_X7_init
  | 46, _ => md_X7_copyFrom
  | 47, _ => md_X7_fill
  | 48, _ => md_X7_propertyOf
  | 49, _ => md_X7_isEmpty
  | 50, _ => md_X7_areEmpty
  | 51, _ => md_X7_have
  | 52, _ => md_X7_lowestPriority
  | 53, _ => md_X7_weightThatCounts
  | 54, _ => md_X7_placeFor
  | 55, _ => md_X7_flowsTo
  | 56, _ => md_X8_init
  | 57, _ => md_X8_copyFrom
  | 58, _ => md_X8_isServer
  | 59, _ => md_X8_isSite
  | 60, _ => md_X8_isRouter
  | 61, _ => md_X8_newServer
  | 62, _ => md_X8_newSite
  | 63, _ => md_X8_newRouter
  | 64, _ => md_X8_fillSlot
  | 65, _ => md_X8_vacateSlot
  | 66, _ => md_X8_startRegistration
  | 67, _ => md_X8_endRegistration
  | 68, _ => md_X8_changeMapLife
  | 69, _ => md_X8_letPass
  | 70, _ => md_X8_emptyCache
  | 71, _ => md_X8_sendLetter
  | 72, _ => md_X8_placeByMap
  | 73, _ => md_X8_ask
  | 74, _ => md_X8_goByProxy
  | 75, _ => md_X8_homeOf
  | 76, _ => md_X8_homeOfSite
  | 77, _ => md_X8_hopsTo
  | 78, _ => md_X8_answerFor
  | 79, _ => md_X8_siteEndingAt
  | 80, _ => md_X8_sitesEndingAheadOf
  | 81, _ => md_X8_serverProperty
  | 82, _ => md_X8_childrenOf
  | 83, _ => md_X8_sitesAtHome
  | 84, _ => md_X8_siteProperty
  | 85, _ => md_X8_mapsOf
  | 86, _ => md_X8_totalOf
  | 87, _ => md_X8_sitesUp
  | 88, _ => md_X8_sumOverRouters
  | 89, _ => md_X8_namesWithAnswer
  | 90, _ => md_X9_init
  | 91, _ => md_X9_addServer
  | 92, _ => md_X9_addSite
  | 93, _ => md_X9_addRouter
  | 94, _ => md_X9_setSlot
  | 95, _ => md_X9_emptySlot
  | 96, _ => md_X9_register
  | 97, _ => md_X9_unregister
  | 98, _ => md_X9_setMapLife
  | 99, _ => md_X9_send
  | 100, _ => md_X9_pass
  | 101, _ => md_X9_forget
  | 102, _ => md_X9_append
  | 103, _ => md_X9_clearText
  | 104, _ => md_X9_faultPosition
  | 105, _ => md_X9_run
  | 106, _ => md_X9_undo
  | 107, _ => md_X9_save
  | 108, _ => md_X9_restore
  | 109, _ => md_X9_server
  | 110, _ => md_X9_site
  | 111, _ => md_X9_slot
  | 112, _ => md_X9_router
  | 113, _ => md_X9_map
  | 114, _ => md_X9_answer
  | 115, _ => md_X9_way
  | 116, _ => md_X9_endingNext
  | 117, _ => md_X9_total
  | 118, _ => md_X9_wouldReach
  | 119, _ => md_X9_wouldAsk
  | 120, _ => md_X9_share
  | 121, _ => md_X9_recorded
  | 122, _ => md_X9_carryOutAct
  | 123, _ => md_X9_isSave
  | 124, _ => md_X9_isSlot
  | 125, _ => md_X9_isName
  | 126, _ => md_X9_isFlow
  | 127, _ => md_X9_isPlaceOfSlot
  | 128, _ => md_X9_isBlock
  | 129, _ => md_X10_init
  | 130, _ => md_X10_isIn
  | 131, _ => md_X10_isServer
  | 132, _ => md_X10_isSite
  | 133, _ => md_X10_isRouter
  | 134, _ => md_X10_isName
  | 135, _ => md_X10_siteAt
  | 136, _ => md_X10_routerAt
  | 137, _ => md_X10_mapAt
  | 138, _ => md_X10_keeps
  | 139, _ => md_X10_brings
  | 140, _ => md_X10_records
  | 141, _ => md_X10_undo
  | 142, _ => md_X10_save
  | 143, _ => md_X10_restore
  | 144, _ => md_X10_isBlock
  | 145, _ => md_X10_firstOf
  | 146, _ => md_X10_sizeOf
  | 147, _ => md_X10_holds
  | 148, _ => md_X10_homeOf
  | 149, _ => md_X10_wayTo
  | 150, _ => md_X10_way
  | 151, _ => md_X10_addServer
  | 152, _ => md_X10_ofSite
  | 153, _ => md_X10_has
  | 154, _ => md_X10_homeOfSite
  | 155, _ => md_X10_isRegistered
  | 156, _ => md_X10_isUp
  | 157, _ => md_X10_answerOf
  | 158, _ => md_X10_answer
  | 159, _ => md_X10_addSite
  | 160, _ => md_X10_addRouter
  | 161, _ => md_X10_setSlot
  | 162, _ => md_X10_emptySlot
  | 163, _ => md_X10_registers
  | 164, _ => md_X10_register
  | 165, _ => md_X10_unregisterError
  | 166, _ => md_X10_unregisters
  | 167, _ => md_X10_unregister
  | 168, _ => md_X10_setMapLife
  | 169, _ => md_X10_mapsOf
  | 170, _ => md_X10_ofMap
  | 171, _ => md_X10_drops
  | 172, _ => md_X10_makesRoom
  | 173, _ => md_X10_uses
  | 174, _ => md_X10_asks
  | 175, _ => md_X10_chosen
  | 176, _ => md_X10_isAt
  | 177, _ => md_X10_takes
  | 178, _ => md_X10_proxy
  | 179, _ => md_X10_sends
  | 180, _ => md_X10_isLetter
  | 181, _ => md_X10_send
  | 182, _ => md_X10_pass
  | 183, _ => md_X10_forget
  | 184, _ => md_X10_append
  | 185, _ => md_X10_clearText
  | 186, _ => md_X10_passesSign
  | 187, _ => md_X10_isDigitHere
  | 188, _ => md_X10_passesNumber
  | 189, _ => md_X10_passesLetter
  | 190, _ => md_X10_passesAct
  | 191, _ => md_X10_faultOf
  | 192, _ => md_X10_faultPosition
  | 193, _ => md_X10_does
  | 194, _ => md_X10_run
  | 195, _ => md_X10_children
  | 196, _ => md_X10_sitesOf
  | 197, _ => md_X10_server
  | 198, _ => md_X10_copiesOf
  | 199, _ => md_X10_site
  | 200, _ => md_X10_slot
  | 201, _ => md_X10_router
  | 202, _ => md_X10_map
  | 203, _ => md_X10_isAhead
  | 204, _ => md_X10_endingNext
  | 205, _ => md_X10_upMany
  | 206, _ => md_X10_sumOf
  | 207, _ => md_X10_answered
  | 208, _ => md_X10_total
  | 209, _ => md_X10_wouldReach
  | 210, _ => md_X10_wouldAsk
  | 211, _ => md_X10_share
  | 212, _ => md_J6_bitCount_0f7a4
  | 213, _ => md_J9_floorMod_7cf53
  | 214, _ => md_L_law
  | n + 215, h => absurd h (by omega)
end
section
/-! THE STORE IN THE HEAP: every object has its address; the cells hold what the store says -/
def cntK (c : Nat) : Nat := match c with
  | 0 => 1 | 1 => 360 | 2 => 200 | 3 => 1 | 4 => 40 | 5 => 80 | 6 => 80 | 7 => 280 | 8 => 10 | 9 => 1 | 10 => 1
  | 11 => 10 | 12 => 10 | 13 => 10 | 14 => 40 | 15 => 280 | 16 => 1 | 17 => 1 | 18 => 1 | 19 => 1 | 20 => 1 | 21 => 1 | 22 => 1 | 23 => 1 | _ => 0
def nfK (c : Nat) : Nat := match c with
  | 0 => 8 | 1 => 2 | 2 => 6 | 3 => 3 | 4 => 7 | 5 => 2 | 6 => 5 | 7 => 1 | 8 => 8 | 9 => 6 | _ => 12
def allR : List (Nat × Nat) := (List.range 24).flatMap (fun c => (List.range (cntK c)).map (fun i => (c, i)))
theorem mem_allR {c i : Nat} : (c, i) ∈ allR ↔ i < cntK c := by
  constructor
  · intro h
    obtain ⟨c', h1, h2⟩ := List.mem_flatMap.mp h
    obtain ⟨i', h3, h4⟩ := List.mem_map.mp h2
    cases h4
    exact List.mem_range.mp h3
  · intro h
    have hc : c < 24 := by
      rcases Nat.lt_or_ge c 24 with q | q
      · exact q
      · exfalso
        have : cntK c = 0 := by
          unfold cntK
          split <;> first | rfl | omega
        omega
    exact List.mem_flatMap.mpr ⟨c, List.mem_range.mpr hc, List.mem_map.mpr ⟨i, List.mem_range.mpr h, rfl⟩⟩
def okR (r : Nat × Nat) : Prop := r.2 < cntK r.1 ∨ r = (24, 0)
def okV (v : MV) : Prop := match v with
  | .inl _ => True
  | .inr r => okR r
def trv (ad : Nat × Nat → Nat) (v : MV) : Value := match v with
  | .inl x => .int x
  | .inr r => .ref (ad r)
/-- which type of array: a place in tysA -/
def atyK (c : Nat) : Nat := match c with
  | 11 => 3 | 12 => 4 | 13 => 5 | 14 => 6 | 16 => 7 | 17 => 7 | 18 => 1 | 19 => 2 | _ => 0
def tysA (cA : Nat → ClassId) : List (ClassId × FieldType) := [(cA 0, .int), (cA 1, .boolean), (cA 2, .byte), (cA 3, .object RX5), (cA 4, .object RX6), (cA 5, .object RX4), (cA 6, .object RX2), (cA 7, .object RX8)]
def cellD (cA : Nat → ClassId) (ad : Nat × Nat → Nat) (z : St) (r : Nat × Nat) : va_E :=
  if r.1 < 11 then .inr (r.1, (List.range (nfK r.1)).map (fun k => trv ad (fv z r.1 r.2 k)))
  else if akind r.1 = 3 then .inl (cA (atyK r.1), alen r.1, .inr (.inr (.inr (.inr (fun j => some (ad (el z.2 r.1 r.2 j)))))))
  else .inl (cA (atyK r.1), alen r.1, .inl (z.1 r.1 r.2))
def smW (cA : Nat → ClassId) (ad : Nat × Nat → Nat) (z : St) : va_W := allR.map (fun r => (ad r, cellD cA ad z r))
def okP (z : St) : Prop := ∀ i j : Nat, i < 40 → j < 5 → z.2 i j < 200
def Hp (D : va_G) (cA : Nat → ClassId) (ad : Nat × Nat → Nat) (z : St) (H : Heap) : Prop := va_P D vwCl (smW cA ad z) H ∧ okP z
def adOk (ad : Nat × Nat → Nat) (A : Nat → Prop) : Prop := va_D A (allR.map (fun r => (ad r, (.inr (0, []) : va_E))))
theorem smW_D {cA : Nat → ClassId} {ad : Nat × Nat → Nat} {A : Nat → Prop} (h : adOk ad A) (z : St) : va_D A (smW cA ad z) := by
  have key : ∀ (k : Nat) (q : Nat × va_E), (smW cA ad z)[k]? = some q → (allR.map (fun r => (ad r, (.inr (0, []) : va_E))))[k]? = some (q.1, .inr (0, [])) := by
    intro k q hq
    unfold smW at hq
    rw [List.getElem?_map] at hq ⊢
    cases hr : allR[k]? with
    | none => rw [hr] at hq; cases hq
    | some r => rw [hr] at hq; cases hq; rfl
  exact ⟨fun i j p q hi hj e => h.1 i j _ _ (key i p hi) (key j q hj) e, fun k q hk => h.2 k (q.1, .inr (0, [])) (key k q hk)⟩
theorem smW_get {cA : Nat → ClassId} {ad : Nat × Nat → Nat} (z : St) {r : Nat × Nat} (h : r.2 < cntK r.1) : ∃ k : Nat, (smW cA ad z)[k]? = some (ad r, cellD cA ad z r) := by
  apply List.getElem?_of_mem
  exact List.mem_map.mpr ⟨r, mem_allR.mpr h, rfl⟩
/-- one cell becomes another one, all others stay -/
theorem smW_set {cA : Nat → ClassId} {ad : Nat × Nat → Nat} {A : Nat → Prop} (hD : adOk ad A) {z z' : St} {r : Nat × Nat} {k : Nat} {e : va_E} (hk : (smW cA ad z)[k]? = some (ad r, cellD cA ad z r)) (h : r.2 < cntK r.1) (he : cellD cA ad z' r = e)
    (ho : ∀ r', r' ≠ r → cellD cA ad z' r' = cellD cA ad z r') : (smW cA ad z).set k (ad r, e) = smW cA ad z' := by
  have hl := (List.getElem?_eq_some_iff.mp hk).1
  apply List.ext_getElem?
  intro j
  by_cases hj : j = k
  · subst hj
    rw [List.getElem?_set_self hl]
    unfold smW at hk ⊢
    rw [List.getElem?_map] at hk ⊢
    cases hr : allR[j]? with
    | none => rw [hr] at hk; cases hk
    | some r' =>
      rw [hr] at hk
      have e1 : ad r' = ad r := congrArg Prod.fst (Option.some.inj hk)
      obtain ⟨i, hi⟩ := List.getElem?_of_mem (mem_allR.mpr h)
      have e2 : j = i := hD.1 j i (ad r', .inr (0, [])) (ad r, .inr (0, [])) (by rw [List.getElem?_map, hr]; rfl) (by rw [List.getElem?_map, hi]; rfl) e1
      subst e2
      have e3 : r' = r := Option.some.inj (hr.symm.trans hi)
      subst e3
      simp [he]
  · rw [List.getElem?_set_ne (Ne.symm hj)]
    unfold smW at hk ⊢
    rw [List.getElem?_map, List.getElem?_map]
    cases hr : allR[j]? with
    | none => rfl
    | some r' =>
      have hne : r' ≠ r := by
        intro e
        subst e
        rw [List.getElem?_map] at hk
        cases hr2 : allR[k]? with
        | none => rw [hr2] at hk; cases hk
        | some r2 =>
          rw [hr2] at hk
          have e1 : ad r2 = ad r' := congrArg Prod.fst (Option.some.inj hk)
          exact hj (hD.1 j k (ad r', .inr (0, [])) (ad r2, .inr (0, [])) (by rw [List.getElem?_map, hr]; rfl) (by rw [List.getElem?_map, hr2]; rfl) e1.symm)
      simp [ho r' hne]
theorem cell_obj {cA : Nat → ClassId} {ad : Nat × Nat → Nat} {z : St} {c i : Nat} (h : c < 11) : cellD cA ad z (c, i) = .inr (c, (List.range (nfK c)).map (fun k => trv ad (fv z c i k))) := if_pos h
theorem okR_lk {c k i : Nat} {r : Nat × Nat} (h : i < cntK c) (e : lk c k i = some r) : okR r := by
  left
  unfold lk at e
  unfold cntK at h
  split at e <;> first
    | (cases e; done)
    | (split at e <;> first | (cases e; done) | (cases e; simp only [cntK] at h ⊢; omega))
    | (cases e; simp only [cntK] at h ⊢; omega)
theorem okR_el {P : Nat → Nat → Nat} {c i j : Nat} (hP : ∀ i j : Nat, i < 40 → j < 5 → P i j < 200) (h : i < cntK c) (ha : akind c = 3) (hj : j < alen c) : okR (el P c i j) := by
  left
  unfold akind at ha
  split at ha <;> first
    | omega
    | (simp only [cntK, alen, el] at *; omega)
    | (simp only [cntK, alen, el] at *; exact hP _ _ (by omega) (by omega))
theorem okV_fv {z : St} {c i k : Nat} (h : i < cntK c) : okV (fv z c i k) := by
  unfold fv
  cases e : lk c k i with
  | none => trivial
  | some r => exact okR_lk h e
/-- the locals -/
def enumL : Nat → List Value → List (Nat × Value)
  | _, [] => []
  | k, v :: l => (k, v) :: enumL (k + 1) l
def locOk (ad : Nat × Nat → Nat) (nL : Nat) (lsA : Array Slot) (ls : List MV) : Prop := lv_has lsA nL (enumL 0 (ls.map (trv ad))) ∧ ls.length ≤ nL
theorem mem_enumL {l : List Value} : ∀ {k : Nat} {q : Nat × Value}, q ∈ enumL k l ↔ k ≤ q.1 ∧ l[q.1 - k]? = some q.2 := by
  induction l with
  | nil => intro k q; simp [enumL]
  | cons v l ih =>
    intro k q
    obtain ⟨a, w⟩ := q
    simp only [enumL, List.mem_cons, ih]
    constructor
    · rintro (h | ⟨h1, h2⟩)
      · cases h
        exact ⟨Nat.le_refl _, by simp⟩
      · refine ⟨by omega, ?_⟩
        have : a - k = (a - (k + 1)) + 1 := by omega
        rw [this]
        exact h2
    · rintro ⟨h1, h2⟩
      by_cases e : a = k
      · subst e
        simp at h2
        exact Or.inl (by rw [h2])
      · right
        refine ⟨by omega, ?_⟩
        have : a - k = (a - (k + 1)) + 1 := by omega
        rw [this] at h2
        exact h2
theorem getL_eq : ∀ (l : List MV) (n : Nat), getL l n = l[n]?
  | [], n => by cases n <;> rfl
  | x :: l, 0 => rfl
  | x :: l, n + 1 => by show getL l n = _; rw [getL_eq l n]; rfl
theorem setL_at : ∀ (l : List MV) (n : Nat) (v : MV) (k : Nat), n ≤ l.length → (setL l n v)[k]? = if k = n then some v else l[k]?
  | [], 0, v, 0, _ => rfl
  | [], 0, v, k + 1, _ => by simp [setL]
  | [], n + 1, v, k, h => by simp at h
  | x :: l, 0, v, 0, _ => rfl
  | x :: l, 0, v, k + 1, _ => by simp [setL]
  | x :: l, n + 1, v, 0, _ => by simp [setL]
  | x :: l, n + 1, v, k + 1, h => by
    show (setL l n v)[k]? = _
    rw [setL_at l n v k (by simpa using h)]
    by_cases e : k = n <;> simp [e]
theorem setL_len : ∀ (l : List MV) (n : Nat) (v : MV), (setL l n v).length ≤ Nat.max l.length (n + 1)
  | [], n, v => by simp only [setL, List.length]; exact Nat.le_trans (by omega) (Nat.le_max_right _ _)
  | x :: l, 0, v => by simp only [setL]; exact Nat.le_max_left _ _
  | x :: l, n + 1, v => by
    have h := setL_len l n v
    simp only [setL, List.length]
    have e : Nat.max (l.length + 1) (n + 1 + 1) = Nat.max l.length (n + 1) + 1 := by
      simp only [Nat.max_def]; split <;> split <;> omega
    rw [e]
    omega
theorem setL_ok {l : List MV} {v : MV} (hl : ∀ w ∈ l, okV w) (hv : okV v) : ∀ (n : Nat), ∀ w ∈ setL l n v, okV w := by
  induction l with
  | nil => intro n w hw; simp [setL] at hw; rw [hw]; exact hv
  | cons x l ih =>
    intro n w hw
    cases n with
    | zero =>
      simp only [setL, List.mem_cons] at hw
      rcases hw with rfl | hw
      · exact hv
      · exact hl w (List.mem_cons_of_mem _ hw)
    | succ n =>
      simp only [setL, List.mem_cons] at hw
      rcases hw with rfl | hw
      · exact hl _ List.mem_cons_self
      · exact ih (fun w h => hl w (List.mem_cons_of_mem _ h)) n w hw
theorem takeL_eq : ∀ (l : List MV) (n : Nat), takeL l n = l.take n
  | [], n => by cases n <;> rfl
  | x :: l, 0 => rfl
  | x :: l, n + 1 => by show x :: takeL l n = _; rw [takeL_eq l n]; rfl
theorem trv_cat (ad : Nat × Nat → Nat) (v : MV) : (trv ad v).category = 1 := by cases v <;> rfl
theorem loc_get {ad : Nat × Nat → Nat} {nL : Nat} {lsA : Array Slot} {ls : List MV} (h : locOk ad nL lsA ls) {a : Nat} {v : MV} (hv : getL ls a = some v) : lsA[a]? = some (.val (trv ad v)) := by
  refine h.1.2.2 (a, trv ad v) (mem_enumL.mpr ⟨Nat.zero_le _, ?_⟩)
  rw [getL_eq] at hv
  simp [hv]
theorem loc_set {ad : Nat × Nat → Nat} {nL : Nat} {lsA : Array Slot} {ls : List MV} (h : locOk ad nL lsA ls) {a : Nat} (ha : a < nL) (hl : a ≤ ls.length) (v : MV) {lv' : List (Nat × Value)} (he : (a, trv ad v) :: (enumL 0 (ls.map (trv ad))).filter (fun q => !(q.1 == a) && !(q.1 + 1 == a && q.2.category == 2)) = lv')
    {lsB : Array Slot} (hB : lv_has lsB nL lv') : locOk ad nL lsB (setL ls a v) := by
  refine ⟨⟨hB.1, hB.2.1, fun q hq => ?_⟩, ?_⟩
  · obtain ⟨-, h2⟩ := mem_enumL.mp hq
    apply hB.2.2
    rw [← he]
    simp only [Nat.sub_zero, List.getElem?_map] at h2
    rw [setL_at _ _ _ _ hl] at h2
    by_cases e : q.1 = a
    · rw [if_pos e] at h2
      have h3 : trv ad v = q.2 := Option.some.inj h2
      rw [h3, ← e]
      exact List.mem_cons_self
    · rw [if_neg e] at h2
      refine List.mem_cons_of_mem _ (List.mem_filter.mpr ⟨mem_enumL.mpr ⟨Nat.zero_le _, by simpa using h2⟩, ?_⟩)
      cases hw : ls[q.1]? with
      | none => rw [hw] at h2; cases h2
      | some w =>
        rw [hw] at h2
        have h3 : trv ad w = q.2 := Option.some.inj h2
        rw [← h3, trv_cat]
        simp [e]
  · have := setL_len ls a v
    have h3 := h.2
    exact Nat.le_trans this (Nat.max_le.mpr ⟨h3, ha⟩)
theorem loc_take {ad : Nat × Nat → Nat} {nL : Nat} {lsA : Array Slot} {ls : List MV} (h : locOk ad nL lsA ls) (n : Nat) : locOk ad nL lsA (takeL ls n) := by
  rw [takeL_eq]
  refine ⟨⟨h.1.1, h.1.2.1, fun q hq => h.1.2.2 q ?_⟩, by rw [List.length_take]; exact Nat.le_trans (Nat.min_le_right _ _) h.2⟩
  obtain ⟨h1, h2⟩ := mem_enumL.mp hq
  refine mem_enumL.mpr ⟨h1, ?_⟩
  rw [List.map_take] at h2
  have h3 := List.getElem?_take (l := ls.map (trv ad)) (i := n) (j := q.1 - 0)
  rw [h3] at h2
  split at h2
  · exact h2
  · cases h2
theorem okV_getL {ls : List MV} (h : ∀ v ∈ ls, okV v) {a : Nat} {v : MV} (hv : getL ls a = some v) : okV v := by
  rw [getL_eq] at hv
  exact h v (List.mem_of_getElem? hv)
theorem popL_eq : ∀ (n : Nat) (acc st as st' : List MV), popL n acc st = some (as, st') → ∃ t, as = t ++ acc ∧ st = t.reverse ++ st' ∧ t.length = n
  | 0, acc, st, as, st', h => by cases h; exact ⟨[], rfl, rfl, rfl⟩
  | n + 1, acc, [], as, st', h => by cases h
  | n + 1, acc, v :: st, as, st', h => by
    obtain ⟨t, e1, e2, e3⟩ := popL_eq n (v :: acc) st as st' h
    exact ⟨t ++ [v], by simp [e1], by simp [e2], by simp [e3]⟩
/-- words that any later state keeps -/
def Tk (U : State) : Prop := ∀ w, inT w → va_Nw w U
theorem kw_on {w : Cond} (h : kw w = true) : w.onTables = true := by
  unfold kw at h
  rcases Bool.or_eq_true _ _ |>.mp h with h | h
  · exact (Bool.and_eq_true _ _ |>.mp h).1
  · cases w <;> first | rfl | cases h
theorem Tk.warm {s U : State} (hW : s.WarmedH U.vm) (h : Tk s) : Tk U := by
  intro w hw
  have h1 := h w hw
  have h2 := hw.2
  unfold kw at h2
  rcases Bool.or_eq_true _ _ |>.mp h2 with h3 | h3
  · exact word_at hW (Or.inl h3) h1
  · cases w <;> first | exact va_Nw.warmM hW h1 | cases h3
theorem Tk.use {s : State} {args : Array Value} (h : Tk s) {w : Cond} (hw : inT w) : w.before args s = true := va_Nw.use (kw_on hw.2) (h w hw)
theorem Tk.same {s U : State} (h : s.vm = U.vm) (k : Tk s) : Tk U := fun w hw => va_Nw.same (kw_on hw.2) h (k w hw)
/-- a store in a state -/
def RepU (D : va_G) (cA : Nat → ClassId) (ad : Nat × Nat → Nat) (L : Nat) (xs : Nat → Int32) (z : St) (U : State) : Prop := Hp D cA ad z U.heap ∧ va_K D vwCl (tysA cA) U ∧ Tk U ∧ va_X (ad (24, 0)) L xs U U.heap
def QcM (D : va_G) (cA : Nat → ClassId) (ad : Nat × Nat → Nat) (A : Nat → Prop) (L : Nat) (xs : Nat → Int32) (Q : Option MV → St → Prop) : Array Value → State → Outcome → State → Prop := fun _ st oc t => (∃ (r : Option Int32) (z : St), oc = .returned (r.map Value.int) ∧ Q (r.map Sum.inl) z ∧ RepU D cA ad L xs z t) ∧ va_F A st t
def rmF (f : Nat) : Room := { frames := f, cells := 0, slots := 0, locals := 38 * f }
end
section
/-! THE SMALL MACHINE IS SOUND: what its stretches reach, the machine reaches -/
/-- the classes by their numbers -/
theorem cl_at {o : Nat} (h : o < 11) : vwCl[o]? = some (cnm o, tOf o, nfK o) := by
  match o, h with
  | 0, _ => rfl | 1, _ => rfl | 2, _ => rfl | 3, _ => rfl | 4, _ => rfl | 5, _ => rfl | 6, _ => rfl | 7, _ => rfl | 8, _ => rfl | 9, _ => rfl | 10, _ => rfl
  | n + 11, h => exact absurd h (by omega)
theorem wx_at {o : Nat} (h : o < 11) : ∀ w ∈ u_ws (cnm o) (tOf o) (nfK o), inT w := by
  match o, h with
  | 0, _ => exact wx_0 | 1, _ => exact wx_1 | 2, _ => exact wx_2 | 3, _ => exact wx_3 | 4, _ => exact wx_4 | 5, _ => exact wx_5 | 6, _ => exact wx_6 | 7, _ => exact wx_7 | 8, _ => exact wx_8 | 9, _ => exact wx_9 | 10, _ => exact wx_10
  | n + 11, h => exact absurd h (by omega)
def ty0K (o : Nat) : Nat → FieldType := match o with
  | 0 => tyX0 | 1 => tyX1 | 2 => tyX2 | 3 => tyX3 | 4 => tyX4 | 5 => tyX5 | 6 => tyX6 | 7 => tyX7 | 8 => tyX8 | 9 => tyX9 | _ => tyX10
theorem ty_at {o : Nat} (h : o < 11) : ∀ k, k < nfK o → parseFieldDescriptor (tOf o k).2.2.1 = some (ty0K o k) := by
  match o, h with
  | 0, _ => exact tyX0_ok | 1, _ => exact tyX1_ok | 2, _ => exact tyX2_ok | 3, _ => exact tyX3_ok | 4, _ => exact tyX4_ok | 5, _ => exact tyX5_ok | 6, _ => exact tyX6_ok | 7, _ => exact tyX7_ok | 8, _ => exact tyX8_ok | 9, _ => exact tyX9_ok | 10, _ => exact tyX10_ok
  | n + 11, h => exact absurd h (by omega)
theorem nm_at {o : Nat} (h : o < 11) : ∀ a, a < nfK o → ∀ b, b < nfK o → a ≠ b → (tOf o a).2.1 ≠ (tOf o b).2.1 := by
  match o, h with
  | 0, _ => exact nmX0 | 1, _ => exact nmX1 | 2, _ => exact nmX2 | 3, _ => exact nmX3 | 4, _ => exact nmX4 | 5, _ => exact nmX5 | 6, _ => exact nmX6 | 7, _ => exact nmX7 | 8, _ => exact nmX8 | 9, _ => exact nmX9 | 10, _ => exact nmX10
  | n + 11, h => exact absurd h (by omega)
theorem tn_at : ∀ o, o < 11 → ∀ k, k < nfK o → (tOf o k).1 = cnm o := by decide +kernel
/-- what is put: fields that are no links are int or boolean, and not final -/
theorem ft_at : ∀ o, o < 11 → ∀ k, k < nfK o → lk o k 0 = none → (tOf o k).2.2.2 = false ∧ (ty0K o k = .int ∨ (ty0K o k = .boolean ∧ o = 2 ∧ k = 5)) := by decide +kernel
theorem ft_int : ∀ o, o < 11 → ∀ k, k < nfK o → lk o k 0 = none → ¬ (o = 2 ∧ k = 5) → ty0K o k = .int := by decide +kernel
theorem flT_lt : ∀ q ∈ flT, q.2.2.1 < 11 ∧ q.2.2.2 < nfK q.2.2.1 := by decide +kernel
theorem lk_none {c k i : Nat} (h : lk c k i = none) : ∀ j, lk c k j = none := by
  intro j
  unfold lk at h ⊢
  split at h <;> first
    | rfl
    | (cases h; done)
    | (split at h <;> first | rfl | (cases h; done))
section SS
variable {p : Program} {l : Launch} {e : Env} {R : Room} {s : State} {m : MethodId} {args : Array Value} {below : List Frame} {meth : Method} {c : Code} {cells slots : Nat} {QM : State → Prop}
variable {D : va_G} {cA : Nat → ClassId} {ad : Nat × Nat → Nat} {A : Nat → Prop} {L : Nat} {xs : Nat → Int32} {cc : ByteArray} {o nL : Nat} {rest : List Value} {pc : Nat} {lsA : Array Slot} {H : Heap} {locs : List Loc} {z : St}
/-- what stands fast within a frame -/
def FrOk (p : Program) (s : State) (m : MethodId) (args : Array Value) (meth : Method) (c : Code) (D : va_G) (cA : Nat → ClassId) (ad : Nat × Nat → Nat) (A : Nat → Prop) (L : Nat) (xs : Nat → Int32) (cc : ByteArray) (o nL : Nat) : Prop :=
  p.tables.exec = Jvm.exec ∧ c.code = cc ∧ c.maxLocals = nL ∧ s.vm.findClass (cnm o) = some m.cls ∧ meth.locks = false ∧ Tk s ∧ va_K D vwCl (tysA cA) s ∧ adOk ad A ∧ va_X (ad (24, 0)) L xs s s.heap ∧ ad (24, 0) < s.heap.size ∧ ¬ A (ad (24, 0))
theorem FrOk.ts (F : FrOk p s m args meth c D cA ad A L xs cc o nL) {w : Cond} (h : inT w) : w.before args s = true := F.2.2.2.2.2.1.use h
/-- the machine, from this place, these locals, this stack and this store on, comes to QM -/
def XwP (p : Program) (l : Launch) (e : Env) (R : Room) (s : State) (m : MethodId) (args : Array Value) (below : List Frame) (meth : Method) (c : Code) (cells slots : Nat) (QM : State → Prop) (D : va_G) (cA : Nat → ClassId) (ad : Nat × Nat → Nat) (A : Nat → Prop) (nL : Nat) (pc : Nat) (ls st : List MV) (z : St) : Prop :=
  (∀ v ∈ ls, okV v) → (∀ v ∈ st, okV v) → ∀ (H : Heap) (locs : List Loc) (lsA : Array Slot), Hp D cA ad z H → va_S A s.heap H locs → locOk ad nL lsA ls → W p l e R s m args below meth c H locs cells slots QM (F0 m pc lsA (st.map (trv ad)))
theorem s_get (F : FrOk p s m args meth c D cA ad A L xs cc o nL) {a b d i : Nat} (hfl : (o, a, b, d) ∈ flT) (hi : i < cntK b) (hH : Hp D cA ad z H) (hd : decode cc pc = .ok (.getfield a, 3))
    (kk : W p l e R s m args below meth c H locs cells slots QM (F0 m (pc + 3) lsA (trv ad (fv z b i d) :: rest))) : W p l e R s m args below meth c H locs cells slots QM (F0 m pc lsA (.ref (ad (b, i)) :: rest)) := by
  obtain ⟨hx, hb, hml, hown, hlk, hT, hK, hA, hX⟩ := id F
  have h1 := flT_ok _ hfl
  obtain ⟨h2, h3⟩ := flT_lt _ hfl
  simp only at h2 h3
  obtain ⟨k, hk⟩ := smW_get (cA := cA) (ad := ad) z (r := (b, i)) hi
  rw [cell_obj h2] at hk
  refine va_get (D := D) (cl := vwCl) (ci := b) (C := cnm b) (T := tOf b) (N := nfK b) (ref := cnm b) (Ts := u_ws (cnm b) (tOf b) (nfK b)) hx hb (fun w hw => F.ts (wx_at h2 w hw)) (fun w hw => hw) hown hK hH.1 k hk (cl_at h2) d h3 (F.ts h1) (fun x hx => by rw [← tn_at b h2 d h3]; exact hx) (v := trv ad (fv z b i d)) ?_ hd kk
  rw [List.getElem?_map, List.getElem?_range h3]
  rfl
theorem cell_putV {c i k : Nat} (hc : c < 11) (hk : k < nfK c) (hl : lk c k i = none) (z : St) (x : Int32) : cellD cA ad (putV z c i k x) (c, i) = .inr (c, ((List.range (nfK c)).map (fun k => trv ad (fv z c i k))).set k (.int x)) := by
  rw [cell_obj hc]
  congr 2
  apply List.ext_getElem?
  intro j
  by_cases hj : j = k
  · subst hj
    rw [List.getElem?_set_self (by simpa using hk), List.getElem?_map, List.getElem?_range hk]
    simp [fv, hl, putV, trv]
  · rw [List.getElem?_set_ne (Ne.symm hj), List.getElem?_map, List.getElem?_map]
    cases hr : (List.range (nfK c))[j]? with
    | none => rfl
    | some j' =>
      have : j' = j := by
        have hlt : j < nfK c := by simpa using (List.getElem?_eq_some_iff.mp hr).1
        rw [List.getElem?_range hlt] at hr
        exact (Option.some.inj hr).symm
      subst this
      simp only [Option.map_some, fv, putV]
      cases lk c j' i with
      | some r => rfl
      | none => simp [hj]
theorem fv_put {c i k c' i' k' : Nat} {z : St} {x : Int32} (h : (c', i') ≠ (c, i)) : fv (putV z c i k x) c' i' k' = fv z c' i' k' := by
  unfold fv putV
  cases lk c' k' i' with
  | some r => rfl
  | none =>
    have : ¬ (c' = c ∧ i' = i ∧ k' = k) := fun q => h (by rw [q.1, q.2.1])
    simp [this]
theorem cell_putV_ne {c i k : Nat} {z : St} {x : Int32} (r' : Nat × Nat) (h : r' ≠ (c, i)) : cellD cA ad (putV z c i k x) r' = cellD cA ad z r' := by
  obtain ⟨c', i'⟩ := r'
  have e1 : (putV z c i k x).2 = z.2 := rfl
  have e2 : (putV z c i k x).1 c' i' = z.1 c' i' := by
    funext d
    have : ¬ (c' = c ∧ i' = i ∧ d = k) := fun q => h (by rw [q.1, q.2.1])
    simp [putV, this]
  have e3 : (fun k' => trv ad (fv (putV z c i k x) c' i' k')) = (fun k' => trv ad (fv z c' i' k')) := by
    funext k'
    rw [fv_put h]
  unfold cellD
  simp only [e1, e2, e3]
theorem s_put (F : FrOk p s m args meth c D cA ad A L xs cc o nL) {a b d i : Nat} {x : Int32} (hfl : (o, a, b, d) ∈ flT) (hi : i < cntK b) (hl : lk b d i = none) (hbool : b = 2 ∧ d = 5 → x = 0 ∨ x = 1) (hH : Hp D cA ad z H) (hS : va_S A s.heap H locs) (hd : decode cc pc = .ok (.putfield a, 3))
    (kk : ∀ (H1 : Heap) (locs1 : List Loc), Hp D cA ad (putV z b i d x) H1 → va_S A s.heap H1 locs1 → W p l e R s m args below meth c H1 locs1 cells slots QM (F0 m (pc + 3) lsA rest)) : W p l e R s m args below meth c H locs cells slots QM (F0 m pc lsA (.int x :: .ref (ad (b, i)) :: rest)) := by
  obtain ⟨hx, hb, hml, hown, hlk, hT, hK, hA, hX⟩ := id F
  have h1 := flT_ok _ hfl
  obtain ⟨h2, h3⟩ := flT_lt _ hfl
  simp only at h2 h3
  obtain ⟨k, hk⟩ := smW_get (cA := cA) (ad := ad) z (r := (b, i)) hi
  have hk0 := hk
  rw [cell_obj h2] at hk
  obtain ⟨f1, f2⟩ := ft_at b h2 d h3 (lk_none hl 0)
  have hty := ty_at h2 d h3
  have hnf : narrow (ty0K b d) (.int x) = .int x ∧ fits (ty0K b d) (.int x) = true := by
    rcases f2 with e | ⟨e, e2, e3⟩
    · rw [e]; exact ⟨rfl, rfl⟩
    · rw [e]
      rcases hbool ⟨e2, e3⟩ with rfl | rfl <;> decide
  refine va_put (D := D) (cl := vwCl) (ci := b) (C := cnm b) (T := tOf b) (N := nfK b) (ref := cnm b) (Ts := u_ws (cnm b) (tOf b) (nfK b)) (ty := ty0K b d) (v := .int x) hx hb (fun w hw => F.ts (wx_at h2 w hw)) (fun w hw => hw) (ty0K b) (ty_at h2) (nm_at h2) hown hK hH.1 (smW_D hA z) hS k hk (cl_at h2) d h3 (F.ts h1) (fun x hx => by rw [← tn_at b h2 d h3]; exact hx) f1 hty hnf.1 hnf.2 (by simpa using h3) hd (fun H1 locs1 hP hD hS1 => ?_)
  refine kk H1 locs1 ⟨?_, hH.2⟩ hS1
  rw [← smW_set hA hk0 hi (cell_putV h2 h3 hl z x) (fun r' hr => cell_putV_ne r' hr)]
  exact hP
end SS
end
section
/-! arrays -/
theorem vp_of_inA {i : Int32} {n : Nat} (h : inA i n) : vp_in i n := by
  obtain ⟨h1, h2⟩ := h
  rintro (q | q)
  · rw [Int32.lt_iff_toInt_lt, Int32.toInt_zero] at q
    omega
  · have e : i.toNatClampNeg = i.toInt.toNat := rfl
    omega
theorem inA_lt {i : Int32} {n : Nat} (h : inA i n) : i.toNatClampNeg < n := Nat.not_le.mp fun q => vp_of_inA h (Or.inr q)
theorem ak_ge {q : Nat} (h : akind q < 9) : ¬ q < 11 := by
  intro hq
  have : ∀ q, q < 11 → akind q = 9 := by decide
  have := this q hq
  omega
theorem cell_arr {cA : Nat → ClassId} {ad : Nat × Nat → Nat} {z : St} {q n : Nat} (h : akind q < 3) : cellD cA ad z (q, n) = .inl (cA (atyK q), alen q, .inl (z.1 q n)) := by
  unfold cellD
  have h1 : ¬ q < 11 := ak_ge (by omega)
  have h2 : ¬ akind q = 3 := by omega
  rw [if_neg h1, if_neg h2]
theorem cell_refs {cA : Nat → ClassId} {ad : Nat × Nat → Nat} {z : St} {q n : Nat} (h : akind q = 3) : cellD cA ad z (q, n) = .inl (cA (atyK q), alen q, .inr (.inr (.inr (.inr (fun j => some (ad (el z.2 q n j))))))) := by
  unfold cellD
  have h1 : ¬ q < 11 := ak_ge (by omega)
  rw [if_neg h1, if_pos h]
theorem ak_cases {q : Nat} (h : akind q < 9) : 11 ≤ q ∧ q < 24 := by
  rcases Nat.lt_or_ge q 24 with a | a
  · have := ak_ge h
    omega
  · exfalso
    have : akind q = 9 := by unfold akind; split <;> first | rfl | omega
    omega
theorem aty0 : ∀ q, q < 24 → akind q = 0 → atyK q = 0 := by decide
theorem aty1 : ∀ q, q < 24 → akind q = 1 → atyK q = 1 := by decide
theorem aty2 : ∀ q, q < 24 → akind q = 2 → atyK q = 2 := by decide
theorem aty3 : ∀ q, q < 24 → akind q = 3 → 3 ≤ atyK q ∧ atyK q < 8 := by decide
theorem tys3 {cA : Nat → ClassId} : ∀ t, 3 ≤ t → t < 8 → ∃ C, (tysA cA)[t]? = some (cA t, .object C) := by
  intro t h1 h2
  match t, h1, h2 with
  | 3, _, _ => exact ⟨_, rfl⟩
  | 4, _, _ => exact ⟨_, rfl⟩
  | 5, _, _ => exact ⟨_, rfl⟩
  | 6, _, _ => exact ⟨_, rfl⟩
  | 7, _, _ => exact ⟨_, rfl⟩
section SA
variable {p : Program} {l : Launch} {e : Env} {R : Room} {s : State} {m : MethodId} {args : Array Value} {below : List Frame} {meth : Method} {c : Code} {cells slots : Nat} {QM : State → Prop}
variable {D : va_G} {cA : Nat → ClassId} {ad : Nat × Nat → Nat} {A : Nat → Prop} {L : Nat} {xs : Nat → Int32} {cc : ByteArray} {o nL : Nat} {rest : List Value} {pc : Nat} {lsA : Array Slot} {H : Heap} {locs : List Loc} {z : St}
theorem s_ild (F : FrOk p s m args meth c D cA ad A L xs cc o nL) {q n : Nat} {i : Int32} (hq : n < cntK q) (hk : akind q = 0) (hin : inA i (alen q)) (hH : Hp D cA ad z H) (hd : decode cc pc = .ok (.iaload, 1))
    (kk : W p l e R s m args below meth c H locs cells slots QM (F0 m (pc + 1) lsA (.int (z.1 q n i.toNatClampNeg) :: rest))) : W p l e R s m args below meth c H locs cells slots QM (F0 m pc lsA (.int i :: .ref (ad (q, n)) :: rest)) := by
  obtain ⟨hx, hb, hml, hown, hlk, hT, hK, hA, hX⟩ := id F
  obtain ⟨k, hk1⟩ := smW_get (cA := cA) (ad := ad) z (r := (q, n)) hq
  rw [cell_arr (by omega), aty0 q (ak_cases (by omega)).2 hk] at hk1
  exact va_iald (D := D) (cl := vwCl) hx hb hK hH.1 k 0 hk1 rfl (vp_of_inA hin) hd kk
theorem s_zld (F : FrOk p s m args meth c D cA ad A L xs cc o nL) {q n : Nat} {i : Int32} (hq : n < cntK q) (hk : akind q = 1) (hin : inA i (alen q)) (hH : Hp D cA ad z H) (hd : decode cc pc = .ok (.baload, 1))
    (kk : W p l e R s m args below meth c H locs cells slots QM (F0 m (pc + 1) lsA (.int (z.1 q n i.toNatClampNeg) :: rest))) : W p l e R s m args below meth c H locs cells slots QM (F0 m pc lsA (.int i :: .ref (ad (q, n)) :: rest)) := by
  obtain ⟨hx, hb, hml, hown, hlk, hT, hK, hA, hX⟩ := id F
  obtain ⟨k, hk1⟩ := smW_get (cA := cA) (ad := ad) z (r := (q, n)) hq
  rw [cell_arr (by omega), aty1 q (ak_cases (by omega)).2 hk] at hk1
  exact va_zald (D := D) (cl := vwCl) hx hb hK hH.1 k 1 hk1 rfl (vp_of_inA hin) hd kk
theorem s_bld (F : FrOk p s m args meth c D cA ad A L xs cc o nL) {q n : Nat} {i : Int32} (hq : n < cntK q) (hk : akind q = 2) (hin : inA i (alen q)) (hH : Hp D cA ad z H) (hd : decode cc pc = .ok (.baload, 1))
    (kk : W p l e R s m args below meth c H locs cells slots QM (F0 m (pc + 1) lsA (.int (z.1 q n i.toNatClampNeg) :: rest))) : W p l e R s m args below meth c H locs cells slots QM (F0 m pc lsA (.int i :: .ref (ad (q, n)) :: rest)) := by
  obtain ⟨hx, hb, hml, hown, hlk, hT, hK, hA, hX⟩ := id F
  obtain ⟨k, hk1⟩ := smW_get (cA := cA) (ad := ad) z (r := (q, n)) hq
  rw [cell_arr (by omega), aty2 q (ak_cases (by omega)).2 hk] at hk1
  exact va_bald (D := D) (cl := vwCl) hx hb hK hH.1 k 2 hk1 rfl (vp_of_inA hin) hd kk
theorem s_qld (F : FrOk p s m args meth c D cA ad A L xs cc o nL) {q n : Nat} {i : Int32} (hq : n < cntK q) (hk : akind q = 3) (hin : inA i (alen q)) (hH : Hp D cA ad z H) (hd : decode cc pc = .ok (.aaload, 1))
    (kk : W p l e R s m args below meth c H locs cells slots QM (F0 m (pc + 1) lsA (.ref (ad (el z.2 q n i.toNatClampNeg)) :: rest))) : W p l e R s m args below meth c H locs cells slots QM (F0 m pc lsA (.int i :: .ref (ad (q, n)) :: rest)) := by
  obtain ⟨hx, hb, hml, hown, hlk, hT, hK, hA, hX⟩ := id F
  obtain ⟨k, hk1⟩ := smW_get (cA := cA) (ad := ad) z (r := (q, n)) hq
  rw [cell_refs hk] at hk1
  obtain ⟨t1, t2⟩ := aty3 q (ak_cases (by omega)).2 hk
  obtain ⟨C, hC⟩ := tys3 (cA := cA) _ t1 t2
  exact va_aldq (D := D) (cl := vwCl) hx hb hK hH.1 k (atyK q) hk1 hC (vp_of_inA hin) hd kk
theorem cell_putA {q n k : Nat} {x : Int32} (h : akind q < 3) : cellD cA ad (putV z q n k x) (q, n) = .inl (cA (atyK q), alen q, .inl (upd (z.1 q n) k x)) := by
  rw [cell_arr h]
  congr 4
  funext d
  by_cases hd : d = k <;> simp [putV, upd, hd]
theorem s_ist (F : FrOk p s m args meth c D cA ad A L xs cc o nL) {q n : Nat} {i x : Int32} (hq : n < cntK q) (hk : akind q = 0) (hin : inA i (alen q)) (hH : Hp D cA ad z H) (hS : va_S A s.heap H locs) (hd : decode cc pc = .ok (.iastore, 1))
    (kk : ∀ (H1 : Heap) (locs1 : List Loc), Hp D cA ad (putV z q n i.toNatClampNeg x) H1 → va_S A s.heap H1 locs1 → W p l e R s m args below meth c H1 locs1 cells slots QM (F0 m (pc + 1) lsA rest)) : W p l e R s m args below meth c H locs cells slots QM (F0 m pc lsA (.int x :: .int i :: .ref (ad (q, n)) :: rest)) := by
  obtain ⟨hx, hb, hml, hown, hlk, hT, hK, hA, hX⟩ := id F
  obtain ⟨k, hk1⟩ := smW_get (cA := cA) (ad := ad) z (r := (q, n)) hq
  have hk0 := hk1
  have e0 := aty0 q (ak_cases (by omega)).2 hk
  rw [cell_arr (by omega), e0] at hk1
  refine va_iast (D := D) (cl := vwCl) hx hb hK hH.1 (smW_D hA z) hS k 0 hk1 rfl (vp_of_inA hin) hd (fun H1 locs1 hP hD hS1 => ?_)
  refine kk H1 locs1 ⟨?_, hH.2⟩ hS1
  rw [← smW_set hA hk0 hq (cell_putA (by omega)) (fun r' hr => cell_putV_ne r' hr), e0]
  exact hP
theorem s_zst (F : FrOk p s m args meth c D cA ad A L xs cc o nL) {q n : Nat} {i x : Int32} (hq : n < cntK q) (hk : akind q = 1) (hin : inA i (alen q)) (hv : x = 0 ∨ x = 1) (hH : Hp D cA ad z H) (hS : va_S A s.heap H locs) (hd : decode cc pc = .ok (.bastore, 1))
    (kk : ∀ (H1 : Heap) (locs1 : List Loc), Hp D cA ad (putV z q n i.toNatClampNeg x) H1 → va_S A s.heap H1 locs1 → W p l e R s m args below meth c H1 locs1 cells slots QM (F0 m (pc + 1) lsA rest)) : W p l e R s m args below meth c H locs cells slots QM (F0 m pc lsA (.int x :: .int i :: .ref (ad (q, n)) :: rest)) := by
  obtain ⟨hx, hb, hml, hown, hlk, hT, hK, hA, hX⟩ := id F
  obtain ⟨k, hk1⟩ := smW_get (cA := cA) (ad := ad) z (r := (q, n)) hq
  have hk0 := hk1
  have e0 := aty1 q (ak_cases (by omega)).2 hk
  rw [cell_arr (by omega), e0] at hk1
  have hn : vp_nar .boolean x = x := by rcases hv with rfl | rfl <;> decide
  refine va_zast (D := D) (cl := vwCl) hx hb hK hH.1 (smW_D hA z) hS k 1 hk1 rfl (vp_of_inA hin) hd (fun H1 locs1 hP hD hS1 => ?_)
  refine kk H1 locs1 ⟨?_, hH.2⟩ hS1
  rw [hn] at hP
  rw [← smW_set hA hk0 hq (cell_putA (by omega)) (fun r' hr => cell_putV_ne r' hr), e0]
  exact hP
theorem s_bst (F : FrOk p s m args meth c D cA ad A L xs cc o nL) {q n : Nat} {i x : Int32} (hq : n < cntK q) (hk : akind q = 2) (hin : inA i (alen q)) (hv : x.toInt8.toInt32 = x) (hH : Hp D cA ad z H) (hS : va_S A s.heap H locs) (hd : decode cc pc = .ok (.bastore, 1))
    (kk : ∀ (H1 : Heap) (locs1 : List Loc), Hp D cA ad (putV z q n i.toNatClampNeg x) H1 → va_S A s.heap H1 locs1 → W p l e R s m args below meth c H1 locs1 cells slots QM (F0 m (pc + 1) lsA rest)) : W p l e R s m args below meth c H locs cells slots QM (F0 m pc lsA (.int x :: .int i :: .ref (ad (q, n)) :: rest)) := by
  obtain ⟨hx, hb, hml, hown, hlk, hT, hK, hA, hX⟩ := id F
  obtain ⟨k, hk1⟩ := smW_get (cA := cA) (ad := ad) z (r := (q, n)) hq
  have hk0 := hk1
  have e0 := aty2 q (ak_cases (by omega)).2 hk
  rw [cell_arr (by omega), e0] at hk1
  have hn : vp_nar .byte x = x := hv
  refine va_bast (D := D) (cl := vwCl) hx hb hK hH.1 (smW_D hA z) hS k 2 hk1 rfl (vp_of_inA hin) hd (fun H1 locs1 hP hD hS1 => ?_)
  refine kk H1 locs1 ⟨?_, hH.2⟩ hS1
  rw [hn] at hP
  rw [← smW_set hA hk0 hq (cell_putA (by omega)) (fun r' hr => cell_putV_ne r' hr), e0]
  exact hP
theorem el_putP {n k y c i j : Nat} (h : (c, i) ≠ (14, n)) : el (putP z n k y).2 c i j = el z.2 c i j := by
  unfold el putP
  split <;> first
    | rfl
    | (rename_i e; have : ¬ i = n := fun q => h (by rw [q]); simp [this])
theorem cell_putP_ne {n k y : Nat} (r' : Nat × Nat) (h : r' ≠ (14, n)) : cellD cA ad (putP z n k y) r' = cellD cA ad z r' := by
  obtain ⟨c', i'⟩ := r'
  have e2 : (putP z n k y).1 = z.1 := rfl
  have e3 : (fun k' => trv ad (fv (putP z n k y) c' i' k')) = (fun k' => trv ad (fv z c' i' k')) := by
    funext k'
    unfold fv
    rw [e2]
  have e4 : (fun j => some (ad (el (putP z n k y).2 c' i' j))) = (fun j => some (ad (el z.2 c' i' j))) := by
    funext j
    rw [el_putP h]
  unfold cellD
  simp only [e2, e3, e4]
theorem s_qst (F : FrOk p s m args meth c D cA ad A L xs cc o nL) {n y : Nat} {i : Int32} (hq : n < 40) (hy : y < 200) (hin : inA i 5) (hH : Hp D cA ad z H) (hS : va_S A s.heap H locs) (hd : decode cc pc = .ok (.aastore, 1))
    (kk : ∀ (H1 : Heap) (locs1 : List Loc), Hp D cA ad (putP z n i.toNatClampNeg y) H1 → va_S A s.heap H1 locs1 → W p l e R s m args below meth c H1 locs1 cells slots QM (F0 m (pc + 1) lsA rest)) : W p l e R s m args below meth c H locs cells slots QM (F0 m pc lsA (.ref (ad (2, y)) :: .int i :: .ref (ad (14, n)) :: rest)) := by
  obtain ⟨hx, hb, hml, hown, hlk, hT, hK, hA, hX⟩ := id F
  obtain ⟨k, hk1⟩ := smW_get (cA := cA) (ad := ad) z (r := (14, n)) hq
  obtain ⟨k2, hk2⟩ := smW_get (cA := cA) (ad := ad) z (r := (2, y)) hy
  have hk0 := hk1
  rw [cell_refs rfl] at hk1
  rw [cell_obj (by decide)] at hk2
  refine va_astq (D := D) (cl := vwCl) (ci := 2) (r := (RX2, TX2, 6)) hx hb hK hH.1 (smW_D hA z) hS k 6 k2 hk1 rfl hk2 rfl (vp_of_inA hin) hd (fun H1 locs1 hP hD hS1 => ?_)
  refine kk H1 locs1 ⟨?_, fun i' j' h1 h2 => ?_⟩ hS1
  · rw [← smW_set (z' := putP z n i.toNatClampNeg y) hA hk0 hq (e := _) ?_ (fun r' hr => cell_putP_ne r' hr)]
    · exact hP
    · rw [cell_refs rfl]
      congr 7
      funext j
      by_cases hj : j = i.toNatClampNeg
      · subst hj; simp [el, putP, va_up]
      · simp [el, putP, va_up, hj]
  · show (if i' = n ∧ j' = i.toNatClampNeg then y else z.2 i' j') < 200
    split
    · exact hy
    · exact hH.2 i' j' h1 h2
theorem s_sld (F : FrOk p s m args meth c D cA ad A L xs cc o nL) {i : Int32} (hin : inA i L) (hS : va_S A s.heap H locs) (hd : decode cc pc = .ok (.iaload, 1))
    (kk : W p l e R s m args below meth c H locs cells slots QM (F0 m (pc + 1) lsA (.int (xs i.toNatClampNeg) :: rest))) : W p l e R s m args below meth c H locs cells slots QM (F0 m pc lsA (.int i :: .ref (ad (24, 0)) :: rest)) := by
  obtain ⟨hx, hb, hml, hown, hlk, hT, hK, hA, hX, hbl, hbA⟩ := id F
  exact va_sld hx hb hX hbl hbA hS (vp_of_inA hin) hd kk
theorem s_slen (F : FrOk p s m args meth c D cA ad A L xs cc o nL) (hS : va_S A s.heap H locs) (hd : decode cc pc = .ok (.arraylength, 1))
    (kk : W p l e R s m args below meth c H locs cells slots QM (F0 m (pc + 1) lsA (.int (Int32.ofNat L) :: rest))) : W p l e R s m args below meth c H locs cells slots QM (F0 m pc lsA (.ref (ad (24, 0)) :: rest)) := by
  obtain ⟨hx, hb, hml, hown, hlk, hT, hK, hA, hX, hbl, hbA⟩ := id F
  exact va_slen hx hb hX hbl hbA hS hd kk
end SA
end
section
/-! one step of the small machine is the machine's -/
theorem okV_cons {v : MV} {st : List MV} (h1 : okV v) (h2 : ∀ w ∈ st, okV w) : ∀ w ∈ v :: st, okV w := fun w hw => by
  rcases List.mem_cons.mp hw with rfl | h
  · exact h1
  · exact h2 w h
theorem okV_head {v : MV} {st : List MV} (h : ∀ w ∈ v :: st, okV w) : okV v := h v List.mem_cons_self
theorem okV_tail {v : MV} {st : List MV} (h : ∀ w ∈ v :: st, okV w) : ∀ w ∈ st, okV w := fun w hw => h w (List.mem_cons_of_mem _ hw)
theorem okR_obj {q i : Nat} (h : okR (q, i)) (hq : q < 24) : i < cntK q := by
  rcases h with h | h
  · exact h
  · cases h; omega
theorem boolW_t {b : Bool} {q : Prop} (h : boolW b q) : b = true ∧ q := by
  cases b with
  | true => exact ⟨rfl, h⟩
  | false => exact h.elim
theorem cat_sum (ad : Nat × Nat → Nat) (st : List MV) : ((st.map (trv ad)).map fun v => v.category).sum = st.length := by
  induction st with
  | nil => rfl
  | cons v st ih => simp only [List.map_cons, List.sum_cons, List.length_cons, trv_cat, ih]; omega
theorem cmpTF {b : Nat} {x y : Int32} (h : ¬ cmpT b x y) : cmpF b x y := by
  unfold cmpT at h
  unfold cmpF
  split at h <;> first | exact h | exact Classical.not_not.mp h | omega
theorem int_tgt {pc a : Nat} : (pc : Int) + ((a : Int) - (pc : Int)) = (a : Int) := by omega
section SC
variable {p : Program} {l : Launch} {e : Env} {R : Room} {s : State} {m : MethodId} {args : Array Value} {below : List Frame} {meth : Method} {c : Code} {cells slots : Nat} {QM : State → Prop}
variable {D : va_G} {cA : Nat → ClassId} {ad : Nat × Nat → Nat} {A : Nat → Prop} {L : Nat} {xs : Nat → Int32} {cc : ByteArray} {o nL : Nat} {pc : Nat} {lsA : Array Slot} {H : Heap} {locs : List Loc} {z : St}
theorem RepU.blind {U : State} {g : JFrame} {mk : MethodId} {a : Array Value} (h : RepU D cA ad L xs z U) : RepU D cA ad L xs z (U.calling g mk a) :=
  ⟨h.1, va_K.moved (u := U) (U := U.calling g mk a) (Vm.Alike.refl U.vm) h.2.1, Tk.same (s := U) (U := U.calling g mk a) rfl h.2.2.1, va_X.moved (u := U) (U := U.calling g mk a) (Vm.Alike.refl U.vm) h.2.2.2⟩
theorem pc_blind (as : List Value) : FrameBlind (va_Pc as (RepU D cA ad L xs z)) := fun a U g mk q => ⟨q.1, q.2.blind⟩
theorem rep_at (F : FrOk p s m args meth c D cA ad A L xs cc o nL) (hH : Hp D cA ad z H) (hS : va_S A s.heap H locs) : ∀ U : State, U.heap = H → s.WarmedH U.vm → RepU D cA ad L xs z U := by
  obtain ⟨hx, hb, hml, hown, hlk, hT, hK, hA, hX, hbl, hbA⟩ := F
  intro U hU hW
  exact ⟨by rw [hU]; exact hH, va_K.moved hW.alike hK, Tk.warm hW hT, (va_X.moved hW.alike hX).kept (by rw [hU]; exact hS.2.1 _ hbl hbA)⟩
theorem sm_call {Q' : Option MV → St → Prop} {a : Array Value} {rest st0 : List Value} (hr : va_Run p l e R s m args below meth c H locs cells slots 0 0 (F0 m pc lsA st0) rest (QcM D cA ad A L xs Q' a) A) (hS : va_S A s.heap H locs)
    (kk : ∀ (r : Option Int32) (z' : St) (H1 : Heap) (locs1 : List Loc), Q' (r.map Sum.inl) z' → Hp D cA ad z' H1 → va_S A s.heap H1 locs1 → W p l e R s m args below meth c H1 locs1 cells slots QM (F0 m (pc + 3) lsA ((r.map Value.int).toList ++ rest))) : W p l e R s m args below meth c H locs cells slots QM (F0 m pc lsA st0) := by
  intro T hT X
  obtain ⟨v, st₀, t, T', L', h0, X', hL, e1, e2, ⟨⟨r, z', hv, hq, hrep⟩, hz, hk⟩, st⟩ := hr T hT X
  cases hv
  rw [h0] at hz hk
  obtain ⟨t2, a1, b1⟩ := kk r z' T'.heap (locs ++ L') hq (by rw [e1]; exact hrep.1) ⟨Nat.le_trans hS.1 (by rw [e1]; exact hz), fun q h1 h2 => by rw [e1, hk q (Nat.lt_of_lt_of_le h1 hS.1) h2]; exact hS.2.1 q h1 h2, fun q hq => by
    rcases List.mem_append.mp hq with h | h
    · exact hS.2.2 q h
    · exact hL q h⟩ T' rfl X'
  exact ⟨t2, st t2 a1, b1⟩
/-- a callee's contract -/
def MetC (l : Launch) (D : va_G) (cA : Nat → ClassId) (ad : Nat × Nat → Nat) (A : Nat → Prop) (L : Nat) (xs : Nat → Int32) (f b : Nat) (as : List MV) (z : St) (Q : Option MV → St → Prop) : Prop :=
  Met l (mRow b).1 [Cond.code (mRow b).1 (mRow b).2.1 (mRow b).2.2.1 (mRow b).2.2.2.1] (rmF f) (va_Pc (as.map (trv ad)) (RepU D cA ad L xs z)) (QcM D cA ad A L xs Q) 0 0 A
theorem s_call (F : FrOk p s m args meth c D cA ad A L xs cc o nL) {a b d f : Nat} {as st : List MV} {Q' : Option MV → St → Prop} (hml : (o, a, b, (if d = 2 then 1 else 0)) ∈ mlT) (hni : b ∉ initL) (hst : (mRow b).2.2.2.2.2.2 = decide (¬ d = 0)) (hn : as.length = (mRow b).2.2.2.2.2.1)
    (hrecv : d = 0 → ∃ i as', as = .inr ((mRow b).2.2.2.2.1, i) :: as' ∧ (mRow b).2.2.2.2.1 < 11 ∧ i < cntK (mRow b).2.2.2.2.1)
    (hM : MetC l D cA ad A L xs f b as z Q') (hf1 : f + 1 ≤ R.frames) (hf2 : 38 * f + 38 ≤ R.locals) (hcs : cells ≤ R.cells ∧ slots ≤ R.slots) (hlen : st.length ≤ 8)
    (hH : Hp D cA ad z H) (hS : va_S A s.heap H locs) (hsz : lsA.size = nL) (hd : decode cc pc = .ok (if d = 0 then Instr.invokevirtual a else Instr.invokestatic a, 3))
    (kk : ∀ (r : Option Int32) (z' : St) (H1 : Heap) (locs1 : List Loc), Q' (r.map Sum.inl) z' → Hp D cA ad z' H1 → va_S A s.heap H1 locs1 → W p l e R s m args below meth c H1 locs1 cells slots QM (F0 m (pc + 3) lsA ((r.map Value.int).toList ++ st.map (trv ad)))) : W p l e R s m args below meth c H locs cells slots QM (F0 m pc lsA ((as.reverse ++ st).map (trv ad))) := by
  obtain ⟨hx, hb, hmlc, hown, hlk, hT, hK, hA, hX⟩ := id F
  obtain ⟨⟨w1, w2, w3⟩, ⟨h1, h2, h3, h4, h5, h6⟩, h7⟩ := mlT_ok _ hml
  simp only at w1 w2 w3 h1 h2 h3 h4 h5 h6 h7
  have hrm : 2 * (F0 m pc lsA ((as.reverse ++ st).map (trv ad))).monitorRoom + ((st.map (trv ad)).map fun v => v.category).sum ≤ 8 := lv_room (by rw [cat_sum]; exact hlen)
  have hloc : 8 + ((mRow b).2.2.1 + 11) + (rmF f).locals ≤ R.locals := by show 8 + ((mRow b).2.2.1 + 11) + 38 * f ≤ _; omega
  have hws : ∀ w ∈ [Cond.code (mRow b).1 (mRow b).2.1 (mRow b).2.2.1 (mRow b).2.2.2.1], ∀ (a' : Array Value) (U : State), s.WarmedH U.vm → w.before a' U = true := by
    intro w hw a' U hW
    rw [List.mem_singleton.mp hw]
    exact (Tk.warm hW hT).use w1
  by_cases hd0 : d = 0
  · subst hd0
    obtain ⟨i, as', rfl, hc11, hi⟩ := hrecv rfl
    have hstF : (mRow b).2.2.2.2.2.2 = false := hst
    rw [hstF] at w3 h2
    rw [if_neg (by decide)] at w3 h2
    rw [if_pos (by decide)] at h7
    obtain ⟨k, hk⟩ := smW_get (cA := cA) (ad := ad) z (r := ((mRow b).2.2.2.2.1, i)) hi
    rw [cell_obj hc11] at hk
    have hrc := va_recv hK hH.1 (cl_at hc11) hk
    rw [h4] at hrc
    have hsel : inT (.selects (mRow b).1.cls (mRow b).1 (mRow b).1) := by
      rcases w3.2 with q | q
      · exact absurd q (initL_ok _ (mlT_lt _ hml) hni)
      · exact q
    refine sm_call (va_runV (C := (mRow b).1.cls) (own := cnm o) (As := as'.map (trv ad)) (rest := st.map (trv ad)) (index := a) (Ts := []) (b := ad ((mRow b).2.2.2.2.1, i)) (n := as'.length) ⟨hx, hb, hmlc, hown, fun w hw => by cases hw⟩ hM
      ⟨⟨rfl, rfl, hf1, hloc, hws, List.mem_cons_self, hT.use w1, hT.use w2, h1, fun sig hsig => ?_, hT.use h7⟩, hT.use w3.1, hT.use hsel⟩
      ⟨pc_blind _, hrc, fun U hU hW => ⟨rfl, rep_at F hH hS U hU hW⟩⟩ rfl (by simp) hsz ?_ hrm hd ⟨hcs.1, hcs.2⟩) hS kk
    · rw [hsig] at h2
      have h9 := Option.some.inj h2
      rw [List.length_cons] at hn
      rw [← hn] at h9
      exact h9.symm
    · simp [trv]
  · have hstT : (mRow b).2.2.2.2.2.2 = true := by rw [hst]; exact decide_eq_true hd0
    rw [hstT] at w3 h2
    rw [if_pos rfl] at w3 h2
    have hsg : ∀ sig, parseMethodDescriptor (mRow b).1.desc = some sig → as.length = sig.parameters.length := fun sig hsig => by
      rw [hsig] at h2
      have h9 := Option.some.inj h2
      rw [Nat.sub_zero] at h9
      rw [hn, ← h9]
    rw [if_neg hd0] at hd
    by_cases hd2 : d = 2
    · rw [if_pos hd2, if_neg (by decide)] at h7
      refine sm_call (va_runSN (own := cnm o) (host := RX9) (As := as.map (trv ad)) (rest := st.map (trv ad)) (index := a) (Ts := []) (n := as.length) ⟨hx, hb, hmlc, hown, fun w hw => by cases hw⟩ hM
        ⟨⟨⟨rfl, rfl, hf1, hloc, hws, List.mem_cons_self⟩, hT.use w1, hT.use w2, h1, hsg, hT.use h7⟩, hT.use w3, trivial⟩
        ⟨pc_blind _, fun U hU hW => ⟨rfl, rep_at F hH hS U hU hW⟩⟩ rfl (by simp) hsz (by simp) hrm hd ⟨hcs.1, hcs.2⟩) hS kk
    · rw [if_neg hd2, if_pos rfl] at h7
      refine sm_call (va_runS (own := cnm o) (As := as.map (trv ad)) (rest := st.map (trv ad)) (index := a) (Ts := []) (n := as.length) ⟨hx, hb, hmlc, hown, fun w hw => by cases hw⟩ hM
        ⟨⟨rfl, rfl, hf1, hloc, hws, List.mem_cons_self, hT.use w1, hT.use w2, h1, hsg, hT.use h7⟩, hT.use w3⟩
        ⟨pc_blind _, fun U hU hW => ⟨rfl, rep_at F hH hS U hU hW⟩⟩ rfl (by simp) hsz (by simp) hrm hd ⟨hcs.1, hcs.2⟩) hS kk
end SC
end
section
/-! a whole step -/
theorem Int32_ofInt_toInt (x : Int32) : Int32.ofInt x.toInt = x := Int32.ofInt_toInt x
section SW
variable {p : Program} {l : Launch} {e : Env} {R : Room} {s : State} {m : MethodId} {args : Array Value} {below : List Frame} {meth : Method} {c : Code} {cells slots : Nat} {QM : State → Prop}
variable {D : va_G} {cA : Nat → ClassId} {ad : Nat × Nat → Nat} {A : Nat → Prop} {L : Nat} {xs : Nat → Int32} {cc : ByteArray} {o nL : Nat} {pc : Nat} {lsA : Array Slot} {H : Heap} {locs : List Loc} {z : St} {rest : List Value} {st : List MV} {ls : List MV}
theorem s_load (F : FrOk p s m args meth c D cA ad A L xs cc o nL) {a b : Nat} {v : MV} (hm : (match b with | 0 => decide (a < 4) | 1 => true | 2 => decide (a < 4) | _ => true) = true) (hd : decode cc pc = .ok (instrOf (pc, (2, a, b, 0), 0, []))) (hl : locOk ad nL lsA ls) (hv : getL ls a = some v) (hi : (b = 0 ∨ b = 1) → ∃ x, v = .inl x) (hr : ¬ (b = 0 ∨ b = 1) → ∃ r, v = .inr r)
    (kk : W p l e R s m args below meth c H locs cells slots QM (F0 m (nextPc (pc, (2, a, b, 0), 0, [])) lsA (trv ad v :: rest))) : W p l e R s m args below meth c H locs cells slots QM (F0 m pc lsA rest) := by
  obtain ⟨hx, hb, -⟩ := id F
  have hg := loc_get hl hv
  match b, hm, hd, hi, hr, kk with
  | 0, hm, hd, hi, _, kk =>
    obtain ⟨x, rfl⟩ := hi (Or.inl rfl)
    exact lv_iload_n hx hb hd (Nat.mod_eq_of_lt (of_decide_eq_true hm)) hg kk
  | 1, hm, hd, hi, _, kk =>
    obtain ⟨x, rfl⟩ := hi (Or.inr rfl)
    exact lv_iload hx hb hd hg kk
  | 2, hm, hd, _, hr, kk =>
    obtain ⟨x, rfl⟩ := hr (by omega)
    exact lv_aload_n hx hb hd (Nat.mod_eq_of_lt (of_decide_eq_true hm)) hg kk
  | n + 3, hm, hd, _, hr, kk =>
    obtain ⟨x, rfl⟩ := hr (by omega)
    exact lv_aload hx hb hd hg kk
theorem s_store (F : FrOk p s m args meth c D cA ad A L xs cc o nL) {a b : Nat} {v : MV} (ha : a < nL) (hm : (match b with | 0 => decide (a < 4) | 1 => true | 2 => decide (a < 4) | _ => true) = true) (hd : decode cc pc = .ok (instrOf (pc, (3, a, b, 0), 0, []))) (hl : locOk ad nL lsA ls) (hlen : a ≤ ls.length) (hi : (b = 0 ∨ b = 1) → ∃ x, v = .inl x) (hr : ¬ (b = 0 ∨ b = 1) → ∃ r, v = .inr r)
    (kk : ∀ lsB, locOk ad nL lsB (setL ls a v) → W p l e R s m args below meth c H locs cells slots QM (F0 m (nextPc (pc, (3, a, b, 0), 0, [])) lsB rest)) : W p l e R s m args below meth c H locs cells slots QM (F0 m pc lsA (trv ad v :: rest)) := by
  obtain ⟨hx, hb, -⟩ := id F
  match b, hm, hd, hi, hr, kk with
  | 0, hm, hd, hi, _, kk =>
    obtain ⟨x, rfl⟩ := hi (Or.inl rfl)
    exact lv_istore_n hx hb hd (Nat.mod_eq_of_lt (of_decide_eq_true hm)) hl.1 ha rfl (fun lsB hB => kk lsB (loc_set hl ha hlen _ rfl hB))
  | 1, hm, hd, hi, _, kk =>
    obtain ⟨x, rfl⟩ := hi (Or.inr rfl)
    exact lv_istore hx hb hd hl.1 ha rfl (fun lsB hB => kk lsB (loc_set hl ha hlen _ rfl hB))
  | 2, hm, hd, _, hr, kk =>
    obtain ⟨x, rfl⟩ := hr (by omega)
    exact lv_astore_n hx hb hd (Nat.mod_eq_of_lt (of_decide_eq_true hm)) hl.1 ha rfl (fun lsB hB => kk lsB (loc_set hl ha hlen _ rfl hB))
  | n + 3, hm, hd, _, hr, kk =>
    obtain ⟨x, rfl⟩ := hr (by omega)
    exact lv_astore hx hb hd hl.1 ha rfl (fun lsB hB => kk lsB (loc_set hl ha hlen _ rfl hB))
theorem s_bin (F : FrOk p s m args meth c D cA ad A L xs cc o nL) {a : Nat} {x y : Int32} {k : Int32 → Prop} (hd : decode cc pc = .ok (instrOf (pc, (4, a, 0, 0), 0, []))) (h : binW a x y k)
    (kk : ∀ v, k v → W p l e R s m args below meth c H locs cells slots QM (F0 m (nextPc (pc, (4, a, 0, 0), 0, [])) lsA (.int v :: rest))) : W p l e R s m args below meth c H locs cells slots QM (F0 m pc lsA (.int y :: .int x :: rest)) := by
  obtain ⟨hx, hb, -⟩ := id F
  match a, hd, h, kk with
  | 0, hd, h, kk => exact lv_iadd hx hb hd (kk _ h)
  | 1, hd, h, kk => exact lv_isub hx hb hd (kk _ h)
  | 2, hd, h, kk => exact lv_imul hx hb hd (kk _ h)
  | 3, hd, h, kk => exact lv_idiv hx hb hd h.1 (kk _ h.2)
  | 4, hd, h, kk => exact lv_irem hx hb hd h.1 (kk _ h.2)
  | 5, hd, h, kk => exact lv_iand hx hb hd (kk _ h)
  | 6, hd, h, kk => exact lv_iushr hx hb hd rfl (kk _ h)
  | n + 7, hd, h, kk => exact lv_ixor hx hb hd (kk _ h)
theorem toInt_lt {x y : Int32} : x < y ↔ x.toInt < y.toInt := Int32.lt_iff_toInt_lt
theorem toInt_le {x y : Int32} : x ≤ y ↔ x.toInt ≤ y.toInt := Int32.le_iff_toInt_le
theorem s_if (F : FrOk p s m args meth c D cA ad A L xs cc o nL) {a b : Nat} {x : Int32} (hb6 : b < 6) (hd : decode cc pc = .ok (.ifCond (cndOf b) ((a : Int) - (pc : Int)), 3))
    (kf : cmpF b x 0 → W p l e R s m args below meth c H locs cells slots QM (F0 m (pc + 3) lsA rest)) (kt : cmpT b x 0 → W p l e R s m args below meth c H locs cells slots QM (F0 m a lsA rest)) : W p l e R s m args below meth c H locs cells slots QM (F0 m pc lsA (.int x :: rest)) := by
  obtain ⟨hx, hb, -⟩ := id F
  match b, hb6, hd, kf, kt with
  | 0, _, hd, kf, kt => exact lv_if_eq hx hb hd int_tgt (fun h => kt h) (fun h => kf h)
  | 1, _, hd, kf, kt => exact lv_if_ne hx hb hd int_tgt (fun h => kt h) (fun h => kf h)
  | 2, _, hd, kf, kt => exact lv_if_lt hx hb hd int_tgt (fun h => kt (toInt_lt.mp h)) (fun h => kf (Int.not_lt.mp fun q => h (toInt_lt.mpr q)))
  | 3, _, hd, kf, kt => exact lv_if_ge hx hb hd int_tgt (fun h => kt (toInt_le.mp h)) (fun h => kf (Int.not_le.mp fun q => h (toInt_le.mpr q)))
  | 4, _, hd, kf, kt => exact lv_if_gt hx hb hd int_tgt (fun h => kt (toInt_lt.mp h)) (fun h => kf (Int.not_lt.mp fun q => h (toInt_lt.mpr q)))
  | 5, _, hd, kf, kt => exact lv_if_le hx hb hd int_tgt (fun h => kt (toInt_le.mp h)) (fun h => kf (Int.not_le.mp fun q => h (toInt_le.mpr q)))
theorem s_icmp (F : FrOk p s m args meth c D cA ad A L xs cc o nL) {a b : Nat} {x y : Int32} (hb6 : b < 6) (hd : decode cc pc = .ok (.if_icmp (cndOf b) ((a : Int) - (pc : Int)), 3))
    (kf : cmpF b x y → W p l e R s m args below meth c H locs cells slots QM (F0 m (pc + 3) lsA rest)) (kt : cmpT b x y → W p l e R s m args below meth c H locs cells slots QM (F0 m a lsA rest)) : W p l e R s m args below meth c H locs cells slots QM (F0 m pc lsA (.int y :: .int x :: rest)) := by
  obtain ⟨hx, hb, -⟩ := id F
  match b, hb6, hd, kf, kt with
  | 0, _, hd, kf, kt => exact lv_icmp_eq hx hb hd int_tgt (fun h => kt h) (fun h => kf h)
  | 1, _, hd, kf, kt => exact lv_icmp_ne hx hb hd int_tgt (fun h => kt h) (fun h => kf h)
  | 2, _, hd, kf, kt => exact lv_icmp_lt hx hb hd int_tgt (fun h => kt (toInt_lt.mp h)) (fun h => kf (Int.not_lt.mp fun q => h (toInt_lt.mpr q)))
  | 3, _, hd, kf, kt => exact lv_icmp_ge hx hb hd int_tgt (fun h => kt (toInt_le.mp h)) (fun h => kf (Int.not_le.mp fun q => h (toInt_le.mpr q)))
  | 4, _, hd, kf, kt => exact lv_icmp_gt hx hb hd int_tgt (fun h => kt (toInt_lt.mp h)) (fun h => kf (Int.not_lt.mp fun q => h (toInt_lt.mpr q)))
  | 5, _, hd, kf, kt => exact lv_icmp_le hx hb hd int_tgt (fun h => kt (toInt_le.mp h)) (fun h => kf (Int.not_le.mp fun q => h (toInt_le.mpr q)))
end SW
/-! switches -/
theorem ofNat_toInt {n : Nat} (h : n < 1000) : (Int32.ofNat n).toInt = (n : Int) := nI_toInt (by omega)
theorem swW_mem {x : Int32} {k : Nat → Prop} {d : Nat} : ∀ {cs : List (Nat × Nat)}, swW x k d cs → (∃ q ∈ cs, x = Int32.ofNat q.1 ∧ k q.2) ∨ ((∀ q ∈ cs, ¬ x = Int32.ofNat q.1) ∧ k d)
  | [], h => Or.inr ⟨fun q hq => (List.not_mem_nil hq).elim, h⟩
  | (v, t) :: cs, h => by
    by_cases hx : x = Int32.ofNat v
    · exact Or.inl ⟨(v, t), List.mem_cons_self, hx, h.1 hx⟩
    · rcases swW_mem (h.2 hx) with ⟨q, hq, h1⟩ | ⟨h1, h2⟩
      · exact Or.inl ⟨q, List.mem_cons_of_mem _ hq, h1⟩
      · refine Or.inr ⟨fun q hq => ?_, h2⟩
        rcases List.mem_cons.mp hq with rfl | hq
        · exact hx
        · exact h1 q hq
theorem sw_look {x : Int32} {k : Nat → Prop} {d pc : Nat} : ∀ {cs : List (Nat × Nat)}, swW x k d cs → (∀ q ∈ cs, q.1 < 1000) → ∃ t : Nat, Op.lookupswitch.offset (cs.map fun q => ((q.1 : Int), (q.2 : Int) - (pc : Int))) ((d : Int) - (pc : Int)) x.toInt = (t : Int) - (pc : Int) ∧ k t
  | [], h, _ => ⟨d, rfl, h⟩
  | (v, t) :: cs, h, hs => by
    by_cases hx : x = Int32.ofNat v
    · refine ⟨t, ?_, h.1 hx⟩
      rw [List.map_cons, Op.lookupswitch.offset_cons, if_pos]
      rw [hx]
      exact (ofNat_toInt (hs _ List.mem_cons_self)).symm
    · obtain ⟨t', h1, h2⟩ := sw_look (pc := pc) (h.2 hx) (fun q hq => hs q (List.mem_cons_of_mem _ hq))
      refine ⟨t', ?_, h2⟩
      rw [List.map_cons, Op.lookupswitch.offset_cons, if_neg]
      · exact h1
      · intro q
        apply hx
        apply Int32.toInt_inj.mp
        rw [ofNat_toInt (hs _ List.mem_cons_self)]
        exact q.symm
theorem sw_tab {x : Int32} {k : Nat → Prop} {d pc lo : Nat} {cs : List (Nat × Nat)} (h : swW x k d cs) (hs : ∀ q ∈ cs, q.1 < 1000) (hc : cs.map (fun q => q.1) = List.range' lo cs.length) :
    (∃ t : Nat, k t ∧ (lo : Int) ≤ x.toInt ∧ x.toInt < (lo : Int) + (cs.length : Int) ∧ (cs.map fun q => (q.2 : Int) - (pc : Int)).toArray[(x.toInt - (lo : Int)).toNat]? = some ((t : Int) - (pc : Int))) ∨ (k d ∧ (x.toInt < (lo : Int) ∨ (lo : Int) + (cs.length : Int) ≤ x.toInt)) := by
  have at' : ∀ (i : Nat) (q : Nat × Nat), cs[i]? = some q → q.1 = lo + i := by
    intro i q hq
    have h1 : (cs.map (fun q => q.1))[i]? = some q.1 := by rw [List.getElem?_map, hq]; rfl
    have hl : i < cs.length := (List.getElem?_eq_some_iff.mp hq).1
    rw [hc, List.getElem?_range' hl] at h1
    have := Option.some.inj h1
    omega
  rcases swW_mem h with ⟨q, hq, h1, h2⟩ | ⟨h1, h2⟩
  · left
    obtain ⟨i, hi⟩ := List.getElem?_of_mem hq
    have e1 := at' i q hi
    have e2 : x.toInt = (q.1 : Int) := by rw [h1]; exact ofNat_toInt (hs q hq)
    have hl : i < cs.length := (List.getElem?_eq_some_iff.mp hi).1
    refine ⟨q.2, h2, by omega, by omega, ?_⟩
    have e3 : (x.toInt - (lo : Int)).toNat = i := by omega
    rw [e3, List.getElem?_toArray, List.getElem?_map, hi]
    rfl
  · right
    refine ⟨h2, ?_⟩
    apply Classical.byContradiction
    intro hn
    have g1 : (lo : Int) ≤ x.toInt := by omega
    have g2 : x.toInt < (lo : Int) + (cs.length : Int) := by omega
    have hi : (x.toInt - (lo : Int)).toNat < cs.length := by omega
    have e1 := at' _ _ (List.getElem?_eq_getElem hi)
    have hm : cs[(x.toInt - (lo : Int)).toNat] ∈ cs := List.getElem_mem hi
    apply h1 _ hm
    apply Int32.toInt_inj.mp
    rw [ofNat_toInt (hs _ hm)]
    omega
section SX
variable {p : Program} {l : Launch} {e : Env} {R : Room} {s : State} {m : MethodId} {args : Array Value} {below : List Frame} {meth : Method} {c : Code} {cells slots : Nat} {QM : State → Prop}
variable {D : va_G} {cA : Nat → ClassId} {ad : Nat × Nat → Nat} {A : Nat → Prop} {L : Nat} {xs : Nat → Int32} {cc : ByteArray} {o nL : Nat} {pc : Nat} {lsA : Array Slot} {H : Heap} {locs : List Loc} {z : St} {rest : List Value} {st : List MV} {ls : List MV}
theorem last_range {cs : List (Nat × Nat)} {lo : Nat} (hc : cs.map (fun q => q.1) = List.range' lo cs.length) (hne : cs ≠ []) : ((cs.getLast?).getD (0, 0)).1 + 1 = lo + cs.length := by
  have hl : 0 < cs.length := List.length_pos_iff.mpr hne
  rw [List.getLast?_eq_getElem?]
  have hi : cs.length - 1 < cs.length := by omega
  have h1 : (cs.map (fun q => q.1))[cs.length - 1]? = some (cs[cs.length - 1]).1 := by rw [List.getElem?_map, List.getElem?_eq_getElem hi]; rfl
  rw [hc, List.getElem?_range' hi] at h1
  have := Option.some.inj h1
  rw [List.getElem?_eq_getElem hi]
  simp only [Option.getD_some]
  omega
theorem s_switch (F : FrOk p s m args meth c D cA ad A L xs cc o nL) {a b d : Nat} {cs : List (Nat × Nat)} {x : Int32} {k : Nat → Prop} (hm : moreOk o nL (pc, (18, a, b, d), 0, cs) = true) (hd : decode cc pc = .ok (instrOf (pc, (18, a, b, d), 0, cs))) (h : swW x k a cs)
    (kk : ∀ t, k t → W p l e R s m args below meth c H locs cells slots QM (F0 m t lsA rest)) : W p l e R s m args below meth c H locs cells slots QM (F0 m pc lsA (.int x :: rest)) := by
  obtain ⟨hx, hb, -⟩ := id F
  match d, hm, hd with
  | 0, hm, hd =>
    have hm : ((decide (cs.map (fun q => q.1) = (List.range' (cs.head?.getD (0, 0)).1 cs.length)) && decide (cs ≠ [])) && cs.all (fun q => decide (q.1 < 1000))) = true := hm
    rw [Bool.and_eq_true, Bool.and_eq_true, decide_eq_true_eq, decide_eq_true_eq, List.all_eq_true] at hm
    obtain ⟨⟨h1, h2⟩, h3⟩ := hm
    have h3 : ∀ q ∈ cs, q.1 < 1000 := fun q hq => of_decide_eq_true (h3 q hq)
    have hlast := last_range h1 h2
    rcases sw_tab (pc := pc) h h3 h1 with ⟨t, g1, g2, g3, g4⟩ | ⟨g1, g2⟩
    · exact lv_tableIn hx hb hd (by omega) (by omega) g4 int_tgt (kk t g1)
    · exact lv_tableOut hx hb hd (by omega) int_tgt (kk a g1)
  | n + 1, hm, hd =>
    have hm : (((cs.map fun q => ((q.1 : Int), (q.2 : Int) - (pc : Int))).zip ((cs.map fun q => ((q.1 : Int), (q.2 : Int) - (pc : Int))).drop 1)).all (fun (a, next) => a.1 < next.1) && cs.all (fun q => decide (q.1 < 1000))) = true := hm
    rw [Bool.and_eq_true] at hm
    have h3 : ∀ q ∈ cs, q.1 < 1000 := fun q hq => of_decide_eq_true (List.all_eq_true.mp hm.2 q hq)
    obtain ⟨t, g1, g2⟩ := sw_look (pc := pc) h h3
    exact lv_lookup hx hb hd hm.1 g1 int_tgt (kk t g2)
end SX
end
section
/-! THE STEP, whole; the stretch; the method -/
theorem virt_all : ∀ q ∈ mlT, (mRow q.2.2.1).2.2.2.2.2.2 = false → (mRow q.2.2.1).2.2.2.2.1 < 11 := by decide +kernel
theorem virt_lt {o a b n : Nat} (q : Nat) (h : (o, a, b, n) ∈ mlT) (hs : (mRow b).2.2.2.2.2.2 = decide (¬ (0 : Nat) = 0)) : (mRow b).2.2.2.2.1 < 11 := virt_all _ h hs
theorem inv_split {call : Nat → List MV → St → (Option MV → St → Prop) → Prop} {n w b d : Nat} {st : List MV} {z : St} {kk : List MV → St → Prop} {cs : List (Nat × Nat)} (h : (match cs with
      | (n, w) :: _ => (match popL n [] st with
        | some (as, st) => boolW (Nat.ble st.length 8) (match Nat.beq d 0 with
          | true => (match as with
            | .inr (q, _) :: _ => boolW (Nat.beq q w) (call b as z (fun r s => kk (pushW r st) s))
            | _ => False)
          | false => call b as z (fun r s => kk (pushW r st) s))
        | none => False)
      | [] => False)) (hcs : cs = [(n, w)]) : ∃ as st', st = as.reverse ++ st' ∧ as.length = n ∧ st'.length ≤ 8 ∧ call b as z (fun r s => kk (pushW r st') s) ∧ (d = 0 → ∃ i as', as = .inr (w, i) :: as') := by
  subst hcs
  have h : (match popL n [] st with
        | some (as, st) => boolW (Nat.ble st.length 8) (match Nat.beq d 0 with
          | true => (match as with
            | .inr (q, _) :: _ => boolW (Nat.beq q w) (call b as z (fun r s => kk (pushW r st) s))
            | _ => False)
          | false => call b as z (fun r s => kk (pushW r st) s))
        | none => False) := h
  cases hp : popL n [] st with
  | none => rw [hp] at h; exact h.elim
  | some pr =>
    obtain ⟨as, st'⟩ := pr
    rw [hp] at h
    obtain ⟨t, e1, e2, e3⟩ := popL_eq _ _ _ _ _ hp
    rw [List.append_nil] at e1
    subst e1
    obtain ⟨hlen, h2⟩ := boolW_t h
    refine ⟨as, st', e2, e3, Nat.le_of_ble_eq_true hlen, ?_⟩
    cases hd0 : Nat.beq d 0 with
    | false =>
      rw [hd0] at h2
      exact ⟨h2, fun e => by rw [e] at hd0; cases hd0⟩
    | true =>
      rw [hd0] at h2
      cases as with
      | nil => exact (h2 : False).elim
      | cons v as' => cases v with
        | inl x => exact (h2 : False).elim
        | inr r =>
          obtain ⟨q, i⟩ := r
          obtain ⟨hq, h3⟩ := boolW_t h2
          have hq := Nat.eq_of_beq_eq_true hq
          subst hq
          exact ⟨h3, fun _ => ⟨i, as', rfl⟩⟩
def idxOk (b a : Nat) : Bool := match b with
  | 0 => decide (a < 4) | 1 => true | 2 => decide (a < 4) | _ => true
section SL
variable {p : Program} {l : Launch} {e : Env} {R : Room} {s : State} {m : MethodId} {args : Array Value} {below : List Frame} {meth : Method} {c : Code} {cells slots : Nat} {QM : State → Prop}
variable {D : va_G} {cA : Nat → ClassId} {ad : Nat × Nat → Nat} {A : Nat → Prop} {L : Nat} {xs : Nat → Int32} {cc : ByteArray} {o nL : Nat} {H : Heap} {locs : List Loc} {lsA : Array Slot} {rest : List Value} {ls : List MV}
theorem s_loadI (F : FrOk p s m args meth c D cA ad A L xs cc o nL) {pc a b d : Nat} {c0 x : Int32} {cs : List (Nat × Nat)} (hm : idxOk b a = true) (hb1 : b ≤ 1) (hd : decode cc pc = .ok (instrOf (pc, (2, a, b, d), c0, cs))) (hg : lsA[a]? = some (.val (.int x)))
    (kk : W p l e R s m args below meth c H locs cells slots QM (F0 m (nextPc (pc, (2, a, b, d), c0, cs)) lsA (.int x :: rest))) : W p l e R s m args below meth c H locs cells slots QM (F0 m pc lsA rest) := by
  obtain ⟨hx, hb, -⟩ := id F
  match b, hm, hb1, hd, kk with
  | 0, hm, _, hd, kk => exact lv_iload_n hx hb hd (Nat.mod_eq_of_lt (of_decide_eq_true hm)) hg kk
  | 1, hm, _, hd, kk => exact lv_iload hx hb hd hg kk
theorem s_loadR (F : FrOk p s m args meth c D cA ad A L xs cc o nL) {pc a b d x : Nat} {c0 : Int32} {cs : List (Nat × Nat)} (hm : idxOk b a = true) (hb1 : 2 ≤ b) (hd : decode cc pc = .ok (instrOf (pc, (2, a, b, d), c0, cs))) (hg : lsA[a]? = some (.val (.ref x)))
    (kk : W p l e R s m args below meth c H locs cells slots QM (F0 m (nextPc (pc, (2, a, b, d), c0, cs)) lsA (.ref x :: rest))) : W p l e R s m args below meth c H locs cells slots QM (F0 m pc lsA rest) := by
  obtain ⟨hx, hb, -⟩ := id F
  match b, hm, hb1, hd, kk with
  | 2, hm, _, hd, kk => exact lv_aload_n hx hb hd (Nat.mod_eq_of_lt (of_decide_eq_true hm)) hg kk
  | n + 3, hm, _, hd, kk => exact lv_aload hx hb hd hg kk
theorem s_storeI (F : FrOk p s m args meth c D cA ad A L xs cc o nL) {pc a b d : Nat} {c0 x : Int32} {cs : List (Nat × Nat)} (ha : a < nL) (hlen : a ≤ ls.length) (hloc : locOk ad nL lsA ls) (hm : idxOk b a = true) (hb1 : b ≤ 1) (hd : decode cc pc = .ok (instrOf (pc, (3, a, b, d), c0, cs)))
    (kk : ∀ lsB, locOk ad nL lsB (setL ls a (.inl x)) → W p l e R s m args below meth c H locs cells slots QM (F0 m (nextPc (pc, (3, a, b, d), c0, cs)) lsB rest)) : W p l e R s m args below meth c H locs cells slots QM (F0 m pc lsA (.int x :: rest)) := by
  obtain ⟨hx, hb, -⟩ := id F
  match b, hm, hb1, hd, kk with
  | 0, hm, _, hd, kk => exact lv_istore_n hx hb hd (Nat.mod_eq_of_lt (of_decide_eq_true hm)) hloc.1 ha rfl (fun lsB hB => kk lsB (loc_set hloc ha hlen (.inl x) rfl hB))
  | 1, hm, _, hd, kk => exact lv_istore hx hb hd hloc.1 ha rfl (fun lsB hB => kk lsB (loc_set hloc ha hlen (.inl x) rfl hB))
theorem s_storeR (F : FrOk p s m args meth c D cA ad A L xs cc o nL) {pc a b d : Nat} {c0 : Int32} {r : Nat × Nat} {cs : List (Nat × Nat)} (ha : a < nL) (hlen : a ≤ ls.length) (hloc : locOk ad nL lsA ls) (hm : idxOk b a = true) (hb1 : 2 ≤ b) (hd : decode cc pc = .ok (instrOf (pc, (3, a, b, d), c0, cs)))
    (kk : ∀ lsB, locOk ad nL lsB (setL ls a (.inr r)) → W p l e R s m args below meth c H locs cells slots QM (F0 m (nextPc (pc, (3, a, b, d), c0, cs)) lsB rest)) : W p l e R s m args below meth c H locs cells slots QM (F0 m pc lsA (.ref (ad r) :: rest)) := by
  obtain ⟨hx, hb, -⟩ := id F
  match b, hm, hb1, hd, kk with
  | 2, hm, _, hd, kk => exact lv_astore_n hx hb hd (Nat.mod_eq_of_lt (of_decide_eq_true hm)) hloc.1 ha rfl (fun lsB hB => kk lsB (loc_set hloc ha hlen (.inr r) rfl hB))
  | n + 3, hm, _, hd, kk => exact lv_astore hx hb hd hloc.1 ha rfl (fun lsB hB => kk lsB (loc_set hloc ha hlen (.inr r) rfl hB))
theorem s_const (F : FrOk p s m args meth c D cA ad A L xs cc o nL) {pc a b d : Nat} {c0 : Int32} {cs : List (Nat × Nat)} (hm : moreOk o nL (pc, (1, a, b, d), c0, cs) = true) (hd : decode cc pc = .ok (instrOf (pc, (1, a, b, d), c0, cs)))
    (kk : W p l e R s m args below meth c H locs cells slots QM (F0 m (nextPc (pc, (1, a, b, d), c0, cs)) lsA (.int c0 :: rest))) : W p l e R s m args below meth c H locs cells slots QM (F0 m pc lsA rest) := by
  obtain ⟨hx, hb, hmlc, hown, hlkk, hT, hK, hA, hX⟩ := id F
  match b, hm, hd, kk with
  | 0, _, hd, kk => exact lv_iconst hx hb hd (Int32_ofInt_toInt c0) kk
  | 1, hm, hd, kk => exact lv_bipush hx hb hd (of_decide_eq_true hm) kk
  | 2, hm, hd, kk => exact lv_sipush hx hb hd (of_decide_eq_true hm) kk
  | n + 3, hm, hd, kk =>
    have hm : (o, a, c0) ∈ [(25, 265, (1431655765 : Int32)), (25, 266, 858993459), (25, 267, 252645135)] := of_decide_eq_true hm
    have hc : inT (.constant (cnm o) a c0) := by
      rcases List.mem_cons.mp hm with q | hm
      · cases q; exact ck_265
      rcases List.mem_cons.mp hm with q | hm
      · cases q; exact ck_266
      rcases List.mem_cons.mp hm with q | hm
      · cases q; exact ck_267
      cases hm
    exact lv_ldcw hx hb hown (hT.use hc) hd kk
end SL
section SM
variable {p : Program} {l : Launch} {e : Env} {R : Room} {s : State} {m : MethodId} {args : Array Value} {below : List Frame} {meth : Method} {c : Code} {cells slots : Nat} {QM : State → Prop}
variable {D : va_G} {cA : Nat → ClassId} {ad : Nat × Nat → Nat} {A : Nat → Prop} {L : Nat} {xs : Nat → Int32} {cc : ByteArray} {o nL : Nat}
set_option maxHeartbeats 4000000 in
theorem step_sound (F : FrOk p s m args meth c D cA ad A L xs cc o nL) {call : Nat → List MV → St → (Option MV → St → Prop) → Prop} {ret : Nat} {Q : Option MV → St → Prop} {X : Nat → List MV → List MV → St → Prop} {k : List Ent → List MV → List MV → St → Prop} {j : Nat → List MV → List MV → St → Prop}
    (hcall : ∀ b as z Q', call b as z Q' → (∀ v ∈ as, okV v) → as.length = (mRow b).2.2.2.2.2.1 → b < 215 → ∃ f, f + 1 ≤ R.frames ∧ 38 * f + 38 ≤ R.locals ∧ MetC l D cA ad A L xs f b as z Q')
    (hR0 : ∀ v z H locs lsA pc, retW ret v (Q (some (.inl v)) z) → Hp D cA ad z H → va_S A s.heap H locs → decode cc pc = .ok (.ireturn, 1) → W p l e R s m args below meth c H locs cells slots QM (F0 m pc lsA [.int v]))
    (hR1 : ∀ z H locs lsA pc, ret = 2 → Q none z → Hp D cA ad z H → va_S A s.heap H locs → decode cc pc = .ok (.return_, 1) → W p l e R s m args below meth c H locs cells slots QM (F0 m pc lsA []))
    (hmin : 1 ≤ R.frames ∧ 21 ≤ R.locals)
    (hXX : ∀ pc ls st z, X pc ls st z → XwP p l e R s m args below meth c cells slots QM D cA ad A nL pc ls st z) (hcs : cells ≤ R.cells ∧ slots ≤ R.slots) :
    ∀ (pc op a b d : Nat) (c0 : Int32) (cs : List (Nat × Nat)) (es : List Ent) (ls st : List MV) (z : St), entOk o nL cc (pc, (op, a, b, d), c0, cs) = true →
    (∀ ls st z, k es ls st z → XwP p l e R s m args below meth c cells slots QM D cA ad A nL (nextPc (pc, (op, a, b, d), c0, cs)) ls st z) →
    (∀ t ls st z, j t ls st z → XwP p l e R s m args below meth c cells slots QM D cA ad A nL t ls st z) →
    stepW call L xs ret Q X k j ((pc, (op, a, b, d), c0, cs) :: es) ls st z → XwP p l e R s m args below meth c cells slots QM D cA ad A nL pc ls st z := by
  intro pc op a b d c0 cs es ls st z hok hk hj h hls hst H locs lsA hH hS hloc
  obtain ⟨hx, hb, hmlc, hown, hlkk, hT, hK, hA, hX⟩ := id F
  have hsz : lsA.size = nL := hloc.1.1
  obtain ⟨hdec, hmore⟩ : (op = 0 ∨ decode cc pc = .ok (instrOf (pc, (op, a, b, d), c0, cs))) ∧ moreOk o nL (pc, (op, a, b, d), c0, cs) = true := by
    unfold entOk at hok
    rw [Bool.and_eq_true, Bool.or_eq_true, decide_eq_true_eq, decide_eq_true_eq] at hok
    exact hok
  match op, hdec, hmore, hk, h with
  | 0, _, _, _, h => exact hXX _ _ _ _ h (by rw [takeL_eq]; exact fun v hv => hls v (List.mem_of_mem_take hv)) hst H locs lsA hH hS (loc_take hloc a)
  | 1, hdec, hmore, hk, h =>
    have hd := hdec.resolve_left (by decide)
    exact s_const F hmore hd (hk _ _ _ h hls (okV_cons trivial hst) H locs lsA hH hS hloc)
  | 2, hdec, hmore, hk, h =>
    have hd := hdec.resolve_left (by decide)
    cases hv : getL ls a with
    | none =>
      have h : (match getL ls a with | some (.inl x) => boolW (Nat.ble b 1) (k es ls (.inl x :: st) z) | some (.inr r) => boolW (Nat.ble 2 b) (k es ls (.inr r :: st) z) | none => False) := h
      rw [hv] at h
      exact h.elim
    | some v =>
      have hg := loc_get hloc hv
      cases v with
      | inl x =>
        have h : (match getL ls a with | some (.inl x) => boolW (Nat.ble b 1) (k es ls (.inl x :: st) z) | some (.inr r) => boolW (Nat.ble 2 b) (k es ls (.inr r :: st) z) | none => False) := h
        rw [hv] at h
        obtain ⟨hb1, h⟩ := boolW_t h
        have hb1 := Nat.le_of_ble_eq_true hb1
        exact s_loadI F hmore hb1 hd hg (hk _ _ _ h hls (okV_cons (v := .inl x) trivial hst) H locs lsA hH hS hloc)
      | inr r =>
        have h : (match getL ls a with | some (.inl x) => boolW (Nat.ble b 1) (k es ls (.inl x :: st) z) | some (.inr r) => boolW (Nat.ble 2 b) (k es ls (.inr r :: st) z) | none => False) := h
        rw [hv] at h
        obtain ⟨hb1, h⟩ := boolW_t h
        have hb1 := Nat.le_of_ble_eq_true hb1
        exact s_loadR F hmore hb1 hd hg (hk _ _ _ h hls (okV_cons (okV_getL hls hv) hst) H locs lsA hH hS hloc)
  | 3, hdec, hmore, hk, h =>
    have hd := hdec.resolve_left (by decide)
    have hmore : (decide (a < nL) && idxOk b a) = true := hmore
    rw [Bool.and_eq_true] at hmore
    have ha : a < nL := of_decide_eq_true hmore.1
    have hmore := hmore.2
    cases st with
    | nil => exact (h : False).elim
    | cons v st => cases v with
      | inl x =>
        obtain ⟨hb1, h⟩ := boolW_t h
        rw [Bool.and_eq_true] at hb1
        have hlen := Nat.le_of_ble_eq_true hb1.2
        have hb1 := Nat.le_of_ble_eq_true hb1.1
        exact s_storeI F ha hlen hloc hmore hb1 hd (fun lsB hB => hk _ _ _ h (setL_ok (v := .inl x) hls trivial a) (okV_tail hst) H locs lsB hH hS hB)
      | inr r =>
        obtain ⟨hb1, h⟩ := boolW_t h
        rw [Bool.and_eq_true] at hb1
        have hlen := Nat.le_of_ble_eq_true hb1.2
        have hb1 := Nat.le_of_ble_eq_true hb1.1
        exact s_storeR F ha hlen hloc hmore hb1 hd (fun lsB hB => hk _ _ _ h (setL_ok hls (okV_head hst) a) (okV_tail hst) H locs lsB hH hS hB)
  | 4, hdec, hmore, hk, h =>
    have hd := hdec.resolve_left (by decide)
    cases st with
    | nil => exact (h : False).elim
    | cons v1 st => cases v1 with
      | inr r => exact (h : False).elim
      | inl y => cases st with
        | nil => exact (h : False).elim
        | cons v2 st => cases v2 with
          | inr r => exact (h : False).elim
          | inl x =>
            have h : binW a x y (fun v => k es ls (.inl v :: st) z) := h
            refine s_bin (k := fun v => k es ls (.inl v :: st) z) F hd h (fun v hv => ?_)
            exact hk _ _ _ hv hls (okV_cons trivial (okV_tail (okV_tail hst))) H locs lsA hH hS hloc
  | 5, hdec, hmore, hk, h =>
    have hd := hdec.resolve_left (by decide)
    have ha : a < nL := of_decide_eq_true hmore
    have h : (match getL ls a with | some (.inl x) => k es (setL ls a (.inl (x + c0))) st z | _ => False) := h
    cases hv : getL ls a with
    | none => rw [hv] at h; exact h.elim
    | some v => cases v with
      | inr r => rw [hv] at h; exact h.elim
      | inl x =>
        rw [hv] at h
        have hlen : a < ls.length := by
          rw [getL_eq] at hv
          exact (List.getElem?_eq_some_iff.mp hv).1
        have hmem : (a, Value.int x) ∈ enumL 0 (ls.map (trv ad)) := mem_enumL.mpr ⟨Nat.zero_le _, by rw [getL_eq] at hv; simp [hv, trv]⟩
        obtain ⟨kx, hkx⟩ := List.getElem?_of_mem hmem
        refine lv_iinc hx hb hd hloc.1 hkx (by rw [Int32_ofInt_toInt]) ha rfl (fun lsB hB => ?_)
        exact hk _ _ _ h (setL_ok (v := .inl (x + c0)) hls trivial a) hst H locs lsB hH hS (loc_set hloc ha (by omega) (.inl (x + c0)) rfl hB)
  | 6, hdec, hmore, hk, h =>
    have hd := hdec.resolve_left (by decide)
    cases st with
    | nil => exact (h : False).elim
    | cons v1 st => cases v1 with
      | inr r => exact (h : False).elim
      | inl x => exact s_if F (of_decide_eq_true hmore) hd (fun q => hk _ _ _ (h.1 q) hls (okV_tail hst) H locs lsA hH hS hloc) (fun q => hj _ _ _ _ (h.2 q) hls (okV_tail hst) H locs lsA hH hS hloc)
  | 7, hdec, hmore, hk, h =>
    have hd := hdec.resolve_left (by decide)
    cases st with
    | nil => exact (h : False).elim
    | cons v1 st => cases v1 with
      | inr r => exact (h : False).elim
      | inl y => cases st with
        | nil => exact (h : False).elim
        | cons v2 st => cases v2 with
          | inr r => exact (h : False).elim
          | inl x => exact s_icmp F (of_decide_eq_true hmore) hd (fun q => hk _ _ _ (h.1 q) hls (okV_tail (okV_tail hst)) H locs lsA hH hS hloc) (fun q => hj _ _ _ _ (h.2 q) hls (okV_tail (okV_tail hst)) H locs lsA hH hS hloc)
  | 8, hdec, hmore, hk, h =>
    have hd := hdec.resolve_left (by decide)
    exact lv_goto hx hb hd int_tgt (hj _ _ _ _ h hls hst H locs lsA hH hS hloc)
  | 9, hdec, hmore, hk, h =>
    have hd := hdec.resolve_left (by decide)
    have hfl : (o, a, b, d) ∈ flT := of_decide_eq_true hmore
    have hb11 := (flT_lt _ hfl).1
    cases st with
    | nil => exact (h : False).elim
    | cons v1 st => cases v1 with
      | inl r => exact (h : False).elim
      | inr r =>
        obtain ⟨q, i⟩ := r
        have h' := boolW_t h; clear h; obtain ⟨hq, hz⟩ := h'
        have hq := Nat.eq_of_beq_eq_true hq
        subst hq
        have hi : i < cntK q := okR_obj (okV_head hst) (Nat.lt_trans hb11 (by decide))
        exact s_get F hfl hi hH hd (hk _ _ _ hz hls (okV_cons (okV_fv hi) (okV_tail hst)) H locs lsA hH hS hloc)
  | 10, hdec, hmore, hk, h =>
    have hd := hdec.resolve_left (by decide)
    have hfl : (o, a, b, d) ∈ flT := of_decide_eq_true hmore
    have hb11 := (flT_lt _ hfl).1
    cases st with
    | nil => exact (h : False).elim
    | cons v1 st => cases v1 with
      | inr r => exact (h : False).elim
      | inl x => cases st with
        | nil => exact (h : False).elim
        | cons v2 st => cases v2 with
          | inl r => exact (h : False).elim
          | inr r =>
            obtain ⟨q, i⟩ := r
            have h' := boolW_t h; clear h; obtain ⟨hq, hz⟩ := h'
            have hq := Nat.eq_of_beq_eq_true hq
            subst hq
            have hi : i < cntK q := okR_obj (okV_head (okV_tail hst)) (Nat.lt_trans hb11 (by decide))
            have h : (match lk q d i with | none => (match Nat.beq q 2 && Nat.beq d 5 with | true => (x = 0 ∨ x = 1) ∧ k es ls st (putV z q i d x) | false => k es ls st (putV z q i d x)) | some _ => False) := hz
            cases hl : lk q d i with
            | some r => rw [hl] at h; exact h.elim
            | none =>
              rw [hl] at h
              have h : (match Nat.beq q 2 && Nat.beq d 5 with | true => (x = 0 ∨ x = 1) ∧ k es ls st (putV z q i d x) | false => k es ls st (putV z q i d x)) := h
              cases hbb : Nat.beq q 2 && Nat.beq d 5 with
              | true =>
                rw [hbb] at h
                exact s_put F hfl hi hl (fun _ => h.1) hH hS hd (fun H1 locs1 hH1 hS1 => hk _ _ _ h.2 hls (okV_tail (okV_tail hst)) H1 locs1 lsA hH1 hS1 hloc)
              | false =>
                rw [hbb] at h
                exact s_put F hfl hi hl (fun hc => by rw [hc.1, hc.2] at hbb; cases hbb) hH hS hd (fun H1 locs1 hH1 hS1 => hk _ _ _ h hls (okV_tail (okV_tail hst)) H1 locs1 lsA hH1 hS1 hloc)
  | 11, hdec, hmore, hk, h =>
    have hd := hdec.resolve_left (by decide)
    cases st with
    | nil => exact (h : False).elim
    | cons v1 st => cases v1 with
      | inr r => exact (h : False).elim
      | inl i => cases st with
        | nil => exact (h : False).elim
        | cons v2 st => cases v2 with
          | inl r => exact (h : False).elim
          | inr r =>
            obtain ⟨q, n⟩ := r
            have hst2 := okV_tail (okV_tail hst)
            have hqn := okV_head (okV_tail hst)
            have h : (match Nat.beq q 24 with
              | true => boolW (Nat.beq a 0) (inA i L ∧ k es ls (.inl (xs i.toNatClampNeg) :: st) z)
              | false => (match akind q with
                | 0 => boolW (Nat.beq a 0) (inA i (alen q) ∧ k es ls (.inl (z.1 q n i.toNatClampNeg) :: st) z)
                | 1 => boolW (Nat.beq a 1) (inA i (alen q) ∧ k es ls (.inl (z.1 q n i.toNatClampNeg) :: st) z)
                | 2 => boolW (Nat.beq a 1) (inA i (alen q) ∧ k es ls (.inl (z.1 q n i.toNatClampNeg) :: st) z)
                | 3 => boolW (Nat.beq a 2) (inA i (alen q) ∧ k es ls (.inr (el z.2 q n i.toNatClampNeg) :: st) z)
                | _ => False)) := h
            cases hq : Nat.beq q 24 with
            | true =>
              rw [hq] at h
              have h' := boolW_t h; clear h; obtain ⟨ha, hin, hz⟩ := h'
              have ha := Nat.eq_of_beq_eq_true ha
              have hq := Nat.eq_of_beq_eq_true hq
              subst ha; subst hq
              have hn : n = 0 := by
                rcases hqn with h9 | h9
                · exact absurd h9 (Nat.not_lt_zero n)
                · exact congrArg Prod.snd h9
              subst hn
              exact s_sld F hin hS hd (hk _ _ _ hz hls (okV_cons (v := .inl _) trivial hst2) H locs lsA hH hS hloc)
            | false =>
              rw [hq] at h
              have hq24 : q ≠ 24 := fun e => by rw [e] at hq; cases hq
              have hcnt : n < cntK q := by
                rcases hqn with h9 | h9
                · exact h9
                · exact absurd (congrArg Prod.fst h9) hq24
              have h : (match akind q with
                | 0 => boolW (Nat.beq a 0) (inA i (alen q) ∧ k es ls (.inl (z.1 q n i.toNatClampNeg) :: st) z)
                | 1 => boolW (Nat.beq a 1) (inA i (alen q) ∧ k es ls (.inl (z.1 q n i.toNatClampNeg) :: st) z)
                | 2 => boolW (Nat.beq a 1) (inA i (alen q) ∧ k es ls (.inl (z.1 q n i.toNatClampNeg) :: st) z)
                | 3 => boolW (Nat.beq a 2) (inA i (alen q) ∧ k es ls (.inr (el z.2 q n i.toNatClampNeg) :: st) z)
                | _ => False) := h
              match hak : akind q, h with
              | 0, h =>
                have h' := boolW_t h; clear h; obtain ⟨ha, hin, hz⟩ := h'
                have ha := Nat.eq_of_beq_eq_true ha
                subst ha
                exact s_ild F hcnt hak hin hH hd (hk _ _ _ hz hls (okV_cons (v := .inl _) trivial hst2) H locs lsA hH hS hloc)
              | 1, h =>
                have h' := boolW_t h; clear h; obtain ⟨ha, hin, hz⟩ := h'
                have ha := Nat.eq_of_beq_eq_true ha
                subst ha
                exact s_zld F hcnt hak hin hH hd (hk _ _ _ hz hls (okV_cons (v := .inl _) trivial hst2) H locs lsA hH hS hloc)
              | 2, h =>
                have h' := boolW_t h; clear h; obtain ⟨ha, hin, hz⟩ := h'
                have ha := Nat.eq_of_beq_eq_true ha
                subst ha
                exact s_bld F hcnt hak hin hH hd (hk _ _ _ hz hls (okV_cons (v := .inl _) trivial hst2) H locs lsA hH hS hloc)
              | 3, h =>
                have h' := boolW_t h; clear h; obtain ⟨ha, hin, hz⟩ := h'
                have ha := Nat.eq_of_beq_eq_true ha
                subst ha
                exact s_qld F hcnt hak hin hH hd (hk _ _ _ hz hls (okV_cons (okR_el hH.2 hcnt hak (inA_lt hin)) hst2) H locs lsA hH hS hloc)
              | w + 4, h => exact (h : False).elim
  | 12, hdec, hmore, hk, h =>
    have hd := hdec.resolve_left (by decide)
    cases st with
    | nil => exact (h : False).elim
    | cons v0 st => cases st with
      | nil => cases v0 <;> exact (h : False).elim
      | cons v1 st => cases v1 with
        | inr r => cases v0 <;> exact (h : False).elim
        | inl i => cases st with
          | nil => cases v0 <;> exact (h : False).elim
          | cons v2 st => cases v2 with
            | inl r => cases v0 <;> exact (h : False).elim
            | inr r =>
              obtain ⟨q, n⟩ := r
              have hst2 := okV_tail (okV_tail (okV_tail hst))
              have hqn := okV_head (okV_tail (okV_tail hst))
              have hqn2 : q ≠ 24 → n < cntK q := fun hq24 => by
                rcases hqn with h9 | h9
                · exact h9
                · exact absurd (congrArg Prod.fst h9) hq24
              cases v0 with
              | inr w =>
                obtain ⟨w, y⟩ := w
                have h' := boolW_t h; clear h; obtain ⟨hb1, hin, hz⟩ := h'
                rw [Bool.and_eq_true, Bool.and_eq_true] at hb1
                have e1 := Nat.eq_of_beq_eq_true hb1.1
                have e2 := Nat.eq_of_beq_eq_true hb1.2.1
                have e3 := Nat.eq_of_beq_eq_true hb1.2.2
                subst e1; subst e2; subst e3
                have hy : y < 200 := okR_obj (okV_head hst) (by decide)
                exact s_qst F (hqn2 (by decide)) hy hin hH hS hd (fun H1 locs1 hH1 hS1 => hk _ _ _ hz hls hst2 H1 locs1 lsA hH1 hS1 hloc)
              | inl x =>
                have h : (match akind q with
                  | 0 => boolW (Nat.beq a 0) (inA i (alen q) ∧ k es ls st (putV z q n i.toNatClampNeg x))
                  | 1 => boolW (Nat.beq a 1) (inA i (alen q) ∧ (x = 0 ∨ x = 1) ∧ k es ls st (putV z q n i.toNatClampNeg x))
                  | 2 => boolW (Nat.beq a 1) (inA i (alen q) ∧ x.toInt8.toInt32 = x ∧ k es ls st (putV z q n i.toNatClampNeg x))
                  | _ => False) := h
                match hak : akind q, h with
                | 0, h =>
                  have h' := boolW_t h; clear h; obtain ⟨ha, hin, hz⟩ := h'
                  have ha := Nat.eq_of_beq_eq_true ha
                  subst ha
                  exact s_ist F (hqn2 (fun e => by rw [e] at hak; cases hak)) hak hin hH hS hd (fun H1 locs1 hH1 hS1 => hk _ _ _ hz hls hst2 H1 locs1 lsA hH1 hS1 hloc)
                | 1, h =>
                  have h' := boolW_t h; clear h; obtain ⟨ha, hin, hv, hz⟩ := h'
                  have ha := Nat.eq_of_beq_eq_true ha
                  subst ha
                  exact s_zst F (hqn2 (fun e => by rw [e] at hak; cases hak)) hak hin hv hH hS hd (fun H1 locs1 hH1 hS1 => hk _ _ _ hz hls hst2 H1 locs1 lsA hH1 hS1 hloc)
                | 2, h =>
                  have h' := boolW_t h; clear h; obtain ⟨ha, hin, hv, hz⟩ := h'
                  have ha := Nat.eq_of_beq_eq_true ha
                  subst ha
                  exact s_bst F (hqn2 (fun e => by rw [e] at hak; cases hak)) hak hin hv hH hS hd (fun H1 locs1 hH1 hS1 => hk _ _ _ hz hls hst2 H1 locs1 lsA hH1 hS1 hloc)
                | w + 3, h => exact (h : False).elim
  | 13, hdec, hmore, hk, h =>
    have hd := hdec.resolve_left (by decide)
    have hmore : (decide ((o, a, b, (if d = 2 then 1 else 0)) ∈ mlT) && (decide (cs = [((mRow b).2.2.2.2.2.1, (mRow b).2.2.2.2.1)]) && (decide ((mRow b).2.2.2.2.2.2 = decide (¬ d = 0)) && decide (b ∉ initL)))) = true := hmore
    rw [Bool.and_eq_true, Bool.and_eq_true, Bool.and_eq_true] at hmore
    have hml := of_decide_eq_true hmore.1
    have hcs1 := of_decide_eq_true hmore.2.1
    have hsta := of_decide_eq_true hmore.2.2.1
    have hni := of_decide_eq_true hmore.2.2.2
    have hd' : decode cc pc = .ok (if d = 0 then Instr.invokevirtual a else Instr.invokestatic a, 3) := by
      match d, hd with
      | 0, hd => exact hd
      | n + 1, hd => exact hd
    have hnx : nextPc (pc, (13, a, b, d), c0, cs) = pc + 3 := by
      match d with
      | 0 => rfl
      | n + 1 => rfl
    obtain ⟨as, st', e2, e3, hlen, hc, hrv⟩ := inv_split (call := call) (b := b) (d := d) (st := st) (z := z) (kk := fun st s => k es ls st s) h hcs1
    have hokt : ∀ v ∈ as, okV v := fun v hv => hst v (by rw [e2]; exact List.mem_append_left _ (List.mem_reverse.mpr hv))
    have hoks : ∀ v ∈ st', okV v := fun v hv => hst v (by rw [e2]; exact List.mem_append_right _ hv)
    obtain ⟨f, hf1, hf2, hM⟩ := hcall b as z _ hc hokt e3 (mlT_lt _ hml)
    rw [e2]
    refine s_call F hml hni hsta e3 (fun e => ?_) hM hf1 hf2 hcs hlen hH hS hsz hd' (fun r z' H1 locs1 hq hH1 hS1 => ?_)
    · obtain ⟨i, as', e4⟩ := hrv e
      have h11 := virt_lt 0 hml (by rw [hsta, e])
      refine ⟨i, as', e4, h11, ?_⟩
      rw [e4] at hokt
      exact okR_obj (okV_head hokt) (Nat.lt_trans h11 (by decide))
    · rw [← hnx]
      cases r with
      | none => exact hk _ _ _ hq hls hoks H1 locs1 lsA hH1 hS1 hloc
      | some x => exact hk _ _ _ hq hls (okV_cons (v := .inl x) trivial hoks) H1 locs1 lsA hH1 hS1 hloc
  | 14, hdec, hmore, hk, h =>
    have hd := hdec.resolve_left (by decide)
    match a, hd, h with
    | 0, hd, h =>
      cases st with
      | nil => exact (h : False).elim
      | cons v st => cases v with
        | inr r => cases st <;> exact (h : False).elim
        | inl x => cases st with
          | cons v2 st => exact (h : False).elim
          | nil => exact hR0 _ _ _ _ _ _ h hH hS hd
    | n + 1, hd, h =>
      cases st with
      | cons v2 st => exact (h : False).elim
      | nil =>
        obtain ⟨hr, h⟩ := boolW_t h
        exact hR1 _ _ _ _ _ (Nat.eq_of_beq_eq_true hr) h hH hS hd
  | 15, hdec, hmore, hk, h =>
    have hd := hdec.resolve_left (by decide)
    cases st with
    | nil => exact (h : False).elim
    | cons v st => exact lv_dup hx hb hd (trv_cat ad v) (hk _ _ _ h hls (okV_cons (okV_head hst) hst) H locs lsA hH hS hloc)
  | 16, hdec, hmore, hk, h =>
    have hd := hdec.resolve_left (by decide)
    cases st with
    | nil => exact (h : False).elim
    | cons v st => cases st with
      | nil => exact (h : False).elim
      | cons w st => exact lv_dup2_11 hx hb hd (trv_cat ad v) (trv_cat ad w) (hk _ _ _ h hls (okV_cons (okV_head hst) (okV_cons (okV_head (okV_tail hst)) hst)) H locs lsA hH hS hloc)
  | 17, hdec, hmore, hk, h =>
    have hd := hdec.resolve_left (by decide)
    cases st with
    | nil => exact (h : False).elim
    | cons v st => cases v with
      | inr r => exact (h : False).elim
      | inl x => exact lv_i2b hx hb hd rfl (hk _ _ _ h hls (okV_cons trivial (okV_tail hst)) H locs lsA hH hS hloc)
  | 18, hdec, hmore, hk, h =>
    have hd := hdec.resolve_left (by decide)
    cases st with
    | nil => exact (h : False).elim
    | cons v st => cases v with
      | inr r => exact (h : False).elim
      | inl x => exact s_switch (k := fun t => j t ls st z) F hmore hd h (fun t ht => hj _ _ _ _ ht hls (okV_tail hst) H locs lsA hH hS hloc)
  | 19, hdec, hmore, hk, h =>
    have hd := hdec.resolve_left (by decide)
    cases st with
    | nil => exact (h : False).elim
    | cons v st => cases v with
      | inl r => exact (h : False).elim
      | inr r =>
        obtain ⟨q, n⟩ := r
        have h' := boolW_t h; clear h; obtain ⟨hq, hz⟩ := h'
        have hq := Nat.eq_of_beq_eq_true hq
        subst hq
        have hn : n = 0 := by
          rcases okV_head hst with h9 | h9
          · exact absurd h9 (Nat.not_lt_zero n)
          · exact congrArg Prod.snd h9
        subst hn
        exact s_slen F hS hd (hk _ _ _ hz hls (okV_cons trivial (okV_tail hst)) H locs lsA hH hS hloc)
  | 20, hdec, hmore, hk, h =>
    have hd := hdec.resolve_left (by decide)
    have ho : (o, a) = (7, 22) := of_decide_eq_true hmore
    have ho1 : o = 7 := congrArg Prod.fst ho
    have ho2 : a = 22 := congrArg Prod.snd ho
    subst ho1; subst ho2
    cases st with
    | nil => exact (h : False).elim
    | cons v1 st => cases v1 with
      | inr r => exact (h : False).elim
      | inl y => cases st with
        | nil => exact (h : False).elim
        | cons v2 st => cases v2 with
          | inr r => exact (h : False).elim
          | inl x =>
            obtain ⟨hlen, h⟩ := boolW_t h
            have hlen := Nat.le_of_ble_eq_true hlen
            exact va_mmin hx hb (by rw [hmlc, hsz]) hown (hT.use mmin_ok.1) (hT.use mmin_ok.2.1) (hT.use mmin_ok.2.2.1) (hT.use mmin_ok.2.2.2) hmin.1 (by rw [cat_sum]; have := hmin.2; omega) hcs.1 hcs.2 hd (hk _ _ _ h hls (okV_cons trivial (okV_tail (okV_tail hst))) H locs lsA hH hS hloc)
  | n + 21, _, _, _, h => exact (h : False).elim
end SM
end
section
/-! stretches, bodies, methods -/
theorem fromPc_spec : ∀ (code : List Ent) (t : Nat), (∃ pre, code = pre ++ fromPc code t) ∧ ∀ e ∈ (fromPc code t).head?, e.1 = t
  | [], t => ⟨⟨[], rfl⟩, fun e h => by cases h⟩
  | e :: es, t => by
    show (∃ pre, e :: es = pre ++ (match Nat.beq e.1 t with | true => e :: es | false => fromPc es t)) ∧ ∀ e' ∈ (match Nat.beq e.1 t with | true => e :: es | false => fromPc es t).head?, e'.1 = t
    cases h : Nat.beq e.1 t with
    | true =>
      refine ⟨⟨[], rfl⟩, fun e' he => ?_⟩
      have : e' = e := by
        simp only [List.head?_cons, Option.mem_def, Option.some.injEq] at he
        exact he.symm
      rw [this]
      exact Nat.eq_of_beq_eq_true h
    | false =>
      obtain ⟨⟨pre, h1⟩, h2⟩ := fromPc_spec es t
      refine ⟨⟨e :: pre, ?_⟩, h2⟩
      rw [List.cons_append]
      exact congrArg (e :: ·) h1
theorem chain_suf : ∀ {pre : List Ent} {e f : Ent} {es : List Ent}, chainOk (pre ++ e :: f :: es) = true → f.1 = nextPc e
  | [], e, f, es, h => by
    have h : ((f.1 == nextPc e) && chainOk (f :: es)) = true := h
    rw [Bool.and_eq_true] at h
    exact of_decide_eq_true (by simpa using h.1)
  | [g], e, f, es, h => by
    have h : ((e.1 == nextPc g) && chainOk (e :: f :: es)) = true := h
    rw [Bool.and_eq_true] at h
    exact chain_suf (pre := []) h.2
  | g :: g2 :: pre, e, f, es, h => by
    have h : ((g2.1 == nextPc g) && chainOk (g2 :: (pre ++ e :: f :: es))) = true := h
    rw [Bool.and_eq_true] at h
    exact chain_suf (pre := g2 :: pre) h.2
theorem behind_spec {code es : List Ent} {t : Nat} (hc : chainOk code = true) (hs : ∃ pre, code = pre ++ es) (hh : ∀ e ∈ es.head?, e.1 = t) : (∃ pre, code = pre ++ behind es) ∧ ∀ e ∈ (behind es).head?, e.1 = t := by
  match es, hs, hh with
  | [], hs, hh => exact ⟨hs, hh⟩
  | (pc, (0, a), c) :: es, ⟨pre, hp⟩, hh =>
    refine ⟨⟨pre ++ [(pc, (0, a), c)], by rw [hp]; simp [behind]⟩, fun e he => ?_⟩
    have hpc : pc = t := hh _ rfl
    match es, he, hp with
    | f :: es, he, hp =>
      have : e = f := by
        simp only [behind, List.head?_cons, Option.mem_def, Option.some.injEq] at he
        exact he.symm
      rw [this]
      rw [hp] at hc
      have := chain_suf hc
      rw [this, ← hpc]
      rfl
  | (pc, (n + 1, a), c) :: es, hs, hh => exact ⟨hs, hh⟩
theorem lv_args_enum : ∀ (vs : List Value) (k : Nat), (∀ v ∈ vs, v.category = 1) → lv_args k vs = enumL k vs
  | [], k, _ => rfl
  | v :: vs, k, h => by
    have h1 : v.category = 1 := h v List.mem_cons_self
    show (k, v) :: lv_args (if v.category = 2 then k + 2 else k + 1) vs = (k, v) :: enumL (k + 1) vs
    rw [if_neg (by rw [h1]; decide), lv_args_enum vs (k + 1) (fun w hw => h w (List.mem_cons_of_mem _ hw))]
theorem lg_sl_len : ∀ (vs : List Value), (∀ v ∈ vs, v.category = 1) → (lg_sl vs).length = vs.length
  | [], _ => rfl
  | v :: vs, h => by
    have h1 : v.category = 1 := h v List.mem_cons_self
    have ih := lg_sl_len vs (fun w hw => h w (List.mem_cons_of_mem _ hw))
    unfold lg_sl at ih ⊢
    rw [List.flatMap_cons, List.length_append, ih, if_neg (by rw [h1]; decide)]
    simp only [List.length_cons, List.length_nil]
    omega
theorem trv_cats (ad : Nat × Nat → Nat) (as : List MV) : ∀ v ∈ as.map (trv ad), v.category = 1 := fun v hv => by
  obtain ⟨w, -, rfl⟩ := List.mem_map.mp hv
  exact trv_cat ad w
section SN
variable {p : Program} {l : Launch} {e : Env} {R : Room} {s : State} {m : MethodId} {args : Array Value} {below : List Frame} {meth : Method} {c : Code} {cells slots : Nat} {QM : State → Prop}
variable {D : va_G} {cA : Nat → ClassId} {ad : Nat × Nat → Nat} {A : Nat → Prop} {L : Nat} {xs : Nat → Int32} {cc : ByteArray} {o nL : Nat}
theorem wp_sound (F : FrOk p s m args meth c D cA ad A L xs cc o nL) {call : Nat → List MV → St → (Option MV → St → Prop) → Prop} {ret : Nat} {Q : Option MV → St → Prop} {X : Nat → List MV → List MV → St → Prop}
    (hcall : ∀ b as z Q', call b as z Q' → (∀ v ∈ as, okV v) → as.length = (mRow b).2.2.2.2.2.1 → b < 215 → ∃ f, f + 1 ≤ R.frames ∧ 38 * f + 38 ≤ R.locals ∧ MetC l D cA ad A L xs f b as z Q')
    (hR0 : ∀ v z H locs lsA pc, retW ret v (Q (some (.inl v)) z) → Hp D cA ad z H → va_S A s.heap H locs → decode cc pc = .ok (.ireturn, 1) → W p l e R s m args below meth c H locs cells slots QM (F0 m pc lsA [.int v]))
    (hR1 : ∀ z H locs lsA pc, ret = 2 → Q none z → Hp D cA ad z H → va_S A s.heap H locs → decode cc pc = .ok (.return_, 1) → W p l e R s m args below meth c H locs cells slots QM (F0 m pc lsA []))
    (hmin : 1 ≤ R.frames ∧ 21 ≤ R.locals)
    (hXX : ∀ pc ls st z, X pc ls st z → XwP p l e R s m args below meth c cells slots QM D cA ad A nL pc ls st z) (hcs : cells ≤ R.cells ∧ slots ≤ R.slots)
    {code : List Ent} (hall : code.all (entOk o nL cc) = true) (hch : chainOk code = true) :
    ∀ (n : Nat) (es : List Ent), (∃ pre, code = pre ++ es) → ∀ (ls st : List MV) (z : St), wp call L xs ret Q X code n es ls st z → ∀ pc, (∀ e ∈ es.head?, e.1 = pc) → XwP p l e R s m args below meth c cells slots QM D cA ad A nL pc ls st z := by
  intro n
  induction n with
  | zero => intro es _ ls st z h; exact (h : False).elim
  | succ n ih =>
    intro es hs ls st z h pc hpc
    have h : stepW call L xs ret Q X (wp call L xs ret Q X code n) (fun t ls st s => wp call L xs ret Q X code n (fromPc code t) ls st s) es ls st z := h
    match es, hs, hpc, h with
    | [], _, _, h => exact (h : False).elim
    | (pc0, (op, a, b, d), c0, cs) :: es, ⟨pre, hp⟩, hpc, h =>
      have e1 : pc0 = pc := hpc _ rfl
      subst e1
      refine step_sound F hcall hR0 hR1 hmin hXX hcs pc0 op a b d c0 cs es ls st z ?_ (fun ls st z hk => ?_) (fun t ls st z hj => ?_) h
      · exact List.all_eq_true.mp hall _ (by rw [hp]; exact List.mem_append_right _ List.mem_cons_self)
      · refine ih es ⟨pre ++ [(pc0, (op, a, b, d), c0, cs)], by rw [hp]; simp⟩ ls st z hk _ (fun f hf => ?_)
        match es, hf, hp with
        | f' :: es, hf, hp =>
          have : f = f' := by
            simp only [List.head?_cons, Option.mem_def, Option.some.injEq] at hf
            exact hf.symm
          rw [this]
          rw [hp] at hch
          exact chain_suf hch
      · obtain ⟨h1, h2⟩ := fromPc_spec code t
        exact ih _ h1 ls st z hj t h2
theorem body_sound (F : FrOk p s m args meth c D cA ad A L xs cc o nL) {call : Nat → List MV → St → (Option MV → St → Prop) → Prop} {ret : Nat} {Q : Option MV → St → Prop}
    (hcall : ∀ b as z Q', call b as z Q' → (∀ v ∈ as, okV v) → as.length = (mRow b).2.2.2.2.2.1 → b < 215 → ∃ f, f + 1 ≤ R.frames ∧ 38 * f + 38 ≤ R.locals ∧ MetC l D cA ad A L xs f b as z Q')
    (hR0 : ∀ v z H locs lsA pc, retW ret v (Q (some (.inl v)) z) → Hp D cA ad z H → va_S A s.heap H locs → decode cc pc = .ok (.ireturn, 1) → W p l e R s m args below meth c H locs cells slots QM (F0 m pc lsA [.int v]))
    (hR1 : ∀ z H locs lsA pc, ret = 2 → Q none z → Hp D cA ad z H → va_S A s.heap H locs → decode cc pc = .ok (.return_, 1) → W p l e R s m args below meth c H locs cells slots QM (F0 m pc lsA []))
    (hmin : 1 ≤ R.frames ∧ 21 ≤ R.locals) (hcs : cells ≤ R.cells ∧ slots ≤ R.slots)
    {code : List Ent} (hall : code.all (entOk o nL cc) = true) (hch : chainOk code = true) {pc : Nat} {ls st : List MV} {z : St} (h : bodyW call L xs ret Q code pc ls st z) :
    XwP p l e R s m args below meth c cells slots QM D cA ad A nL pc ls st z := by
  refine h (XwP p l e R s m args below meth c cells slots QM D cA ad A nL) (fun n pc ls st z hw => ?_)
  obtain ⟨h1, h2⟩ := fromPc_spec code pc
  obtain ⟨h3, h4⟩ := behind_spec hch h1 h2
  exact wp_sound F hcall hR0 hR1 hmin (fun _ _ _ _ q => q) hcs hall hch n _ h3 ls st z hw pc h4
end SN
theorem nargs_le : ∀ r ∈ mTab, r.2.2.2.2.2.1 ≤ r.2.2.1 := by decide +kernel
theorem mRow_mem {m : Nat} (h : m < 215) : mRow m ∈ mTab := by
  have h : m < mTab.length := h
  unfold mRow
  rw [List.getD_eq_getElem?_getD, List.getElem?_eq_getElem h]
  exact List.getElem_mem h
/-- EVERY METHOD of the small machine is one of the machine -/
theorem wpM_sound {l : Launch} {D : va_G} {cA : Nat → ClassId} {ad : Nat × Nat → Nat} {A : Nat → Prop} {L : Nat} {xs : Nat → Int32} (hA : adOk ad A) (hbA : ¬ A (ad (24, 0))) :
    ∀ (f b : Nat) (as : List MV) (z : St) (Q : Option MV → St → Prop), wpM L xs codT retT f b as z Q → (∀ v ∈ as, okV v) → as.length = (mRow b).2.2.2.2.2.1 → b < 215 → MetC l D cA ad A L xs f b as z Q := by
  intro f
  induction f with
  | zero => intro b as z Q h; exact (h : False).elim
  | succ f ih =>
    intro b as z Q h hok hlen hb215
    obtain ⟨k1, k2, k3, k4, k5, k6⟩ := mh_all _ (mRow_mem hb215)
    obtain ⟨d1, d2, d3, -⟩ := md_all b hb215
    have hnl := nargs_le _ (mRow_mem hb215)
    refine va_MetF (cc := (mRow b).2.1) (maxL := (mRow b).2.2.1) (ret := (mRow b).2.2.2.1) k3 rfl ?_
    intro p e s m args below meth c s₁ B hml hv
    obtain ⟨rfl, hH, hK, hT, hX⟩ := hv
    have hx := B.exec
    have hbt := B.bytes
    have hr := B.returns
    have hlocks := B.notSynchronized
    have hown : s.vm.findClass (cnm (mRow b).2.2.2.2.1) = some m.cls := by rw [k4]; exact findClass_of_methodNamed B.named
    have hbl : ad (24, 0) < s.heap.size := by
      obtain ⟨scr, h1, -⟩ := hX
      exact (Array.getElem?_eq_some_iff.mp h1).1
    have F : FrOk p s m (as.map (trv ad)).toArray meth c D cA ad A L xs (mRow b).2.1 (mRow b).2.2.2.2.1 (mRow b).2.2.1 := ⟨hx, hbt, hml, hown, hlocks, hT, hK, hA, hX, hbl, hbA⟩
    have hcat := trv_cats ad as
    have hll : (lg_sl (as.map (trv ad))).length ≤ (mRow b).2.2.1 := by rw [lg_sl_len _ hcat, List.length_map]; omega
    have hl := lv_entry (as.map (trv ad)) (n := (mRow b).2.2.1) hll
    rw [lv_args_enum _ _ hcat] at hl
    rw [lg_entry_eq]
    have hbody := h (wpM L xs codT retT f) (fun _ _ _ _ q => q)
    refine body_sound (cells := 0) (slots := 0) (QM := MQ below (QcM D cA ad A L xs Q) (as.map (trv ad)).toArray s 0 0 A) F (fun b' as' z' Q' hc hok' hlen' hb' => ?_) (fun v z' H locs lsA pc hret hH' hS' hd => ?_) (fun z' H locs lsA pc hret hq hH' hS' hd => ?_) ⟨?_, ?_⟩ ⟨Nat.le_refl _, Nat.le_refl _⟩ d1 d2 hbody hok (fun v hv => by cases hv) s.heap [] _ hH va_S.rf ⟨hl, by omega⟩
    · refine ⟨f, Nat.le_refl _, ?_, ih b' as' z' Q' hc hok' hlen' hb'⟩
      show 38 * f + 38 ≤ 38 * (f + 1)
      omega
    · have hq : ∀ t : State, t.heap = H → s.WarmedH t.vm → Q (some (.inl v)) z' → QcM D cA ad A L xs Q (as.map (trv ad)).toArray s (.returned (some (.int v))) t := fun t ht hW hq => ⟨⟨some v, z', rfl, hq, rep_at F hH' hS' t ht hW⟩, hS'.F ht⟩
      rw [← d3] at hret
      match hrt : (mRow b).2.2.2.1, hret with
      | some .int, hret => exact W.iret hx hbt (hr.trans hrt) (fun t ht hW => hq t ht hW hret) hS'.2.2 hd
      | some .boolean, hret => exact W.zret hx hbt (hr.trans hrt) (by rcases hret.1 with q | q <;> rw [q] <;> rfl) (fun t ht hW => hq t ht hW hret.2) hS'.2.2 hd
      | none, hret => exact (hret : False).elim
      | some .byte, hret => exact (hret : False).elim
      | some .char, hret => exact (hret : False).elim
      | some .short, hret => exact (hret : False).elim
      | some .long, hret => exact (hret : False).elim
      | some .float, hret => exact (hret : False).elim
      | some .double, hret => exact (hret : False).elim
      | some (.object _), hret => exact (hret : False).elim
      | some (.array _), hret => exact (hret : False).elim
    · rw [← d3] at hret
      match hrt : (mRow b).2.2.2.1, hret with
      | none, _ => exact W.vret hx hbt (hr.trans hrt) (fun t ht hW => ⟨⟨none, z', rfl, hq, rep_at F hH' hS' t ht hW⟩, hS'.F ht⟩) hS'.2.2 hd
      | some t, hret => exact absurd hret (by cases t <;> (intro q; cases q))
    · show 1 ≤ f + 1
      omega
    · show 21 ≤ 38 * (f + 1)
      omega
end
section
/-! words for the methods -/
def bI (b : Prop) [Decidable b] : Int32 := if b then nI 1 else nI 0
theorem bI_1 {b : Prop} [Decidable b] {Q : Option MV → St → Prop} {s : St} (h : Q (some (.inl (bI b))) s) (hb : b) : Q (some (.inl (nI 1))) s := by
  have e : bI b = nI 1 := if_pos hb
  rwa [e] at h
theorem bI_0 {b : Prop} [Decidable b] {Q : Option MV → St → Prop} {s : St} (h : Q (some (.inl (bI b))) s) (hb : ¬ b) : Q (some (.inl (nI 0))) s := by
  have e : bI b = nI 0 := if_neg hb
  rwa [e] at h
theorem bI_eq0 {b : Prop} [Decidable b] : bI b = 0 ↔ ¬ b := by
  unfold bI
  split
  · exact ⟨fun h => absurd h (by decide), fun h => absurd ‹b› h⟩
  · exact ⟨fun _ => ‹¬ b›, fun _ => rfl⟩
theorem bI_01 (b : Prop) [Decidable b] : bI b = 0 ∨ bI b = 1 := by
  unfold bI
  split
  · exact Or.inr rfl
  · exact Or.inl rfl
theorem nI_toI {n : Nat} (h : n < 2147483648) : (nI n).toInt = (n : Int) := nI_toInt h

theorem nI_mul (a b : Nat) : nI a * nI b = nI (a * b) := (Int32.ofNat_mul a b).symm
theorem nI_inj {a b : Nat} (ha : a < 2147483648) (hb : b < 2147483648) : nI a = nI b ↔ a = b :=
  ⟨fun h => by have := congrArg Int32.toInt h; rw [nI_toI ha, nI_toI hb] at this; omega, fun h => by rw [h]⟩
theorem nI_cl {n : Nat} (h : n < 2147483648) : (nI n).toNatClampNeg = n := nI_clamp h
theorem nI_ex {x : Int32} (h : 0 ≤ x.toInt) : ∃ n : Nat, x = nI n ∧ (n : Int) = x.toInt ∧ n < 2147483648 := by
  have h2 : x.toInt < 2147483648 := x.toInt_lt
  refine ⟨x.toInt.toNat, ?_, by omega, by omega⟩
  apply Int32.toInt_inj.mp
  rw [nI_toI (by omega)]
  omega
theorem nI_subI {a b : Nat} (ha : a < 1073741824) (hb : b < 1073741824) : (nI a - nI b).toInt = (a : Int) - (b : Int) := by
  rw [Int32.toInt_sub, nI_toI (by omega), nI_toI (by omega)]
  apply Int.bmod_eq_of_le <;> omega
theorem nI_sub {a b : Nat} (ha : a < 1073741824) (hb : b ≤ a) : nI a - nI b = nI (a - b) := by
  apply Int32.toInt_inj.mp
  rw [nI_subI ha (by omega), nI_toI (by omega)]
  omega
theorem bI_ne0 {b : Prop} [Decidable b] : ¬ bI b = 0 ↔ b := by rw [bI_eq0]; exact Classical.not_not

theorem nI1_ne : ¬ nI 1 = 0 := by decide
theorem bI_same {a b : Prop} [Decidable a] [Decidable b] (e : a ↔ b) : bI a = bI b := by
  unfold bI
  by_cases h1 : a
  · rw [if_pos h1, if_pos (e.mp h1)]
  · rw [if_neg h1, if_neg (fun q => h1 (e.mpr q))]
theorem nI_m1 {a : Nat} (ha : a < 1073741824) (h : 1 ≤ a) : nI a + -1 = nI (a - 1) := by
  rw [← nI_sub ha h, Int32.sub_eq_add_neg]
  rfl
theorem nI_dec (a : Nat) : nI a + -1 = nI a - nI 1 := by
  rw [Int32.sub_eq_add_neg]
  rfl
end
section
/-! THE NUMBERS: what the reference's row of numbers says; every answer is told by it -/
abbrev Fm : Type := Nat → Int32
def nn (x : Int32) : Nat := x.toNatClampNeg
def cS (F : Fm) : Nat := nn (F 1)
def cT (F : Fm) : Nat := nn (F 2)
def cR (F : Fm) : Nat := nn (F 3)
def cM (F : Fm) (r : Nat) : Nat := nn (F (165 + 6 * r))
/-- where map p of router r stands -/
def mA (r p : Nat) : Nat := 189 + 16 * (5 * r + p)
abbrev holdF (F : Fm) (k : Nat) (a z : Int32) : Prop := (F (5 + 3 * k + 1)).toInt ≤ a.toInt ∧ (a + z).toInt ≤ (F (5 + 3 * k + 1) + F (5 + 3 * k + 2)).toInt
def homeN (F : Fm) (a z : Int32) : Nat → Nat
  | 0 => 0
  | n + 1 => if holdF F (n + 1) a z ∧ (F (5 + 3 * (n + 1) + 2)).toInt < (F (5 + 3 * homeN F a z n + 2)).toInt then n + 1 else homeN F a z n
def homeF (F : Fm) (a z : Int32) : Nat := homeN F a z (cS F - 1)
def wayN (F : Fm) : Nat → Nat → Nat
  | 0, _ => 0
  | n + 1, k => if k = 0 then 1 else wayN F n (nn (F (5 + 3 * k))) + 1
def wayF (F : Fm) (k : Nat) : Nat := wayN F 8 k
abbrev upF (F : Fm) (k : Nat) : Prop := (F 0).toInt < (F (29 + 17 * k + 4)).toInt ∧ (F (29 + 17 * k + 5) = nI 1 ∨ F (29 + 17 * k + 9) = nI 1 ∨ F (29 + 17 * k + 13) = nI 1)
abbrev hasF (F : Fm) (k : Nat) (name : Int32) : Prop := (F (29 + 17 * k)).toInt ≤ name.toInt ∧ name.toInt < (F (29 + 17 * k) + F (29 + 17 * k + 1)).toInt
def betB (F : Fm) (n : Nat) (o : Option Nat) : Bool := match o with
  | none => true
  | some b => decide ((F (29 + 17 * n + 1)).toInt < (F (29 + 17 * b + 1)).toInt)
def ansN (F : Fm) (name : Int32) : Nat → Option Nat
  | 0 => none
  | n + 1 => if (upF F n ∧ hasF F n name ∧ homeF F (F (29 + 17 * n)) (F (29 + 17 * n + 1)) = homeF F name (nI 1)) ∧ betB F n (ansN F name n) = true then some n else ansN F name n
def ansF (F : Fm) (name : Int32) : Option Nat := ansN F name (cT F)
def optI (o : Option Nat) (d : Int32) : Int32 := match o with
  | some n => nI n
  | none => d
/-- lowest priority and sum of weights after k slots that stand at b -/
def lsN (F : Fm) (b : Nat) : Nat → Int32 × Int32
  | 0 => (nI 10, nI 0)
  | k + 1 => if F (b + 4 * k) = nI 1 ∧ (F (b + 4 * k + 2)).toInt ≤ (lsN F b k).1.toInt then (F (b + 4 * k + 2), if (F (b + 4 * k + 2)).toInt < (lsN F b k).1.toInt then F (b + 4 * k + 3) else (lsN F b k).2 + F (b + 4 * k + 3)) else lsN F b k
def choN (F : Fm) (b : Nat) (lo : Int32) : Nat → Nat → Int32 → Int32
  | 0, _, _ => -5
  | n + 1, k, left => if F (b + 4 * k) = nI 1 ∧ F (b + 4 * k + 2) = lo then (if (left - F (b + 4 * k + 3)).toInt < 0 then F (b + 4 * k + 1) else choN F b lo n (k + 1) (left - F (b + 4 * k + 3))) else choN F b lo n (k + 1) left
def choF (F : Fm) (b : Nat) (flow : Int32) : Int32 := choN F b (lsN F b 3).1 3 0 (if (lsN F b 3).2 = 0 then nI 0 else flow - flow / (lsN F b 3).2 * (lsN F b 3).2)
abbrev isAtF (F : Fm) (k : Nat) (place : Int32) : Prop := ((F (29 + 17 * k + 5) = nI 1 ∧ F (29 + 17 * k + 6) = place) ∨ (F (29 + 17 * k + 9) = nI 1 ∧ F (29 + 17 * k + 10) = place) ∨ (F (29 + 17 * k + 13) = nI 1 ∧ F (29 + 17 * k + 14) = place)) ∧ upF F k
def dropsF (F : Fm) (r p : Nat) : Fm := fun i => if i = 165 + 6 * r then F i - nI 1 else if mA r p ≤ i ∧ i < mA r (cM F r - 1) then F (i + 16) else F i
def roomF (F : Fm) (r c : Nat) : Fm := fun i => if mA r 1 ≤ i ∧ i < mA r c + 16 then F (i - 16) else F i
def usesF (F : Fm) (r p : Nat) : Fm := fun i => if mA r 0 ≤ i ∧ i < mA r 1 then F (i + 16 * p) else if mA r 1 ≤ i ∧ i < mA r (p + 1) then F (i - 16) else F i
def fillF (F : Fm) (r k : Nat) : Fm := fun i => if i = 165 + 6 * r then F i + nI 1 else if i = mA r 0 then nI k else if i = mA r 0 + 1 then F (29 + 17 * k + 3) else if i = mA r 0 + 2 then F 0 + F 4 else if i = mA r 0 + 3 then nI 0 else if mA r 0 + 4 ≤ i ∧ i < mA r 0 + 16 then F (29 + 17 * k + 5 + (i - (mA r 0 + 4))) else F i
/-- maps of site k among the first n go -/
def purgeF (r k : Nat) : Nat → Fm → Fm
  | 0, F => F
  | n + 1, F => purgeF r k n (if F (mA r n) = nI k then dropsF F r n else F)
def askedF (F : Fm) (r : Nat) (name : Int32) : Fm := fun i => if i = 165 + 6 * r + 1 then F i + nI 1 else if i = 165 + 6 * r + 2 then F i + nI (wayF F (homeF F name (nI 1))) else F i
def newF (F : Fm) (r k : Nat) : Fm :=
  let G := purgeF r k (cM F r) F
  let H := if cM G r = 5 then dropsF G r 4 else G
  fillF (roomF H r (cM H r)) r k
def asksF (F : Fm) (r : Nat) (name : Int32) : Bool × Fm := match ansF (askedF F r name) name with
  | none => (false, askedF F r name)
  | some k => (true, newF (askedF F r name) r k)
/-- maps among the first n that do not hold go -/
def endF (r : Nat) : Nat → Fm → Fm
  | 0, F => F
  | n + 1, F => endF r n (if (F (mA r n + 2)).toInt ≤ (F 0).toInt then dropsF F r n else F)
def tkB (F : Fm) (r n : Nat) (o : Option Nat) : Bool := match o with
  | none => decide ((F (29 + 17 * nn (F (mA r n)) + 1)).toInt < 257)
  | some b => decide ((F (29 + 17 * nn (F (mA r n)) + 1)).toInt < (F (29 + 17 * nn (F (mA r b)) + 1)).toInt)
def takeN (F : Fm) (r : Nat) (name : Int32) : Nat → Option Nat
  | 0 => none
  | n + 1 => if hasF F (nn (F (mA r n))) name ∧ tkB F r n (takeN F r name n) = true then some n else takeN F r name n
def plusF (F : Fm) (j : Nat) : Fm := fun i => if i = j then F i + nI 1 else F i
def proxF (name : Int32) : Int32 := nI 32 + name / nI 32
def restF (G : Fm) (r p : Nat) (name flow : Int32) : Int32 × Fm :=
  let G1 := usesF G r p
  let k := nn (G1 (mA r 0))
  let place := choF G1 (mA r 0 + 4) flow
  if isAtF G1 k place then (place, if G1 (mA r 0 + 1) = G1 (29 + 17 * k + 3) then G1 else fun i => if i = mA r 0 + 3 then nI 1 else G1 i)
  else match asksF (dropsF (plusF G1 (165 + 6 * r + 5)) r 0) r name with
    | (true, G3) => (choF G3 (mA r 0 + 4) flow, G3)
    | (false, G3) => (proxF name, plusF G3 (165 + 6 * r + 4))
def sendF (F : Fm) (r : Nat) (name flow : Int32) : Int32 × Fm :=
  let F1 := plusF F (165 + 6 * r + 3)
  let F2 := endF r (cM F1 r) F1
  match takeN F2 r name (cM F2 r) with
  | none => (match asksF F2 r name with
    | (true, F3) => restF F3 r 0 name flow
    | (false, F3) => (proxF name, plusF F3 (165 + 6 * r + 4)))
  | some p => if F2 (mA r p + 3) = nI 1 then (match asksF F2 r name with
      | (true, F3) => restF F3 r 0 name flow
      | (false, F3) => (proxF name, plusF (dropsF F3 r p) (165 + 6 * r + 4)))
    else restF F2 r p name flow
/-- a store whose row of numbers is F -/
def setN (s : St) (F : Fm) : St := (fun a b d => if a = 20 ∧ b = 0 then F d else s.1 a b d, s.2)
theorem setN_now (s : St) (F : Fm) (i : Nat) : (setN s F).1 20 0 i = F i := by
  show (if 20 = 20 ∧ 0 = 0 then F i else s.1 20 0 i) = F i
  rw [if_pos ⟨rfl, rfl⟩]
theorem setN_self (s : St) : setN s (s.1 20 0) = s := by
  unfold setN
  apply Prod.ext
  · funext a b d
    show (if a = 20 ∧ b = 0 then s.1 20 0 d else s.1 a b d) = _
    split
    · rename_i h; rw [h.1, h.2]
    · rfl
  · rfl
theorem setN_setN (s : St) (F G : Fm) : setN (setN s F) G = setN s G := by
  unfold setN
  apply Prod.ext
  · funext a b d
    show (if a = 20 ∧ b = 0 then G d else if a = 20 ∧ b = 0 then F d else s.1 a b d) = (if a = 20 ∧ b = 0 then G d else s.1 a b d)
    by_cases h : a = 20 ∧ b = 0
    · rw [if_pos h, if_pos h]
    · rw [if_neg h, if_neg h, if_neg h]
  · rfl
def putF (F : Fm) (i : Nat) (x : Int32) : Fm := fun j => if j = i then x else F j
theorem putF_at (F : Fm) (i : Nat) (x : Int32) : putF F i x i = x := if_pos rfl
theorem putF_ne (F : Fm) {i j : Nat} (x : Int32) (h : j ≠ i) : putF F i x j = F j := if_neg h
theorem putF_plus (F : Fm) (j : Nat) : putF F j (F j + nI 1) = plusF F j := by
  funext i
  unfold putF plusF
  split
  · rename_i h; rw [h]
  · rfl
theorem setN_put (s : St) (F : Fm) (i : Nat) (x : Int32) : putV (setN s F) 20 0 i x = setN s (putF F i x) := by
  unfold setN putV putF
  apply Prod.ext
  · funext a b d
    show (if a = 20 ∧ b = 0 ∧ d = i then x else if a = 20 ∧ b = 0 then F d else s.1 a b d) = (if a = 20 ∧ b = 0 then (if d = i then x else F d) else s.1 a b d)
    by_cases h1 : a = 20 <;> by_cases h2 : b = 0 <;> simp [h1, h2]
  · rfl
theorem setN_o {s : St} {F : Fm} {a b d : Nat} (h : a ≠ 20) : (setN s F).1 a b d = s.1 a b d := by
  show (if a = 20 ∧ b = 0 then F d else s.1 a b d) = _
  rw [if_neg fun q => h q.1]
theorem alen20 : alen 20 = 509 := rfl
theorem alen21 : alen 21 = 4072 := rfl
/-! what holds of the numbers, always -/
def WFserver (F : Fm) (k : Nat) : Prop := (∃ a z : Nat, F (5 + 3 * k + 1) = nI a ∧ F (5 + 3 * k + 2) = nI z ∧ 1 ≤ z ∧ a + z ≤ 256) ∧ (k = 0 → F (5 + 3 * k) = -5) ∧ (0 < k → ∃ p : Nat, p < k ∧ F (5 + 3 * k) = nI p)
def slotOk (F : Fm) (b : Nat) : Prop := (F b = nI 0 ∨ F b = nI 1) ∧ (F b = nI 1 → (0 ≤ (F (b + 1)).toInt ∧ (F (b + 1)).toInt < 32) ∧ (0 ≤ (F (b + 2)).toInt ∧ (F (b + 2)).toInt < 10) ∧ 1 ≤ (F (b + 3)).toInt ∧ (F (b + 3)).toInt ≤ 9)
def WFsite (F : Fm) (B k : Nat) : Prop := (∃ a z : Nat, F (29 + 17 * k) = nI a ∧ F (29 + 17 * k + 1) = nI z ∧ 1 ≤ z ∧ a + z ≤ 256) ∧ (1 ≤ (F (29 + 17 * k + 2)).toInt ∧ (F (29 + 17 * k + 2)).toInt ≤ 48) ∧ (1 ≤ (F (29 + 17 * k + 3)).toInt ∧ (F (29 + 17 * k + 3)).toInt ≤ (B : Int)) ∧ (0 ≤ (F (29 + 17 * k + 4)).toInt ∧ (F (29 + 17 * k + 4)).toInt ≤ 10300) ∧ ∀ j, j < 3 → slotOk F (29 + 17 * k + 5 + 4 * j)
def WFmap (F : Fm) (r p : Nat) : Prop := F (mA r p) = nI (nn (F (mA r p))) ∧ nn (F (mA r p)) < cT F ∧ (F (mA r p + 3) = nI 0 ∨ F (mA r p + 3) = nI 1) ∧ ∀ j, j < 3 → slotOk F (mA r p + 4 + 4 * j)
def WFrouter (F : Fm) (r : Nat) : Prop := F (165 + 6 * r) = nI (cM F r) ∧ cM F r ≤ 5 ∧ (∀ p, p < cM F r → WFmap F r p) ∧ ∀ p q, p < cM F r → q < cM F r → F (mA r p) = F (mA r q) → p = q
def WF (F : Fm) (B : Nat) : Prop := (F 1 = nI (cS F) ∧ 1 ≤ cS F ∧ cS F ≤ 8) ∧ (F 2 = nI (cT F) ∧ cT F ≤ 8) ∧ (F 3 = nI (cR F) ∧ cR F ≤ 4) ∧ (0 ≤ (F 0).toInt ∧ (F 0).toInt ≤ 10200) ∧ (1 ≤ (F 4).toInt ∧ (F 4).toInt ≤ 100) ∧ (∀ k, k < cS F → WFserver F k) ∧ (∀ k, k < cT F → WFsite F B k) ∧ ∀ r, r < cR F → WFrouter F r
section WFP
variable {F : Fm} {B : Nat}
theorem WF.s1 (h : WF F B) : F 1 = nI (cS F) := h.1.1
theorem WF.s2 (h : WF F B) : 1 ≤ cS F ∧ cS F ≤ 8 := h.1.2
theorem WF.t1 (h : WF F B) : F 2 = nI (cT F) := h.2.1.1
theorem WF.t2 (h : WF F B) : cT F ≤ 8 := h.2.1.2
theorem WF.r1 (h : WF F B) : F 3 = nI (cR F) := h.2.2.1.1
theorem WF.r2 (h : WF F B) : cR F ≤ 4 := h.2.2.1.2
theorem WF.h (h : WF F B) : 0 ≤ (F 0).toInt ∧ (F 0).toInt ≤ 10200 := h.2.2.2.1
theorem WF.l (h : WF F B) : 1 ≤ (F 4).toInt ∧ (F 4).toInt ≤ 100 := h.2.2.2.2.1
theorem WF.server (h : WF F B) {k : Nat} (hk : k < cS F) : WFserver F k := h.2.2.2.2.2.1 k hk
theorem WF.site (h : WF F B) {k : Nat} (hk : k < cT F) : WFsite F B k := h.2.2.2.2.2.2.1 k hk
theorem WF.router (h : WF F B) {r : Nat} (hr : r < cR F) : WFrouter F r := h.2.2.2.2.2.2.2 r hr
theorem WF.flag (h : WF F B) {k : Nat} (hk : k < cT F) (j : Nat) (hj : j < 3) : slotOk F (29 + 17 * k + 5 + 4 * j) := (h.site hk).2.2.2.2 j hj
end WFP
end
section
/-! THE REFERENCE'S SMALL METHODS -/
theorem bI_c {a b : Prop} [Decidable a] [Decidable b] {Q : Option MV → St → Prop} {s : St} (h : Q (some (.inl (bI a))) s) (e : b ↔ a) : Q (some (.inl (bI b))) s := by
  have : bI b = bI a := by
    unfold bI
    by_cases h1 : a
    · rw [if_pos h1, if_pos (e.mpr h1)]
    · rw [if_neg h1, if_neg (fun q => h1 (e.mp q))]
  rwa [this]
/-- a counting loop: from the head's state at k to that at k + 1, and out at n -/
theorem loopN {P : Nat → Prop} (n : Nat) (step : ∀ k, k < n → P (k + 1) → P k) (last : P n) (k : Nat) (hk : k ≤ n) : P k := by
  have : ∀ j k, k + j = n → P k := by
    intro j
    induction j with
    | zero => intro k h; have : k = n := by omega
              rw [this]; exact last
    | succ j ih => intro k h; exact step k (by omega) (ih (k + 1) (by omega))
  exact this (n - k) k (by omega)
section REF1
variable {L : Nat} {xs : Nat → Int32} {f k r p j B : Nat} {x y v a z : Int32} {s : St} {F : Fm} {Q : Option MV → St → Prop}
set_option maxHeartbeats 4000000 in
set_option maxRecDepth 100000 in
theorem r_isIn (h : Q (some (.inl (bI (x.toInt ≤ v.toInt ∧ v.toInt ≤ y.toInt)))) s) : wpM L xs codT retT (f + 1) m_X10_isIn [.inl v, .inl x, .inl y] s Q := by
  intro call hcall X hX; refine hX 1000 0 _ _ _ ?_
  repeat' (first | (intro hc) | (refine And.intro ?_ ?_) | (exact absurd nI_0 ‹cmpF 0 (nI 0) 0›) | (exact absurd ‹cmpT 0 (nI 1) 0› nI1_ne) | (exact absurd nI_0 ‹cmpT 1 (nI 0) 0›) | (exact absurd ‹cmpF 1 (nI 1) 0› nI1_ne) | (show wp _ _ _ _ _ _ _ _ _ _ _ _; conv => whnf))
  all_goals (clear hX hcall)
  all_goals first | decide | (refine bI_1 h ?_; clear h; (try simp (disch := omega) only [cmpT, cmpF, nI_toI, nI_subI, Int32.toInt_zero, setN_now, nI_add, nI_mul, nI_cl, alen20, alen21, bI_eq0, bI_ne0, nI_inj, Nat.add_zero] at *); omega) | (refine bI_0 h ?_; clear h; (try simp (disch := omega) only [cmpT, cmpF, nI_toI, nI_subI, Int32.toInt_zero, setN_now, nI_add, nI_mul, nI_cl, alen20, alen21, bI_eq0, bI_ne0, nI_inj, Nat.add_zero] at *); omega)
set_option maxHeartbeats 4000000 in
set_option maxRecDepth 100000 in
theorem r_isServer {n : Nat} (hn : F 1 = nI n) (h2 : n < 1000) (h : Q (some (.inl (bI (0 ≤ v.toInt ∧ v.toInt < (n : Int))))) (setN s F)) : wpM L xs codT retT (f + 2) m_X10_isServer [.inr (10, 0), .inl v] (setN s F) Q := by
  intro call hcall X hX; refine hX 1000 0 _ _ _ ?_
  repeat' (first | (intro hc) | (refine And.intro ?_ ?_) | (exact absurd nI_0 ‹cmpF 0 (nI 0) 0›) | (exact absurd ‹cmpT 0 (nI 1) 0› nI1_ne) | (exact absurd nI_0 ‹cmpT 1 (nI 0) 0›) | (exact absurd ‹cmpF 1 (nI 1) 0› nI1_ne) | (show wp _ _ _ _ _ _ _ _ _ _ _ _; conv => whnf) | (simp (disch := omega) only [nI_add, nI_mul]) | (refine hcall _ _ _ _ ?_; first | (refine r_isIn ?_) | fail))
  all_goals (clear hX hcall)
  all_goals first | exact bI_01 _ | (clear h; (try simp (disch := omega) only [cmpT, cmpF, nI_toI, nI_subI, Int32.toInt_zero, setN_now, nI_add, nI_mul, nI_cl, alen20, alen21, bI_eq0, bI_ne0, nI_inj, Nat.add_zero] at *); omega) | (refine bI_c h ?_; clear h; simp (disch := omega) only [setN_now, nI_add, nI_mul, nI_cl, hn, nI_toI, nI_subI]; omega)
set_option maxHeartbeats 4000000 in
set_option maxRecDepth 100000 in
theorem r_isSite {n : Nat} (hn : F 2 = nI n) (h2 : n < 1000) (h : Q (some (.inl (bI (0 ≤ v.toInt ∧ v.toInt < (n : Int))))) (setN s F)) : wpM L xs codT retT (f + 2) m_X10_isSite [.inr (10, 0), .inl v] (setN s F) Q := by
  intro call hcall X hX; refine hX 1000 0 _ _ _ ?_
  repeat' (first | (intro hc) | (refine And.intro ?_ ?_) | (exact absurd nI_0 ‹cmpF 0 (nI 0) 0›) | (exact absurd ‹cmpT 0 (nI 1) 0› nI1_ne) | (exact absurd nI_0 ‹cmpT 1 (nI 0) 0›) | (exact absurd ‹cmpF 1 (nI 1) 0› nI1_ne) | (show wp _ _ _ _ _ _ _ _ _ _ _ _; conv => whnf) | (simp (disch := omega) only [nI_add, nI_mul]) | (refine hcall _ _ _ _ ?_; first | (refine r_isIn ?_) | fail))
  all_goals (clear hX hcall)
  all_goals first | exact bI_01 _ | (clear h; (try simp (disch := omega) only [cmpT, cmpF, nI_toI, nI_subI, Int32.toInt_zero, setN_now, nI_add, nI_mul, nI_cl, alen20, alen21, bI_eq0, bI_ne0, nI_inj, Nat.add_zero] at *); omega) | (refine bI_c h ?_; clear h; simp (disch := omega) only [setN_now, nI_add, nI_mul, nI_cl, hn, nI_toI, nI_subI]; omega)
set_option maxHeartbeats 4000000 in
set_option maxRecDepth 100000 in
theorem r_isRouter {n : Nat} (hn : F 3 = nI n) (h2 : n < 1000) (h : Q (some (.inl (bI (0 ≤ v.toInt ∧ v.toInt < (n : Int))))) (setN s F)) : wpM L xs codT retT (f + 2) m_X10_isRouter [.inr (10, 0), .inl v] (setN s F) Q := by
  intro call hcall X hX; refine hX 1000 0 _ _ _ ?_
  repeat' (first | (intro hc) | (refine And.intro ?_ ?_) | (exact absurd nI_0 ‹cmpF 0 (nI 0) 0›) | (exact absurd ‹cmpT 0 (nI 1) 0› nI1_ne) | (exact absurd nI_0 ‹cmpT 1 (nI 0) 0›) | (exact absurd ‹cmpF 1 (nI 1) 0› nI1_ne) | (show wp _ _ _ _ _ _ _ _ _ _ _ _; conv => whnf) | (simp (disch := omega) only [nI_add, nI_mul]) | (refine hcall _ _ _ _ ?_; first | (refine r_isIn ?_) | fail))
  all_goals (clear hX hcall)
  all_goals first | exact bI_01 _ | (clear h; (try simp (disch := omega) only [cmpT, cmpF, nI_toI, nI_subI, Int32.toInt_zero, setN_now, nI_add, nI_mul, nI_cl, alen20, alen21, bI_eq0, bI_ne0, nI_inj, Nat.add_zero] at *); omega) | (refine bI_c h ?_; clear h; simp (disch := omega) only [setN_now, nI_add, nI_mul, nI_cl, hn, nI_toI, nI_subI]; omega)
set_option maxHeartbeats 4000000 in
set_option maxRecDepth 100000 in
theorem r_isName (h : Q (some (.inl (bI (0 ≤ v.toInt ∧ v.toInt ≤ 255)))) s) : wpM L xs codT retT (f + 2) m_X10_isName [.inl v] s Q := by
  intro call hcall X hX; refine hX 1000 0 _ _ _ ?_
  repeat' (first | (intro hc) | (refine And.intro ?_ ?_) | (exact absurd nI_0 ‹cmpF 0 (nI 0) 0›) | (exact absurd ‹cmpT 0 (nI 1) 0› nI1_ne) | (exact absurd nI_0 ‹cmpT 1 (nI 0) 0›) | (exact absurd ‹cmpF 1 (nI 1) 0› nI1_ne) | (show wp _ _ _ _ _ _ _ _ _ _ _ _; conv => whnf) | (simp (disch := omega) only [nI_add, nI_mul]) | (refine hcall _ _ _ _ ?_; first | (refine r_isIn ?_) | fail))
  all_goals (clear hX hcall)
  all_goals first | exact bI_01 _ | (refine bI_c h ?_; clear h; simp (disch := omega) only [nI_toI]; omega)
set_option maxHeartbeats 4000000 in
set_option maxRecDepth 100000 in
theorem r_siteAt (h : Q (some (.inl (nI (29 + 17 * k)))) s) : wpM L xs codT retT (f + 1) m_X10_siteAt [.inl (nI k)] s Q := by
  intro call hcall X hX; refine hX 1000 0 _ _ _ ?_
  repeat' (first | (intro hc) | (refine And.intro ?_ ?_) | (exact absurd nI_0 ‹cmpF 0 (nI 0) 0›) | (exact absurd ‹cmpT 0 (nI 1) 0› nI1_ne) | (exact absurd nI_0 ‹cmpT 1 (nI 0) 0›) | (exact absurd ‹cmpF 1 (nI 1) 0› nI1_ne) | (show wp _ _ _ _ _ _ _ _ _ _ _ _; conv => whnf))
  all_goals (clear hX hcall)
  simp (disch := omega) only [setN_now, setN_put, setN_setN, nI_add, nI_mul, nI_cl, Nat.add_zero, Nat.reduceAdd, Nat.reduceMul]
  exact h
set_option maxHeartbeats 4000000 in
set_option maxRecDepth 100000 in
theorem r_routerAt (h : Q (some (.inl (nI (165 + 6 * k)))) s) : wpM L xs codT retT (f + 1) m_X10_routerAt [.inl (nI k)] s Q := by
  intro call hcall X hX; refine hX 1000 0 _ _ _ ?_
  repeat' (first | (intro hc) | (refine And.intro ?_ ?_) | (exact absurd nI_0 ‹cmpF 0 (nI 0) 0›) | (exact absurd ‹cmpT 0 (nI 1) 0› nI1_ne) | (exact absurd nI_0 ‹cmpT 1 (nI 0) 0›) | (exact absurd ‹cmpF 1 (nI 1) 0› nI1_ne) | (show wp _ _ _ _ _ _ _ _ _ _ _ _; conv => whnf))
  all_goals (clear hX hcall)
  simp (disch := omega) only [setN_now, setN_put, setN_setN, nI_add, nI_mul, nI_cl, Nat.add_zero, Nat.reduceAdd, Nat.reduceMul]
  exact h
set_option maxHeartbeats 4000000 in
set_option maxRecDepth 100000 in
theorem r_mapAt (h : Q (some (.inl (nI (mA r p)))) s) : wpM L xs codT retT (f + 1) m_X10_mapAt [.inl (nI r), .inl (nI p)] s Q := by
  intro call hcall X hX; refine hX 1000 0 _ _ _ ?_
  repeat' (first | (intro hc) | (refine And.intro ?_ ?_) | (exact absurd nI_0 ‹cmpF 0 (nI 0) 0›) | (exact absurd ‹cmpT 0 (nI 1) 0› nI1_ne) | (exact absurd nI_0 ‹cmpT 1 (nI 0) 0›) | (exact absurd ‹cmpF 1 (nI 1) 0› nI1_ne) | (show wp _ _ _ _ _ _ _ _ _ _ _ _; conv => whnf))
  all_goals (clear hX hcall)
  simp (disch := omega) only [setN_now, setN_put, setN_setN, nI_add, nI_mul, nI_cl, Nat.add_zero, Nat.reduceAdd, Nat.reduceMul]
  exact h
set_option maxHeartbeats 4000000 in
set_option maxRecDepth 100000 in
theorem r_firstOf (hk : k < 8) (h : Q (some (.inl (F (5 + 3 * k + 1)))) (setN s F)) : wpM L xs codT retT (f + 1) m_X10_firstOf [.inr (10, 0), .inl (nI k)] (setN s F) Q := by
  intro call hcall X hX; refine hX 1000 0 _ _ _ ?_
  repeat' (first | (intro hc) | (refine And.intro ?_ ?_) | (exact absurd nI_0 ‹cmpF 0 (nI 0) 0›) | (exact absurd ‹cmpT 0 (nI 1) 0› nI1_ne) | (exact absurd nI_0 ‹cmpT 1 (nI 0) 0›) | (exact absurd ‹cmpF 1 (nI 1) 0› nI1_ne) | (show wp _ _ _ _ _ _ _ _ _ _ _ _; conv => whnf))
  all_goals (clear hX hcall)
  all_goals first | (clear h; (try simp (disch := omega) only [cmpT, cmpF, nI_toI, nI_subI, Int32.toInt_zero, setN_now, nI_add, nI_mul, nI_cl, alen20, alen21, bI_eq0, bI_ne0, nI_inj, Nat.add_zero] at *); omega) | (simp (disch := omega) only [setN_now, setN_put, setN_setN, nI_add, nI_mul, nI_cl, Nat.add_zero, Nat.reduceAdd, Nat.reduceMul]; exact h)
set_option maxHeartbeats 4000000 in
set_option maxRecDepth 100000 in
theorem r_sizeOf (hk : k < 8) (h : Q (some (.inl (F (5 + 3 * k + 2)))) (setN s F)) : wpM L xs codT retT (f + 1) m_X10_sizeOf [.inr (10, 0), .inl (nI k)] (setN s F) Q := by
  intro call hcall X hX; refine hX 1000 0 _ _ _ ?_
  repeat' (first | (intro hc) | (refine And.intro ?_ ?_) | (exact absurd nI_0 ‹cmpF 0 (nI 0) 0›) | (exact absurd ‹cmpT 0 (nI 1) 0› nI1_ne) | (exact absurd nI_0 ‹cmpT 1 (nI 0) 0›) | (exact absurd ‹cmpF 1 (nI 1) 0› nI1_ne) | (show wp _ _ _ _ _ _ _ _ _ _ _ _; conv => whnf))
  all_goals (clear hX hcall)
  all_goals first | (clear h; (try simp (disch := omega) only [cmpT, cmpF, nI_toI, nI_subI, Int32.toInt_zero, setN_now, nI_add, nI_mul, nI_cl, alen20, alen21, bI_eq0, bI_ne0, nI_inj, Nat.add_zero] at *); omega) | (simp (disch := omega) only [setN_now, setN_put, setN_setN, nI_add, nI_mul, nI_cl, Nat.add_zero, Nat.reduceAdd, Nat.reduceMul]; exact h)
set_option maxHeartbeats 4000000 in
set_option maxRecDepth 100000 in
theorem r_holds (hk : k < 8) (h : Q (some (.inl (bI (holdF F k a z)))) (setN s F)) : wpM L xs codT retT (f + 2) m_X10_holds [.inr (10, 0), .inl (nI k), .inl a, .inl z] (setN s F) Q := by
  intro call hcall X hX; refine hX 1000 0 _ _ _ ?_
  repeat' (first | (intro hc) | (refine And.intro ?_ ?_) | (exact absurd nI_0 ‹cmpF 0 (nI 0) 0›) | (exact absurd ‹cmpT 0 (nI 1) 0› nI1_ne) | (exact absurd nI_0 ‹cmpT 1 (nI 0) 0›) | (exact absurd ‹cmpF 1 (nI 1) 0› nI1_ne) | (show wp _ _ _ _ _ _ _ _ _ _ _ _; conv => whnf) | (simp (disch := omega) only [nI_add, nI_mul]) | (refine hcall _ _ _ _ ?_; first | (refine r_firstOf hk ?_) | (refine r_sizeOf hk ?_) | fail))
  all_goals (clear hX hcall)
  all_goals first | decide | (refine bI_1 h ?_; clear h; unfold holdF; (try simp (disch := omega) only [cmpT, cmpF, nI_toI, nI_subI, Int32.toInt_zero, setN_now, nI_add, nI_mul, nI_cl, alen20, alen21, bI_eq0, bI_ne0, nI_inj, Nat.add_zero] at *); omega) | (refine bI_0 h ?_; clear h; unfold holdF; (try simp (disch := omega) only [cmpT, cmpF, nI_toI, nI_subI, Int32.toInt_zero, setN_now, nI_add, nI_mul, nI_cl, alen20, alen21, bI_eq0, bI_ne0, nI_inj, Nat.add_zero] at *); omega)
theorem homeN_le : ∀ n, homeN F a z n ≤ n
  | 0 => Nat.le_refl _
  | n + 1 => by
    unfold homeN
    split
    · exact Nat.le_refl _
    · exact Nat.le_succ_of_le (homeN_le n)
set_option maxHeartbeats 4000000 in
set_option maxRecDepth 100000 in
theorem r_homeOf (hw : WF F B) (h : Q (some (.inl (nI (homeF F a z)))) (setN s F)) : wpM L xs codT retT (f + 3) m_X10_homeOf [.inr (10, 0), .inl a, .inl z] (setN s F) Q := by
  have hn := hw.s1
  have h2 := hw.s2
  clear hw
  intro call hcall X hX; refine hX 1000 0 _ _ _ ?_
  repeat' (first | (intro hc) | (refine And.intro ?_ ?_) | (exact absurd nI_0 ‹cmpF 0 (nI 0) 0›) | (exact absurd ‹cmpT 0 (nI 1) 0› nI1_ne) | (exact absurd nI_0 ‹cmpT 1 (nI 0) 0›) | (exact absurd ‹cmpF 1 (nI 1) 0› nI1_ne) | (show wp _ _ _ _ _ _ _ _ _ _ _ _; conv => whnf))
  refine loopN (P := fun k => X 5 [.inr (10, 0), .inl a, .inl z, .inl (nI (homeN F a z k)), .inl (nI (k + 1))] [] (setN s F)) (cS F - 1) (fun k hk ih => ?_) ?_ 0 (by omega)
  · have hle := homeN_le (F := F) (a := a) (z := z) k
    refine hX 1000 5 _ _ _ ?_
    repeat' (first | (intro hc) | (refine And.intro ?_ ?_) | (exact absurd nI_0 ‹cmpF 0 (nI 0) 0›) | (exact absurd ‹cmpT 0 (nI 1) 0› nI1_ne) | (exact absurd nI_0 ‹cmpT 1 (nI 0) 0›) | (exact absurd ‹cmpF 1 (nI 1) 0› nI1_ne) | (show wp _ _ _ _ _ _ _ _ _ _ _ _; conv => whnf) | (simp (disch := omega) only [nI_add, nI_mul]) | (refine hcall _ _ _ _ ?_; first | (refine r_holds (by omega) ?_) | (refine r_sizeOf (by omega) ?_) | fail))
    all_goals (clear hX hcall h)
    all_goals (try simp (disch := omega) only [cmpT, cmpF, nI_toI, setN_now, nI_cl, hn, bI_eq0, bI_ne0, holdF, alen20, takeL, setL, nI_add] at *)
    all_goals first
      | omega
      | (rw [homeN, if_pos (by omega)] at ih; exact ih)
      | (rw [homeN, if_neg (by omega)] at ih; exact ih)
  · refine hX 1000 5 _ _ _ ?_
    repeat' (first | (intro hc) | (refine And.intro ?_ ?_) | (exact absurd nI_0 ‹cmpF 0 (nI 0) 0›) | (exact absurd ‹cmpT 0 (nI 1) 0› nI1_ne) | (exact absurd nI_0 ‹cmpT 1 (nI 0) 0›) | (exact absurd ‹cmpF 1 (nI 1) 0› nI1_ne) | (show wp _ _ _ _ _ _ _ _ _ _ _ _; conv => whnf) | (simp (disch := omega) only [nI_add, nI_mul]) | (refine hcall _ _ _ _ ?_; first | (refine r_holds (by omega) ?_) | (refine r_sizeOf (by omega) ?_) | fail))
    all_goals (clear hX hcall)
    all_goals first
      | (have e : homeF F a z = homeN F a z (cS F - 1) := by rfl
         rw [e] at h; exact h)
      | (clear h; simp (disch := omega) only [cmpT, cmpF, nI_toI, setN_now, nI_cl, hn, alen20] at *; omega)
end REF1
end
section
/-! THE REFERENCE: ways, sites, answers -/
def upB (F : Fm) (k : Nat) : Nat → Bool
  | 0 => false
  | j + 1 => upB F k j || decide (F (29 + 17 * k + (5 + 4 * j)) = nI 1)
section REF2
variable {L : Nat} {xs : Nat → Int32} {f k r p j B : Nat} {x y v a z name flow : Int32} {s : St} {F : Fm} {Q : Option MV → St → Prop}
theorem wayN_eq {n : Nat} (hp : ∀ k, 0 < k → k < n → ∃ p : Nat, p < k ∧ F (5 + 3 * k) = nI p) (hn : n ≤ 8) : ∀ m m' k, k < n → k < m → k < m' → wayN F m k = wayN F m' k := by
  intro m
  induction m with
  | zero => intro m' k _ h; omega
  | succ m ih =>
    intro m' k hk hm hm'
    obtain ⟨m', rfl⟩ : ∃ q, m' = q + 1 := ⟨m' - 1, by omega⟩
    unfold wayN
    by_cases h0 : k = 0
    · rw [if_pos h0, if_pos h0]
    · rw [if_neg h0, if_neg h0]
      obtain ⟨p, h1, h2⟩ := hp k (by omega) hk
      have e : nn (F (5 + 3 * k)) = p := by rw [h2]; exact nI_cl (by omega)
      rw [e, ih m' p (by omega) (by omega) (by omega)]
theorem wayF_0 : wayF F 0 = 1 := by unfold wayF wayN; rw [if_pos rfl]
theorem WF.par (hw : WF F B) : ∀ k, 0 < k → k < cS F → ∃ p : Nat, p < k ∧ F (5 + 3 * k) = nI p := fun k h1 h2 => (hw.server h2).2.2 h1
theorem wayF_s (hw : WF F B) {p : Nat} (h0 : 0 < k) (hk : k < cS F) (hp : F (5 + 3 * k) = nI p) (hpk : p < k) : wayF F k = wayF F p + 1 := by
  have h8 := hw.s2
  unfold wayF
  rw [wayN_eq hw.par h8.2 8 (8 + 1) k hk (by omega) (by omega)]
  have e : nn (F (5 + 3 * k)) = p := by rw [hp]; exact nI_cl (by omega)
  show (if k = 0 then 1 else wayN F 8 (nn (F (5 + 3 * k))) + 1) = _
  rw [if_neg (by omega), e]
theorem wayF_le (hw : WF F B) : ∀ k, k < cS F → 1 ≤ wayF F k ∧ wayF F k ≤ k + 1 := by
  intro k
  induction k using Nat.strongRecOn with
  | ind k ih =>
    intro hk
    by_cases h0 : k = 0
    · subst h0; rw [wayF_0]; omega
    · obtain ⟨p, h1, h2⟩ := hw.par k (by omega) hk
      rw [wayF_s hw (by omega) hk h2 h1]
      have := ih p h1 (by omega)
      omega
set_option maxHeartbeats 4000000 in
set_option maxRecDepth 100000 in
theorem r_wayTo (hw : WF F B) (hk : k < cS F) (h : Q (some (.inl (nI (wayF F k)))) (setN s F)) : wpM L xs codT retT (f + 1) m_X10_wayTo [.inr (10, 0), .inl (nI k)] (setN s F) Q := by
  have h2 := hw.s2
  have h3 := wayF_le hw k hk
  intro call hcall X hX; refine hX 1000 0 _ _ _ ?_
  repeat' (first | (intro hc) | (refine And.intro ?_ ?_) | (exact absurd nI_0 ‹cmpF 0 (nI 0) 0›) | (exact absurd ‹cmpT 0 (nI 1) 0› nI1_ne) | (exact absurd nI_0 ‹cmpT 1 (nI 0) 0›) | (exact absurd ‹cmpF 1 (nI 1) 0› nI1_ne) | (show wp _ _ _ _ _ _ _ _ _ _ _ _; conv => whnf))
  have loop : ∀ j c, j < cS F → c + wayF F j = wayF F k + 1 → X 4 [.inr (10, 0), .inl (nI k), .inl (nI c), .inl (nI j)] [] (setN s F) := by
    intro j
    induction j using Nat.strongRecOn with
    | ind j ih =>
      intro c hj hc0
      by_cases h0 : j = 0
      · subst h0
        rw [wayF_0] at hc0
        have : c = wayF F k := by omega
        subst this
        refine hX 1000 4 _ _ _ ?_
        repeat' (first | (intro hc) | (refine And.intro ?_ ?_) | (exact absurd nI_0 ‹cmpF 0 (nI 0) 0›) | (exact absurd ‹cmpT 0 (nI 1) 0› nI1_ne) | (exact absurd nI_0 ‹cmpT 1 (nI 0) 0›) | (exact absurd ‹cmpF 1 (nI 1) 0› nI1_ne) | (show wp _ _ _ _ _ _ _ _ _ _ _ _; conv => whnf))
        all_goals first | exact h | exact absurd nI_0 ‹¬ nI 0 = 0› | (clear h hX hcall ih; (try simp (disch := omega) only [cmpT, cmpF, nI_toI, nI_subI, Int32.toInt_zero, setN_now, nI_add, nI_mul, nI_cl, alen20, alen21, bI_eq0, bI_ne0, nI_inj, Nat.add_zero] at *); omega)
      · obtain ⟨p, h4, h5⟩ := hw.par j (by omega) hj
        have e := wayF_s hw (by omega) hj h5 h4
        have ih := ih p h4 (c + 1) (by omega) (by omega)
        refine hX 1000 4 _ _ _ ?_
        repeat' (first | (intro hc) | (refine And.intro ?_ ?_) | (exact absurd nI_0 ‹cmpF 0 (nI 0) 0›) | (exact absurd ‹cmpT 0 (nI 1) 0› nI1_ne) | (exact absurd nI_0 ‹cmpT 1 (nI 0) 0›) | (exact absurd ‹cmpF 1 (nI 1) 0› nI1_ne) | (show wp _ _ _ _ _ _ _ _ _ _ _ _; conv => whnf))
        all_goals (clear h hX hcall)
        all_goals (simp (disch := omega) only [cmpT, cmpF, nI_toI, setN_now, nI_cl, alen20, takeL, setL, nI_add, nI_mul, Nat.add_zero] at *)
        all_goals first | omega | (rw [h5]; exact ih) | (exact absurd ‹nI j = 0› (nI_ne0 (by omega) (by omega)))
  exact loop k 1 hk (by omega)
set_option maxHeartbeats 4000000 in
set_option maxRecDepth 100000 in
theorem r_ofSite (hj : 29 + 17 * k + j < 509) (h : Q (some (.inl (F (29 + 17 * k + j)))) (setN s F)) : wpM L xs codT retT (f + 2) m_X10_ofSite [.inr (10, 0), .inl (nI k), .inl (nI j)] (setN s F) Q := by
  intro call hcall X hX; refine hX 1000 0 _ _ _ ?_
  repeat' (first | (intro hc) | (refine And.intro ?_ ?_) | (exact absurd nI_0 ‹cmpF 0 (nI 0) 0›) | (exact absurd ‹cmpT 0 (nI 1) 0› nI1_ne) | (exact absurd nI_0 ‹cmpT 1 (nI 0) 0›) | (exact absurd ‹cmpF 1 (nI 1) 0› nI1_ne) | (show wp _ _ _ _ _ _ _ _ _ _ _ _; conv => whnf) | (simp (disch := omega) only [nI_add, nI_mul]) | (refine hcall _ _ _ _ ?_; first | (refine r_siteAt ?_) | fail))
  all_goals (clear hX hcall)
  all_goals first | (clear h; (try simp (disch := omega) only [cmpT, cmpF, nI_toI, nI_subI, Int32.toInt_zero, setN_now, nI_add, nI_mul, nI_cl, alen20, alen21, bI_eq0, bI_ne0, nI_inj, Nat.add_zero] at *); omega) | (simp (disch := omega) only [setN_now, setN_put, setN_setN, nI_add, nI_mul, nI_cl, Nat.add_zero, Nat.reduceAdd, Nat.reduceMul]; exact h)
set_option maxHeartbeats 4000000 in
set_option maxRecDepth 100000 in
theorem r_has (hk : k < 8) (h : Q (some (.inl (bI (hasF F k name)))) (setN s F)) : wpM L xs codT retT (f + 3) m_X10_has [.inr (10, 0), .inl (nI k), .inl name] (setN s F) Q := by
  intro call hcall X hX; refine hX 1000 0 _ _ _ ?_
  repeat' (first | (intro hc) | (refine And.intro ?_ ?_) | (exact absurd nI_0 ‹cmpF 0 (nI 0) 0›) | (exact absurd ‹cmpT 0 (nI 1) 0› nI1_ne) | (exact absurd nI_0 ‹cmpT 1 (nI 0) 0›) | (exact absurd ‹cmpF 1 (nI 1) 0› nI1_ne) | (show wp _ _ _ _ _ _ _ _ _ _ _ _; conv => whnf) | (simp (disch := omega) only [nI_add, nI_mul]) | (refine hcall _ _ _ _ ?_; first | (refine r_ofSite (by omega) ?_) | fail))
  all_goals (clear hX hcall)
  all_goals first | decide | (refine bI_1 h ?_; clear h; unfold hasF; (try simp (disch := omega) only [cmpT, cmpF, nI_toI, nI_subI, Int32.toInt_zero, setN_now, nI_add, nI_mul, nI_cl, alen20, alen21, bI_eq0, bI_ne0, nI_inj, Nat.add_zero] at *); omega) | (refine bI_0 h ?_; clear h; unfold hasF; (try simp (disch := omega) only [cmpT, cmpF, nI_toI, nI_subI, Int32.toInt_zero, setN_now, nI_add, nI_mul, nI_cl, alen20, alen21, bI_eq0, bI_ne0, nI_inj, Nat.add_zero] at *); omega)
set_option maxHeartbeats 4000000 in
set_option maxRecDepth 100000 in
theorem r_homeOfSite (hw : WF F B) (hk : k < 8) (h : Q (some (.inl (nI (homeF F (F (29 + 17 * k)) (F (29 + 17 * k + 1)))))) (setN s F)) : wpM L xs codT retT (f + 4) m_X10_homeOfSite [.inr (10, 0), .inl (nI k)] (setN s F) Q := by
  intro call hcall X hX; refine hX 1000 0 _ _ _ ?_
  repeat' (first | (intro hc) | (refine And.intro ?_ ?_) | (exact absurd nI_0 ‹cmpF 0 (nI 0) 0›) | (exact absurd ‹cmpT 0 (nI 1) 0› nI1_ne) | (exact absurd nI_0 ‹cmpT 1 (nI 0) 0›) | (exact absurd ‹cmpF 1 (nI 1) 0› nI1_ne) | (show wp _ _ _ _ _ _ _ _ _ _ _ _; conv => whnf) | (simp (disch := omega) only [nI_add, nI_mul]) | (refine hcall _ _ _ _ ?_; first | (refine r_ofSite (by omega) ?_) | (refine r_homeOf hw ?_) | fail))
  exact h
set_option maxHeartbeats 4000000 in
set_option maxRecDepth 100000 in
theorem r_isRegistered (hk : k < 8) (h : Q (some (.inl (bI ((F 0).toInt < (F (29 + 17 * k + 4)).toInt)))) (setN s F)) : wpM L xs codT retT (f + 3) m_X10_isRegistered [.inr (10, 0), .inl (nI k)] (setN s F) Q := by
  intro call hcall X hX; refine hX 1000 0 _ _ _ ?_
  repeat' (first | (intro hc) | (refine And.intro ?_ ?_) | (exact absurd nI_0 ‹cmpF 0 (nI 0) 0›) | (exact absurd ‹cmpT 0 (nI 1) 0› nI1_ne) | (exact absurd nI_0 ‹cmpT 1 (nI 0) 0›) | (exact absurd ‹cmpF 1 (nI 1) 0› nI1_ne) | (show wp _ _ _ _ _ _ _ _ _ _ _ _; conv => whnf) | (simp (disch := omega) only [nI_add, nI_mul]) | (refine hcall _ _ _ _ ?_; first | (refine r_ofSite (by omega) ?_) | fail))
  all_goals (clear hX hcall)
  all_goals first | decide | (refine bI_1 h ?_; clear h; (try simp (disch := omega) only [cmpT, cmpF, nI_toI, nI_subI, Int32.toInt_zero, setN_now, nI_add, nI_mul, nI_cl, alen20, alen21, bI_eq0, bI_ne0, nI_inj, Nat.add_zero] at *); omega) | (refine bI_0 h ?_; clear h; (try simp (disch := omega) only [cmpT, cmpF, nI_toI, nI_subI, Int32.toInt_zero, setN_now, nI_add, nI_mul, nI_cl, alen20, alen21, bI_eq0, bI_ne0, nI_inj, Nat.add_zero] at *); omega) | (clear h; (try simp (disch := omega) only [cmpT, cmpF, nI_toI, nI_subI, Int32.toInt_zero, setN_now, nI_add, nI_mul, nI_cl, alen20, alen21, bI_eq0, bI_ne0, nI_inj, Nat.add_zero] at *); omega)
theorem upB_3 : upB F k 3 = true ↔ (F (29 + 17 * k + 5) = nI 1 ∨ F (29 + 17 * k + 9) = nI 1 ∨ F (29 + 17 * k + 13) = nI 1) := by
  simp only [upB, Bool.or_eq_true, decide_eq_true_eq, Bool.false_eq_true, false_or, or_assoc, ← Nat.add_assoc, Nat.mul_zero, Nat.add_zero, Nat.mul_one]
set_option maxHeartbeats 4000000 in
set_option maxRecDepth 100000 in
theorem r_isUp (hk : k < 8) (h : Q (some (.inl (bI (upF F k)))) (setN s F)) : wpM L xs codT retT (f + 4) m_X10_isUp [.inr (10, 0), .inl (nI k)] (setN s F) Q := by
  intro call hcall X hX; refine hX 1000 0 _ _ _ ?_
  repeat' (first | (intro hc) | (refine And.intro ?_ ?_) | (exact absurd nI_0 ‹cmpF 0 (nI 0) 0›) | (exact absurd ‹cmpT 0 (nI 1) 0› nI1_ne) | (exact absurd nI_0 ‹cmpT 1 (nI 0) 0›) | (exact absurd ‹cmpF 1 (nI 1) 0› nI1_ne) | (show wp _ _ _ _ _ _ _ _ _ _ _ _; conv => whnf))
  refine loopN (P := fun j => X 4 [.inr (10, 0), .inl (nI k), .inl (bI (upB F k j = true)), .inl (nI j)] [] (setN s F)) 3 (fun j hj ih => ?_) ?_ 0 (by omega)
  · refine hX 1000 4 _ _ _ ?_
    repeat' (first | (intro hc) | (refine And.intro ?_ ?_) | (exact absurd nI_0 ‹cmpF 0 (nI 0) 0›) | (exact absurd ‹cmpT 0 (nI 1) 0› nI1_ne) | (exact absurd nI_0 ‹cmpT 1 (nI 0) 0›) | (exact absurd ‹cmpF 1 (nI 1) 0› nI1_ne) | (show wp _ _ _ _ _ _ _ _ _ _ _ _; conv => whnf) | (simp (disch := omega) only [nI_add, nI_mul]) | (refine hcall _ _ _ _ ?_; first | (refine r_ofSite (by omega) ?_) | fail))
    all_goals (clear hX hcall h)
    all_goals (simp (disch := omega) only [cmpT, cmpF, nI_toI, bI_eq0, bI_ne0, Classical.not_not, takeL, setL, nI_add, nI_mul] at *)
    all_goals first
      | omega
      | (rw [show bI (upB F k (j + 1) = true) = bI (upB F k j = true) from bI_same (by rw [upB]; simp_all)] at ih; exact ih)
      | (rw [show bI (upB F k (j + 1) = true) = nI 1 from if_pos (by rw [upB]; simp_all)] at ih; exact ih)
      | (rw [show bI (upB F k (j + 1) = true) = nI 0 from if_neg (by rw [upB]; simp_all)] at ih; exact ih)
  · refine hX 1000 4 _ _ _ ?_
    repeat' (first | (intro hc) | (refine And.intro ?_ ?_) | (exact absurd nI_0 ‹cmpF 0 (nI 0) 0›) | (exact absurd ‹cmpT 0 (nI 1) 0› nI1_ne) | (exact absurd nI_0 ‹cmpT 1 (nI 0) 0›) | (exact absurd ‹cmpF 1 (nI 1) 0› nI1_ne) | (show wp _ _ _ _ _ _ _ _ _ _ _ _; conv => whnf) | (simp (disch := omega) only [nI_add, nI_mul]) | (refine hcall _ _ _ _ ?_; first | (refine r_isRegistered (by omega) ?_) | fail))
    all_goals (clear hX hcall)
    all_goals (simp (disch := omega) only [cmpT, cmpF, nI_toI, bI_eq0, bI_ne0, Classical.not_not, upB_3] at *)
    all_goals first | omega | decide | (refine bI_1 h ?_; exact ⟨by assumption, by assumption⟩) | (refine bI_0 h ?_; rintro ⟨q1, q2⟩; contradiction)
end REF2
end
section
/-! THE REFERENCE: answers, choices, maps -/
def atB (F : Fm) (k : Nat) (place : Int32) : Nat → Bool
  | 0 => false
  | j + 1 => atB F k place j || (decide (F (29 + 17 * k + 5 + 4 * j) = nI 1) && decide (F (29 + 17 * k + 5 + 4 * j + 1) = place))
section REF3
variable {L : Nat} {xs : Nat → Int32} {f k r p j B : Nat} {x y v a z name flow place : Int32} {s : St} {F : Fm} {Q : Option MV → St → Prop}
theorem ansN_lt : ∀ n b, ansN F name n = some b → b < n
  | 0, b, h => by cases h
  | n + 1, b, h => by
    unfold ansN at h
    split at h
    · cases h; exact Nat.lt_succ_self _
    · exact Nat.lt_succ_of_lt (ansN_lt n b h)
theorem homeF_lt (hw : WF F B) : homeF F a z < 8 := by
  have := homeN_le (F := F) (a := a) (z := z) (cS F - 1)
  have h2 := hw.s2
  unfold homeF
  omega
theorem homeF_ltS (hw : WF F B) : homeF F a z < cS F := by
  have := homeN_le (F := F) (a := a) (z := z) (cS F - 1)
  have h2 := hw.s2
  unfold homeF
  omega
theorem optI_ne {o : Option Nat} (h : ∀ b, o = some b → b < 1000) : optI o (-5) = -5 ↔ o = none := by
  cases o with
  | none => exact ⟨fun _ => rfl, fun _ => rfl⟩
  | some b =>
    refine ⟨fun q => ?_, fun q => by cases q⟩
    have := congrArg Int32.toInt q
    have hb := h b rfl
    have e : (nI b).toInt = (b : Int) := nI_toI (by omega)
    have e2 : ((-5 : Int32)).toInt = -5 := by decide
    simp only [optI] at this
    omega
theorem nI_n5 {b : Nat} (h : b < 1000) : ¬ nI b = -5 := by
  intro q
  have := congrArg Int32.toInt q
  have e : (nI b).toInt = (b : Int) := nI_toI (by omega)
  have e2 : ((-5 : Int32)).toInt = -5 := by decide
  omega
set_option maxHeartbeats 4000000 in
set_option maxRecDepth 100000 in
theorem r_answerOf (hw : WF F B) (h : Q (some (.inl (optI (ansF F name) (-5)))) (setN s F)) : wpM L xs codT retT (f + 5) m_X10_answerOf [.inr (10, 0), .inl name] (setN s F) Q := by
  have ht := hw.t2
  have ht1 := hw.t1
  have hb1 := homeF_lt hw (a := name) (z := nI 1)
  intro call hcall X hX; refine hX 1000 0 _ _ _ ?_
  repeat' (first | (intro hc) | (refine And.intro ?_ ?_) | (exact absurd nI_0 ‹cmpF 0 (nI 0) 0›) | (exact absurd ‹cmpT 0 (nI 1) 0› nI1_ne) | (exact absurd nI_0 ‹cmpT 1 (nI 0) 0›) | (exact absurd ‹cmpF 1 (nI 1) 0› nI1_ne) | (show wp _ _ _ _ _ _ _ _ _ _ _ _; conv => whnf) | (simp (disch := omega) only [nI_add, nI_mul]) | (refine hcall _ _ _ _ ?_; first | (refine r_homeOf hw ?_) | fail))
  refine loopN (P := fun k => X 13 [.inr (10, 0), .inl name, .inl (optI (ansN F name k) (-5)), .inl (nI (homeF F name (nI 1))), .inl (nI k)] [] (setN s F)) (cT F) (fun k hk ih => ?_) ?_ 0 (by omega)
  · have hb2 := homeF_lt hw (a := F (29 + 17 * k)) (z := F (29 + 17 * k + 1))
    have hlt := ansN_lt (F := F) (name := name) k
    refine hX 1000 13 _ _ _ ?_
    cases ho : ansN F name k with
    | none =>
      repeat' (first | (intro hc) | (refine And.intro ?_ ?_) | (exact absurd nI_0 ‹cmpF 0 (nI 0) 0›) | (exact absurd ‹cmpT 0 (nI 1) 0› nI1_ne) | (exact absurd nI_0 ‹cmpT 1 (nI 0) 0›) | (exact absurd ‹cmpF 1 (nI 1) 0› nI1_ne) | (show wp _ _ _ _ _ _ _ _ _ _ _ _; conv => whnf) | (simp (disch := omega) only [nI_add, nI_mul]) | (refine hcall _ _ _ _ ?_; first | (refine r_isUp (by omega) ?_) | (refine r_has (by omega) ?_) | (refine r_homeOfSite hw (by omega) ?_) | (refine r_ofSite (by omega) ?_) | fail))
      all_goals (clear hX hcall h)
      all_goals (simp (disch := omega) only [cmpT, cmpF, nI_toI, setN_now, nI_cl, alen20, ht1, bI_eq0, bI_ne0, nI_inj, Classical.not_not, takeL, setL, nI_add, nI_mul, eq_self, not_true_eq_false] at *)
      all_goals first
        | omega
        | (rw [ansN, ho, if_pos ⟨⟨by assumption, by assumption, by assumption⟩, rfl⟩] at ih; exact ih)
        | (rw [ansN, ho, if_neg (by rintro ⟨⟨h1, h2, h3⟩, h4⟩; contradiction)] at ih; exact ih)
        | contradiction
    | some b =>
      have hb := hlt b ho
      repeat' (first | (intro hc) | (refine And.intro ?_ ?_) | (exact absurd nI_0 ‹cmpF 0 (nI 0) 0›) | (exact absurd ‹cmpT 0 (nI 1) 0› nI1_ne) | (exact absurd nI_0 ‹cmpT 1 (nI 0) 0›) | (exact absurd ‹cmpF 1 (nI 1) 0› nI1_ne) | (show wp _ _ _ _ _ _ _ _ _ _ _ _; conv => whnf) | (simp (disch := omega) only [nI_add, nI_mul]) | (refine hcall _ _ _ _ ?_; first | (refine r_isUp (by omega) ?_) | (refine r_has (by omega) ?_) | (refine r_homeOfSite hw (by omega) ?_) | (refine r_ofSite (by omega) ?_) | fail))
      all_goals (clear hX hcall h)
      all_goals (simp (disch := omega) only [cmpT, cmpF, nI_toI, setN_now, nI_cl, alen20, ht1, bI_eq0, bI_ne0, nI_inj, Classical.not_not, takeL, setL, nI_add, nI_mul, eq_self, not_true_eq_false] at *)
      all_goals first
        | omega
        | (rw [ansN, ho, if_pos ⟨⟨by assumption, by assumption, by assumption⟩, decide_eq_true (by assumption)⟩] at ih; exact ih)
        | (rw [ansN, ho, if_neg (by rintro ⟨⟨h1, h2, h3⟩, h4⟩; first | contradiction | (have h5 := of_decide_eq_true h4; omega))] at ih; exact ih)
        | exact absurd ‹optI (some b) (-5) = -5› (nI_n5 (by omega))
  · refine hX 1000 13 _ _ _ ?_
    repeat' (first | (intro hc) | (refine And.intro ?_ ?_) | (exact absurd nI_0 ‹cmpF 0 (nI 0) 0›) | (exact absurd ‹cmpT 0 (nI 1) 0› nI1_ne) | (exact absurd nI_0 ‹cmpT 1 (nI 0) 0›) | (exact absurd ‹cmpF 1 (nI 1) 0› nI1_ne) | (show wp _ _ _ _ _ _ _ _ _ _ _ _; conv => whnf) | (simp (disch := omega) only [nI_add, nI_mul]) | (refine hcall _ _ _ _ ?_; first | (refine r_isUp (by omega) ?_) | fail))
    all_goals (clear hX hcall)
    all_goals first
      | exact h
      | (clear h; simp (disch := omega) only [cmpT, cmpF, nI_toI, setN_now, nI_cl, ht1, alen20] at *; omega)
set_option maxHeartbeats 4000000 in
set_option maxRecDepth 100000 in
theorem r_isLetter (h : Q (some (.inl (bI ((0 ≤ name.toInt ∧ name.toInt ≤ 255) ∧ 0 ≤ flow.toInt ∧ flow.toInt ≤ 99)))) s) : wpM L xs codT retT (f + 3) m_X10_isLetter [.inl name, .inl flow] s Q := by
  intro call hcall X hX; refine hX 1000 0 _ _ _ ?_
  repeat' (first | (intro hc) | (refine And.intro ?_ ?_) | (exact absurd nI_0 ‹cmpF 0 (nI 0) 0›) | (exact absurd ‹cmpT 0 (nI 1) 0› nI1_ne) | (exact absurd nI_0 ‹cmpT 1 (nI 0) 0›) | (exact absurd ‹cmpF 1 (nI 1) 0› nI1_ne) | (show wp _ _ _ _ _ _ _ _ _ _ _ _; conv => whnf) | (simp (disch := omega) only [nI_add, nI_mul]) | (refine hcall _ _ _ _ ?_; first | (refine r_isName ?_) | (refine r_isIn ?_) | fail))
  all_goals (clear hX hcall)
  all_goals (simp (disch := omega) only [cmpT, cmpF, nI_toI, bI_eq0, bI_ne0, Classical.not_not] at *)
  all_goals first | decide | exact bI_01 _ | (refine bI_1 h ?_; clear h; omega) | (refine bI_0 h ?_; clear h; omega)
set_option maxHeartbeats 4000000 in
set_option maxRecDepth 100000 in
theorem r_mapsOf (hr : r < 4) (h : Q (some (.inl (F (165 + 6 * r)))) (setN s F)) : wpM L xs codT retT (f + 2) m_X10_mapsOf [.inr (10, 0), .inl (nI r)] (setN s F) Q := by
  intro call hcall X hX; refine hX 1000 0 _ _ _ ?_
  repeat' (first | (intro hc) | (refine And.intro ?_ ?_) | (exact absurd nI_0 ‹cmpF 0 (nI 0) 0›) | (exact absurd ‹cmpT 0 (nI 1) 0› nI1_ne) | (exact absurd nI_0 ‹cmpT 1 (nI 0) 0›) | (exact absurd ‹cmpF 1 (nI 1) 0› nI1_ne) | (show wp _ _ _ _ _ _ _ _ _ _ _ _; conv => whnf) | (simp (disch := omega) only [nI_add, nI_mul]) | (refine hcall _ _ _ _ ?_; first | (refine r_routerAt ?_) | fail))
  all_goals (clear hX hcall)
  all_goals first | (clear h; (try simp (disch := omega) only [cmpT, cmpF, nI_toI, nI_subI, Int32.toInt_zero, setN_now, nI_add, nI_mul, nI_cl, alen20, alen21, bI_eq0, bI_ne0, nI_inj, Nat.add_zero] at *); omega) | (simp (disch := omega) only [setN_now, setN_put, setN_setN, nI_add, nI_mul, nI_cl, Nat.add_zero, takeL, setL, Nat.reduceAdd, Nat.reduceMul]; exact h)
set_option maxHeartbeats 4000000 in
set_option maxRecDepth 100000 in
theorem r_ofMap (hr : mA r p + j < 509) (h : Q (some (.inl (F (mA r p + j)))) (setN s F)) : wpM L xs codT retT (f + 2) m_X10_ofMap [.inr (10, 0), .inl (nI r), .inl (nI p), .inl (nI j)] (setN s F) Q := by
  intro call hcall X hX; refine hX 1000 0 _ _ _ ?_
  repeat' (first | (intro hc) | (refine And.intro ?_ ?_) | (exact absurd nI_0 ‹cmpF 0 (nI 0) 0›) | (exact absurd ‹cmpT 0 (nI 1) 0› nI1_ne) | (exact absurd nI_0 ‹cmpT 1 (nI 0) 0›) | (exact absurd ‹cmpF 1 (nI 1) 0› nI1_ne) | (show wp _ _ _ _ _ _ _ _ _ _ _ _; conv => whnf) | (simp (disch := omega) only [nI_add, nI_mul]) | (refine hcall _ _ _ _ ?_; first | (refine r_mapAt ?_) | fail))
  all_goals (clear hX hcall)
  all_goals first | (clear h; (try simp (disch := omega) only [cmpT, cmpF, nI_toI, nI_subI, Int32.toInt_zero, setN_now, nI_add, nI_mul, nI_cl, alen20, alen21, bI_eq0, bI_ne0, nI_inj, Nat.add_zero] at *); omega) | (simp (disch := omega) only [setN_now, setN_put, setN_setN, nI_add, nI_mul, nI_cl, Nat.add_zero, takeL, setL, Nat.reduceAdd, Nat.reduceMul]; exact h)
set_option maxHeartbeats 4000000 in
set_option maxRecDepth 100000 in
theorem r_proxy (hr : r < 4) (h : Q (some (.inl (proxF name))) (setN s (plusF F (165 + 6 * r + 4)))) : wpM L xs codT retT (f + 2) m_X10_proxy [.inr (10, 0), .inl (nI r), .inl name] (setN s F) Q := by
  intro call hcall X hX; refine hX 1000 0 _ _ _ ?_
  repeat' (first | (intro hc) | (refine And.intro ?_ ?_) | (exact absurd nI_0 ‹cmpF 0 (nI 0) 0›) | (exact absurd ‹cmpT 0 (nI 1) 0› nI1_ne) | (exact absurd nI_0 ‹cmpT 1 (nI 0) 0›) | (exact absurd ‹cmpF 1 (nI 1) 0› nI1_ne) | (show wp _ _ _ _ _ _ _ _ _ _ _ _; conv => whnf) | (simp (disch := omega) only [nI_add, nI_mul]) | (refine hcall _ _ _ _ ?_; first | (refine r_routerAt ?_) | fail))
  all_goals (clear hX hcall)
  all_goals first
    | (clear h; simp (disch := omega) only [nI_toI, alen20]; omega)
    | exact absurd ‹nI 32 = 0› (by decide)
    | (simp (disch := omega) only [setN_now, setN_put, nI_cl, putF_plus]; exact h)
/-! the maps of a router -/
def drK (F : Fm) (r p k : Nat) : Fm := fun i => if i = 165 + 6 * r then F i - nI 1 else if mA r p ≤ i ∧ i < k then F (i + 16) else F i
theorem drK_0 : drK F r p (mA r p) = putF F (165 + 6 * r) (F (165 + 6 * r) - nI 1) := by
  funext i
  unfold drK putF
  by_cases h : i = 165 + 6 * r
  · rw [if_pos h, if_pos h, h]
  · rw [if_neg h, if_neg h, if_neg (by omega)]
theorem drK_s (hk : mA r p ≤ k) (hr : r < 4) : putF (drK F r p k) k (drK F r p k (k + 16)) = drK F r p (k + 1) := by
  have hm : 189 ≤ mA r p := by unfold mA; omega
  funext i
  simp only [drK, putF]
  (repeat' split) <;> first | rfl | omega | (exfalso; omega) | (congr 1; omega)
theorem drK_c (hc : F (165 + 6 * r) = nI (cM F r)) (h1 : 1 ≤ cM F r) (h2 : cM F r ≤ 5) : drK F r p k (165 + 6 * r) = nI (cM F r - 1) := by
  show (if 165 + 6 * r = 165 + 6 * r then F (165 + 6 * r) - nI 1 else _) = _
  rw [if_pos rfl, hc, nI_sub (by omega) h1]
set_option maxHeartbeats 4000000 in
set_option maxRecDepth 100000 in
theorem r_drops (hr : r < 4) (hc : F (165 + 6 * r) = nI (cM F r)) (h2 : cM F r ≤ 5) (hp : p < cM F r) (h : Q none (setN s (dropsF F r p))) : wpM L xs codT retT (f + 3) m_X10_drops [.inr (10, 0), .inl (nI r), .inl (nI p)] (setN s F) Q := by
  have hmA : mA r p ≤ mA r (cM F r - 1) := by unfold mA; omega
  have hmB : mA r (cM F r - 1) ≤ 493 := by unfold mA; omega
  intro call hcall X hX; refine hX 1000 0 _ _ _ ?_
  repeat' (first | (intro hc) | (refine And.intro ?_ ?_) | (exact absurd nI_0 ‹cmpF 0 (nI 0) 0›) | (exact absurd ‹cmpT 0 (nI 1) 0› nI1_ne) | (exact absurd nI_0 ‹cmpT 1 (nI 0) 0›) | (exact absurd ‹cmpF 1 (nI 1) 0› nI1_ne) | (show wp _ _ _ _ _ _ _ _ _ _ _ _; conv => whnf) | (simp (disch := omega) only [nI_add, nI_mul]) | (refine hcall _ _ _ _ ?_; first | (refine r_routerAt ?_) | (refine r_mapAt ?_) | fail))
  · clear h hX hcall; simp (disch := omega) only [nI_toI, alen20]; omega
  · clear h hX hcall; simp (disch := omega) only [nI_toI, alen20]; omega
  · clear h hX hcall; simp (disch := omega) only [nI_toI, alen20]; omega
  · clear h hX hcall; simp (disch := omega) only [nI_toI, alen20]; omega
  simp (disch := omega) only [setN_now, setN_put, nI_cl, takeL, setL, Nat.add_zero]
  rw [← drK_0 (p := p)]
  refine loopN (P := fun k => mA r p ≤ k → X 21 [.inr (10, 0), .inl (nI r), .inl (nI p), .inl (nI k)] [] (setN s (drK F r p k))) (mA r (cM F r - 1)) (fun k hk ih hge => ?_) (fun hge => ?_) (mA r p) hmA (Nat.le_refl _)
  · have ih := ih (by omega)
    have hcc := drK_c (p := p) (k := k) hc (by omega) h2
    refine hX 1000 21 _ _ _ ?_
    repeat' (first | (intro hc) | (refine And.intro ?_ ?_) | (exact absurd nI_0 ‹cmpF 0 (nI 0) 0›) | (exact absurd ‹cmpT 0 (nI 1) 0› nI1_ne) | (exact absurd nI_0 ‹cmpT 1 (nI 0) 0›) | (exact absurd ‹cmpF 1 (nI 1) 0› nI1_ne) | (show wp _ _ _ _ _ _ _ _ _ _ _ _; conv => whnf) | (rw [hcc]) | (simp (disch := omega) only [nI_add, nI_mul]) | (refine hcall _ _ _ _ ?_; first | (refine r_mapsOf hr ?_) | (refine r_mapAt ?_) | fail))
    all_goals (clear hX hcall h)
    all_goals (simp (disch := omega) only [cmpT, cmpF, nI_toI, alen20, setN_now, setN_put, nI_cl, takeL, setL, nI_add] at *)
    all_goals first
      | omega
      | (rw [drK_s (by omega) hr]; exact ih)
  · have hcc := drK_c (p := p) (k := mA r (cM F r - 1)) hc (by omega) h2
    refine hX 1000 21 _ _ _ ?_
    repeat' (first | (intro hc) | (refine And.intro ?_ ?_) | (exact absurd nI_0 ‹cmpF 0 (nI 0) 0›) | (exact absurd ‹cmpT 0 (nI 1) 0› nI1_ne) | (exact absurd nI_0 ‹cmpT 1 (nI 0) 0›) | (exact absurd ‹cmpF 1 (nI 1) 0› nI1_ne) | (show wp _ _ _ _ _ _ _ _ _ _ _ _; conv => whnf) | (rw [hcc]) | (simp (disch := omega) only [nI_add, nI_mul]) | (refine hcall _ _ _ _ ?_; first | (refine r_mapsOf hr ?_) | (refine r_mapAt ?_) | fail))
    all_goals (clear hX hcall)
    all_goals first | exact h | (clear h; simp (disch := omega) only [cmpT, cmpF, nI_toI] at *; omega)
end REF3
end
section
/-! THE REFERENCE: room, use, choice -/
def rmK (F : Fm) (r c j : Nat) : Fm := fun i => if mA r c + 16 - j ≤ i ∧ i < mA r c + 16 then F (i - 16) else F i
section REF4
variable {L : Nat} {xs : Nat → Int32} {f k r p c j B b : Nat} {x y v a z name flow place : Int32} {s : St} {F : Fm} {Q : Option MV → St → Prop}
theorem rmK_0 : rmK F r c 0 = F := by
  funext i
  simp only [rmK]
  (repeat' split) <;> first | rfl | omega | (exfalso; omega) | (congr 1; omega)
theorem rmK_s (hj : j < 16 * c) : putF (rmK F r c j) (mA r c + 15 - j) (rmK F r c j (mA r c + 15 - j - 16)) = rmK F r c (j + 1) := by
  have hm : 189 + 16 * c ≤ mA r c := by unfold mA; omega
  funext i
  simp only [rmK, putF]
  (repeat' split) <;> first | rfl | omega | (exfalso; omega) | (congr 1; omega)
theorem rmK_e : rmK F r c (16 * c) = roomF F r c := by
  have hm : mA r c = mA r 1 + 16 * c - 16 := by unfold mA; omega
  have hm2 : 189 + 16 ≤ mA r 1 := by unfold mA; omega
  funext i
  simp only [rmK, roomF]
  (repeat' split) <;> first | rfl | omega | (exfalso; omega) | (congr 1; omega)
set_option maxHeartbeats 4000000 in
set_option maxRecDepth 100000 in
theorem r_makesRoom (hr : r < 4) (hc : c ≤ 4) (h : Q none (setN s (roomF F r c))) : wpM L xs codT retT (f + 2) m_X10_makesRoom [.inr (10, 0), .inl (nI r), .inl (nI c)] (setN s F) Q := by
  have hm : mA r c = mA r 1 + 16 * c - 16 := by unfold mA; omega
  have hm1 : mA r 1 = 205 + 80 * r := by unfold mA; omega
  intro call hcall X hX; refine hX 1000 0 _ _ _ ?_
  repeat' (first | (intro hc) | (refine And.intro ?_ ?_) | (exact absurd nI_0 ‹cmpF 0 (nI 0) 0›) | (exact absurd ‹cmpT 0 (nI 1) 0› nI1_ne) | (exact absurd nI_0 ‹cmpT 1 (nI 0) 0›) | (exact absurd ‹cmpF 1 (nI 1) 0› nI1_ne) | (show wp _ _ _ _ _ _ _ _ _ _ _ _; conv => whnf) | (simp (disch := omega) only [nI_add, nI_mul]) | (refine hcall _ _ _ _ ?_; first | (refine r_mapAt ?_) | fail))
  simp (disch := omega) only [takeL, setL]
  have e0 : setN s F = setN s (rmK F r c 0) := by rw [rmK_0]
  rw [e0]
  refine loopN (P := fun j => X 9 [.inr (10, 0), .inl (nI r), .inl (nI c), .inl (nI (mA r c + 15 - j))] [] (setN s (rmK F r c j))) (16 * c) (fun j hj ih => ?_) ?_ 0 (Nat.zero_le _)
  · refine hX 1000 9 _ _ _ ?_
    repeat' (first | (intro hc) | (refine And.intro ?_ ?_) | (exact absurd nI_0 ‹cmpF 0 (nI 0) 0›) | (exact absurd ‹cmpT 0 (nI 1) 0› nI1_ne) | (exact absurd nI_0 ‹cmpT 1 (nI 0) 0›) | (exact absurd ‹cmpF 1 (nI 1) 0› nI1_ne) | (show wp _ _ _ _ _ _ _ _ _ _ _ _; conv => whnf) | (simp (disch := omega) only [nI_add, nI_mul]) | (refine hcall _ _ _ _ ?_; first | (refine r_mapAt ?_) | fail))
    all_goals (clear hX hcall h)
    all_goals (simp (disch := omega) only [cmpT, cmpF, nI_toI, nI_sub, alen20, setN_now, setN_put, nI_cl, takeL, setL, nI_m1] at *)
    all_goals first
      | omega
      | (rw [rmK_s hj, show mA r c + 15 - j - 1 = mA r c + 15 - (j + 1) by omega]; exact ih)
  · refine hX 1000 9 _ _ _ ?_
    repeat' (first | (intro hc) | (refine And.intro ?_ ?_) | (exact absurd nI_0 ‹cmpF 0 (nI 0) 0›) | (exact absurd ‹cmpT 0 (nI 1) 0› nI1_ne) | (exact absurd nI_0 ‹cmpT 1 (nI 0) 0›) | (exact absurd ‹cmpF 1 (nI 1) 0› nI1_ne) | (show wp _ _ _ _ _ _ _ _ _ _ _ _; conv => whnf) | (simp (disch := omega) only [nI_add, nI_mul]) | (refine hcall _ _ _ _ ?_; first | (refine r_mapAt ?_) | fail))
    all_goals (clear hX hcall)
    all_goals first
      | (rw [rmK_e]; exact h)
      | (clear h; simp (disch := omega) only [cmpT, cmpF, nI_toI] at *; omega)
def usK (F : Fm) (r p m : Nat) : Fm := fun i => if mA r m ≤ i ∧ i < mA r (m + 1) then F (i + 16 * (p - m)) else if mA r (m + 1) ≤ i ∧ i < mA r (p + 1) then F (i - 16) else F i
def swK (G : Fm) (r m k : Nat) : Fm := fun i => if mA r m ≤ i ∧ i < mA r m + k then G (i + 16) else if mA r (m + 1) ≤ i ∧ i < mA r (m + 1) + k then G (i - 16) else G i
theorem usK_p : usK F r p p = F := by
  have hm : mA r (p + 1) = mA r p + 16 := by unfold mA; omega
  funext i
  simp only [usK]
  (repeat' split) <;> first | rfl | omega | (exfalso; omega) | (congr 1; omega)
theorem usK_0 : usK F r p 0 = usesF F r p := by
  funext i
  simp only [usK, usesF]
  (repeat' split) <;> first | rfl | omega | (exfalso; omega) | (congr 1; omega)
theorem swK_0 {G : Fm} : swK G r k 0 = G := by
  funext i
  simp only [swK]
  (repeat' split) <;> first | rfl | omega | (exfalso; omega) | (congr 1; omega)
theorem swK_s {G : Fm} {m : Nat} (hk : k < 16) : putF (putF (swK G r m k) (mA r (m + 1) + k) (swK G r m k (mA r m + k))) (mA r m + k) (swK G r m k (mA r (m + 1) + k)) = swK G r m (k + 1) := by
  have hm : mA r (m + 1) = mA r m + 16 := by unfold mA; omega
  have hm2 : 189 ≤ mA r m := by unfold mA; omega
  funext i
  simp only [swK, putF]
  (repeat' split) <;> first | rfl | omega | (exfalso; omega) | (congr 1; omega)
theorem swK_e {m : Nat} (hm : m < p) : swK (usK F r p (m + 1)) r m 16 = usK F r p m := by
  have hm1 : mA r (m + 1) = mA r m + 16 := by unfold mA; omega
  have hm2 : mA r (m + 1 + 1) = mA r m + 32 := by unfold mA; omega
  have hm3 : mA r (p + 1) = mA r m + 16 * (p - m) + 16 := by unfold mA; omega
  have hm4 : 189 ≤ mA r m := by unfold mA; omega
  funext i
  simp only [swK, usK]
  (repeat' split) <;> first | rfl | omega | (exfalso; omega) | (congr 1; omega)
set_option maxHeartbeats 4000000 in
set_option maxRecDepth 100000 in
theorem r_uses (hr : r < 4) (hp : p < 5) (h : Q none (setN s (usesF F r p))) : wpM L xs codT retT (f + 2) m_X10_uses [.inr (10, 0), .inl (nI r), .inl (nI p)] (setN s F) Q := by
  have hmr : ∀ m, mA r m = 189 + 80 * r + 16 * m := fun m => by unfold mA; omega
  intro call hcall X hX; refine hX 1000 0 _ _ _ ?_
  repeat' (first | (intro hc) | (refine And.intro ?_ ?_) | (exact absurd nI_0 ‹cmpF 0 (nI 0) 0›) | (exact absurd ‹cmpT 0 (nI 1) 0› nI1_ne) | (exact absurd nI_0 ‹cmpT 1 (nI 0) 0›) | (exact absurd ‹cmpF 1 (nI 1) 0› nI1_ne) | (show wp _ _ _ _ _ _ _ _ _ _ _ _; conv => whnf))
  simp (disch := omega) only [takeL, setL]
  have e0 : setN s F = setN s (usK F r p p) := by rw [usK_p]
  rw [e0]
  have loop : ∀ m, m ≤ p → X 2 [.inr (10, 0), .inl (nI r), .inl (nI p), .inl (nI m)] [] (setN s (usK F r p m)) := by
    intro m
    induction m with
    | zero =>
      intro _
      refine hX 1000 2 _ _ _ ?_
      repeat' (first | (intro hc) | (refine And.intro ?_ ?_) | (exact absurd nI_0 ‹cmpF 0 (nI 0) 0›) | (exact absurd ‹cmpT 0 (nI 1) 0› nI1_ne) | (exact absurd nI_0 ‹cmpT 1 (nI 0) 0›) | (exact absurd ‹cmpF 1 (nI 1) 0› nI1_ne) | (show wp _ _ _ _ _ _ _ _ _ _ _ _; conv => whnf))
      all_goals (clear hX hcall)
      all_goals first
        | (rw [usK_0]; exact h)
        | (clear h; simp (disch := omega) only [cmpT, cmpF, nI_toI, Int32.toInt_zero] at *; omega)
    | succ m ih =>
      intro hm
      have ih := ih (by omega)
      have h1 := hmr m
      have h2 := hmr (m + 1)
      refine hX 1000 2 _ _ _ ?_
      repeat' (first | (intro hc) | (refine And.intro ?_ ?_) | (exact absurd nI_0 ‹cmpF 0 (nI 0) 0›) | (exact absurd ‹cmpT 0 (nI 1) 0› nI1_ne) | (exact absurd nI_0 ‹cmpT 1 (nI 0) 0›) | (exact absurd ‹cmpF 1 (nI 1) 0› nI1_ne) | (show wp _ _ _ _ _ _ _ _ _ _ _ _; conv => whnf))
      · simp only [takeL, setL]
        have e1 : setN s (usK F r p (m + 1)) = setN s (swK (usK F r p (m + 1)) r m 0) := by rw [swK_0]
        rw [e1]
        refine loopN (P := fun k => X 9 [.inr (10, 0), .inl (nI r), .inl (nI p), .inl (nI (m + 1)), .inl (nI k)] [] (setN s (swK (usK F r p (m + 1)) r m k))) 16 (fun k hk ih2 => ?_) ?_ 0 (by omega)
        · clear e1 h
          refine hX 1000 9 _ _ _ ?_
          repeat' (first | (intro hc) | (refine And.intro ?_ ?_) | (exact absurd nI_0 ‹cmpF 0 (nI 0) 0›) | (exact absurd ‹cmpT 0 (nI 1) 0› nI1_ne) | (exact absurd nI_0 ‹cmpT 1 (nI 0) 0›) | (exact absurd ‹cmpF 1 (nI 1) 0› nI1_ne) | (show wp _ _ _ _ _ _ _ _ _ _ _ _; conv => whnf) | (simp (disch := omega) only [nI_sub, Nat.add_sub_cancel]) | (simp (disch := omega) only [nI_add, nI_mul]) | (refine hcall _ _ _ _ ?_; first | (refine r_mapAt ?_) | fail))
          all_goals (clear hX hcall)
          all_goals (simp (disch := omega) only [cmpT, cmpF, nI_toI, nI_sub, alen20, setN_now, setN_put, nI_cl, takeL, setL, nI_add] at *)
          all_goals first
            | omega
            | (rw [swK_s hk]; exact ih2)
        · clear e1 h
          refine hX 1000 9 _ _ _ ?_
          repeat' (first | (intro hc) | (refine And.intro ?_ ?_) | (exact absurd nI_0 ‹cmpF 0 (nI 0) 0›) | (exact absurd ‹cmpT 0 (nI 1) 0› nI1_ne) | (exact absurd nI_0 ‹cmpT 1 (nI 0) 0›) | (exact absurd ‹cmpF 1 (nI 1) 0› nI1_ne) | (show wp _ _ _ _ _ _ _ _ _ _ _ _; conv => whnf) | (simp (disch := omega) only [nI_add, nI_mul]) | (refine hcall _ _ _ _ ?_; first | (refine r_mapAt ?_) | fail))
          all_goals (clear hX hcall)
          all_goals (simp (disch := omega) only [cmpT, cmpF, nI_toI, takeL, setL, nI_m1, Nat.add_sub_cancel] at *)
          all_goals first
            | omega
            | (rw [swK_e (by omega)]; exact ih)
      · clear h; simp (disch := omega) only [cmpT, cmpF, nI_toI, Int32.toInt_zero] at *; omega
  exact loop p (Nat.le_refl _)
set_option maxHeartbeats 4000000 in
set_option maxRecDepth 100000 in
theorem r_isAt (hk : k < 8) (h : Q (some (.inl (bI (isAtF F k place)))) (setN s F)) : wpM L xs codT retT (f + 5) m_X10_isAt [.inr (10, 0), .inl (nI k), .inl place] (setN s F) Q := by
  intro call hcall X hX; refine hX 1000 0 _ _ _ ?_
  repeat' (first | (intro hc) | (refine And.intro ?_ ?_) | (exact absurd nI_0 ‹cmpF 0 (nI 0) 0›) | (exact absurd ‹cmpT 0 (nI 1) 0› nI1_ne) | (exact absurd nI_0 ‹cmpT 1 (nI 0) 0›) | (exact absurd ‹cmpF 1 (nI 1) 0› nI1_ne) | (show wp _ _ _ _ _ _ _ _ _ _ _ _; conv => whnf))
  refine loopN (P := fun j => X 5 [.inr (10, 0), .inl (nI k), .inl place, .inl (bI (atB F k place j = true)), .inl (nI j)] [] (setN s F)) 3 (fun j hj ih => ?_) ?_ 0 (by omega)
  · refine hX 1000 5 _ _ _ ?_
    repeat' (first | (intro hc) | (refine And.intro ?_ ?_) | (exact absurd nI_0 ‹cmpF 0 (nI 0) 0›) | (exact absurd ‹cmpT 0 (nI 1) 0› nI1_ne) | (exact absurd nI_0 ‹cmpT 1 (nI 0) 0›) | (exact absurd ‹cmpF 1 (nI 1) 0› nI1_ne) | (show wp _ _ _ _ _ _ _ _ _ _ _ _; conv => whnf) | (simp (disch := omega) only [nI_add, nI_mul]) | (refine hcall _ _ _ _ ?_; first | (refine r_siteAt ?_) | fail))
    all_goals (clear hX hcall h)
    all_goals (simp (disch := omega) only [cmpT, cmpF, nI_toI, alen20, bI_eq0, bI_ne0, Classical.not_not, takeL, setL, nI_add, nI_mul, setN_now, nI_cl] at *)
    all_goals first
      | omega
      | (rw [show bI (atB F k place (j + 1) = true) = nI 1 from if_pos (by rw [atB]; simp_all)] at ih; exact ih)
      | (rw [show bI (atB F k place (j + 1) = true) = nI 0 from if_neg (by rw [atB]; simp_all)] at ih; exact ih)
  · have e : atB F k place 3 = true ↔ ((F (29 + 17 * k + 5) = nI 1 ∧ F (29 + 17 * k + 6) = place) ∨ (F (29 + 17 * k + 9) = nI 1 ∧ F (29 + 17 * k + 10) = place) ∨ (F (29 + 17 * k + 13) = nI 1 ∧ F (29 + 17 * k + 14) = place)) := by
      simp only [atB, Bool.or_eq_true, Bool.and_eq_true, decide_eq_true_eq, Bool.false_eq_true, false_or, or_assoc, Nat.mul_zero, Nat.add_zero, Nat.mul_one]
    refine hX 1000 5 _ _ _ ?_
    repeat' (first | (intro hc) | (refine And.intro ?_ ?_) | (exact absurd nI_0 ‹cmpF 0 (nI 0) 0›) | (exact absurd ‹cmpT 0 (nI 1) 0› nI1_ne) | (exact absurd nI_0 ‹cmpT 1 (nI 0) 0›) | (exact absurd ‹cmpF 1 (nI 1) 0› nI1_ne) | (show wp _ _ _ _ _ _ _ _ _ _ _ _; conv => whnf) | (simp (disch := omega) only [nI_add, nI_mul]) | (refine hcall _ _ _ _ ?_; first | (refine r_isUp (by omega) ?_) | fail))
    all_goals (clear hX hcall)
    all_goals (simp (disch := omega) only [cmpT, cmpF, nI_toI, bI_eq0, bI_ne0, Classical.not_not, e] at *)
    all_goals first | omega | decide | (refine bI_1 h ?_; exact ⟨by assumption, by assumption⟩) | (refine bI_0 h ?_; rintro ⟨q1, q2⟩; contradiction)
set_option maxHeartbeats 4000000 in
set_option maxRecDepth 100000 in
theorem r_chosen (hb : b + 12 ≤ 509) (h : Q (some (.inl (choF F b flow))) (setN s F)) : wpM L xs codT retT (f + 1) m_X10_chosen [.inr (10, 0), .inl (nI b), .inl flow] (setN s F) Q := by
  intro call hcall X hX; refine hX 1000 0 _ _ _ ?_
  repeat' (first | (intro hc) | (refine And.intro ?_ ?_) | (exact absurd nI_0 ‹cmpF 0 (nI 0) 0›) | (exact absurd ‹cmpT 0 (nI 1) 0› nI1_ne) | (exact absurd nI_0 ‹cmpT 1 (nI 0) 0›) | (exact absurd ‹cmpF 1 (nI 1) 0› nI1_ne) | (show wp _ _ _ _ _ _ _ _ _ _ _ _; conv => whnf))
  refine loopN (P := fun k => X 9 [.inr (10, 0), .inl (nI b), .inl flow, .inl (lsN F b k).1, .inl (lsN F b k).2, .inl (nI k)] [] (setN s F)) 3 (fun k hk ih => ?_) ?_ 0 (by omega)
  · refine hX 1000 9 _ _ _ ?_
    repeat' (first | (intro hc) | (refine And.intro ?_ ?_) | (exact absurd nI_0 ‹cmpF 0 (nI 0) 0›) | (exact absurd ‹cmpT 0 (nI 1) 0› nI1_ne) | (exact absurd nI_0 ‹cmpT 1 (nI 0) 0›) | (exact absurd ‹cmpF 1 (nI 1) 0› nI1_ne) | (show wp _ _ _ _ _ _ _ _ _ _ _ _; conv => whnf))
    all_goals (clear hX hcall h)
    all_goals (simp (disch := omega) only [cmpT, cmpF, nI_toI, alen20, Classical.not_not, takeL, setL, nI_add, nI_mul, setN_now, nI_cl] at *)
    all_goals first
      | omega
      | (rw [lsN, if_pos ⟨by assumption, by omega⟩, if_pos (by omega)] at ih; exact ih)
      | (rw [lsN, if_pos ⟨by assumption, by omega⟩, if_neg (by omega)] at ih; exact ih)
      | (rw [lsN, if_neg (by rintro ⟨q1, q2⟩; first | contradiction | omega)] at ih; exact ih)
  · have l2 : ∀ n k left, n + k = 3 → Q (some (.inl (choN F b (lsN F b 3).1 n k left))) (setN s F) → X 120 [.inr (10, 0), .inl (nI b), .inl flow, .inl (lsN F b 3).1, .inl (lsN F b 3).2, .inl left, .inl (nI k)] [] (setN s F) := by
      clear h
      intro n
      induction n with
      | zero =>
        intro k left hk h
        refine hX 1000 120 _ _ _ ?_
        repeat' (first | (intro hc) | (refine And.intro ?_ ?_) | (exact absurd nI_0 ‹cmpF 0 (nI 0) 0›) | (exact absurd ‹cmpT 0 (nI 1) 0› nI1_ne) | (exact absurd nI_0 ‹cmpT 1 (nI 0) 0›) | (exact absurd ‹cmpF 1 (nI 1) 0› nI1_ne) | (show wp _ _ _ _ _ _ _ _ _ _ _ _; conv => whnf))
        all_goals (clear hX hcall)
        all_goals first | exact h | (clear h; simp (disch := omega) only [cmpT, cmpF, nI_toI] at *; omega)
      | succ n ih =>
        intro k left hk h
        have ih := ih (k + 1)
        refine hX 1000 120 _ _ _ ?_
        repeat' (first | (intro hc) | (refine And.intro ?_ ?_) | (exact absurd nI_0 ‹cmpF 0 (nI 0) 0›) | (exact absurd ‹cmpT 0 (nI 1) 0› nI1_ne) | (exact absurd nI_0 ‹cmpT 1 (nI 0) 0›) | (exact absurd ‹cmpF 1 (nI 1) 0› nI1_ne) | (show wp _ _ _ _ _ _ _ _ _ _ _ _; conv => whnf))
        all_goals (clear hX hcall)
        all_goals (simp (disch := omega) only [cmpT, cmpF, nI_toI, alen20, Classical.not_not, takeL, setL, nI_add, nI_mul, setN_now, nI_cl, Int32.toInt_zero] at *)
        all_goals first
          | omega
          | (rw [choN, if_pos ⟨by assumption, by assumption⟩, if_pos (by omega)] at h; exact h)
          | (rw [choN, if_pos ⟨by assumption, by assumption⟩, if_neg (by omega)] at h; exact ih _ (by omega) h)
          | (rw [choN, if_neg (by rintro ⟨q1, q2⟩; contradiction)] at h; exact ih _ (by omega) h)
    refine hX 1000 9 _ _ _ ?_
    repeat' (first | (intro hc) | (refine And.intro ?_ ?_) | (exact absurd nI_0 ‹cmpF 0 (nI 0) 0›) | (exact absurd ‹cmpT 0 (nI 1) 0› nI1_ne) | (exact absurd nI_0 ‹cmpT 1 (nI 0) 0›) | (exact absurd ‹cmpF 1 (nI 1) 0› nI1_ne) | (show wp _ _ _ _ _ _ _ _ _ _ _ _; conv => whnf))
    all_goals (simp (disch := omega) only [cmpT, cmpF, nI_toI, alen20, Classical.not_not, takeL, setL, nI_add, nI_mul, setN_now, nI_cl, Int32.toInt_zero] at *)
    all_goals first
      | omega
      | contradiction
      | assumption
      | (refine l2 3 0 _ rfl ?_; rw [choF, if_pos (by assumption)] at h; exact h)
      | (refine l2 3 0 _ rfl ?_; rw [choF, if_neg (by assumption)] at h; exact h)
end REF4
end
section
/-! what does not change, when other numbers change -/
section CG
variable {k r p c j B b n : Nat} {x y v a z name flow place : Int32} {F G : Fm}
theorem homeN_cg (h : ∀ i, i < 29 → G i = F i) : ∀ n, n < 8 → homeN G a z n = homeN F a z n := by
  intro n
  induction n with
  | zero => intro _; rfl
  | succ n ih =>
    intro hn
    have h3 := homeN_le (F := F) (a := a) (z := z) n
    unfold homeN holdF
    rw [ih (by omega), h (5 + 3 * (n + 1) + 1) (by omega), h (5 + 3 * (n + 1) + 2) (by omega), h (5 + 3 * homeN F a z n + 2) (by omega)]
theorem homeF_cg (hw : WF F B) (h : ∀ i, i < 29 → G i = F i) : homeF G a z = homeF F a z := by
  have h2 := hw.s2
  unfold homeF
  have e : cS G = cS F := by unfold cS; rw [h 1 (by omega)]
  rw [e, homeN_cg h _ (by omega)]
theorem wayF_cg (hw : WF F B) (h : ∀ i, i < 29 → G i = F i) (hk : k < cS F) : wayF G k = wayF F k := by
  have h2 := hw.s2
  have : ∀ m k, k < cS F → wayN G m k = wayN F m k := by
    intro m
    induction m with
    | zero => intro k _; rfl
    | succ m ih =>
      intro k hk
      unfold wayN
      by_cases h0 : k = 0
      · rw [if_pos h0, if_pos h0]
      · rw [if_neg h0, if_neg h0, h (5 + 3 * k) (by omega)]
        obtain ⟨p, h1, h3⟩ := hw.par k (by omega) hk
        have e : nn (F (5 + 3 * k)) = p := by rw [h3]; exact nI_cl (by omega)
        rw [e, ih p (by omega)]
  exact this 8 k hk
theorem upF_cg (h : ∀ i, i < 165 → G i = F i) (hk : k < 8) : upF G k ↔ upF F k := by
  unfold upF
  rw [h 0 (by omega), h (29 + 17 * k + 4) (by omega), h (29 + 17 * k + 5) (by omega), h (29 + 17 * k + 9) (by omega), h (29 + 17 * k + 13) (by omega)]
theorem ansF_cg (hw : WF F B) (h : ∀ i, i < 165 → G i = F i) : ansF G name = ansF F name := by
  have h2 := hw.t2
  have e : cT G = cT F := by unfold cT; rw [h 2 (by omega)]
  have : ∀ n, n ≤ 8 → ansN G name n = ansN F name n := by
    intro n
    induction n with
    | zero => intro _; rfl
    | succ n ih =>
      intro hn
      have hlt := ansN_lt (F := F) (name := name) n
      have e1 : betB G n (ansN G name n) = betB F n (ansN F name n) := by
        rw [ih (by omega)]
        cases ho : ansN F name n with
        | none => rfl
        | some b =>
          have := hlt b ho
          simp only [betB]
          rw [h (29 + 17 * n + 1) (by omega), h (29 + 17 * b + 1) (by omega)]
      unfold ansN
      rw [e1, ih (by omega)]
      have e2 : (upF G n ∧ hasF G n name ∧ homeF G (G (29 + 17 * n)) (G (29 + 17 * n + 1)) = homeF G name (nI 1)) ↔ (upF F n ∧ hasF F n name ∧ homeF F (F (29 + 17 * n)) (F (29 + 17 * n + 1)) = homeF F name (nI 1)) := by
        rw [upF_cg h (by omega), homeF_cg hw (fun i hi => h i (by omega)), homeF_cg hw (fun i hi => h i (by omega))]
        unfold hasF
        rw [h (29 + 17 * n) (by omega), h (29 + 17 * n + 1) (by omega)]
      by_cases hc : (upF F n ∧ hasF F n name ∧ homeF F (F (29 + 17 * n)) (F (29 + 17 * n + 1)) = homeF F name (nI 1)) ∧ betB F n (ansN F name n) = true
      · rw [if_pos hc, if_pos ⟨e2.mpr hc.1, hc.2⟩]
      · rw [if_neg hc, if_neg (fun q => hc ⟨e2.mp q.1, q.2⟩)]
  unfold ansF
  rw [e, this _ h2]
theorem slotOk_cg (h : ∀ i, b ≤ i → i < b + 4 → G i = F i) : slotOk F b → slotOk G b := by
  intro q
  unfold slotOk at q ⊢
  rw [h b (by omega) (by omega), h (b + 1) (by omega) (by omega), h (b + 2) (by omega) (by omega), h (b + 3) (by omega) (by omega)]
  exact q
theorem WFmap_cg (h : ∀ i, mA r p ≤ i → i < mA r p + 16 → G i = F i) (hT : cT G = cT F) (q : WFmap F r p) : WFmap G r p := by
  obtain ⟨q1, q2, q3, q4⟩ := q
  have e0 := h (mA r p) (by omega) (by omega)
  have e3 := h (mA r p + 3) (by omega) (by omega)
  refine ⟨by rw [e0]; exact q1, by rw [e0, hT]; exact q2, by rw [e3]; exact q3, fun j hj => slotOk_cg (fun i h1 h2 => h i (by omega) (by omega)) (q4 j hj)⟩
/-- the numbers below 165 are the same, and each router is well -/
theorem WF_upd (hw : WF F B) (h : ∀ i, i < 165 → G i = F i) (hr : ∀ r, r < cR F → WFrouter G r) : WF G B := by
  have e1 : cS G = cS F := by unfold cS; rw [h 1 (by omega)]
  have e2 : cT G = cT F := by unfold cT; rw [h 2 (by omega)]
  have e3 : cR G = cR F := by unfold cR; rw [h 3 (by omega)]
  have hs := hw.s2
  have ht := hw.t2
  refine ⟨?_, ?_, ?_, ?_, ?_, fun k hk => ?_, fun k hk => ?_, fun r hk => hr r (by omega)⟩
  · rw [h 1 (by omega), e1]; exact hw.1
  · rw [h 2 (by omega), e2]; exact hw.2.1
  · rw [h 3 (by omega), e3]; exact hw.2.2.1
  · rw [h 0 (by omega)]; exact hw.h
  · rw [h 4 (by omega)]; exact hw.l
  · rw [e1] at hk
    have q := hw.server hk
    unfold WFserver at q ⊢
    rw [h (5 + 3 * k) (by omega), h (5 + 3 * k + 1) (by omega), h (5 + 3 * k + 2) (by omega)]
    exact q
  · rw [e2] at hk
    have q := hw.site hk
    unfold WFsite at q ⊢
    rw [h (29 + 17 * k) (by omega), h (29 + 17 * k + 1) (by omega), h (29 + 17 * k + 2) (by omega), h (29 + 17 * k + 3) (by omega), h (29 + 17 * k + 4) (by omega)]
    exact ⟨q.1, q.2.1, q.2.2.1, q.2.2.2.1, fun j hj => slotOk_cg (fun i h1 h2 => h i (by omega)) (q.2.2.2.2 j hj)⟩
theorem WFrouter_cg (hT : cT G = cT F) (h0 : G (165 + 6 * r) = F (165 + 6 * r)) (h : ∀ i, mA r 0 ≤ i → i < mA r 5 → G i = F i) (q : WFrouter F r) : WFrouter G r := by
  obtain ⟨q1, q2, q3, q4⟩ := q
  have hm : ∀ p, mA r p = mA r 0 + 16 * p := fun p => by unfold mA; omega
  have e : cM G r = cM F r := by unfold cM; rw [h0]
  have h5 := hm 5
  refine ⟨by rw [e, h0]; exact q1, by rw [e]; exact q2, fun p hp => WFmap_cg (fun i a b => h i (by have := hm p; omega) (by have := hm p; omega)) hT (q3 p (by omega)), fun p1 p2 a b => ?_⟩
  have g1 := hm p1
  have g2 := hm p2
  rw [h (mA r p1) (by omega) (by omega), h (mA r p2) (by omega) (by omega)]
  exact q4 p1 p2 (by omega) (by omega)
/-- only counters of router r change -/
theorem WF_cnt (hw : WF F B) (hr : r < 4) (h : ∀ i, (i ≤ 165 + 6 * r ∨ 165 + 6 * r + 6 ≤ i) → G i = F i) : WF G B := by
  refine WF_upd hw (fun i hi => h i (by omega)) (fun r' hr' => ?_)
  have h4 := hw.r2
  have hm : mA r' 0 = 189 + 80 * r' := by unfold mA; omega
  refine WFrouter_cg (by unfold cT; rw [h 2 (by omega)]) (h _ (by omega)) (fun i a b => h i (by omega)) (hw.router hr')
end CG
end
section
/-! the maps of a router, moved: all stays well -/
section WO
variable {i k r p q c j B b n : Nat} {x y v a z name flow place : Int32} {F G : Fm}
theorem WFmap_sh (h : ∀ j, j < 16 → G (mA r q + j) = F (mA r p + j)) (hT : cT G = cT F) (w : WFmap F r p) : WFmap G r q := by
  obtain ⟨q1, q2, q3, q4⟩ := w
  have e0 : G (mA r q) = F (mA r p) := h 0 (by omega)
  have e3 := h 3 (by omega)
  refine ⟨by rw [e0]; exact q1, by rw [e0, hT]; exact q2, by rw [e3]; exact q3, fun j hj => ?_⟩
  have := q4 j hj
  unfold slotOk at this ⊢
  have g0 := h (4 + 4 * j) (by omega)
  have g1 := h (4 + 4 * j + 1) (by omega)
  have g2 := h (4 + 4 * j + 2) (by omega)
  have g3 := h (4 + 4 * j + 3) (by omega)
  simp only [← Nat.add_assoc] at g0 g1 g2 g3
  rw [g0, g1, g2, g3]
  exact this
theorem WFr_map (hT : cT G = cT F) (hc : G (165 + 6 * r) = nI (cM G r)) (h5 : cM G r ≤ 5) (sg : Nat → Nat) (h : ∀ q, q < cM G r → sg q < cM F r ∧ ∀ j, j < 16 → G (mA r q + j) = F (mA r (sg q) + j)) (hi : ∀ q1 q2, q1 < cM G r → q2 < cM G r → sg q1 = sg q2 → q1 = q2) (w : WFrouter F r) : WFrouter G r := by
  refine ⟨hc, h5, fun q hq => WFmap_sh (h q hq).2 hT (w.2.2.1 _ (h q hq).1), fun q1 q2 a b e => ?_⟩
  have e1 : G (mA r q1) = F (mA r (sg q1)) := (h q1 a).2 0 (by omega)
  have e2 : G (mA r q2) = F (mA r (sg q2)) := (h q2 b).2 0 (by omega)
  exact hi q1 q2 a b (w.2.2.2 _ _ (h q1 a).1 (h q2 b).1 (by rw [← e1, ← e2]; exact e))
theorem mA_eq (r p : Nat) : mA r p = 189 + 80 * r + 16 * p := by unfold mA; omega
theorem drops_lo (h : i < 165) : dropsF F r p i = F i := by
  have h1 := mA_eq r p
  simp only [dropsF]
  (repeat' split) <;> first | rfl | omega | (exfalso; omega) | (congr 1; omega)
theorem drops_c (w : WFrouter F r) (h1 : 0 < cM F r) : dropsF F r p (165 + 6 * r) = nI (cM F r - 1) ∧ cM (dropsF F r p) r = cM F r - 1 := by
  have e : dropsF F r p (165 + 6 * r) = nI (cM F r - 1) := by
    show (if 165 + 6 * r = 165 + 6 * r then F (165 + 6 * r) - nI 1 else _) = _
    rw [if_pos rfl]
    have h2 := w.1
    have h3 := w.2.1
    rw [h2, nI_sub (by omega) (by omega)]
  refine ⟨e, ?_⟩
  have h3 := w.2.1
  show nn (dropsF F r p (165 + 6 * r)) = _
  rw [e]
  exact nI_cl (by omega)
theorem drops_map (hr : r < 4) (hq : q < cM F r - 1) (hj : j < 16) : dropsF F r p (mA r q + j) = F (mA r (if p ≤ q then q + 1 else q) + j) := by
  have h1 := mA_eq r p
  have h2 := mA_eq r q
  have h3 := mA_eq r (cM F r - 1)
  have h4 := mA_eq r (q + 1)
  simp only [dropsF]
  by_cases hp : p ≤ q
  · rw [if_pos hp, if_neg (by omega), if_pos (by omega)]
    congr 1
    omega
  · rw [if_neg hp, if_neg (by omega), if_neg (by omega)]
theorem drops_o (hr : r < 4) (hi : i ≠ 165 + 6 * r) (h5 : cM F r ≤ 5) (hm : i < mA r 0 ∨ mA r 5 ≤ i) : dropsF F r p i = F i := by
  have h1 := mA_eq r p
  have h2 := mA_eq r 0
  have h3 := mA_eq r (cM F r - 1)
  have h4 := mA_eq r 5
  simp only [dropsF]
  rw [if_neg hi, if_neg (by omega)]
theorem WFr_drop (hr : r < 4) (w : WFrouter F r) (hp : p < cM F r) : WFrouter (dropsF F r p) r := by
  obtain ⟨e1, e2⟩ := drops_c (p := p) w (by omega)
  have h5 := w.2.1
  refine WFr_map (by unfold cT; rw [drops_lo (by omega)]) (by rw [e1, e2]) (by omega) (fun q => if p ≤ q then q + 1 else q) (fun q hq => ?_) (fun q1 q2 a b e => ?_) w
  · rw [e2] at hq
    exact ⟨by split <;> omega, fun j hj => drops_map hr hq hj⟩
  · split at e <;> split at e <;> omega
theorem WF_drop (hw : WF F B) (hr : r < cR F) (hp : p < cM F r) : WF (dropsF F r p) B := by
  have h4 := hw.r2
  refine WF_upd hw (fun i hi => drops_lo hi) (fun r' hr' => ?_)
  by_cases e : r' = r
  · subst e; exact WFr_drop (by omega) (hw.router hr) hp
  · have h1 := mA_eq r' 0
    have h2 := mA_eq r' 5
    have h3 := mA_eq r 0
    have h6 := mA_eq r 5
    have h7 := (hw.router hr).2.1
    exact WFrouter_cg (by unfold cT; rw [drops_lo (by omega)]) (drops_o (by omega) (by omega) h7 (by omega)) (fun i a b => drops_o (by omega) (by omega) h7 (by omega)) (hw.router hr')
theorem uses_lo (h : i < 189) : usesF F r p i = F i := by
  have h1 := mA_eq r 0
  have h2 := mA_eq r 1
  simp only [usesF]
  rw [if_neg (by omega), if_neg (by omega)]
theorem uses_o (hm : i < mA r 0 ∨ mA r (p + 1) ≤ i) : usesF F r p i = F i := by
  have h1 := mA_eq r 0
  have h2 := mA_eq r 1
  have h3 := mA_eq r (p + 1)
  simp only [usesF]
  rw [if_neg (by omega), if_neg (by omega)]
theorem uses_map (hj : j < 16) : usesF F r p (mA r q + j) = F (mA r (if q = 0 then p else if q ≤ p then q - 1 else q) + j) := by
  have h1 := mA_eq r p
  have h2 := mA_eq r q
  have h3 := mA_eq r 0
  have h4 := mA_eq r 1
  have h5 := mA_eq r (p + 1)
  have h6 := mA_eq r (q - 1)
  simp only [usesF]
  by_cases h0 : q = 0
  · rw [if_pos h0, if_pos (by omega)]
    congr 1
    omega
  · rw [if_neg h0, if_neg (by omega)]
    by_cases hp : q ≤ p
    · rw [if_pos hp, if_pos (by omega)]
      congr 1
      omega
    · rw [if_neg hp, if_neg (by omega)]
theorem uses_c : cM (usesF F r p) r = cM F r := by
  have h1 := mA_eq r 0
  unfold cM
  rw [uses_o (by omega)]
theorem WF_uses (hw : WF F B) (hr : r < cR F) (hp : p < cM F r) : WF (usesF F r p) B := by
  have h4 := hw.r2
  have hT : cT (usesF F r p) = cT F := by unfold cT; rw [uses_lo (by omega)]
  refine WF_upd hw (fun i hi => uses_lo (by omega)) (fun r' hr' => ?_)
  have h1 := mA_eq r' 0
  have h2 := mA_eq r' 5
  have h3 := mA_eq r 0
  have h6 := mA_eq r (p + 1)
  have h7 := (hw.router hr).2.1
  by_cases e : r' = r
  · subst e
    have w := hw.router hr
    refine WFr_map hT (by rw [uses_c, uses_lo (by omega)]; exact w.1) (by rw [uses_c]; exact h7) (fun q => if q = 0 then p else if q ≤ p then q - 1 else q) (fun q hq => ?_) (fun q1 q2 a b e => ?_) w
    · rw [uses_c] at hq
      exact ⟨by split <;> (try split) <;> omega, fun j hj => uses_map hj⟩
    · split at e <;> split at e <;> (try split at e) <;> (try split at e) <;> omega
  · exact WFrouter_cg hT (uses_lo (by omega)) (fun i a b => uses_o (by omega)) (hw.router hr')
end WO
end
section
/-! THE REFERENCE: asking -/
section REF5
variable {L : Nat} {xs : Nat → Int32} {f i k r p q c j n B b : Nat} {x y v a z name flow place : Int32} {s : St} {F G : Fm} {Q : Option MV → St → Prop}
theorem asked_o (h : i ≠ 165 + 6 * r + 1) (h2 : i ≠ 165 + 6 * r + 2) : askedF F r name i = F i := by
  simp only [askedF]
  rw [if_neg h, if_neg h2]
theorem asked_put (hw : WF F B) (hr : r < 4) : putF (putF F (165 + 6 * r + 1) (F (165 + 6 * r + 1) + nI 1)) (165 + 6 * r + 2) (putF F (165 + 6 * r + 1) (F (165 + 6 * r + 1) + nI 1) (165 + 6 * r + 2) + nI (wayF (putF F (165 + 6 * r + 1) (F (165 + 6 * r + 1) + nI 1)) (homeF (putF F (165 + 6 * r + 1) (F (165 + 6 * r + 1) + nI 1)) name (nI 1)))) = askedF F r name := by
  have hlo : ∀ i, i < 29 → putF F (165 + 6 * r + 1) (F (165 + 6 * r + 1) + nI 1) i = F i := fun i hi => putF_ne _ _ (by omega)
  rw [homeF_cg hw hlo, wayF_cg hw hlo (homeF_ltS hw)]
  funext i
  simp only [putF, askedF]
  (repeat' split) <;> first | rfl | omega | (exfalso; omega) | (subst_vars; rfl)
theorem WF_asked (hw : WF F B) (hr : r < 4) : WF (askedF F r name) B := WF_cnt hw hr (fun i hi => asked_o (by omega) (by omega))
theorem purge_le : ∀ n F, n ≤ cM F r → WF F B → r < cR F → WF (purgeF r k n F) B ∧ cM (purgeF r k n F) r ≤ cM F r ∧ ∀ i, i < 165 → purgeF r k n F i = F i := by
  intro n
  induction n with
  | zero => intro F _ hw hr; exact ⟨hw, Nat.le_refl _, fun _ _ => rfl⟩
  | succ n ih =>
    intro F hn hw hr
    have h4 := hw.r2
    unfold purgeF
    by_cases h : F (mA r n) = nI k
    · rw [if_pos h]
      have w := WF_drop hw hr (p := n) (by omega)
      obtain ⟨e1, e2⟩ := drops_c (p := n) (hw.router hr) (by omega)
      have e3 : cR (dropsF F r n) = cR F := by unfold cR; rw [drops_lo (by omega)]
      obtain ⟨g1, g2, g3⟩ := ih (dropsF F r n) (by omega) w (by omega)
      exact ⟨g1, by omega, fun i hi => by rw [g3 i hi, drops_lo hi]⟩
    · rw [if_neg h]
      exact ih F (by omega) hw hr
/-- behind the purge no map of site k is left -/
theorem purge_no : ∀ n F, n ≤ cM F r → WF F B → r < cR F → (∀ p, n ≤ p → p < cM F r → F (mA r p) ≠ nI k) → ∀ p, p < cM (purgeF r k n F) r → purgeF r k n F (mA r p) ≠ nI k := by
  intro n
  induction n with
  | zero => intro F _ hw hr h p hp; exact h p (by omega) hp
  | succ n ih =>
    intro F hn hw hr hno
    have h4 := hw.r2
    unfold purgeF
    by_cases h : F (mA r n) = nI k
    · rw [if_pos h]
      have w := WF_drop hw hr (p := n) (by omega)
      obtain ⟨e1, e2⟩ := drops_c (p := n) (hw.router hr) (by omega)
      have e3 : cR (dropsF F r n) = cR F := by unfold cR; rw [drops_lo (by omega)]
      refine ih (dropsF F r n) (by omega) w (by omega) (fun p h1 h2 => ?_)
      have e5 : dropsF F r n (mA r p) = F (mA r (if n ≤ p then p + 1 else p)) := drops_map (j := 0) (by omega) (by omega) (by omega)
      rw [e5, if_pos h1]
      exact hno _ (by omega) (by omega)
    · rw [if_neg h]
      refine ih F (by omega) hw hr (fun p h1 h2 => ?_)
      rcases Nat.lt_or_ge n p with g | g
      · exact hno p (by omega) h2
      · have : p = n := by omega
        rw [this]; exact h
def cutF (F : Fm) (r k : Nat) : Fm := if cM (purgeF r k (cM F r) F) r = 5 then dropsF (purgeF r k (cM F r) F) r 4 else purgeF r k (cM F r) F
theorem newF_eq : newF F r k = fillF (roomF (cutF F r k) r (cM (cutF F r k) r)) r k := rfl
theorem cut_ok (hw : WF F B) (hr : r < cR F) : WF (cutF F r k) B ∧ cM (cutF F r k) r ≤ 4 ∧ (∀ i, i < 165 → cutF F r k i = F i) ∧ ∀ p, p < cM (cutF F r k) r → cutF F r k (mA r p) ≠ nI k := by
  have h4 := hw.r2
  obtain ⟨g1, g2, g3⟩ := purge_le (k := k) (cM F r) F (Nat.le_refl _) hw hr
  have g4 := purge_no (k := k) (cM F r) F (Nat.le_refl _) hw hr (fun p a b => absurd a (by omega))
  have e3 : cR (purgeF r k (cM F r) F) = cR F := by unfold cR; rw [g3 3 (by omega)]
  have g5 := (g1.router (r := r) (by omega)).2.1
  unfold cutF
  by_cases h : cM (purgeF r k (cM F r) F) r = 5
  · rw [if_pos h]
    obtain ⟨e1, e2⟩ := drops_c (p := 4) (g1.router (r := r) (by omega)) (by omega)
    refine ⟨WF_drop g1 (by omega) (by omega), by omega, fun i hi => by rw [drops_lo hi, g3 i hi], fun p hp => ?_⟩
    have e5 : dropsF (purgeF r k (cM F r) F) r 4 (mA r p) = purgeF r k (cM F r) F (mA r (if 4 ≤ p then p + 1 else p)) := drops_map (j := 0) (by omega) (by omega) (by omega)
    rw [e5]
    apply g4
    split <;> omega
  · rw [if_neg h]
    exact ⟨g1, by omega, g3, g4⟩
end REF5
end
section
/-! THE REFERENCE: a new map -/
def newM (F : Fm) (k j : Nat) : Int32 := if j = 0 then nI k else if j = 1 then F (29 + 17 * k + 3) else if j = 2 then F 0 + F 4 else if j = 3 then nI 0 else F (29 + 17 * k + 5 + (j - 4))
section REF6
variable {L : Nat} {xs : Nat → Int32} {f i k r p q c j n B b : Nat} {x y v a z name flow place : Int32} {s : St} {F G : Fm} {Q : Option MV → St → Prop}
theorem fr_lo (h : i < 165) : fillF (roomF G r c) r k i = G i := by
  have h1 := mA_eq r 0
  have h2 := mA_eq r 1
  simp only [fillF, roomF]
  rw [if_neg (by omega), if_neg (by omega), if_neg (by omega), if_neg (by omega), if_neg (by omega), if_neg (by omega), if_neg (by omega)]
theorem fr_o (hr : r < 4) (h : i ≠ 165 + 6 * r) (hm : i < mA r 0 ∨ mA r (c + 1) ≤ i) : fillF (roomF G r c) r k i = G i := by
  have h1 := mA_eq r 0
  have h2 := mA_eq r 1
  have h3 := mA_eq r (c + 1)
  have h4 := mA_eq r c
  simp only [fillF, roomF]
  rw [if_neg (by omega), if_neg (by omega), if_neg (by omega), if_neg (by omega), if_neg (by omega), if_neg (by omega), if_neg (by omega)]
theorem fr_c (hr : r < 4) : fillF (roomF G r c) r k (165 + 6 * r) = G (165 + 6 * r) + nI 1 := by
  have h2 := mA_eq r 1
  show (if 165 + 6 * r = 165 + 6 * r then roomF G r c (165 + 6 * r) + nI 1 else _) = _
  rw [if_pos rfl]
  simp only [roomF]
  rw [if_neg (by omega)]
theorem fr_0 (hr : r < 4) (hk : k < 8) (hj : j < 16) : fillF (roomF G r c) r k (mA r 0 + j) = newM G k j := by
  have h1 := mA_eq r 0
  have h2 := mA_eq r 1
  have e : ∀ i, i < 165 → roomF G r c i = G i := fun i hi => by
    simp only [roomF]
    rw [if_neg (by omega)]
  simp only [fillF, newM]
  rw [if_neg (by omega)]
  by_cases h0 : j = 0
  · rw [if_pos (by omega), if_pos h0]
  rw [if_neg (by omega), if_neg h0]
  by_cases h0 : j = 1
  · rw [if_pos (by omega), if_pos h0, e _ (by omega)]
  rw [if_neg (by omega), if_neg h0]
  by_cases h0 : j = 2
  · rw [if_pos (by omega), if_pos h0, e _ (by omega), e _ (by omega)]
  rw [if_neg (by omega), if_neg h0]
  by_cases h0 : j = 3
  · rw [if_pos (by omega), if_pos h0]
  rw [if_neg (by omega), if_neg h0, if_pos (by omega), e _ (by omega)]
  congr 1
  omega
theorem fr_m (hr : r < 4) (h0 : 0 < q) (hq : q ≤ c) (hj : j < 16) : fillF (roomF G r c) r k (mA r q + j) = G (mA r (q - 1) + j) := by
  have h1 := mA_eq r 0
  have h2 := mA_eq r 1
  have h3 := mA_eq r q
  have h4 := mA_eq r c
  have h5 := mA_eq r (q - 1)
  simp only [fillF, roomF]
  rw [if_neg (by omega), if_neg (by omega), if_neg (by omega), if_neg (by omega), if_neg (by omega), if_neg (by omega), if_pos (by omega)]
  congr 1
  omega
theorem new_cM (hw : WF F B) (hr : r < cR F) : cM (newF F r k) r = cM (cutF F r k) r + 1 ∧ newF F r k (165 + 6 * r) = nI (cM (cutF F r k) r + 1) := by
  have h4 := hw.r2
  obtain ⟨g1, g2, g3, g4⟩ := cut_ok (k := k) hw hr
  have e3 : cR (cutF F r k) = cR F := by unfold cR; rw [g3 3 (by omega)]
  have w := (g1.router (r := r) (by omega)).1
  have e : newF F r k (165 + 6 * r) = nI (cM (cutF F r k) r + 1) := by
    rw [newF_eq, fr_c (by omega), w, nI_add]
  refine ⟨?_, e⟩
  show nn (newF F r k (165 + 6 * r)) = _
  rw [e]
  exact nI_cl (by omega)
theorem new_lo (hw : WF F B) (hr : r < cR F) (h : i < 165) : newF F r k i = F i := by
  rw [newF_eq, fr_lo h]
  exact (cut_ok (k := k) hw hr).2.2.1 i h
theorem WF_new (hw : WF F B) (hr : r < cR F) (hk : k < cT F) : WF (newF F r k) B := by
  have h4 := hw.r2
  have ht := hw.t2
  obtain ⟨g1, g2, g3, g4⟩ := cut_ok (k := k) hw hr
  have e3 : cR (cutF F r k) = cR F := by unfold cR; rw [g3 3 (by omega)]
  have eT : cT (newF F r k) = cT F := by unfold cT; rw [new_lo hw hr (by omega)]
  have eT2 : cT (cutF F r k) = cT F := by unfold cT; rw [g3 2 (by omega)]
  obtain ⟨c1, c2⟩ := new_cM (k := k) hw hr
  refine WF_upd hw (fun i hi => new_lo hw hr hi) (fun r' hr' => ?_)
  by_cases e : r' = r
  · subst e
    have w := g1.router (r := r') (by omega)
    have e0 : newF F r' k (mA r' 0) = nI k := fr_0 (j := 0) (by omega) (by omega) (by omega)
    have em : ∀ q, 0 < q → q < cM (newF F r' k) r' → ∀ j, j < 16 → newF F r' k (mA r' q + j) = cutF F r' k (mA r' (q - 1) + j) := fun q a b j hj => by rw [newF_eq]; exact fr_m (by omega) a (by omega) hj
    refine ⟨by rw [c1, c2], by omega, fun q hq => ?_, fun q1 q2 a b e => ?_⟩
    · by_cases h0 : q = 0
      · subst h0
        refine ⟨by rw [e0, show nn (nI k) = k from nI_cl (by omega)], by rw [e0, eT, show nn (nI k) = k from nI_cl (by omega)]; exact hk, Or.inl (by rw [newF_eq, fr_0 (by omega) (by omega) (by omega)]; rfl), fun j hj => ?_⟩
        have hs := hw.flag hk j hj
        have ej : ∀ t, t < 4 → newF F r' k (mA r' 0 + 4 + 4 * j + t) = F (29 + 17 * k + 5 + 4 * j + t) := fun t ht => by
          have e1 : mA r' 0 + 4 + 4 * j + t = mA r' 0 + (4 + 4 * j + t) := by omega
          rw [e1, newF_eq, fr_0 (by omega) (by omega) (by omega)]
          unfold newM
          rw [if_neg (by omega), if_neg (by omega), if_neg (by omega), if_neg (by omega), g3 _ (by omega)]
          congr 1
          omega
        unfold slotOk at hs ⊢
        have t0 := ej 0 (by omega)
        rw [Nat.add_zero, Nat.add_zero] at t0
        rw [t0, ej 1 (by omega), ej 2 (by omega), ej 3 (by omega)]
        exact hs
      · exact WFmap_sh (em q (by omega) hq) (by rw [eT, eT2]) (w.2.2.1 (q - 1) (by omega))
    · by_cases a0 : q1 = 0 <;> by_cases b0 : q2 = 0
      · omega
      · exfalso
        rw [a0, e0] at e
        have := em q2 (by omega) b 0 (by omega)
        rw [Nat.add_zero, Nat.add_zero] at this
        exact g4 (q2 - 1) (by omega) (by rw [← this, ← e])
      · exfalso
        rw [b0, e0] at e
        have := em q1 (by omega) a 0 (by omega)
        rw [Nat.add_zero, Nat.add_zero] at this
        exact g4 (q1 - 1) (by omega) (by rw [← this, e])
      · have t1 := em q1 (by omega) a 0 (by omega)
        have t2 := em q2 (by omega) b 0 (by omega)
        rw [Nat.add_zero, Nat.add_zero] at t1 t2
        have := w.2.2.2 (q1 - 1) (q2 - 1) (by omega) (by omega) (by rw [← t1, ← t2, e])
        omega
  · have h1 := mA_eq r' 0
    have h2 := mA_eq r' 5
    have h3 := mA_eq r 0
    have h6 := mA_eq r (cM (cutF F r k) r + 1)
    have w := g1.router (r := r') (by omega)
    refine WFrouter_cg (F := cutF F r k) (by rw [eT, eT2]) (by rw [newF_eq]; exact fr_o (by omega) (by omega) (by omega)) (fun i a b => by rw [newF_eq]; exact fr_o (by omega) (by omega) (by omega)) w
end REF6
end
section
/-! THE REFERENCE: asks, takes, sends -/
def flK (F : Fm) (r k j : Nat) : Fm := fun i => if i = 165 + 6 * r then F i + nI 1 else if i = mA r 0 then nI k else if i = mA r 0 + 1 then F (29 + 17 * k + 3) else if i = mA r 0 + 2 then F 0 + F 4 else if i = mA r 0 + 3 then nI 0 else if mA r 0 + 4 ≤ i ∧ i < mA r 0 + 4 + j then F (29 + 17 * k + 5 + (i - (mA r 0 + 4))) else F i
section REF7
variable {L : Nat} {xs : Nat → Int32} {f i k r p q c j n B b : Nat} {x y v a z name flow place : Int32} {s : St} {F G : Fm} {Q : Option MV → St → Prop}
theorem flK_0 (hr : r < 4) (hk : k < 8) : putF (putF (putF (putF (putF F (165 + 6 * r) (F (165 + 6 * r) + nI 1)) (mA r 0) (nI k)) (mA r 0 + 1) (F (29 + 17 * k + 3))) (mA r 0 + 2) (F 0 + F 4)) (mA r 0 + 3) (nI 0) = flK F r k 0 := by
  have hm := mA_eq r 0
  funext i
  simp only [putF, flK]
  (repeat' split) <;> first | rfl | omega | (exfalso; omega) | (subst_vars; rfl)
theorem flK_s (hr : r < 4) (hk : k < 8) (hj : j < 12) : putF (flK F r k j) (mA r 0 + 4 + j) (flK F r k j (29 + 17 * k + (5 + j))) = flK F r k (j + 1) := by
  have hm := mA_eq r 0
  have e : flK F r k j (29 + 17 * k + (5 + j)) = F (29 + 17 * k + 5 + j) := by
    simp only [flK]
    rw [if_neg (by omega), if_neg (by omega), if_neg (by omega), if_neg (by omega), if_neg (by omega), if_neg (by omega)]
    congr 1
    omega
  rw [e]
  funext i
  simp only [putF, flK]
  (repeat' split) <;> first | rfl | omega | (exfalso; omega) | (congr 1; omega)
theorem flK_e : flK F r k 12 = fillF F r k := by
  funext i
  simp only [flK, fillF]
theorem r_answerOfE {o : Option Nat} (hw : WF F B) (ho : ansF F name = o) (h : Q (some (.inl (optI o (-5)))) (setN s F)) : wpM L xs codT retT (f + 5) m_X10_answerOf [.inr (10, 0), .inl name] (setN s F) Q := r_answerOf hw (by rw [ho]; exact h)
theorem ansF_lt (h : ansF F name = some b) : b < cT F := ansN_lt _ _ h
set_option maxHeartbeats 4000000 in
set_option maxRecDepth 100000 in
theorem r_asks (hw : WF F B) (hr : r < cR F) (h : Q (some (.inl (bI ((asksF F r name).1 = true)))) (setN s (asksF F r name).2)) : wpM L xs codT retT (f + 6) m_X10_asks [.inr (10, 0), .inl (nI r), .inl name] (setN s F) Q := by
  have h4 := hw.r2
  have hr4 : r < 4 := by omega
  have hw1 : WF (putF F (165 + 6 * r + 1) (F (165 + 6 * r + 1) + nI 1)) B := WF_cnt hw hr4 (fun i hi => putF_ne _ _ (by omega))
  have hwA := WF_asked (name := name) hw hr4
  have hrA : r < cR (askedF F r name) := by unfold cR; rw [asked_o (by omega) (by omega)]; exact hr
  cases ho : ansF (askedF F r name) name with
  | none =>
    have e : asksF F r name = (false, askedF F r name) := by unfold asksF; rw [ho]
    rw [e] at h
    intro call hcall X hX; refine hX 1000 0 _ _ _ ?_
    repeat' (first | (intro hc) | (refine And.intro ?_ ?_) | (exact absurd nI_0 ‹cmpF 0 (nI 0) 0›) | (exact absurd ‹cmpT 0 (nI 1) 0› nI1_ne) | (exact absurd nI_0 ‹cmpT 1 (nI 0) 0›) | (exact absurd ‹cmpF 1 (nI 1) 0› nI1_ne) | (show wp _ _ _ _ _ _ _ _ _ _ _ _; conv => whnf) | (rw [asked_put hw hr4]) | (simp (disch := omega) only [nI_add, nI_mul, setN_now, setN_put, nI_cl, Nat.add_zero]) | (refine hcall _ _ _ _ ?_; first | (refine r_routerAt ?_) | (refine r_homeOf hw1 ?_) | (refine r_wayTo hw1 (homeF_ltS hw1) ?_) | (refine r_answerOfE hwA ho ?_) | fail))
    all_goals (try (clear hX hcall; (try clear h); simp (disch := omega) only [cmpT, cmpF, nI_toI, nI_subI, nI_sub, alen20, alen21, nI_add, nI_mul, setN_now, nI_cl, Int32.toInt_zero] at *; omega))
    all_goals first
      | exact absurd rfl ‹cmpT 1 (optI none (-5)) (-5)›
      | decide
      | exact bI_0 h (by simp)
  | some k =>
    have e : asksF F r name = (true, newF (askedF F r name) r k) := by unfold asksF; rw [ho]
    rw [e, newF_eq] at h
    have hk := ansF_lt ho
    have ht := hwA.t2
    obtain ⟨g1, g2, g3, g4⟩ := cut_ok (k := k) hwA hrA
    obtain ⟨p1, p2, p3⟩ := purge_le (k := k) (cM (askedF F r name) r) _ (Nat.le_refl _) hwA hrA
    have pR : r < cR (purgeF r k (cM (askedF F r name) r) (askedF F r name)) := by unfold cR; rw [p3 3 (by omega)]; exact hrA
    have gR : r < cR (cutF (askedF F r name) r k) := by unfold cR; rw [g3 3 (by omega)]; exact hrA
    have hcut : cutF (askedF F r name) r k = if cM (purgeF r k (cM (askedF F r name) r) (askedF F r name)) r = 5 then dropsF (purgeF r k (cM (askedF F r name) r) (askedF F r name)) r 4 else purgeF r k (cM (askedF F r name) r) (askedF F r name) := rfl
    generalize hG : askedF F r name = G at *
    generalize hP : purgeF r k (cM G r) G = P at *
    generalize hC : cutF G r k = C at *
    have wG := hwA.router hrA
    have wP := p1.router pR
    have wC := g1.router gR
    have m0 := mA_eq r 0
    intro call hcall X hX; refine hX 1000 0 _ _ _ ?_
    repeat' (first | (intro hc) | (refine And.intro ?_ ?_) | (exact absurd nI_0 ‹cmpF 0 (nI 0) 0›) | (exact absurd ‹cmpT 0 (nI 1) 0› nI1_ne) | (exact absurd nI_0 ‹cmpT 1 (nI 0) 0›) | (exact absurd ‹cmpF 1 (nI 1) 0› nI1_ne) | (show wp _ _ _ _ _ _ _ _ _ _ _ _; conv => whnf) | (rw [asked_put hw hr4, hG]) | (simp (disch := omega) only [nI_add, nI_mul, setN_now, setN_put, nI_cl, Nat.add_zero]) | (refine hcall _ _ _ _ ?_; first | (refine r_routerAt ?_) | (refine r_homeOf hw1 ?_) | (refine r_wayTo hw1 (homeF_ltS hw1) ?_) | (refine r_answerOfE hwA ho ?_) | (refine r_mapsOf hr4 ?_) | fail))
    all_goals (try (clear hX hcall; (try clear h); simp (disch := omega) only [cmpT, cmpF, nI_toI, nI_subI, nI_sub, alen20, alen21, nI_add, nI_mul, setN_now, nI_cl, Int32.toInt_zero] at *; omega))
    · exact absurd ‹cmpF 1 (optI (some k) (-5)) (-5)› (nI_n5 (by omega))
    · exact absurd ‹cmpF 1 (optI (some k) (-5)) (-5)› (nI_n5 (by omega))
    have wc5 := wC.2.1
    have tail : ∀ y, X 107 [.inr (10, 0), .inl (nI r), .inl name, .inl (nI k), .inl y] [] (setN s C) := by
      intro y
      have er : ∀ i, i < 189 → roomF C r (cM C r) i = C i := fun i hi => by
        have h1 := mA_eq r 1
        simp only [roomF]
        rw [if_neg (by omega)]
      refine hX 1000 107 _ _ _ ?_
      repeat' (first | (intro hc) | (refine And.intro ?_ ?_) | (exact absurd nI_0 ‹cmpF 0 (nI 0) 0›) | (exact absurd ‹cmpT 0 (nI 1) 0› nI1_ne) | (exact absurd nI_0 ‹cmpT 1 (nI 0) 0›) | (exact absurd ‹cmpF 1 (nI 1) 0› nI1_ne) | (show wp _ _ _ _ _ _ _ _ _ _ _ _; conv => whnf) | (rw [wC.1]) | (simp (disch := omega) only [nI_add, nI_mul, setN_now, setN_put, nI_cl, Nat.add_zero]) | (refine hcall _ _ _ _ ?_; first | (refine r_mapsOf hr4 ?_) | (refine r_makesRoom hr4 g2 ?_) | (refine r_routerAt ?_) | (refine r_mapAt ?_) | (refine r_ofSite (by omega) ?_) | fail))
      all_goals (try (clear hX hcall; (try clear h); simp (disch := omega) only [cmpT, cmpF, nI_toI, nI_subI, nI_sub, alen20, alen21, nI_add, nI_mul, setN_now, nI_cl, Int32.toInt_zero] at *; omega))
      simp (disch := omega) only [takeL, setL, putF_ne, pushW]
      rw [flK_0 hr4 (by omega)]
      refine loopN (P := fun j => X 199 [.inr (10, 0), .inl (nI r), .inl name, .inl (nI k), .inl (nI (mA r 0)), .inl (nI j)] [] (setN s (flK (roomF C r (cM C r)) r k j))) 12 (fun j hj ih => ?_) ?_ 0 (by omega)
      · clear h
        refine hX 1000 199 _ _ _ ?_
        repeat' (first | (intro hc) | (refine And.intro ?_ ?_) | (exact absurd nI_0 ‹cmpF 0 (nI 0) 0›) | (exact absurd ‹cmpT 0 (nI 1) 0› nI1_ne) | (exact absurd nI_0 ‹cmpT 1 (nI 0) 0›) | (exact absurd ‹cmpF 1 (nI 1) 0› nI1_ne) | (show wp _ _ _ _ _ _ _ _ _ _ _ _; conv => whnf) | (simp (disch := omega) only [nI_add, nI_mul, setN_now, setN_put, nI_cl, Nat.add_zero]) | (refine hcall _ _ _ _ ?_; first | (refine r_ofSite (by omega) ?_) | fail))
        all_goals (clear hX hcall)
        all_goals (simp (disch := omega) only [cmpT, cmpF, nI_toI, alen20, setN_now, setN_put, nI_cl, takeL, setL, nI_add] at *)
        all_goals first
          | omega
          | (rw [flK_s hr4 (by omega) (by omega)]; exact ih)
      · refine hX 1000 199 _ _ _ ?_
        repeat' (first | (intro hc) | (refine And.intro ?_ ?_) | (exact absurd nI_0 ‹cmpF 0 (nI 0) 0›) | (exact absurd ‹cmpT 0 (nI 1) 0› nI1_ne) | (exact absurd nI_0 ‹cmpT 1 (nI 0) 0›) | (exact absurd ‹cmpF 1 (nI 1) 0› nI1_ne) | (show wp _ _ _ _ _ _ _ _ _ _ _ _; conv => whnf) | (simp (disch := omega) only [nI_add, nI_mul, setN_now, setN_put, nI_cl, Nat.add_zero]) | (refine hcall _ _ _ _ ?_; first | (refine r_ofSite (by omega) ?_) | fail))
        all_goals (try (clear hX hcall; (try clear h); simp (disch := omega) only [cmpT, cmpF, nI_toI, nI_subI, nI_sub, alen20, alen21, nI_add, nI_mul, setN_now, nI_cl, Int32.toInt_zero] at *; omega))
        all_goals first
          | decide
          | (rw [flK_e]; exact bI_1 h rfl)
          | (exfalso; simp (disch := omega) only [cmpT, cmpF, nI_toI] at *; omega)
    have loop : ∀ n F', n ≤ cM F' r → WF F' B → r < cR F' → purgeF r k n F' = P → X 62 [.inr (10, 0), .inl (nI r), .inl name, .inl (nI k), .inl (nI n - nI 1)] [] (setN s F') := by
      clear h
      intro n
      induction n with
      | zero =>
        intro F' _ hw' hr' hF
        have hF : F' = P := hF
        subst hF
        have w6 := wP.2.1
        by_cases h5 : cM F' r = 5
        · rw [if_pos h5] at hcut
          have w5 := wP.1
          rw [h5] at w5
          refine hX 1000 62 _ _ _ ?_
          repeat' (first | (intro hc) | (refine And.intro ?_ ?_) | (exact absurd nI_0 ‹cmpF 0 (nI 0) 0›) | (exact absurd ‹cmpT 0 (nI 1) 0› nI1_ne) | (exact absurd nI_0 ‹cmpT 1 (nI 0) 0›) | (exact absurd ‹cmpF 1 (nI 1) 0› nI1_ne) | (show wp _ _ _ _ _ _ _ _ _ _ _ _; conv => whnf) | (simp (disch := omega) only [nI_add, nI_mul, setN_now, setN_put, nI_cl, Nat.add_zero]) | (refine hcall _ _ _ _ ?_; first | (refine r_mapsOf hr4 ?_) | (refine r_drops hr4 wP.1 wP.2.1 (by omega) ?_) | fail))
          all_goals (try (clear hX hcall; (try clear h); simp (disch := omega) only [cmpT, cmpF, nI_toI, nI_subI, nI_sub, alen20, alen21, nI_add, nI_mul, setN_now, nI_cl, Int32.toInt_zero] at *; omega))
          all_goals first
            | (rw [← hcut]; exact tail _)
            | exact absurd w5 ‹cmpT 1 (F' (165 + 6 * r)) (nI 5)›
        · rw [if_neg h5] at hcut
          have w5 : ¬ F' (165 + 6 * r) = nI 5 := fun q => h5 (by rw [wP.1, nI_inj (by omega) (by omega)] at q; exact q)
          refine hX 1000 62 _ _ _ ?_
          repeat' (first | (intro hc) | (refine And.intro ?_ ?_) | (exact absurd nI_0 ‹cmpF 0 (nI 0) 0›) | (exact absurd ‹cmpT 0 (nI 1) 0› nI1_ne) | (exact absurd nI_0 ‹cmpT 1 (nI 0) 0›) | (exact absurd ‹cmpF 1 (nI 1) 0› nI1_ne) | (show wp _ _ _ _ _ _ _ _ _ _ _ _; conv => whnf) | (simp (disch := omega) only [nI_add, nI_mul, setN_now, setN_put, nI_cl, Nat.add_zero]) | (refine hcall _ _ _ _ ?_; first | (refine r_mapsOf hr4 ?_) | fail))
          all_goals (try (clear hX hcall; (try clear h); simp (disch := omega) only [cmpT, cmpF, nI_toI, nI_subI, nI_sub, alen20, alen21, nI_add, nI_mul, setN_now, nI_cl, Int32.toInt_zero] at *; omega))
          all_goals first
            | (rw [← hcut]; exact tail _)
            | exact absurd ‹cmpF 1 (F' (165 + 6 * r)) (nI 5)› w5
      | succ n ih =>
        intro F' hn hw' hr' hF
        have wF := hw'.router hr'
        have wF5 := wF.2.1
        have mn := mA_eq r n
        have hF : purgeF r k n (if F' (mA r n) = nI k then dropsF F' r n else F') = P := hF
        refine hX 1000 62 _ _ _ ?_
        repeat' (first | (intro hc) | (refine And.intro ?_ ?_) | (exact absurd nI_0 ‹cmpF 0 (nI 0) 0›) | (exact absurd ‹cmpT 0 (nI 1) 0› nI1_ne) | (exact absurd nI_0 ‹cmpT 1 (nI 0) 0›) | (exact absurd ‹cmpF 1 (nI 1) 0› nI1_ne) | (show wp _ _ _ _ _ _ _ _ _ _ _ _; conv => whnf) | (simp (disch := omega) only [nI_sub, Nat.add_sub_cancel]) | (simp (disch := omega) only [nI_add, nI_mul, setN_now, setN_put, nI_cl, Nat.add_zero]) | (refine hcall _ _ _ _ ?_; first | (refine r_ofMap (by omega) ?_) | (refine r_drops hr4 wF.1 wF5 (by omega) ?_) | fail))
        all_goals (try (clear hX hcall; (try clear h); simp (disch := omega) only [cmpT, cmpF, nI_toI, nI_subI, nI_sub, alen20, alen21, nI_add, nI_mul, setN_now, nI_cl, Int32.toInt_zero] at *; omega))
        · have hq : F' (mA r n) = nI k := ‹cmpF 1 (F' (mA r n + 0)) (nI k)›
          rw [if_pos hq] at hF
          have hd := drops_c (p := n) wF (by omega)
          simp (disch := omega) only [takeL, setL, nI_dec, nI_sub, Nat.add_sub_cancel]
          exact ih (dropsF F' r n) (by omega) (WF_drop hw' hr' (by omega)) (by unfold cR; rw [drops_lo (by omega)]; exact hr') hF
        · have hq : ¬ F' (mA r n) = nI k := ‹cmpT 1 (F' (mA r n + 0)) (nI k)›
          rw [if_neg hq] at hF
          simp (disch := omega) only [takeL, setL, nI_dec, nI_sub, Nat.add_sub_cancel]
          exact ih F' (by omega) hw' hr' hF
    have e3 : G (165 + 6 * r) - nI 1 = nI (cM G r) - nI 1 := by rw [wG.1]
    simp only [takeL, setL, e3]
    exact loop (cM G r) G (Nat.le_refl _) hwA hrA hP
theorem takeN_lt : ∀ n b, takeN F r name n = some b → b < n
  | 0, b, h => by cases h
  | n + 1, b, h => by
    unfold takeN at h
    split at h
    · cases h; exact Nat.lt_succ_self _
    · exact Nat.lt_succ_of_lt (takeN_lt n b h)
theorem end_ok : ∀ n F, n ≤ cM F r → WF F B → r < cR F → WF (endF r n F) B ∧ (∀ i, i < 165 → endF r n F i = F i) ∧ cM (endF r n F) r ≤ cM F r := by
  intro n
  induction n with
  | zero => intro F _ hw hr; exact ⟨hw, fun _ _ => rfl, Nat.le_refl _⟩
  | succ n ih =>
    intro F hn hw hr
    have h4 := hw.r2
    unfold endF
    by_cases h : (F (mA r n + 2)).toInt ≤ (F 0).toInt
    · rw [if_pos h]
      have w := WF_drop hw hr (p := n) (by omega)
      obtain ⟨e1, e2⟩ := drops_c (p := n) (hw.router hr) (by omega)
      have e3 : cR (dropsF F r n) = cR F := by unfold cR; rw [drops_lo (by omega)]
      obtain ⟨g1, g2, g3⟩ := ih (dropsF F r n) (by omega) w (by omega)
      exact ⟨g1, fun i hi => by rw [g2 i hi, drops_lo hi], by omega⟩
    · rw [if_neg h]
      exact ih F (by omega) hw hr
def tkS (F : Fm) (r : Nat) (o : Option Nat) : Int32 := match o with
  | none => nI 257
  | some b => F (29 + 17 * nn (F (mA r b)) + 1)
theorem takeN_s (n : Nat) : takeN F r name (n + 1) = if hasF F (nn (F (mA r n))) name ∧ (F (29 + 17 * nn (F (mA r n)) + 1)).toInt < (tkS F r (takeN F r name n)).toInt then some n else takeN F r name n := by
  rw [takeN]
  unfold tkB tkS
  cases takeN F r name n with
  | none => simp only [decide_eq_true_eq]; rfl
  | some b => simp only [decide_eq_true_eq]
set_option maxHeartbeats 4000000 in
set_option maxRecDepth 100000 in
theorem r_takes (hw : WF F B) (hr : r < cR F) (h : Q (some (.inl (optI (takeN (endF r (cM F r) F) r name (cM (endF r (cM F r) F) r)) (-5)))) (setN s (endF r (cM F r) F))) : wpM L xs codT retT (f + 4) m_X10_takes [.inr (10, 0), .inl (nI r), .inl name] (setN s F) Q := by
  have h4 := hw.r2
  have hr4 : r < 4 := by omega
  have wF := hw.router hr
  obtain ⟨p1, p2, p3⟩ := end_ok (cM F r) F (Nat.le_refl _) hw hr
  have pR : r < cR (endF r (cM F r) F) := by unfold cR; rw [p2 3 (by omega)]; exact hr
  generalize hG : endF r (cM F r) F = G at *
  have wG := p1.router pR
  have wG5 := wG.2.1
  have wF5 := wF.2.1
  have gT := p1.t2
  intro call hcall X hX; refine hX 1000 0 _ _ _ ?_
  repeat' (first | (intro hc) | (refine And.intro ?_ ?_) | (exact absurd nI_0 ‹cmpF 0 (nI 0) 0›) | (exact absurd ‹cmpT 0 (nI 1) 0› nI1_ne) | (exact absurd nI_0 ‹cmpT 1 (nI 0) 0›) | (exact absurd ‹cmpF 1 (nI 1) 0› nI1_ne) | (show wp _ _ _ _ _ _ _ _ _ _ _ _; conv => whnf) | (simp (disch := omega) only [nI_add, nI_mul, setN_now, setN_put, nI_cl, Nat.add_zero]) | (refine hcall _ _ _ _ ?_; first | (refine r_mapsOf hr4 ?_) | fail))
  all_goals (try (clear hX hcall; (try clear h); simp (disch := omega) only [cmpT, cmpF, nI_toI, nI_subI, nI_sub, alen20, alen21, nI_add, nI_mul, setN_now, nI_cl, Int32.toInt_zero] at *; omega))
  simp only [takeL, setL, wF.1]
  have loop : ∀ n F', n ≤ cM F' r → WF F' B → r < cR F' → endF r n F' = G → X 8 [.inr (10, 0), .inl (nI r), .inl name, .inl (nI n - nI 1)] [] (setN s F') := by
    intro n
    induction n with
    | zero =>
      intro F' _ hw' hr' hF
      have hF : F' = G := hF
      subst hF
      refine hX 1000 8 _ _ _ ?_
      repeat' (first | (intro hc) | (refine And.intro ?_ ?_) | (exact absurd nI_0 ‹cmpF 0 (nI 0) 0›) | (exact absurd ‹cmpT 0 (nI 1) 0› nI1_ne) | (exact absurd nI_0 ‹cmpT 1 (nI 0) 0›) | (exact absurd ‹cmpF 1 (nI 1) 0› nI1_ne) | (show wp _ _ _ _ _ _ _ _ _ _ _ _; conv => whnf) | (simp (disch := omega) only [nI_add, nI_mul, setN_now, setN_put, nI_cl, Nat.add_zero]) | (refine hcall _ _ _ _ ?_; first | (refine r_mapsOf hr4 ?_) | fail))
      all_goals (try (clear hX hcall; (try clear h); simp (disch := omega) only [cmpT, cmpF, nI_toI, nI_subI, nI_sub, alen20, alen21, nI_add, nI_mul, setN_now, nI_cl, Int32.toInt_zero] at *; omega))
      simp only [takeL, setL]
      refine loopN (P := fun k => X 51 [.inr (10, 0), .inl (nI r), .inl name, .inl (optI (takeN F' r name k) (-5)), .inl (tkS F' r (takeN F' r name k)), .inl (nI k)] [] (setN s F')) (cM F' r) (fun k hk ih => ?_) ?_ 0 (Nat.zero_le _)
      · clear h
        have mk := mA_eq r k
        obtain ⟨w1, w2, -, -⟩ := wG.2.2.1 k hk
        generalize ht : nn (F' (mA r k)) = t at *
        have w1' : F' (mA r k + 0) = nI t := w1
        refine hX 1000 51 _ _ _ ?_
        rw [takeN_s, ht] at ih
        generalize takeN F' r name k = o at *
        repeat' (first | (intro hc) | (refine And.intro ?_ ?_) | (exact absurd nI_0 ‹cmpF 0 (nI 0) 0›) | (exact absurd ‹cmpT 0 (nI 1) 0› nI1_ne) | (exact absurd nI_0 ‹cmpT 1 (nI 0) 0›) | (exact absurd ‹cmpF 1 (nI 1) 0› nI1_ne) | (show wp _ _ _ _ _ _ _ _ _ _ _ _; conv => whnf) | (rw [w1']) | (simp (disch := omega) only [nI_add, nI_mul, setN_now, setN_put, nI_cl, Nat.add_zero]) | (refine hcall _ _ _ _ ?_; first | (refine r_mapsOf hr4 ?_) | (refine r_ofMap (by omega) ?_) | (refine r_has (by omega) ?_) | (refine r_ofSite (by omega) ?_) | fail))
        all_goals (clear hX hcall)
        all_goals (simp (disch := omega) only [cmpT, cmpF, nI_toI, setN_now, nI_cl, alen20, wG.1, bI_eq0, bI_ne0, Classical.not_not, takeL, setL, nI_add] at *)
        all_goals first
          | omega
          | (have hh : hasF F' t name ∧ (F' (29 + 17 * t + 1)).toInt < (tkS F' r o).toInt := ⟨by assumption, by omega⟩; rw [if_pos hh] at ih; simp only [optI, tkS, ht] at ih; exact ih)
          | (rw [if_neg (by rintro ⟨h1, h2⟩; first | contradiction | omega)] at ih; exact ih)
      · refine hX 1000 51 _ _ _ ?_
        repeat' (first | (intro hc) | (refine And.intro ?_ ?_) | (exact absurd nI_0 ‹cmpF 0 (nI 0) 0›) | (exact absurd ‹cmpT 0 (nI 1) 0› nI1_ne) | (exact absurd nI_0 ‹cmpT 1 (nI 0) 0›) | (exact absurd ‹cmpF 1 (nI 1) 0› nI1_ne) | (show wp _ _ _ _ _ _ _ _ _ _ _ _; conv => whnf) | (simp (disch := omega) only [nI_add, nI_mul, setN_now, setN_put, nI_cl, Nat.add_zero]) | (refine hcall _ _ _ _ ?_; first | (refine r_mapsOf hr4 ?_) | fail))
        all_goals (try (clear hX hcall; (try clear h); simp (disch := omega) only [cmpT, cmpF, nI_toI, nI_subI, nI_sub, alen20, alen21, nI_add, nI_mul, setN_now, nI_cl, Int32.toInt_zero] at *; omega))
        all_goals first
          | exact h
          | (exfalso; clear h hX hcall; simp (disch := omega) only [cmpT, cmpF, nI_toI, wG.1] at *; omega)
    | succ n ih =>
      intro F' hn hw' hr' hF
      have wF' := hw'.router hr'
      have wF5' := wF'.2.1
      have mn := mA_eq r n
      have hF : endF r n (if (F' (mA r n + 2)).toInt ≤ (F' 0).toInt then dropsF F' r n else F') = G := hF
      refine hX 1000 8 _ _ _ ?_
      repeat' (first | (intro hc) | (refine And.intro ?_ ?_) | (exact absurd nI_0 ‹cmpF 0 (nI 0) 0›) | (exact absurd ‹cmpT 0 (nI 1) 0› nI1_ne) | (exact absurd nI_0 ‹cmpT 1 (nI 0) 0›) | (exact absurd ‹cmpF 1 (nI 1) 0› nI1_ne) | (show wp _ _ _ _ _ _ _ _ _ _ _ _; conv => whnf) | (simp (disch := omega) only [nI_sub, Nat.add_sub_cancel]) | (simp (disch := omega) only [nI_add, nI_mul, setN_now, setN_put, nI_cl, Nat.add_zero]) | (refine hcall _ _ _ _ ?_; first | (refine r_ofMap (by omega) ?_) | (refine r_drops hr4 wF'.1 wF5' (by omega) ?_) | fail))
      all_goals (try (clear hX hcall; (try clear h); simp (disch := omega) only [cmpT, cmpF, nI_toI, nI_subI, nI_sub, alen20, alen21, nI_add, nI_mul, setN_now, nI_cl, Int32.toInt_zero] at *; omega))
      · have hq : (F' (mA r n + 2)).toInt ≤ (F' 0).toInt := by
          have h9 := ‹cmpF 4 (F' (mA r n + 2)) ((setN s F').fst 20 0 (nI 0).toNatClampNeg)›
          rw [setN_now] at h9
          exact h9
        rw [if_pos hq] at hF
        have hd := drops_c (p := n) wF' (by omega)
        simp (disch := omega) only [takeL, setL, nI_dec]
        exact ih (dropsF F' r n) (by omega) (WF_drop hw' hr' (by omega)) (by unfold cR; rw [drops_lo (by omega)]; exact hr') hF
      · have hq : ¬ (F' (mA r n + 2)).toInt ≤ (F' 0).toInt := by
          have h9 := ‹cmpT 4 (F' (mA r n + 2)) ((setN s F').fst 20 0 (nI 0).toNatClampNeg)›
          rw [setN_now] at h9
          exact Int.not_le.mpr h9
        rw [if_neg hq] at hF
        simp (disch := omega) only [takeL, setL, nI_dec]
        exact ih F' (by omega) hw' hr' hF
  exact loop (cM F r) F (Nat.le_refl _) hw hr hG
end REF7
end
section
/-! THE REFERENCE: sends -/
section REF8
variable {L : Nat} {xs : Nat → Int32} {f i k r p q c j n B b : Nat} {x y v a z name flow place : Int32} {s : St} {F G : Fm} {Q : Option MV → St → Prop}
theorem asks_ok (hw : WF F B) (hr : r < cR F) : WF (asksF F r name).2 B ∧ (∀ i, i < 165 → (asksF F r name).2 i = F i) ∧ ((asksF F r name).1 = true → 1 ≤ cM (asksF F r name).2 r) ∧ ((asksF F r name).1 = false → (asksF F r name).2 = askedF F r name) := by
  have h4 := hw.r2
  have hwA := WF_asked (name := name) hw (show r < 4 by omega)
  have hrA : r < cR (askedF F r name) := by unfold cR; rw [asked_o (by omega) (by omega)]; exact hr
  have lo : ∀ i, i < 165 → askedF F r name i = F i := fun i hi => asked_o (by omega) (by omega)
  unfold asksF
  cases ho : ansF (askedF F r name) name with
  | none => exact ⟨hwA, lo, fun h => (nomatch h), fun _ => rfl⟩
  | some k =>
    have hk := ansF_lt ho
    refine ⟨WF_new hwA hrA hk, fun i hi => ?_, fun _ => ?_, fun h => (nomatch h)⟩
    · show newF _ _ _ i = _
      rw [new_lo hwA hrA hi, lo i hi]
    · show 1 ≤ cM (newF _ _ _) r
      rw [(new_cM hwA hrA).1]
      omega
theorem plus_o (h : i ≠ j) : plusF F j i = F i := if_neg h
theorem cR_of (h : ∀ i, i < 165 → G i = F i) : cR G = cR F := by unfold cR; rw [h 3 (by omega)]
theorem asked_cM (hr : r < 4) : cM (askedF F r name) r = cM F r := by unfold cM; rw [asked_o (by omega) (by omega)]
theorem r_takesE {o : Option Nat} (hw : WF F B) (hr : r < cR F) (e1 : endF r (cM F r) F = G) (e2 : takeN G r name (cM G r) = o) (h : Q (some (.inl (optI o (-5)))) (setN s G)) : wpM L xs codT retT (f + 4) m_X10_takes [.inr (10, 0), .inl (nI r), .inl name] (setN s F) Q := r_takes hw hr (by rw [e1, e2]; exact h)
theorem r_asksE {A : Bool × Fm} (hw : WF F B) (hr : r < cR F) (e : asksF F r name = A) (h : Q (some (.inl (bI (A.1 = true)))) (setN s A.2)) : wpM L xs codT retT (f + 6) m_X10_asks [.inr (10, 0), .inl (nI r), .inl name] (setN s F) Q := r_asks hw hr (by rw [e]; exact h)
set_option maxHeartbeats 4000000 in
set_option maxRecDepth 100000 in
theorem r_sends (hw : WF F B) (hr : r < cR F) (h : Q (some (.inl (sendF F r name flow).1)) (setN s (sendF F r name flow).2)) : wpM L xs codT retT (f + 7) m_X10_sends [.inr (10, 0), .inl (nI r), .inl name, .inl flow] (setN s F) Q := by
  have h4 := hw.r2
  have hr4 : r < 4 := by omega
  have hw1 : WF (plusF F (165 + 6 * r + 3)) B := WF_cnt hw hr4 (fun i hi => plus_o (by omega))
  have hr1 : r < cR (plusF F (165 + 6 * r + 3)) := by unfold cR; rw [plus_o (by omega)]; exact hr
  obtain ⟨e1, e2, e3⟩ := end_ok (cM (plusF F (165 + 6 * r + 3)) r) _ (Nat.le_refl _) hw1 hr1
  unfold sendF at h
  dsimp only at h
  generalize hF1 : plusF F (165 + 6 * r + 3) = F1 at *
  generalize hF2 : endF r (cM F1 r) F1 = F2 at *
  have hr2 : r < cR F2 := by rw [cR_of e2]; exact hr1
  have w2 := e1.router hr2
  have w25 := w2.2.1
  intro call hcall X hX
  have rest : ∀ G p, WF G B → r < cR G → p < cM G r → Q (some (.inl (restF G r p name flow).1)) (setN s (restF G r p name flow).2) → X 75 [.inr (10, 0), .inl (nI r), .inl name, .inl flow, .inl (nI p)] [] (setN s G) := by
    clear h
    intro G p hG hrG hp h
    have wp5 := (hG.router hrG).2.1
    have hU := WF_uses hG hrG hp
    have uR : r < cR (usesF G r p) := by unfold cR; rw [uses_lo (by omega)]; exact hrG
    have uC : cM (usesF G r p) r = cM G r := uses_c
    unfold restF at h
    dsimp only at h
    generalize hU' : usesF G r p = U at *
    have wU := hU.router uR
    obtain ⟨m1, m2, -, -⟩ := wU.2.2.1 0 (by omega)
    have ht := hU.t2
    have m0 := mA_eq r 0
    generalize hk : nn (U (mA r 0)) = k at *
    have m1' : U (mA r 0 + 0) = nI k := m1
    have hV : WF (plusF U (165 + 6 * r + 5)) B := WF_cnt hU hr4 (fun i hi => plus_o (by omega))
    have vR : r < cR (plusF U (165 + 6 * r + 5)) := by unfold cR; rw [plus_o (by omega)]; exact uR
    have vC : cM (plusF U (165 + 6 * r + 5)) r = cM G r := by unfold cM; rw [plus_o (by omega)]; exact uC
    have hD := WF_drop hV vR (p := 0) (by omega)
    have dR : r < cR (dropsF (plusF U (165 + 6 * r + 5)) r 0) := by unfold cR; rw [drops_lo (by omega)]; exact vR
    have wV := hV.router vR
    by_cases hA : isAtF U k (choF U (mA r 0 + 4) flow)
    · rw [if_pos hA] at h
      refine hX 1000 75 _ _ _ ?_
      repeat' (first | (intro hc) | (refine And.intro ?_ ?_) | (exact absurd nI_0 ‹cmpF 0 (nI 0) 0›) | (exact absurd ‹cmpT 0 (nI 1) 0› nI1_ne) | (exact absurd nI_0 ‹cmpT 1 (nI 0) 0›) | (exact absurd ‹cmpF 1 (nI 1) 0› nI1_ne) | (show wp _ _ _ _ _ _ _ _ _ _ _ _; conv => whnf) | (rw [hU']) | (rw [m1']) | (simp (disch := omega) only [nI_add, nI_mul, setN_now, setN_put, nI_cl, Nat.add_zero]) | (refine hcall _ _ _ _ ?_; first | (refine r_routerAt ?_) | (refine r_uses hr4 (by omega) ?_) | (refine r_ofMap (by omega) ?_) | (refine r_mapAt ?_) | (refine r_chosen (by omega) ?_) | (refine r_isAt (by omega) ?_) | (refine r_ofSite (by omega) ?_) | fail))
      all_goals (try (clear hX hcall; (try clear h); simp (disch := omega) only [cmpT, cmpF, nI_toI, nI_subI, nI_sub, alen20, alen21, nI_add, nI_mul, setN_now, nI_cl, Int32.toInt_zero] at *; omega))
      all_goals first
        | exact absurd hA (bI_eq0.mp ‹cmpT 0 (bI (isAtF _ _ _)) 0›)
        | (have hq : ¬ U (mA r 0 + 1) = U (29 + 17 * k + 3) := ‹cmpF 0 _ (U (29 + 17 * k + 3))›; rw [if_neg hq] at h; exact h)
        | (have hq : U (mA r 0 + 1) = U (29 + 17 * k + 3) := ‹cmpT 0 _ (U (29 + 17 * k + 3))›; rw [if_pos hq] at h; exact h)
    · rw [if_neg hA] at h
      obtain ⟨a1, a2, a3, a4⟩ := asks_ok (name := name) hD dR
      have aR : r < cR (asksF (dropsF (plusF U (165 + 6 * r + 5)) r 0) r name).2 := by rw [cR_of a2]; exact dR
      generalize hAs : asksF (dropsF (plusF U (165 + 6 * r + 5)) r 0) r name = A at *
      refine hX 1000 75 _ _ _ ?_
      repeat' (first | (intro hc) | (refine And.intro ?_ ?_) | (exact absurd nI_0 ‹cmpF 0 (nI 0) 0›) | (exact absurd ‹cmpT 0 (nI 1) 0› nI1_ne) | (exact absurd nI_0 ‹cmpT 1 (nI 0) 0›) | (exact absurd ‹cmpF 1 (nI 1) 0› nI1_ne) | (show wp _ _ _ _ _ _ _ _ _ _ _ _; conv => whnf) | (rw [hU']) | (rw [m1']) | (rw [putF_plus]) | (simp (disch := omega) only [nI_add, nI_mul, setN_now, setN_put, nI_cl, Nat.add_zero]) | (refine hcall _ _ _ _ ?_; first | (refine r_routerAt ?_) | (refine r_uses hr4 (by omega) ?_) | (refine r_ofMap (by omega) ?_) | (refine r_mapAt ?_) | (refine r_chosen (by omega) ?_) | (refine r_isAt (by omega) ?_) | (refine r_ofSite (by omega) ?_) | (refine r_drops hr4 wV.1 wV.2.1 (by omega) ?_) | (refine r_asksE hD dR hAs ?_) | (refine r_proxy hr4 ?_) | fail))
      all_goals (try (clear hX hcall; (try clear h); simp (disch := omega) only [cmpT, cmpF, nI_toI, nI_subI, nI_sub, alen20, alen21, nI_add, nI_mul, setN_now, nI_cl, Int32.toInt_zero] at *; omega))
      all_goals first
        | exact absurd (bI_ne0.mp ‹cmpF 0 (bI (isAtF _ _ _)) 0›) hA
        | (have hq := bI_ne0.mp ‹cmpF 0 (bI (_ = true)) 0›; obtain ⟨ab, aG⟩ := A; cases hq; exact h)
        | (have hq := bI_eq0.mp ‹cmpT 0 (bI (_ = true)) 0›; obtain ⟨ab, aG⟩ := A; cases ab with | true => exact absurd rfl hq | false => exact h)
  have hX' : ∀ G p, WF G B → r < cR G → p < cM G r → Q (some (.inl (restF G r p name flow).1)) (setN s (restF G r p name flow).2) → X 75 [.inr (10, 0), .inl (nI r), .inl name, .inl flow, .inl (nI p)] [] (setN s G) := rest
  clear rest
  obtain ⟨a1, a2, a3, a4⟩ := asks_ok (name := name) e1 hr2
  have aR : r < cR (asksF F2 r name).2 := by rw [cR_of a2]; exact hr2
  have aC := asked_cM (F := F2) (name := name) hr4
  generalize hAs : asksF F2 r name = A at *
  refine hX 1000 0 _ _ _ ?_
  cases ho : takeN F2 r name (cM F2 r) with
  | none =>
    rw [ho] at h
    dsimp only at h
    repeat' (first | (intro hc) | (refine And.intro ?_ ?_) | (exact absurd nI_0 ‹cmpF 0 (nI 0) 0›) | (exact absurd ‹cmpT 0 (nI 1) 0› nI1_ne) | (exact absurd nI_0 ‹cmpT 1 (nI 0) 0›) | (exact absurd ‹cmpF 1 (nI 1) 0› nI1_ne) | (show wp _ _ _ _ _ _ _ _ _ _ _ _; conv => whnf) | (rw [putF_plus]) | (rw [hF1]) | (exact absurd rfl ‹cmpF 0 (optI none (-5)) (-5)›) | (simp (disch := omega) only [nI_add, nI_mul, setN_now, setN_put, nI_cl, Nat.add_zero]) | (refine hcall _ _ _ _ ?_; first | (refine r_routerAt ?_) | (refine r_takesE hw1 hr1 hF2 ho ?_) | (refine r_asksE e1 hr2 hAs ?_) | (refine r_proxy hr4 ?_) | fail))
    all_goals (try (clear hX hcall; (try clear h); simp (disch := omega) only [cmpT, cmpF, nI_toI, nI_subI, nI_sub, alen20, alen21, nI_add, nI_mul, setN_now, nI_cl, Int32.toInt_zero] at *; omega))
    · have hq := bI_eq0.mp ‹cmpF 1 (bI (A.fst = true)) 0›
      obtain ⟨ab, aG⟩ := A
      cases ab with
      | true => exact absurd rfl hq
      | false => exact h
    · have hq := bI_ne0.mp ‹cmpT 1 (bI (A.fst = true)) 0›
      have a3 := a3 hq
      obtain ⟨ab, aG⟩ := A
      cases hq
      simp only [takeL, setL]
      exact hX' _ 0 a1 aR a3 h
  | some p =>
    rw [ho] at h
    dsimp only at h
    have hp := takeN_lt _ _ ho
    have mp := mA_eq r p
    have wA := a1.router aR
    have dp : bI (A.1 = true) = 0 → p < cM A.2 r := fun q => by
      have q := bI_eq0.mp q
      rw [a4 (by cases hb : A.1 with | true => exact absurd hb q | false => rfl), aC]
      exact hp
    repeat' (first | (intro hc) | (refine And.intro ?_ ?_) | (exact absurd nI_0 ‹cmpF 0 (nI 0) 0›) | (exact absurd ‹cmpT 0 (nI 1) 0› nI1_ne) | (exact absurd nI_0 ‹cmpT 1 (nI 0) 0›) | (exact absurd ‹cmpF 1 (nI 1) 0› nI1_ne) | (show wp _ _ _ _ _ _ _ _ _ _ _ _; conv => whnf) | (rw [putF_plus]) | (rw [hF1]) | (exact absurd ‹cmpT 0 (optI (some p) (-5)) (-5)› (nI_n5 (by omega))) | (rw [show optI (some p) (-5) = nI p from rfl]) | (simp (disch := omega) only [nI_add, nI_mul, setN_now, setN_put, nI_cl, Nat.add_zero]) | (refine hcall _ _ _ _ ?_; first | (refine r_routerAt ?_) | (refine r_takesE hw1 hr1 hF2 ho ?_) | (refine r_ofMap (by omega) ?_) | (refine r_asksE e1 hr2 hAs ?_) | (refine r_proxy hr4 ?_) | (refine r_drops hr4 wA.1 wA.2.1 (dp ‹cmpF 1 (bI (A.fst = true)) 0›) ?_) | fail))
    all_goals (try (clear hX hcall; (try clear h); simp (disch := omega) only [cmpT, cmpF, nI_toI, nI_subI, nI_sub, alen20, alen21, nI_add, nI_mul, setN_now, nI_cl, Int32.toInt_zero] at *; omega))
    · have hq := bI_eq0.mp ‹cmpF 1 (bI (A.fst = true)) 0›
      have hm : F2 (mA r p + 3) = nI 1 := ‹cmpF 1 (F2 (mA r p + 3)) (nI 1)›
      rw [if_pos hm] at h
      obtain ⟨ab, aG⟩ := A
      cases ab with
      | true => exact absurd rfl hq
      | false => exact h
    · have hq := bI_ne0.mp ‹cmpT 1 (bI (A.fst = true)) 0›
      have hm : F2 (mA r p + 3) = nI 1 := ‹cmpF 1 (F2 (mA r p + 3)) (nI 1)›
      rw [if_pos hm] at h
      have a3 := a3 hq
      obtain ⟨ab, aG⟩ := A
      cases hq
      simp only [takeL, setL]
      exact hX' _ 0 a1 aR a3 h
    · have hm : ¬ F2 (mA r p + 3) = nI 1 := ‹cmpT 1 (F2 (mA r p + 3)) (nI 1)›
      rw [if_neg hm] at h
      simp only [takeL, setL]
      exact hX' _ p e1 hr2 hp h
end REF8
end
section
/-! THE REFERENCE: its rows of states -/
/-- a store whose kept rows are G -/
def setK (s : St) (G : Fm) : St := (fun a b d => if a = 21 ∧ b = 0 then G d else s.1 a b d, s.2)
def keepG (G F : Fm) (c : Nat) : Fm := fun i => if 509 * c ≤ i ∧ i < 509 * c + 509 then F (i - 509 * c) else G i
def keK (G F : Fm) (c k : Nat) : Fm := fun i => if 509 * c ≤ i ∧ i < 509 * c + k then F (i - 509 * c) else G i
def mixF (F G : Fm) : Fm := fun i => if i < 509 then G i else F i
def miK (F G : Fm) (k : Nat) : Fm := fun i => if i < k then G i else F i
def shK (G : Fm) (k : Nat) : Fm := fun i => if i < k then G (i + 509) else G i
def recG (G F : Fm) (n : Nat) : Fm := if n = 5 then keepG (shK G 2036) F 4 else keepG G F n
def recN (n : Nat) : Nat := if n = 5 then 5 else n + 1
section REF9
variable {L : Nat} {xs : Nat → Int32} {f i k r p q c j n B b : Nat} {x y v a z name flow place : Int32} {s : St} {F G : Fm} {Q : Option MV → St → Prop}
theorem setK_k : (setK s G).1 21 0 i = G i := by
  show (if 21 = 21 ∧ 0 = 0 then G i else s.1 21 0 i) = G i
  rw [if_pos ⟨rfl, rfl⟩]
theorem setK_o {a b d : Nat} (h : a ≠ 21) : (setK s G).1 a b d = s.1 a b d := by
  show (if a = 21 ∧ b = 0 then G d else s.1 a b d) = _
  rw [if_neg fun q => h q.1]
theorem setNK_k : (setN (setK s G) F).1 21 0 i = G i := by rw [setN_o (by decide), setK_k]
theorem setNK_put : putV (setN (setK s G) F) 21 0 i x = setN (setK s (putF G i x)) F := by
  unfold setN setK putV putF
  apply Prod.ext
  · funext a b d
    show (if a = 21 ∧ b = 0 ∧ d = i then x else if a = 20 ∧ b = 0 then F d else if a = 21 ∧ b = 0 then G d else s.1 a b d) = (if a = 20 ∧ b = 0 then F d else if a = 21 ∧ b = 0 then (if d = i then x else G d) else s.1 a b d)
    by_cases h1 : a = 21 <;> by_cases h2 : b = 0 <;> simp [h1, h2]
  · rfl
theorem setNK_fv {d : Nat} : (setN (setK s G) F).1 10 0 d = s.1 10 0 d := by rw [setN_o (by decide), setK_o (by decide)]
theorem setNK_fvv (hs : s.1 10 0 i = x) (hl : lk 10 i 0 = none) : fv (setN (setK s G) F) 10 0 i = .inl x := by
  unfold fv
  rw [hl, setNK_fv, hs]
theorem setNK_fput : putV (setN (setK s G) F) 10 0 i x = setN (setK (putV s 10 0 i x) G) F := by
  unfold setN setK putV
  apply Prod.ext
  · funext a b d
    show (if a = 10 ∧ b = 0 ∧ d = i then x else if a = 20 ∧ b = 0 then F d else if a = 21 ∧ b = 0 then G d else s.1 a b d) = (if a = 20 ∧ b = 0 then F d else if a = 21 ∧ b = 0 then G d else if a = 10 ∧ b = 0 ∧ d = i then x else s.1 a b d)
    by_cases h1 : a = 10
    · subst h1; simp
    · simp [h1]
  · rfl
theorem putV_put : putV (putV s k b i x) k b i y = putV s k b i y := by
  unfold putV
  apply Prod.ext
  · funext a e d
    show (if a = k ∧ e = b ∧ d = i then y else if a = k ∧ e = b ∧ d = i then x else s.1 a e d) = (if a = k ∧ e = b ∧ d = i then y else s.1 a e d)
    split <;> rfl
  · rfl
theorem putV_at : (putV s k b i x).1 k b i = x := by
  show (if k = k ∧ b = b ∧ i = i then x else s.1 k b i) = x
  rw [if_pos ⟨rfl, rfl, rfl⟩]
theorem keK_0 : keK G F c 0 = G := by
  funext i
  simp only [keK]
  rw [if_neg (by omega)]
theorem keK_s : putF (keK G F c k) (509 * c + k) (F k) = keK G F c (k + 1) := by
  funext i
  simp only [putF, keK]
  (repeat' split) <;> first | rfl | omega | (exfalso; omega) | (congr 1; omega)
theorem miK_0 : miK F G 0 = F := by
  funext i
  simp only [miK]
  rw [if_neg (by omega)]
theorem miK_s : putF (miK F G k) k (G k) = miK F G (k + 1) := by
  funext i
  simp only [putF, miK]
  (repeat' split) <;> first | rfl | omega | (exfalso; omega) | (subst_vars; rfl)
theorem shK_0 : shK G 0 = G := by
  funext i
  simp only [shK]
  rw [if_neg (by omega)]
theorem shK_s : putF (shK G k) k (shK G k (k + 509)) = shK G (k + 1) := by
  have e : shK G k (k + 509) = G (k + 509) := by
    simp only [shK]
    rw [if_neg (by omega)]
  rw [e]
  funext i
  simp only [putF, shK]
  (repeat' split) <;> first | rfl | omega | (exfalso; omega) | (subst_vars; rfl)
set_option maxHeartbeats 4000000 in
set_option maxRecDepth 100000 in
theorem r_keeps (hc : c < 8) (h : Q none (setN (setK s (keepG G F c)) F)) : wpM L xs codT retT (f + 1) m_X10_keeps [.inr (10, 0), .inl (nI c)] (setN (setK s G) F) Q := by
  intro call hcall X hX; refine hX 1000 0 _ _ _ ?_
  repeat' (first | (intro hc) | (refine And.intro ?_ ?_) | (exact absurd nI_0 ‹cmpF 0 (nI 0) 0›) | (exact absurd ‹cmpT 0 (nI 1) 0› nI1_ne) | (exact absurd nI_0 ‹cmpT 1 (nI 0) 0›) | (exact absurd ‹cmpF 1 (nI 1) 0› nI1_ne) | (show wp _ _ _ _ _ _ _ _ _ _ _ _; conv => whnf))
  simp only [takeL, setL]
  rw [← keK_0 (F := F) (G := G) (c := c)]
  refine loopN (P := fun k => X 2 [.inr (10, 0), .inl (nI c), .inl (nI k)] [] (setN (setK s (keK G F c k)) F)) 509 (fun k hk ih => ?_) ?_ 0 (by omega)
  · clear h
    refine hX 1000 2 _ _ _ ?_
    repeat' (first | (intro hc) | (refine And.intro ?_ ?_) | (exact absurd nI_0 ‹cmpF 0 (nI 0) 0›) | (exact absurd ‹cmpT 0 (nI 1) 0› nI1_ne) | (exact absurd nI_0 ‹cmpT 1 (nI 0) 0›) | (exact absurd ‹cmpF 1 (nI 1) 0› nI1_ne) | (show wp _ _ _ _ _ _ _ _ _ _ _ _; conv => whnf))
    all_goals (clear hX hcall)
    all_goals (simp (disch := omega) only [cmpT, cmpF, nI_toI, setN_now, nI_cl, alen20, alen21, nI_add, nI_mul, takeL, setL, setNK_put] at *)
    all_goals first
      | omega
      | (rw [show c * 509 + k = 509 * c + k by omega, keK_s]; exact ih)
  · refine hX 1000 2 _ _ _ ?_
    repeat' (first | (intro hc) | (refine And.intro ?_ ?_) | (exact absurd nI_0 ‹cmpF 0 (nI 0) 0›) | (exact absurd ‹cmpT 0 (nI 1) 0› nI1_ne) | (exact absurd nI_0 ‹cmpT 1 (nI 0) 0›) | (exact absurd ‹cmpF 1 (nI 1) 0› nI1_ne) | (show wp _ _ _ _ _ _ _ _ _ _ _ _; conv => whnf))
    all_goals first
      | exact h
      | (exfalso; clear h hX hcall; simp (disch := omega) only [cmpT, cmpF, nI_toI] at *; omega)
set_option maxHeartbeats 4000000 in
set_option maxRecDepth 100000 in
theorem r_brings (hc : c < 8) (h : Q none (setN (setK s G) (mixF F (fun k => G (509 * c + k))))) : wpM L xs codT retT (f + 1) m_X10_brings [.inr (10, 0), .inl (nI c)] (setN (setK s G) F) Q := by
  intro call hcall X hX; refine hX 1000 0 _ _ _ ?_
  repeat' (first | (intro hc) | (refine And.intro ?_ ?_) | (exact absurd nI_0 ‹cmpF 0 (nI 0) 0›) | (exact absurd ‹cmpT 0 (nI 1) 0› nI1_ne) | (exact absurd nI_0 ‹cmpT 1 (nI 0) 0›) | (exact absurd ‹cmpF 1 (nI 1) 0› nI1_ne) | (show wp _ _ _ _ _ _ _ _ _ _ _ _; conv => whnf))
  simp only [takeL, setL]
  rw [← miK_0 (F := F) (G := fun k => G (509 * c + k))]
  refine loopN (P := fun k => X 2 [.inr (10, 0), .inl (nI c), .inl (nI k)] [] (setN (setK s G) (miK F (fun k => G (509 * c + k)) k))) 509 (fun k hk ih => ?_) ?_ 0 (by omega)
  · clear h
    refine hX 1000 2 _ _ _ ?_
    repeat' (first | (intro hc) | (refine And.intro ?_ ?_) | (exact absurd nI_0 ‹cmpF 0 (nI 0) 0›) | (exact absurd ‹cmpT 0 (nI 1) 0› nI1_ne) | (exact absurd nI_0 ‹cmpT 1 (nI 0) 0›) | (exact absurd ‹cmpF 1 (nI 1) 0› nI1_ne) | (show wp _ _ _ _ _ _ _ _ _ _ _ _; conv => whnf))
    all_goals (clear hX hcall)
    all_goals (simp (disch := omega) only [cmpT, cmpF, nI_toI, setN_now, nI_cl, alen20, alen21, nI_add, nI_mul, takeL, setL, setN_put, setNK_k] at *)
    all_goals first
      | omega
      | (rw [show c * 509 + k = 509 * c + k by omega]; rw [← miK_s] at ih; exact ih)
  · refine hX 1000 2 _ _ _ ?_
    repeat' (first | (intro hc) | (refine And.intro ?_ ?_) | (exact absurd nI_0 ‹cmpF 0 (nI 0) 0›) | (exact absurd ‹cmpT 0 (nI 1) 0› nI1_ne) | (exact absurd nI_0 ‹cmpT 1 (nI 0) 0›) | (exact absurd ‹cmpF 1 (nI 1) 0› nI1_ne) | (show wp _ _ _ _ _ _ _ _ _ _ _ _; conv => whnf))
    all_goals first
      | exact h
      | (exfalso; clear h hX hcall; simp (disch := omega) only [cmpT, cmpF, nI_toI] at *; omega)
set_option maxHeartbeats 4000000 in
set_option maxRecDepth 100000 in
theorem r_records {n : Nat} (hn : n ≤ 5) (hs : s.1 10 0 3 = nI n) (h : Q none (setN (setK (putV s 10 0 3 (nI (recN n))) (recG G F n)) F)) : wpM L xs codT retT (f + 2) m_X10_records [.inr (10, 0)] (setN (setK s G) F) Q := by
  have e1 : (setN (setK s G) F).1 10 0 3 = nI n := by rw [setNK_fv, hs]
  by_cases h5 : n = 5
  · subst h5
    intro call hcall X hX; refine hX 1000 0 _ _ _ ?_
    repeat' (first | (intro hc) | (refine And.intro ?_ ?_) | (exact absurd nI_0 ‹cmpF 0 (nI 0) 0›) | (exact absurd ‹cmpT 0 (nI 1) 0› nI1_ne) | (exact absurd nI_0 ‹cmpT 1 (nI 0) 0›) | (exact absurd ‹cmpF 1 (nI 1) 0› nI1_ne) | (show wp _ _ _ _ _ _ _ _ _ _ _ _; conv => whnf))
    all_goals (try (exact absurd e1 ‹cmpT 1 _ (nI 5)›))
    simp only [takeL, setL]
    rw [← shK_0 (G := G)]
    refine loopN (P := fun k => X 10 [.inr (10, 0), .inl (nI k)] [] (setN (setK s (shK G k)) F)) 2036 (fun k hk ih => ?_) ?_ 0 (by omega)
    · clear h
      refine hX 1000 10 _ _ _ ?_
      repeat' (first | (intro hc) | (refine And.intro ?_ ?_) | (exact absurd nI_0 ‹cmpF 0 (nI 0) 0›) | (exact absurd ‹cmpT 0 (nI 1) 0› nI1_ne) | (exact absurd nI_0 ‹cmpT 1 (nI 0) 0›) | (exact absurd ‹cmpF 1 (nI 1) 0› nI1_ne) | (show wp _ _ _ _ _ _ _ _ _ _ _ _; conv => whnf))
      all_goals (clear hX hcall)
      all_goals (simp (disch := omega) only [cmpT, cmpF, nI_toI, setN_now, nI_cl, alen20, alen21, nI_add, nI_mul, takeL, setL, setNK_put, setNK_k] at *)
      all_goals first
        | omega
        | (rw [shK_s]; exact ih)
    · refine hX 1000 10 _ _ _ ?_
      repeat' (first | (intro hc) | (refine And.intro ?_ ?_) | (exact absurd nI_0 ‹cmpF 0 (nI 0) 0›) | (exact absurd ‹cmpT 0 (nI 1) 0› nI1_ne) | (exact absurd nI_0 ‹cmpT 1 (nI 0) 0›) | (exact absurd ‹cmpF 1 (nI 1) 0› nI1_ne) | (show wp _ _ _ _ _ _ _ _ _ _ _ _; conv => whnf) | (rw [setNK_fput]) | (rw [setNK_fv]) | (rw [putV_put]) | (rw [putV_at]) | (rw [hs]) | (rw [nI_sub (by omega) (by omega)]) | (simp (disch := omega) only [nI_add, nI_mul, setN_now, setN_put, nI_cl, Nat.add_zero]) | (refine hcall _ _ _ _ ?_; first | (refine r_keeps (by omega) ?_) | fail))
      all_goals first
        | exact h
        | decide
        | (exfalso; have hq := ‹cmpF 3 (nI 2036) (nI 2036)›; simp only [cmpF] at hq; omega)
  · have e2 : recG G F n = keepG G F n := if_neg h5
    have e3 : recN n = n + 1 := if_neg h5
    rw [e2, e3] at h
    intro call hcall X hX; refine hX 1000 0 _ _ _ ?_
    repeat' (first | (intro hc) | (refine And.intro ?_ ?_) | (exact absurd nI_0 ‹cmpF 0 (nI 0) 0›) | (exact absurd ‹cmpT 0 (nI 1) 0› nI1_ne) | (exact absurd nI_0 ‹cmpT 1 (nI 0) 0›) | (exact absurd ‹cmpF 1 (nI 1) 0› nI1_ne) | (show wp _ _ _ _ _ _ _ _ _ _ _ _; conv => whnf) | (rw [setNK_fput]) | (rw [setNK_fvv hs rfl]) | (rw [setNK_fv]) | (rw [hs]) | (simp (disch := omega) only [nI_add, nI_mul, setN_now, setN_put, nI_cl, Nat.add_zero]) | (refine hcall _ _ _ _ ?_; first | (refine r_keeps (by omega) ?_) | fail))
    all_goals first
      | exact h
      | (exfalso; have hq := ‹cmpF 1 _ (nI 5)›; rw [show _ = nI n from e1] at hq; exact h5 ((nI_inj (by omega) (by omega)).mp hq))
end REF9
end
section
/-! THE REFERENCE: calls that change something -/
abbrev powB (z : Int32) : Prop := z = nI 1 ∨ z = nI 2 ∨ z = nI 4 ∨ z = nI 8 ∨ z = nI 16 ∨ z = nI 32 ∨ z = nI 64 ∨ z = nI 128 ∨ z = nI 256
abbrev blkB (a z : Int32) : Prop := powB z ∧ (0 ≤ a.toInt ∧ a.toInt ≤ 255) ∧ a - a / z * z = 0
abbrev iN (v : Int32) (n : Nat) : Prop := 0 ≤ v.toInt ∧ v.toInt < (n : Int)
abbrev meetF (F : Fm) (k : Nat) (a z : Int32) : Prop := a.toInt < (F (5 + 3 * k + 1) + F (5 + 3 * k + 2)).toInt ∧ (F (5 + 3 * k + 1)).toInt < (a + z).toInt
/-- a server of parent p meets the block -/
def anyM (F : Fm) (p a z : Int32) : Nat → Bool
  | 0 => false
  | n + 1 => anyM F p a z n || decide (1 ≤ n ∧ F (5 + 3 * n) = p ∧ meetF F n a z)
def serverF (F : Fm) (p a z : Int32) : Int32 × Fm :=
  if ¬ iN p (cS F) then (-1, F)
  else if ¬ (blkB a z ∧ holdF F (nn p) a z ∧ z.toInt < (F (5 + 3 * nn p + 2)).toInt) then (-2, F)
  else if anyM F p a z (cS F) = true then (-3, F)
  else if cS F = 8 then (-4, F)
  else (nI (cS F), fun i => if i = 5 + 3 * cS F then p else if i = 5 + 3 * cS F + 1 then a else if i = 5 + 3 * cS F + 2 then z else if i = 1 then F 1 + nI 1 else F i)
/-- a site has just this block -/
def anyS (F : Fm) (a z : Int32) : Nat → Bool
  | 0 => false
  | n + 1 => anyS F a z n || decide (F (29 + 17 * n) = a ∧ F (29 + 17 * n + 1) = z)
def siteF (F : Fm) (a z l : Int32) : Int32 × Fm :=
  if ¬ (blkB a z ∧ 1 ≤ l.toInt ∧ l.toInt ≤ 48) then (-2, F)
  else if anyS F a z (cT F) = true then (-3, F)
  else if cT F = 8 then (-4, F)
  else (nI (cT F), fun i => if i = 29 + 17 * cT F then a else if i = 29 + 17 * cT F + 1 then z else if i = 29 + 17 * cT F + 2 then l else if i = 29 + 17 * cT F + 3 then nI 1 else if 29 + 17 * cT F + 4 ≤ i ∧ i < 29 + 17 * cT F + 17 then nI 0 else if i = 2 then F 2 + nI 1 else F i)
def routerF (F : Fm) : Int32 × Fm :=
  if cR F = 4 then (-4, F)
  else (nI (cR F), fun i => if 165 + 6 * cR F ≤ i ∧ i < 165 + 6 * cR F + 6 then nI 0 else if i = 3 then F 3 + nI 1 else F i)
def fillSF (F : Fm) (k j v w x : Int32) : Int32 × Fm :=
  if ¬ (iN k (cT F) ∧ iN j 3) then (-1, F)
  else if ¬ (iN v 32 ∧ iN w 10 ∧ 1 ≤ x.toInt ∧ x.toInt ≤ 9) then (-2, F)
  else (F (29 + 17 * nn k + 3) + nI 1, fun i => if i = 29 + 17 * nn k + 5 + 4 * nn j then nI 1 else if i = 29 + 17 * nn k + 5 + 4 * nn j + 1 then v else if i = 29 + 17 * nn k + 5 + 4 * nn j + 2 then w else if i = 29 + 17 * nn k + 5 + 4 * nn j + 3 then x else if i = 29 + 17 * nn k + 3 then F i + nI 1 else F i)
def vacF (F : Fm) (k j : Int32) : Int32 × Fm :=
  if ¬ (iN k (cT F) ∧ iN j 3) then (-1, F)
  else if F (29 + 17 * nn k + 5 + 4 * nn j) = nI 0 then (-3, F)
  else (F (29 + 17 * nn k + 3) + nI 1, fun i => if i = 29 + 17 * nn k + 5 + 4 * nn j then nI 0 else if i = 29 + 17 * nn k + 3 then F i + nI 1 else F i)
def regF (F : Fm) (k : Int32) : Int32 × Fm :=
  if ¬ iN k (cT F) then (-1, F)
  else (F 0 + F (29 + 17 * nn k + 2), putF F (29 + 17 * nn k + 4) (F 0 + F (29 + 17 * nn k + 2)))
def unregF (F : Fm) (k : Int32) : Int32 × Fm :=
  if ¬ iN k (cT F) then (-1, F)
  else if ¬ (F 0).toInt < (F (29 + 17 * nn k + 4)).toInt then (-3, F)
  else (F (29 + 17 * nn k + 4) - F 0, putF F (29 + 17 * nn k + 4) (F 0))
def lifeF (F : Fm) (l : Int32) : Int32 × Fm :=
  if ¬ (1 ≤ l.toInt ∧ l.toInt ≤ 100) then (-2, F) else (F 4, putF F 4 l)
def passF (F : Fm) (h : Int32) : Int32 × Fm :=
  if ¬ (1 ≤ h.toInt ∧ h.toInt ≤ 99) then (-2, F)
  else if 9999 < (F 0 + h).toInt then (-3, F)
  else (F 0 + h, putF F 0 (F 0 + h))
def forgetF (F : Fm) (r : Int32) : Int32 × Fm :=
  if ¬ iN r (cR F) then (-1, F) else (F (165 + 6 * nn r), putF F (165 + 6 * nn r) (nI 0))
def letterF (F : Fm) (r name flow : Int32) : Int32 × Fm :=
  if ¬ iN r (cR F) then (-1, F)
  else if ¬ (iN name 256 ∧ iN flow 100) then (-2, F)
  else sendF F (nn r) name flow
/-- the store behind a call that is recorded -/
def recS (s : St) (G F : Fm) (n : Nat) (F' : Fm) : St := setN (setK (putV s 10 0 3 (nI (recN n))) (recG G F n)) F'
def doneS (s : St) (G F : Fm) (n : Nat) (o : Int32 × Fm) : St := if o.1.toInt < 0 then setN (setK s G) F else recS s G F n o.2
section REF10
variable {L : Nat} {xs : Nat → Int32} {f i k r p q c j n B b : Nat} {x y v a z name flow place : Int32} {s : St} {F G F' : Fm} {Q : Option MV → St → Prop}
theorem recS_eq {F' : Fm} : setN (recS s G F n F) F' = recS s G F n F' := setN_setN _ _ _
theorem recS_put : putV (recS s G F n F') 20 0 i x = recS s G F n (putF F' i x) := setN_put _ _ _ _
theorem recS_now : (recS s G F n F').1 20 0 i = F' i := setN_now _ _ _
set_option maxHeartbeats 4000000 in
set_option maxRecDepth 100000 in
theorem r_isBlock (h : Q (some (.inl (bI (blkB a z)))) s) : wpM L xs codT retT (f + 3) m_X10_isBlock [.inl a, .inl z] s Q := by
  intro call hcall X hX; refine hX 1000 0 _ _ _ ?_
  repeat' (first | (intro hc) | (refine And.intro ?_ ?_) | (exact absurd nI_0 ‹cmpF 0 (nI 0) 0›) | (exact absurd ‹cmpT 0 (nI 1) 0› nI1_ne) | (exact absurd nI_0 ‹cmpT 1 (nI 0) 0›) | (exact absurd ‹cmpF 1 (nI 1) 0› nI1_ne) | (show wp _ _ _ _ _ _ _ _ _ _ _ _; conv => whnf) | (simp (disch := omega) only [nI_add, nI_mul, setN_now, setN_put, nI_cl, Nat.add_zero]) | (refine hcall _ _ _ _ ?_; first | (refine r_isName ?_) | fail))
  all_goals (clear hX hcall)
  all_goals (simp only [cmpT, cmpF, bI_eq0, bI_ne0, Classical.not_not] at *)
  all_goals first
    | exact Or.inl rfl
    | exact Or.inr rfl
    | (have hq : z = nI 1 := ‹z = nI 1›; have h0 := ‹z = 0›; rw [hq] at h0; exact absurd h0 (by decide))
    | (have hq : z = nI 2 := ‹z = nI 2›; have h0 := ‹z = 0›; rw [hq] at h0; exact absurd h0 (by decide))
    | (have hq : z = nI 4 := ‹z = nI 4›; have h0 := ‹z = 0›; rw [hq] at h0; exact absurd h0 (by decide))
    | (have hq : z = nI 8 := ‹z = nI 8›; have h0 := ‹z = 0›; rw [hq] at h0; exact absurd h0 (by decide))
    | (have hq : z = nI 16 := ‹z = nI 16›; have h0 := ‹z = 0›; rw [hq] at h0; exact absurd h0 (by decide))
    | (have hq : z = nI 32 := ‹z = nI 32›; have h0 := ‹z = 0›; rw [hq] at h0; exact absurd h0 (by decide))
    | (have hq : z = nI 64 := ‹z = nI 64›; have h0 := ‹z = 0›; rw [hq] at h0; exact absurd h0 (by decide))
    | (have hq : z = nI 128 := ‹z = nI 128›; have h0 := ‹z = 0›; rw [hq] at h0; exact absurd h0 (by decide))
    | (have hq : z = nI 256 := ‹z = nI 256›; have h0 := ‹z = 0›; rw [hq] at h0; exact absurd h0 (by decide))
    | (refine bI_1 h ⟨?_, by assumption, by assumption⟩; repeat (first | assumption | exact Or.inl (by assumption) | apply Or.inr))
    | (refine bI_0 h ?_; rintro ⟨h1, h2, h3⟩; first | contradiction | (rcases h1 with h1 | h1 | h1 | h1 | h1 | h1 | h1 | h1 | h1 <;> contradiction))
theorem anyM_s (h : anyM F v a z n = true) : ∀ m, n ≤ m → anyM F v a z m = true := by
  intro m hm
  induction m with
  | zero => rw [show n = 0 by omega] at h; exact h
  | succ m ih =>
    by_cases e : n = m + 1
    · rw [← e]; exact h
    · show (_ || _) = true
      rw [ih (by omega)]
      rfl
theorem iN_nn (h : iN v n) (hn : n < 1000) : ∃ k : Nat, v = nI k ∧ k < n := by
  obtain ⟨k, e1, e2, e3⟩ := nI_ex h.1
  exact ⟨k, e1, by have := h.2; omega⟩
theorem iN_k (h : k < n) (hn : n < 1000) : iN (nI k) n := ⟨by rw [nI_toI (by omega)]; omega, by rw [nI_toI (by omega)]; omega⟩
theorem doneS_n {o : Int32 × Fm} (h : Q (some (.inl o.1)) (doneS s G F n o)) (e : o = (v, F')) (hv : v.toInt < 0) : Q (some (.inl v)) (setN (setK s G) F) := by
  subst e
  unfold doneS at h
  rw [if_pos hv] at h
  exact h
theorem doneS_p {o : Int32 × Fm} (h : Q (some (.inl o.1)) (doneS s G F n o)) (e : o = (v, F')) (hv : 0 ≤ v.toInt) : Q (some (.inl v)) (recS s G F n F') := by
  subst e
  unfold doneS at h
  rw [if_neg (show ¬ (v, F').1.toInt < 0 by dsimp only; omega)] at h
  exact h
theorem recS_go {P : Fm} {w : Int32} (h : Q (some (.inl v)) (recS s G F n F')) (hv : w = v) (hF : P = F') : Q (some (.inl w)) (setN (setK (putV s 10 0 3 (nI (recN n))) (recG G F n)) P) := by
  subst hv
  subst hF
  exact h
theorem loopD {P : Nat → Prop} (n : Nat) (step : ∀ k, k < n → P (k + 1) → P k) (last : P n) : ∀ k, k ≤ n → P k := fun k hk => loopN n step last k hk
set_option maxHeartbeats 4000000 in
set_option maxRecDepth 100000 in
theorem r_addServer (hw : WF F B) (hn : n ≤ 5) (hs : s.1 10 0 3 = nI n) (h : Q (some (.inl (serverF F v a z).1)) (doneS s G F n (serverF F v a z))) : wpM L xs codT retT (f + 4) m_X10_addServer [.inr (10, 0), .inl v, .inl a, .inl z] (setN (setK s G) F) Q := by
  have s2 := hw.s2
  have s1 := hw.s1
  by_cases hv : iN v (cS F)
  · obtain ⟨p, hp, hpl⟩ := iN_nn hv (by omega)
    subst hp
    have en : nn (nI p) = p := nI_cl (by omega)
    by_cases hb : blkB a z ∧ holdF F p a z ∧ z.toInt < (F (5 + 3 * p + 2)).toInt
    · have e0 : serverF F (nI p) a z = if anyM F (nI p) a z (cS F) = true then (-3, F) else if cS F = 8 then (-4, F) else (nI (cS F), fun i => if i = 5 + 3 * cS F then nI p else if i = 5 + 3 * cS F + 1 then a else if i = 5 + 3 * cS F + 2 then z else if i = 1 then F 1 + nI 1 else F i) := by
        unfold serverF
        rw [if_neg (fun q => q hv), en, if_neg (fun q => q hb)]
      intro call hcall X hX; refine hX 1000 0 _ _ _ ?_
      repeat' (first | (intro hc) | (refine And.intro ?_ ?_) | (exact absurd nI_0 ‹cmpF 0 (nI 0) 0›) | (exact absurd ‹cmpT 0 (nI 1) 0› nI1_ne) | (exact absurd nI_0 ‹cmpT 1 (nI 0) 0›) | (exact absurd ‹cmpF 1 (nI 1) 0› nI1_ne) | (show wp _ _ _ _ _ _ _ _ _ _ _ _; conv => whnf) | (simp (disch := omega) only [nI_add, nI_mul, setN_now, setN_put, nI_cl, Nat.add_zero]) | (refine hcall _ _ _ _ ?_; first | (refine r_isServer hw.s1 (by omega) ?_) | (refine r_isBlock ?_) | (refine r_holds (by omega) ?_) | (refine r_sizeOf (by omega) ?_) | fail))
      all_goals (try ((try clear hX hcall); (try clear h); simp (disch := omega) only [cmpT, cmpF, bI_eq0, bI_ne0, Classical.not_not, nI_toI, setN_now, nI_cl, alen20, Int32.toInt_zero, hw.s1, hw.t1, hw.r1, nI_add, nI_mul, takeL, setL, setN_put] at *; exfalso; first | contradiction | omega | exact (by assumption : ¬ _) hb.1 | exact (by assumption : ¬ _) hb.2.1))
      have loop : ∀ j, j ≤ cS F - 1 → anyM F (nI p) a z (j + 1) = false → X 43 [.inr (10, 0), .inl (nI p), .inl a, .inl z, .inl (nI (j + 1))] [] (setN (setK s G) F) := by
        refine loopD (cS F - 1) (fun j hj ih ha => ?_) (fun ha => ?_)
        · by_cases hm : F (5 + 3 * (j + 1)) = nI p ∧ meetF F (j + 1) a z
          · have ha2 : anyM F (nI p) a z (j + 1 + 1) = true := by
              show (_ || decide _) = true
              rw [decide_eq_true (show 1 ≤ j + 1 ∧ F (5 + 3 * (j + 1)) = nI p ∧ meetF F (j + 1) a z from ⟨by omega, hm⟩), Bool.or_true]
            rw [if_pos (anyM_s ha2 (cS F) (by omega))] at e0
            obtain ⟨hm1, hm2, hm3⟩ := hm
            clear ih
            refine hX 1000 43 _ _ _ ?_
            repeat' (first | (intro hc) | (refine And.intro ?_ ?_) | (exact absurd nI_0 ‹cmpF 0 (nI 0) 0›) | (exact absurd ‹cmpT 0 (nI 1) 0› nI1_ne) | (exact absurd nI_0 ‹cmpT 1 (nI 0) 0›) | (exact absurd ‹cmpF 1 (nI 1) 0› nI1_ne) | (show wp _ _ _ _ _ _ _ _ _ _ _ _; conv => whnf) | (simp (disch := omega) only [nI_add, nI_mul, setN_now, setN_put, nI_cl, Nat.add_zero]) | (refine hcall _ _ _ _ ?_; first | (refine r_firstOf (by omega) ?_) | (refine r_sizeOf (by omega) ?_) | fail))
            all_goals first
              | exact doneS_n h e0 (by decide)
              | ((try clear hX hcall); (try clear h); simp (disch := omega) only [cmpT, cmpF, bI_eq0, bI_ne0, Classical.not_not, nI_toI, setN_now, nI_cl, alen20, Int32.toInt_zero, hw.s1, hw.t1, hw.r1, nI_add, nI_mul, takeL, setL, setN_put] at *; omega)
              | ((try clear hX hcall); (try clear h); simp (disch := omega) only [cmpT, cmpF, bI_eq0, bI_ne0, Classical.not_not, nI_toI, setN_now, nI_cl, alen20, Int32.toInt_zero, hw.s1, hw.t1, hw.r1, nI_add, nI_mul, takeL, setL, setN_put] at *; exfalso; first | contradiction | omega)
          · have ha2 : anyM F (nI p) a z (j + 1 + 1) = false := by
              show (_ || decide _) = false
              rw [ha, decide_eq_false (fun q => hm q.2)]
              rfl
            replace ih := ih ha2
            clear h
            refine hX 1000 43 _ _ _ ?_
            repeat' (first | (intro hc) | (refine And.intro ?_ ?_) | (exact absurd nI_0 ‹cmpF 0 (nI 0) 0›) | (exact absurd ‹cmpT 0 (nI 1) 0› nI1_ne) | (exact absurd nI_0 ‹cmpT 1 (nI 0) 0›) | (exact absurd ‹cmpF 1 (nI 1) 0› nI1_ne) | (show wp _ _ _ _ _ _ _ _ _ _ _ _; conv => whnf) | (simp (disch := omega) only [nI_add, nI_mul, setN_now, setN_put, nI_cl, Nat.add_zero]) | (refine hcall _ _ _ _ ?_; first | (refine r_firstOf (by omega) ?_) | (refine r_sizeOf (by omega) ?_) | fail))
            all_goals (clear e0; (try clear hX hcall); (try clear h); simp (disch := omega) only [cmpT, cmpF, bI_eq0, bI_ne0, Classical.not_not, nI_toI, setN_now, nI_cl, alen20, Int32.toInt_zero, hw.s1, hw.t1, hw.r1, nI_add, nI_mul, takeL, setL, setN_put] at *)
            all_goals first
              | exact ih
              | omega
              | (exfalso; first | contradiction | omega | exact hm ⟨by assumption, by assumption, by assumption⟩)
        · rw [show cS F - 1 + 1 = cS F by omega] at *
          rw [if_neg (by rw [ha]; decide)] at e0
          refine hX 1000 43 _ _ _ ?_
          repeat' (first | (intro hc) | (refine And.intro ?_ ?_) | (exact absurd nI_0 ‹cmpF 0 (nI 0) 0›) | (exact absurd ‹cmpT 0 (nI 1) 0› nI1_ne) | (exact absurd nI_0 ‹cmpT 1 (nI 0) 0›) | (exact absurd ‹cmpF 1 (nI 1) 0› nI1_ne) | (show wp _ _ _ _ _ _ _ _ _ _ _ _; conv => whnf) | (simp (disch := omega) only [nI_add, nI_mul, setN_now, setN_put, nI_cl, Nat.add_zero]) | (refine hcall _ _ _ _ ?_; first | (refine r_firstOf (by omega) ?_) | (refine r_sizeOf (by omega) ?_) | (refine r_records hn hs ?_) | fail))
          all_goals (try ((try clear hX hcall); (try clear h); simp (disch := omega) only [cmpT, cmpF, bI_eq0, bI_ne0, Classical.not_not, nI_toI, setN_now, nI_cl, alen20, Int32.toInt_zero, hw.s1, hw.t1, hw.r1, nI_add, nI_mul, takeL, setL, setN_put] at *; (try simp (disch := omega) only [nI_inj, nI_sub] at *); omega))
          · have hq : F 1 = nI 8 := ‹cmpF 1 (F 1) (nI 8)›
            rw [hw.s1, nI_inj (by omega) (by omega)] at hq
            rw [if_pos hq] at e0
            exact doneS_n h e0 (by decide)
          · have hq : ¬ F 1 = nI 8 := ‹cmpT 1 (F 1) (nI 8)›
            rw [hw.s1, nI_inj (by omega) (by omega)] at hq
            rw [if_neg hq] at e0
            refine recS_go (doneS_p h e0 (by rw [nI_toI (by omega)]; omega)) ?_ ?_
            · simp (disch := omega) only [hw.s1, hw.t1, hw.r1, nI_mul, nI_add, nI_sub, nI_cl, putF_at, putF_ne, Nat.add_sub_cancel]
            · funext i
              simp (disch := omega) only [hw.s1, hw.t1, hw.r1, nI_mul, nI_add, nI_sub, nI_cl, putF_at, putF_ne, Nat.add_sub_cancel]
              simp only [putF]
              (repeat' split) <;> first | rfl | omega | (exfalso; omega) | (congr 1; omega)
      simp only [takeL, setL]
      exact loop 0 (by omega) rfl
    · have e : serverF F (nI p) a z = (-2, F) := by
        unfold serverF
        rw [if_neg (fun q => q hv), en, if_pos hb]
      intro call hcall X hX; refine hX 1000 0 _ _ _ ?_
      repeat' (first | (intro hc) | (refine And.intro ?_ ?_) | (exact absurd nI_0 ‹cmpF 0 (nI 0) 0›) | (exact absurd ‹cmpT 0 (nI 1) 0› nI1_ne) | (exact absurd nI_0 ‹cmpT 1 (nI 0) 0›) | (exact absurd ‹cmpF 1 (nI 1) 0› nI1_ne) | (show wp _ _ _ _ _ _ _ _ _ _ _ _; conv => whnf) | (simp (disch := omega) only [nI_add, nI_mul, setN_now, setN_put, nI_cl, Nat.add_zero]) | (refine hcall _ _ _ _ ?_; first | (refine r_isServer hw.s1 (by omega) ?_) | (refine r_isBlock ?_) | (refine r_holds (by omega) ?_) | (refine r_sizeOf (by omega) ?_) | fail))
      all_goals first
        | exact doneS_n h e (by decide)
        | ((try clear hX hcall); (try clear h); simp (disch := omega) only [cmpT, cmpF, bI_eq0, bI_ne0, Classical.not_not, nI_toI, setN_now, nI_cl, alen20, Int32.toInt_zero, hw.s1, hw.t1, hw.r1, nI_add, nI_mul, takeL, setL, setN_put] at *; exfalso; first | contradiction | omega | (exact hb ⟨by assumption, by assumption, by assumption⟩))
  · have e : serverF F v a z = (-1, F) := by unfold serverF; rw [if_pos hv]
    intro call hcall X hX; refine hX 1000 0 _ _ _ ?_
    repeat' (first | (intro hc) | (refine And.intro ?_ ?_) | (exact absurd nI_0 ‹cmpF 0 (nI 0) 0›) | (exact absurd ‹cmpT 0 (nI 1) 0› nI1_ne) | (exact absurd nI_0 ‹cmpT 1 (nI 0) 0›) | (exact absurd ‹cmpF 1 (nI 1) 0› nI1_ne) | (show wp _ _ _ _ _ _ _ _ _ _ _ _; conv => whnf) | (simp (disch := omega) only [nI_add, nI_mul, setN_now, setN_put, nI_cl, Nat.add_zero]) | (refine hcall _ _ _ _ ?_; first | (refine r_isServer hw.s1 (by omega) ?_) | fail))
    all_goals first
      | exact doneS_n h e (by decide)
      | exact absurd (bI_ne0.mp ‹cmpT 1 (bI _) 0›) hv
end REF10
end
section
/-! THE REFERENCE: calls that change something, on -/
def zeK (F : Fm) (b k : Nat) : Fm := fun i => if b ≤ i ∧ i < b + k then nI 0 else F i
section REF11
variable {L : Nat} {xs : Nat → Int32} {f i k r p q c j n B b : Nat} {x y v a z w l name flow place : Int32} {s : St} {F G F' : Fm} {Q : Option MV → St → Prop}
theorem zeK_0 : zeK F b 0 = F := by
  funext i
  simp only [zeK]
  rw [if_neg (by omega)]
theorem zeK_s : putF (zeK F b k) (b + k) (nI 0) = zeK F b (k + 1) := by
  funext i
  simp only [putF, zeK]
  (repeat' split) <;> first | rfl | omega | (exfalso; omega) | (congr 1; omega)
set_option maxHeartbeats 4000000 in
set_option maxRecDepth 100000 in
theorem r_setMapLife (hw : WF F B) (hn : n ≤ 5) (hs : s.1 10 0 3 = nI n) (h : Q (some (.inl (lifeF F l).1)) (doneS s G F n (lifeF F l))) : wpM L xs codT retT (f + 3) m_X10_setMapLife [.inr (10, 0), .inl l] (setN (setK s G) F) Q := by
  by_cases hl : 1 ≤ l.toInt ∧ l.toInt ≤ 100
  · have e : lifeF F l = (F 4, putF F 4 l) := by unfold lifeF; rw [if_neg (fun q => q hl)]
    have h4 : 0 ≤ (F 4).toInt := by have := hw.l; omega
    intro call hcall X hX; refine hX 1000 0 _ _ _ ?_
    repeat' (first | (intro hc) | (refine And.intro ?_ ?_) | (exact absurd nI_0 ‹cmpF 0 (nI 0) 0›) | (exact absurd ‹cmpT 0 (nI 1) 0› nI1_ne) | (exact absurd nI_0 ‹cmpT 1 (nI 0) 0›) | (exact absurd ‹cmpF 1 (nI 1) 0› nI1_ne) | (show wp _ _ _ _ _ _ _ _ _ _ _ _; conv => whnf) | (simp (disch := omega) only [nI_add, nI_mul, setN_now, setN_put, nI_cl, Nat.add_zero]) | (refine hcall _ _ _ _ ?_; first | (refine r_isIn ?_) | (refine r_records hn hs ?_) | fail))
    all_goals (try ((try clear hX hcall); (try clear h); simp (disch := omega) only [cmpT, cmpF, bI_eq0, bI_ne0, Classical.not_not, nI_toI, setN_now, nI_cl, alen20, Int32.toInt_zero, hw.s1, hw.t1, hw.r1, nI_add, nI_mul, takeL, setL, setN_put] at *; omega))
    exact recS_go (doneS_p h e h4) rfl rfl
  · have e : lifeF F l = (-2, F) := by unfold lifeF; rw [if_pos hl]
    intro call hcall X hX; refine hX 1000 0 _ _ _ ?_
    repeat' (first | (intro hc) | (refine And.intro ?_ ?_) | (exact absurd nI_0 ‹cmpF 0 (nI 0) 0›) | (exact absurd ‹cmpT 0 (nI 1) 0› nI1_ne) | (exact absurd nI_0 ‹cmpT 1 (nI 0) 0›) | (exact absurd ‹cmpF 1 (nI 1) 0› nI1_ne) | (show wp _ _ _ _ _ _ _ _ _ _ _ _; conv => whnf) | (simp (disch := omega) only [nI_add, nI_mul, setN_now, setN_put, nI_cl, Nat.add_zero]) | (refine hcall _ _ _ _ ?_; first | (refine r_isIn ?_) | (refine r_records hn hs ?_) | fail))
    all_goals first
      | exact doneS_n h e (by decide)
      | ((try clear hX hcall); (try clear h); simp (disch := omega) only [cmpT, cmpF, bI_eq0, bI_ne0, Classical.not_not, nI_toI, setN_now, nI_cl, alen20, Int32.toInt_zero, hw.s1, hw.t1, hw.r1, nI_add, nI_mul, takeL, setL, setN_put] at *; omega)
set_option maxHeartbeats 4000000 in
set_option maxRecDepth 100000 in
theorem r_pass (hw : WF F B) (hn : n ≤ 5) (hs : s.1 10 0 3 = nI n) (h : Q (some (.inl (passF F v).1)) (doneS s G F n (passF F v))) : wpM L xs codT retT (f + 3) m_X10_pass [.inr (10, 0), .inl v] (setN (setK s G) F) Q := by
  have hh := hw.h
  by_cases hl : 1 ≤ v.toInt ∧ v.toInt ≤ 99
  · have hs1 : (F 0 + v).toInt = (F 0).toInt + v.toInt := by
      rw [Int32.toInt_add]
      apply Int.bmod_eq_of_le <;> omega
    by_cases h3 : 9999 < (F 0 + v).toInt
    · have e : passF F v = (-3, F) := by unfold passF; rw [if_neg (fun q => q hl), if_pos h3]
      intro call hcall X hX; refine hX 1000 0 _ _ _ ?_
      repeat' (first | (intro hc) | (refine And.intro ?_ ?_) | (exact absurd nI_0 ‹cmpF 0 (nI 0) 0›) | (exact absurd ‹cmpT 0 (nI 1) 0› nI1_ne) | (exact absurd nI_0 ‹cmpT 1 (nI 0) 0›) | (exact absurd ‹cmpF 1 (nI 1) 0› nI1_ne) | (show wp _ _ _ _ _ _ _ _ _ _ _ _; conv => whnf) | (simp (disch := omega) only [nI_add, nI_mul, setN_now, setN_put, nI_cl, Nat.add_zero]) | (refine hcall _ _ _ _ ?_; first | (refine r_isIn ?_) | (refine r_records hn hs ?_) | fail))
      all_goals first
        | exact doneS_n h e (by decide)
        | ((try clear hX hcall); (try clear h); simp (disch := omega) only [cmpT, cmpF, bI_eq0, bI_ne0, Classical.not_not, nI_toI, setN_now, nI_cl, alen20, Int32.toInt_zero, hw.s1, hw.t1, hw.r1, nI_add, nI_mul, takeL, setL, setN_put] at *; omega)
    · have e : passF F v = (F 0 + v, putF F 0 (F 0 + v)) := by unfold passF; rw [if_neg (fun q => q hl), if_neg h3]
      intro call hcall X hX; refine hX 1000 0 _ _ _ ?_
      repeat' (first | (intro hc) | (refine And.intro ?_ ?_) | (exact absurd nI_0 ‹cmpF 0 (nI 0) 0›) | (exact absurd ‹cmpT 0 (nI 1) 0› nI1_ne) | (exact absurd nI_0 ‹cmpT 1 (nI 0) 0›) | (exact absurd ‹cmpF 1 (nI 1) 0› nI1_ne) | (show wp _ _ _ _ _ _ _ _ _ _ _ _; conv => whnf) | (simp (disch := omega) only [nI_add, nI_mul, setN_now, setN_put, nI_cl, Nat.add_zero]) | (refine hcall _ _ _ _ ?_; first | (refine r_isIn ?_) | (refine r_records hn hs ?_) | fail))
      all_goals (try ((try clear hX hcall); (try clear h); simp (disch := omega) only [cmpT, cmpF, bI_eq0, bI_ne0, Classical.not_not, nI_toI, setN_now, nI_cl, alen20, Int32.toInt_zero, hw.s1, hw.t1, hw.r1, nI_add, nI_mul, takeL, setL, setN_put] at *; omega))
      exact recS_go (doneS_p h e (by omega)) rfl rfl
  · have e : passF F v = (-2, F) := by unfold passF; rw [if_pos hl]
    intro call hcall X hX; refine hX 1000 0 _ _ _ ?_
    repeat' (first | (intro hc) | (refine And.intro ?_ ?_) | (exact absurd nI_0 ‹cmpF 0 (nI 0) 0›) | (exact absurd ‹cmpT 0 (nI 1) 0› nI1_ne) | (exact absurd nI_0 ‹cmpT 1 (nI 0) 0›) | (exact absurd ‹cmpF 1 (nI 1) 0› nI1_ne) | (show wp _ _ _ _ _ _ _ _ _ _ _ _; conv => whnf) | (simp (disch := omega) only [nI_add, nI_mul, setN_now, setN_put, nI_cl, Nat.add_zero]) | (refine hcall _ _ _ _ ?_; first | (refine r_isIn ?_) | (refine r_records hn hs ?_) | fail))
    all_goals first
      | exact doneS_n h e (by decide)
      | ((try clear hX hcall); (try clear h); simp (disch := omega) only [cmpT, cmpF, bI_eq0, bI_ne0, Classical.not_not, nI_toI, setN_now, nI_cl, alen20, Int32.toInt_zero, hw.s1, hw.t1, hw.r1, nI_add, nI_mul, takeL, setL, setN_put] at *; omega)
set_option maxHeartbeats 4000000 in
set_option maxRecDepth 100000 in
theorem r_forget (hw : WF F B) (hn : n ≤ 5) (hs : s.1 10 0 3 = nI n) (h : Q (some (.inl (forgetF F v).1)) (doneS s G F n (forgetF F v))) : wpM L xs codT retT (f + 3) m_X10_forget [.inr (10, 0), .inl v] (setN (setK s G) F) Q := by
  have r2 := hw.r2
  by_cases hv : iN v (cR F)
  · obtain ⟨r, hp, hpl⟩ := iN_nn hv (by omega)
    subst hp
    have en : nn (nI r) = r := nI_cl (by omega)
    have wr := hw.router hpl
    have wr1 := wr.1
    have wr5 := wr.2.1
    have e : forgetF F (nI r) = (nI (cM F r), putF F (165 + 6 * r) (nI 0)) := by unfold forgetF; rw [if_neg (fun q => q hv), en, ← wr1]
    intro call hcall X hX; refine hX 1000 0 _ _ _ ?_
    repeat' (first | (intro hc) | (refine And.intro ?_ ?_) | (exact absurd nI_0 ‹cmpF 0 (nI 0) 0›) | (exact absurd ‹cmpT 0 (nI 1) 0› nI1_ne) | (exact absurd nI_0 ‹cmpT 1 (nI 0) 0›) | (exact absurd ‹cmpF 1 (nI 1) 0› nI1_ne) | (show wp _ _ _ _ _ _ _ _ _ _ _ _; conv => whnf) | (simp (disch := omega) only [nI_add, nI_mul, setN_now, setN_put, nI_cl, Nat.add_zero]) | (refine hcall _ _ _ _ ?_; first | (refine r_isRouter hw.r1 (by omega) ?_) | (refine r_routerAt ?_) | (refine r_mapsOf (by omega) ?_) | (refine r_records hn hs ?_) | fail))
    all_goals (try ((try clear hX hcall); (try clear h); simp (disch := omega) only [cmpT, cmpF, bI_eq0, bI_ne0, Classical.not_not, nI_toI, setN_now, nI_cl, alen20, Int32.toInt_zero, hw.s1, hw.t1, hw.r1, nI_add, nI_mul, takeL, setL, setN_put] at *; omega))
    exact recS_go (doneS_p h e (by rw [nI_toI (by omega)]; omega)) wr1 rfl
  · have e : forgetF F v = (-1, F) := by unfold forgetF; rw [if_pos hv]
    intro call hcall X hX; refine hX 1000 0 _ _ _ ?_
    repeat' (first | (intro hc) | (refine And.intro ?_ ?_) | (exact absurd nI_0 ‹cmpF 0 (nI 0) 0›) | (exact absurd ‹cmpT 0 (nI 1) 0› nI1_ne) | (exact absurd nI_0 ‹cmpT 1 (nI 0) 0›) | (exact absurd ‹cmpF 1 (nI 1) 0› nI1_ne) | (show wp _ _ _ _ _ _ _ _ _ _ _ _; conv => whnf) | (simp (disch := omega) only [nI_add, nI_mul, setN_now, setN_put, nI_cl, Nat.add_zero]) | (refine hcall _ _ _ _ ?_; first | (refine r_isRouter hw.r1 (by omega) ?_) | fail))
    all_goals first
      | exact doneS_n h e (by decide)
      | ((try clear hX hcall); (try clear h); simp (disch := omega) only [cmpT, cmpF, bI_eq0, bI_ne0, Classical.not_not, nI_toI, setN_now, nI_cl, alen20, Int32.toInt_zero, hw.s1, hw.t1, hw.r1, nI_add, nI_mul, takeL, setL, setN_put] at *; omega)
set_option maxHeartbeats 4000000 in
set_option maxRecDepth 100000 in
theorem r_addRouter (hw : WF F B) (hn : n ≤ 5) (hs : s.1 10 0 3 = nI n) (h : Q (some (.inl (routerF F).1)) (doneS s G F n (routerF F))) : wpM L xs codT retT (f + 3) m_X10_addRouter [.inr (10, 0)] (setN (setK s G) F) Q := by
  have r2 := hw.r2
  by_cases h4 : cR F = 4
  · have e : routerF F = (-4, F) := by unfold routerF; rw [if_pos h4]
    intro call hcall X hX; refine hX 1000 0 _ _ _ ?_
    repeat' (first | (intro hc) | (refine And.intro ?_ ?_) | (exact absurd nI_0 ‹cmpF 0 (nI 0) 0›) | (exact absurd ‹cmpT 0 (nI 1) 0› nI1_ne) | (exact absurd nI_0 ‹cmpT 1 (nI 0) 0›) | (exact absurd ‹cmpF 1 (nI 1) 0› nI1_ne) | (show wp _ _ _ _ _ _ _ _ _ _ _ _; conv => whnf) | (simp (disch := omega) only [nI_add, nI_mul, setN_now, setN_put, nI_cl, Nat.add_zero]) | (refine hcall _ _ _ _ ?_; first | (refine r_routerAt ?_) | (refine r_records hn hs ?_) | fail))
    all_goals first
      | exact doneS_n h e (by decide)
      | (clear h e; (try clear hX hcall); (try clear h); simp (disch := omega) only [cmpT, cmpF, bI_eq0, bI_ne0, Classical.not_not, nI_toI, setN_now, nI_cl, alen20, Int32.toInt_zero, hw.s1, hw.t1, hw.r1, nI_add, nI_mul, takeL, setL, setN_put] at *; (try simp (disch := omega) only [nI_inj] at *); omega)
  · have e : routerF F = (nI (cR F), fun i => if 165 + 6 * cR F ≤ i ∧ i < 165 + 6 * cR F + 6 then nI 0 else if i = 3 then F 3 + nI 1 else F i) := by unfold routerF; rw [if_neg h4]
    intro call hcall X hX; refine hX 1000 0 _ _ _ ?_
    repeat' (first | (intro hc) | (refine And.intro ?_ ?_) | (exact absurd nI_0 ‹cmpF 0 (nI 0) 0›) | (exact absurd ‹cmpT 0 (nI 1) 0› nI1_ne) | (exact absurd nI_0 ‹cmpT 1 (nI 0) 0›) | (exact absurd ‹cmpF 1 (nI 1) 0› nI1_ne) | (show wp _ _ _ _ _ _ _ _ _ _ _ _; conv => whnf) | (simp (disch := omega) only [nI_add, nI_mul, setN_now, setN_put, nI_cl, Nat.add_zero]) | (refine hcall _ _ _ _ ?_; first | (refine r_routerAt ?_) | (refine r_records hn hs ?_) | fail))
    all_goals (try (clear e; (try clear hX hcall); (try clear h); simp (disch := omega) only [cmpT, cmpF, bI_eq0, bI_ne0, Classical.not_not, nI_toI, setN_now, nI_cl, alen20, Int32.toInt_zero, hw.s1, hw.t1, hw.r1, nI_add, nI_mul, takeL, setL, setN_put] at *; (try simp (disch := omega) only [nI_inj] at *); omega))
    simp only [takeL, setL, pushW]
    rw [← zeK_0 (F := F) (b := 165 + 6 * cR F)]
    refine loopN (P := fun k => X 19 [.inr (10, 0), .inl (nI k)] [] (setN (setK (putV s 10 0 3 (nI (recN n))) (recG G (zeK F (165 + 6 * cR F) 0) n)) (zeK F (165 + 6 * cR F) k))) 6 (fun k hk ih => ?_) ?_ 0 (by omega)
    · clear h
      have e3 : zeK F (165 + 6 * cR F) k 3 = nI (cR F) := by unfold zeK; rw [if_neg (by omega), hw.r1]
      refine hX 1000 19 _ _ _ ?_
      repeat' (first | (intro hc) | (refine And.intro ?_ ?_) | (exact absurd nI_0 ‹cmpF 0 (nI 0) 0›) | (exact absurd ‹cmpT 0 (nI 1) 0› nI1_ne) | (exact absurd nI_0 ‹cmpT 1 (nI 0) 0›) | (exact absurd ‹cmpF 1 (nI 1) 0› nI1_ne) | (show wp _ _ _ _ _ _ _ _ _ _ _ _; conv => whnf) | (rw [setN_now]) | (rw [e3]) | (simp (disch := omega) only [nI_add, nI_mul, setN_now, setN_put, nI_cl, Nat.add_zero]) | (refine hcall _ _ _ _ ?_; first | (refine r_routerAt ?_) | fail))
      all_goals (clear hX hcall)
      all_goals (simp (disch := omega) only [cmpT, cmpF, nI_toI, setN_now, nI_cl, alen20, alen21, nI_add, nI_mul, takeL, setL, setN_put, e3] at *)
      all_goals first
        | omega
        | (rw [zeK_s]; exact ih)
    · have e3 : zeK F (165 + 6 * cR F) 6 3 = nI (cR F) := by unfold zeK; rw [if_neg (by omega), hw.r1]
      refine hX 1000 19 _ _ _ ?_
      repeat' (first | (intro hc) | (refine And.intro ?_ ?_) | (exact absurd nI_0 ‹cmpF 0 (nI 0) 0›) | (exact absurd ‹cmpT 0 (nI 1) 0› nI1_ne) | (exact absurd nI_0 ‹cmpT 1 (nI 0) 0›) | (exact absurd ‹cmpF 1 (nI 1) 0› nI1_ne) | (show wp _ _ _ _ _ _ _ _ _ _ _ _; conv => whnf) | (simp (disch := omega) only [nI_add, nI_mul, setN_now, setN_put, nI_cl, Nat.add_zero]) | (refine hcall _ _ _ _ ?_; first | (refine r_routerAt ?_) | fail))
      all_goals (try (clear h; (try clear hX hcall); (try clear h); simp (disch := omega) only [cmpT, cmpF, bI_eq0, bI_ne0, Classical.not_not, nI_toI, setN_now, nI_cl, alen20, Int32.toInt_zero, hw.s1, hw.t1, hw.r1, nI_add, nI_mul, takeL, setL, setN_put] at *; omega))
      simp only [zeK_0]
      refine recS_go (doneS_p h e (by rw [nI_toI (by omega)]; omega)) ?_ ?_
      · simp (disch := omega) only [setN_put, setN_now, putF_at, e3, nI_add, nI_sub, Nat.add_sub_cancel, nI_cl]
      · funext i
        simp (disch := omega) only [putF, e3, nI_cl, zeK, hw.r1]
        (repeat' split) <;> first | rfl | omega | (exfalso; omega) | (congr 1; omega)
end REF11
end
section
/-! THE REFERENCE: sites' calls -/
section REF12
variable {L : Nat} {xs : Nat → Int32} {f i k r p q c j n B b : Nat} {x y v a z w l name flow place : Int32} {s : St} {F G F' : Fm} {Q : Option MV → St → Prop}
theorem anyS_s (h : anyS F a z n = true) : ∀ m, n ≤ m → anyS F a z m = true := by
  intro m hm
  induction m with
  | zero => rw [show n = 0 by omega] at h; exact h
  | succ m ih =>
    by_cases e : n = m + 1
    · rw [← e]; exact h
    · show (_ || _) = true
      rw [ih (by omega)]
      rfl
set_option maxHeartbeats 4000000 in
set_option maxRecDepth 100000 in
theorem r_registers (hk : k < 8) (h : Q (some (.inl (F 0 + F (29 + 17 * k + 2)))) (setN s (putF F (29 + 17 * k + 4) (F 0 + F (29 + 17 * k + 2))))) : wpM L xs codT retT (f + 3) m_X10_registers [.inr (10, 0), .inl (nI k)] (setN s F) Q := by
  intro call hcall X hX; refine hX 1000 0 _ _ _ ?_
  repeat' (first | (intro hc) | (refine And.intro ?_ ?_) | (exact absurd nI_0 ‹cmpF 0 (nI 0) 0›) | (exact absurd ‹cmpT 0 (nI 1) 0› nI1_ne) | (exact absurd nI_0 ‹cmpT 1 (nI 0) 0›) | (exact absurd ‹cmpF 1 (nI 1) 0› nI1_ne) | (show wp _ _ _ _ _ _ _ _ _ _ _ _; conv => whnf) | (simp (disch := omega) only [nI_add, nI_mul, setN_now, setN_put, nI_cl, Nat.add_zero]) | (refine hcall _ _ _ _ ?_; first | (refine r_siteAt ?_) | (refine r_ofSite (by omega) ?_) | fail))
  all_goals (try (clear h hX hcall; simp (disch := omega) only [nI_toI, alen20]; omega))
  simp (disch := omega) only [putF_at, setN_now, nI_cl, Nat.add_zero] at *
  exact h
set_option maxHeartbeats 4000000 in
set_option maxRecDepth 100000 in
theorem r_unregisters (hk : k < 8) (h : Q (some (.inl (F (29 + 17 * k + 4) - F 0))) (setN s (putF F (29 + 17 * k + 4) (F 0)))) : wpM L xs codT retT (f + 3) m_X10_unregisters [.inr (10, 0), .inl (nI k)] (setN s F) Q := by
  intro call hcall X hX; refine hX 1000 0 _ _ _ ?_
  repeat' (first | (intro hc) | (refine And.intro ?_ ?_) | (exact absurd nI_0 ‹cmpF 0 (nI 0) 0›) | (exact absurd ‹cmpT 0 (nI 1) 0› nI1_ne) | (exact absurd nI_0 ‹cmpT 1 (nI 0) 0›) | (exact absurd ‹cmpF 1 (nI 1) 0› nI1_ne) | (show wp _ _ _ _ _ _ _ _ _ _ _ _; conv => whnf) | (simp (disch := omega) only [nI_add, nI_mul, setN_now, setN_put, nI_cl, Nat.add_zero]) | (refine hcall _ _ _ _ ?_; first | (refine r_siteAt ?_) | (refine r_ofSite (by omega) ?_) | fail))
  all_goals (try (clear h hX hcall; simp (disch := omega) only [nI_toI, alen20]; omega))
  exact h
set_option maxHeartbeats 4000000 in
set_option maxRecDepth 100000 in
theorem r_register (hw : WF F B) (hn : n ≤ 5) (hs : s.1 10 0 3 = nI n) (h : Q (some (.inl (regF F v).1)) (doneS s G F n (regF F v))) : wpM L xs codT retT (f + 4) m_X10_register [.inr (10, 0), .inl v] (setN (setK s G) F) Q := by
  have t2 := hw.t2
  have hh := hw.h
  by_cases hv : iN v (cT F)
  · obtain ⟨k, hp, hpl⟩ := iN_nn hv (by omega)
    subst hp
    have en : nn (nI k) = k := nI_cl (by omega)
    have wl := (hw.site hpl).2.1
    have hs1 : (F 0 + F (29 + 17 * k + 2)).toInt = (F 0).toInt + (F (29 + 17 * k + 2)).toInt := by
      rw [Int32.toInt_add]
      apply Int.bmod_eq_of_le <;> omega
    have e : regF F (nI k) = (F 0 + F (29 + 17 * k + 2), putF F (29 + 17 * k + 4) (F 0 + F (29 + 17 * k + 2))) := by unfold regF; rw [if_neg (fun q => q hv), en]
    intro call hcall X hX; refine hX 1000 0 _ _ _ ?_
    repeat' (first | (intro hc) | (refine And.intro ?_ ?_) | (exact absurd nI_0 ‹cmpF 0 (nI 0) 0›) | (exact absurd ‹cmpT 0 (nI 1) 0› nI1_ne) | (exact absurd nI_0 ‹cmpT 1 (nI 0) 0›) | (exact absurd ‹cmpF 1 (nI 1) 0› nI1_ne) | (show wp _ _ _ _ _ _ _ _ _ _ _ _; conv => whnf) | (simp (disch := omega) only [nI_add, nI_mul, setN_now, setN_put, nI_cl, Nat.add_zero]) | (refine hcall _ _ _ _ ?_; first | (refine r_isSite hw.t1 (by omega) ?_) | (refine r_registers (by omega) ?_) | (refine r_records hn hs ?_) | fail))
    all_goals (try ((try clear hX hcall); (try clear h); simp (disch := omega) only [cmpT, cmpF, bI_eq0, bI_ne0, Classical.not_not, nI_toI, setN_now, nI_cl, alen20, Int32.toInt_zero, hw.s1, hw.t1, hw.r1, nI_add, nI_mul, takeL, setL, setN_put] at *; omega))
    exact doneS_p h e (by omega)
  · have e : regF F v = (-1, F) := by unfold regF; rw [if_pos hv]
    intro call hcall X hX; refine hX 1000 0 _ _ _ ?_
    repeat' (first | (intro hc) | (refine And.intro ?_ ?_) | (exact absurd nI_0 ‹cmpF 0 (nI 0) 0›) | (exact absurd ‹cmpT 0 (nI 1) 0› nI1_ne) | (exact absurd nI_0 ‹cmpT 1 (nI 0) 0›) | (exact absurd ‹cmpF 1 (nI 1) 0› nI1_ne) | (show wp _ _ _ _ _ _ _ _ _ _ _ _; conv => whnf) | (simp (disch := omega) only [nI_add, nI_mul, setN_now, setN_put, nI_cl, Nat.add_zero]) | (refine hcall _ _ _ _ ?_; first | (refine r_isSite hw.t1 (by omega) ?_) | fail))
    all_goals first
      | exact doneS_n h e (by decide)
      | ((try clear hX hcall); (try clear h); simp (disch := omega) only [cmpT, cmpF, bI_eq0, bI_ne0, Classical.not_not, nI_toI, setN_now, nI_cl, alen20, Int32.toInt_zero, hw.s1, hw.t1, hw.r1, nI_add, nI_mul, takeL, setL, setN_put] at *; omega)
set_option maxHeartbeats 4000000 in
set_option maxRecDepth 100000 in
theorem r_unregErr (hw : WF F B) (h : Q (some (.inl (if ¬ iN v (cT F) then -1 else if (F 0).toInt < (F (29 + 17 * nn v + 4)).toInt then nI 0 else -3))) (setN s F)) : wpM L xs codT retT (f + 4) m_X10_unregisterError [.inr (10, 0), .inl v] (setN s F) Q := by
  have t2 := hw.t2
  by_cases hv : iN v (cT F)
  · obtain ⟨k, hp, hpl⟩ := iN_nn hv (by omega)
    subst hp
    have en : nn (nI k) = k := nI_cl (by omega)
    rw [if_neg (fun q => q hv), en] at h
    by_cases hr : (F 0).toInt < (F (29 + 17 * k + 4)).toInt
    · rw [if_pos hr] at h
      intro call hcall X hX; refine hX 1000 0 _ _ _ ?_
      repeat' (first | (intro hc) | (refine And.intro ?_ ?_) | (exact absurd nI_0 ‹cmpF 0 (nI 0) 0›) | (exact absurd ‹cmpT 0 (nI 1) 0› nI1_ne) | (exact absurd nI_0 ‹cmpT 1 (nI 0) 0›) | (exact absurd ‹cmpF 1 (nI 1) 0› nI1_ne) | (show wp _ _ _ _ _ _ _ _ _ _ _ _; conv => whnf) | (simp (disch := omega) only [nI_add, nI_mul, setN_now, setN_put, nI_cl, Nat.add_zero]) | (refine hcall _ _ _ _ ?_; first | (refine r_isSite hw.t1 (by omega) ?_) | (refine r_isRegistered (by omega) ?_) | fail))
      all_goals first
        | exact h
        | ((try clear hX hcall); (try clear h); simp (disch := omega) only [cmpT, cmpF, bI_eq0, bI_ne0, Classical.not_not, nI_toI, setN_now, nI_cl, alen20, Int32.toInt_zero, hw.s1, hw.t1, hw.r1, nI_add, nI_mul, takeL, setL, setN_put] at *; omega)
    · rw [if_neg hr] at h
      intro call hcall X hX; refine hX 1000 0 _ _ _ ?_
      repeat' (first | (intro hc) | (refine And.intro ?_ ?_) | (exact absurd nI_0 ‹cmpF 0 (nI 0) 0›) | (exact absurd ‹cmpT 0 (nI 1) 0› nI1_ne) | (exact absurd nI_0 ‹cmpT 1 (nI 0) 0›) | (exact absurd ‹cmpF 1 (nI 1) 0› nI1_ne) | (show wp _ _ _ _ _ _ _ _ _ _ _ _; conv => whnf) | (simp (disch := omega) only [nI_add, nI_mul, setN_now, setN_put, nI_cl, Nat.add_zero]) | (refine hcall _ _ _ _ ?_; first | (refine r_isSite hw.t1 (by omega) ?_) | (refine r_isRegistered (by omega) ?_) | fail))
      all_goals first
        | exact h
        | ((try clear hX hcall); (try clear h); simp (disch := omega) only [cmpT, cmpF, bI_eq0, bI_ne0, Classical.not_not, nI_toI, setN_now, nI_cl, alen20, Int32.toInt_zero, hw.s1, hw.t1, hw.r1, nI_add, nI_mul, takeL, setL, setN_put] at *; omega)
  · rw [if_pos hv] at h
    intro call hcall X hX; refine hX 1000 0 _ _ _ ?_
    repeat' (first | (intro hc) | (refine And.intro ?_ ?_) | (exact absurd nI_0 ‹cmpF 0 (nI 0) 0›) | (exact absurd ‹cmpT 0 (nI 1) 0› nI1_ne) | (exact absurd nI_0 ‹cmpT 1 (nI 0) 0›) | (exact absurd ‹cmpF 1 (nI 1) 0› nI1_ne) | (show wp _ _ _ _ _ _ _ _ _ _ _ _; conv => whnf) | (simp (disch := omega) only [nI_add, nI_mul, setN_now, setN_put, nI_cl, Nat.add_zero]) | (refine hcall _ _ _ _ ?_; first | (refine r_isSite hw.t1 (by omega) ?_) | fail))
    all_goals first
      | exact h
      | ((try clear hX hcall); (try clear h); simp (disch := omega) only [cmpT, cmpF, bI_eq0, bI_ne0, Classical.not_not, nI_toI, setN_now, nI_cl, alen20, Int32.toInt_zero, hw.s1, hw.t1, hw.r1, nI_add, nI_mul, takeL, setL, setN_put] at *; omega)
theorem r_unregErrE (hw : WF F B) (e : (if ¬ iN v (cT F) then -1 else if (F 0).toInt < (F (29 + 17 * nn v + 4)).toInt then nI 0 else -3) = x) (h : Q (some (.inl x)) (setN s F)) : wpM L xs codT retT (f + 4) m_X10_unregisterError [.inr (10, 0), .inl v] (setN s F) Q := r_unregErr hw (by rw [e]; exact h)
set_option maxHeartbeats 4000000 in
set_option maxRecDepth 100000 in
theorem r_unregister (hw : WF F B) (hn : n ≤ 5) (hs : s.1 10 0 3 = nI n) (h : Q (some (.inl (unregF F v).1)) (doneS s G F n (unregF F v))) : wpM L xs codT retT (f + 5) m_X10_unregister [.inr (10, 0), .inl v] (setN (setK s G) F) Q := by
  have t2 := hw.t2
  have hh := hw.h
  by_cases hv : iN v (cT F)
  · obtain ⟨k, hp, hpl⟩ := iN_nn hv (by omega)
    subst hp
    have en : nn (nI k) = k := nI_cl (by omega)
    have we := (hw.site hpl).2.2.2.1
    have hs1 : (F (29 + 17 * k + 4) - F 0).toInt = (F (29 + 17 * k + 4)).toInt - (F 0).toInt := by
      rw [Int32.toInt_sub]
      apply Int.bmod_eq_of_le <;> omega
    by_cases hr : (F 0).toInt < (F (29 + 17 * k + 4)).toInt
    · have e : unregF F (nI k) = (F (29 + 17 * k + 4) - F 0, putF F (29 + 17 * k + 4) (F 0)) := by unfold unregF; rw [if_neg (fun q => q hv), en, if_neg (fun q => q hr)]
      intro call hcall X hX; refine hX 1000 0 _ _ _ ?_
      have e2 : (if ¬ iN (nI k) (cT F) then -1 else if (F 0).toInt < (F (29 + 17 * nn (nI k) + 4)).toInt then nI 0 else -3) = nI 0 := by rw [if_neg (fun q => q hv), en, if_pos hr]
      repeat' (first | (intro hc) | (refine And.intro ?_ ?_) | (exact absurd nI_0 ‹cmpF 0 (nI 0) 0›) | (exact absurd ‹cmpT 0 (nI 1) 0› nI1_ne) | (exact absurd nI_0 ‹cmpT 1 (nI 0) 0›) | (exact absurd ‹cmpF 1 (nI 1) 0› nI1_ne) | (show wp _ _ _ _ _ _ _ _ _ _ _ _; conv => whnf) | (simp (disch := omega) only [nI_add, nI_mul, setN_now, setN_put, nI_cl, Nat.add_zero]) | (refine hcall _ _ _ _ ?_; first | (refine r_unregErrE hw e2 ?_) | (refine r_unregisters (by omega) ?_) | (refine r_records hn hs ?_) | fail))
      exact doneS_p h e (by omega)
    · have e : unregF F (nI k) = (-3, F) := by unfold unregF; rw [if_neg (fun q => q hv), en, if_pos hr]
      intro call hcall X hX; refine hX 1000 0 _ _ _ ?_
      have e2 : (if ¬ iN (nI k) (cT F) then -1 else if (F 0).toInt < (F (29 + 17 * nn (nI k) + 4)).toInt then nI 0 else -3) = -3 := by rw [if_neg (fun q => q hv), en, if_neg hr]
      repeat' (first | (intro hc) | (refine And.intro ?_ ?_) | (exact absurd nI_0 ‹cmpF 0 (nI 0) 0›) | (exact absurd ‹cmpT 0 (nI 1) 0› nI1_ne) | (exact absurd nI_0 ‹cmpT 1 (nI 0) 0›) | (exact absurd ‹cmpF 1 (nI 1) 0› nI1_ne) | (show wp _ _ _ _ _ _ _ _ _ _ _ _; conv => whnf) | (simp (disch := omega) only [nI_add, nI_mul, setN_now, setN_put, nI_cl, Nat.add_zero]) | (refine hcall _ _ _ _ ?_; first | (refine r_unregErrE hw e2 ?_) | (refine r_unregisters (by omega) ?_) | (refine r_records hn hs ?_) | fail))
      all_goals first
        | exact doneS_n h e (by decide)
        | (have hq : (-3 : Int32) = 0 := ‹cmpT 0 (-3) 0›; exact absurd hq (by decide))
  · have e : unregF F v = (-1, F) := by unfold unregF; rw [if_pos hv]
    intro call hcall X hX; refine hX 1000 0 _ _ _ ?_
    have e2 : (if ¬ iN v (cT F) then -1 else if (F 0).toInt < (F (29 + 17 * nn v + 4)).toInt then nI 0 else -3) = -1 := by rw [if_pos hv]
    repeat' (first | (intro hc) | (refine And.intro ?_ ?_) | (exact absurd nI_0 ‹cmpF 0 (nI 0) 0›) | (exact absurd ‹cmpT 0 (nI 1) 0› nI1_ne) | (exact absurd nI_0 ‹cmpT 1 (nI 0) 0›) | (exact absurd ‹cmpF 1 (nI 1) 0› nI1_ne) | (show wp _ _ _ _ _ _ _ _ _ _ _ _; conv => whnf) | (simp (disch := omega) only [nI_add, nI_mul, setN_now, setN_put, nI_cl, Nat.add_zero]) | (refine hcall _ _ _ _ ?_; first | (refine r_unregErrE hw e2 ?_) | (refine r_records hn hs ?_) | fail))
    all_goals first
      | exact doneS_n h e (by decide)
      | (have hq : (-1 : Int32) = 0 := ‹cmpT 0 (-1) 0›; exact absurd hq (by decide))
set_option maxHeartbeats 4000000 in
set_option maxRecDepth 100000 in
theorem r_setSlot (hw : WF F B) (hn : n ≤ 5) (hs : s.1 10 0 3 = nI n) (h1 : B < 1000000) (h : Q (some (.inl (fillSF F v a z w l).1)) (doneS s G F n (fillSF F v a z w l))) : wpM L xs codT retT (f + 3) m_X10_setSlot [.inr (10, 0), .inl v, .inl a, .inl z, .inl w, .inl l] (setN (setK s G) F) Q := by
  have t2 := hw.t2
  by_cases hv : iN v (cT F) ∧ iN a 3
  · obtain ⟨k, hp, hpl⟩ := iN_nn hv.1 (by omega)
    obtain ⟨j, hq, hql⟩ := iN_nn hv.2 (by omega)
    subst hp
    subst hq
    have en : nn (nI k) = k := nI_cl (by omega)
    have ej : nn (nI j) = j := nI_cl (by omega)
    have wv := (hw.site hpl).2.2.1
    have hs1 : (F (29 + 17 * k + 3) + nI 1).toInt = (F (29 + 17 * k + 3)).toInt + 1 := by
      rw [Int32.toInt_add, nI_toI (by omega)]
      apply Int.bmod_eq_of_le <;> omega
    by_cases hb : iN z 32 ∧ iN w 10 ∧ 1 ≤ l.toInt ∧ l.toInt ≤ 9
    · have e : fillSF F (nI k) (nI j) z w l = (F (29 + 17 * k + 3) + nI 1, fun i => if i = 29 + 17 * k + 5 + 4 * j then nI 1 else if i = 29 + 17 * k + 5 + 4 * j + 1 then z else if i = 29 + 17 * k + 5 + 4 * j + 2 then w else if i = 29 + 17 * k + 5 + 4 * j + 3 then l else if i = 29 + 17 * k + 3 then F i + nI 1 else F i) := by
        unfold fillSF
        rw [if_neg (fun q => q hv), en, ej, if_neg (fun q => q hb)]
      intro call hcall X hX; refine hX 1000 0 _ _ _ ?_
      repeat' (first | (intro hc) | (refine And.intro ?_ ?_) | (exact absurd nI_0 ‹cmpF 0 (nI 0) 0›) | (exact absurd ‹cmpT 0 (nI 1) 0› nI1_ne) | (exact absurd nI_0 ‹cmpT 1 (nI 0) 0›) | (exact absurd ‹cmpF 1 (nI 1) 0› nI1_ne) | (show wp _ _ _ _ _ _ _ _ _ _ _ _; conv => whnf) | (simp (disch := omega) only [nI_add, nI_mul, setN_now, setN_put, nI_cl, Nat.add_zero]) | (refine hcall _ _ _ _ ?_; first | (refine r_isSite hw.t1 (by omega) ?_) | (refine r_isIn ?_) | (refine r_siteAt ?_) | (refine r_ofSite (by omega) ?_) | (refine r_records hn hs ?_) | fail))
      all_goals (try ((try clear hX hcall); (try clear h); simp (disch := omega) only [cmpT, cmpF, bI_eq0, bI_ne0, Classical.not_not, nI_toI, setN_now, nI_cl, alen20, Int32.toInt_zero, hw.s1, hw.t1, hw.r1, nI_add, nI_mul, takeL, setL, setN_put] at *; omega))
      refine recS_go (doneS_p h e (by omega)) ?_ ?_
      · simp (disch := omega) only [putF_at, putF_ne, nI_cl, nI_add, nI_mul]
      · funext i
        simp (disch := omega) only [putF, nI_cl, nI_add, nI_mul]
        (repeat' split) <;> first | rfl | omega | (exfalso; omega) | (subst_vars; rfl)
    · have e : fillSF F (nI k) (nI j) z w l = (-2, F) := by
        unfold fillSF
        rw [if_neg (fun q => q hv), if_pos hb]
      intro call hcall X hX; refine hX 1000 0 _ _ _ ?_
      repeat' (first | (intro hc) | (refine And.intro ?_ ?_) | (exact absurd nI_0 ‹cmpF 0 (nI 0) 0›) | (exact absurd ‹cmpT 0 (nI 1) 0› nI1_ne) | (exact absurd nI_0 ‹cmpT 1 (nI 0) 0›) | (exact absurd ‹cmpF 1 (nI 1) 0› nI1_ne) | (show wp _ _ _ _ _ _ _ _ _ _ _ _; conv => whnf) | (simp (disch := omega) only [nI_add, nI_mul, setN_now, setN_put, nI_cl, Nat.add_zero]) | (refine hcall _ _ _ _ ?_; first | (refine r_isSite hw.t1 (by omega) ?_) | (refine r_isIn ?_) | (refine r_siteAt ?_) | (refine r_ofSite (by omega) ?_) | (refine r_records hn hs ?_) | fail))
      all_goals first
        | exact doneS_n h e (by decide)
        | ((try clear hX hcall); (try clear h); simp (disch := omega) only [cmpT, cmpF, bI_eq0, bI_ne0, Classical.not_not, nI_toI, setN_now, nI_cl, alen20, Int32.toInt_zero, hw.s1, hw.t1, hw.r1, nI_add, nI_mul, takeL, setL, setN_put] at *; omega)
  · have e : fillSF F v a z w l = (-1, F) := by unfold fillSF; rw [if_pos hv]
    intro call hcall X hX; refine hX 1000 0 _ _ _ ?_
    repeat' (first | (intro hc) | (refine And.intro ?_ ?_) | (exact absurd nI_0 ‹cmpF 0 (nI 0) 0›) | (exact absurd ‹cmpT 0 (nI 1) 0› nI1_ne) | (exact absurd nI_0 ‹cmpT 1 (nI 0) 0›) | (exact absurd ‹cmpF 1 (nI 1) 0› nI1_ne) | (show wp _ _ _ _ _ _ _ _ _ _ _ _; conv => whnf) | (simp (disch := omega) only [nI_add, nI_mul, setN_now, setN_put, nI_cl, Nat.add_zero]) | (refine hcall _ _ _ _ ?_; first | (refine r_isSite hw.t1 (by omega) ?_) | (refine r_isIn ?_) | fail))
    all_goals first
      | exact doneS_n h e (by decide)
      | ((try clear hX hcall); (try clear h); simp (disch := omega) only [cmpT, cmpF, bI_eq0, bI_ne0, Classical.not_not, nI_toI, setN_now, nI_cl, alen20, Int32.toInt_zero, hw.s1, hw.t1, hw.r1, nI_add, nI_mul, takeL, setL, setN_put] at *; omega)
set_option maxHeartbeats 4000000 in
set_option maxRecDepth 100000 in
theorem r_emptySlot (hw : WF F B) (hn : n ≤ 5) (hs : s.1 10 0 3 = nI n) (h1 : B < 1000000) (h : Q (some (.inl (vacF F v a).1)) (doneS s G F n (vacF F v a))) : wpM L xs codT retT (f + 3) m_X10_emptySlot [.inr (10, 0), .inl v, .inl a] (setN (setK s G) F) Q := by
  have t2 := hw.t2
  by_cases hv : iN v (cT F) ∧ iN a 3
  · obtain ⟨k, hp, hpl⟩ := iN_nn hv.1 (by omega)
    obtain ⟨j, hq, hql⟩ := iN_nn hv.2 (by omega)
    subst hp
    subst hq
    have en : nn (nI k) = k := nI_cl (by omega)
    have ej : nn (nI j) = j := nI_cl (by omega)
    have wv := (hw.site hpl).2.2.1
    have hs1 : (F (29 + 17 * k + 3) + nI 1).toInt = (F (29 + 17 * k + 3)).toInt + 1 := by
      rw [Int32.toInt_add, nI_toI (by omega)]
      apply Int.bmod_eq_of_le <;> omega
    by_cases hb : F (29 + 17 * k + 5 + 4 * j) = nI 0
    · have e : vacF F (nI k) (nI j) = (-3, F) := by
        unfold vacF
        rw [if_neg (fun q => q hv), en, ej, if_pos hb]
      intro call hcall X hX; refine hX 1000 0 _ _ _ ?_
      repeat' (first | (intro hc) | (refine And.intro ?_ ?_) | (exact absurd nI_0 ‹cmpF 0 (nI 0) 0›) | (exact absurd ‹cmpT 0 (nI 1) 0› nI1_ne) | (exact absurd nI_0 ‹cmpT 1 (nI 0) 0›) | (exact absurd ‹cmpF 1 (nI 1) 0› nI1_ne) | (show wp _ _ _ _ _ _ _ _ _ _ _ _; conv => whnf) | (simp (disch := omega) only [nI_add, nI_mul, setN_now, setN_put, nI_cl, Nat.add_zero]) | (refine hcall _ _ _ _ ?_; first | (refine r_isSite hw.t1 (by omega) ?_) | (refine r_isIn ?_) | (refine r_siteAt ?_) | (refine r_ofSite (by omega) ?_) | (refine r_records hn hs ?_) | fail))
      all_goals first
        | exact doneS_n h e (by decide)
        | (have hb0 := hb.trans nI_0; (try clear hX hcall); (try clear h); simp (disch := omega) only [cmpT, cmpF, bI_eq0, bI_ne0, Classical.not_not, nI_toI, setN_now, nI_cl, alen20, Int32.toInt_zero, hw.s1, hw.t1, hw.r1, nI_add, nI_mul, takeL, setL, setN_put] at *; first | omega | contradiction)
    · have e : vacF F (nI k) (nI j) = (F (29 + 17 * k + 3) + nI 1, fun i => if i = 29 + 17 * k + 5 + 4 * j then nI 0 else if i = 29 + 17 * k + 3 then F i + nI 1 else F i) := by
        unfold vacF
        rw [if_neg (fun q => q hv), en, ej, if_neg hb]
      intro call hcall X hX; refine hX 1000 0 _ _ _ ?_
      repeat' (first | (intro hc) | (refine And.intro ?_ ?_) | (exact absurd nI_0 ‹cmpF 0 (nI 0) 0›) | (exact absurd ‹cmpT 0 (nI 1) 0› nI1_ne) | (exact absurd nI_0 ‹cmpT 1 (nI 0) 0›) | (exact absurd ‹cmpF 1 (nI 1) 0› nI1_ne) | (show wp _ _ _ _ _ _ _ _ _ _ _ _; conv => whnf) | (simp (disch := omega) only [nI_add, nI_mul, setN_now, setN_put, nI_cl, Nat.add_zero]) | (refine hcall _ _ _ _ ?_; first | (refine r_isSite hw.t1 (by omega) ?_) | (refine r_isIn ?_) | (refine r_siteAt ?_) | (refine r_ofSite (by omega) ?_) | (refine r_records hn hs ?_) | fail))
      all_goals (try (have hb0 : ¬ F (29 + 17 * k + 5 + 4 * j) = 0 := fun q => hb (q.trans nI_0.symm); (try clear hX hcall); (try clear h); simp (disch := omega) only [cmpT, cmpF, bI_eq0, bI_ne0, Classical.not_not, nI_toI, setN_now, nI_cl, alen20, Int32.toInt_zero, hw.s1, hw.t1, hw.r1, nI_add, nI_mul, takeL, setL, setN_put] at *; first | omega | contradiction))
      refine recS_go (doneS_p h e (by omega)) ?_ ?_
      · simp (disch := omega) only [putF_at, putF_ne, nI_cl, nI_add, nI_mul]
      · funext i
        simp (disch := omega) only [putF, nI_cl, nI_add, nI_mul]
        (repeat' split) <;> first | rfl | omega | (exfalso; omega) | (subst_vars; rfl)
  · have e : vacF F v a = (-1, F) := by unfold vacF; rw [if_pos hv]
    intro call hcall X hX; refine hX 1000 0 _ _ _ ?_
    repeat' (first | (intro hc) | (refine And.intro ?_ ?_) | (exact absurd nI_0 ‹cmpF 0 (nI 0) 0›) | (exact absurd ‹cmpT 0 (nI 1) 0› nI1_ne) | (exact absurd nI_0 ‹cmpT 1 (nI 0) 0›) | (exact absurd ‹cmpF 1 (nI 1) 0› nI1_ne) | (show wp _ _ _ _ _ _ _ _ _ _ _ _; conv => whnf) | (simp (disch := omega) only [nI_add, nI_mul, setN_now, setN_put, nI_cl, Nat.add_zero]) | (refine hcall _ _ _ _ ?_; first | (refine r_isSite hw.t1 (by omega) ?_) | (refine r_isIn ?_) | fail))
    all_goals first
      | exact doneS_n h e (by decide)
      | ((try clear hX hcall); (try clear h); simp (disch := omega) only [cmpT, cmpF, bI_eq0, bI_ne0, Classical.not_not, nI_toI, setN_now, nI_cl, alen20, Int32.toInt_zero, hw.s1, hw.t1, hw.r1, nI_add, nI_mul, takeL, setL, setN_put] at *; omega)
set_option maxHeartbeats 4000000 in
set_option maxRecDepth 100000 in
theorem r_addSite (hw : WF F B) (hn : n ≤ 5) (hs : s.1 10 0 3 = nI n) (h : Q (some (.inl (siteF F a z l).1)) (doneS s G F n (siteF F a z l))) : wpM L xs codT retT (f + 4) m_X10_addSite [.inr (10, 0), .inl a, .inl z, .inl l] (setN (setK s G) F) Q := by
  have t2 := hw.t2
  by_cases hb : blkB a z ∧ 1 ≤ l.toInt ∧ l.toInt ≤ 48
  · have e0 : siteF F a z l = if anyS F a z (cT F) = true then (-3, F) else if cT F = 8 then (-4, F) else (nI (cT F), fun i => if i = 29 + 17 * cT F then a else if i = 29 + 17 * cT F + 1 then z else if i = 29 + 17 * cT F + 2 then l else if i = 29 + 17 * cT F + 3 then nI 1 else if 29 + 17 * cT F + 4 ≤ i ∧ i < 29 + 17 * cT F + 17 then nI 0 else if i = 2 then F 2 + nI 1 else F i) := by
      unfold siteF
      rw [if_neg (fun q => q hb)]
    intro call hcall X hX; refine hX 1000 0 _ _ _ ?_
    repeat' (first | (intro hc) | (refine And.intro ?_ ?_) | (exact absurd nI_0 ‹cmpF 0 (nI 0) 0›) | (exact absurd ‹cmpT 0 (nI 1) 0› nI1_ne) | (exact absurd nI_0 ‹cmpT 1 (nI 0) 0›) | (exact absurd ‹cmpF 1 (nI 1) 0› nI1_ne) | (show wp _ _ _ _ _ _ _ _ _ _ _ _; conv => whnf) | (simp (disch := omega) only [nI_add, nI_mul, setN_now, setN_put, nI_cl, Nat.add_zero]) | (refine hcall _ _ _ _ ?_; first | (refine r_isBlock ?_) | (refine r_isIn ?_) | fail))
    all_goals (try ((try clear hX hcall); (try clear h); simp (disch := omega) only [cmpT, cmpF, bI_eq0, bI_ne0, Classical.not_not, nI_toI, setN_now, nI_cl, alen20, Int32.toInt_zero, hw.s1, hw.t1, hw.r1, nI_add, nI_mul, takeL, setL, setN_put] at *; exfalso; first | contradiction | omega | exact (by assumption : ¬ _) hb.1))
    have loop : ∀ j, j ≤ cT F → anyS F a z j = false → X 24 [.inr (10, 0), .inl a, .inl z, .inl l, .inl (nI j)] [] (setN (setK s G) F) := by
      refine loopD (cT F) (fun j hj ih ha => ?_) (fun ha => ?_)
      · by_cases hm : F (29 + 17 * j) = a ∧ F (29 + 17 * j + 1) = z
        · have ha2 : anyS F a z (j + 1) = true := by
            show (_ || decide _) = true
            rw [decide_eq_true hm, Bool.or_true]
          rw [if_pos (anyS_s ha2 (cT F) (by omega))] at e0
          obtain ⟨hm1, hm2⟩ := hm
          clear ih
          refine hX 1000 24 _ _ _ ?_
          repeat' (first | (intro hc) | (refine And.intro ?_ ?_) | (exact absurd nI_0 ‹cmpF 0 (nI 0) 0›) | (exact absurd ‹cmpT 0 (nI 1) 0› nI1_ne) | (exact absurd nI_0 ‹cmpT 1 (nI 0) 0›) | (exact absurd ‹cmpF 1 (nI 1) 0› nI1_ne) | (show wp _ _ _ _ _ _ _ _ _ _ _ _; conv => whnf) | (simp (disch := omega) only [nI_add, nI_mul, setN_now, setN_put, nI_cl, Nat.add_zero]) | (refine hcall _ _ _ _ ?_; first | (refine r_ofSite (by omega) ?_) | fail))
          all_goals first
            | exact doneS_n h e0 (by decide)
            | ((try clear hX hcall); (try clear h); simp (disch := omega) only [cmpT, cmpF, bI_eq0, bI_ne0, Classical.not_not, nI_toI, setN_now, nI_cl, alen20, Int32.toInt_zero, hw.s1, hw.t1, hw.r1, nI_add, nI_mul, takeL, setL, setN_put] at *; omega)
            | ((try clear hX hcall); (try clear h); simp (disch := omega) only [cmpT, cmpF, bI_eq0, bI_ne0, Classical.not_not, nI_toI, setN_now, nI_cl, alen20, Int32.toInt_zero, hw.s1, hw.t1, hw.r1, nI_add, nI_mul, takeL, setL, setN_put] at *; exfalso; first | contradiction | omega)
        · have ha2 : anyS F a z (j + 1) = false := by
            show (_ || decide _) = false
            rw [ha, decide_eq_false hm]
            rfl
          replace ih := ih ha2
          clear h
          refine hX 1000 24 _ _ _ ?_
          repeat' (first | (intro hc) | (refine And.intro ?_ ?_) | (exact absurd nI_0 ‹cmpF 0 (nI 0) 0›) | (exact absurd ‹cmpT 0 (nI 1) 0› nI1_ne) | (exact absurd nI_0 ‹cmpT 1 (nI 0) 0›) | (exact absurd ‹cmpF 1 (nI 1) 0› nI1_ne) | (show wp _ _ _ _ _ _ _ _ _ _ _ _; conv => whnf) | (simp (disch := omega) only [nI_add, nI_mul, setN_now, setN_put, nI_cl, Nat.add_zero]) | (refine hcall _ _ _ _ ?_; first | (refine r_ofSite (by omega) ?_) | fail))
          all_goals (clear e0; (try clear hX hcall); (try clear h); simp (disch := omega) only [cmpT, cmpF, bI_eq0, bI_ne0, Classical.not_not, nI_toI, setN_now, nI_cl, alen20, Int32.toInt_zero, hw.s1, hw.t1, hw.r1, nI_add, nI_mul, takeL, setL, setN_put] at *)
          all_goals first
            | exact ih
            | omega
            | (exfalso; first | contradiction | omega | exact hm ⟨by assumption, by assumption⟩)
      · rw [if_neg (by rw [ha]; decide)] at e0
        refine hX 1000 24 _ _ _ ?_
        repeat' (first | (intro hc) | (refine And.intro ?_ ?_) | (exact absurd nI_0 ‹cmpF 0 (nI 0) 0›) | (exact absurd ‹cmpT 0 (nI 1) 0› nI1_ne) | (exact absurd nI_0 ‹cmpT 1 (nI 0) 0›) | (exact absurd ‹cmpF 1 (nI 1) 0› nI1_ne) | (show wp _ _ _ _ _ _ _ _ _ _ _ _; conv => whnf) | (rw [setN_now]) | (rw [hw.t1]) | (simp (disch := omega) only [nI_add, nI_mul, setN_now, setN_put, nI_cl, Nat.add_zero]) | (refine hcall _ _ _ _ ?_; first | (refine r_siteAt ?_) | (refine r_records hn hs ?_) | fail))
        all_goals (try ((try clear hX hcall); (try clear h); simp (disch := omega) only [cmpT, cmpF, bI_eq0, bI_ne0, Classical.not_not, nI_toI, setN_now, nI_cl, alen20, Int32.toInt_zero, hw.s1, hw.t1, hw.r1, nI_add, nI_mul, takeL, setL, setN_put] at *; (try simp (disch := omega) only [nI_inj, nI_sub] at *); omega))
        · have hq : F 2 = nI 8 := ‹cmpF 1 (F 2) (nI 8)›
          rw [hw.t1, nI_inj (by omega) (by omega)] at hq
          rw [if_pos hq] at e0
          exact doneS_n h e0 (by decide)
        · have hq : ¬ F 2 = nI 8 := ‹cmpT 1 (F 2) (nI 8)›
          rw [hw.t1, nI_inj (by omega) (by omega)] at hq
          rw [if_neg hq] at e0
          simp only [takeL, setL, pushW]
          have hX98 : ∀ P, P = F → X 98 [.inr (10, 0), .inl a, .inl z, .inl l, .inl (nI (29 + 17 * cT F)), .inl (nI 0)] [] (setN (setK (putV s 10 0 3 (nI (recN n))) (recG G F n)) P) := by
            intro P hP
            rw [← zeK_0 (F := F) (b := 29 + 17 * cT F)] at hP
            subst hP
            refine loopN (P := fun k => X 98 [.inr (10, 0), .inl a, .inl z, .inl l, .inl (nI (29 + 17 * cT F)), .inl (nI k)] [] (setN (setK (putV s 10 0 3 (nI (recN n))) (recG G F n)) (zeK F (29 + 17 * cT F) k))) 17 (fun k hk ih => ?_) ?_ 0 (by omega)
            · clear h
              refine hX 1000 98 _ _ _ ?_
              repeat' (first | (intro hc) | (refine And.intro ?_ ?_) | (exact absurd nI_0 ‹cmpF 0 (nI 0) 0›) | (exact absurd ‹cmpT 0 (nI 1) 0› nI1_ne) | (exact absurd nI_0 ‹cmpT 1 (nI 0) 0›) | (exact absurd ‹cmpF 1 (nI 1) 0› nI1_ne) | (show wp _ _ _ _ _ _ _ _ _ _ _ _; conv => whnf))
              all_goals (clear hX hcall)
              all_goals (simp (disch := omega) only [cmpT, cmpF, nI_toI, setN_now, nI_cl, alen20, alen21, nI_add, nI_mul, takeL, setL, setN_put] at *)
              all_goals first
                | omega
                | (rw [zeK_s]; exact ih)
            · have e3 : zeK F (29 + 17 * cT F) 17 2 = nI (cT F) := by unfold zeK; rw [if_neg (by omega), hw.t1]
              refine hX 1000 98 _ _ _ ?_
              repeat' (first | (intro hc) | (refine And.intro ?_ ?_) | (exact absurd nI_0 ‹cmpF 0 (nI 0) 0›) | (exact absurd ‹cmpT 0 (nI 1) 0› nI1_ne) | (exact absurd nI_0 ‹cmpT 1 (nI 0) 0›) | (exact absurd ‹cmpF 1 (nI 1) 0› nI1_ne) | (show wp _ _ _ _ _ _ _ _ _ _ _ _; conv => whnf))
              all_goals (try (clear h; (try clear hX hcall); (try clear h); simp (disch := omega) only [cmpT, cmpF, bI_eq0, bI_ne0, Classical.not_not, nI_toI, setN_now, nI_cl, alen20, Int32.toInt_zero, hw.s1, hw.t1, hw.r1, nI_add, nI_mul, takeL, setL, setN_put] at *; omega))
              simp (disch := omega) only [nI_add, nI_cl, setN_put, setN_now, Nat.add_zero]
              refine recS_go (doneS_p h e0 (by rw [nI_toI (by omega)]; omega)) ?_ ?_
              · simp (disch := omega) only [putF_at, putF_ne, e3, nI_add, nI_sub, Nat.add_sub_cancel]
              · funext i
                simp (disch := omega) only [putF_ne, e3, hw.t1]
                simp only [putF, zeK]
                (repeat' split) <;> first | rfl | omega | (exfalso; omega) | (congr 1; omega)
          exact hX98 F rfl
    simp only [takeL, setL]
    exact loop 0 (by omega) rfl
  · have e : siteF F a z l = (-2, F) := by
      unfold siteF
      rw [if_pos hb]
    intro call hcall X hX; refine hX 1000 0 _ _ _ ?_
    repeat' (first | (intro hc) | (refine And.intro ?_ ?_) | (exact absurd nI_0 ‹cmpF 0 (nI 0) 0›) | (exact absurd ‹cmpT 0 (nI 1) 0› nI1_ne) | (exact absurd nI_0 ‹cmpT 1 (nI 0) 0›) | (exact absurd ‹cmpF 1 (nI 1) 0› nI1_ne) | (show wp _ _ _ _ _ _ _ _ _ _ _ _; conv => whnf) | (simp (disch := omega) only [nI_add, nI_mul, setN_now, setN_put, nI_cl, Nat.add_zero]) | (refine hcall _ _ _ _ ?_; first | (refine r_isBlock ?_) | (refine r_isIn ?_) | fail))
    all_goals first
      | exact doneS_n h e (by decide)
      | ((try clear hX hcall); (try clear h); simp (disch := omega) only [cmpT, cmpF, bI_eq0, bI_ne0, Classical.not_not, nI_toI, setN_now, nI_cl, alen20, Int32.toInt_zero, hw.s1, hw.t1, hw.r1, nI_add, nI_mul, takeL, setL, setN_put] at *; exfalso; first | contradiction | omega | (exact hb ⟨by assumption, by assumption, by assumption⟩) | (exact hb ⟨by assumption, by omega, by omega⟩))
end REF12
end
section
/-! THE REFERENCE: send, way, answer, undo, save, restore -/
section REF13
variable {L : Nat} {xs : Nat → Int32} {f i k r p q c j n B b : Nat} {x y v a z w l name flow place : Int32} {s : St} {F G F' : Fm} {Q : Option MV → St → Prop}
set_option maxHeartbeats 4000000 in
set_option maxRecDepth 100000 in
theorem r_send (hw : WF F B) (hn : n ≤ 5) (hs : s.1 10 0 3 = nI n) (h0 : ∀ r, r < cR F → 0 ≤ (sendF F r name flow).1.toInt) (h : Q (some (.inl (letterF F v name flow).1)) (doneS s G F n (letterF F v name flow))) : wpM L xs codT retT (f + 8) m_X10_send [.inr (10, 0), .inl v, .inl name, .inl flow] (setN (setK s G) F) Q := by
  have r2 := hw.r2
  by_cases hv : iN v (cR F)
  · obtain ⟨r, hp, hpl⟩ := iN_nn hv (by omega)
    subst hp
    have en : nn (nI r) = r := nI_cl (by omega)
    by_cases hb : iN name 256 ∧ iN flow 100
    · have e : letterF F (nI r) name flow = sendF F r name flow := by unfold letterF; rw [if_neg (fun q => q hv), if_neg (fun q => q hb), en]
      have hl : (0 ≤ name.toInt ∧ name.toInt ≤ 255) ∧ 0 ≤ flow.toInt ∧ flow.toInt ≤ 99 := by omega
      have h0 := h0 r hpl
      intro call hcall X hX; refine hX 1000 0 _ _ _ ?_
      repeat' (first | (intro hc) | (refine And.intro ?_ ?_) | (exact absurd nI_0 ‹cmpF 0 (nI 0) 0›) | (exact absurd ‹cmpT 0 (nI 1) 0› nI1_ne) | (exact absurd nI_0 ‹cmpT 1 (nI 0) 0›) | (exact absurd ‹cmpF 1 (nI 1) 0› nI1_ne) | (show wp _ _ _ _ _ _ _ _ _ _ _ _; conv => whnf) | (simp (disch := omega) only [nI_add, nI_mul, setN_now, setN_put, nI_cl, Nat.add_zero]) | (refine hcall _ _ _ _ ?_; first | (refine r_isRouter hw.r1 (by omega) ?_) | (refine r_isLetter ?_) | (refine r_records hn hs ?_) | (refine r_sends hw hpl ?_) | fail))
      all_goals (try ((try clear hX hcall); (try clear h); simp (disch := omega) only [cmpT, cmpF, bI_eq0, bI_ne0, Classical.not_not, nI_toI, setN_now, nI_cl, alen20, Int32.toInt_zero, hw.s1, hw.t1, hw.r1, nI_add, nI_mul, takeL, setL, setN_put] at *; first | omega | contradiction))
      exact doneS_p (F' := (sendF F r name flow).2) h (by rw [e]) h0
    · have e : letterF F (nI r) name flow = (-2, F) := by unfold letterF; rw [if_neg (fun q => q hv), if_pos hb]
      have hl : ¬ ((0 ≤ name.toInt ∧ name.toInt ≤ 255) ∧ 0 ≤ flow.toInt ∧ flow.toInt ≤ 99) := by omega
      intro call hcall X hX; refine hX 1000 0 _ _ _ ?_
      repeat' (first | (intro hc) | (refine And.intro ?_ ?_) | (exact absurd nI_0 ‹cmpF 0 (nI 0) 0›) | (exact absurd ‹cmpT 0 (nI 1) 0› nI1_ne) | (exact absurd nI_0 ‹cmpT 1 (nI 0) 0›) | (exact absurd ‹cmpF 1 (nI 1) 0› nI1_ne) | (show wp _ _ _ _ _ _ _ _ _ _ _ _; conv => whnf) | (simp (disch := omega) only [nI_add, nI_mul, setN_now, setN_put, nI_cl, Nat.add_zero]) | (refine hcall _ _ _ _ ?_; first | (refine r_isRouter hw.r1 (by omega) ?_) | (refine r_isLetter ?_) | (refine r_records hn hs ?_) | fail))
      all_goals first
        | exact doneS_n h e (by decide)
        | ((try clear hX hcall); (try clear h); simp (disch := omega) only [cmpT, cmpF, bI_eq0, bI_ne0, Classical.not_not, nI_toI, setN_now, nI_cl, alen20, Int32.toInt_zero, hw.s1, hw.t1, hw.r1, nI_add, nI_mul, takeL, setL, setN_put] at *; first | omega | contradiction)
  · have e : letterF F v name flow = (-1, F) := by unfold letterF; rw [if_pos hv]
    intro call hcall X hX; refine hX 1000 0 _ _ _ ?_
    repeat' (first | (intro hc) | (refine And.intro ?_ ?_) | (exact absurd nI_0 ‹cmpF 0 (nI 0) 0›) | (exact absurd ‹cmpT 0 (nI 1) 0› nI1_ne) | (exact absurd nI_0 ‹cmpT 1 (nI 0) 0›) | (exact absurd ‹cmpF 1 (nI 1) 0› nI1_ne) | (show wp _ _ _ _ _ _ _ _ _ _ _ _; conv => whnf) | (simp (disch := omega) only [nI_add, nI_mul, setN_now, setN_put, nI_cl, Nat.add_zero]) | (refine hcall _ _ _ _ ?_; first | (refine r_isRouter hw.r1 (by omega) ?_) | fail))
    all_goals first
      | exact doneS_n h e (by decide)
      | ((try clear hX hcall); (try clear h); simp (disch := omega) only [cmpT, cmpF, bI_eq0, bI_ne0, Classical.not_not, nI_toI, setN_now, nI_cl, alen20, Int32.toInt_zero, hw.s1, hw.t1, hw.r1, nI_add, nI_mul, takeL, setL, setN_put] at *; omega)
def answF (F : Fm) (name : Int32) : Int32 := if iN name 256 then optI (ansF F name) (-5) else -2
set_option maxHeartbeats 4000000 in
set_option maxRecDepth 100000 in
theorem r_answer (hw : WF F B) (h : Q (some (.inl (answF F name))) (setN s F)) : wpM L xs codT retT (f + 6) m_X10_answer [.inr (10, 0), .inl name] (setN s F) Q := by
  by_cases hb : iN name 256
  · have e : answF F name = optI (ansF F name) (-5) := if_pos hb
    rw [e] at h
    intro call hcall X hX; refine hX 1000 0 _ _ _ ?_
    repeat' (first | (intro hc) | (refine And.intro ?_ ?_) | (exact absurd nI_0 ‹cmpF 0 (nI 0) 0›) | (exact absurd ‹cmpT 0 (nI 1) 0› nI1_ne) | (exact absurd nI_0 ‹cmpT 1 (nI 0) 0›) | (exact absurd ‹cmpF 1 (nI 1) 0› nI1_ne) | (show wp _ _ _ _ _ _ _ _ _ _ _ _; conv => whnf) | (simp (disch := omega) only [nI_add, nI_mul, setN_now, setN_put, nI_cl, Nat.add_zero]) | (refine hcall _ _ _ _ ?_; first | (refine r_isName ?_) | (refine r_answerOf hw ?_) | fail))
    all_goals first
      | exact h
      | ((try clear hX hcall); (try clear h); simp (disch := omega) only [cmpT, cmpF, bI_eq0, bI_ne0, Classical.not_not, nI_toI, setN_now, nI_cl, alen20, Int32.toInt_zero, hw.s1, hw.t1, hw.r1, nI_add, nI_mul, takeL, setL, setN_put] at *; omega)
  · have e : answF F name = -2 := if_neg hb
    rw [e] at h
    intro call hcall X hX; refine hX 1000 0 _ _ _ ?_
    repeat' (first | (intro hc) | (refine And.intro ?_ ?_) | (exact absurd nI_0 ‹cmpF 0 (nI 0) 0›) | (exact absurd ‹cmpT 0 (nI 1) 0› nI1_ne) | (exact absurd nI_0 ‹cmpT 1 (nI 0) 0›) | (exact absurd ‹cmpF 1 (nI 1) 0› nI1_ne) | (show wp _ _ _ _ _ _ _ _ _ _ _ _; conv => whnf) | (simp (disch := omega) only [nI_add, nI_mul, setN_now, setN_put, nI_cl, Nat.add_zero]) | (refine hcall _ _ _ _ ?_; first | (refine r_isName ?_) | (refine r_answerOf hw ?_) | fail))
    all_goals first
      | exact h
      | ((try clear hX hcall); (try clear h); simp (disch := omega) only [cmpT, cmpF, bI_eq0, bI_ne0, Classical.not_not, nI_toI, setN_now, nI_cl, alen20, Int32.toInt_zero, hw.s1, hw.t1, hw.r1, nI_add, nI_mul, takeL, setL, setN_put] at *; omega)
def wayA (F : Fm) (name which : Int32) : Int32 := if ¬ (iN name 256 ∧ iN which 2) then -2 else if which = nI 0 then nI (homeF F name (nI 1)) else nI (wayF F (homeF F name (nI 1)))
set_option maxHeartbeats 4000000 in
set_option maxRecDepth 100000 in
theorem r_way (hw : WF F B) (h : Q (some (.inl (wayA F name v))) (setN s F)) : wpM L xs codT retT (f + 4) m_X10_way [.inr (10, 0), .inl name, .inl v] (setN s F) Q := by
  by_cases hb : iN name 256 ∧ iN v 2
  · by_cases h0 : v = nI 0
    · have e : wayA F name v = nI (homeF F name (nI 1)) := by unfold wayA; rw [if_neg (fun q => q hb), if_pos h0]
      rw [e] at h
      subst h0
      intro call hcall X hX; refine hX 1000 0 _ _ _ ?_
      repeat' (first | (intro hc) | (refine And.intro ?_ ?_) | (exact absurd nI_0 ‹cmpF 0 (nI 0) 0›) | (exact absurd ‹cmpT 0 (nI 1) 0› nI1_ne) | (exact absurd nI_0 ‹cmpT 1 (nI 0) 0›) | (exact absurd ‹cmpF 1 (nI 1) 0› nI1_ne) | (show wp _ _ _ _ _ _ _ _ _ _ _ _; conv => whnf) | (simp (disch := omega) only [nI_add, nI_mul, setN_now, setN_put, nI_cl, Nat.add_zero]) | (refine hcall _ _ _ _ ?_; first | (refine r_isName ?_) | (refine r_isIn ?_) | (refine r_homeOf hw ?_) | (refine r_wayTo hw (homeF_ltS hw) ?_) | fail))
      all_goals first
        | exact h
        | ((try clear hX hcall); (try clear h); simp (disch := omega) only [cmpT, cmpF, bI_eq0, bI_ne0, Classical.not_not, nI_toI, setN_now, nI_cl, alen20, Int32.toInt_zero, hw.s1, hw.t1, hw.r1, nI_add, nI_mul, takeL, setL, setN_put] at *; first | omega | contradiction)
    · have e : wayA F name v = nI (wayF F (homeF F name (nI 1))) := by unfold wayA; rw [if_neg (fun q => q hb), if_neg h0]
      rw [e] at h
      have h00 : ¬ v = 0 := fun q => h0 (q.trans nI_0.symm)
      intro call hcall X hX; refine hX 1000 0 _ _ _ ?_
      repeat' (first | (intro hc) | (refine And.intro ?_ ?_) | (exact absurd nI_0 ‹cmpF 0 (nI 0) 0›) | (exact absurd ‹cmpT 0 (nI 1) 0› nI1_ne) | (exact absurd nI_0 ‹cmpT 1 (nI 0) 0›) | (exact absurd ‹cmpF 1 (nI 1) 0› nI1_ne) | (show wp _ _ _ _ _ _ _ _ _ _ _ _; conv => whnf) | (simp (disch := omega) only [nI_add, nI_mul, setN_now, setN_put, nI_cl, Nat.add_zero]) | (refine hcall _ _ _ _ ?_; first | (refine r_isName ?_) | (refine r_isIn ?_) | (refine r_homeOf hw ?_) | (refine r_wayTo hw (homeF_ltS hw) ?_) | fail))
      all_goals first
        | exact h
        | ((try clear hX hcall); (try clear h); simp (disch := omega) only [cmpT, cmpF, bI_eq0, bI_ne0, Classical.not_not, nI_toI, setN_now, nI_cl, alen20, Int32.toInt_zero, hw.s1, hw.t1, hw.r1, nI_add, nI_mul, takeL, setL, setN_put] at *; first | omega | contradiction)
  · have e : wayA F name v = -2 := by unfold wayA; rw [if_pos hb]
    rw [e] at h
    intro call hcall X hX; refine hX 1000 0 _ _ _ ?_
    repeat' (first | (intro hc) | (refine And.intro ?_ ?_) | (exact absurd nI_0 ‹cmpF 0 (nI 0) 0›) | (exact absurd ‹cmpT 0 (nI 1) 0› nI1_ne) | (exact absurd nI_0 ‹cmpT 1 (nI 0) 0›) | (exact absurd ‹cmpF 1 (nI 1) 0› nI1_ne) | (show wp _ _ _ _ _ _ _ _ _ _ _ _; conv => whnf) | (simp (disch := omega) only [nI_add, nI_mul, setN_now, setN_put, nI_cl, Nat.add_zero]) | (refine hcall _ _ _ _ ?_; first | (refine r_isName ?_) | (refine r_isIn ?_) | (refine r_homeOf hw ?_) | fail))
    all_goals first
      | exact h
      | ((try clear hX hcall); (try clear h); simp (disch := omega) only [cmpT, cmpF, bI_eq0, bI_ne0, Classical.not_not, nI_toI, setN_now, nI_cl, alen20, Int32.toInt_zero, hw.s1, hw.t1, hw.r1, nI_add, nI_mul, takeL, setL, setN_put] at *; omega)
end REF13
end
section
/-! THE REFERENCE: undo, save, restore -/
section REF14
variable {L : Nat} {xs : Nat → Int32} {f i k r p q c j n B b : Nat} {x y v a z w l name flow place : Int32} {s : St} {F G F' : Fm} {Q : Option MV → St → Prop}
theorem setNK_22 : putV (setN (setK s G) F) 22 0 i x = setN (setK (putV s 22 0 i x) G) F := by
  unfold setN setK putV
  apply Prod.ext
  · funext a b d
    show (if a = 22 ∧ b = 0 ∧ d = i then x else if a = 20 ∧ b = 0 then F d else if a = 21 ∧ b = 0 then G d else s.1 a b d) = (if a = 20 ∧ b = 0 then F d else if a = 21 ∧ b = 0 then G d else if a = 22 ∧ b = 0 ∧ d = i then x else s.1 a b d)
    by_cases h1 : a = 22
    · subst h1; simp
    · simp [h1]
  · rfl
theorem setNK_22v : (setN (setK s G) F).1 22 0 i = s.1 22 0 i := by rw [setN_o (by decide), setK_o (by decide)]
theorem alen22 : alen 22 = 2 := rfl
theorem rowF (G : Fm) (c : Nat) : (fun k => G (509 * c + k)) = fun k => G (509 * c + k) := rfl
set_option maxHeartbeats 4000000 in
set_option maxRecDepth 100000 in
theorem r_undo (hn : n ≤ 5) (hs : s.1 10 0 3 = nI n) (h0 : n = 0 → Q (some (.inl (-3))) (setN (setK s G) F)) (h : 0 < n → Q (some (.inl (nI (n - 1)))) (setN (setK (putV s 10 0 3 (nI (n - 1))) G) (mixF F (fun k => G (509 * (n - 1) + k))))) : wpM L xs codT retT (f + 2) m_X10_undo [.inr (10, 0)] (setN (setK s G) F) Q := by
  by_cases hz : n = 0
  · have h0 := h0 hz
    subst hz
    intro call hcall X hX; refine hX 1000 0 _ _ _ ?_
    repeat' (first | (intro hc) | (refine And.intro ?_ ?_) | (exact absurd nI_0 ‹cmpF 0 (nI 0) 0›) | (exact absurd ‹cmpT 0 (nI 1) 0› nI1_ne) | (exact absurd nI_0 ‹cmpT 1 (nI 0) 0›) | (exact absurd ‹cmpF 1 (nI 1) 0› nI1_ne) | (show wp _ _ _ _ _ _ _ _ _ _ _ _; conv => whnf) | (rw [setNK_fput]) | (rw [setNK_fvv hs rfl]) | (rw [setNK_fv]) | (rw [hs]) | (simp (disch := omega) only [nI_add, nI_mul, setN_now, setN_put, nI_cl, Nat.add_zero]) | (refine hcall _ _ _ _ ?_; first | (refine r_brings (by omega) ?_) | fail))
    all_goals first
      | exact h0
      | (have hq : ¬ (setN (setK s G) F).1 10 0 3 = 0 := ‹cmpT 1 _ 0›; rw [setNK_fv, hs] at hq; exact absurd nI_0 hq)
      | ((try clear hX hcall); (try clear h); (try clear hj); (try simp (disch := omega) only [cmpT, cmpF, bI_eq0, bI_ne0, Classical.not_not, nI_toI, setN_now, nI_cl, alen20, alen22, Int32.toInt_zero, setNK_fv, setNK_22v, hs] at *); (try clear hs); first | omega | contradiction)
  · have h := h (by omega)
    have hn0 : ¬ nI n = 0 := fun q => hz ((nI_inj (by omega) (by omega)).mp (q.trans nI_0.symm))
    intro call hcall X hX; refine hX 1000 0 _ _ _ ?_
    repeat' (first | (intro hc) | (refine And.intro ?_ ?_) | (exact absurd nI_0 ‹cmpF 0 (nI 0) 0›) | (exact absurd ‹cmpT 0 (nI 1) 0› nI1_ne) | (exact absurd nI_0 ‹cmpT 1 (nI 0) 0›) | (exact absurd ‹cmpF 1 (nI 1) 0› nI1_ne) | (show wp _ _ _ _ _ _ _ _ _ _ _ _; conv => whnf) | (rw [setNK_fput]) | (rw [setNK_fvv putV_at rfl]) | (rw [setNK_fvv hs rfl]) | (rw [setNK_fv]) | (rw [putV_at]) | (rw [hs]) | (rw [nI_sub (by omega) (by omega)]) | (simp (disch := omega) only [nI_add, nI_mul, setN_now, setN_put, nI_cl, Nat.add_zero]) | (refine hcall _ _ _ _ ?_; first | (refine r_brings (by omega) ?_) | fail))
    all_goals first
      | exact h
      | (have hq : (setN (setK s G) F).1 10 0 3 = 0 := ‹cmpF 1 _ 0›; rw [setNK_fv, hs] at hq; exact absurd hq hn0)
      | ((try clear hX hcall); (try clear h); (try clear hj); (try simp (disch := omega) only [cmpT, cmpF, bI_eq0, bI_ne0, Classical.not_not, nI_toI, setN_now, nI_cl, alen20, alen22, Int32.toInt_zero, setNK_fv, setNK_22v, hs] at *); (try clear hs); first | omega | contradiction)
set_option maxHeartbeats 4000000 in
set_option maxRecDepth 100000 in
theorem r_save (hj : ¬ iN v 2 → Q (some (.inl (-1))) (setN (setK s G) F)) (h : ∀ j, j < 2 → v = nI j → Q (some (.inl (F 0))) (setN (setK (putV s 22 0 j (nI 1)) (keepG G F (5 + j))) F)) : wpM L xs codT retT (f + 2) m_X10_save [.inr (10, 0), .inl v] (setN (setK s G) F) Q := by
  by_cases hv : iN v 2
  · obtain ⟨j, hp, hpl⟩ := iN_nn hv (by omega)
    subst hp
    have h := h j hpl rfl
    intro call hcall X hX; refine hX 1000 0 _ _ _ ?_
    repeat' (first | (intro hc) | (refine And.intro ?_ ?_) | (exact absurd nI_0 ‹cmpF 0 (nI 0) 0›) | (exact absurd ‹cmpT 0 (nI 1) 0› nI1_ne) | (exact absurd nI_0 ‹cmpT 1 (nI 0) 0›) | (exact absurd ‹cmpF 1 (nI 1) 0› nI1_ne) | (show wp _ _ _ _ _ _ _ _ _ _ _ _; conv => whnf) | (rw [setNK_22]) | (simp (disch := omega) only [nI_add, nI_mul, setN_now, setN_put, nI_cl, Nat.add_zero]) | (refine hcall _ _ _ _ ?_; first | (refine r_isIn ?_) | (refine r_keeps (by omega) ?_) | fail))
    all_goals first
      | exact h
      | ((try clear hX hcall); (try clear h); (try clear hj); (try simp (disch := omega) only [cmpT, cmpF, bI_eq0, bI_ne0, Classical.not_not, nI_toI, setN_now, nI_cl, alen20, alen22, Int32.toInt_zero, setNK_fv, setNK_22v] at *); first | omega | contradiction)
  · have hj := hj hv
    intro call hcall X hX; refine hX 1000 0 _ _ _ ?_
    repeat' (first | (intro hc) | (refine And.intro ?_ ?_) | (exact absurd nI_0 ‹cmpF 0 (nI 0) 0›) | (exact absurd ‹cmpT 0 (nI 1) 0› nI1_ne) | (exact absurd nI_0 ‹cmpT 1 (nI 0) 0›) | (exact absurd ‹cmpF 1 (nI 1) 0› nI1_ne) | (show wp _ _ _ _ _ _ _ _ _ _ _ _; conv => whnf) | (simp (disch := omega) only [nI_add, nI_mul, setN_now, setN_put, nI_cl, Nat.add_zero]) | (refine hcall _ _ _ _ ?_; first | (refine r_isIn ?_) | fail))
    all_goals first
      | exact hj
      | ((try clear hX hcall); (try clear h); (try clear hj); (try simp (disch := omega) only [cmpT, cmpF, bI_eq0, bI_ne0, Classical.not_not, nI_toI, setN_now, nI_cl, alen20, alen22, Int32.toInt_zero, setNK_fv, setNK_22v] at *); first | omega | contradiction)
set_option maxHeartbeats 4000000 in
set_option maxRecDepth 100000 in
theorem r_restore (hn : n ≤ 5) (hs : s.1 10 0 3 = nI n) (hj : ¬ iN v 2 → Q (some (.inl (-1))) (setN (setK s G) F)) (hj2 : ∀ j, j < 2 → v = nI j → s.1 22 0 j = 0 → Q (some (.inl (-3))) (setN (setK s G) F)) (h : ∀ j, j < 2 → v = nI j → ¬ s.1 22 0 j = 0 → Q (some (.inl (mixF F (fun k => recG G F n (509 * (5 + j) + k)) 0))) (setN (setK (putV s 10 0 3 (nI (recN n))) (recG G F n)) (mixF F (fun k => recG G F n (509 * (5 + j) + k))))) : wpM L xs codT retT (f + 3) m_X10_restore [.inr (10, 0), .inl v] (setN (setK s G) F) Q := by
  by_cases hv : iN v 2
  · obtain ⟨j, hp, hpl⟩ := iN_nn hv (by omega)
    subst hp
    by_cases h0 : s.1 22 0 j = 0
    · have h := hj2 j hpl rfl h0
      intro call hcall X hX; refine hX 1000 0 _ _ _ ?_
      repeat' (first | (intro hc) | (refine And.intro ?_ ?_) | (exact absurd nI_0 ‹cmpF 0 (nI 0) 0›) | (exact absurd ‹cmpT 0 (nI 1) 0› nI1_ne) | (exact absurd nI_0 ‹cmpT 1 (nI 0) 0›) | (exact absurd ‹cmpF 1 (nI 1) 0› nI1_ne) | (show wp _ _ _ _ _ _ _ _ _ _ _ _; conv => whnf) | (rw [setNK_22v]) | (rw [h0]) | (simp (disch := omega) only [nI_add, nI_mul, setN_now, setN_put, nI_cl, Nat.add_zero]) | (refine hcall _ _ _ _ ?_; first | (refine r_isIn ?_) | (refine r_records hn hs ?_) | (refine r_brings (by omega) ?_) | fail))
      all_goals first
        | exact h
        | ((try clear hX hcall); (try clear h); (try clear hj); (try simp (disch := omega) only [cmpT, cmpF, bI_eq0, bI_ne0, Classical.not_not, nI_toI, setN_now, nI_cl, alen20, alen22, Int32.toInt_zero, setNK_fv, setNK_22v, hs] at *); (try clear hs); first | omega | contradiction)
    · have h := h j hpl rfl h0
      intro call hcall X hX; refine hX 1000 0 _ _ _ ?_
      repeat' (first | (intro hc) | (refine And.intro ?_ ?_) | (exact absurd nI_0 ‹cmpF 0 (nI 0) 0›) | (exact absurd ‹cmpT 0 (nI 1) 0› nI1_ne) | (exact absurd nI_0 ‹cmpT 1 (nI 0) 0›) | (exact absurd ‹cmpF 1 (nI 1) 0› nI1_ne) | (show wp _ _ _ _ _ _ _ _ _ _ _ _; conv => whnf) | (simp (disch := omega) only [nI_add, nI_mul, setN_now, setN_put, nI_cl, Nat.add_zero]) | (refine hcall _ _ _ _ ?_; first | (refine r_isIn ?_) | (refine r_records hn hs ?_) | (refine r_brings (by omega) ?_) | fail))
      all_goals first
        | exact h
        | ((try clear hX hcall); (try clear h); (try clear hj); (try simp (disch := omega) only [cmpT, cmpF, bI_eq0, bI_ne0, Classical.not_not, nI_toI, setN_now, nI_cl, alen20, alen22, Int32.toInt_zero, setNK_fv, setNK_22v, hs] at *); (try clear hs); first | omega | contradiction)
  · have hj := hj hv
    intro call hcall X hX; refine hX 1000 0 _ _ _ ?_
    repeat' (first | (intro hc) | (refine And.intro ?_ ?_) | (exact absurd nI_0 ‹cmpF 0 (nI 0) 0›) | (exact absurd ‹cmpT 0 (nI 1) 0› nI1_ne) | (exact absurd nI_0 ‹cmpT 1 (nI 0) 0›) | (exact absurd ‹cmpF 1 (nI 1) 0› nI1_ne) | (show wp _ _ _ _ _ _ _ _ _ _ _ _; conv => whnf) | (simp (disch := omega) only [nI_add, nI_mul, setN_now, setN_put, nI_cl, Nat.add_zero]) | (refine hcall _ _ _ _ ?_; first | (refine r_isIn ?_) | fail))
    all_goals first
      | exact hj
      | ((try clear hX hcall); (try clear h); (try clear hj); (try simp (disch := omega) only [cmpT, cmpF, bI_eq0, bI_ne0, Classical.not_not, nI_toI, setN_now, nI_cl, alen20, alen22, Int32.toInt_zero, setNK_fv, setNK_22v, hs] at *); (try clear hs); first | omega | contradiction)
end REF14
end
section
/-! THE REFERENCE: counts -/
def cntB (p : Nat → Bool) : Nat → Nat
  | 0 => 0
  | n + 1 => cntB p n + (if p n = true then 1 else 0)
section REF15
variable {L : Nat} {xs : Nat → Int32} {f i k r q c j n B b : Nat} {x y v a z w l name flow place : Int32} {s : St} {F G F' : Fm} {Q : Option MV → St → Prop} {p : Nat → Bool}
theorem cntB_1 (h : p n = true) : cntB p (n + 1) = cntB p n + 1 := by show _ + (if _ then _ else _) = _; rw [if_pos h]
theorem cntB_0 (h : ¬ p n = true) : cntB p (n + 1) = cntB p n := by show _ + (if _ then _ else _) = _; rw [if_neg h]; rfl
theorem cntB_le : ∀ n, cntB p n ≤ n
  | 0 => Nat.le_refl _
  | n + 1 => by
    have := cntB_le n
    by_cases h : p n = true
    · rw [cntB_1 h]; omega
    · rw [cntB_0 h]; omega
def childP (F : Fm) (v : Int32) : Nat → Bool := fun k => decide (1 ≤ k ∧ F (5 + 3 * k) = v)
set_option maxHeartbeats 4000000 in
set_option maxRecDepth 100000 in
theorem r_children (hw : WF F B) (h : Q (some (.inl (nI (cntB (childP F v) (cS F))))) (setN s F)) : wpM L xs codT retT (f + 1) m_X10_children [.inr (10, 0), .inl v] (setN s F) Q := by
  have s2 := hw.s2
  intro call hcall X hX; refine hX 1000 0 _ _ _ ?_
  repeat' (first | (intro hc) | (refine And.intro ?_ ?_) | (exact absurd nI_0 ‹cmpF 0 (nI 0) 0›) | (exact absurd ‹cmpT 0 (nI 1) 0› nI1_ne) | (exact absurd nI_0 ‹cmpT 1 (nI 0) 0›) | (exact absurd ‹cmpF 1 (nI 1) 0› nI1_ne) | (show wp _ _ _ _ _ _ _ _ _ _ _ _; conv => whnf))
  have loop : ∀ j, j ≤ cS F - 1 → X 4 [.inr (10, 0), .inl v, .inl (nI (cntB (childP F v) (j + 1))), .inl (nI (j + 1))] [] (setN s F) := by
    refine loopD (cS F - 1) (fun j hj ih => ?_) ?_
    · clear h
      have hle := cntB_le (p := childP F v) (j + 1)
      by_cases hm : F (5 + 3 * (j + 1)) = v
      · rw [cntB_1 (p := childP F v) (n := j + 1) (decide_eq_true ⟨by omega, hm⟩)] at ih
        refine hX 1000 4 _ _ _ ?_
        repeat' (first | (intro hc) | (refine And.intro ?_ ?_) | (exact absurd nI_0 ‹cmpF 0 (nI 0) 0›) | (exact absurd ‹cmpT 0 (nI 1) 0› nI1_ne) | (exact absurd nI_0 ‹cmpT 1 (nI 0) 0›) | (exact absurd ‹cmpF 1 (nI 1) 0› nI1_ne) | (show wp _ _ _ _ _ _ _ _ _ _ _ _; conv => whnf))
        all_goals ((try clear hX hcall); (try clear h); simp (disch := omega) only [cmpT, cmpF, bI_eq0, bI_ne0, Classical.not_not, nI_toI, setN_now, nI_cl, alen20, Int32.toInt_zero, hw.s1, hw.t1, hw.r1, nI_add, nI_mul, takeL, setL, setN_put] at *)
        all_goals first
          | exact ih
          | omega
          | (exfalso; first | contradiction | omega)
      · rw [cntB_0 (p := childP F v) (n := j + 1) (fun q => hm (of_decide_eq_true q).2)] at ih
        refine hX 1000 4 _ _ _ ?_
        repeat' (first | (intro hc) | (refine And.intro ?_ ?_) | (exact absurd nI_0 ‹cmpF 0 (nI 0) 0›) | (exact absurd ‹cmpT 0 (nI 1) 0› nI1_ne) | (exact absurd nI_0 ‹cmpT 1 (nI 0) 0›) | (exact absurd ‹cmpF 1 (nI 1) 0› nI1_ne) | (show wp _ _ _ _ _ _ _ _ _ _ _ _; conv => whnf))
        all_goals ((try clear hX hcall); (try clear h); simp (disch := omega) only [cmpT, cmpF, bI_eq0, bI_ne0, Classical.not_not, nI_toI, setN_now, nI_cl, alen20, Int32.toInt_zero, hw.s1, hw.t1, hw.r1, nI_add, nI_mul, takeL, setL, setN_put] at *)
        all_goals first
          | exact ih
          | omega
          | (exfalso; first | contradiction | omega)
    · rw [show cS F - 1 + 1 = cS F by omega]
      refine hX 1000 4 _ _ _ ?_
      repeat' (first | (intro hc) | (refine And.intro ?_ ?_) | (exact absurd nI_0 ‹cmpF 0 (nI 0) 0›) | (exact absurd ‹cmpT 0 (nI 1) 0› nI1_ne) | (exact absurd nI_0 ‹cmpT 1 (nI 0) 0›) | (exact absurd ‹cmpF 1 (nI 1) 0› nI1_ne) | (show wp _ _ _ _ _ _ _ _ _ _ _ _; conv => whnf))
      all_goals first
        | exact h
        | ((try clear hX hcall); (try clear h); simp (disch := omega) only [cmpT, cmpF, bI_eq0, bI_ne0, Classical.not_not, nI_toI, setN_now, nI_cl, alen20, Int32.toInt_zero, hw.s1, hw.t1, hw.r1, nI_add, nI_mul, takeL, setL, setN_put] at *; omega)
  simp only [takeL, setL]
  exact loop 0 (by omega)
def upP (F : Fm) : Nat → Bool := fun k => decide (upF F k)
set_option maxHeartbeats 4000000 in
set_option maxRecDepth 100000 in
theorem r_upMany (hw : WF F B) (h : Q (some (.inl (nI (cntB (upP F) (cT F))))) (setN s F)) : wpM L xs codT retT (f + 5) m_X10_upMany [.inr (10, 0)] (setN s F) Q := by
  have t2 := hw.t2
  intro call hcall X hX; refine hX 1000 0 _ _ _ ?_
  repeat' (first | (intro hc) | (refine And.intro ?_ ?_) | (exact absurd nI_0 ‹cmpF 0 (nI 0) 0›) | (exact absurd ‹cmpT 0 (nI 1) 0› nI1_ne) | (exact absurd nI_0 ‹cmpT 1 (nI 0) 0›) | (exact absurd ‹cmpF 1 (nI 1) 0› nI1_ne) | (show wp _ _ _ _ _ _ _ _ _ _ _ _; conv => whnf))
  have loop : ∀ j, j ≤ cT F → X 4 [.inr (10, 0), .inl (nI (cntB (upP F) j)), .inl (nI j)] [] (setN s F) := by
    refine loopD (cT F) (fun j hj ih => ?_) ?_
    · clear h
      have hle := cntB_le (p := upP F) j
      by_cases hm : upF F j
      · rw [cntB_1 (p := upP F) (n := j) (decide_eq_true hm)] at ih
        refine hX 1000 4 _ _ _ ?_
        repeat' (first | (intro hc) | (refine And.intro ?_ ?_) | (exact absurd nI_0 ‹cmpF 0 (nI 0) 0›) | (exact absurd ‹cmpT 0 (nI 1) 0› nI1_ne) | (exact absurd nI_0 ‹cmpT 1 (nI 0) 0›) | (exact absurd ‹cmpF 1 (nI 1) 0› nI1_ne) | (show wp _ _ _ _ _ _ _ _ _ _ _ _; conv => whnf) | (simp (disch := omega) only [nI_add, nI_mul, setN_now, setN_put, nI_cl, Nat.add_zero]) | (refine hcall _ _ _ _ ?_; first | (refine r_isUp (by omega) ?_) | fail))
        all_goals ((try clear hX hcall); (try clear h); simp (disch := omega) only [cmpT, cmpF, bI_eq0, bI_ne0, Classical.not_not, nI_toI, setN_now, nI_cl, alen20, Int32.toInt_zero, hw.s1, hw.t1, hw.r1, nI_add, nI_mul, takeL, setL, setN_put] at *)
        all_goals first
          | exact ih
          | omega
          | (exfalso; first | contradiction | omega)
      · rw [cntB_0 (p := upP F) (n := j) (fun q => hm (of_decide_eq_true q))] at ih
        refine hX 1000 4 _ _ _ ?_
        repeat' (first | (intro hc) | (refine And.intro ?_ ?_) | (exact absurd nI_0 ‹cmpF 0 (nI 0) 0›) | (exact absurd ‹cmpT 0 (nI 1) 0› nI1_ne) | (exact absurd nI_0 ‹cmpT 1 (nI 0) 0›) | (exact absurd ‹cmpF 1 (nI 1) 0› nI1_ne) | (show wp _ _ _ _ _ _ _ _ _ _ _ _; conv => whnf) | (simp (disch := omega) only [nI_add, nI_mul, setN_now, setN_put, nI_cl, Nat.add_zero]) | (refine hcall _ _ _ _ ?_; first | (refine r_isUp (by omega) ?_) | fail))
        all_goals ((try clear hX hcall); (try clear h); simp (disch := omega) only [cmpT, cmpF, bI_eq0, bI_ne0, Classical.not_not, nI_toI, setN_now, nI_cl, alen20, Int32.toInt_zero, hw.s1, hw.t1, hw.r1, nI_add, nI_mul, takeL, setL, setN_put] at *)
        all_goals first
          | exact ih
          | omega
          | (exfalso; first | contradiction | omega)
    · refine hX 1000 4 _ _ _ ?_
      repeat' (first | (intro hc) | (refine And.intro ?_ ?_) | (exact absurd nI_0 ‹cmpF 0 (nI 0) 0›) | (exact absurd ‹cmpT 0 (nI 1) 0› nI1_ne) | (exact absurd nI_0 ‹cmpT 1 (nI 0) 0›) | (exact absurd ‹cmpF 1 (nI 1) 0› nI1_ne) | (show wp _ _ _ _ _ _ _ _ _ _ _ _; conv => whnf))
      all_goals first
        | exact h
        | ((try clear hX hcall); (try clear h); simp (disch := omega) only [cmpT, cmpF, bI_eq0, bI_ne0, Classical.not_not, nI_toI, setN_now, nI_cl, alen20, Int32.toInt_zero, hw.s1, hw.t1, hw.r1, nI_add, nI_mul, takeL, setL, setN_put] at *; omega)
  simp only [takeL, setL]
  exact loop 0 (by omega)
def homeP (F : Fm) (v : Int32) : Nat → Bool := fun k => decide (nI (homeF F (F (29 + 17 * k)) (F (29 + 17 * k + 1))) = v)
set_option maxHeartbeats 4000000 in
set_option maxRecDepth 100000 in
theorem r_sitesOf (hw : WF F B) (h : Q (some (.inl (nI (cntB (homeP F v) (cT F))))) (setN s F)) : wpM L xs codT retT (f + 5) m_X10_sitesOf [.inr (10, 0), .inl v] (setN s F) Q := by
  have t2 := hw.t2
  intro call hcall X hX; refine hX 1000 0 _ _ _ ?_
  repeat' (first | (intro hc) | (refine And.intro ?_ ?_) | (exact absurd nI_0 ‹cmpF 0 (nI 0) 0›) | (exact absurd ‹cmpT 0 (nI 1) 0› nI1_ne) | (exact absurd nI_0 ‹cmpT 1 (nI 0) 0›) | (exact absurd ‹cmpF 1 (nI 1) 0› nI1_ne) | (show wp _ _ _ _ _ _ _ _ _ _ _ _; conv => whnf))
  have loop : ∀ j, j ≤ cT F → X 4 [.inr (10, 0), .inl v, .inl (nI (cntB (homeP F v) j)), .inl (nI j)] [] (setN s F) := by
    refine loopD (cT F) (fun j hj ih => ?_) ?_
    · clear h
      have hle := cntB_le (p := homeP F v) j
      by_cases hm : nI (homeF F (F (29 + 17 * j)) (F (29 + 17 * j + 1))) = v
      · rw [cntB_1 (p := homeP F v) (n := j) (decide_eq_true hm)] at ih
        refine hX 1000 4 _ _ _ ?_
        repeat' (first | (intro hc) | (refine And.intro ?_ ?_) | (exact absurd nI_0 ‹cmpF 0 (nI 0) 0›) | (exact absurd ‹cmpT 0 (nI 1) 0› nI1_ne) | (exact absurd nI_0 ‹cmpT 1 (nI 0) 0›) | (exact absurd ‹cmpF 1 (nI 1) 0› nI1_ne) | (show wp _ _ _ _ _ _ _ _ _ _ _ _; conv => whnf) | (simp (disch := omega) only [nI_add, nI_mul, setN_now, setN_put, nI_cl, Nat.add_zero]) | (refine hcall _ _ _ _ ?_; first | (refine r_homeOfSite hw (by omega) ?_) | fail))
        all_goals ((try clear hX hcall); (try clear h); simp (disch := omega) only [cmpT, cmpF, bI_eq0, bI_ne0, Classical.not_not, nI_toI, setN_now, nI_cl, alen20, Int32.toInt_zero, hw.s1, hw.t1, hw.r1, nI_add, nI_mul, takeL, setL, setN_put] at *)
        all_goals first
          | exact ih
          | omega
          | (exfalso; first | contradiction | omega)
      · rw [cntB_0 (p := homeP F v) (n := j) (fun q => hm (of_decide_eq_true q))] at ih
        refine hX 1000 4 _ _ _ ?_
        repeat' (first | (intro hc) | (refine And.intro ?_ ?_) | (exact absurd nI_0 ‹cmpF 0 (nI 0) 0›) | (exact absurd ‹cmpT 0 (nI 1) 0› nI1_ne) | (exact absurd nI_0 ‹cmpT 1 (nI 0) 0›) | (exact absurd ‹cmpF 1 (nI 1) 0› nI1_ne) | (show wp _ _ _ _ _ _ _ _ _ _ _ _; conv => whnf) | (simp (disch := omega) only [nI_add, nI_mul, setN_now, setN_put, nI_cl, Nat.add_zero]) | (refine hcall _ _ _ _ ?_; first | (refine r_homeOfSite hw (by omega) ?_) | fail))
        all_goals ((try clear hX hcall); (try clear h); simp (disch := omega) only [cmpT, cmpF, bI_eq0, bI_ne0, Classical.not_not, nI_toI, setN_now, nI_cl, alen20, Int32.toInt_zero, hw.s1, hw.t1, hw.r1, nI_add, nI_mul, takeL, setL, setN_put] at *)
        all_goals first
          | exact ih
          | omega
          | (exfalso; first | contradiction | omega)
    · refine hX 1000 4 _ _ _ ?_
      repeat' (first | (intro hc) | (refine And.intro ?_ ?_) | (exact absurd nI_0 ‹cmpF 0 (nI 0) 0›) | (exact absurd ‹cmpT 0 (nI 1) 0› nI1_ne) | (exact absurd nI_0 ‹cmpT 1 (nI 0) 0›) | (exact absurd ‹cmpF 1 (nI 1) 0› nI1_ne) | (show wp _ _ _ _ _ _ _ _ _ _ _ _; conv => whnf))
      all_goals first
        | exact h
        | ((try clear hX hcall); (try clear h); simp (disch := omega) only [cmpT, cmpF, bI_eq0, bI_ne0, Classical.not_not, nI_toI, setN_now, nI_cl, alen20, Int32.toInt_zero, hw.s1, hw.t1, hw.r1, nI_add, nI_mul, takeL, setL, setN_put] at *; omega)
  simp only [takeL, setL]
  exact loop 0 (by omega)
end REF15
end
section
/-! THE REFERENCE: sums -/
def sumN (F : Fm) (w : Nat) : Nat → Int32
  | 0 => nI 0
  | n + 1 => sumN F w n + F (165 + 6 * n + w)
def ansP (F : Fm) : Nat → Bool := fun k => decide (ansF F (nI k) ≠ none)
section REF16
variable {L : Nat} {xs : Nat → Int32} {f i k r q c j n B b w : Nat} {x y v a z l name flow place : Int32} {s : St} {F G F' : Fm} {Q : Option MV → St → Prop} {p : Nat → Bool}
set_option maxHeartbeats 4000000 in
set_option maxRecDepth 100000 in
theorem r_sumOf (hw : WF F B) (hw6 : w < 6) (h : Q (some (.inl (sumN F w (cR F)))) (setN s F)) : wpM L xs codT retT (f + 2) m_X10_sumOf [.inr (10, 0), .inl (nI w)] (setN s F) Q := by
  have r2 := hw.r2
  intro call hcall X hX; refine hX 1000 0 _ _ _ ?_
  repeat' (first | (intro hc) | (refine And.intro ?_ ?_) | (exact absurd nI_0 ‹cmpF 0 (nI 0) 0›) | (exact absurd ‹cmpT 0 (nI 1) 0› nI1_ne) | (exact absurd nI_0 ‹cmpT 1 (nI 0) 0›) | (exact absurd ‹cmpF 1 (nI 1) 0› nI1_ne) | (show wp _ _ _ _ _ _ _ _ _ _ _ _; conv => whnf))
  have loop : ∀ j, j ≤ cR F → X 4 [.inr (10, 0), .inl (nI w), .inl (sumN F w j), .inl (nI j)] [] (setN s F) := by
    refine loopD (cR F) (fun j hj ih => ?_) ?_
    · clear h
      have ih2 : X 4 [.inr (10, 0), .inl (nI w), .inl (sumN F w j + F (165 + 6 * j + w)), .inl (nI (j + 1))] [] (setN s F) := ih
      clear ih
      refine hX 1000 4 _ _ _ ?_
      repeat' (first | (intro hc) | (refine And.intro ?_ ?_) | (exact absurd nI_0 ‹cmpF 0 (nI 0) 0›) | (exact absurd ‹cmpT 0 (nI 1) 0› nI1_ne) | (exact absurd nI_0 ‹cmpT 1 (nI 0) 0›) | (exact absurd ‹cmpF 1 (nI 1) 0› nI1_ne) | (show wp _ _ _ _ _ _ _ _ _ _ _ _; conv => whnf) | (simp (disch := omega) only [nI_add, nI_mul, setN_now, setN_put, nI_cl, Nat.add_zero]) | (refine hcall _ _ _ _ ?_; first | (refine r_routerAt ?_) | fail))
      all_goals ((try clear hX hcall); (try clear h); simp (disch := omega) only [cmpT, cmpF, bI_eq0, bI_ne0, Classical.not_not, nI_toI, setN_now, nI_cl, alen20, Int32.toInt_zero, hw.s1, hw.t1, hw.r1, nI_add, nI_mul, takeL, setL, setN_put] at *)
      all_goals first
        | exact ih2
        | omega
    · refine hX 1000 4 _ _ _ ?_
      repeat' (first | (intro hc) | (refine And.intro ?_ ?_) | (exact absurd nI_0 ‹cmpF 0 (nI 0) 0›) | (exact absurd ‹cmpT 0 (nI 1) 0› nI1_ne) | (exact absurd nI_0 ‹cmpT 1 (nI 0) 0›) | (exact absurd ‹cmpF 1 (nI 1) 0› nI1_ne) | (show wp _ _ _ _ _ _ _ _ _ _ _ _; conv => whnf))
      all_goals first
        | exact h
        | ((try clear hX hcall); (try clear h); simp (disch := omega) only [cmpT, cmpF, bI_eq0, bI_ne0, Classical.not_not, nI_toI, setN_now, nI_cl, alen20, Int32.toInt_zero, hw.s1, hw.t1, hw.r1, nI_add, nI_mul, takeL, setL, setN_put] at *; omega)
  simp only [takeL, setL]
  exact loop 0 (by omega)
set_option maxHeartbeats 4000000 in
set_option maxRecDepth 100000 in
theorem r_answered (hw : WF F B) (h : Q (some (.inl (nI (cntB (ansP F) 256)))) (setN s F)) : wpM L xs codT retT (f + 6) m_X10_answered [.inr (10, 0)] (setN s F) Q := by
  have t2 := hw.t2
  intro call hcall X hX; refine hX 1000 0 _ _ _ ?_
  repeat' (first | (intro hc) | (refine And.intro ?_ ?_) | (exact absurd nI_0 ‹cmpF 0 (nI 0) 0›) | (exact absurd ‹cmpT 0 (nI 1) 0› nI1_ne) | (exact absurd nI_0 ‹cmpT 1 (nI 0) 0›) | (exact absurd ‹cmpF 1 (nI 1) 0› nI1_ne) | (show wp _ _ _ _ _ _ _ _ _ _ _ _; conv => whnf))
  have loop : ∀ j, j ≤ 256 → X 4 [.inr (10, 0), .inl (nI (cntB (ansP F) j)), .inl (nI j)] [] (setN s F) := by
    refine loopD 256 (fun j hj ih => ?_) ?_
    · clear h
      have hle := cntB_le (p := ansP F) j
      cases hm : ansF F (nI j) with
      | some b =>
        have hb := ansF_lt hm
        have hb5 : ¬ nI b = -5 := nI_n5 (by omega)
        rw [cntB_1 (p := ansP F) (n := j) (decide_eq_true (by rw [hm]; exact fun q => nomatch q))] at ih
        refine hX 1000 4 _ _ _ ?_
        repeat' (first | (intro hc) | (refine And.intro ?_ ?_) | (exact absurd nI_0 ‹cmpF 0 (nI 0) 0›) | (exact absurd ‹cmpT 0 (nI 1) 0› nI1_ne) | (exact absurd nI_0 ‹cmpT 1 (nI 0) 0›) | (exact absurd ‹cmpF 1 (nI 1) 0› nI1_ne) | (show wp _ _ _ _ _ _ _ _ _ _ _ _; conv => whnf) | (simp (disch := omega) only [nI_add, nI_mul, setN_now, setN_put, nI_cl, Nat.add_zero]) | (refine hcall _ _ _ _ ?_; first | (refine r_answerOfE hw hm ?_) | fail))
        all_goals ((try clear hX hcall); (try clear h); simp (disch := omega) only [cmpT, cmpF, bI_eq0, bI_ne0, Classical.not_not, nI_toI, setN_now, nI_cl, alen20, Int32.toInt_zero, hw.s1, hw.t1, hw.r1, nI_add, nI_mul, takeL, setL, setN_put] at *)
        all_goals first
          | exact ih
          | omega
          | (exfalso; first | contradiction | omega)
      | none =>
        rw [cntB_0 (p := ansP F) (n := j) (fun q => of_decide_eq_true q hm)] at ih
        refine hX 1000 4 _ _ _ ?_
        repeat' (first | (intro hc) | (refine And.intro ?_ ?_) | (exact absurd nI_0 ‹cmpF 0 (nI 0) 0›) | (exact absurd ‹cmpT 0 (nI 1) 0› nI1_ne) | (exact absurd nI_0 ‹cmpT 1 (nI 0) 0›) | (exact absurd ‹cmpF 1 (nI 1) 0› nI1_ne) | (show wp _ _ _ _ _ _ _ _ _ _ _ _; conv => whnf) | (simp (disch := omega) only [nI_add, nI_mul, setN_now, setN_put, nI_cl, Nat.add_zero]) | (refine hcall _ _ _ _ ?_; first | (refine r_answerOfE hw hm ?_) | fail))
        all_goals ((try clear hX hcall); (try clear h); simp (disch := omega) only [cmpT, cmpF, bI_eq0, bI_ne0, Classical.not_not, nI_toI, setN_now, nI_cl, alen20, Int32.toInt_zero, hw.s1, hw.t1, hw.r1, nI_add, nI_mul, takeL, setL, setN_put] at *)
        all_goals first
          | exact ih
          | omega
          | (exfalso; first | contradiction | omega | exact (by assumption : ¬ _) rfl)
    · refine hX 1000 4 _ _ _ ?_
      repeat' (first | (intro hc) | (refine And.intro ?_ ?_) | (exact absurd nI_0 ‹cmpF 0 (nI 0) 0›) | (exact absurd ‹cmpT 0 (nI 1) 0› nI1_ne) | (exact absurd nI_0 ‹cmpT 1 (nI 0) 0›) | (exact absurd ‹cmpF 1 (nI 1) 0› nI1_ne) | (show wp _ _ _ _ _ _ _ _ _ _ _ _; conv => whnf))
      all_goals first
        | exact h
        | ((try clear hX hcall); (try clear h); simp (disch := omega) only [cmpT, cmpF, bI_eq0, bI_ne0, Classical.not_not, nI_toI, setN_now, nI_cl, alen20, Int32.toInt_zero, hw.s1, hw.t1, hw.r1, nI_add, nI_mul, takeL, setL, setN_put] at *; omega)
  simp only [takeL, setL]
  exact loop 0 (by omega)
def serverA (F : Fm) (v w : Int32) : Int32 := if ¬ iN v (cS F) then -1 else if ¬ iN w 6 then -2 else if w.toInt < 3 then F (5 + 3 * nn v + nn w) else if w.toInt = 3 then nI (cntB (childP F v) (cS F)) else if w.toInt = 4 then nI (wayF F (nn v)) else nI (cntB (homeP F v) (cT F))
def routA (F : Fm) (v w : Int32) : Int32 := if ¬ iN v (cR F) then -1 else if ¬ iN w 6 then -2 else F (165 + 6 * nn v + nn w)
def slotA (F : Fm) (v j w : Int32) : Int32 := if ¬ (iN v (cT F) ∧ iN j 3) then -1 else if ¬ iN w 3 then -2 else if F (29 + 17 * nn v + 5 + 4 * nn j) = nI 1 then F (29 + 17 * nn v + 5 + 4 * nn j + 1 + nn w) else -5
set_option maxHeartbeats 4000000 in
set_option maxRecDepth 100000 in
theorem r_router (hw : WF F B) (h : Q (some (.inl (routA F v a))) (setN s F)) : wpM L xs codT retT (f + 3) m_X10_router [.inr (10, 0), .inl v, .inl a] (setN s F) Q := by
  have r2 := hw.r2
  by_cases hv : iN v (cR F)
  · obtain ⟨r, hp, hpl⟩ := iN_nn hv (by omega)
    subst hp
    have en : nn (nI r) = r := nI_cl (by omega)
    by_cases hb : iN a 6
    · obtain ⟨j, hq, hql⟩ := iN_nn hb (by omega)
      subst hq
      have ej : nn (nI j) = j := nI_cl (by omega)
      have e : routA F (nI r) (nI j) = F (165 + 6 * r + j) := by unfold routA; rw [if_neg (fun q => q hv), if_neg (fun q => q hb), en, ej]
      rw [e] at h
      intro call hcall X hX; refine hX 1000 0 _ _ _ ?_
      repeat' (first | (intro hc) | (refine And.intro ?_ ?_) | (exact absurd nI_0 ‹cmpF 0 (nI 0) 0›) | (exact absurd ‹cmpT 0 (nI 1) 0› nI1_ne) | (exact absurd nI_0 ‹cmpT 1 (nI 0) 0›) | (exact absurd ‹cmpF 1 (nI 1) 0› nI1_ne) | (show wp _ _ _ _ _ _ _ _ _ _ _ _; conv => whnf) | (simp (disch := omega) only [nI_add, nI_mul, setN_now, setN_put, nI_cl, Nat.add_zero]) | (refine hcall _ _ _ _ ?_; first | (refine r_isRouter hw.r1 (by omega) ?_) | (refine r_isIn ?_) | (refine r_routerAt ?_) | fail))
      all_goals first
        | exact h
        | ((try clear hX hcall); (try clear h); simp (disch := omega) only [cmpT, cmpF, bI_eq0, bI_ne0, Classical.not_not, nI_toI, setN_now, nI_cl, alen20, Int32.toInt_zero, hw.s1, hw.t1, hw.r1, nI_add, nI_mul, takeL, setL, setN_put] at *; omega)
    · have e : routA F (nI r) a = -2 := by unfold routA; rw [if_neg (fun q => q hv), if_pos hb]
      rw [e] at h
      intro call hcall X hX; refine hX 1000 0 _ _ _ ?_
      repeat' (first | (intro hc) | (refine And.intro ?_ ?_) | (exact absurd nI_0 ‹cmpF 0 (nI 0) 0›) | (exact absurd ‹cmpT 0 (nI 1) 0› nI1_ne) | (exact absurd nI_0 ‹cmpT 1 (nI 0) 0›) | (exact absurd ‹cmpF 1 (nI 1) 0› nI1_ne) | (show wp _ _ _ _ _ _ _ _ _ _ _ _; conv => whnf) | (simp (disch := omega) only [nI_add, nI_mul, setN_now, setN_put, nI_cl, Nat.add_zero]) | (refine hcall _ _ _ _ ?_; first | (refine r_isRouter hw.r1 (by omega) ?_) | (refine r_isIn ?_) | (refine r_routerAt ?_) | fail))
      all_goals first
        | exact h
        | ((try clear hX hcall); (try clear h); simp (disch := omega) only [cmpT, cmpF, bI_eq0, bI_ne0, Classical.not_not, nI_toI, setN_now, nI_cl, alen20, Int32.toInt_zero, hw.s1, hw.t1, hw.r1, nI_add, nI_mul, takeL, setL, setN_put] at *; omega)
  · have e : routA F v a = -1 := by unfold routA; rw [if_pos hv]
    rw [e] at h
    intro call hcall X hX; refine hX 1000 0 _ _ _ ?_
    repeat' (first | (intro hc) | (refine And.intro ?_ ?_) | (exact absurd nI_0 ‹cmpF 0 (nI 0) 0›) | (exact absurd ‹cmpT 0 (nI 1) 0› nI1_ne) | (exact absurd nI_0 ‹cmpT 1 (nI 0) 0›) | (exact absurd ‹cmpF 1 (nI 1) 0› nI1_ne) | (show wp _ _ _ _ _ _ _ _ _ _ _ _; conv => whnf) | (simp (disch := omega) only [nI_add, nI_mul, setN_now, setN_put, nI_cl, Nat.add_zero]) | (refine hcall _ _ _ _ ?_; first | (refine r_isRouter hw.r1 (by omega) ?_) | (refine r_isIn ?_) | fail))
    all_goals first
      | exact h
      | ((try clear hX hcall); (try clear h); simp (disch := omega) only [cmpT, cmpF, bI_eq0, bI_ne0, Classical.not_not, nI_toI, setN_now, nI_cl, alen20, Int32.toInt_zero, hw.s1, hw.t1, hw.r1, nI_add, nI_mul, takeL, setL, setN_put] at *; omega)
set_option maxHeartbeats 4000000 in
set_option maxRecDepth 100000 in
theorem r_slot (hw : WF F B) (h : Q (some (.inl (slotA F v x a))) (setN s F)) : wpM L xs codT retT (f + 3) m_X10_slot [.inr (10, 0), .inl v, .inl x, .inl a] (setN s F) Q := by
  have t2 := hw.t2
  by_cases hv : iN v (cT F) ∧ iN x 3
  · obtain ⟨k, hp, hpl⟩ := iN_nn hv.1 (by omega)
    obtain ⟨i, hq, hql⟩ := iN_nn hv.2 (by omega)
    subst hp
    subst hq
    have en : nn (nI k) = k := nI_cl (by omega)
    have ei : nn (nI i) = i := nI_cl (by omega)
    by_cases hb : iN a 3
    · obtain ⟨j, hq, hql⟩ := iN_nn hb (by omega)
      subst hq
      have ej : nn (nI j) = j := nI_cl (by omega)
      have e : slotA F (nI k) (nI i) (nI j) = if F (29 + 17 * k + 5 + 4 * i) = nI 1 then F (29 + 17 * k + 5 + 4 * i + 1 + j) else -5 := by unfold slotA; rw [if_neg (fun q => q hv), if_neg (fun q => q hb), en, ej, ei]
      rw [e] at h
      by_cases hm : F (29 + 17 * k + 5 + 4 * i) = nI 1
      · rw [if_pos hm] at h
        intro call hcall X hX; refine hX 1000 0 _ _ _ ?_
        repeat' (first | (intro hc) | (refine And.intro ?_ ?_) | (exact absurd nI_0 ‹cmpF 0 (nI 0) 0›) | (exact absurd ‹cmpT 0 (nI 1) 0› nI1_ne) | (exact absurd nI_0 ‹cmpT 1 (nI 0) 0›) | (exact absurd ‹cmpF 1 (nI 1) 0› nI1_ne) | (show wp _ _ _ _ _ _ _ _ _ _ _ _; conv => whnf) | (simp (disch := omega) only [nI_add, nI_mul, setN_now, setN_put, nI_cl, Nat.add_zero]) | (refine hcall _ _ _ _ ?_; first | (refine r_isSite hw.t1 (by omega) ?_) | (refine r_isIn ?_) | (refine r_siteAt ?_) | fail))
        all_goals first
          | exact h
          | ((try clear hX hcall); (try clear h); simp (disch := omega) only [cmpT, cmpF, bI_eq0, bI_ne0, Classical.not_not, nI_toI, setN_now, nI_cl, alen20, Int32.toInt_zero, hw.s1, hw.t1, hw.r1, nI_add, nI_mul, takeL, setL, setN_put] at *; first | omega | contradiction)
      · rw [if_neg hm] at h
        intro call hcall X hX; refine hX 1000 0 _ _ _ ?_
        repeat' (first | (intro hc) | (refine And.intro ?_ ?_) | (exact absurd nI_0 ‹cmpF 0 (nI 0) 0›) | (exact absurd ‹cmpT 0 (nI 1) 0› nI1_ne) | (exact absurd nI_0 ‹cmpT 1 (nI 0) 0›) | (exact absurd ‹cmpF 1 (nI 1) 0› nI1_ne) | (show wp _ _ _ _ _ _ _ _ _ _ _ _; conv => whnf) | (simp (disch := omega) only [nI_add, nI_mul, setN_now, setN_put, nI_cl, Nat.add_zero]) | (refine hcall _ _ _ _ ?_; first | (refine r_isSite hw.t1 (by omega) ?_) | (refine r_isIn ?_) | (refine r_siteAt ?_) | fail))
        all_goals first
          | exact h
          | ((try clear hX hcall); (try clear h); simp (disch := omega) only [cmpT, cmpF, bI_eq0, bI_ne0, Classical.not_not, nI_toI, setN_now, nI_cl, alen20, Int32.toInt_zero, hw.s1, hw.t1, hw.r1, nI_add, nI_mul, takeL, setL, setN_put] at *; first | omega | contradiction)
    · have e : slotA F (nI k) (nI i) a = -2 := by unfold slotA; rw [if_neg (fun q => q hv), if_pos hb]
      rw [e] at h
      intro call hcall X hX; refine hX 1000 0 _ _ _ ?_
      repeat' (first | (intro hc) | (refine And.intro ?_ ?_) | (exact absurd nI_0 ‹cmpF 0 (nI 0) 0›) | (exact absurd ‹cmpT 0 (nI 1) 0› nI1_ne) | (exact absurd nI_0 ‹cmpT 1 (nI 0) 0›) | (exact absurd ‹cmpF 1 (nI 1) 0› nI1_ne) | (show wp _ _ _ _ _ _ _ _ _ _ _ _; conv => whnf) | (simp (disch := omega) only [nI_add, nI_mul, setN_now, setN_put, nI_cl, Nat.add_zero]) | (refine hcall _ _ _ _ ?_; first | (refine r_isSite hw.t1 (by omega) ?_) | (refine r_isIn ?_) | (refine r_siteAt ?_) | fail))
      all_goals first
        | exact h
        | ((try clear hX hcall); (try clear h); simp (disch := omega) only [cmpT, cmpF, bI_eq0, bI_ne0, Classical.not_not, nI_toI, setN_now, nI_cl, alen20, Int32.toInt_zero, hw.s1, hw.t1, hw.r1, nI_add, nI_mul, takeL, setL, setN_put] at *; omega)
  · have e : slotA F v x a = -1 := by unfold slotA; rw [if_pos hv]
    rw [e] at h
    intro call hcall X hX; refine hX 1000 0 _ _ _ ?_
    repeat' (first | (intro hc) | (refine And.intro ?_ ?_) | (exact absurd nI_0 ‹cmpF 0 (nI 0) 0›) | (exact absurd ‹cmpT 0 (nI 1) 0› nI1_ne) | (exact absurd nI_0 ‹cmpT 1 (nI 0) 0›) | (exact absurd ‹cmpF 1 (nI 1) 0› nI1_ne) | (show wp _ _ _ _ _ _ _ _ _ _ _ _; conv => whnf) | (simp (disch := omega) only [nI_add, nI_mul, setN_now, setN_put, nI_cl, Nat.add_zero]) | (refine hcall _ _ _ _ ?_; first | (refine r_isSite hw.t1 (by omega) ?_) | (refine r_isIn ?_) | (refine r_siteAt ?_) | fail))
    all_goals first
      | exact h
      | ((try clear hX hcall); (try clear h); simp (disch := omega) only [cmpT, cmpF, bI_eq0, bI_ne0, Classical.not_not, nI_toI, setN_now, nI_cl, alen20, Int32.toInt_zero, hw.s1, hw.t1, hw.r1, nI_add, nI_mul, takeL, setL, setN_put] at *; omega)
end REF16
end
section
/-! THE REFERENCE: server, share, map -/
section REF17
variable {L : Nat} {xs : Nat → Int32} {f i k r q c j n B b w : Nat} {x y v a z l name flow place : Int32} {s : St} {F G F' : Fm} {Q : Option MV → St → Prop} {p : Nat → Bool}
theorem ofN (m : Nat) : Int32.ofNat m = nI m := by unfold nI; rfl
theorem iN_of {a : Int32} {j n : Nat} (hq : a = Int32.ofNat j) (hj : j < n) (hn : n < 1000) : iN a n := by
  rw [hq, ofN]
  exact iN_k hj hn
set_option maxHeartbeats 4000000 in
set_option maxRecDepth 100000 in
theorem r_server (hw : WF F B) (h : Q (some (.inl (serverA F v a))) (setN s F)) : wpM L xs codT retT (f + 6) m_X10_server [.inr (10, 0), .inl v, .inl a] (setN s F) Q := by
  have s2 := hw.s2
  by_cases hv : iN v (cS F)
  · obtain ⟨k, hp, hpl⟩ := iN_nn hv (by omega)
    subst hp
    have en : nn (nI k) = k := nI_cl (by omega)
    by_cases hb : iN a 6
    · obtain ⟨j, hq, hql⟩ := iN_nn hb (by omega)
      subst hq
      have ej : nn (nI j) = j := nI_cl (by omega)
      have e : serverA F (nI k) (nI j) = if (nI j).toInt < 3 then F (5 + 3 * k + j) else if (nI j).toInt = 3 then nI (cntB (childP F (nI k)) (cS F)) else if (nI j).toInt = 4 then nI (wayF F k) else nI (cntB (homeP F (nI k)) (cT F)) := by unfold serverA; rw [if_neg (fun q => q hv), if_neg (fun q => q hb), en, ej]
      rw [e, nI_toI (by omega)] at h
      have hj : j = 0 ∨ j = 1 ∨ j = 2 ∨ j = 3 ∨ j = 4 ∨ j = 5 := by omega
      rcases hj with hj | hj | hj | hj | hj | hj <;> subst hj <;> (first | rw [if_pos (by omega)] at h | rw [if_neg (by omega), if_pos (by omega)] at h | rw [if_neg (by omega), if_neg (by omega), if_pos (by omega)] at h | rw [if_neg (by omega), if_neg (by omega), if_neg (by omega)] at h)
      all_goals
        intro call hcall X hX; refine hX 1000 0 _ _ _ ?_
        repeat' (first | (intro hc) | (refine And.intro ?_ ?_) | (exact absurd nI_0 ‹cmpF 0 (nI 0) 0›) | (exact absurd ‹cmpT 0 (nI 1) 0› nI1_ne) | (exact absurd nI_0 ‹cmpT 1 (nI 0) 0›) | (exact absurd ‹cmpF 1 (nI 1) 0› nI1_ne) | (show wp _ _ _ _ _ _ _ _ _ _ _ _; conv => whnf) | (simp (disch := omega) only [nI_add, nI_mul, setN_now, setN_put, nI_cl, Nat.add_zero]) | (refine hcall _ _ _ _ ?_; first | (refine r_isServer hw.s1 (by omega) ?_) | (refine r_wayTo hw hpl ?_) | (refine r_children hw ?_) | (refine r_sitesOf hw ?_) | fail))
        all_goals first
          | exact h
          | ((try clear hX hcall); (try clear h); simp (disch := omega) only [cmpT, cmpF, bI_eq0, bI_ne0, Classical.not_not, nI_toI, setN_now, nI_cl, alen20, Int32.toInt_zero, hw.s1, hw.t1, hw.r1, nI_add, nI_mul, takeL, setL, setN_put] at *; (try simp (disch := omega) only [ofN, nI_inj] at *); omega)
          | ((try clear hX hcall); (try clear h); simp (disch := omega) only [cmpT, cmpF, bI_eq0, bI_ne0, Classical.not_not, nI_toI, setN_now, nI_cl, alen20, Int32.toInt_zero, hw.s1, hw.t1, hw.r1, nI_add, nI_mul, takeL, setL, setN_put] at *; (try simp (disch := omega) only [ofN, nI_inj] at *); contradiction)
    · have e : serverA F (nI k) a = -2 := by unfold serverA; rw [if_neg (fun q => q hv), if_pos hb]
      rw [e] at h
      intro call hcall X hX; refine hX 1000 0 _ _ _ ?_
      repeat' (first | (intro hc) | (refine And.intro ?_ ?_) | (exact absurd nI_0 ‹cmpF 0 (nI 0) 0›) | (exact absurd ‹cmpT 0 (nI 1) 0› nI1_ne) | (exact absurd nI_0 ‹cmpT 1 (nI 0) 0›) | (exact absurd ‹cmpF 1 (nI 1) 0› nI1_ne) | (show wp _ _ _ _ _ _ _ _ _ _ _ _; conv => whnf) | (simp (disch := omega) only [nI_add, nI_mul, setN_now, setN_put, nI_cl, Nat.add_zero]) | (refine hcall _ _ _ _ ?_; first | (refine r_isServer hw.s1 (by omega) ?_) | (refine r_wayTo hw hpl ?_) | (refine r_children hw ?_) | (refine r_sitesOf hw ?_) | fail))
      all_goals first
        | exact h
        | ((try clear hX hcall); (try clear h); simp (disch := omega) only [cmpT, cmpF, bI_eq0, bI_ne0, Classical.not_not, nI_toI, setN_now, nI_cl, alen20, Int32.toInt_zero, hw.s1, hw.t1, hw.r1, nI_add, nI_mul, takeL, setL, setN_put] at *; omega)
        | exact absurd (iN_of (show a = Int32.ofNat 0 by assumption) (by decide) (by decide)) hb
        | exact absurd (iN_of (show a = Int32.ofNat 1 by assumption) (by decide) (by decide)) hb
        | exact absurd (iN_of (show a = Int32.ofNat 2 by assumption) (by decide) (by decide)) hb
        | exact absurd (iN_of (show a = Int32.ofNat 3 by assumption) (by decide) (by decide)) hb
        | exact absurd (iN_of (show a = Int32.ofNat 4 by assumption) (by decide) (by decide)) hb
        | exact absurd (iN_of (show a = Int32.ofNat 5 by assumption) (by decide) (by decide)) hb
  · have e : serverA F v a = -1 := by unfold serverA; rw [if_pos hv]
    rw [e] at h
    intro call hcall X hX; refine hX 1000 0 _ _ _ ?_
    repeat' (first | (intro hc) | (refine And.intro ?_ ?_) | (exact absurd nI_0 ‹cmpF 0 (nI 0) 0›) | (exact absurd ‹cmpT 0 (nI 1) 0› nI1_ne) | (exact absurd nI_0 ‹cmpT 1 (nI 0) 0›) | (exact absurd ‹cmpF 1 (nI 1) 0› nI1_ne) | (show wp _ _ _ _ _ _ _ _ _ _ _ _; conv => whnf) | (simp (disch := omega) only [nI_add, nI_mul, setN_now, setN_put, nI_cl, Nat.add_zero]) | (refine hcall _ _ _ _ ?_; first | (refine r_isServer hw.s1 (by omega) ?_) | fail))
    all_goals first
      | exact h
      | ((try clear hX hcall); (try clear h); simp (disch := omega) only [cmpT, cmpF, bI_eq0, bI_ne0, Classical.not_not, nI_toI, setN_now, nI_cl, alen20, Int32.toInt_zero, hw.s1, hw.t1, hw.r1, nI_add, nI_mul, takeL, setL, setN_put] at *; omega)
end REF17
end
section
/-! THE REFERENCE: map, isAhead -/
def mapA (F : Fm) (v x w : Int32) : Int32 := if ¬ (iN v (cR F) ∧ iN x (cM F (nn v))) then -1 else if ¬ iN w 5 then -2 else if w.toInt < 4 then F (mA (nn v) (nn x) + nn w) else if (F 0).toInt < (F (mA (nn v) (nn x) + 2)).toInt then nI 1 else nI 0
section REF18
variable {L : Nat} {xs : Nat → Int32} {f i k r q c j n B b w m : Nat} {x y v a z l name flow place : Int32} {s : St} {F G F' : Fm} {Q : Option MV → St → Prop} {p : Nat → Bool}
abbrev aheadF (F : Fm) (k m : Nat) : Prop := (F 0).toInt < (F (29 + 17 * k + 4)).toInt ∧ ((F (29 + 17 * k + 4)).toInt < (F (29 + 17 * m + 4)).toInt ∨ (F (29 + 17 * k + 4) = F (29 + 17 * m + 4) ∧ k < m))
set_option maxHeartbeats 4000000 in
set_option maxRecDepth 100000 in
theorem r_isAhead (hk : k < 8) (hm : m < 8) (h : Q (some (.inl (bI (aheadF F k m)))) (setN s F)) : wpM L xs codT retT (f + 4) m_X10_isAhead [.inr (10, 0), .inl (nI k), .inl (nI m)] (setN s F) Q := by
  intro call hcall X hX; refine hX 1000 0 _ _ _ ?_
  repeat' (first | (intro hc) | (refine And.intro ?_ ?_) | (exact absurd nI_0 ‹cmpF 0 (nI 0) 0›) | (exact absurd ‹cmpT 0 (nI 1) 0› nI1_ne) | (exact absurd nI_0 ‹cmpT 1 (nI 0) 0›) | (exact absurd ‹cmpF 1 (nI 1) 0› nI1_ne) | (show wp _ _ _ _ _ _ _ _ _ _ _ _; conv => whnf) | (simp (disch := omega) only [nI_add, nI_mul, setN_now, setN_put, nI_cl, Nat.add_zero]) | (refine hcall _ _ _ _ ?_; first | (refine r_ofSite (by omega) ?_) | (refine r_isRegistered (by omega) ?_) | fail))
  all_goals (clear hX hcall)
  all_goals (simp (disch := omega) only [cmpT, cmpF, bI_eq0, bI_ne0, Classical.not_not, nI_toI] at *)
  all_goals first
    | exact Or.inl rfl
    | exact Or.inr rfl
    | (refine bI_1 h ⟨by assumption, Or.inl (by assumption)⟩)
    | (refine bI_1 h ⟨by assumption, Or.inr ⟨by assumption, by omega⟩⟩)
    | (refine bI_0 h ?_; rintro ⟨h1, h2 | ⟨h2, h3⟩⟩ <;> first | contradiction | omega)
end REF18
end
section
/-! THE REFERENCE: map -/
section REF19
variable {L : Nat} {xs : Nat → Int32} {f i k r q c j n B b w m : Nat} {x y v a z l name flow place : Int32} {s : St} {F G F' : Fm} {Q : Option MV → St → Prop}
set_option maxHeartbeats 4000000 in
set_option maxRecDepth 100000 in
theorem r_map (hw : WF F B) (h : Q (some (.inl (mapA F v x a))) (setN s F)) : wpM L xs codT retT (f + 3) m_X10_map [.inr (10, 0), .inl v, .inl x, .inl a] (setN s F) Q := by
  have r2 := hw.r2
  by_cases hv : iN v (cR F)
  · obtain ⟨r, hp, hpl⟩ := iN_nn hv (by omega)
    subst hp
    have en : nn (nI r) = r := nI_cl (by omega)
    have wr := hw.router hpl
    have wr1 := wr.1
    have wr5 := wr.2.1
    by_cases hx : iN x (cM F r)
    · obtain ⟨q, hp, hql⟩ := iN_nn hx (by omega)
      subst hp
      have eq : nn (nI q) = q := nI_cl (by omega)
      have mq := mA_eq r q
      by_cases hb : iN a 5
      · obtain ⟨j, hp, hjl⟩ := iN_nn hb (by omega)
        subst hp
        have ej : nn (nI j) = j := nI_cl (by omega)
        have e : mapA F (nI r) (nI q) (nI j) = if (nI j).toInt < 4 then F (mA r q + j) else if (F 0).toInt < (F (mA r q + 2)).toInt then nI 1 else nI 0 := by
          unfold mapA
          rw [en, if_neg (fun t => t ⟨hv, hx⟩), if_neg (fun t => t hb), eq, ej]
        rw [e, nI_toI (by omega)] at h
        by_cases h4 : (j : Int) < 4
        · rw [if_pos h4] at h
          intro call hcall X hX; refine hX 1000 0 _ _ _ ?_
          repeat' (first | (intro hc) | (refine And.intro ?_ ?_) | (exact absurd nI_0 ‹cmpF 0 (nI 0) 0›) | (exact absurd ‹cmpT 0 (nI 1) 0› nI1_ne) | (exact absurd nI_0 ‹cmpT 1 (nI 0) 0›) | (exact absurd ‹cmpF 1 (nI 1) 0› nI1_ne) | (show wp _ _ _ _ _ _ _ _ _ _ _ _; conv => whnf) | (simp (disch := omega) only [nI_add, nI_mul, setN_now, setN_put, nI_cl, Nat.add_zero]) | (refine hcall _ _ _ _ ?_; first | (refine r_isRouter hw.r1 (by omega) ?_) | (refine r_mapsOf (by omega) ?_) | (refine r_isIn ?_) | (refine r_ofMap (by omega) ?_) | fail))
          all_goals first
            | exact h
            | (clear hX hcall h; simp (disch := omega) only [cmpT, cmpF, bI_eq0, bI_ne0, Classical.not_not, nI_toI, wr1, nI_subI, setN_now, nI_cl, alen20] at *; first | omega | contradiction)
        · rw [if_neg h4] at h
          by_cases ht : (F 0).toInt < (F (mA r q + 2)).toInt
          · rw [if_pos ht] at h
            intro call hcall X hX; refine hX 1000 0 _ _ _ ?_
            repeat' (first | (intro hc) | (refine And.intro ?_ ?_) | (exact absurd nI_0 ‹cmpF 0 (nI 0) 0›) | (exact absurd ‹cmpT 0 (nI 1) 0› nI1_ne) | (exact absurd nI_0 ‹cmpT 1 (nI 0) 0›) | (exact absurd ‹cmpF 1 (nI 1) 0› nI1_ne) | (show wp _ _ _ _ _ _ _ _ _ _ _ _; conv => whnf) | (simp (disch := omega) only [nI_add, nI_mul, setN_now, setN_put, nI_cl, Nat.add_zero]) | (refine hcall _ _ _ _ ?_; first | (refine r_isRouter hw.r1 (by omega) ?_) | (refine r_mapsOf (by omega) ?_) | (refine r_isIn ?_) | (refine r_ofMap (by omega) ?_) | fail))
            all_goals first
              | exact h
              | (clear hX hcall h; simp (disch := omega) only [cmpT, cmpF, bI_eq0, bI_ne0, Classical.not_not, nI_toI, wr1, nI_subI, setN_now, nI_cl, alen20] at *; first | omega | contradiction)
          · rw [if_neg ht] at h
            intro call hcall X hX; refine hX 1000 0 _ _ _ ?_
            repeat' (first | (intro hc) | (refine And.intro ?_ ?_) | (exact absurd nI_0 ‹cmpF 0 (nI 0) 0›) | (exact absurd ‹cmpT 0 (nI 1) 0› nI1_ne) | (exact absurd nI_0 ‹cmpT 1 (nI 0) 0›) | (exact absurd ‹cmpF 1 (nI 1) 0› nI1_ne) | (show wp _ _ _ _ _ _ _ _ _ _ _ _; conv => whnf) | (simp (disch := omega) only [nI_add, nI_mul, setN_now, setN_put, nI_cl, Nat.add_zero]) | (refine hcall _ _ _ _ ?_; first | (refine r_isRouter hw.r1 (by omega) ?_) | (refine r_mapsOf (by omega) ?_) | (refine r_isIn ?_) | (refine r_ofMap (by omega) ?_) | fail))
            all_goals first
              | exact h
              | (clear hX hcall h; simp (disch := omega) only [cmpT, cmpF, bI_eq0, bI_ne0, Classical.not_not, nI_toI, wr1, nI_subI, setN_now, nI_cl, alen20] at *; first | omega | contradiction)
      · have e : mapA F (nI r) (nI q) a = -2 := by
          unfold mapA
          rw [en, if_neg (fun t => t ⟨hv, hx⟩), if_pos hb]
        rw [e] at h
        intro call hcall X hX; refine hX 1000 0 _ _ _ ?_
        repeat' (first | (intro hc) | (refine And.intro ?_ ?_) | (exact absurd nI_0 ‹cmpF 0 (nI 0) 0›) | (exact absurd ‹cmpT 0 (nI 1) 0› nI1_ne) | (exact absurd nI_0 ‹cmpT 1 (nI 0) 0›) | (exact absurd ‹cmpF 1 (nI 1) 0› nI1_ne) | (show wp _ _ _ _ _ _ _ _ _ _ _ _; conv => whnf) | (simp (disch := omega) only [nI_add, nI_mul, setN_now, setN_put, nI_cl, Nat.add_zero]) | (refine hcall _ _ _ _ ?_; first | (refine r_isRouter hw.r1 (by omega) ?_) | (refine r_mapsOf (by omega) ?_) | (refine r_isIn ?_) | fail))
        all_goals first
          | exact h
          | (clear hX hcall h; simp (disch := omega) only [cmpT, cmpF, bI_eq0, bI_ne0, Classical.not_not, nI_toI, wr1, nI_subI, setN_now, nI_cl, alen20] at *; first | omega | contradiction)
    · have e : mapA F (nI r) x a = -1 := by
        unfold mapA
        rw [en, if_pos (fun t => hx t.2)]
      rw [e] at h
      intro call hcall X hX; refine hX 1000 0 _ _ _ ?_
      repeat' (first | (intro hc) | (refine And.intro ?_ ?_) | (exact absurd nI_0 ‹cmpF 0 (nI 0) 0›) | (exact absurd ‹cmpT 0 (nI 1) 0› nI1_ne) | (exact absurd nI_0 ‹cmpT 1 (nI 0) 0›) | (exact absurd ‹cmpF 1 (nI 1) 0› nI1_ne) | (show wp _ _ _ _ _ _ _ _ _ _ _ _; conv => whnf) | (simp (disch := omega) only [nI_add, nI_mul, setN_now, setN_put, nI_cl, Nat.add_zero]) | (refine hcall _ _ _ _ ?_; first | (refine r_isRouter hw.r1 (by omega) ?_) | (refine r_mapsOf (by omega) ?_) | (refine r_isIn ?_) | fail))
      all_goals first
        | exact h
        | (clear hX hcall h; simp (disch := omega) only [cmpT, cmpF, bI_eq0, bI_ne0, Classical.not_not, nI_toI, wr1, nI_subI, setN_now, nI_cl, alen20] at *; first | omega | contradiction)
  · have e : mapA F v x a = -1 := by unfold mapA; rw [if_pos (fun t => hv t.1)]
    rw [e] at h
    intro call hcall X hX; refine hX 1000 0 _ _ _ ?_
    repeat' (first | (intro hc) | (refine And.intro ?_ ?_) | (exact absurd nI_0 ‹cmpF 0 (nI 0) 0›) | (exact absurd ‹cmpT 0 (nI 1) 0› nI1_ne) | (exact absurd nI_0 ‹cmpT 1 (nI 0) 0›) | (exact absurd ‹cmpF 1 (nI 1) 0› nI1_ne) | (show wp _ _ _ _ _ _ _ _ _ _ _ _; conv => whnf) | (simp (disch := omega) only [nI_add, nI_mul, setN_now, setN_put, nI_cl, Nat.add_zero]) | (refine hcall _ _ _ _ ?_; first | (refine r_isRouter hw.r1 (by omega) ?_) | fail))
    all_goals first
      | exact h
      | ((try clear hX hcall); (try clear h); simp (disch := omega) only [cmpT, cmpF, bI_eq0, bI_ne0, Classical.not_not, nI_toI, setN_now, nI_cl, alen20, Int32.toInt_zero, hw.s1, hw.t1, hw.r1, nI_add, nI_mul, takeL, setL, setN_put] at *; omega)
end REF19
end
section
/-! THE REFERENCE: share -/
def shaP (F : Fm) (k : Nat) (x : Int32) : Nat → Bool := fun j => decide (choF F (29 + 17 * k + 5) (nI j) = x)
def shareA (F : Fm) (v x : Int32) : Int32 := if ¬ iN v (cT F) then -1 else if ¬ iN x 32 then -2 else nI (cntB (shaP F (nn v) x) 100)
section REF20
variable {L : Nat} {xs : Nat → Int32} {f i k r q c j n B b w m : Nat} {x y v a z l name flow place : Int32} {s : St} {F G F' : Fm} {Q : Option MV → St → Prop}
set_option maxHeartbeats 4000000 in
set_option maxRecDepth 100000 in
theorem r_share (hw : WF F B) (h : Q (some (.inl (shareA F v x))) (setN s F)) : wpM L xs codT retT (f + 3) m_X10_share [.inr (10, 0), .inl v, .inl x] (setN s F) Q := by
  have t2 := hw.t2
  by_cases hv : iN v (cT F)
  · obtain ⟨k, hp, hpl⟩ := iN_nn hv (by omega)
    subst hp
    have en : nn (nI k) = k := nI_cl (by omega)
    by_cases hb : iN x 32
    · have e : shareA F (nI k) x = nI (cntB (shaP F k x) 100) := by unfold shareA; rw [if_neg (fun t => t hv), if_neg (fun t => t hb), en]
      rw [e] at h
      intro call hcall X hX; refine hX 1000 0 _ _ _ ?_
      repeat' (first | (intro hc) | (refine And.intro ?_ ?_) | (exact absurd nI_0 ‹cmpF 0 (nI 0) 0›) | (exact absurd ‹cmpT 0 (nI 1) 0› nI1_ne) | (exact absurd nI_0 ‹cmpT 1 (nI 0) 0›) | (exact absurd ‹cmpF 1 (nI 1) 0› nI1_ne) | (show wp _ _ _ _ _ _ _ _ _ _ _ _; conv => whnf) | (simp (disch := omega) only [nI_add, nI_mul, setN_now, setN_put, nI_cl, Nat.add_zero]) | (refine hcall _ _ _ _ ?_; first | (refine r_isSite hw.t1 (by omega) ?_) | (refine r_isIn ?_) | fail))
      all_goals (try ((try clear hX hcall); (try clear h); simp (disch := omega) only [cmpT, cmpF, bI_eq0, bI_ne0, Classical.not_not, nI_toI, setN_now, nI_cl, alen20, Int32.toInt_zero, hw.s1, hw.t1, hw.r1, nI_add, nI_mul, takeL, setL, setN_put] at *; omega))
      have loop : ∀ j, j ≤ 100 → X 28 [.inr (10, 0), .inl (nI k), .inl x, .inl (nI (cntB (shaP F k x) j)), .inl (nI j)] [] (setN s F) := by
        refine loopD 100 (fun j hj ih => ?_) ?_
        · clear h
          have hle := cntB_le (p := shaP F k x) j
          by_cases hm : choF F (29 + 17 * k + 5) (nI j) = x
          · rw [cntB_1 (p := shaP F k x) (n := j) (decide_eq_true hm)] at ih
            refine hX 1000 28 _ _ _ ?_
            repeat' (first | (intro hc) | (refine And.intro ?_ ?_) | (exact absurd nI_0 ‹cmpF 0 (nI 0) 0›) | (exact absurd ‹cmpT 0 (nI 1) 0› nI1_ne) | (exact absurd nI_0 ‹cmpT 1 (nI 0) 0›) | (exact absurd ‹cmpF 1 (nI 1) 0› nI1_ne) | (show wp _ _ _ _ _ _ _ _ _ _ _ _; conv => whnf) | (simp (disch := omega) only [nI_add, nI_mul, setN_now, setN_put, nI_cl, Nat.add_zero]) | (refine hcall _ _ _ _ ?_; first | (refine r_siteAt ?_) | (refine r_chosen (by omega) ?_) | fail))
            all_goals ((try clear hX hcall); (try clear h); simp (disch := omega) only [cmpT, cmpF, bI_eq0, bI_ne0, Classical.not_not, nI_toI, setN_now, nI_cl, alen20, Int32.toInt_zero, hw.s1, hw.t1, hw.r1, nI_add, nI_mul, takeL, setL, setN_put] at *)
            all_goals first
              | exact ih
              | omega
              | (exfalso; first | contradiction | omega)
          · rw [cntB_0 (p := shaP F k x) (n := j) (fun q => hm (of_decide_eq_true q))] at ih
            refine hX 1000 28 _ _ _ ?_
            repeat' (first | (intro hc) | (refine And.intro ?_ ?_) | (exact absurd nI_0 ‹cmpF 0 (nI 0) 0›) | (exact absurd ‹cmpT 0 (nI 1) 0› nI1_ne) | (exact absurd nI_0 ‹cmpT 1 (nI 0) 0›) | (exact absurd ‹cmpF 1 (nI 1) 0› nI1_ne) | (show wp _ _ _ _ _ _ _ _ _ _ _ _; conv => whnf) | (simp (disch := omega) only [nI_add, nI_mul, setN_now, setN_put, nI_cl, Nat.add_zero]) | (refine hcall _ _ _ _ ?_; first | (refine r_siteAt ?_) | (refine r_chosen (by omega) ?_) | fail))
            all_goals ((try clear hX hcall); (try clear h); simp (disch := omega) only [cmpT, cmpF, bI_eq0, bI_ne0, Classical.not_not, nI_toI, setN_now, nI_cl, alen20, Int32.toInt_zero, hw.s1, hw.t1, hw.r1, nI_add, nI_mul, takeL, setL, setN_put] at *)
            all_goals first
              | exact ih
              | omega
              | (exfalso; first | contradiction | omega)
        · refine hX 1000 28 _ _ _ ?_
          repeat' (first | (intro hc) | (refine And.intro ?_ ?_) | (exact absurd nI_0 ‹cmpF 0 (nI 0) 0›) | (exact absurd ‹cmpT 0 (nI 1) 0› nI1_ne) | (exact absurd nI_0 ‹cmpT 1 (nI 0) 0›) | (exact absurd ‹cmpF 1 (nI 1) 0› nI1_ne) | (show wp _ _ _ _ _ _ _ _ _ _ _ _; conv => whnf))
          all_goals first
            | exact h
            | ((try clear hX hcall); (try clear h); simp (disch := omega) only [cmpT, cmpF, bI_eq0, bI_ne0, Classical.not_not, nI_toI, setN_now, nI_cl, alen20, Int32.toInt_zero, hw.s1, hw.t1, hw.r1, nI_add, nI_mul, takeL, setL, setN_put] at *; omega)
      simp only [takeL, setL]
      exact loop 0 (by omega)
    · have e : shareA F (nI k) x = -2 := by unfold shareA; rw [if_neg (fun t => t hv), if_pos hb]
      rw [e] at h
      intro call hcall X hX; refine hX 1000 0 _ _ _ ?_
      repeat' (first | (intro hc) | (refine And.intro ?_ ?_) | (exact absurd nI_0 ‹cmpF 0 (nI 0) 0›) | (exact absurd ‹cmpT 0 (nI 1) 0› nI1_ne) | (exact absurd nI_0 ‹cmpT 1 (nI 0) 0›) | (exact absurd ‹cmpF 1 (nI 1) 0› nI1_ne) | (show wp _ _ _ _ _ _ _ _ _ _ _ _; conv => whnf) | (simp (disch := omega) only [nI_add, nI_mul, setN_now, setN_put, nI_cl, Nat.add_zero]) | (refine hcall _ _ _ _ ?_; first | (refine r_isSite hw.t1 (by omega) ?_) | (refine r_isIn ?_) | fail))
      all_goals first
        | exact h
        | ((try clear hX hcall); (try clear h); simp (disch := omega) only [cmpT, cmpF, bI_eq0, bI_ne0, Classical.not_not, nI_toI, setN_now, nI_cl, alen20, Int32.toInt_zero, hw.s1, hw.t1, hw.r1, nI_add, nI_mul, takeL, setL, setN_put] at *; omega)
  · have e : shareA F v x = -1 := by unfold shareA; rw [if_pos hv]
    rw [e] at h
    intro call hcall X hX; refine hX 1000 0 _ _ _ ?_
    repeat' (first | (intro hc) | (refine And.intro ?_ ?_) | (exact absurd nI_0 ‹cmpF 0 (nI 0) 0›) | (exact absurd ‹cmpT 0 (nI 1) 0› nI1_ne) | (exact absurd nI_0 ‹cmpT 1 (nI 0) 0›) | (exact absurd ‹cmpF 1 (nI 1) 0› nI1_ne) | (show wp _ _ _ _ _ _ _ _ _ _ _ _; conv => whnf) | (simp (disch := omega) only [nI_add, nI_mul, setN_now, setN_put, nI_cl, Nat.add_zero]) | (refine hcall _ _ _ _ ?_; first | (refine r_isSite hw.t1 (by omega) ?_) | fail))
    all_goals first
      | exact h
      | ((try clear hX hcall); (try clear h); simp (disch := omega) only [cmpT, cmpF, bI_eq0, bI_ne0, Classical.not_not, nI_toI, setN_now, nI_cl, alen20, Int32.toInt_zero, hw.s1, hw.t1, hw.r1, nI_add, nI_mul, takeL, setL, setN_put] at *; omega)
end REF20
end
section
/-! THE REFERENCE: copiesOf, site, endingNext, total -/
def copP (F : Fm) (r : Nat) (v : Int32) : Nat → Bool := fun p => decide (F (mA r p) = v)
def copN (F : Fm) (v : Int32) : Nat → Nat
  | 0 => 0
  | r + 1 => copN F v r + cntB (copP F r v) (cM F r)
def siteA (F : Fm) (v w : Int32) : Int32 := if ¬ iN v (cT F) then -1 else if ¬ iN w 8 then -2 else if w.toInt < 5 then F (29 + 17 * nn v + nn w) else if w.toInt = 5 then nI (homeF F (F (29 + 17 * nn v)) (F (29 + 17 * nn v + 1))) else if w.toInt = 6 then bI (upF F (nn v)) else nI (copN F v (cR F))
def firN (p : Nat → Bool) : Nat → Nat → Option Nat
  | 0, _ => none
  | n + 1, k => if p k = true then some k else firN p n (k + 1)
def ahdP (F : Fm) (m : Nat) : Nat → Bool := fun k => decide (aheadF F k m)
def nxtP (F : Fm) (v : Int32) : Nat → Bool := fun k => decide ((F 0).toInt < (F (29 + 17 * k + 4)).toInt ∧ nI (cntB (ahdP F k) (cT F)) = v)
def nextA (F : Fm) (v : Int32) : Int32 := if v.toInt < 0 then -2 else optI (firN (nxtP F v) (cT F) 0) (-5)
section REF21
variable {L : Nat} {xs : Nat → Int32} {f i k r q c j n B b w m : Nat} {x y v a z l name flow place : Int32} {s : St} {F G F' : Fm} {Q : Option MV → St → Prop}
set_option maxHeartbeats 4000000 in
set_option maxRecDepth 100000 in
theorem r_copiesOf (hw : WF F B) (h : Q (some (.inl (nI (copN F v (cR F))))) (setN s F)) : wpM L xs codT retT (f + 3) m_X10_copiesOf [.inr (10, 0), .inl v] (setN s F) Q := by
  have r2 := hw.r2
  intro call hcall X hX; refine hX 1000 0 _ _ _ ?_
  repeat' (first | (intro hc) | (refine And.intro ?_ ?_) | (exact absurd nI_0 ‹cmpF 0 (nI 0) 0›) | (exact absurd ‹cmpT 0 (nI 1) 0› nI1_ne) | (exact absurd nI_0 ‹cmpT 1 (nI 0) 0›) | (exact absurd ‹cmpF 1 (nI 1) 0› nI1_ne) | (show wp _ _ _ _ _ _ _ _ _ _ _ _; conv => whnf))
  have loop : ∀ j, j ≤ cR F → X 4 [.inr (10, 0), .inl v, .inl (nI (copN F v j)), .inl (nI j)] [] (setN s F) := by
    refine loopD (cR F) (fun j hj ih => ?_) ?_
    · clear h
      have wr := hw.router hj
      have wr1 := wr.1
      have wr5 := wr.2.1
      have ih2 : X 4 [.inr (10, 0), .inl v, .inl (nI (copN F v j + cntB (copP F j v) (cM F j))), .inl (nI (j + 1))] [] (setN s F) := ih
      clear ih
      refine hX 1000 4 _ _ _ ?_
      repeat' (first | (intro hc) | (refine And.intro ?_ ?_) | (exact absurd nI_0 ‹cmpF 0 (nI 0) 0›) | (exact absurd ‹cmpT 0 (nI 1) 0› nI1_ne) | (exact absurd nI_0 ‹cmpT 1 (nI 0) 0›) | (exact absurd ‹cmpF 1 (nI 1) 0› nI1_ne) | (show wp _ _ _ _ _ _ _ _ _ _ _ _; conv => whnf))
      all_goals (try ((try clear hX hcall); (try clear h); simp (disch := omega) only [cmpT, cmpF, bI_eq0, bI_ne0, Classical.not_not, nI_toI, setN_now, nI_cl, alen20, Int32.toInt_zero, hw.s1, hw.t1, hw.r1, nI_add, nI_mul, takeL, setL, setN_put] at *; omega))
      have lp : ∀ k, k ≤ cM F j → X 17 [.inr (10, 0), .inl v, .inl (nI (copN F v j + cntB (copP F j v) k)), .inl (nI j), .inl (nI k)] [] (setN s F) := by
        refine loopD (cM F j) (fun k hk ih => ?_) ?_
        · clear ih2
          have mk := mA_eq j k
          by_cases hm : F (mA j k) = v
          · rw [cntB_1 (p := copP F j v) (n := k) (decide_eq_true hm)] at ih
            refine hX 1000 17 _ _ _ ?_
            repeat' (first | (intro hc) | (refine And.intro ?_ ?_) | (exact absurd nI_0 ‹cmpF 0 (nI 0) 0›) | (exact absurd ‹cmpT 0 (nI 1) 0› nI1_ne) | (exact absurd nI_0 ‹cmpT 1 (nI 0) 0›) | (exact absurd ‹cmpF 1 (nI 1) 0› nI1_ne) | (show wp _ _ _ _ _ _ _ _ _ _ _ _; conv => whnf) | (rw [wr1]) | (simp (disch := omega) only [nI_add, nI_mul, setN_now, setN_put, nI_cl, Nat.add_zero]) | (refine hcall _ _ _ _ ?_; first | (refine r_mapsOf (by omega) ?_) | (refine r_ofMap (by omega) ?_) | fail))
            all_goals ((try clear hX hcall); (try clear h); (try simp (disch := omega) only [cmpT, cmpF, bI_eq0, bI_ne0, Classical.not_not, nI_toI, nI_cl, nI_inj, nI_add, nI_mul, nI_subI, takeL, setL, Int32.toInt_zero, Nat.add_zero, setN_now, alen20, (hw.router hj).1] at *))
            all_goals first
              | exact ih
              | omega
              | (exfalso; first | contradiction | omega)
          · rw [cntB_0 (p := copP F j v) (n := k) (fun q => hm (of_decide_eq_true q))] at ih
            refine hX 1000 17 _ _ _ ?_
            repeat' (first | (intro hc) | (refine And.intro ?_ ?_) | (exact absurd nI_0 ‹cmpF 0 (nI 0) 0›) | (exact absurd ‹cmpT 0 (nI 1) 0› nI1_ne) | (exact absurd nI_0 ‹cmpT 1 (nI 0) 0›) | (exact absurd ‹cmpF 1 (nI 1) 0› nI1_ne) | (show wp _ _ _ _ _ _ _ _ _ _ _ _; conv => whnf) | (rw [wr1]) | (simp (disch := omega) only [nI_add, nI_mul, setN_now, setN_put, nI_cl, Nat.add_zero]) | (refine hcall _ _ _ _ ?_; first | (refine r_mapsOf (by omega) ?_) | (refine r_ofMap (by omega) ?_) | fail))
            all_goals ((try clear hX hcall); (try clear h); (try simp (disch := omega) only [cmpT, cmpF, bI_eq0, bI_ne0, Classical.not_not, nI_toI, nI_cl, nI_inj, nI_add, nI_mul, nI_subI, takeL, setL, Int32.toInt_zero, Nat.add_zero, setN_now, alen20, (hw.router hj).1] at *))
            all_goals first
              | exact ih
              | omega
              | (exfalso; first | contradiction | omega)
        · refine hX 1000 17 _ _ _ ?_
          repeat' (first | (intro hc) | (refine And.intro ?_ ?_) | (exact absurd nI_0 ‹cmpF 0 (nI 0) 0›) | (exact absurd ‹cmpT 0 (nI 1) 0› nI1_ne) | (exact absurd nI_0 ‹cmpT 1 (nI 0) 0›) | (exact absurd ‹cmpF 1 (nI 1) 0› nI1_ne) | (show wp _ _ _ _ _ _ _ _ _ _ _ _; conv => whnf) | (rw [wr1]) | (simp (disch := omega) only [nI_add, nI_mul, setN_now, setN_put, nI_cl, Nat.add_zero]) | (refine hcall _ _ _ _ ?_; first | (refine r_mapsOf (by omega) ?_) | fail))
          all_goals ((try clear hX hcall); (try clear h); (try simp (disch := omega) only [cmpT, cmpF, bI_eq0, bI_ne0, Classical.not_not, nI_toI, nI_cl, nI_inj, nI_add, nI_mul, nI_subI, takeL, setL, Int32.toInt_zero, Nat.add_zero, setN_now, alen20, (hw.router hj).1] at *))
          all_goals first
            | exact ih2
            | omega
      simp only [takeL, setL]
      exact lp 0 (by omega)
    · refine hX 1000 4 _ _ _ ?_
      repeat' (first | (intro hc) | (refine And.intro ?_ ?_) | (exact absurd nI_0 ‹cmpF 0 (nI 0) 0›) | (exact absurd ‹cmpT 0 (nI 1) 0› nI1_ne) | (exact absurd nI_0 ‹cmpT 1 (nI 0) 0›) | (exact absurd ‹cmpF 1 (nI 1) 0› nI1_ne) | (show wp _ _ _ _ _ _ _ _ _ _ _ _; conv => whnf))
      all_goals first
        | exact h
        | ((try clear hX hcall); (try clear h); simp (disch := omega) only [cmpT, cmpF, bI_eq0, bI_ne0, Classical.not_not, nI_toI, setN_now, nI_cl, alen20, Int32.toInt_zero, hw.s1, hw.t1, hw.r1, nI_add, nI_mul, takeL, setL, setN_put] at *; omega)
  simp only [takeL, setL]
  exact loop 0 (by omega)
set_option maxHeartbeats 4000000 in
set_option maxRecDepth 100000 in
theorem r_site (hw : WF F B) (h : Q (some (.inl (siteA F v a))) (setN s F)) : wpM L xs codT retT (f + 6) m_X10_site [.inr (10, 0), .inl v, .inl a] (setN s F) Q := by
  have t2 := hw.t2
  by_cases hv : iN v (cT F)
  · obtain ⟨k, hp, hpl⟩ := iN_nn hv (by omega)
    subst hp
    have en : nn (nI k) = k := nI_cl (by omega)
    by_cases hb : iN a 8
    · obtain ⟨j, hq, hql⟩ := iN_nn hb (by omega)
      subst hq
      have ej : nn (nI j) = j := nI_cl (by omega)
      have e : siteA F (nI k) (nI j) = if (nI j).toInt < 5 then F (29 + 17 * k + j) else if (nI j).toInt = 5 then nI (homeF F (F (29 + 17 * k)) (F (29 + 17 * k + 1))) else if (nI j).toInt = 6 then bI (upF F k) else nI (copN F (nI k) (cR F)) := by unfold siteA; rw [if_neg (fun q => q hv), if_neg (fun q => q hb), en, ej]
      rw [e, nI_toI (by omega)] at h
      have hj : j = 0 ∨ j = 1 ∨ j = 2 ∨ j = 3 ∨ j = 4 ∨ j = 5 ∨ j = 6 ∨ j = 7 := by omega
      rcases hj with hj | hj | hj | hj | hj | hj | hj | hj <;> subst hj <;> (first | rw [if_pos (by omega)] at h | rw [if_neg (by omega), if_pos (by omega)] at h | rw [if_neg (by omega), if_neg (by omega), if_pos (by omega)] at h | rw [if_neg (by omega), if_neg (by omega), if_neg (by omega)] at h)
      all_goals
        intro call hcall X hX; refine hX 1000 0 _ _ _ ?_
        repeat' (first | (intro hc) | (refine And.intro ?_ ?_) | (exact absurd nI_0 ‹cmpF 0 (nI 0) 0›) | (exact absurd ‹cmpT 0 (nI 1) 0› nI1_ne) | (exact absurd nI_0 ‹cmpT 1 (nI 0) 0›) | (exact absurd ‹cmpF 1 (nI 1) 0› nI1_ne) | (show wp _ _ _ _ _ _ _ _ _ _ _ _; conv => whnf) | (simp (disch := omega) only [nI_add, nI_mul, setN_now, setN_put, nI_cl, Nat.add_zero]) | (refine hcall _ _ _ _ ?_; first | (refine r_isSite hw.t1 (by omega) ?_) | (refine r_ofSite (by omega) ?_) | (refine r_homeOfSite hw (by omega) ?_) | (refine r_isUp (by omega) ?_) | (refine r_copiesOf hw ?_) | fail))
        all_goals first
          | exact h
          | ((try clear hX hcall); (try clear h); simp (disch := omega) only [cmpT, cmpF, bI_eq0, bI_ne0, Classical.not_not, nI_toI, setN_now, nI_cl, alen20, Int32.toInt_zero, hw.s1, hw.t1, hw.r1, nI_add, nI_mul, takeL, setL, setN_put] at *; (try simp (disch := omega) only [ofN, nI_inj] at *); omega)
          | ((try clear hX hcall); (try clear h); simp (disch := omega) only [cmpT, cmpF, bI_eq0, bI_ne0, Classical.not_not, nI_toI, setN_now, nI_cl, alen20, Int32.toInt_zero, hw.s1, hw.t1, hw.r1, nI_add, nI_mul, takeL, setL, setN_put] at *; (try simp (disch := omega) only [ofN, nI_inj] at *); contradiction)
          | (refine bI_1 h ?_; exact bI_ne0.mp (by assumption))
          | (refine bI_0 h ?_; exact bI_eq0.mp (by assumption))
    · have e : siteA F (nI k) a = -2 := by unfold siteA; rw [if_neg (fun q => q hv), if_pos hb]
      rw [e] at h
      intro call hcall X hX; refine hX 1000 0 _ _ _ ?_
      repeat' (first | (intro hc) | (refine And.intro ?_ ?_) | (exact absurd nI_0 ‹cmpF 0 (nI 0) 0›) | (exact absurd ‹cmpT 0 (nI 1) 0› nI1_ne) | (exact absurd nI_0 ‹cmpT 1 (nI 0) 0›) | (exact absurd ‹cmpF 1 (nI 1) 0› nI1_ne) | (show wp _ _ _ _ _ _ _ _ _ _ _ _; conv => whnf) | (simp (disch := omega) only [nI_add, nI_mul, setN_now, setN_put, nI_cl, Nat.add_zero]) | (refine hcall _ _ _ _ ?_; first | (refine r_isSite hw.t1 (by omega) ?_) | (refine r_ofSite (by omega) ?_) | (refine r_homeOfSite hw (by omega) ?_) | (refine r_isUp (by omega) ?_) | (refine r_copiesOf hw ?_) | fail))
      all_goals first
        | exact h
        | ((try clear hX hcall); (try clear h); simp (disch := omega) only [cmpT, cmpF, bI_eq0, bI_ne0, Classical.not_not, nI_toI, setN_now, nI_cl, alen20, Int32.toInt_zero, hw.s1, hw.t1, hw.r1, nI_add, nI_mul, takeL, setL, setN_put] at *; omega)
        | exact absurd (iN_of (show a = Int32.ofNat 0 by assumption) (by decide) (by decide)) hb
        | exact absurd (iN_of (show a = Int32.ofNat 1 by assumption) (by decide) (by decide)) hb
        | exact absurd (iN_of (show a = Int32.ofNat 2 by assumption) (by decide) (by decide)) hb
        | exact absurd (iN_of (show a = Int32.ofNat 3 by assumption) (by decide) (by decide)) hb
        | exact absurd (iN_of (show a = Int32.ofNat 4 by assumption) (by decide) (by decide)) hb
        | exact absurd (iN_of (show a = Int32.ofNat 5 by assumption) (by decide) (by decide)) hb
        | exact absurd (iN_of (show a = Int32.ofNat 6 by assumption) (by decide) (by decide)) hb
        | exact absurd (iN_of (show a = Int32.ofNat 7 by assumption) (by decide) (by decide)) hb
  · have e : siteA F v a = -1 := by unfold siteA; rw [if_pos hv]
    rw [e] at h
    intro call hcall X hX; refine hX 1000 0 _ _ _ ?_
    repeat' (first | (intro hc) | (refine And.intro ?_ ?_) | (exact absurd nI_0 ‹cmpF 0 (nI 0) 0›) | (exact absurd ‹cmpT 0 (nI 1) 0› nI1_ne) | (exact absurd nI_0 ‹cmpT 1 (nI 0) 0›) | (exact absurd ‹cmpF 1 (nI 1) 0› nI1_ne) | (show wp _ _ _ _ _ _ _ _ _ _ _ _; conv => whnf) | (simp (disch := omega) only [nI_add, nI_mul, setN_now, setN_put, nI_cl, Nat.add_zero]) | (refine hcall _ _ _ _ ?_; first | (refine r_isSite hw.t1 (by omega) ?_) | fail))
    all_goals first
      | exact h
      | ((try clear hX hcall); (try clear h); simp (disch := omega) only [cmpT, cmpF, bI_eq0, bI_ne0, Classical.not_not, nI_toI, setN_now, nI_cl, alen20, Int32.toInt_zero, hw.s1, hw.t1, hw.r1, nI_add, nI_mul, takeL, setL, setN_put] at *; omega)
theorem firN_1 {p : Nat → Bool} (h : p k = true) : firN p (n + 1) k = some k := if_pos h
theorem firN_0 {p : Nat → Bool} (h : ¬ p k = true) : firN p (n + 1) k = firN p n (k + 1) := if_neg h
set_option maxHeartbeats 4000000 in
set_option maxRecDepth 100000 in
theorem r_endingNext (hw : WF F B) (h : Q (some (.inl (nextA F v))) (setN s F)) : wpM L xs codT retT (f + 5) m_X10_endingNext [.inr (10, 0), .inl v] (setN s F) Q := by
  have t2 := hw.t2
  by_cases hv : v.toInt < 0
  · have e : nextA F v = -2 := if_pos hv
    rw [e] at h
    intro call hcall X hX; refine hX 1000 0 _ _ _ ?_
    repeat' (first | (intro hc) | (refine And.intro ?_ ?_) | (exact absurd nI_0 ‹cmpF 0 (nI 0) 0›) | (exact absurd ‹cmpT 0 (nI 1) 0› nI1_ne) | (exact absurd nI_0 ‹cmpT 1 (nI 0) 0›) | (exact absurd ‹cmpF 1 (nI 1) 0› nI1_ne) | (show wp _ _ _ _ _ _ _ _ _ _ _ _; conv => whnf))
    all_goals first
      | exact h
      | ((try clear hX hcall); (try clear h); simp (disch := omega) only [cmpT, cmpF, bI_eq0, bI_ne0, Classical.not_not, nI_toI, setN_now, nI_cl, alen20, Int32.toInt_zero, hw.s1, hw.t1, hw.r1, nI_add, nI_mul, takeL, setL, setN_put] at *; omega)
  · have e : nextA F v = optI (firN (nxtP F v) (cT F) 0) (-5) := if_neg hv
    rw [e] at h
    intro call hcall X hX; refine hX 1000 0 _ _ _ ?_
    repeat' (first | (intro hc) | (refine And.intro ?_ ?_) | (exact absurd nI_0 ‹cmpF 0 (nI 0) 0›) | (exact absurd ‹cmpT 0 (nI 1) 0› nI1_ne) | (exact absurd nI_0 ‹cmpT 1 (nI 0) 0›) | (exact absurd ‹cmpF 1 (nI 1) 0› nI1_ne) | (show wp _ _ _ _ _ _ _ _ _ _ _ _; conv => whnf))
    all_goals (try ((try clear hX hcall); (try clear h); simp (disch := omega) only [cmpT, cmpF, bI_eq0, bI_ne0, Classical.not_not, nI_toI, setN_now, nI_cl, alen20, Int32.toInt_zero, hw.s1, hw.t1, hw.r1, nI_add, nI_mul, takeL, setL, setN_put] at *; omega))
    have loop : ∀ j k, k + j = cT F → Q (some (.inl (optI (firN (nxtP F v) j k) (-5)))) (setN s F) → X 9 [.inr (10, 0), .inl v, .inl (nI k)] [] (setN s F) := by
      clear h
      intro j
      induction j with
      | zero =>
        intro k hk h
        refine hX 1000 9 _ _ _ ?_
        repeat' (first | (intro hc) | (refine And.intro ?_ ?_) | (exact absurd nI_0 ‹cmpF 0 (nI 0) 0›) | (exact absurd ‹cmpT 0 (nI 1) 0› nI1_ne) | (exact absurd nI_0 ‹cmpT 1 (nI 0) 0›) | (exact absurd ‹cmpF 1 (nI 1) 0› nI1_ne) | (show wp _ _ _ _ _ _ _ _ _ _ _ _; conv => whnf))
        all_goals first
          | exact h
          | ((try clear hX hcall); (try clear h); simp (disch := omega) only [cmpT, cmpF, bI_eq0, bI_ne0, Classical.not_not, nI_toI, setN_now, nI_cl, alen20, Int32.toInt_zero, hw.s1, hw.t1, hw.r1, nI_add, nI_mul, takeL, setL, setN_put] at *; omega)
      | succ j ih =>
        intro k hk h
        have ih := ih (k + 1) (by omega)
        refine hX 1000 9 _ _ _ ?_
        repeat' (first | (intro hc) | (refine And.intro ?_ ?_) | (exact absurd nI_0 ‹cmpF 0 (nI 0) 0›) | (exact absurd ‹cmpT 0 (nI 1) 0› nI1_ne) | (exact absurd nI_0 ‹cmpT 1 (nI 0) 0›) | (exact absurd ‹cmpF 1 (nI 1) 0› nI1_ne) | (show wp _ _ _ _ _ _ _ _ _ _ _ _; conv => whnf))
        all_goals (try ((try clear hX hcall); (try clear h); simp (disch := omega) only [cmpT, cmpF, bI_eq0, bI_ne0, Classical.not_not, nI_toI, setN_now, nI_cl, alen20, Int32.toInt_zero, hw.s1, hw.t1, hw.r1, nI_add, nI_mul, takeL, setL, setN_put] at *; omega))
        simp only [takeL, setL]
        have lp : ∀ m, m ≤ cT F → X 24 [.inr (10, 0), .inl v, .inl (nI k), .inl (nI (cntB (ahdP F k) m)), .inl (nI m)] [] (setN s F) := by
          refine loopD (cT F) (fun m hm ih2 => ?_) ?_
          · clear ih h
            by_cases ha : aheadF F m k
            · rw [cntB_1 (p := ahdP F k) (n := m) (decide_eq_true ha)] at ih2
              refine hX 1000 24 _ _ _ ?_
              repeat' (first | (intro hc) | (refine And.intro ?_ ?_) | (exact absurd nI_0 ‹cmpF 0 (nI 0) 0›) | (exact absurd ‹cmpT 0 (nI 1) 0› nI1_ne) | (exact absurd nI_0 ‹cmpT 1 (nI 0) 0›) | (exact absurd ‹cmpF 1 (nI 1) 0› nI1_ne) | (show wp _ _ _ _ _ _ _ _ _ _ _ _; conv => whnf) | (simp (disch := omega) only [nI_add, nI_mul, setN_now, setN_put, nI_cl, Nat.add_zero]) | (refine hcall _ _ _ _ ?_; first | (refine r_isAhead (by omega) (by omega) ?_) | fail))
              all_goals first
                | exact ih2
                | exact absurd ha (bI_eq0.mp (by assumption))
                | (clear ha; (try clear hX hcall); (try clear h); simp (disch := omega) only [cmpT, cmpF, bI_eq0, bI_ne0, Classical.not_not, nI_toI, setN_now, nI_cl, alen20, Int32.toInt_zero, hw.s1, hw.t1, hw.r1, nI_add, nI_mul, takeL, setL, setN_put] at *; omega)
                | ((try clear hX hcall); (try clear h); simp (disch := omega) only [cmpT, cmpF, bI_eq0, bI_ne0, Classical.not_not, nI_toI, setN_now, nI_cl, alen20, Int32.toInt_zero, hw.s1, hw.t1, hw.r1, nI_add, nI_mul, takeL, setL, setN_put] at *; first | exact ih2 | contradiction)
            · rw [cntB_0 (p := ahdP F k) (n := m) (fun q => ha (of_decide_eq_true q))] at ih2
              refine hX 1000 24 _ _ _ ?_
              repeat' (first | (intro hc) | (refine And.intro ?_ ?_) | (exact absurd nI_0 ‹cmpF 0 (nI 0) 0›) | (exact absurd ‹cmpT 0 (nI 1) 0› nI1_ne) | (exact absurd nI_0 ‹cmpT 1 (nI 0) 0›) | (exact absurd ‹cmpF 1 (nI 1) 0› nI1_ne) | (show wp _ _ _ _ _ _ _ _ _ _ _ _; conv => whnf) | (simp (disch := omega) only [nI_add, nI_mul, setN_now, setN_put, nI_cl, Nat.add_zero]) | (refine hcall _ _ _ _ ?_; first | (refine r_isAhead (by omega) (by omega) ?_) | fail))
              all_goals first
                | exact ih2
                | exact absurd (bI_ne0.mp (by assumption)) ha
                | (clear ha; (try clear hX hcall); (try clear h); simp (disch := omega) only [cmpT, cmpF, bI_eq0, bI_ne0, Classical.not_not, nI_toI, setN_now, nI_cl, alen20, Int32.toInt_zero, hw.s1, hw.t1, hw.r1, nI_add, nI_mul, takeL, setL, setN_put] at *; omega)
                | ((try clear hX hcall); (try clear h); simp (disch := omega) only [cmpT, cmpF, bI_eq0, bI_ne0, Classical.not_not, nI_toI, setN_now, nI_cl, alen20, Int32.toInt_zero, hw.s1, hw.t1, hw.r1, nI_add, nI_mul, takeL, setL, setN_put] at *; first | exact ih2 | contradiction)
          · by_cases hn : nxtP F v k = true
            · rw [firN_1 hn] at h
              obtain ⟨h1, h2⟩ := of_decide_eq_true hn
              clear ih
              refine hX 1000 24 _ _ _ ?_
              repeat' (first | (intro hc) | (refine And.intro ?_ ?_) | (exact absurd nI_0 ‹cmpF 0 (nI 0) 0›) | (exact absurd ‹cmpT 0 (nI 1) 0› nI1_ne) | (exact absurd nI_0 ‹cmpT 1 (nI 0) 0›) | (exact absurd ‹cmpF 1 (nI 1) 0› nI1_ne) | (show wp _ _ _ _ _ _ _ _ _ _ _ _; conv => whnf) | (simp (disch := omega) only [nI_add, nI_mul, setN_now, setN_put, nI_cl, Nat.add_zero]) | (refine hcall _ _ _ _ ?_; first | (refine r_isRegistered (by omega) ?_) | fail))
              all_goals first
                | exact h
                | ((try clear hX hcall); (try clear h); simp (disch := omega) only [cmpT, cmpF, bI_eq0, bI_ne0, Classical.not_not, nI_toI, setN_now, nI_cl, alen20, Int32.toInt_zero, hw.s1, hw.t1, hw.r1, nI_add, nI_mul, takeL, setL, setN_put] at *; omega)
                | ((try clear hX hcall); (try clear h); simp (disch := omega) only [cmpT, cmpF, bI_eq0, bI_ne0, Classical.not_not, nI_toI, setN_now, nI_cl, alen20, Int32.toInt_zero, hw.s1, hw.t1, hw.r1, nI_add, nI_mul, takeL, setL, setN_put] at *; exfalso; first | contradiction | omega)
            · rw [firN_0 hn] at h
              have ih := ih h
              have hn2 : (F 0).toInt < (F (29 + 17 * k + 4)).toInt → ¬ nI (cntB (ahdP F k) (cT F)) = v := fun a b => hn (decide_eq_true ⟨a, b⟩)
              refine hX 1000 24 _ _ _ ?_
              repeat' (first | (intro hc) | (refine And.intro ?_ ?_) | (exact absurd nI_0 ‹cmpF 0 (nI 0) 0›) | (exact absurd ‹cmpT 0 (nI 1) 0› nI1_ne) | (exact absurd nI_0 ‹cmpT 1 (nI 0) 0›) | (exact absurd ‹cmpF 1 (nI 1) 0› nI1_ne) | (show wp _ _ _ _ _ _ _ _ _ _ _ _; conv => whnf) | (simp (disch := omega) only [nI_add, nI_mul, setN_now, setN_put, nI_cl, Nat.add_zero]) | (refine hcall _ _ _ _ ?_; first | (refine r_isRegistered (by omega) ?_) | fail))
              all_goals first
                | ((try clear hX hcall); (try clear h); simp (disch := omega) only [cmpT, cmpF, bI_eq0, bI_ne0, Classical.not_not, nI_toI, setN_now, nI_cl, alen20, Int32.toInt_zero, hw.s1, hw.t1, hw.r1, nI_add, nI_mul, takeL, setL, setN_put] at *; omega)
                | (clear h; simp (disch := omega) only [cmpT, cmpF, bI_eq0, bI_ne0, Classical.not_not, takeL, setL, nI_add] at *; first | exact ih | exact absurd (by assumption) (hn2 (by assumption)))
        exact lp 0 (by omega)
    simp only [takeL, setL]
    exact loop (cT F) 0 (by omega) h
end REF21
end
section
/-! choices: which slot is chosen; letters end at a place -/
def ctr (F : Fm) (b : Nat) (lo : Int32) (k : Nat) : Int := if F (b + 4 * k) = nI 1 ∧ F (b + 4 * k + 2) = lo then (F (b + 4 * k + 3)).toInt else 0
def ctS (F : Fm) (b : Nat) (lo : Int32) : Nat → Int
  | 0 => 0
  | k + 1 => ctS F b lo k + ctr F b lo k
section REF22
variable {i k r p q c j n B b : Nat} {x y v a z lo left name flow place : Int32} {F G : Fm}
theorem ctr_nn (hs : slotOk F (b + 4 * k)) : 0 ≤ ctr F b lo k ∧ ctr F b lo k ≤ 9 := by
  unfold ctr
  split
  · rename_i h
    have := hs.2 h.1
    omega
  · omega
theorem ctS_zero : ∀ k, (∀ j, j < k → F (b + 4 * j) = nI 1 → F (b + 4 * j + 2) ≠ lo) → ctS F b lo k = 0
  | 0, _ => rfl
  | k + 1, h => by
    show ctS F b lo k + ctr F b lo k = 0
    rw [ctS_zero k (fun j hj => h j (by omega))]
    unfold ctr
    rw [if_neg (fun q => h k (by omega) q.1 q.2)]
    rfl
theorem ctS_le (hs : ∀ j, j < 3 → slotOk F (b + 4 * j)) : ∀ k, k ≤ 3 → 0 ≤ ctS F b lo k ∧ ctS F b lo k ≤ 9 * (k : Int)
  | 0, _ => by
    show 0 ≤ (0 : Int) ∧ (0 : Int) ≤ _
    omega
  | k + 1, h => by
    have h1 := ctS_le hs k (by omega)
    have h2 := ctr_nn (lo := lo) (hs k (by omega))
    show 0 ≤ ctS F b lo k + ctr F b lo k ∧ ctS F b lo k + ctr F b lo k ≤ _
    omega
theorem nI01 : ¬ nI 0 = nI 1 := by decide
set_option maxHeartbeats 4000000 in
set_option maxRecDepth 100000 in
theorem ls_ok (hs : ∀ j, j < 3 → slotOk F (b + 4 * j)) : ∀ k, k ≤ 3 → ((∀ j, j < k → F (b + 4 * j) = nI 0) ∧ lsN F b k = (nI 10, nI 0)) ∨ ((0 ≤ (lsN F b k).1.toInt ∧ (lsN F b k).1.toInt < 10) ∧ (∃ j, j < k ∧ F (b + 4 * j) = nI 1) ∧ (∀ j, j < k → F (b + 4 * j) = nI 1 → (lsN F b k).1.toInt ≤ (F (b + 4 * j + 2)).toInt) ∧ (lsN F b k).2.toInt = ctS F b (lsN F b k).1 k ∧ 1 ≤ (lsN F b k).2.toInt) := by
  intro k
  induction k with
  | zero => intro _; exact Or.inl ⟨fun j hj => absurd hj (by omega), rfl⟩
  | succ k ih =>
    intro hk
    have hsk := hs k (by omega)
    have ih := ih (by omega)
    have hle := ctS_le (lo := (lsN F b k).1) hs k (by omega)
    by_cases hf : F (b + 4 * k) = nI 1
    · have hb := hsk.2 hf
      by_cases hp : (F (b + 4 * k + 2)).toInt ≤ (lsN F b k).1.toInt
      · by_cases hl : (F (b + 4 * k + 2)).toInt < (lsN F b k).1.toInt
        · have e : lsN F b (k + 1) = (F (b + 4 * k + 2), F (b + 4 * k + 3)) := by
            rw [lsN, if_pos ⟨hf, hp⟩, if_pos hl]
          have hall : ∀ j, j < k → F (b + 4 * j) = nI 1 → (F (b + 4 * k + 2)).toInt < (F (b + 4 * j + 2)).toInt := by
            intro j hj hfj
            rcases ih with ih | ih
            · exact absurd ((ih.1 j hj).symm.trans hfj) nI01
            · have := ih.2.2.1 j hj hfj
              omega
          refine Or.inr ⟨by rw [e]; exact hb.2.1, ⟨k, by omega, hf⟩, fun j hj hfj => ?_, ?_, by rw [e]; exact hb.2.2.1⟩
          · rw [e]
            by_cases ejk : j = k
            · subst ejk; exact Int.le_refl _
            · exact Int.le_of_lt (hall j (by omega) hfj)
          · rw [e]
            dsimp only
            show _ = ctS F b (F (b + 4 * k + 2)) k + ctr F b (F (b + 4 * k + 2)) k
            rw [ctS_zero k (fun j hj hfj q => by have := hall j hj hfj; rw [q] at this; omega)]
            unfold ctr
            rw [if_pos ⟨hf, rfl⟩]
            omega
        · have e : lsN F b (k + 1) = (F (b + 4 * k + 2), (lsN F b k).2 + F (b + 4 * k + 3)) := by
            rw [lsN, if_pos ⟨hf, hp⟩, if_neg hl]
          have e2 : F (b + 4 * k + 2) = (lsN F b k).1 := Int32.toInt_inj.mp (by omega)
          rcases ih with ih | ih
          · have e3 : (lsN F b k).1 = nI 10 := by rw [ih.2]
            rw [e3] at hl
            have : (nI 10).toInt = 10 := by decide
            omega
          · have hadd : ((lsN F b k).2 + F (b + 4 * k + 3)).toInt = (lsN F b k).2.toInt + (F (b + 4 * k + 3)).toInt := by
              rw [Int32.toInt_add]
              apply Int.bmod_eq_of_le <;> omega
            refine Or.inr ⟨by rw [e]; exact hb.2.1, ⟨k, by omega, hf⟩, fun j hj hfj => ?_, ?_, ?_⟩
            · rw [e, e2]
              by_cases ejk : j = k
              · subst ejk
                show (lsN F b j).1.toInt ≤ _
                omega
              · exact ih.2.2.1 j (by omega) hfj
            · rw [e, e2]
              show _ = ctS F b (lsN F b k).1 k + ctr F b (lsN F b k).1 k
              unfold ctr
              rw [if_pos ⟨hf, e2⟩]
              have := ih.2.2.2.1
              show ((lsN F b k).2 + F (b + 4 * k + 3)).toInt = _
              omega
            · rw [e]
              have := ih.2.2.2.2
              show 1 ≤ ((lsN F b k).2 + F (b + 4 * k + 3)).toInt
              omega
      · have e : lsN F b (k + 1) = lsN F b k := by
          rw [lsN, if_neg (fun q => hp q.2)]
        rcases ih with ih | ih
        · exfalso
          have e3 : (lsN F b k).1 = nI 10 := by rw [ih.2]
          rw [e3] at hp
          have : (nI 10).toInt = 10 := by decide
          have hb2 := hb.2.1
          omega
        · refine Or.inr ⟨by rw [e]; exact ih.1, ⟨k, by omega, hf⟩, fun j hj hfj => ?_, ?_, by rw [e]; exact ih.2.2.2.2⟩
          · rw [e]
            by_cases ejk : j = k
            · subst ejk; omega
            · exact ih.2.2.1 j (by omega) hfj
          · rw [e]
            show _ = ctS F b (lsN F b k).1 k + ctr F b (lsN F b k).1 k
            unfold ctr
            rw [if_neg (fun q => by have := q.2; rw [this] at hp; omega)]
            have := ih.2.2.2.1
            omega
    · have h0 : F (b + 4 * k) = nI 0 := by
        rcases hsk.1 with h | h
        · exact h
        · exact absurd h hf
      have e : lsN F b (k + 1) = lsN F b k := by
        rw [lsN, if_neg (fun q => hf q.1)]
      rcases ih with ih | ih
      · left
        refine ⟨fun j hj => ?_, by rw [e]; exact ih.2⟩
        by_cases ejk : j = k
        · subst ejk; exact h0
        · exact ih.1 j (by omega)
      · obtain ⟨j0, g1, g2⟩ := ih.2.1
        refine Or.inr ⟨by rw [e]; exact ih.1, ⟨j0, by omega, g2⟩, fun j hj hfj => ?_, ?_, by rw [e]; exact ih.2.2.2.2⟩
        · rw [e]
          by_cases ejk : j = k
          · subst ejk; exact absurd hfj hf
          · exact ih.2.2.1 j (by omega) hfj
        · rw [e]
          show _ = ctS F b (lsN F b k).1 k + ctr F b (lsN F b k).1 k
          unfold ctr
          rw [if_neg (fun q => hf q.1)]
          have := ih.2.2.2.1
          omega
set_option maxHeartbeats 4000000 in
set_option maxRecDepth 100000 in
theorem rem_ok (ha : 0 ≤ a.toInt) (hz : 1 ≤ z.toInt) : (a - a / z * z).toInt = a.toInt % z.toInt := by
  have h1 := a.toInt_lt
  have h2 := z.toInt_lt
  have e1 : (a / z).toInt = a.toInt / z.toInt := by
    rw [Int32.toInt_div, Int.tdiv_eq_ediv_of_nonneg ha]
    have g1 : 0 ≤ a.toInt / z.toInt := Int.ediv_nonneg ha (by omega)
    have g2 : a.toInt / z.toInt ≤ a.toInt := Int.ediv_le_self _ ha
    apply Int.bmod_eq_of_le <;> omega
  have g3 : 0 ≤ a.toInt % z.toInt := Int.emod_nonneg _ (by omega)
  have g4 : z.toInt * (a.toInt / z.toInt) + a.toInt % z.toInt = a.toInt := Int.mul_ediv_add_emod _ _
  have g5 : 0 ≤ z.toInt * (a.toInt / z.toInt) := Int.mul_nonneg (by omega) (Int.ediv_nonneg ha (by omega))
  have e2 : (a / z * z).toInt = z.toInt * (a.toInt / z.toInt) := by
    rw [Int32.toInt_mul, e1, Int.mul_comm]
    apply Int.bmod_eq_of_le <;> omega
  rw [Int32.toInt_sub, e2]
  have e3 : a.toInt - z.toInt * (a.toInt / z.toInt) = a.toInt % z.toInt := by omega
  rw [e3]
  apply Int.bmod_eq_of_le <;> omega
theorem cho_at (hs : ∀ j, j < 3 → slotOk F (b + 4 * j)) : ∀ n k left, k + n = 3 → 0 ≤ left.toInt → left.toInt < ctS F b lo 3 - ctS F b lo k → ∃ j, j < 3 ∧ F (b + 4 * j) = nI 1 ∧ choN F b lo n k left = F (b + 4 * j + 1) := by
  intro n
  induction n with
  | zero =>
    intro k left hk h0 h1
    have : k = 3 := by omega
    subst this
    omega
  | succ n ih =>
    intro k left hk h0 h1
    have hsk := hs k (by omega)
    have hle := ctS_le (lo := lo) hs 3 (by omega)
    have hle2 := ctS_le (lo := lo) hs k (by omega)
    have e1 : ctS F b lo (k + 1) = ctS F b lo k + ctr F b lo k := rfl
    unfold choN
    by_cases hc : F (b + 4 * k) = nI 1 ∧ F (b + 4 * k + 2) = lo
    · have e2 : ctr F b lo k = (F (b + 4 * k + 3)).toInt := if_pos hc
      have hb := hsk.2 hc.1
      have hsub : (left - F (b + 4 * k + 3)).toInt = left.toInt - (F (b + 4 * k + 3)).toInt := by
        rw [Int32.toInt_sub]
        apply Int.bmod_eq_of_le <;> omega
      rw [if_pos hc]
      by_cases hl : (left - F (b + 4 * k + 3)).toInt < 0
      · rw [if_pos hl]
        exact ⟨k, by omega, hc.1, rfl⟩
      · rw [if_neg hl]
        exact ih (k + 1) _ (by omega) (by omega) (by omega)
    · have e2 : ctr F b lo k = 0 := if_neg hc
      rw [if_neg hc]
      exact ih (k + 1) _ (by omega) h0 (by omega)
theorem cho_none (h0 : ∀ j, j < 3 → F (b + 4 * j) = nI 0) : ∀ n k left, k + n = 3 → choN F b lo n k left = -5 := by
  intro n
  induction n with
  | zero => intro k left _; rfl
  | succ n ih =>
    intro k left hk
    unfold choN
    rw [if_neg (fun q => nI01 ((h0 k (by omega)).symm.trans q.1))]
    exact ih (k + 1) left (by omega)
theorem choF_cases (hs : ∀ j, j < 3 → slotOk F (b + 4 * j)) (hf : 0 ≤ flow.toInt) : ((∀ j, j < 3 → F (b + 4 * j) = nI 0) ∧ choF F b flow = -5) ∨ ((∃ j, j < 3 ∧ F (b + 4 * j) = nI 1) ∧ ∃ j, j < 3 ∧ F (b + 4 * j) = nI 1 ∧ choF F b flow = F (b + 4 * j + 1)) := by
  rcases ls_ok hs 3 (by omega) with h | h
  · left
    refine ⟨h.1, ?_⟩
    unfold choF
    exact cho_none h.1 3 0 _ rfl
  · right
    refine ⟨h.2.1, ?_⟩
    unfold choF
    have hz : ¬ (lsN F b 3).2 = 0 := fun q => by
      have := h.2.2.2.2
      rw [q] at this
      have : (0 : Int32).toInt = 0 := rfl
      omega
    rw [if_neg hz]
    have hr := rem_ok hf h.2.2.2.2
    have g3 := Int.emod_nonneg flow.toInt (b := (lsN F b 3).2.toInt) (by have := h.2.2.2.2; omega)
    have g4 := Int.emod_lt_of_pos flow.toInt (b := (lsN F b 3).2.toInt) (by have := h.2.2.2.2; omega)
    have h4 := h.2.2.2.1
    refine cho_at hs 3 0 _ rfl (by omega) ?_
    show _ < ctS F b _ 3 - 0
    omega
end REF22
end
section
/-! letters: what sending leaves well, and that it tells a place -/
section REF23
variable {i k r p q c j n B b : Nat} {x y v a z lo left name flow place : Int32} {F G : Fm}
theorem ansN_up : ∀ n b, ansN F name n = some b → upF F b ∧ hasF F b name
  | 0, b, h => by cases h
  | n + 1, b, h => by
    unfold ansN at h
    split at h
    · rename_i hc
      cases h
      exact ⟨hc.1.1, hc.1.2.1⟩
    · exact ansN_up n b h
theorem slot_pl (hs : slotOk F (b + 4 * j)) (h : F (b + 4 * j) = nI 1) : 0 ≤ (F (b + 4 * j + 1)).toInt ∧ (F (b + 4 * j + 1)).toInt < 32 := (hs.2 h).1
set_option maxHeartbeats 4000000 in
set_option maxRecDepth 100000 in
theorem isAt_pos (hw : WF F B) (hk : k < cT F) (h : isAtF F k place) : 0 ≤ place.toInt ∧ place.toInt < 32 := by
  rcases h.1 with ⟨h1, h2⟩ | ⟨h1, h2⟩ | ⟨h1, h2⟩
  · have := ((hw.flag hk 0 (by omega)).2 h1).1
    rw [← h2]; exact this
  · have := ((hw.flag hk 1 (by omega)).2 h1).1
    rw [← h2]; exact this
  · have := ((hw.flag hk 2 (by omega)).2 h1).1
    rw [← h2]; exact this
set_option maxHeartbeats 4000000 in
set_option maxRecDepth 100000 in
theorem prox_nn (h : iN name 256) : 32 ≤ (proxF name).toInt ∧ (proxF name).toInt < 40 := by
  have e32 : (nI 32).toInt = 32 := by decide
  have e1 : (name / nI 32).toInt = name.toInt / 32 := by
    rw [Int32.toInt_div, e32, Int.tdiv_eq_ediv_of_nonneg h.1]
    apply Int.bmod_eq_of_le <;> omega
  unfold proxF
  rw [Int32.toInt_add, e1, e32]
  have : (32 + name.toInt / 32).bmod 4294967296 = 32 + name.toInt / 32 := by
    apply Int.bmod_eq_of_le <;> omega
  rw [this]
  omega
set_option maxHeartbeats 4000000 in
set_option maxRecDepth 100000 in
theorem asks_cho (hw : WF F B) (hr : r < cR F) (hf : 0 ≤ flow.toInt) (h1 : (asksF F r name).1 = true) : 0 ≤ (choF (asksF F r name).2 (mA r 0 + 4) flow).toInt ∧ (choF (asksF F r name).2 (mA r 0 + 4) flow).toInt < 32 := by
  have h4 := hw.r2
  obtain ⟨a1, a2, a3, a4⟩ := asks_ok (name := name) hw hr
  have a3 := a3 h1
  have wA := a1.router (r := r) (by rw [cR_of a2]; exact hr)
  obtain ⟨-, -, -, hs⟩ := wA.2.2.1 0 (by omega)
  have hwA := WF_asked (name := name) hw (show r < 4 by omega)
  have m0 := mA_eq r 0
  cases ho : ansF (askedF F r name) name with
  | none =>
    have e : asksF F r name = (false, askedF F r name) := by unfold asksF; rw [ho]
    rw [e] at h1
    cases h1
  | some k =>
    have e : asksF F r name = (true, newF (askedF F r name) r k) := by unfold asksF; rw [ho]
    have hup := (ansN_up _ _ ho).1
    have hk := ansF_lt ho
    have hrA : r < cR (askedF F r name) := by unfold cR; rw [asked_o (by omega) (by omega)]; exact hr
    have ht := hwA.t2
    obtain ⟨g1, g2, g3, g4⟩ := cut_ok (k := k) hwA hrA
    have hfl : ∃ j, j < 3 ∧ (asksF F r name).2 (mA r 0 + 4 + 4 * j) = nI 1 := by
      have ex : ∃ j, j < 3 ∧ askedF F r name (29 + 17 * k + 5 + 4 * j) = nI 1 := by
        rcases hup.2 with h | h | h
        · exact ⟨0, by omega, h⟩
        · exact ⟨1, by omega, h⟩
        · exact ⟨2, by omega, h⟩
      obtain ⟨j, hj, hq⟩ := ex
      refine ⟨j, hj, ?_⟩
      rw [e]
      show newF (askedF F r name) r k (mA r 0 + 4 + 4 * j) = nI 1
      rw [newF_eq, show mA r 0 + 4 + 4 * j = mA r 0 + (4 + 4 * j) by omega, fr_0 (by omega) (by omega) (by omega)]
      unfold newM
      rw [if_neg (by omega), if_neg (by omega), if_neg (by omega), if_neg (by omega), g3 _ (by omega), show 29 + 17 * k + 5 + (4 + 4 * j - 4) = 29 + 17 * k + 5 + 4 * j by omega]
      exact hq
    rcases choF_cases (b := mA r 0 + 4) hs hf with h | h
    · obtain ⟨j, hj, hq⟩ := hfl
      exact absurd ((h.1 j hj).symm.trans hq) nI01
    · obtain ⟨j, hj, hq, hv⟩ := h.2
      rw [hv]
      exact slot_pl (hs j hj) hq
set_option maxHeartbeats 4000000 in
set_option maxRecDepth 100000 in
theorem WF_mark (hw : WF F B) (hr : r < cR F) (hc : 0 < cM F r) : WF (fun i => if i = mA r 0 + 3 then nI 1 else F i) B := by
  have h4 := hw.r2
  have m0 := mA_eq r 0
  have hlo : ∀ i, i < 189 → (fun i => if i = mA r 0 + 3 then nI 1 else F i) i = F i := fun i hi => if_neg (by omega)
  refine WF_upd hw (fun i hi => hlo i (by omega)) (fun r' hr' => ?_)
  have hT : cT (fun i => if i = mA r 0 + 3 then nI 1 else F i) = cT F := by unfold cT; rw [hlo 2 (by omega)]
  have w := hw.router hr'
  have hC : cM (fun i => if i = mA r 0 + 3 then nI 1 else F i) r' = cM F r' := by unfold cM; rw [hlo _ (by omega)]
  have ne : ∀ q, mA r' q ≠ mA r 0 + 3 := fun q => by have := mA_eq r' q; omega
  refine ⟨by rw [hC, hlo _ (by omega)]; exact w.1, by rw [hC]; exact w.2.1, fun q hq => ?_, fun q1 q2 h1 h2 => ?_⟩
  · rw [hC] at hq
    obtain ⟨g1, g2, g3, g4⟩ := w.2.2.1 q hq
    have e0 : (fun i => if i = mA r 0 + 3 then nI 1 else F i) (mA r' q) = F (mA r' q) := if_neg (ne q)
    refine ⟨by rw [e0]; exact g1, by rw [e0, hT]; exact g2, ?_, fun j hj => slotOk_cg (fun i a b => if_neg (by have := mA_eq r' q; omega)) (g4 j hj)⟩
    show (if mA r' q + 3 = mA r 0 + 3 then nI 1 else F (mA r' q + 3)) = nI 0 ∨ (if mA r' q + 3 = mA r 0 + 3 then nI 1 else F (mA r' q + 3)) = nI 1
    split
    · exact Or.inr rfl
    · exact g3
  · rw [hC] at h1 h2
    show (if mA r' q1 = mA r 0 + 3 then nI 1 else F (mA r' q1)) = (if mA r' q2 = mA r 0 + 3 then nI 1 else F (mA r' q2)) → _
    rw [if_neg (ne q1), if_neg (ne q2)]
    exact w.2.2.2 q1 q2 h1 h2
set_option maxHeartbeats 4000000 in
set_option maxRecDepth 100000 in
theorem rest_ok (hG : WF G B) (hr : r < cR G) (hp : p < cM G r) (hn : iN name 256) (hf : 0 ≤ flow.toInt) : WF (restF G r p name flow).2 B ∧ (∀ i, i < 165 → (restF G r p name flow).2 i = G i) ∧ 0 ≤ (restF G r p name flow).1.toInt := by
  have h4 := hG.r2
  have m0 := mA_eq r 0
  have hU := WF_uses hG hr hp
  have uR : r < cR (usesF G r p) := by unfold cR; rw [uses_lo (by omega)]; exact hr
  have uC : cM (usesF G r p) r = cM G r := uses_c
  have uL : ∀ i, i < 165 → usesF G r p i = G i := fun i hi => uses_lo (by omega)
  unfold restF
  dsimp only
  generalize hU' : usesF G r p = U at *
  have wU := hU.router uR
  obtain ⟨m1, m2, -, -⟩ := wU.2.2.1 0 (by omega)
  have hV : WF (plusF U (165 + 6 * r + 5)) B := WF_cnt (r := r) hU (by omega) (fun i hi => plus_o (by omega))
  have vR : r < cR (plusF U (165 + 6 * r + 5)) := by unfold cR; rw [plus_o (by omega)]; exact uR
  have vC : cM (plusF U (165 + 6 * r + 5)) r = cM G r := by unfold cM; rw [plus_o (by omega)]; exact uC
  have hD := WF_drop hV vR (p := 0) (by omega)
  have dR : r < cR (dropsF (plusF U (165 + 6 * r + 5)) r 0) := by unfold cR; rw [drops_lo (by omega)]; exact vR
  have dL : ∀ i, i < 165 → dropsF (plusF U (165 + 6 * r + 5)) r 0 i = G i := fun i hi => by rw [drops_lo hi, plus_o (by omega), uL i hi]
  by_cases hA : isAtF U (nn (U (mA r 0))) (choF U (mA r 0 + 4) flow)
  · rw [if_pos hA]
    refine ⟨?_, ?_, (isAt_pos hU m2 hA).1⟩
    · dsimp only
      split
      · exact hU
      · exact WF_mark hU uR (by omega)
    · intro i hi
      dsimp only
      split
      · exact uL i hi
      · dsimp only
        rw [if_neg (by omega)]; exact uL i hi
  · rw [if_neg hA]
    obtain ⟨a1, a2, a3, a4⟩ := asks_ok (name := name) hD dR
    have ac := asks_cho (flow := flow) (name := name) hD dR hf
    generalize hAs : asksF (dropsF (plusF U (165 + 6 * r + 5)) r 0) r name = A at *
    obtain ⟨ab, aG⟩ := A
    cases ab with
    | true => exact ⟨a1, fun i hi => (a2 i hi).trans (dL i hi), (ac rfl).1⟩
    | false => exact ⟨WF_cnt (r := r) a1 (by omega) (fun i hi => plus_o (by omega)), fun i hi => by
        show plusF aG (165 + 6 * r + 4) i = _
        rw [plus_o (by omega)]
        exact (a2 i hi).trans (dL i hi), by have := prox_nn hn; show 0 ≤ (proxF name).toInt; omega⟩
set_option maxHeartbeats 4000000 in
set_option maxRecDepth 100000 in
theorem send_ok (hw : WF F B) (hr : r < cR F) (hn : iN name 256) (hf : 0 ≤ flow.toInt) : WF (sendF F r name flow).2 B ∧ (∀ i, i < 165 → (sendF F r name flow).2 i = F i) ∧ 0 ≤ (sendF F r name flow).1.toInt := by
  have h4 := hw.r2
  have hw1 : WF (plusF F (165 + 6 * r + 3)) B := WF_cnt (r := r) hw (by omega) (fun i hi => plus_o (by omega))
  have hr1 : r < cR (plusF F (165 + 6 * r + 3)) := by unfold cR; rw [plus_o (by omega)]; exact hr
  obtain ⟨e1, e2, e3⟩ := end_ok (cM (plusF F (165 + 6 * r + 3)) r) _ (Nat.le_refl _) hw1 hr1
  have hl1 : ∀ i, i < 165 → plusF F (165 + 6 * r + 3) i = F i := fun i hi => plus_o (by omega)
  have px := prox_nn hn
  unfold sendF
  dsimp only
  generalize hF1 : plusF F (165 + 6 * r + 3) = F1 at *
  generalize hF2 : endF r (cM F1 r) F1 = F2 at *
  have hr2 : r < cR F2 := by rw [cR_of e2]; exact hr1
  have hl2 : ∀ i, i < 165 → F2 i = F i := fun i hi => (e2 i hi).trans (hl1 i hi)
  obtain ⟨a1, a2, a3, a4⟩ := asks_ok (name := name) e1 hr2
  have aR : r < cR (asksF F2 r name).2 := by rw [cR_of a2]; exact hr2
  have aC := asked_cM (F := F2) (name := name) (r := r) (by omega)
  generalize hAs : asksF F2 r name = A at *
  obtain ⟨ab, aG⟩ := A
  have go : ∀ H p, WF H B → r < cR H → p < cM H r → (∀ i, i < 165 → H i = F i) → WF (restF H r p name flow).2 B ∧ (∀ i, i < 165 → (restF H r p name flow).2 i = F i) ∧ 0 ≤ (restF H r p name flow).1.toInt := by
    intro H p g1 g2 g3 g4
    obtain ⟨t1, t2, t3⟩ := rest_ok (name := name) (flow := flow) g1 g2 g3 hn hf
    exact ⟨t1, fun i hi => (t2 i hi).trans (g4 i hi), t3⟩
  have al : ∀ i, i < 165 → aG i = F i := fun i hi => (a2 i hi).trans (hl2 i hi)
  cases ho : takeN F2 r name (cM F2 r) with
  | none =>
    cases ab with
    | true => exact go aG 0 a1 aR (a3 rfl) al
    | false => exact ⟨WF_cnt (r := r) a1 (by omega) (fun i hi => plus_o (by omega)), fun i hi => by
        show plusF aG (165 + 6 * r + 4) i = _
        rw [plus_o (by omega)]
        exact al i hi, by show 0 ≤ (proxF name).toInt; omega⟩
  | some p =>
    have hp := takeN_lt _ _ ho
    dsimp only
    by_cases hm : F2 (mA r p + 3) = nI 1
    · rw [if_pos hm]
      cases ab with
      | true => exact go aG 0 a1 aR (a3 rfl) al
      | false =>
        have e4 : aG = askedF F2 r name := a4 rfl
        have hpA : p < cM aG r := by rw [e4, aC]; exact hp
        exact ⟨WF_cnt (r := r) (WF_drop a1 aR hpA) (by omega) (fun i hi => plus_o (by omega)), fun i hi => by
          show plusF (dropsF aG r p) (165 + 6 * r + 4) i = _
          rw [plus_o (by omega), drops_lo hi]
          exact al i hi, by show 0 ≤ (proxF name).toInt; omega⟩
    · rw [if_neg hm]
      exact go F2 p e1 hr2 hp hl2
end REF23
end
section
/-! THE REFERENCE: wouldReach, wouldAsk -/
def reachA (F : Fm) (v name flow x : Int32) : Int32 := if ¬ iN v (cR F) then -1 else if ¬ ((iN name 256 ∧ iN flow 100) ∧ iN x 100) then -2 else (sendF (putF F 0 (F 0 + x)) (nn v) name flow).1
def askA (F : Fm) (v name flow : Int32) : Int32 := if ¬ iN v (cR F) then -1 else if ¬ (iN name 256 ∧ iN flow 100) then -2 else (sendF F (nn v) name flow).2 (165 + 6 * nn v + 1) - F (165 + 6 * nn v + 1)
section REF24
variable {L : Nat} {xs : Nat → Int32} {f i k r p q c j n B b w m : Nat} {x y v a z l name flow place : Int32} {s : St} {F G F' : Fm} {Q : Option MV → St → Prop}
set_option maxHeartbeats 4000000 in
set_option maxRecDepth 100000 in
theorem WF_cgr (hw : WF F B) (h : ∀ i, 0 < i → i < 509 → G i = F i) (h0 : 0 ≤ (G 0).toInt ∧ (G 0).toInt ≤ 10200) : WF G B := by
  have e1 : cS G = cS F := by unfold cS; rw [h 1 (by omega) (by omega)]
  have e2 : cT G = cT F := by unfold cT; rw [h 2 (by omega) (by omega)]
  have e3 : cR G = cR F := by unfold cR; rw [h 3 (by omega) (by omega)]
  have hs := hw.s2
  have ht := hw.t2
  have hr := hw.r2
  refine ⟨?_, ?_, ?_, h0, ?_, fun k hk => ?_, fun k hk => ?_, fun r hk => ?_⟩
  · rw [h 1 (by omega) (by omega), e1]; exact hw.1
  · rw [h 2 (by omega) (by omega), e2]; exact hw.2.1
  · rw [h 3 (by omega) (by omega), e3]; exact hw.2.2.1
  · rw [h 4 (by omega) (by omega)]; exact hw.l
  · rw [e1] at hk
    have q := hw.server hk
    unfold WFserver at q ⊢
    rw [h (5 + 3 * k) (by omega) (by omega), h (5 + 3 * k + 1) (by omega) (by omega), h (5 + 3 * k + 2) (by omega) (by omega)]
    exact q
  · rw [e2] at hk
    have q := hw.site hk
    unfold WFsite at q ⊢
    rw [h (29 + 17 * k) (by omega) (by omega), h (29 + 17 * k + 1) (by omega) (by omega), h (29 + 17 * k + 2) (by omega) (by omega), h (29 + 17 * k + 3) (by omega) (by omega), h (29 + 17 * k + 4) (by omega) (by omega)]
    exact ⟨q.1, q.2.1, q.2.2.1, q.2.2.2.1, fun j hj => slotOk_cg (fun i h1 h2 => h i (by omega) (by omega)) (q.2.2.2.2 j hj)⟩
  · rw [e3] at hk
    have m0 := mA_eq r 0
    have m5 := mA_eq r 5
    exact WFrouter_cg e2 (h _ (by omega) (by omega)) (fun i a b => h i (by omega) (by omega)) (hw.router hk)
theorem WF_hour (hw : WF F B) (h0 : 0 ≤ x.toInt ∧ x.toInt ≤ 10200) : WF (putF F 0 x) B := WF_cgr hw (fun i h1 h2 => putF_ne _ _ (by omega)) (by rw [putF_at]; exact h0)
theorem back_F (hi : i < 509) : mixF F' (fun k => keepG G F 7 (509 * 7 + k)) i = F i := by
  unfold mixF keepG
  rw [if_pos hi]
  dsimp only
  rw [if_pos (by omega), show 509 * 7 + i - 509 * 7 = i by omega]
theorem keep_lo (hi : i < 3563) : keepG G F 7 i = G i := by
  unfold keepG
  rw [if_neg (by omega)]
theorem add_hour (h1 : 0 ≤ a.toInt ∧ a.toInt ≤ 10000) (h2 : 0 ≤ x.toInt ∧ x.toInt ≤ 100) : (a + x).toInt = a.toInt + x.toInt := by
  rw [Int32.toInt_add]
  apply Int.bmod_eq_of_le <;> omega
theorem iN_let (h : iN name 256 ∧ iN flow 100) : (0 ≤ name.toInt ∧ name.toInt ≤ 255) ∧ 0 ≤ flow.toInt ∧ flow.toInt ≤ 99 := by omega
theorem iN_nlet (h : ¬ (iN name 256 ∧ iN flow 100)) : ¬ ((0 ≤ name.toInt ∧ name.toInt ≤ 255) ∧ 0 ≤ flow.toInt ∧ flow.toInt ≤ 99) := by omega
set_option maxHeartbeats 4000000 in
set_option maxRecDepth 100000 in
theorem r_wouldReach (hw : WF F B) (hh : (F 0).toInt ≤ 9999) (h : ∀ G' F', (∀ i, i < 509 → F' i = F i) → (∀ i, i < 3563 → G' i = G i) → Q (some (.inl (reachA F v name flow x))) (setN (setK s G') F')) : wpM L xs codT retT (f + 8) m_X10_wouldReach [.inr (10, 0), .inl v, .inl name, .inl flow, .inl x] (setN (setK s G) F) Q := by
  have r2 := hw.r2
  have hh0 := hw.h
  by_cases hv : iN v (cR F)
  · obtain ⟨r, hp, hpl⟩ := iN_nn hv (by omega)
    subst hp
    have en : nn (nI r) = r := nI_cl (by omega)
    by_cases hb : (iN name 256 ∧ iN flow 100) ∧ iN x 100
    · have e : reachA F (nI r) name flow x = (sendF (putF F 0 (F 0 + x)) r name flow).1 := by unfold reachA; rw [if_neg (fun q => q hv), if_neg (fun q => q hb), en]
      rw [e] at h
      have hl := iN_let hb.1
      have hx := hb.2
      have ea := add_hour (x := x) (a := F 0) (by omega) (by omega)
      have hw2 : WF (putF F 0 (F 0 + x)) B := WF_hour hw (by omega)
      have hr2 : r < cR (putF F 0 (F 0 + x)) := by unfold cR; rw [putF_ne _ _ (by omega)]; exact hpl
      have h := h _ _ (fun i hi => back_F (G := G) (F' := (sendF (putF F 0 (F 0 + x)) r name flow).2) hi) (fun i hi => keep_lo (F := F) hi)
      intro call hcall X hX; refine hX 1000 0 _ _ _ ?_
      repeat' (first | (intro hc) | (refine And.intro ?_ ?_) | (exact absurd nI_0 ‹cmpF 0 (nI 0) 0›) | (exact absurd ‹cmpT 0 (nI 1) 0› nI1_ne) | (exact absurd nI_0 ‹cmpT 1 (nI 0) 0›) | (exact absurd ‹cmpF 1 (nI 1) 0› nI1_ne) | (show wp _ _ _ _ _ _ _ _ _ _ _ _; conv => whnf) | (simp (disch := omega) only [nI_add, nI_mul, setN_now, setN_put, nI_cl, Nat.add_zero]) | (refine hcall _ _ _ _ ?_; first | (refine r_isRouter hw.r1 (by omega) ?_) | (refine r_isLetter ?_) | (refine r_isIn ?_) | (refine r_keeps (by omega) ?_) | (refine r_sends hw2 hr2 ?_) | (refine r_brings (by omega) ?_) | fail))
      all_goals first
        | exact h
        | (clear h; (try clear hX hcall); (try clear h); simp (disch := omega) only [cmpT, cmpF, bI_eq0, bI_ne0, Classical.not_not, nI_toI, setN_now, nI_cl, alen20, Int32.toInt_zero, hw.s1, hw.t1, hw.r1, nI_add, nI_mul, takeL, setL, setN_put] at *; first | omega | contradiction)
    · have e : reachA F (nI r) name flow x = -2 := by unfold reachA; rw [if_neg (fun q => q hv), if_pos hb]
      rw [e] at h
      have h := h G F (fun _ _ => rfl) (fun _ _ => rfl)
      intro call hcall X hX; refine hX 1000 0 _ _ _ ?_
      repeat' (first | (intro hc) | (refine And.intro ?_ ?_) | (exact absurd nI_0 ‹cmpF 0 (nI 0) 0›) | (exact absurd ‹cmpT 0 (nI 1) 0› nI1_ne) | (exact absurd nI_0 ‹cmpT 1 (nI 0) 0›) | (exact absurd ‹cmpF 1 (nI 1) 0› nI1_ne) | (show wp _ _ _ _ _ _ _ _ _ _ _ _; conv => whnf) | (simp (disch := omega) only [nI_add, nI_mul, setN_now, setN_put, nI_cl, Nat.add_zero]) | (refine hcall _ _ _ _ ?_; first | (refine r_isRouter hw.r1 (by omega) ?_) | (refine r_isLetter ?_) | (refine r_isIn ?_) | fail))
      all_goals first
        | exact h
        | ((try clear hX hcall); (try clear h); simp (disch := omega) only [cmpT, cmpF, bI_eq0, bI_ne0, Classical.not_not, nI_toI, setN_now, nI_cl, alen20, Int32.toInt_zero, hw.s1, hw.t1, hw.r1, nI_add, nI_mul, takeL, setL, setN_put] at *; first | omega | contradiction)
        | (exfalso; clear h; simp only [cmpT, cmpF, bI_eq0, bI_ne0, Classical.not_not] at *; (try simp (disch := omega) only [nI_toI] at *); omega)
  · have e : reachA F v name flow x = -1 := by unfold reachA; rw [if_pos hv]
    rw [e] at h
    have h := h G F (fun _ _ => rfl) (fun _ _ => rfl)
    intro call hcall X hX; refine hX 1000 0 _ _ _ ?_
    repeat' (first | (intro hc) | (refine And.intro ?_ ?_) | (exact absurd nI_0 ‹cmpF 0 (nI 0) 0›) | (exact absurd ‹cmpT 0 (nI 1) 0› nI1_ne) | (exact absurd nI_0 ‹cmpT 1 (nI 0) 0›) | (exact absurd ‹cmpF 1 (nI 1) 0› nI1_ne) | (show wp _ _ _ _ _ _ _ _ _ _ _ _; conv => whnf) | (simp (disch := omega) only [nI_add, nI_mul, setN_now, setN_put, nI_cl, Nat.add_zero]) | (refine hcall _ _ _ _ ?_; first | (refine r_isRouter hw.r1 (by omega) ?_) | fail))
    all_goals first
      | exact h
      | ((try clear hX hcall); (try clear h); simp (disch := omega) only [cmpT, cmpF, bI_eq0, bI_ne0, Classical.not_not, nI_toI, setN_now, nI_cl, alen20, Int32.toInt_zero, hw.s1, hw.t1, hw.r1, nI_add, nI_mul, takeL, setL, setN_put] at *; omega)
set_option maxHeartbeats 4000000 in
set_option maxRecDepth 100000 in
theorem r_wouldAsk (hw : WF F B) (hh : (F 0).toInt ≤ 9999) (h : ∀ G' F', (∀ i, i < 509 → F' i = F i) → (∀ i, i < 3563 → G' i = G i) → Q (some (.inl (askA F v name flow))) (setN (setK s G') F')) : wpM L xs codT retT (f + 8) m_X10_wouldAsk [.inr (10, 0), .inl v, .inl name, .inl flow] (setN (setK s G) F) Q := by
  have r2 := hw.r2
  have hh0 := hw.h
  by_cases hv : iN v (cR F)
  · obtain ⟨r, hp, hpl⟩ := iN_nn hv (by omega)
    subst hp
    have en : nn (nI r) = r := nI_cl (by omega)
    by_cases hb : iN name 256 ∧ iN flow 100
    · have e : askA F (nI r) name flow = (sendF F r name flow).2 (165 + 6 * r + 1) - F (165 + 6 * r + 1) := by unfold askA; rw [if_neg (fun q => q hv), if_neg (fun q => q hb), en]
      rw [e] at h
      have hl := iN_let hb
      have hpos := (send_ok (flow := flow) hw hpl hb.1 hb.2.1).2.2
      have h := h _ _ (fun i hi => back_F (G := G) (F' := (sendF F r name flow).2) hi) (fun i hi => keep_lo (F := F) hi)
      intro call hcall X hX; refine hX 1000 0 _ _ _ ?_
      repeat' (first | (intro hc) | (refine And.intro ?_ ?_) | (exact absurd nI_0 ‹cmpF 0 (nI 0) 0›) | (exact absurd ‹cmpT 0 (nI 1) 0› nI1_ne) | (exact absurd nI_0 ‹cmpT 1 (nI 0) 0›) | (exact absurd ‹cmpF 1 (nI 1) 0› nI1_ne) | (show wp _ _ _ _ _ _ _ _ _ _ _ _; conv => whnf) | (simp (disch := omega) only [nI_add, nI_mul, setN_now, setN_put, nI_cl, Nat.add_zero]) | (refine hcall _ _ _ _ ?_; first | (refine r_isRouter hw.r1 (by omega) ?_) | (refine r_isLetter ?_) | (refine r_isIn ?_) | (refine r_keeps (by omega) ?_) | (refine r_routerAt ?_) | (refine r_sends hw hpl ?_) | (refine r_brings (by omega) ?_) | fail))
      all_goals first
        | exact h
        | (clear h; (try clear hX hcall); (try clear h); simp (disch := omega) only [cmpT, cmpF, bI_eq0, bI_ne0, Classical.not_not, nI_toI, setN_now, nI_cl, alen20, Int32.toInt_zero, hw.s1, hw.t1, hw.r1, nI_add, nI_mul, takeL, setL, setN_put] at *; first | omega | contradiction)
    · have e : askA F (nI r) name flow = -2 := by unfold askA; rw [if_neg (fun q => q hv), if_pos hb]
      rw [e] at h
      have hl := iN_nlet hb
      have h := h G F (fun _ _ => rfl) (fun _ _ => rfl)
      intro call hcall X hX; refine hX 1000 0 _ _ _ ?_
      repeat' (first | (intro hc) | (refine And.intro ?_ ?_) | (exact absurd nI_0 ‹cmpF 0 (nI 0) 0›) | (exact absurd ‹cmpT 0 (nI 1) 0› nI1_ne) | (exact absurd nI_0 ‹cmpT 1 (nI 0) 0›) | (exact absurd ‹cmpF 1 (nI 1) 0› nI1_ne) | (show wp _ _ _ _ _ _ _ _ _ _ _ _; conv => whnf) | (simp (disch := omega) only [nI_add, nI_mul, setN_now, setN_put, nI_cl, Nat.add_zero]) | (refine hcall _ _ _ _ ?_; first | (refine r_isRouter hw.r1 (by omega) ?_) | (refine r_isLetter ?_) | (refine r_isIn ?_) | fail))
      all_goals first
        | exact h
        | ((try clear hX hcall); (try clear h); simp (disch := omega) only [cmpT, cmpF, bI_eq0, bI_ne0, Classical.not_not, nI_toI, setN_now, nI_cl, alen20, Int32.toInt_zero, hw.s1, hw.t1, hw.r1, nI_add, nI_mul, takeL, setL, setN_put] at *; first | omega | contradiction)
  · have e : askA F v name flow = -1 := by unfold askA; rw [if_pos hv]
    rw [e] at h
    have h := h G F (fun _ _ => rfl) (fun _ _ => rfl)
    intro call hcall X hX; refine hX 1000 0 _ _ _ ?_
    repeat' (first | (intro hc) | (refine And.intro ?_ ?_) | (exact absurd nI_0 ‹cmpF 0 (nI 0) 0›) | (exact absurd ‹cmpT 0 (nI 1) 0› nI1_ne) | (exact absurd nI_0 ‹cmpT 1 (nI 0) 0›) | (exact absurd ‹cmpF 1 (nI 1) 0› nI1_ne) | (show wp _ _ _ _ _ _ _ _ _ _ _ _; conv => whnf) | (simp (disch := omega) only [nI_add, nI_mul, setN_now, setN_put, nI_cl, Nat.add_zero]) | (refine hcall _ _ _ _ ?_; first | (refine r_isRouter hw.r1 (by omega) ?_) | fail))
    all_goals first
      | exact h
      | ((try clear hX hcall); (try clear h); simp (disch := omega) only [cmpT, cmpF, bI_eq0, bI_ne0, Classical.not_not, nI_toI, setN_now, nI_cl, alen20, Int32.toInt_zero, hw.s1, hw.t1, hw.r1, nI_add, nI_mul, takeL, setL, setN_put] at *; omega)
end REF24
end
section
/-! THE TEXT: how it is read -/
def isDg (T : Nat → Nat) (n p : Nat) : Bool := decide (p < n ∧ 48 ≤ T p ∧ T p ≤ 57)
def numG (T : Nat → Nat) (n : Nat) : Nat → Nat → Nat → Nat × Nat
  | 0, v, p => (v, p)
  | k + 1, v, p => if 0 < v ∧ isDg T n p = true then numG T n k (10 * v + T p - 48) (p + 1) else (v, p)
def numF (T : Nat → Nat) (n p : Nat) : Nat × Nat := numG T n 2 (T p - 48) (p + 1)
def numR (T : Nat → Nat) (n p lo hi : Nat) : Nat ⊕ (Nat × Nat) := if isDg T n p = true then (if lo ≤ (numF T n p).1 ∧ (numF T n p).1 ≤ hi then .inr (numF T n p) else .inl p) else .inl p
def sgnB (T : Nat → Nat) (n p x : Nat) : Bool := decide (p < n ∧ T p = x)
def letR (T : Nat → Nat) (n p : Nat) : Nat ⊕ ((Nat × Nat × Nat) × Nat) := match numR T n p 0 3 with
  | .inl q => .inl q
  | .inr (a, p1) => if sgnB T n p1 110 = true then (match numR T n (p1 + 1) 0 255 with
    | .inl q => .inl q
    | .inr (b, p2) => if sgnB T n p2 102 = true then (match numR T n (p2 + 1) 0 99 with
      | .inl q => .inl q
      | .inr (c, p3) => .inr ((a, b, c), p3)) else .inl p2) else .inl p1
def oneR (T : Nat → Nat) (n p t lo hi : Nat) : Nat ⊕ ((Nat × Nat × Nat × Nat) × Nat) := match numR T n (p + 1) lo hi with
  | .inl q => .inl q
  | .inr (a, p1) => if sgnB T n p1 59 = true then .inr ((t, a, 0, 0), p1 + 1) else .inl p1
def actR (T : Nat → Nat) (n p : Nat) : Nat ⊕ ((Nat × Nat × Nat × Nat) × Nat) :=
  if sgnB T n p 115 = true then (match letR T n (p + 1) with
    | .inl q => .inl q
    | .inr ((a, b, c), p1) => if sgnB T n p1 59 = true then .inr ((115, a, b, c), p1 + 1) else .inl p1)
  else if sgnB T n p 116 = true then oneR T n p 116 1 99
  else if sgnB T n p 114 = true then oneR T n p 114 0 7
  else if sgnB T n p 117 = true then oneR T n p 117 0 7
  else .inl p
/-- a store whose model has these fields from 6 on -/
def setA (s : St) (u : Fm) : St := (fun a b d => if a = 10 ∧ b = 0 ∧ 6 ≤ d then u d else s.1 a b d, s.2)
/-- the text of a store -/
def txtR (s : St) (T : Nat → Nat) (n : Nat) : Prop := (∀ i, i < n → s.1 23 0 i = nI (T i)) ∧ s.1 10 0 5 = nI n ∧ n ≤ 80 ∧ ∀ i, T i < 128
section REF25
variable {L : Nat} {xs : Nat → Int32} {f i k r p q c j n B b w m lo hi : Nat} {x y v a z l name flow place : Int32} {s : St} {F G F' u : Fm} {T : Nat → Nat} {Q : Option MV → St → Prop}
theorem setA_x (h : 6 ≤ k) : (setA s u).1 10 0 k = u k := if_pos ⟨rfl, rfl, h⟩
theorem setA_y (h : k < 6) : (setA s u).1 10 0 k = s.1 10 0 k := if_neg (fun q => by omega)
theorem setA_o {a b d : Nat} (h : a ≠ 10) : (setA s u).1 a b d = s.1 a b d := if_neg (fun q => by omega)
theorem setA_put (h : 6 ≤ k) : putV (setA s u) 10 0 k x = setA s (putF u k x) := by
  unfold setA putV putF
  apply Prod.ext
  · funext a b d
    show (if a = 10 ∧ b = 0 ∧ d = k then x else if a = 10 ∧ b = 0 ∧ 6 ≤ d then u d else s.1 a b d) = (if a = 10 ∧ b = 0 ∧ 6 ≤ d then (if d = k then x else u d) else s.1 a b d)
    by_cases h1 : a = 10 <;> by_cases h2 : b = 0 <;> simp [h1, h2]
    by_cases h3 : d = k
    · subst h3; simp [h]
    · simp [h3]
  · rfl
theorem alen23 : alen 23 = 80 := rfl
theorem putF_putF {i : Nat} : putF (putF u i x) i y = putF u i y := by
  funext j
  simp only [putF]
  split <;> rfl
theorem isDg_1 (h : isDg T n p = true) : p < n ∧ 48 ≤ T p ∧ T p ≤ 57 := of_decide_eq_true h
theorem isDg_0 (h : ¬ isDg T n p = true) : ¬ (p < n ∧ 48 ≤ T p ∧ T p ≤ 57) := fun q => h (decide_eq_true q)
set_option maxHeartbeats 4000000 in
set_option maxRecDepth 100000 in
theorem r_isDigitHere (ht : txtR s T n) (hp : u 6 = nI p) (hp8 : p ≤ 80) (h : Q (some (.inl (bI (isDg T n p = true)))) (setA s u)) : wpM L xs codT retT (f + 2) m_X10_isDigitHere [.inr (10, 0)] (setA s u) Q := by
  obtain ⟨hT, hn, h8, hB⟩ := ht
  have hTp := hB p
  by_cases hd : isDg T n p = true
  · have e : bI (isDg T n p = true) = nI 1 := if_pos hd
    rw [e] at h
    obtain ⟨d1, d2, d3⟩ := isDg_1 hd
    intro call hcall X hX; refine hX 1000 0 _ _ _ ?_
    repeat' (first | (intro hc) | (refine And.intro ?_ ?_) | (exact absurd nI_0 ‹cmpF 0 (nI 0) 0›) | (exact absurd ‹cmpT 0 (nI 1) 0› nI1_ne) | (exact absurd nI_0 ‹cmpT 1 (nI 0) 0›) | (exact absurd ‹cmpF 1 (nI 1) 0› nI1_ne) | (show wp _ _ _ _ _ _ _ _ _ _ _ _; conv => whnf) | (simp (disch := omega) only [setA_x, setA_y, setA_o, hp, hn, hT, nI_cl]) | (simp (disch := omega) only [nI_add, nI_mul, setN_now, setN_put, nI_cl, Nat.add_zero]) | (refine hcall _ _ _ _ ?_; first | (refine r_isIn ?_) | fail))
    all_goals first
      | exact h
      | (clear hX hcall h e hd hB; simp (disch := omega) only [cmpT, cmpF, bI_eq0, bI_ne0, Classical.not_not, nI_toI, alen23, setA_x, setA_y, setA_o, hp, hn, hT, nI_cl] at *; omega)
  · have e : bI (isDg T n p = true) = nI 0 := if_neg hd
    rw [e] at h
    have d1 := isDg_0 hd
    intro call hcall X hX; refine hX 1000 0 _ _ _ ?_
    by_cases hpn : p < n
    · repeat' (first | (intro hc) | (refine And.intro ?_ ?_) | (exact absurd nI_0 ‹cmpF 0 (nI 0) 0›) | (exact absurd ‹cmpT 0 (nI 1) 0› nI1_ne) | (exact absurd nI_0 ‹cmpT 1 (nI 0) 0›) | (exact absurd ‹cmpF 1 (nI 1) 0› nI1_ne) | (show wp _ _ _ _ _ _ _ _ _ _ _ _; conv => whnf) | (simp (disch := omega) only [setA_x, setA_y, setA_o, hp, hn, hT, nI_cl]) | (simp (disch := omega) only [nI_add, nI_mul, setN_now, setN_put, nI_cl, Nat.add_zero]) | (refine hcall _ _ _ _ ?_; first | (refine r_isIn ?_) | fail))
      all_goals first
        | exact h
        | (clear hX hcall h e hd hB; simp (disch := omega) only [cmpT, cmpF, bI_eq0, bI_ne0, Classical.not_not, nI_toI, alen23, setA_x, setA_y, setA_o, hp, hn, hT, nI_cl] at *; omega)
    · repeat' (first | (intro hc) | (refine And.intro ?_ ?_) | (exact absurd nI_0 ‹cmpF 0 (nI 0) 0›) | (exact absurd ‹cmpT 0 (nI 1) 0› nI1_ne) | (exact absurd nI_0 ‹cmpT 1 (nI 0) 0›) | (exact absurd ‹cmpF 1 (nI 1) 0› nI1_ne) | (show wp _ _ _ _ _ _ _ _ _ _ _ _; conv => whnf) | (simp (disch := omega) only [setA_x, setA_y, setA_o, hp, hn, hT, nI_cl]) | (simp (disch := omega) only [nI_add, nI_mul, setN_now, setN_put, nI_cl, Nat.add_zero]) | (refine hcall _ _ _ _ ?_; first | (refine r_isIn ?_) | fail))
      all_goals first
        | exact h
        | (clear hX hcall h e hd hB; simp (disch := omega) only [cmpT, cmpF, bI_eq0, bI_ne0, Classical.not_not, nI_toI, alen23, setA_x, setA_y, setA_o, hp, hn, hT, nI_cl] at *; omega)
set_option maxHeartbeats 4000000 in
set_option maxRecDepth 100000 in
theorem r_passesSign {t : Nat} (ht : txtR s T n) (hp : u 6 = nI p) (hp8 : p ≤ 80) (ht1 : t < 128) (h0 : sgnB T n p t = false → Q (some (.inl (nI 0))) (setA s u)) (h1 : sgnB T n p t = true → Q (some (.inl (nI 1))) (setA s (putF u 6 (nI (p + 1))))) : wpM L xs codT retT (f + 1) m_X10_passesSign [.inr (10, 0), .inl (nI t)] (setA s u) Q := by
  obtain ⟨hT, hn, h8, hB⟩ := ht
  have hTp := hB p
  have eu : putF u 6 (nI p) = u := by
    funext j
    simp only [putF]
    split
    · rename_i q; rw [q, hp]
    · rfl
  cases hd : sgnB T n p t with
  | true =>
    have h := h1 hd
    obtain ⟨d1, d2⟩ := of_decide_eq_true hd
    clear h0 h1
    intro call hcall X hX; refine hX 1000 0 _ _ _ ?_
    repeat' (first | (intro hc) | (refine And.intro ?_ ?_) | (exact absurd nI_0 ‹cmpF 0 (nI 0) 0›) | (exact absurd ‹cmpT 0 (nI 1) 0› nI1_ne) | (exact absurd nI_0 ‹cmpT 1 (nI 0) 0›) | (exact absurd ‹cmpF 1 (nI 1) 0› nI1_ne) | (show wp _ _ _ _ _ _ _ _ _ _ _ _; conv => whnf) | (simp (disch := omega) only [setA_x, setA_y, setA_o, setA_put, hp, hn, hT, nI_cl, nI_add, Nat.add_zero, eu]))
    all_goals first
      | exact h
      | (clear hX hcall h hB eu hd; simp (disch := omega) only [cmpT, cmpF, bI_eq0, bI_ne0, Classical.not_not, nI_toI, alen23, setA_x, setA_y, setA_o, hp, hn, hT, nI_cl, nI_inj] at *; first | omega | contradiction)
      | (simp (disch := omega) only [setA_x, setA_y, setA_o, setA_put, hp, hn, hT, nI_cl, nI_add, Nat.add_zero, eu]; exact h)
      | (exfalso; have q0 : nI 1 = 0 := ‹_›; exact nI1_ne q0)
  | false =>
    have h := h0 hd
    have d1 : ¬ (p < n ∧ T p = t) := of_decide_eq_false hd
    clear h0 h1
    intro call hcall X hX; refine hX 1000 0 _ _ _ ?_
    by_cases hpn : p < n
    · repeat' (first | (intro hc) | (refine And.intro ?_ ?_) | (exact absurd nI_0 ‹cmpF 0 (nI 0) 0›) | (exact absurd ‹cmpT 0 (nI 1) 0› nI1_ne) | (exact absurd nI_0 ‹cmpT 1 (nI 0) 0›) | (exact absurd ‹cmpF 1 (nI 1) 0› nI1_ne) | (show wp _ _ _ _ _ _ _ _ _ _ _ _; conv => whnf) | (simp (disch := omega) only [setA_x, setA_y, setA_o, setA_put, hp, hn, hT, nI_cl, nI_add, Nat.add_zero, eu]))
      all_goals first
        | exact h
        | (clear hX hcall h hB eu hd; simp (disch := omega) only [cmpT, cmpF, bI_eq0, bI_ne0, Classical.not_not, nI_toI, alen23, setA_x, setA_y, setA_o, hp, hn, hT, nI_cl, nI_inj] at *; first | omega | contradiction)
        | (simp (disch := omega) only [setA_x, setA_y, setA_o, setA_put, hp, hn, hT, nI_cl, nI_add, Nat.add_zero, eu]; exact h)
        | (exfalso; have q0 : ¬ nI 0 = 0 := ‹_›; exact q0 nI_0)
    · repeat' (first | (intro hc) | (refine And.intro ?_ ?_) | (exact absurd nI_0 ‹cmpF 0 (nI 0) 0›) | (exact absurd ‹cmpT 0 (nI 1) 0› nI1_ne) | (exact absurd nI_0 ‹cmpT 1 (nI 0) 0›) | (exact absurd ‹cmpF 1 (nI 1) 0› nI1_ne) | (show wp _ _ _ _ _ _ _ _ _ _ _ _; conv => whnf) | (simp (disch := omega) only [setA_x, setA_y, setA_o, setA_put, hp, hn, hT, nI_cl, nI_add, Nat.add_zero, eu]))
      all_goals first
        | exact h
        | (clear hX hcall h hB eu hd; simp (disch := omega) only [cmpT, cmpF, bI_eq0, bI_ne0, Classical.not_not, nI_toI, alen23, setA_x, setA_y, setA_o, hp, hn, hT, nI_cl, nI_inj] at *; first | omega | contradiction)
        | (simp (disch := omega) only [setA_x, setA_y, setA_o, setA_put, hp, hn, hT, nI_cl, nI_add, Nat.add_zero, eu]; exact h)
        | (exfalso; have q0 : ¬ nI 0 = 0 := ‹_›; exact q0 nI_0)
end REF25
end
section
/-! THE TEXT: numbers and acts, read by the reference -/
section REF26
variable {L : Nat} {xs : Nat → Int32} {f i k r p q c j n B b w m lo hi : Nat} {x y v a z l name flow place : Int32} {s : St} {F G F' u : Fm} {T : Nat → Nat} {Q : Option MV → St → Prop}
theorem numG_1 (h : 0 < k) (h2 : isDg T n p = true) : numG T n (m + 1) k p = numG T n m (10 * k + T p - 48) (p + 1) := if_pos ⟨h, h2⟩
theorem numG_0 (h : ¬ (0 < k ∧ isDg T n p = true)) : numG T n (m + 1) k p = (k, p) := if_neg h
theorem nI_ne {a b : Nat} (ha : a < 2147483648) (hb : b < 2147483648) (h : a ≠ b) : ¬ nI a = nI b := fun q => h ((nI_inj ha hb).mp q)
set_option maxHeartbeats 4000000 in
set_option maxRecDepth 100000 in
theorem r_passesNumber (ht : txtR s T n) (hp : u 6 = nI p) (hp8 : p ≤ 80) (hlo : lo < 1000) (hhi : hi < 1000) (h0 : ∀ q u', numR T n p lo hi = .inl q → u' 6 = nI q → (∀ k, k ≠ 6 → k ≠ 7 → u' k = u k) → Q (some (.inl (nI 0))) (setA s u')) (h1 : ∀ v q u', numR T n p lo hi = .inr (v, q) → v < 1000 → q ≤ 80 → u' 6 = nI q → u' 7 = nI v → (∀ k, k ≠ 6 → k ≠ 7 → u' k = u k) → Q (some (.inl (nI 1))) (setA s u')) : wpM L xs codT retT (f + 3) m_X10_passesNumber [.inr (10, 0), .inl (nI lo), .inl (nI hi)] (setA s u) Q := by
  obtain ⟨hT, hn, h8, hB⟩ := id ht
  by_cases hd : isDg T n p = true
  · obtain ⟨d1, d2, d3⟩ := isDg_1 hd
    have eR : numR T n p lo hi = if lo ≤ (numF T n p).1 ∧ (numF T n p).1 ≤ hi then .inr (numF T n p) else .inl p := if_pos hd
    intro call hcall X hX; refine hX 1000 0 _ _ _ ?_
    repeat' (first | (intro hc) | (refine And.intro ?_ ?_) | (exact absurd nI_0 ‹cmpF 0 (nI 0) 0›) | (exact absurd ‹cmpT 0 (nI 1) 0› nI1_ne) | (exact absurd nI_0 ‹cmpT 1 (nI 0) 0›) | (exact absurd ‹cmpF 1 (nI 1) 0› nI1_ne) | (show wp _ _ _ _ _ _ _ _ _ _ _ _; conv => whnf) | (simp (disch := omega) only [setA_x, setA_y, setA_o, setA_put, hp, hn, hT, nI_cl, nI_add, nI_sub, Nat.add_zero]) | (simp (disch := omega) only [nI_add, nI_mul, setN_now, setN_put, nI_cl, Nat.add_zero]) | (refine hcall _ _ _ _ ?_; first | (refine r_isDigitHere ht hp (by omega) ?_) | fail))
    all_goals (try (exfalso; clear h0 h1 hX hcall hB eR; simp (disch := omega) only [cmpT, cmpF, bI_eq0, bI_ne0, Classical.not_not, nI_toI, alen23, setA_x, setA_y, setA_o, hp, hn, hT, nI_cl] at *; first | omega | contradiction))
    all_goals (try (clear h0 h1 hX hcall hB eR; simp (disch := omega) only [nI_toI, alen23]; omega))
    have stop : ∀ v q k u', numF T n p = (v, q) → v < 1000 → q ≤ 80 → u' 6 = nI q → (∀ k, k ≠ 6 → k ≠ 7 → u' k = u k) → ¬ (k < 3 ∧ 0 < v ∧ isDg T n q = true) → k ≤ 3 → X 41 [.inr (10, 0), .inl (nI lo), .inl (nI hi), .inl (nI p), .inl (nI v), .inl (nI k)] [] (setA s u') := by
      intro v q k u' hv hv2 hq hu hf hs hk
      by_cases hin : lo ≤ v ∧ v ≤ hi
      · have e : numR T n p lo hi = .inr (v, q) := by rw [eR, hv, if_pos hin]
        have h := h1 v q (putF u' 7 (nI v)) e hv2 hq (by rw [putF_ne _ _ (by omega)]; exact hu) (putF_at _ _ _) (fun k k1 k2 => by rw [putF_ne _ _ k2]; exact hf k k1 k2)
        clear h0 h1
        refine hX 1000 41 _ _ _ ?_
        repeat' (first | (intro hc) | (refine And.intro ?_ ?_) | (exact absurd nI_0 ‹cmpF 0 (nI 0) 0›) | (exact absurd ‹cmpT 0 (nI 1) 0› nI1_ne) | (exact absurd nI_0 ‹cmpT 1 (nI 0) 0›) | (exact absurd ‹cmpF 1 (nI 1) 0› nI1_ne) | (show wp _ _ _ _ _ _ _ _ _ _ _ _; conv => whnf) | (simp (disch := omega) only [setA_x, setA_y, setA_o, setA_put, hu, hn, hT, nI_cl, nI_add, nI_sub, Nat.add_zero]) | (simp (disch := omega) only [nI_add, nI_mul, setN_now, setN_put, nI_cl, Nat.add_zero]) | (refine hcall _ _ _ _ ?_; first | (refine r_isDigitHere ht hu (by omega) ?_) | (refine r_isIn ?_) | fail))
        all_goals first
          | exact h
          | (exfalso; clear h hX hcall hB eR e; simp (disch := omega) only [cmpT, cmpF, bI_eq0, bI_ne0, Classical.not_not, nI_toI] at *; (try simp (disch := omega) only [Int32.toInt_zero, nI_toI] at *); first | omega | exact hs ⟨by omega, by omega, by assumption⟩)
      · have e : numR T n p lo hi = .inl p := by rw [eR, hv, if_neg hin]
        have h := h0 p (putF (putF u' 7 (nI v)) 6 (nI p)) e (putF_at _ _ _) (fun k k1 k2 => by rw [putF_ne _ _ k1, putF_ne _ _ k2]; exact hf k k1 k2)
        clear h0 h1
        refine hX 1000 41 _ _ _ ?_
        repeat' (first | (intro hc) | (refine And.intro ?_ ?_) | (exact absurd nI_0 ‹cmpF 0 (nI 0) 0›) | (exact absurd ‹cmpT 0 (nI 1) 0› nI1_ne) | (exact absurd nI_0 ‹cmpT 1 (nI 0) 0›) | (exact absurd ‹cmpF 1 (nI 1) 0› nI1_ne) | (show wp _ _ _ _ _ _ _ _ _ _ _ _; conv => whnf) | (simp (disch := omega) only [setA_x, setA_y, setA_o, setA_put, hu, hn, hT, nI_cl, nI_add, nI_sub, Nat.add_zero]) | (simp (disch := omega) only [nI_add, nI_mul, setN_now, setN_put, nI_cl, Nat.add_zero]) | (refine hcall _ _ _ _ ?_; first | (refine r_isDigitHere ht hu (by omega) ?_) | (refine r_isIn ?_) | fail))
        all_goals first
          | exact h
          | (exfalso; clear h hX hcall hB eR e; simp (disch := omega) only [cmpT, cmpF, bI_eq0, bI_ne0, Classical.not_not, nI_toI] at *; (try simp (disch := omega) only [Int32.toInt_zero, nI_toI] at *); first | omega | exact hs ⟨by omega, by omega, by assumption⟩)
    have loop : ∀ m k v q u', k + m = 3 → (m = 2 → v < 10) → (m = 1 → v < 100) → v < 1000 → q ≤ 80 → u' 6 = nI q → (∀ k, k ≠ 6 → k ≠ 7 → u' k = u k) → numG T n m v q = numF T n p → m ≤ 2 → X 41 [.inr (10, 0), .inl (nI lo), .inl (nI hi), .inl (nI p), .inl (nI v), .inl (nI k)] [] (setA s u') := by
      clear h0 h1
      intro m
      induction m with
      | zero =>
        intro k v q u' hk g1 g2 g3 hq hu hf hg hm
        exact stop v q k u' hg.symm g3 hq hu hf (fun q => by omega) (by omega)
      | succ m ih =>
        intro k v q u' hk g1 g2 g3 hq hu hf hg hm
        by_cases hc : 0 < v ∧ isDg T n q = true
        · rw [numG_1 hc.1 hc.2] at hg
          obtain ⟨c1, c2, c3⟩ := isDg_1 hc.2
          have ih := ih (k + 1) (10 * v + T q - 48) (q + 1) (putF u' 6 (nI (q + 1))) (by omega) (by omega) (by omega) (by omega) (by omega) (putF_at _ _ _) (fun k k1 k2 => by rw [putF_ne _ _ k1]; exact hf k k1 k2) hg (by omega)
          clear stop
          have hc2 := hc.2
          refine hX 1000 41 _ _ _ ?_
          repeat' (first | (intro hc) | (refine And.intro ?_ ?_) | (exact absurd nI_0 ‹cmpF 0 (nI 0) 0›) | (exact absurd ‹cmpT 0 (nI 1) 0› nI1_ne) | (exact absurd nI_0 ‹cmpT 1 (nI 0) 0›) | (exact absurd ‹cmpF 1 (nI 1) 0› nI1_ne) | (show wp _ _ _ _ _ _ _ _ _ _ _ _; conv => whnf) | (simp (disch := omega) only [setA_x, setA_y, setA_o, setA_put, hu, hn, hT, nI_cl, nI_add, nI_mul, nI_sub, Nat.add_zero]) | (simp (disch := omega) only [nI_add, nI_mul, setN_now, setN_put, nI_cl, Nat.add_zero]) | (refine hcall _ _ _ _ ?_; first | (refine r_isDigitHere ht hu (by omega) ?_) | fail))
          all_goals first
            | (simp (disch := omega) only [takeL, setL, nI_add]; exact ih)
            | (clear hX hcall hB eR ih hg; simp (disch := omega) only [cmpT, cmpF, bI_eq0, bI_ne0, Classical.not_not, nI_toI, alen23] at *; (try simp (disch := omega) only [Int32.toInt_zero, nI_toI] at *); first | omega | contradiction)
        · rw [numG_0 hc] at hg
          exact stop v q k u' hg.symm g3 hq hu hf (fun q => hc q.2) (by omega)
    simp only [takeL, setL]
    exact loop 2 1 (T p - 48) (p + 1) _ (by omega) (by omega) (by omega) (by omega) (by omega) (putF_at _ _ _) (fun k k1 k2 => putF_ne _ _ k1) rfl (by omega)
  · have e : numR T n p lo hi = .inl p := if_neg hd
    have h := h0 p u e hp (fun _ _ _ => rfl)
    clear h0 h1
    intro call hcall X hX; refine hX 1000 0 _ _ _ ?_
    repeat' (first | (intro hc) | (refine And.intro ?_ ?_) | (exact absurd nI_0 ‹cmpF 0 (nI 0) 0›) | (exact absurd ‹cmpT 0 (nI 1) 0› nI1_ne) | (exact absurd nI_0 ‹cmpT 1 (nI 0) 0›) | (exact absurd ‹cmpF 1 (nI 1) 0› nI1_ne) | (show wp _ _ _ _ _ _ _ _ _ _ _ _; conv => whnf) | (simp (disch := omega) only [nI_add, nI_mul, setN_now, setN_put, nI_cl, Nat.add_zero]) | (refine hcall _ _ _ _ ?_; first | (refine r_isDigitHere ht hp (by omega) ?_) | fail))
    all_goals first
      | exact h
      | (exfalso; clear h hX hcall hB e; simp (disch := omega) only [cmpT, cmpF, bI_eq0, bI_ne0, Classical.not_not] at *; contradiction)
end REF26
end
section
/-! THE TEXT: acts, read by the reference -/
section REF27
variable {L : Nat} {xs : Nat → Int32} {f i k r p q c j n B b w m lo hi : Nat} {x y v a z l name flow place : Int32} {s : St} {F G F' u : Fm} {T : Nat → Nat} {Q : Option MV → St → Prop}
theorem numG_q (hn : p ≤ n) : ∀ m k p, p ≤ n → p ≤ (numG T n m k p).2 ∧ (numG T n m k p).2 ≤ n := by
  intro m
  induction m with
  | zero => intro k p hp; exact ⟨Nat.le_refl _, hp⟩
  | succ m ih =>
    intro k p hp
    by_cases h : 0 < k ∧ isDg T n p = true
    · rw [numG_1 h.1 h.2]
      have := isDg_1 h.2
      have := ih (10 * k + T p - 48) (p + 1) (by omega)
      omega
    · rw [numG_0 h]
      exact ⟨Nat.le_refl _, hp⟩
theorem numR_b {v : Nat} (h : numR T n p lo hi = .inr (v, q)) : lo ≤ v ∧ v ≤ hi ∧ p < q ∧ q ≤ n := by
  unfold numR at h
  split at h
  · rename_i hd
    split at h
    · rename_i hin
      have e : numF T n p = (v, q) := Sum.inr.inj h
      rw [e] at hin
      obtain ⟨d1, d2, d3⟩ := isDg_1 hd
      have g := numG_q (T := T) (show p + 1 ≤ n by omega) 2 (T p - 48) (p + 1) (by omega)
      have e2 : numG T n 2 (T p - 48) (p + 1) = (v, q) := e
      rw [e2] at g
      exact ⟨hin.1, hin.2, by omega, g.2⟩
    · cases h
  · cases h
theorem sgnB_1 (h : sgnB T n p k = true) : p < n ∧ T p = k := of_decide_eq_true h
theorem sgnB_0 (h : sgnB T n p k = false) : ¬ (p < n ∧ T p = k) := of_decide_eq_false h
theorem r_pN_l (ht : txtR s T n) (hp : u 6 = nI p) (hp8 : p ≤ 80) (hlo : lo < 1000) (hhi : hi < 1000) (e : numR T n p lo hi = .inl q) (h : ∀ u', u' 6 = nI q → (∀ k, k ≠ 6 → k ≠ 7 → u' k = u k) → Q (some (.inl (nI 0))) (setA s u')) : wpM L xs codT retT (f + 3) m_X10_passesNumber [.inr (10, 0), .inl (nI lo), .inl (nI hi)] (setA s u) Q :=
  r_passesNumber ht hp hp8 hlo hhi (fun q' u' e' h6 hf => by rw [e] at e'; cases e'; exact h u' h6 hf) (fun v q' u' e' => by rw [e] at e'; cases e')
theorem r_pN_r {v : Nat} (ht : txtR s T n) (hp : u 6 = nI p) (hp8 : p ≤ 80) (hlo : lo < 1000) (hhi : hi < 1000) (e : numR T n p lo hi = .inr (v, q)) (h : ∀ u', u' 6 = nI q → u' 7 = nI v → (∀ k, k ≠ 6 → k ≠ 7 → u' k = u k) → Q (some (.inl (nI 1))) (setA s u')) : wpM L xs codT retT (f + 3) m_X10_passesNumber [.inr (10, 0), .inl (nI lo), .inl (nI hi)] (setA s u) Q :=
  r_passesNumber ht hp hp8 hlo hhi (fun q' u' e' => by rw [e] at e'; cases e') (fun v' q' u' e' _ _ h6 h7 hf => by rw [e] at e'; cases e'; exact h u' h6 h7 hf)
theorem r_pS_0 {t : Nat} (ht : txtR s T n) (hp : u 6 = nI p) (hp8 : p ≤ 80) (ht1 : t < 128) (e : sgnB T n p t = false) (h : Q (some (.inl (nI 0))) (setA s u)) : wpM L xs codT retT (f + 1) m_X10_passesSign [.inr (10, 0), .inl (nI t)] (setA s u) Q :=
  r_passesSign ht hp hp8 ht1 (fun _ => h) (fun e' => by rw [e] at e'; cases e')
theorem r_pS_1 {t : Nat} (ht : txtR s T n) (hp : u 6 = nI p) (hp8 : p ≤ 80) (ht1 : t < 128) (e : sgnB T n p t = true) (h : Q (some (.inl (nI 1))) (setA s (putF u 6 (nI (p + 1))))) : wpM L xs codT retT (f + 1) m_X10_passesSign [.inr (10, 0), .inl (nI t)] (setA s u) Q :=
  r_passesSign ht hp hp8 ht1 (fun e' => by rw [e] at e'; cases e') (fun _ => h)
theorem putF_e {i : Nat} (h : i = j) : putF u i x j = x := by rw [h]; exact putF_at _ _ _
set_option maxHeartbeats 4000000 in
set_option maxRecDepth 100000 in
theorem r_passesLetter (ht : txtR s T n) (hp : u 6 = nI p) (hp8 : p ≤ 80) (h0 : ∀ q u', letR T n p = .inl q → u' 6 = nI q → Q (some (.inl (nI 0))) (setA s u')) (h1 : ∀ a b c q u', letR T n p = .inr ((a, b, c), q) → u' 6 = nI q → u' 8 = u 8 → u' 9 = nI a → u' 10 = nI b → u' 11 = nI c → Q (some (.inl (nI 1))) (setA s u')) : wpM L xs codT retT (f + 4) m_X10_passesLetter [.inr (10, 0)] (setA s u) Q := by
  have h8 := ht.2.2.1
  cases e1 : numR T n p 0 3 with
  | inl q =>
    have eL : letR T n p = .inl q := by unfold letR; rw [e1]
    intro call hcall X hX; refine hX 1000 0 _ _ _ ?_
    repeat' (first | (intro hc) | (refine And.intro ?_ ?_) | (exact absurd nI_0 ‹cmpF 0 (nI 0) 0›) | (exact absurd ‹cmpT 0 (nI 1) 0› nI1_ne) | (exact absurd nI_0 ‹cmpT 1 (nI 0) 0›) | (exact absurd ‹cmpF 1 (nI 1) 0› nI1_ne) | (show wp _ _ _ _ _ _ _ _ _ _ _ _; conv => whnf) | (simp (disch := omega) only [nI_add, nI_mul, setN_now, setN_put, nI_cl, Nat.add_zero]) | (refine hcall _ _ _ _ ?_; first | (refine r_pN_l ht hp hp8 (by omega) (by omega) e1 (fun u1 a1 a3 => ?_)) | fail))
    all_goals exact h0 q u1 eL a1
  | inr w =>
    obtain ⟨a, p1⟩ := w
    have b1 := numR_b e1
    cases e2 : sgnB T n p1 110 with
    | false =>
      have eL : letR T n p = .inl p1 := by unfold letR; rw [e1]; show (if sgnB T n p1 110 = true then _ else _) = _; rw [e2]; rfl
      intro call hcall X hX; refine hX 1000 0 _ _ _ ?_
      repeat' (first | (intro hc) | (refine And.intro ?_ ?_) | (exact absurd nI_0 ‹cmpF 0 (nI 0) 0›) | (exact absurd ‹cmpT 0 (nI 1) 0› nI1_ne) | (exact absurd nI_0 ‹cmpT 1 (nI 0) 0›) | (exact absurd ‹cmpF 1 (nI 1) 0› nI1_ne) | (show wp _ _ _ _ _ _ _ _ _ _ _ _; conv => whnf) | (simp (disch := omega) only [nI_add, nI_mul, setN_now, setN_put, nI_cl, Nat.add_zero]) | (refine hcall _ _ _ _ ?_; first | (refine r_pN_r ht hp hp8 (by omega) (by omega) e1 (fun u1 a1 a2 a3 => ?_)) | (refine r_pS_0 ht (by rw [putF_ne _ _ (by omega) ?_) | fail)); exact a1) (by omega) (by omega) e2]{simp (disch := omega) only [setA_x, setA_put]; rw [a2]}
      all_goals exact h0 p1 _ eL (by rw [putF_ne _ _ (by omega)]; exact a1)
    | true =>
      have s2 := sgnB_1 e2
      cases e3 : numR T n (p1 + 1) 0 255 with
      | inl q =>
        have eL : letR T n p = .inl q := by unfold letR; rw [e1]; show (if sgnB T n p1 110 = true then _ else _) = _; rw [e2, e3]; rfl
        intro call hcall X hX; refine hX 1000 0 _ _ _ ?_
        repeat' (first | (intro hc) | (refine And.intro ?_ ?_) | (exact absurd nI_0 ‹cmpF 0 (nI 0) 0›) | (exact absurd ‹cmpT 0 (nI 1) 0› nI1_ne) | (exact absurd nI_0 ‹cmpT 1 (nI 0) 0›) | (exact absurd ‹cmpF 1 (nI 1) 0› nI1_ne) | (show wp _ _ _ _ _ _ _ _ _ _ _ _; conv => whnf) | (simp (disch := omega) only [nI_add, nI_mul, setN_now, setN_put, nI_cl, Nat.add_zero]) | (refine hcall _ _ _ _ ?_; first | (refine r_pN_r ht hp hp8 (by omega) (by omega) e1 (fun u1 a1 a2 a3 => ?_)) | (refine r_pS_1 ht (by rw [putF_ne _ _ (by omega) ?_) | fail)); exact a1) (by omega) (by omega) e2; r_pN_l ht (putF_at _ _ _) (by omega) (by omega) (by omega) e3 (fun u2 c1 c3 => ?_)]{simp (disch := omega) only [setA_x, setA_put]; rw [a2]}
        all_goals exact h0 q _ eL c1
      | inr w =>
        obtain ⟨b, p2⟩ := w
        have b2 := numR_b e3
        cases e4 : sgnB T n p2 102 with
        | false =>
          have eL : letR T n p = .inl p2 := by unfold letR; rw [e1]; show (if sgnB T n p1 110 = true then _ else _) = _; rw [e2, e3]; show (if sgnB T n p2 102 = true then _ else _) = _; rw [e4]; rfl
          intro call hcall X hX; refine hX 1000 0 _ _ _ ?_
          repeat' (first | (intro hc) | (refine And.intro ?_ ?_) | (exact absurd nI_0 ‹cmpF 0 (nI 0) 0›) | (exact absurd ‹cmpT 0 (nI 1) 0› nI1_ne) | (exact absurd nI_0 ‹cmpT 1 (nI 0) 0›) | (exact absurd ‹cmpF 1 (nI 1) 0› nI1_ne) | (show wp _ _ _ _ _ _ _ _ _ _ _ _; conv => whnf) | (simp (disch := omega) only [nI_add, nI_mul, setN_now, setN_put, nI_cl, Nat.add_zero]) | (refine hcall _ _ _ _ ?_; first | (refine r_pN_r ht hp hp8 (by omega) (by omega) e1 (fun u1 a1 a2 a3 => ?_)) | (refine r_pS_1 ht (by rw [putF_ne _ _ (by omega) ?_) | fail)); exact a1) (by omega) (by omega) e2; r_pN_r ht (putF_at _ _ _) (by omega) (by omega) (by omega) e3 (fun u2 c1 c2 c3 => ?_); r_pS_0 ht (by rw [putF_ne _ _ (by omega)]; exact c1) (by omega) (by omega) e4]{simp (disch := omega) only [setA_x, setA_put]; rw [a2]; rw [c2]}
          all_goals exact h0 p2 _ eL (by rw [putF_ne _ _ (by omega)]; exact c1)
        | true =>
          have s4 := sgnB_1 e4
          cases e5 : numR T n (p2 + 1) 0 99 with
          | inl q =>
            have eL : letR T n p = .inl q := by unfold letR; rw [e1]; show (if sgnB T n p1 110 = true then _ else _) = _; rw [e2, e3]; show (if sgnB T n p2 102 = true then _ else _) = _; rw [e4, e5]; rfl
            intro call hcall X hX; refine hX 1000 0 _ _ _ ?_
            repeat' (first | (intro hc) | (refine And.intro ?_ ?_) | (exact absurd nI_0 ‹cmpF 0 (nI 0) 0›) | (exact absurd ‹cmpT 0 (nI 1) 0› nI1_ne) | (exact absurd nI_0 ‹cmpT 1 (nI 0) 0›) | (exact absurd ‹cmpF 1 (nI 1) 0› nI1_ne) | (show wp _ _ _ _ _ _ _ _ _ _ _ _; conv => whnf) | (simp (disch := omega) only [nI_add, nI_mul, setN_now, setN_put, nI_cl, Nat.add_zero]) | (refine hcall _ _ _ _ ?_; first | (refine r_pN_r ht hp hp8 (by omega) (by omega) e1 (fun u1 a1 a2 a3 => ?_)) | (refine r_pS_1 ht (by rw [putF_ne _ _ (by omega) ?_) | fail)); exact a1) (by omega) (by omega) e2; r_pN_r ht (putF_at _ _ _) (by omega) (by omega) (by omega) e3 (fun u2 c1 c2 c3 => ?_); r_pS_1 ht (by rw [putF_ne _ _ (by omega)]; exact c1) (by omega) (by omega) e4; r_pN_l ht (putF_at _ _ _) (by omega) (by omega) (by omega) e5 (fun u3 d1 d3 => ?_)]{simp (disch := omega) only [setA_x, setA_put]; rw [a2]; rw [c2]}
            all_goals exact h0 q _ eL d1
          | inr w =>
            obtain ⟨c, p3⟩ := w
            have eL : letR T n p = .inr ((a, b, c), p3) := by unfold letR; rw [e1]; show (if sgnB T n p1 110 = true then _ else _) = _; rw [e2, e3]; show (if sgnB T n p2 102 = true then _ else _) = _; rw [e4, e5]; rfl
            intro call hcall X hX; refine hX 1000 0 _ _ _ ?_
            repeat' (first | (intro hc) | (refine And.intro ?_ ?_) | (exact absurd nI_0 ‹cmpF 0 (nI 0) 0›) | (exact absurd ‹cmpT 0 (nI 1) 0› nI1_ne) | (exact absurd nI_0 ‹cmpT 1 (nI 0) 0›) | (exact absurd ‹cmpF 1 (nI 1) 0› nI1_ne) | (show wp _ _ _ _ _ _ _ _ _ _ _ _; conv => whnf) | (simp (disch := omega) only [nI_add, nI_mul, setN_now, setN_put, nI_cl, Nat.add_zero]) | (refine hcall _ _ _ _ ?_; first | (refine r_pN_r ht hp hp8 (by omega) (by omega) e1 (fun u1 a1 a2 a3 => ?_)) | (refine r_pS_1 ht (by rw [putF_ne _ _ (by omega) ?_) | fail)); exact a1) (by omega) (by omega) e2; r_pN_r ht (putF_at _ _ _) (by omega) (by omega) (by omega) e3 (fun u2 c1 c2 c3 => ?_); r_pS_1 ht (by rw [putF_ne _ _ (by omega)]; exact c1) (by omega) (by omega) e4; r_pN_r ht (putF_at _ _ _) (by omega) (by omega) (by omega) e5 (fun u3 d1 d2 d3 => ?_)]{simp (disch := omega) only [setA_x, setA_put]; rw [a2]; rw [c2]; rw [d2]}
            all_goals (refine h1 a b c p3 _ eL ?_ ?_ ?_ ?_ ?_ <;> simp (disch := omega) only [putF_ne, putF_e, a3, c3, d3, a1, c1, d1])
end REF27
end
section
theorem i_vc : Claimed_1_1 ∧ Claimed_1_2 := sorry
end
