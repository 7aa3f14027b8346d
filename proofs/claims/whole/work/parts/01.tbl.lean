-- ===== PART A: goes FIRST, ahead of the names: the tables' words, and 'selects' of the private methods out of them =====
/-- a private method of a class that the tables say can be made, by its rows of tables_1 -/
def lw_okq (q : MethodName × Nat) : Prop := (q.1.cls ≠ "java/lang/invoke/MethodHandle" ∧ q.1.cls ≠ "java/lang/invoke/VarHandle") ∧ Cond.instantiable q.1.cls q.2 ∈ tables_1 ∧ Cond.privateMethod q.1 ∈ tables_1 ∧ Cond.instanceMethod q.1 ∈ tables_1
theorem lw_p0 : lw_okq (⟨"NameMaps$History", "row", "(I)I"⟩, 3) := ⟨⟨by decide +kernel, by decide +kernel⟩, List.mem_of_getElem? (i := 212) (by decide +kernel), List.mem_of_getElem? (i := 297) (by decide +kernel), List.mem_of_getElem? (i := 298) (by decide +kernel)⟩
theorem lw_p1 : lw_okq (⟨"NameMaps", "recorded", "(I)I"⟩, 6) := ⟨⟨by decide +kernel, by decide +kernel⟩, List.mem_of_getElem? (i := 15) (by decide +kernel), List.mem_of_getElem? (i := 363) (by decide +kernel), List.mem_of_getElem? (i := 364) (by decide +kernel)⟩
theorem lw_p2 : lw_okq (⟨"NameMaps$World", "ask", "(LNameMaps$Router;I)Z"⟩, 8) := ⟨⟨by decide +kernel, by decide +kernel⟩, List.mem_of_getElem? (i := 23) (by decide +kernel), List.mem_of_getElem? (i := 510) (by decide +kernel), List.mem_of_getElem? (i := 511) (by decide +kernel)⟩
theorem lw_p3 : lw_okq (⟨"NameMaps$World", "goByProxy", "(LNameMaps$Router;I)I"⟩, 8) := ⟨⟨by decide +kernel, by decide +kernel⟩, List.mem_of_getElem? (i := 23) (by decide +kernel), List.mem_of_getElem? (i := 550) (by decide +kernel), List.mem_of_getElem? (i := 551) (by decide +kernel)⟩
theorem lw_p4 : lw_okq (⟨"NameMaps$World", "placeByMap", "(LNameMaps$CacheMap;I)I"⟩, 8) := ⟨⟨by decide +kernel, by decide +kernel⟩, List.mem_of_getElem? (i := 23) (by decide +kernel), List.mem_of_getElem? (i := 554) (by decide +kernel), List.mem_of_getElem? (i := 555) (by decide +kernel)⟩
theorem lw_p5 : lw_okq (⟨"NameMaps$Slots", "lowestPriority", "()I"⟩, 1) := ⟨⟨by decide +kernel, by decide +kernel⟩, List.mem_of_getElem? (i := 76) (by decide +kernel), List.mem_of_getElem? (i := 562) (by decide +kernel), List.mem_of_getElem? (i := 563) (by decide +kernel)⟩
theorem lw_p6 : lw_okq (⟨"NameMaps$Slots", "weightThatCounts", "(II)I"⟩, 1) := ⟨⟨by decide +kernel, by decide +kernel⟩, List.mem_of_getElem? (i := 76) (by decide +kernel), List.mem_of_getElem? (i := 570) (by decide +kernel), List.mem_of_getElem? (i := 571) (by decide +kernel)⟩
theorem lw_p7 : lw_okq (⟨"NameMaps$ActText", "byteHere", "()I"⟩, 8) := ⟨⟨by decide +kernel, by decide +kernel⟩, List.mem_of_getElem? (i := 232) (by decide +kernel), List.mem_of_getElem? (i := 622) (by decide +kernel), List.mem_of_getElem? (i := 623) (by decide +kernel)⟩
theorem lw_p8 : lw_okq (⟨"NameMaps$ActText", "readSending", "()V"⟩, 8) := ⟨⟨by decide +kernel, by decide +kernel⟩, List.mem_of_getElem? (i := 232) (by decide +kernel), List.mem_of_getElem? (i := 626) (by decide +kernel), List.mem_of_getElem? (i := 627) (by decide +kernel)⟩
theorem lw_p9 : lw_okq (⟨"NameMaps$ActText", "readSign", "(I)V"⟩, 8) := ⟨⟨by decide +kernel, by decide +kernel⟩, List.mem_of_getElem? (i := 232) (by decide +kernel), List.mem_of_getElem? (i := 630) (by decide +kernel), List.mem_of_getElem? (i := 631) (by decide +kernel)⟩
theorem lw_p10 : lw_okq (⟨"NameMaps$ActText", "readNumber", "(II)I"⟩, 8) := ⟨⟨by decide +kernel, by decide +kernel⟩, List.mem_of_getElem? (i := 232) (by decide +kernel), List.mem_of_getElem? (i := 634) (by decide +kernel), List.mem_of_getElem? (i := 635) (by decide +kernel)⟩
theorem lw_p11 : lw_okq (⟨"NameMaps", "carryOutAct", "()I"⟩, 6) := ⟨⟨by decide +kernel, by decide +kernel⟩, List.mem_of_getElem? (i := 15) (by decide +kernel), List.mem_of_getElem? (i := 647) (by decide +kernel), List.mem_of_getElem? (i := 648) (by decide +kernel)⟩
theorem lw_p12 : lw_okq (⟨"NameMaps$World", "childrenOf", "(I)I"⟩, 8) := ⟨⟨by decide +kernel, by decide +kernel⟩, List.mem_of_getElem? (i := 23) (by decide +kernel), List.mem_of_getElem? (i := 680) (by decide +kernel), List.mem_of_getElem? (i := 681) (by decide +kernel)⟩
theorem lw_p13 : lw_okq (⟨"NameMaps$World", "sitesAtHome", "(I)I"⟩, 8) := ⟨⟨by decide +kernel, by decide +kernel⟩, List.mem_of_getElem? (i := 23) (by decide +kernel), List.mem_of_getElem? (i := 684) (by decide +kernel), List.mem_of_getElem? (i := 685) (by decide +kernel)⟩
theorem lw_p14 : lw_okq (⟨"NameMaps$World", "mapsOf", "(I)I"⟩, 8) := ⟨⟨by decide +kernel, by decide +kernel⟩, List.mem_of_getElem? (i := 23) (by decide +kernel), List.mem_of_getElem? (i := 701) (by decide +kernel), List.mem_of_getElem? (i := 702) (by decide +kernel)⟩
theorem lw_p15 : lw_okq (⟨"NameMaps$World", "sitesEndingAheadOf", "(I)I"⟩, 8) := ⟨⟨by decide +kernel, by decide +kernel⟩, List.mem_of_getElem? (i := 23) (by decide +kernel), List.mem_of_getElem? (i := 753) (by decide +kernel), List.mem_of_getElem? (i := 754) (by decide +kernel)⟩
def lw_privs_1 : List (MethodName × Nat) := [(⟨"NameMaps$History", "row", "(I)I"⟩, 3), (⟨"NameMaps", "recorded", "(I)I"⟩, 6), (⟨"NameMaps$World", "ask", "(LNameMaps$Router;I)Z"⟩, 8), (⟨"NameMaps$World", "goByProxy", "(LNameMaps$Router;I)I"⟩, 8), (⟨"NameMaps$World", "placeByMap", "(LNameMaps$CacheMap;I)I"⟩, 8), (⟨"NameMaps$Slots", "lowestPriority", "()I"⟩, 1), (⟨"NameMaps$Slots", "weightThatCounts", "(II)I"⟩, 1), (⟨"NameMaps$ActText", "byteHere", "()I"⟩, 8), (⟨"NameMaps$ActText", "readSending", "()V"⟩, 8), (⟨"NameMaps$ActText", "readSign", "(I)V"⟩, 8), (⟨"NameMaps$ActText", "readNumber", "(II)I"⟩, 8), (⟨"NameMaps", "carryOutAct", "()I"⟩, 6), (⟨"NameMaps$World", "childrenOf", "(I)I"⟩, 8), (⟨"NameMaps$World", "sitesAtHome", "(I)I"⟩, 8), (⟨"NameMaps$World", "mapsOf", "(I)I"⟩, 8), (⟨"NameMaps$World", "sitesEndingAheadOf", "(I)I"⟩, 8)]
theorem lw_r1 : ∀ q ∈ lw_privs_1, lw_okq q := List.forall_mem_cons.mpr ⟨lw_p0, List.forall_mem_cons.mpr ⟨lw_p1, List.forall_mem_cons.mpr ⟨lw_p2, List.forall_mem_cons.mpr ⟨lw_p3, List.forall_mem_cons.mpr ⟨lw_p4, List.forall_mem_cons.mpr ⟨lw_p5, List.forall_mem_cons.mpr ⟨lw_p6, List.forall_mem_cons.mpr ⟨lw_p7, List.forall_mem_cons.mpr ⟨lw_p8, List.forall_mem_cons.mpr ⟨lw_p9, List.forall_mem_cons.mpr ⟨lw_p10, List.forall_mem_cons.mpr ⟨lw_p11, List.forall_mem_cons.mpr ⟨lw_p12, List.forall_mem_cons.mpr ⟨lw_p13, List.forall_mem_cons.mpr ⟨lw_p14, List.forall_mem_cons.mpr ⟨lw_p15, fun _ h => absurd h List.not_mem_nil⟩⟩⟩⟩⟩⟩⟩⟩⟩⟩⟩⟩⟩⟩⟩⟩
theorem lw_p16 : lw_okq (⟨"NameMaps$World", "sitesUp", "()I"⟩, 8) := ⟨⟨by decide +kernel, by decide +kernel⟩, List.mem_of_getElem? (i := 23) (by decide +kernel), List.mem_of_getElem? (i := 765) (by decide +kernel), List.mem_of_getElem? (i := 766) (by decide +kernel)⟩
theorem lw_p17 : lw_okq (⟨"NameMaps$World", "sumOverRouters", "(I)I"⟩, 8) := ⟨⟨by decide +kernel, by decide +kernel⟩, List.mem_of_getElem? (i := 23) (by decide +kernel), List.mem_of_getElem? (i := 769) (by decide +kernel), List.mem_of_getElem? (i := 770) (by decide +kernel)⟩
theorem lw_p18 : lw_okq (⟨"NameMaps$World", "namesWithAnswer", "()I"⟩, 8) := ⟨⟨by decide +kernel, by decide +kernel⟩, List.mem_of_getElem? (i := 23) (by decide +kernel), List.mem_of_getElem? (i := 774) (by decide +kernel), List.mem_of_getElem? (i := 775) (by decide +kernel)⟩
theorem lw_p19 : lw_okq (⟨"NameMapsModel", "brings", "(I)V"⟩, 12) := ⟨⟨by decide +kernel, by decide +kernel⟩, List.mem_of_getElem? (i := 796) (by decide +kernel), List.mem_of_getElem? (i := 843) (by decide +kernel), List.mem_of_getElem? (i := 844) (by decide +kernel)⟩
theorem lw_p20 : lw_okq (⟨"NameMapsModel", "keeps", "(I)V"⟩, 12) := ⟨⟨by decide +kernel, by decide +kernel⟩, List.mem_of_getElem? (i := 796) (by decide +kernel), List.mem_of_getElem? (i := 854) (by decide +kernel), List.mem_of_getElem? (i := 855) (by decide +kernel)⟩
theorem lw_p21 : lw_okq (⟨"NameMapsModel", "records", "()V"⟩, 12) := ⟨⟨by decide +kernel, by decide +kernel⟩, List.mem_of_getElem? (i := 796) (by decide +kernel), List.mem_of_getElem? (i := 862) (by decide +kernel), List.mem_of_getElem? (i := 863) (by decide +kernel)⟩
theorem lw_p22 : lw_okq (⟨"NameMapsModel", "homeOf", "(II)I"⟩, 12) := ⟨⟨by decide +kernel, by decide +kernel⟩, List.mem_of_getElem? (i := 796) (by decide +kernel), List.mem_of_getElem? (i := 873) (by decide +kernel), List.mem_of_getElem? (i := 874) (by decide +kernel)⟩
theorem lw_p23 : lw_okq (⟨"NameMapsModel", "holds", "(III)Z"⟩, 12) := ⟨⟨by decide +kernel, by decide +kernel⟩, List.mem_of_getElem? (i := 796) (by decide +kernel), List.mem_of_getElem? (i := 877) (by decide +kernel), List.mem_of_getElem? (i := 878) (by decide +kernel)⟩
theorem lw_p24 : lw_okq (⟨"NameMapsModel", "firstOf", "(I)I"⟩, 12) := ⟨⟨by decide +kernel, by decide +kernel⟩, List.mem_of_getElem? (i := 796) (by decide +kernel), List.mem_of_getElem? (i := 881) (by decide +kernel), List.mem_of_getElem? (i := 882) (by decide +kernel)⟩
theorem lw_p25 : lw_okq (⟨"NameMapsModel", "sizeOf", "(I)I"⟩, 12) := ⟨⟨by decide +kernel, by decide +kernel⟩, List.mem_of_getElem? (i := 796) (by decide +kernel), List.mem_of_getElem? (i := 885) (by decide +kernel), List.mem_of_getElem? (i := 886) (by decide +kernel)⟩
theorem lw_p26 : lw_okq (⟨"NameMapsModel", "wayTo", "(I)I"⟩, 12) := ⟨⟨by decide +kernel, by decide +kernel⟩, List.mem_of_getElem? (i := 796) (by decide +kernel), List.mem_of_getElem? (i := 889) (by decide +kernel), List.mem_of_getElem? (i := 890) (by decide +kernel)⟩
theorem lw_p27 : lw_okq (⟨"NameMapsModel", "isServer", "(I)Z"⟩, 12) := ⟨⟨by decide +kernel, by decide +kernel⟩, List.mem_of_getElem? (i := 796) (by decide +kernel), List.mem_of_getElem? (i := 897) (by decide +kernel), List.mem_of_getElem? (i := 898) (by decide +kernel)⟩
theorem lw_p28 : lw_okq (⟨"NameMapsModel", "answerOf", "(I)I"⟩, 12) := ⟨⟨by decide +kernel, by decide +kernel⟩, List.mem_of_getElem? (i := 796) (by decide +kernel), List.mem_of_getElem? (i := 908) (by decide +kernel), List.mem_of_getElem? (i := 909) (by decide +kernel)⟩
theorem lw_p29 : lw_okq (⟨"NameMapsModel", "isUp", "(I)Z"⟩, 12) := ⟨⟨by decide +kernel, by decide +kernel⟩, List.mem_of_getElem? (i := 796) (by decide +kernel), List.mem_of_getElem? (i := 912) (by decide +kernel), List.mem_of_getElem? (i := 913) (by decide +kernel)⟩
theorem lw_p30 : lw_okq (⟨"NameMapsModel", "ofSite", "(II)I"⟩, 12) := ⟨⟨by decide +kernel, by decide +kernel⟩, List.mem_of_getElem? (i := 796) (by decide +kernel), List.mem_of_getElem? (i := 916) (by decide +kernel), List.mem_of_getElem? (i := 917) (by decide +kernel)⟩
theorem lw_p31 : lw_okq (⟨"NameMapsModel", "isRegistered", "(I)Z"⟩, 12) := ⟨⟨by decide +kernel, by decide +kernel⟩, List.mem_of_getElem? (i := 796) (by decide +kernel), List.mem_of_getElem? (i := 923) (by decide +kernel), List.mem_of_getElem? (i := 924) (by decide +kernel)⟩
def lw_privs_2 : List (MethodName × Nat) := [(⟨"NameMaps$World", "sitesUp", "()I"⟩, 8), (⟨"NameMaps$World", "sumOverRouters", "(I)I"⟩, 8), (⟨"NameMaps$World", "namesWithAnswer", "()I"⟩, 8), (⟨"NameMapsModel", "brings", "(I)V"⟩, 12), (⟨"NameMapsModel", "keeps", "(I)V"⟩, 12), (⟨"NameMapsModel", "records", "()V"⟩, 12), (⟨"NameMapsModel", "homeOf", "(II)I"⟩, 12), (⟨"NameMapsModel", "holds", "(III)Z"⟩, 12), (⟨"NameMapsModel", "firstOf", "(I)I"⟩, 12), (⟨"NameMapsModel", "sizeOf", "(I)I"⟩, 12), (⟨"NameMapsModel", "wayTo", "(I)I"⟩, 12), (⟨"NameMapsModel", "isServer", "(I)Z"⟩, 12), (⟨"NameMapsModel", "answerOf", "(I)I"⟩, 12), (⟨"NameMapsModel", "isUp", "(I)Z"⟩, 12), (⟨"NameMapsModel", "ofSite", "(II)I"⟩, 12), (⟨"NameMapsModel", "isRegistered", "(I)Z"⟩, 12)]
theorem lw_r2 : ∀ q ∈ lw_privs_2, lw_okq q := List.forall_mem_cons.mpr ⟨lw_p16, List.forall_mem_cons.mpr ⟨lw_p17, List.forall_mem_cons.mpr ⟨lw_p18, List.forall_mem_cons.mpr ⟨lw_p19, List.forall_mem_cons.mpr ⟨lw_p20, List.forall_mem_cons.mpr ⟨lw_p21, List.forall_mem_cons.mpr ⟨lw_p22, List.forall_mem_cons.mpr ⟨lw_p23, List.forall_mem_cons.mpr ⟨lw_p24, List.forall_mem_cons.mpr ⟨lw_p25, List.forall_mem_cons.mpr ⟨lw_p26, List.forall_mem_cons.mpr ⟨lw_p27, List.forall_mem_cons.mpr ⟨lw_p28, List.forall_mem_cons.mpr ⟨lw_p29, List.forall_mem_cons.mpr ⟨lw_p30, List.forall_mem_cons.mpr ⟨lw_p31, fun _ h => absurd h List.not_mem_nil⟩⟩⟩⟩⟩⟩⟩⟩⟩⟩⟩⟩⟩⟩⟩⟩
theorem lw_p32 : lw_okq (⟨"NameMapsModel", "has", "(II)Z"⟩, 12) := ⟨⟨by decide +kernel, by decide +kernel⟩, List.mem_of_getElem? (i := 796) (by decide +kernel), List.mem_of_getElem? (i := 927) (by decide +kernel), List.mem_of_getElem? (i := 928) (by decide +kernel)⟩
theorem lw_p33 : lw_okq (⟨"NameMapsModel", "homeOfSite", "(I)I"⟩, 12) := ⟨⟨by decide +kernel, by decide +kernel⟩, List.mem_of_getElem? (i := 796) (by decide +kernel), List.mem_of_getElem? (i := 931) (by decide +kernel), List.mem_of_getElem? (i := 932) (by decide +kernel)⟩
theorem lw_p34 : lw_okq (⟨"NameMapsModel", "isSite", "(I)Z"⟩, 12) := ⟨⟨by decide +kernel, by decide +kernel⟩, List.mem_of_getElem? (i := 796) (by decide +kernel), List.mem_of_getElem? (i := 950) (by decide +kernel), List.mem_of_getElem? (i := 951) (by decide +kernel)⟩
theorem lw_p35 : lw_okq (⟨"NameMapsModel", "registers", "(I)I"⟩, 12) := ⟨⟨by decide +kernel, by decide +kernel⟩, List.mem_of_getElem? (i := 796) (by decide +kernel), List.mem_of_getElem? (i := 962) (by decide +kernel), List.mem_of_getElem? (i := 963) (by decide +kernel)⟩
theorem lw_p36 : lw_okq (⟨"NameMapsModel", "unregisterError", "(I)I"⟩, 12) := ⟨⟨by decide +kernel, by decide +kernel⟩, List.mem_of_getElem? (i := 796) (by decide +kernel), List.mem_of_getElem? (i := 970) (by decide +kernel), List.mem_of_getElem? (i := 971) (by decide +kernel)⟩
theorem lw_p37 : lw_okq (⟨"NameMapsModel", "unregisters", "(I)I"⟩, 12) := ⟨⟨by decide +kernel, by decide +kernel⟩, List.mem_of_getElem? (i := 796) (by decide +kernel), List.mem_of_getElem? (i := 974) (by decide +kernel), List.mem_of_getElem? (i := 975) (by decide +kernel)⟩
theorem lw_p38 : lw_okq (⟨"NameMapsModel", "isRouter", "(I)Z"⟩, 12) := ⟨⟨by decide +kernel, by decide +kernel⟩, List.mem_of_getElem? (i := 796) (by decide +kernel), List.mem_of_getElem? (i := 986) (by decide +kernel), List.mem_of_getElem? (i := 987) (by decide +kernel)⟩
theorem lw_p39 : lw_okq (⟨"NameMapsModel", "sends", "(III)I"⟩, 12) := ⟨⟨by decide +kernel, by decide +kernel⟩, List.mem_of_getElem? (i := 796) (by decide +kernel), List.mem_of_getElem? (i := 993) (by decide +kernel), List.mem_of_getElem? (i := 994) (by decide +kernel)⟩
theorem lw_p40 : lw_okq (⟨"NameMapsModel", "takes", "(II)I"⟩, 12) := ⟨⟨by decide +kernel, by decide +kernel⟩, List.mem_of_getElem? (i := 796) (by decide +kernel), List.mem_of_getElem? (i := 997) (by decide +kernel), List.mem_of_getElem? (i := 998) (by decide +kernel)⟩
theorem lw_p41 : lw_okq (⟨"NameMapsModel", "mapsOf", "(I)I"⟩, 12) := ⟨⟨by decide +kernel, by decide +kernel⟩, List.mem_of_getElem? (i := 796) (by decide +kernel), List.mem_of_getElem? (i := 1001) (by decide +kernel), List.mem_of_getElem? (i := 1002) (by decide +kernel)⟩
theorem lw_p42 : lw_okq (⟨"NameMapsModel", "ofMap", "(III)I"⟩, 12) := ⟨⟨by decide +kernel, by decide +kernel⟩, List.mem_of_getElem? (i := 796) (by decide +kernel), List.mem_of_getElem? (i := 1005) (by decide +kernel), List.mem_of_getElem? (i := 1006) (by decide +kernel)⟩
theorem lw_p43 : lw_okq (⟨"NameMapsModel", "drops", "(II)V"⟩, 12) := ⟨⟨by decide +kernel, by decide +kernel⟩, List.mem_of_getElem? (i := 796) (by decide +kernel), List.mem_of_getElem? (i := 1012) (by decide +kernel), List.mem_of_getElem? (i := 1013) (by decide +kernel)⟩
theorem lw_p44 : lw_okq (⟨"NameMapsModel", "asks", "(II)Z"⟩, 12) := ⟨⟨by decide +kernel, by decide +kernel⟩, List.mem_of_getElem? (i := 796) (by decide +kernel), List.mem_of_getElem? (i := 1016) (by decide +kernel), List.mem_of_getElem? (i := 1017) (by decide +kernel)⟩
theorem lw_p45 : lw_okq (⟨"NameMapsModel", "makesRoom", "(II)V"⟩, 12) := ⟨⟨by decide +kernel, by decide +kernel⟩, List.mem_of_getElem? (i := 796) (by decide +kernel), List.mem_of_getElem? (i := 1020) (by decide +kernel), List.mem_of_getElem? (i := 1021) (by decide +kernel)⟩
theorem lw_p46 : lw_okq (⟨"NameMapsModel", "proxy", "(II)I"⟩, 12) := ⟨⟨by decide +kernel, by decide +kernel⟩, List.mem_of_getElem? (i := 796) (by decide +kernel), List.mem_of_getElem? (i := 1024) (by decide +kernel), List.mem_of_getElem? (i := 1025) (by decide +kernel)⟩
theorem lw_p47 : lw_okq (⟨"NameMapsModel", "uses", "(II)V"⟩, 12) := ⟨⟨by decide +kernel, by decide +kernel⟩, List.mem_of_getElem? (i := 796) (by decide +kernel), List.mem_of_getElem? (i := 1028) (by decide +kernel), List.mem_of_getElem? (i := 1029) (by decide +kernel)⟩
def lw_privs_3 : List (MethodName × Nat) := [(⟨"NameMapsModel", "has", "(II)Z"⟩, 12), (⟨"NameMapsModel", "homeOfSite", "(I)I"⟩, 12), (⟨"NameMapsModel", "isSite", "(I)Z"⟩, 12), (⟨"NameMapsModel", "registers", "(I)I"⟩, 12), (⟨"NameMapsModel", "unregisterError", "(I)I"⟩, 12), (⟨"NameMapsModel", "unregisters", "(I)I"⟩, 12), (⟨"NameMapsModel", "isRouter", "(I)Z"⟩, 12), (⟨"NameMapsModel", "sends", "(III)I"⟩, 12), (⟨"NameMapsModel", "takes", "(II)I"⟩, 12), (⟨"NameMapsModel", "mapsOf", "(I)I"⟩, 12), (⟨"NameMapsModel", "ofMap", "(III)I"⟩, 12), (⟨"NameMapsModel", "drops", "(II)V"⟩, 12), (⟨"NameMapsModel", "asks", "(II)Z"⟩, 12), (⟨"NameMapsModel", "makesRoom", "(II)V"⟩, 12), (⟨"NameMapsModel", "proxy", "(II)I"⟩, 12), (⟨"NameMapsModel", "uses", "(II)V"⟩, 12)]
theorem lw_r3 : ∀ q ∈ lw_privs_3, lw_okq q := List.forall_mem_cons.mpr ⟨lw_p32, List.forall_mem_cons.mpr ⟨lw_p33, List.forall_mem_cons.mpr ⟨lw_p34, List.forall_mem_cons.mpr ⟨lw_p35, List.forall_mem_cons.mpr ⟨lw_p36, List.forall_mem_cons.mpr ⟨lw_p37, List.forall_mem_cons.mpr ⟨lw_p38, List.forall_mem_cons.mpr ⟨lw_p39, List.forall_mem_cons.mpr ⟨lw_p40, List.forall_mem_cons.mpr ⟨lw_p41, List.forall_mem_cons.mpr ⟨lw_p42, List.forall_mem_cons.mpr ⟨lw_p43, List.forall_mem_cons.mpr ⟨lw_p44, List.forall_mem_cons.mpr ⟨lw_p45, List.forall_mem_cons.mpr ⟨lw_p46, List.forall_mem_cons.mpr ⟨lw_p47, fun _ h => absurd h List.not_mem_nil⟩⟩⟩⟩⟩⟩⟩⟩⟩⟩⟩⟩⟩⟩⟩⟩
theorem lw_p48 : lw_okq (⟨"NameMapsModel", "chosen", "(II)I"⟩, 12) := ⟨⟨by decide +kernel, by decide +kernel⟩, List.mem_of_getElem? (i := 796) (by decide +kernel), List.mem_of_getElem? (i := 1032) (by decide +kernel), List.mem_of_getElem? (i := 1033) (by decide +kernel)⟩
theorem lw_p49 : lw_okq (⟨"NameMapsModel", "isAt", "(II)Z"⟩, 12) := ⟨⟨by decide +kernel, by decide +kernel⟩, List.mem_of_getElem? (i := 796) (by decide +kernel), List.mem_of_getElem? (i := 1036) (by decide +kernel), List.mem_of_getElem? (i := 1037) (by decide +kernel)⟩
theorem lw_p50 : lw_okq (⟨"NameMapsModel", "faultOf", "()I"⟩, 12) := ⟨⟨by decide +kernel, by decide +kernel⟩, List.mem_of_getElem? (i := 796) (by decide +kernel), List.mem_of_getElem? (i := 1060) (by decide +kernel), List.mem_of_getElem? (i := 1061) (by decide +kernel)⟩
theorem lw_p51 : lw_okq (⟨"NameMapsModel", "passesAct", "()Z"⟩, 12) := ⟨⟨by decide +kernel, by decide +kernel⟩, List.mem_of_getElem? (i := 796) (by decide +kernel), List.mem_of_getElem? (i := 1064) (by decide +kernel), List.mem_of_getElem? (i := 1065) (by decide +kernel)⟩
theorem lw_p52 : lw_okq (⟨"NameMapsModel", "passesLetter", "()Z"⟩, 12) := ⟨⟨by decide +kernel, by decide +kernel⟩, List.mem_of_getElem? (i := 796) (by decide +kernel), List.mem_of_getElem? (i := 1068) (by decide +kernel), List.mem_of_getElem? (i := 1069) (by decide +kernel)⟩
theorem lw_p53 : lw_okq (⟨"NameMapsModel", "passesNumber", "(II)Z"⟩, 12) := ⟨⟨by decide +kernel, by decide +kernel⟩, List.mem_of_getElem? (i := 796) (by decide +kernel), List.mem_of_getElem? (i := 1072) (by decide +kernel), List.mem_of_getElem? (i := 1073) (by decide +kernel)⟩
theorem lw_p54 : lw_okq (⟨"NameMapsModel", "isDigitHere", "()Z"⟩, 12) := ⟨⟨by decide +kernel, by decide +kernel⟩, List.mem_of_getElem? (i := 796) (by decide +kernel), List.mem_of_getElem? (i := 1076) (by decide +kernel), List.mem_of_getElem? (i := 1077) (by decide +kernel)⟩
theorem lw_p55 : lw_okq (⟨"NameMapsModel", "passesSign", "(I)Z"⟩, 12) := ⟨⟨by decide +kernel, by decide +kernel⟩, List.mem_of_getElem? (i := 796) (by decide +kernel), List.mem_of_getElem? (i := 1080) (by decide +kernel), List.mem_of_getElem? (i := 1081) (by decide +kernel)⟩
theorem lw_p56 : lw_okq (⟨"NameMapsModel", "does", "()Z"⟩, 12) := ⟨⟨by decide +kernel, by decide +kernel⟩, List.mem_of_getElem? (i := 796) (by decide +kernel), List.mem_of_getElem? (i := 1088) (by decide +kernel), List.mem_of_getElem? (i := 1089) (by decide +kernel)⟩
theorem lw_p57 : lw_okq (⟨"NameMapsModel", "children", "(I)I"⟩, 12) := ⟨⟨by decide +kernel, by decide +kernel⟩, List.mem_of_getElem? (i := 796) (by decide +kernel), List.mem_of_getElem? (i := 1096) (by decide +kernel), List.mem_of_getElem? (i := 1097) (by decide +kernel)⟩
theorem lw_p58 : lw_okq (⟨"NameMapsModel", "sitesOf", "(I)I"⟩, 12) := ⟨⟨by decide +kernel, by decide +kernel⟩, List.mem_of_getElem? (i := 796) (by decide +kernel), List.mem_of_getElem? (i := 1100) (by decide +kernel), List.mem_of_getElem? (i := 1101) (by decide +kernel)⟩
theorem lw_p59 : lw_okq (⟨"NameMapsModel", "copiesOf", "(I)I"⟩, 12) := ⟨⟨by decide +kernel, by decide +kernel⟩, List.mem_of_getElem? (i := 796) (by decide +kernel), List.mem_of_getElem? (i := 1108) (by decide +kernel), List.mem_of_getElem? (i := 1109) (by decide +kernel)⟩
theorem lw_p60 : lw_okq (⟨"NameMapsModel", "isAhead", "(II)Z"⟩, 12) := ⟨⟨by decide +kernel, by decide +kernel⟩, List.mem_of_getElem? (i := 796) (by decide +kernel), List.mem_of_getElem? (i := 1128) (by decide +kernel), List.mem_of_getElem? (i := 1129) (by decide +kernel)⟩
theorem lw_p61 : lw_okq (⟨"NameMapsModel", "upMany", "()I"⟩, 12) := ⟨⟨by decide +kernel, by decide +kernel⟩, List.mem_of_getElem? (i := 796) (by decide +kernel), List.mem_of_getElem? (i := 1136) (by decide +kernel), List.mem_of_getElem? (i := 1137) (by decide +kernel)⟩
theorem lw_p62 : lw_okq (⟨"NameMapsModel", "sumOf", "(I)I"⟩, 12) := ⟨⟨by decide +kernel, by decide +kernel⟩, List.mem_of_getElem? (i := 796) (by decide +kernel), List.mem_of_getElem? (i := 1140) (by decide +kernel), List.mem_of_getElem? (i := 1141) (by decide +kernel)⟩
theorem lw_p63 : lw_okq (⟨"NameMapsModel", "answered", "()I"⟩, 12) := ⟨⟨by decide +kernel, by decide +kernel⟩, List.mem_of_getElem? (i := 796) (by decide +kernel), List.mem_of_getElem? (i := 1144) (by decide +kernel), List.mem_of_getElem? (i := 1145) (by decide +kernel)⟩
def lw_privs_4 : List (MethodName × Nat) := [(⟨"NameMapsModel", "chosen", "(II)I"⟩, 12), (⟨"NameMapsModel", "isAt", "(II)Z"⟩, 12), (⟨"NameMapsModel", "faultOf", "()I"⟩, 12), (⟨"NameMapsModel", "passesAct", "()Z"⟩, 12), (⟨"NameMapsModel", "passesLetter", "()Z"⟩, 12), (⟨"NameMapsModel", "passesNumber", "(II)Z"⟩, 12), (⟨"NameMapsModel", "isDigitHere", "()Z"⟩, 12), (⟨"NameMapsModel", "passesSign", "(I)Z"⟩, 12), (⟨"NameMapsModel", "does", "()Z"⟩, 12), (⟨"NameMapsModel", "children", "(I)I"⟩, 12), (⟨"NameMapsModel", "sitesOf", "(I)I"⟩, 12), (⟨"NameMapsModel", "copiesOf", "(I)I"⟩, 12), (⟨"NameMapsModel", "isAhead", "(II)Z"⟩, 12), (⟨"NameMapsModel", "upMany", "()I"⟩, 12), (⟨"NameMapsModel", "sumOf", "(I)I"⟩, 12), (⟨"NameMapsModel", "answered", "()I"⟩, 12)]
theorem lw_r4 : ∀ q ∈ lw_privs_4, lw_okq q := List.forall_mem_cons.mpr ⟨lw_p48, List.forall_mem_cons.mpr ⟨lw_p49, List.forall_mem_cons.mpr ⟨lw_p50, List.forall_mem_cons.mpr ⟨lw_p51, List.forall_mem_cons.mpr ⟨lw_p52, List.forall_mem_cons.mpr ⟨lw_p53, List.forall_mem_cons.mpr ⟨lw_p54, List.forall_mem_cons.mpr ⟨lw_p55, List.forall_mem_cons.mpr ⟨lw_p56, List.forall_mem_cons.mpr ⟨lw_p57, List.forall_mem_cons.mpr ⟨lw_p58, List.forall_mem_cons.mpr ⟨lw_p59, List.forall_mem_cons.mpr ⟨lw_p60, List.forall_mem_cons.mpr ⟨lw_p61, List.forall_mem_cons.mpr ⟨lw_p62, List.forall_mem_cons.mpr ⟨lw_p63, fun _ h => absurd h List.not_mem_nil⟩⟩⟩⟩⟩⟩⟩⟩⟩⟩⟩⟩⟩⟩⟩⟩
def lw_privs : List (MethodName × Nat) := lw_privs_1 ++ (lw_privs_2 ++ (lw_privs_3 ++ (lw_privs_4)))
def lw_tbl : List Cond := k2_sels lw_privs ++ tables_1
theorem lw_privs_ok : ∀ q ∈ lw_privs, lw_okq q := by
  show ∀ q ∈ lw_privs_1 ++ (lw_privs_2 ++ (lw_privs_3 ++ (lw_privs_4))), lw_okq q
  exact List.forall_mem_append.mpr ⟨lw_r1, List.forall_mem_append.mpr ⟨lw_r2, List.forall_mem_append.mpr ⟨lw_r3, lw_r4⟩⟩⟩
def RX0 : String := "NameMaps$ActText"
def TX0 : u_T := fun k => match k with
  | 0 => ("NameMaps$ActText", "bytes", "[B", true)
  | 1 => ("NameMaps$ActText", "length", "I", false)
  | 2 => ("NameMaps$ActText", "position", "I", false)
  | 3 => ("NameMaps$ActText", "fault", "I", false)
  | 4 => ("NameMaps$ActText", "kind", "I", false)
  | 5 => ("NameMaps$ActText", "number", "I", false)
  | 6 => ("NameMaps$ActText", "name", "I", false)
  | _ => ("NameMaps$ActText", "flow", "I", false)
def tyX0 : Nat → FieldType := fun k => match k with
  | 0 => .array .byte
  | 1 => .int
  | 2 => .int
  | 3 => .int
  | 4 => .int
  | 5 => .int
  | 6 => .int
  | _ => .int
theorem nmX0 : ∀ a, a < 8 → ∀ b, b < 8 → a ≠ b → (TX0 a).2.1 ≠ (TX0 b).2.1 := by decide +kernel
theorem tyX0_ok : ∀ k, k < 8 → parseFieldDescriptor (TX0 k).2.2.1 = some (tyX0 k) := by decide +kernel
abbrev cX0_init : ByteArray := prog_2_method_1_code
def yX0_init : MethodName := ⟨RX0, "<init>", "()V"⟩
abbrev cX0_add : ByteArray := prog_2_method_2_code
def yX0_add : MethodName := ⟨RX0, "add", "(I)I"⟩
abbrev cX0_rewind : ByteArray := prog_2_method_3_code
def yX0_rewind : MethodName := ⟨RX0, "rewind", "()V"⟩
abbrev cX0_findFault : ByteArray := prog_2_method_4_code
def yX0_findFault : MethodName := ⟨RX0, "findFault", "()I"⟩
abbrev cX0_readAct : ByteArray := prog_2_method_5_code
def yX0_readAct : MethodName := ⟨RX0, "readAct", "()Z"⟩
abbrev cX0_readSending : ByteArray := prog_2_method_6_code
def yX0_readSending : MethodName := ⟨RX0, "readSending", "()V"⟩
abbrev cX0_readSign : ByteArray := prog_2_method_7_code
def yX0_readSign : MethodName := ⟨RX0, "readSign", "(I)V"⟩
abbrev cX0_readNumber : ByteArray := prog_2_method_8_code
def yX0_readNumber : MethodName := ⟨RX0, "readNumber", "(II)I"⟩
abbrev cX0_byteHere : ByteArray := prog_2_method_9_code
def yX0_byteHere : MethodName := ⟨RX0, "byteHere", "()I"⟩
abbrev cX0_isDigit : ByteArray := prog_2_method_10_code
def yX0_isDigit : MethodName := ⟨RX0, "isDigit", "(I)Z"⟩
def RX1 : String := "NameMaps$Block"
def TX1 : u_T := fun k => match k with
  | 0 => ("NameMaps$Block", "first", "I", false)
  | _ => ("NameMaps$Block", "size", "I", false)
def tyX1 : Nat → FieldType := fun k => match k with
  | 0 => .int
  | _ => .int
theorem nmX1 : ∀ a, a < 2 → ∀ b, b < 2 → a ≠ b → (TX1 a).2.1 ≠ (TX1 b).2.1 := by decide +kernel
theorem tyX1_ok : ∀ k, k < 2 → parseFieldDescriptor (TX1 k).2.2.1 = some (tyX1 k) := by decide +kernel
abbrev cX1_init : ByteArray := prog_3_method_1_code
def yX1_init : MethodName := ⟨RX1, "<init>", "()V"⟩
abbrev cX1_become : ByteArray := prog_3_method_2_code
def yX1_become : MethodName := ⟨RX1, "become", "(II)V"⟩
abbrev cX1_copyFrom : ByteArray := prog_3_method_3_code
def yX1_copyFrom : MethodName := ⟨RX1, "copyFrom", "(LNameMaps$Block;)V"⟩
abbrev cX1_isAt : ByteArray := prog_3_method_4_code
def yX1_isAt : MethodName := ⟨RX1, "isAt", "(II)Z"⟩
abbrev cX1_has : ByteArray := prog_3_method_5_code
def yX1_has : MethodName := ⟨RX1, "has", "(I)Z"⟩
abbrev cX1_holds : ByteArray := prog_3_method_6_code
def yX1_holds : MethodName := ⟨RX1, "holds", "(II)Z"⟩
abbrev cX1_meets : ByteArray := prog_3_method_7_code
def yX1_meets : MethodName := ⟨RX1, "meets", "(II)Z"⟩
def RX2 : String := "NameMaps$CacheMap"
def TX2 : u_T := fun k => match k with
  | 0 => ("NameMaps$CacheMap", "block", "LNameMaps$Block;", true)
  | 1 => ("NameMaps$CacheMap", "slots", "LNameMaps$Slots;", true)
  | 2 => ("NameMaps$CacheMap", "site", "I", false)
  | 3 => ("NameMaps$CacheMap", "version", "I", false)
  | 4 => ("NameMaps$CacheMap", "end", "I", false)
  | _ => ("NameMaps$CacheMap", "isMarked", "Z", false)
def tyX2 : Nat → FieldType := fun k => match k with
  | 0 => .object "NameMaps$Block"
  | 1 => .object "NameMaps$Slots"
  | 2 => .int
  | 3 => .int
  | 4 => .int
  | _ => .boolean
theorem nmX2 : ∀ a, a < 6 → ∀ b, b < 6 → a ≠ b → (TX2 a).2.1 ≠ (TX2 b).2.1 := by decide +kernel
theorem tyX2_ok : ∀ k, k < 6 → parseFieldDescriptor (TX2 k).2.2.1 = some (tyX2 k) := by decide +kernel
abbrev cX2_init : ByteArray := prog_4_method_1_code
def yX2_init : MethodName := ⟨RX2, "<init>", "()V"⟩
abbrev cX2_become : ByteArray := prog_4_method_2_code
def yX2_become : MethodName := ⟨RX2, "become", "(ILNameMaps$Site;I)V"⟩
abbrev cX2_copyFrom : ByteArray := prog_4_method_3_code
def yX2_copyFrom : MethodName := ⟨RX2, "copyFrom", "(LNameMaps$CacheMap;)V"⟩
abbrev cX2_isHolding : ByteArray := prog_4_method_4_code
def yX2_isHolding : MethodName := ⟨RX2, "isHolding", "(I)Z"⟩
abbrev cX2_property : ByteArray := prog_4_method_5_code
def yX2_property : MethodName := ⟨RX2, "property", "(II)I"⟩
def RX3 : String := "NameMaps$History"
def TX3 : u_T := fun k => match k with
  | 0 => ("NameMaps$History", "states", "[LNameMaps$World;", true)
  | 1 => ("NameMaps$History", "oldest", "I", false)
  | _ => ("NameMaps$History", "count", "I", false)
def tyX3 : Nat → FieldType := fun k => match k with
  | 0 => .array (.object "NameMaps$World")
  | 1 => .int
  | _ => .int
theorem nmX3 : ∀ a, a < 3 → ∀ b, b < 3 → a ≠ b → (TX3 a).2.1 ≠ (TX3 b).2.1 := by decide +kernel
theorem tyX3_ok : ∀ k, k < 3 → parseFieldDescriptor (TX3 k).2.2.1 = some (tyX3 k) := by decide +kernel
abbrev cX3_init : ByteArray := prog_5_method_1_code
def yX3_init : MethodName := ⟨RX3, "<init>", "()V"⟩
abbrev cX3_row : ByteArray := prog_5_method_2_code
def yX3_row : MethodName := ⟨RX3, "row", "(I)I"⟩
abbrev cX3_draft : ByteArray := prog_5_method_3_code
def yX3_draft : MethodName := ⟨RX3, "draft", "(LNameMaps$World;)V"⟩
abbrev cX3_keepDraft : ByteArray := prog_5_method_4_code
def yX3_keepDraft : MethodName := ⟨RX3, "keepDraft", "()V"⟩
abbrev cX3_takeLatest : ByteArray := prog_5_method_5_code
def yX3_takeLatest : MethodName := ⟨RX3, "takeLatest", "(LNameMaps$World;)V"⟩
def RX4 : String := "NameMaps$Router"
def TX4 : u_T := fun k => match k with
  | 0 => ("NameMaps$Router", "maps", "[LNameMaps$CacheMap;", true)
  | 1 => ("NameMaps$Router", "mapCount", "I", false)
  | 2 => ("NameMaps$Router", "asks", "I", false)
  | 3 => ("NameMaps$Router", "hops", "I", false)
  | 4 => ("NameMaps$Router", "letters", "I", false)
  | 5 => ("NameMaps$Router", "proxied", "I", false)
  | _ => ("NameMaps$Router", "oldMaps", "I", false)
def tyX4 : Nat → FieldType := fun k => match k with
  | 0 => .array (.object "NameMaps$CacheMap")
  | 1 => .int
  | 2 => .int
  | 3 => .int
  | 4 => .int
  | 5 => .int
  | _ => .int
theorem nmX4 : ∀ a, a < 7 → ∀ b, b < 7 → a ≠ b → (TX4 a).2.1 ≠ (TX4 b).2.1 := by decide +kernel
theorem tyX4_ok : ∀ k, k < 7 → parseFieldDescriptor (TX4 k).2.2.1 = some (tyX4 k) := by decide +kernel
abbrev cX4_init : ByteArray := prog_6_method_1_code
def yX4_init : MethodName := ⟨RX4, "<init>", "()V"⟩
abbrev cX4_start : ByteArray := prog_6_method_2_code
def yX4_start : MethodName := ⟨RX4, "start", "()V"⟩
abbrev cX4_copyFrom : ByteArray := prog_6_method_3_code
def yX4_copyFrom : MethodName := ⟨RX4, "copyFrom", "(LNameMaps$Router;)V"⟩
abbrev cX4_isPlace : ByteArray := prog_6_method_4_code
def yX4_isPlace : MethodName := ⟨RX4, "isPlace", "(I)Z"⟩
abbrev cX4_property : ByteArray := prog_6_method_5_code
def yX4_property : MethodName := ⟨RX4, "property", "(I)I"⟩
abbrev cX4_moveToFront : ByteArray := prog_6_method_6_code
def yX4_moveToFront : MethodName := ⟨RX4, "moveToFront", "(I)V"⟩
abbrev cX4_drop : ByteArray := prog_6_method_7_code
def yX4_drop : MethodName := ⟨RX4, "drop", "(I)V"⟩
abbrev cX4_dropEnded : ByteArray := prog_6_method_8_code
def yX4_dropEnded : MethodName := ⟨RX4, "dropEnded", "(I)V"⟩
abbrev cX4_placeOfSite : ByteArray := prog_6_method_9_code
def yX4_placeOfSite : MethodName := ⟨RX4, "placeOfSite", "(I)I"⟩
abbrev cX4_placeOfSmallest : ByteArray := prog_6_method_10_code
def yX4_placeOfSmallest : MethodName := ⟨RX4, "placeOfSmallest", "(I)I"⟩
abbrev cX4_addMap : ByteArray := prog_6_method_11_code
def yX4_addMap : MethodName := ⟨RX4, "addMap", "(ILNameMaps$Site;I)V"⟩
def RX5 : String := "NameMaps$Server"
def TX5 : u_T := fun k => match k with
  | 0 => ("NameMaps$Server", "block", "LNameMaps$Block;", true)
  | _ => ("NameMaps$Server", "parent", "I", false)
def tyX5 : Nat → FieldType := fun k => match k with
  | 0 => .object "NameMaps$Block"
  | _ => .int
theorem nmX5 : ∀ a, a < 2 → ∀ b, b < 2 → a ≠ b → (TX5 a).2.1 ≠ (TX5 b).2.1 := by decide +kernel
theorem tyX5_ok : ∀ k, k < 2 → parseFieldDescriptor (TX5 k).2.2.1 = some (tyX5 k) := by decide +kernel
abbrev cX5_init : ByteArray := prog_7_method_1_code
def yX5_init : MethodName := ⟨RX5, "<init>", "()V"⟩
abbrev cX5_copyFrom : ByteArray := prog_7_method_2_code
def yX5_copyFrom : MethodName := ⟨RX5, "copyFrom", "(LNameMaps$Server;)V"⟩
def RX6 : String := "NameMaps$Site"
def TX6 : u_T := fun k => match k with
  | 0 => ("NameMaps$Site", "block", "LNameMaps$Block;", true)
  | 1 => ("NameMaps$Site", "slots", "LNameMaps$Slots;", true)
  | 2 => ("NameMaps$Site", "life", "I", false)
  | 3 => ("NameMaps$Site", "version", "I", false)
  | _ => ("NameMaps$Site", "end", "I", false)
def tyX6 : Nat → FieldType := fun k => match k with
  | 0 => .object "NameMaps$Block"
  | 1 => .object "NameMaps$Slots"
  | 2 => .int
  | 3 => .int
  | _ => .int
theorem nmX6 : ∀ a, a < 5 → ∀ b, b < 5 → a ≠ b → (TX6 a).2.1 ≠ (TX6 b).2.1 := by decide +kernel
theorem tyX6_ok : ∀ k, k < 5 → parseFieldDescriptor (TX6 k).2.2.1 = some (tyX6 k) := by decide +kernel
abbrev cX6_init : ByteArray := prog_8_method_1_code
def yX6_init : MethodName := ⟨RX6, "<init>", "()V"⟩
abbrev cX6_start : ByteArray := prog_8_method_2_code
def yX6_start : MethodName := ⟨RX6, "start", "(III)V"⟩
abbrev cX6_copyFrom : ByteArray := prog_8_method_3_code
def yX6_copyFrom : MethodName := ⟨RX6, "copyFrom", "(LNameMaps$Site;)V"⟩
abbrev cX6_isRegistered : ByteArray := prog_8_method_4_code
def yX6_isRegistered : MethodName := ⟨RX6, "isRegistered", "(I)Z"⟩
abbrev cX6_isUp : ByteArray := prog_8_method_5_code
def yX6_isUp : MethodName := ⟨RX6, "isUp", "(I)Z"⟩
def RX7 : String := "NameMaps$Slots"
def TX7 : u_T := fun k => match k with
  | _ => ("NameMaps$Slots", "cells", "[I", true)
def tyX7 : Nat → FieldType := fun k => match k with
  | _ => .array .int
theorem nmX7 : ∀ a, a < 1 → ∀ b, b < 1 → a ≠ b → (TX7 a).2.1 ≠ (TX7 b).2.1 := by decide +kernel
theorem tyX7_ok : ∀ k, k < 1 → parseFieldDescriptor (TX7 k).2.2.1 = some (tyX7 k) := by decide +kernel
abbrev cX7_init : ByteArray := prog_9_method_1_code
def yX7_init : MethodName := ⟨RX7, "<init>", "()V"⟩
abbrev cX7_copyFrom : ByteArray := prog_9_method_2_code
def yX7_copyFrom : MethodName := ⟨RX7, "copyFrom", "(LNameMaps$Slots;)V"⟩
abbrev cX7_fill : ByteArray := prog_9_method_3_code
def yX7_fill : MethodName := ⟨RX7, "fill", "(IIII)V"⟩
abbrev cX7_propertyOf : ByteArray := prog_9_method_4_code
def yX7_propertyOf : MethodName := ⟨RX7, "propertyOf", "(II)I"⟩
abbrev cX7_isEmpty : ByteArray := prog_9_method_5_code
def yX7_isEmpty : MethodName := ⟨RX7, "isEmpty", "(I)Z"⟩
abbrev cX7_areEmpty : ByteArray := prog_9_method_6_code
def yX7_areEmpty : MethodName := ⟨RX7, "areEmpty", "()Z"⟩
abbrev cX7_have : ByteArray := prog_9_method_7_code
def yX7_have : MethodName := ⟨RX7, "have", "(I)Z"⟩
abbrev cX7_lowestPriority : ByteArray := prog_9_method_8_code
def yX7_lowestPriority : MethodName := ⟨RX7, "lowestPriority", "()I"⟩
abbrev cX7_weightThatCounts : ByteArray := prog_9_method_9_code
def yX7_weightThatCounts : MethodName := ⟨RX7, "weightThatCounts", "(II)I"⟩
abbrev cX7_placeFor : ByteArray := prog_9_method_10_code
def yX7_placeFor : MethodName := ⟨RX7, "placeFor", "(I)I"⟩
abbrev cX7_flowsTo : ByteArray := prog_9_method_11_code
def yX7_flowsTo : MethodName := ⟨RX7, "flowsTo", "(I)I"⟩
def RX8 : String := "NameMaps$World"
def TX8 : u_T := fun k => match k with
  | 0 => ("NameMaps$World", "servers", "[LNameMaps$Server;", true)
  | 1 => ("NameMaps$World", "sites", "[LNameMaps$Site;", true)
  | 2 => ("NameMaps$World", "routers", "[LNameMaps$Router;", true)
  | 3 => ("NameMaps$World", "serverCount", "I", false)
  | 4 => ("NameMaps$World", "siteCount", "I", false)
  | 5 => ("NameMaps$World", "routerCount", "I", false)
  | 6 => ("NameMaps$World", "hour", "I", false)
  | _ => ("NameMaps$World", "mapLife", "I", false)
def tyX8 : Nat → FieldType := fun k => match k with
  | 0 => .array (.object "NameMaps$Server")
  | 1 => .array (.object "NameMaps$Site")
  | 2 => .array (.object "NameMaps$Router")
  | 3 => .int
  | 4 => .int
  | 5 => .int
  | 6 => .int
  | _ => .int
theorem nmX8 : ∀ a, a < 8 → ∀ b, b < 8 → a ≠ b → (TX8 a).2.1 ≠ (TX8 b).2.1 := by decide +kernel
theorem tyX8_ok : ∀ k, k < 8 → parseFieldDescriptor (TX8 k).2.2.1 = some (tyX8 k) := by decide +kernel
abbrev cX8_init : ByteArray := prog_10_method_1_code
def yX8_init : MethodName := ⟨RX8, "<init>", "()V"⟩
abbrev cX8_copyFrom : ByteArray := prog_10_method_2_code
def yX8_copyFrom : MethodName := ⟨RX8, "copyFrom", "(LNameMaps$World;)V"⟩
abbrev cX8_isServer : ByteArray := prog_10_method_3_code
def yX8_isServer : MethodName := ⟨RX8, "isServer", "(I)Z"⟩
abbrev cX8_isSite : ByteArray := prog_10_method_4_code
def yX8_isSite : MethodName := ⟨RX8, "isSite", "(I)Z"⟩
abbrev cX8_isRouter : ByteArray := prog_10_method_5_code
def yX8_isRouter : MethodName := ⟨RX8, "isRouter", "(I)Z"⟩
abbrev cX8_newServer : ByteArray := prog_10_method_6_code
def yX8_newServer : MethodName := ⟨RX8, "newServer", "(III)I"⟩
abbrev cX8_newSite : ByteArray := prog_10_method_7_code
def yX8_newSite : MethodName := ⟨RX8, "newSite", "(III)I"⟩
abbrev cX8_newRouter : ByteArray := prog_10_method_8_code
def yX8_newRouter : MethodName := ⟨RX8, "newRouter", "()I"⟩
abbrev cX8_fillSlot : ByteArray := prog_10_method_9_code
def yX8_fillSlot : MethodName := ⟨RX8, "fillSlot", "(IIIII)I"⟩
abbrev cX8_vacateSlot : ByteArray := prog_10_method_10_code
def yX8_vacateSlot : MethodName := ⟨RX8, "vacateSlot", "(II)I"⟩
abbrev cX8_startRegistration : ByteArray := prog_10_method_11_code
def yX8_startRegistration : MethodName := ⟨RX8, "startRegistration", "(I)I"⟩
abbrev cX8_endRegistration : ByteArray := prog_10_method_12_code
def yX8_endRegistration : MethodName := ⟨RX8, "endRegistration", "(I)I"⟩
abbrev cX8_changeMapLife : ByteArray := prog_10_method_13_code
def yX8_changeMapLife : MethodName := ⟨RX8, "changeMapLife", "(I)I"⟩
abbrev cX8_letPass : ByteArray := prog_10_method_14_code
def yX8_letPass : MethodName := ⟨RX8, "letPass", "(I)I"⟩
abbrev cX8_emptyCache : ByteArray := prog_10_method_15_code
def yX8_emptyCache : MethodName := ⟨RX8, "emptyCache", "(I)I"⟩
abbrev cX8_sendLetter : ByteArray := prog_10_method_16_code
def yX8_sendLetter : MethodName := ⟨RX8, "sendLetter", "(III)I"⟩
abbrev cX8_placeByMap : ByteArray := prog_10_method_17_code
def yX8_placeByMap : MethodName := ⟨RX8, "placeByMap", "(LNameMaps$CacheMap;I)I"⟩
abbrev cX8_ask : ByteArray := prog_10_method_18_code
def yX8_ask : MethodName := ⟨RX8, "ask", "(LNameMaps$Router;I)Z"⟩
abbrev cX8_goByProxy : ByteArray := prog_10_method_19_code
def yX8_goByProxy : MethodName := ⟨RX8, "goByProxy", "(LNameMaps$Router;I)I"⟩
abbrev cX8_homeOf : ByteArray := prog_10_method_20_code
def yX8_homeOf : MethodName := ⟨RX8, "homeOf", "(II)I"⟩
abbrev cX8_homeOfSite : ByteArray := prog_10_method_21_code
def yX8_homeOfSite : MethodName := ⟨RX8, "homeOfSite", "(I)I"⟩
abbrev cX8_hopsTo : ByteArray := prog_10_method_22_code
def yX8_hopsTo : MethodName := ⟨RX8, "hopsTo", "(I)I"⟩
abbrev cX8_answerFor : ByteArray := prog_10_method_23_code
def yX8_answerFor : MethodName := ⟨RX8, "answerFor", "(I)I"⟩
abbrev cX8_siteEndingAt : ByteArray := prog_10_method_24_code
def yX8_siteEndingAt : MethodName := ⟨RX8, "siteEndingAt", "(I)I"⟩
abbrev cX8_sitesEndingAheadOf : ByteArray := prog_10_method_25_code
def yX8_sitesEndingAheadOf : MethodName := ⟨RX8, "sitesEndingAheadOf", "(I)I"⟩
abbrev cX8_serverProperty : ByteArray := prog_10_method_26_code
def yX8_serverProperty : MethodName := ⟨RX8, "serverProperty", "(II)I"⟩
abbrev cX8_childrenOf : ByteArray := prog_10_method_27_code
def yX8_childrenOf : MethodName := ⟨RX8, "childrenOf", "(I)I"⟩
abbrev cX8_sitesAtHome : ByteArray := prog_10_method_28_code
def yX8_sitesAtHome : MethodName := ⟨RX8, "sitesAtHome", "(I)I"⟩
abbrev cX8_siteProperty : ByteArray := prog_10_method_29_code
def yX8_siteProperty : MethodName := ⟨RX8, "siteProperty", "(II)I"⟩
abbrev cX8_mapsOf : ByteArray := prog_10_method_30_code
def yX8_mapsOf : MethodName := ⟨RX8, "mapsOf", "(I)I"⟩
abbrev cX8_totalOf : ByteArray := prog_10_method_31_code
def yX8_totalOf : MethodName := ⟨RX8, "totalOf", "(I)I"⟩
abbrev cX8_sitesUp : ByteArray := prog_10_method_32_code
def yX8_sitesUp : MethodName := ⟨RX8, "sitesUp", "()I"⟩
abbrev cX8_sumOverRouters : ByteArray := prog_10_method_33_code
def yX8_sumOverRouters : MethodName := ⟨RX8, "sumOverRouters", "(I)I"⟩
abbrev cX8_namesWithAnswer : ByteArray := prog_10_method_34_code
def yX8_namesWithAnswer : MethodName := ⟨RX8, "namesWithAnswer", "()I"⟩
def RX9 : String := "NameMaps"
def TX9 : u_T := fun k => match k with
  | 0 => ("NameMaps", "present", "LNameMaps$World;", true)
  | 1 => ("NameMaps", "rehearsal", "LNameMaps$World;", true)
  | 2 => ("NameMaps", "history", "LNameMaps$History;", true)
  | 3 => ("NameMaps", "saves", "[LNameMaps$World;", true)
  | 4 => ("NameMaps", "isSaved", "[Z", true)
  | _ => ("NameMaps", "text", "LNameMaps$ActText;", true)
def tyX9 : Nat → FieldType := fun k => match k with
  | 0 => .object "NameMaps$World"
  | 1 => .object "NameMaps$World"
  | 2 => .object "NameMaps$History"
  | 3 => .array (.object "NameMaps$World")
  | 4 => .array .boolean
  | _ => .object "NameMaps$ActText"
theorem nmX9 : ∀ a, a < 6 → ∀ b, b < 6 → a ≠ b → (TX9 a).2.1 ≠ (TX9 b).2.1 := by decide +kernel
theorem tyX9_ok : ∀ k, k < 6 → parseFieldDescriptor (TX9 k).2.2.1 = some (tyX9 k) := by decide +kernel
abbrev cX9_init : ByteArray := prog_1_method_1_code
def yX9_init : MethodName := ⟨RX9, "<init>", "()V"⟩
abbrev cX9_addServer : ByteArray := prog_1_method_2_code
def yX9_addServer : MethodName := ⟨RX9, "addServer", "(III)I"⟩
abbrev cX9_addSite : ByteArray := prog_1_method_3_code
def yX9_addSite : MethodName := ⟨RX9, "addSite", "(III)I"⟩
abbrev cX9_addRouter : ByteArray := prog_1_method_4_code
def yX9_addRouter : MethodName := ⟨RX9, "addRouter", "()I"⟩
abbrev cX9_setSlot : ByteArray := prog_1_method_5_code
def yX9_setSlot : MethodName := ⟨RX9, "setSlot", "(IIIII)I"⟩
abbrev cX9_emptySlot : ByteArray := prog_1_method_6_code
def yX9_emptySlot : MethodName := ⟨RX9, "emptySlot", "(II)I"⟩
abbrev cX9_register : ByteArray := prog_1_method_7_code
def yX9_register : MethodName := ⟨RX9, "register", "(I)I"⟩
abbrev cX9_unregister : ByteArray := prog_1_method_8_code
def yX9_unregister : MethodName := ⟨RX9, "unregister", "(I)I"⟩
abbrev cX9_setMapLife : ByteArray := prog_1_method_9_code
def yX9_setMapLife : MethodName := ⟨RX9, "setMapLife", "(I)I"⟩
abbrev cX9_send : ByteArray := prog_1_method_10_code
def yX9_send : MethodName := ⟨RX9, "send", "(III)I"⟩
abbrev cX9_pass : ByteArray := prog_1_method_11_code
def yX9_pass : MethodName := ⟨RX9, "pass", "(I)I"⟩
abbrev cX9_forget : ByteArray := prog_1_method_12_code
def yX9_forget : MethodName := ⟨RX9, "forget", "(I)I"⟩
abbrev cX9_append : ByteArray := prog_1_method_13_code
def yX9_append : MethodName := ⟨RX9, "append", "(I)I"⟩
abbrev cX9_clearText : ByteArray := prog_1_method_14_code
def yX9_clearText : MethodName := ⟨RX9, "clearText", "()I"⟩
abbrev cX9_faultPosition : ByteArray := prog_1_method_15_code
def yX9_faultPosition : MethodName := ⟨RX9, "faultPosition", "()I"⟩
abbrev cX9_run : ByteArray := prog_1_method_16_code
def yX9_run : MethodName := ⟨RX9, "run", "()I"⟩
abbrev cX9_undo : ByteArray := prog_1_method_17_code
def yX9_undo : MethodName := ⟨RX9, "undo", "()I"⟩
abbrev cX9_save : ByteArray := prog_1_method_18_code
def yX9_save : MethodName := ⟨RX9, "save", "(I)I"⟩
abbrev cX9_restore : ByteArray := prog_1_method_19_code
def yX9_restore : MethodName := ⟨RX9, "restore", "(I)I"⟩
abbrev cX9_server : ByteArray := prog_1_method_20_code
def yX9_server : MethodName := ⟨RX9, "server", "(II)I"⟩
abbrev cX9_site : ByteArray := prog_1_method_21_code
def yX9_site : MethodName := ⟨RX9, "site", "(II)I"⟩
abbrev cX9_slot : ByteArray := prog_1_method_22_code
def yX9_slot : MethodName := ⟨RX9, "slot", "(III)I"⟩
abbrev cX9_router : ByteArray := prog_1_method_23_code
def yX9_router : MethodName := ⟨RX9, "router", "(II)I"⟩
abbrev cX9_map : ByteArray := prog_1_method_24_code
def yX9_map : MethodName := ⟨RX9, "map", "(III)I"⟩
abbrev cX9_answer : ByteArray := prog_1_method_25_code
def yX9_answer : MethodName := ⟨RX9, "answer", "(I)I"⟩
abbrev cX9_way : ByteArray := prog_1_method_26_code
def yX9_way : MethodName := ⟨RX9, "way", "(II)I"⟩
abbrev cX9_endingNext : ByteArray := prog_1_method_27_code
def yX9_endingNext : MethodName := ⟨RX9, "endingNext", "(I)I"⟩
abbrev cX9_total : ByteArray := prog_1_method_28_code
def yX9_total : MethodName := ⟨RX9, "total", "(I)I"⟩
abbrev cX9_wouldReach : ByteArray := prog_1_method_29_code
def yX9_wouldReach : MethodName := ⟨RX9, "wouldReach", "(IIII)I"⟩
abbrev cX9_wouldAsk : ByteArray := prog_1_method_30_code
def yX9_wouldAsk : MethodName := ⟨RX9, "wouldAsk", "(III)I"⟩
abbrev cX9_share : ByteArray := prog_1_method_31_code
def yX9_share : MethodName := ⟨RX9, "share", "(II)I"⟩
abbrev cX9_recorded : ByteArray := prog_1_method_32_code
def yX9_recorded : MethodName := ⟨RX9, "recorded", "(I)I"⟩
abbrev cX9_carryOutAct : ByteArray := prog_1_method_33_code
def yX9_carryOutAct : MethodName := ⟨RX9, "carryOutAct", "()I"⟩
abbrev cX9_isSave : ByteArray := prog_1_method_34_code
def yX9_isSave : MethodName := ⟨RX9, "isSave", "(I)Z"⟩
abbrev cX9_isSlot : ByteArray := prog_1_method_35_code
def yX9_isSlot : MethodName := ⟨RX9, "isSlot", "(I)Z"⟩
abbrev cX9_isName : ByteArray := prog_1_method_36_code
def yX9_isName : MethodName := ⟨RX9, "isName", "(I)Z"⟩
abbrev cX9_isFlow : ByteArray := prog_1_method_37_code
def yX9_isFlow : MethodName := ⟨RX9, "isFlow", "(I)Z"⟩
abbrev cX9_isPlaceOfSlot : ByteArray := prog_1_method_38_code
def yX9_isPlaceOfSlot : MethodName := ⟨RX9, "isPlaceOfSlot", "(I)Z"⟩
abbrev cX9_isBlock : ByteArray := prog_1_method_39_code
def yX9_isBlock : MethodName := ⟨RX9, "isBlock", "(II)Z"⟩
def RX10 : String := "NameMapsModel"
def TX10 : u_T := fun k => match k with
  | 0 => ("NameMapsModel", "now", "[I", true)
  | 1 => ("NameMapsModel", "kept", "[I", true)
  | 2 => ("NameMapsModel", "isSaved", "[I", true)
  | 3 => ("NameMapsModel", "states", "I", false)
  | 4 => ("NameMapsModel", "text", "[I", true)
  | 5 => ("NameMapsModel", "length", "I", false)
  | 6 => ("NameMapsModel", "at", "I", false)
  | 7 => ("NameMapsModel", "number", "I", false)
  | 8 => ("NameMapsModel", "act", "I", false)
  | 9 => ("NameMapsModel", "first", "I", false)
  | 10 => ("NameMapsModel", "second", "I", false)
  | _ => ("NameMapsModel", "third", "I", false)
def tyX10 : Nat → FieldType := fun k => match k with
  | 0 => .array .int
  | 1 => .array .int
  | 2 => .array .int
  | 3 => .int
  | 4 => .array .int
  | 5 => .int
  | 6 => .int
  | 7 => .int
  | 8 => .int
  | 9 => .int
  | 10 => .int
  | _ => .int
theorem nmX10 : ∀ a, a < 12 → ∀ b, b < 12 → a ≠ b → (TX10 a).2.1 ≠ (TX10 b).2.1 := by decide +kernel
theorem tyX10_ok : ∀ k, k < 12 → parseFieldDescriptor (TX10 k).2.2.1 = some (tyX10 k) := by decide +kernel
abbrev cX10_init : ByteArray := prog_12_method_1_code
def yX10_init : MethodName := ⟨RX10, "<init>", "()V"⟩
abbrev cX10_isIn : ByteArray := prog_12_method_2_code
def yX10_isIn : MethodName := ⟨RX10, "isIn", "(III)Z"⟩
abbrev cX10_isServer : ByteArray := prog_12_method_3_code
def yX10_isServer : MethodName := ⟨RX10, "isServer", "(I)Z"⟩
abbrev cX10_isSite : ByteArray := prog_12_method_4_code
def yX10_isSite : MethodName := ⟨RX10, "isSite", "(I)Z"⟩
abbrev cX10_isRouter : ByteArray := prog_12_method_5_code
def yX10_isRouter : MethodName := ⟨RX10, "isRouter", "(I)Z"⟩
abbrev cX10_isName : ByteArray := prog_12_method_6_code
def yX10_isName : MethodName := ⟨RX10, "isName", "(I)Z"⟩
abbrev cX10_siteAt : ByteArray := prog_12_method_7_code
def yX10_siteAt : MethodName := ⟨RX10, "siteAt", "(I)I"⟩
abbrev cX10_routerAt : ByteArray := prog_12_method_8_code
def yX10_routerAt : MethodName := ⟨RX10, "routerAt", "(I)I"⟩
abbrev cX10_mapAt : ByteArray := prog_12_method_9_code
def yX10_mapAt : MethodName := ⟨RX10, "mapAt", "(II)I"⟩
abbrev cX10_keeps : ByteArray := prog_12_method_10_code
def yX10_keeps : MethodName := ⟨RX10, "keeps", "(I)V"⟩
abbrev cX10_brings : ByteArray := prog_12_method_11_code
def yX10_brings : MethodName := ⟨RX10, "brings", "(I)V"⟩
abbrev cX10_records : ByteArray := prog_12_method_12_code
def yX10_records : MethodName := ⟨RX10, "records", "()V"⟩
abbrev cX10_undo : ByteArray := prog_12_method_13_code
def yX10_undo : MethodName := ⟨RX10, "undo", "()I"⟩
abbrev cX10_save : ByteArray := prog_12_method_14_code
def yX10_save : MethodName := ⟨RX10, "save", "(I)I"⟩
abbrev cX10_restore : ByteArray := prog_12_method_15_code
def yX10_restore : MethodName := ⟨RX10, "restore", "(I)I"⟩
abbrev cX10_isBlock : ByteArray := prog_12_method_16_code
def yX10_isBlock : MethodName := ⟨RX10, "isBlock", "(II)Z"⟩
abbrev cX10_firstOf : ByteArray := prog_12_method_17_code
def yX10_firstOf : MethodName := ⟨RX10, "firstOf", "(I)I"⟩
abbrev cX10_sizeOf : ByteArray := prog_12_method_18_code
def yX10_sizeOf : MethodName := ⟨RX10, "sizeOf", "(I)I"⟩
abbrev cX10_holds : ByteArray := prog_12_method_19_code
def yX10_holds : MethodName := ⟨RX10, "holds", "(III)Z"⟩
abbrev cX10_homeOf : ByteArray := prog_12_method_20_code
def yX10_homeOf : MethodName := ⟨RX10, "homeOf", "(II)I"⟩
abbrev cX10_wayTo : ByteArray := prog_12_method_21_code
def yX10_wayTo : MethodName := ⟨RX10, "wayTo", "(I)I"⟩
abbrev cX10_way : ByteArray := prog_12_method_22_code
def yX10_way : MethodName := ⟨RX10, "way", "(II)I"⟩
abbrev cX10_addServer : ByteArray := prog_12_method_23_code
def yX10_addServer : MethodName := ⟨RX10, "addServer", "(III)I"⟩
abbrev cX10_ofSite : ByteArray := prog_12_method_24_code
def yX10_ofSite : MethodName := ⟨RX10, "ofSite", "(II)I"⟩
abbrev cX10_has : ByteArray := prog_12_method_25_code
def yX10_has : MethodName := ⟨RX10, "has", "(II)Z"⟩
abbrev cX10_homeOfSite : ByteArray := prog_12_method_26_code
def yX10_homeOfSite : MethodName := ⟨RX10, "homeOfSite", "(I)I"⟩
abbrev cX10_isRegistered : ByteArray := prog_12_method_27_code
def yX10_isRegistered : MethodName := ⟨RX10, "isRegistered", "(I)Z"⟩
abbrev cX10_isUp : ByteArray := prog_12_method_28_code
def yX10_isUp : MethodName := ⟨RX10, "isUp", "(I)Z"⟩
abbrev cX10_answerOf : ByteArray := prog_12_method_29_code
def yX10_answerOf : MethodName := ⟨RX10, "answerOf", "(I)I"⟩
abbrev cX10_answer : ByteArray := prog_12_method_30_code
def yX10_answer : MethodName := ⟨RX10, "answer", "(I)I"⟩
abbrev cX10_addSite : ByteArray := prog_12_method_31_code
def yX10_addSite : MethodName := ⟨RX10, "addSite", "(III)I"⟩
abbrev cX10_addRouter : ByteArray := prog_12_method_32_code
def yX10_addRouter : MethodName := ⟨RX10, "addRouter", "()I"⟩
abbrev cX10_setSlot : ByteArray := prog_12_method_33_code
def yX10_setSlot : MethodName := ⟨RX10, "setSlot", "(IIIII)I"⟩
abbrev cX10_emptySlot : ByteArray := prog_12_method_34_code
def yX10_emptySlot : MethodName := ⟨RX10, "emptySlot", "(II)I"⟩
abbrev cX10_registers : ByteArray := prog_12_method_35_code
def yX10_registers : MethodName := ⟨RX10, "registers", "(I)I"⟩
abbrev cX10_register : ByteArray := prog_12_method_36_code
def yX10_register : MethodName := ⟨RX10, "register", "(I)I"⟩
abbrev cX10_unregisterError : ByteArray := prog_12_method_37_code
def yX10_unregisterError : MethodName := ⟨RX10, "unregisterError", "(I)I"⟩
abbrev cX10_unregisters : ByteArray := prog_12_method_38_code
def yX10_unregisters : MethodName := ⟨RX10, "unregisters", "(I)I"⟩
abbrev cX10_unregister : ByteArray := prog_12_method_39_code
def yX10_unregister : MethodName := ⟨RX10, "unregister", "(I)I"⟩
abbrev cX10_setMapLife : ByteArray := prog_12_method_40_code
def yX10_setMapLife : MethodName := ⟨RX10, "setMapLife", "(I)I"⟩
abbrev cX10_mapsOf : ByteArray := prog_12_method_41_code
def yX10_mapsOf : MethodName := ⟨RX10, "mapsOf", "(I)I"⟩
abbrev cX10_ofMap : ByteArray := prog_12_method_42_code
def yX10_ofMap : MethodName := ⟨RX10, "ofMap", "(III)I"⟩
abbrev cX10_drops : ByteArray := prog_12_method_43_code
def yX10_drops : MethodName := ⟨RX10, "drops", "(II)V"⟩
abbrev cX10_makesRoom : ByteArray := prog_12_method_44_code
def yX10_makesRoom : MethodName := ⟨RX10, "makesRoom", "(II)V"⟩
abbrev cX10_uses : ByteArray := prog_12_method_45_code
def yX10_uses : MethodName := ⟨RX10, "uses", "(II)V"⟩
abbrev cX10_asks : ByteArray := prog_12_method_46_code
def yX10_asks : MethodName := ⟨RX10, "asks", "(II)Z"⟩
abbrev cX10_chosen : ByteArray := prog_12_method_47_code
def yX10_chosen : MethodName := ⟨RX10, "chosen", "(II)I"⟩
abbrev cX10_isAt : ByteArray := prog_12_method_48_code
def yX10_isAt : MethodName := ⟨RX10, "isAt", "(II)Z"⟩
abbrev cX10_takes : ByteArray := prog_12_method_49_code
def yX10_takes : MethodName := ⟨RX10, "takes", "(II)I"⟩
abbrev cX10_proxy : ByteArray := prog_12_method_50_code
def yX10_proxy : MethodName := ⟨RX10, "proxy", "(II)I"⟩
abbrev cX10_sends : ByteArray := prog_12_method_51_code
def yX10_sends : MethodName := ⟨RX10, "sends", "(III)I"⟩
abbrev cX10_isLetter : ByteArray := prog_12_method_52_code
def yX10_isLetter : MethodName := ⟨RX10, "isLetter", "(II)Z"⟩
abbrev cX10_send : ByteArray := prog_12_method_53_code
def yX10_send : MethodName := ⟨RX10, "send", "(III)I"⟩
abbrev cX10_pass : ByteArray := prog_12_method_54_code
def yX10_pass : MethodName := ⟨RX10, "pass", "(I)I"⟩
abbrev cX10_forget : ByteArray := prog_12_method_55_code
def yX10_forget : MethodName := ⟨RX10, "forget", "(I)I"⟩
abbrev cX10_append : ByteArray := prog_12_method_56_code
def yX10_append : MethodName := ⟨RX10, "append", "(I)I"⟩
abbrev cX10_clearText : ByteArray := prog_12_method_57_code
def yX10_clearText : MethodName := ⟨RX10, "clearText", "()I"⟩
abbrev cX10_passesSign : ByteArray := prog_12_method_58_code
def yX10_passesSign : MethodName := ⟨RX10, "passesSign", "(I)Z"⟩
abbrev cX10_isDigitHere : ByteArray := prog_12_method_59_code
def yX10_isDigitHere : MethodName := ⟨RX10, "isDigitHere", "()Z"⟩
abbrev cX10_passesNumber : ByteArray := prog_12_method_60_code
def yX10_passesNumber : MethodName := ⟨RX10, "passesNumber", "(II)Z"⟩
abbrev cX10_passesLetter : ByteArray := prog_12_method_61_code
def yX10_passesLetter : MethodName := ⟨RX10, "passesLetter", "()Z"⟩
abbrev cX10_passesAct : ByteArray := prog_12_method_62_code
def yX10_passesAct : MethodName := ⟨RX10, "passesAct", "()Z"⟩
abbrev cX10_faultOf : ByteArray := prog_12_method_63_code
def yX10_faultOf : MethodName := ⟨RX10, "faultOf", "()I"⟩
abbrev cX10_faultPosition : ByteArray := prog_12_method_64_code
def yX10_faultPosition : MethodName := ⟨RX10, "faultPosition", "()I"⟩
abbrev cX10_does : ByteArray := prog_12_method_65_code
def yX10_does : MethodName := ⟨RX10, "does", "()Z"⟩
abbrev cX10_run : ByteArray := prog_12_method_66_code
def yX10_run : MethodName := ⟨RX10, "run", "()I"⟩
abbrev cX10_children : ByteArray := prog_12_method_67_code
def yX10_children : MethodName := ⟨RX10, "children", "(I)I"⟩
abbrev cX10_sitesOf : ByteArray := prog_12_method_68_code
def yX10_sitesOf : MethodName := ⟨RX10, "sitesOf", "(I)I"⟩
abbrev cX10_server : ByteArray := prog_12_method_69_code
def yX10_server : MethodName := ⟨RX10, "server", "(II)I"⟩
abbrev cX10_copiesOf : ByteArray := prog_12_method_70_code
def yX10_copiesOf : MethodName := ⟨RX10, "copiesOf", "(I)I"⟩
abbrev cX10_site : ByteArray := prog_12_method_71_code
def yX10_site : MethodName := ⟨RX10, "site", "(II)I"⟩
abbrev cX10_slot : ByteArray := prog_12_method_72_code
def yX10_slot : MethodName := ⟨RX10, "slot", "(III)I"⟩
abbrev cX10_router : ByteArray := prog_12_method_73_code
def yX10_router : MethodName := ⟨RX10, "router", "(II)I"⟩
abbrev cX10_map : ByteArray := prog_12_method_74_code
def yX10_map : MethodName := ⟨RX10, "map", "(III)I"⟩
abbrev cX10_isAhead : ByteArray := prog_12_method_75_code
def yX10_isAhead : MethodName := ⟨RX10, "isAhead", "(II)Z"⟩
abbrev cX10_endingNext : ByteArray := prog_12_method_76_code
def yX10_endingNext : MethodName := ⟨RX10, "endingNext", "(I)I"⟩
abbrev cX10_upMany : ByteArray := prog_12_method_77_code
def yX10_upMany : MethodName := ⟨RX10, "upMany", "()I"⟩
abbrev cX10_sumOf : ByteArray := prog_12_method_78_code
def yX10_sumOf : MethodName := ⟨RX10, "sumOf", "(I)I"⟩
abbrev cX10_answered : ByteArray := prog_12_method_79_code
def yX10_answered : MethodName := ⟨RX10, "answered", "()I"⟩
abbrev cX10_total : ByteArray := prog_12_method_80_code
def yX10_total : MethodName := ⟨RX10, "total", "(I)I"⟩
abbrev cX10_wouldReach : ByteArray := prog_12_method_81_code
def yX10_wouldReach : MethodName := ⟨RX10, "wouldReach", "(IIII)I"⟩
abbrev cX10_wouldAsk : ByteArray := prog_12_method_82_code
def yX10_wouldAsk : MethodName := ⟨RX10, "wouldAsk", "(III)I"⟩
abbrev cX10_share : ByteArray := prog_12_method_83_code
def yX10_share : MethodName := ⟨RX10, "share", "(II)I"⟩
def RJ6 : String := "java/lang/Integer"
abbrev cJ6_bitCount_0f7a4 : ByteArray := prog_13_method_49_code
def yJ6_bitCount_0f7a4 : MethodName := ⟨RJ6, "bitCount", "(I)I"⟩
def RJ9 : String := "java/lang/Math"
abbrev cJ9_floorMod_7cf53 : ByteArray := prog_14_method_50_code
def yJ9_floorMod_7cf53 : MethodName := ⟨RJ9, "floorMod", "(II)I"⟩
abbrev cJ9_min_7cf53 : ByteArray := prog_14_method_69_code
def yJ9_min_7cf53 : MethodName := ⟨RJ9, "min", "(II)I"⟩
def RL : String := "NameMapsLaw"
abbrev cL_law : ByteArray := code
def yL_law : MethodName := ⟨RL, "law", "([I)Z"⟩
abbrev vwCl : List vw_C := [(RX0, TX0, 8), (RX1, TX1, 2), (RX2, TX2, 6), (RX3, TX3, 3), (RX4, TX4, 7), (RX5, TX5, 2), (RX6, TX6, 5), (RX7, TX7, 1), (RX8, TX8, 8), (RX9, TX9, 6), (RX10, TX10, 12)]
