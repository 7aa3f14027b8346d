/-- words that any later state keeps -/
def isNest : Cond → Bool
  | .methodLinkNest _ _ _ _ => true
  | _ => false
def kw (w : Cond) : Bool := (w.onTables && w.keeps) || isNest w
def inT (w : Cond) : Prop := w ∈ lw_tbl ∧ kw w = true
theorem inT_at {w : Cond} (i : Nat) (h : lw_tbl[i]? = some w ∧ kw w = true) : inT w := ⟨List.mem_of_getElem? h.1, h.2⟩
def cnm : Nat → String := fun c => match c with
  | 0 => RX0
  | 1 => RX1
  | 2 => RX2
  | 3 => RX3
  | 4 => RX4
  | 5 => RX5
  | 6 => RX6
  | 7 => RX7
  | 8 => RX8
  | 9 => RX9
  | 10 => RX10
  | 24 => RL
  | 25 => RJ6
  | _ => RJ9
abbrev MRow : Type := MethodName × ByteArray × Nat × Option FieldType × Nat × Nat × Bool
/-- name, bytes, locals, answer, class, arguments (with the receiver), static -/
def mTab : List MRow := [(yX0_init, cX0_init, 1, none, 0, 1, false),
  (yX0_add, cX0_add, 2, (some .int), 0, 2, false),
  (yX0_rewind, cX0_rewind, 1, none, 0, 1, false),
  (yX0_findFault, cX0_findFault, 2, (some .int), 0, 1, false),
  (yX0_readAct, cX0_readAct, 1, (some .boolean), 0, 1, false),
  (yX0_readSending, cX0_readSending, 1, none, 0, 1, false),
  (yX0_readSign, cX0_readSign, 2, none, 0, 2, false),
  (yX0_readNumber, cX0_readNumber, 7, (some .int), 0, 3, false),
  (yX0_byteHere, cX0_byteHere, 2, (some .int), 0, 1, false),
  (yX0_isDigit, cX0_isDigit, 1, (some .boolean), 0, 1, true),
  (yX1_init, cX1_init, 1, none, 1, 1, false),
  (yX1_become, cX1_become, 3, none, 1, 3, false),
  (yX1_copyFrom, cX1_copyFrom, 2, none, 1, 2, false),
  (yX1_isAt, cX1_isAt, 3, (some .boolean), 1, 3, false),
  (yX1_has, cX1_has, 2, (some .boolean), 1, 2, false),
  (yX1_holds, cX1_holds, 3, (some .boolean), 1, 3, false),
  (yX1_meets, cX1_meets, 3, (some .boolean), 1, 3, false),
  (yX2_init, cX2_init, 1, none, 2, 1, false),
  (yX2_become, cX2_become, 4, none, 2, 4, false),
  (yX2_copyFrom, cX2_copyFrom, 2, none, 2, 2, false),
  (yX2_isHolding, cX2_isHolding, 2, (some .boolean), 2, 2, false),
  (yX2_property, cX2_property, 3, (some .int), 2, 3, false),
  (yX3_init, cX3_init, 2, none, 3, 1, false),
  (yX3_row, cX3_row, 2, (some .int), 3, 2, false),
  (yX3_draft, cX3_draft, 2, none, 3, 2, false),
  (yX3_keepDraft, cX3_keepDraft, 1, none, 3, 1, false),
  (yX3_takeLatest, cX3_takeLatest, 2, none, 3, 2, false),
  (yX4_init, cX4_init, 2, none, 4, 1, false),
  (yX4_start, cX4_start, 1, none, 4, 1, false),
  (yX4_copyFrom, cX4_copyFrom, 3, none, 4, 2, false),
  (yX4_isPlace, cX4_isPlace, 2, (some .boolean), 4, 2, false),
  (yX4_property, cX4_property, 2, (some .int), 4, 2, false),
  (yX4_moveToFront, cX4_moveToFront, 4, none, 4, 2, false),
  (yX4_drop, cX4_drop, 4, none, 4, 2, false),
  (yX4_dropEnded, cX4_dropEnded, 3, none, 4, 2, false),
  (yX4_placeOfSite, cX4_placeOfSite, 3, (some .int), 4, 2, false),
  (yX4_placeOfSmallest, cX4_placeOfSmallest, 6, (some .int), 4, 2, false),
  (yX4_addMap, cX4_addMap, 4, none, 4, 4, false),
  (yX5_init, cX5_init, 1, none, 5, 1, false),
  (yX5_copyFrom, cX5_copyFrom, 2, none, 5, 2, false),
  (yX6_init, cX6_init, 1, none, 6, 1, false),
  (yX6_start, cX6_start, 5, none, 6, 4, false),
  (yX6_copyFrom, cX6_copyFrom, 2, none, 6, 2, false),
  (yX6_isRegistered, cX6_isRegistered, 2, (some .boolean), 6, 2, false),
  (yX6_isUp, cX6_isUp, 2, (some .boolean), 6, 2, false),
  (yX7_init, cX7_init, 1, none, 7, 1, false),
  (yX7_copyFrom, cX7_copyFrom, 3, none, 7, 2, false),
  (yX7_fill, cX7_fill, 5, none, 7, 5, false),
  (yX7_propertyOf, cX7_propertyOf, 3, (some .int), 7, 3, false),
  (yX7_isEmpty, cX7_isEmpty, 2, (some .boolean), 7, 2, false),
  (yX7_areEmpty, cX7_areEmpty, 3, (some .boolean), 7, 1, false),
  (yX7_have, cX7_have, 3, (some .boolean), 7, 2, false),
  (yX7_lowestPriority, cX7_lowestPriority, 3, (some .int), 7, 1, false),
  (yX7_weightThatCounts, cX7_weightThatCounts, 3, (some .int), 7, 3, false),
  (yX7_placeFor, cX7_placeFor, 7, (some .int), 7, 2, false),
  (yX7_flowsTo, cX7_flowsTo, 4, (some .int), 7, 2, false),
  (yX8_init, cX8_init, 2, none, 8, 1, false),
  (yX8_copyFrom, cX8_copyFrom, 3, none, 8, 2, false),
  (yX8_isServer, cX8_isServer, 2, (some .boolean), 8, 2, false),
  (yX8_isSite, cX8_isSite, 2, (some .boolean), 8, 2, false),
  (yX8_isRouter, cX8_isRouter, 2, (some .boolean), 8, 2, false),
  (yX8_newServer, cX8_newServer, 6, (some .int), 8, 4, false),
  (yX8_newSite, cX8_newSite, 5, (some .int), 8, 4, false),
  (yX8_newRouter, cX8_newRouter, 1, (some .int), 8, 1, false),
  (yX8_fillSlot, cX8_fillSlot, 6, (some .int), 8, 6, false),
  (yX8_vacateSlot, cX8_vacateSlot, 3, (some .int), 8, 3, false),
  (yX8_startRegistration, cX8_startRegistration, 2, (some .int), 8, 2, false),
  (yX8_endRegistration, cX8_endRegistration, 3, (some .int), 8, 2, false),
  (yX8_changeMapLife, cX8_changeMapLife, 3, (some .int), 8, 2, false),
  (yX8_letPass, cX8_letPass, 2, (some .int), 8, 2, false),
  (yX8_emptyCache, cX8_emptyCache, 3, (some .int), 8, 2, false),
  (yX8_sendLetter, cX8_sendLetter, 7, (some .int), 8, 4, false),
  (yX8_placeByMap, cX8_placeByMap, 5, (some .int), 8, 3, false),
  (yX8_ask, cX8_ask, 4, (some .boolean), 8, 3, false),
  (yX8_goByProxy, cX8_goByProxy, 3, (some .int), 8, 3, false),
  (yX8_homeOf, cX8_homeOf, 6, (some .int), 8, 3, false),
  (yX8_homeOfSite, cX8_homeOfSite, 2, (some .int), 8, 2, false),
  (yX8_hopsTo, cX8_hopsTo, 4, (some .int), 8, 2, false),
  (yX8_answerFor, cX8_answerFor, 7, (some .int), 8, 2, false),
  (yX8_siteEndingAt, cX8_siteEndingAt, 3, (some .int), 8, 2, false),
  (yX8_sitesEndingAheadOf, cX8_sitesEndingAheadOf, 6, (some .int), 8, 2, false),
  (yX8_serverProperty, cX8_serverProperty, 3, (some .int), 8, 3, false),
  (yX8_childrenOf, cX8_childrenOf, 4, (some .int), 8, 2, false),
  (yX8_sitesAtHome, cX8_sitesAtHome, 4, (some .int), 8, 2, false),
  (yX8_siteProperty, cX8_siteProperty, 3, (some .int), 8, 3, false),
  (yX8_mapsOf, cX8_mapsOf, 4, (some .int), 8, 2, false),
  (yX8_totalOf, cX8_totalOf, 2, (some .int), 8, 2, false),
  (yX8_sitesUp, cX8_sitesUp, 3, (some .int), 8, 1, false),
  (yX8_sumOverRouters, cX8_sumOverRouters, 4, (some .int), 8, 2, false),
  (yX8_namesWithAnswer, cX8_namesWithAnswer, 3, (some .int), 8, 1, false),
  (yX9_init, cX9_init, 2, none, 9, 1, false),
  (yX9_addServer, cX9_addServer, 4, (some .int), 9, 4, false),
  (yX9_addSite, cX9_addSite, 4, (some .int), 9, 4, false),
  (yX9_addRouter, cX9_addRouter, 1, (some .int), 9, 1, false),
  (yX9_setSlot, cX9_setSlot, 6, (some .int), 9, 6, false),
  (yX9_emptySlot, cX9_emptySlot, 3, (some .int), 9, 3, false),
  (yX9_register, cX9_register, 2, (some .int), 9, 2, false),
  (yX9_unregister, cX9_unregister, 2, (some .int), 9, 2, false),
  (yX9_setMapLife, cX9_setMapLife, 2, (some .int), 9, 2, false),
  (yX9_send, cX9_send, 4, (some .int), 9, 4, false),
  (yX9_pass, cX9_pass, 2, (some .int), 9, 2, false),
  (yX9_forget, cX9_forget, 2, (some .int), 9, 2, false),
  (yX9_append, cX9_append, 2, (some .int), 9, 2, false),
  (yX9_clearText, cX9_clearText, 2, (some .int), 9, 1, false),
  (yX9_faultPosition, cX9_faultPosition, 2, (some .int), 9, 1, false),
  (yX9_run, cX9_run, 2, (some .int), 9, 1, false),
  (yX9_undo, cX9_undo, 1, (some .int), 9, 1, false),
  (yX9_save, cX9_save, 2, (some .int), 9, 2, false),
  (yX9_restore, cX9_restore, 2, (some .int), 9, 2, false),
  (yX9_server, cX9_server, 3, (some .int), 9, 3, false),
  (yX9_site, cX9_site, 3, (some .int), 9, 3, false),
  (yX9_slot, cX9_slot, 4, (some .int), 9, 4, false),
  (yX9_router, cX9_router, 3, (some .int), 9, 3, false),
  (yX9_map, cX9_map, 4, (some .int), 9, 4, false),
  (yX9_answer, cX9_answer, 3, (some .int), 9, 2, false),
  (yX9_way, cX9_way, 4, (some .int), 9, 3, false),
  (yX9_endingNext, cX9_endingNext, 3, (some .int), 9, 2, false),
  (yX9_total, cX9_total, 2, (some .int), 9, 2, false),
  (yX9_wouldReach, cX9_wouldReach, 5, (some .int), 9, 5, false),
  (yX9_wouldAsk, cX9_wouldAsk, 5, (some .int), 9, 4, false),
  (yX9_share, cX9_share, 3, (some .int), 9, 3, false),
  (yX9_recorded, cX9_recorded, 2, (some .int), 9, 2, false),
  (yX9_carryOutAct, cX9_carryOutAct, 1, (some .int), 9, 1, false),
  (yX9_isSave, cX9_isSave, 1, (some .boolean), 9, 1, true),
  (yX9_isSlot, cX9_isSlot, 1, (some .boolean), 9, 1, true),
  (yX9_isName, cX9_isName, 1, (some .boolean), 9, 1, true),
  (yX9_isFlow, cX9_isFlow, 1, (some .boolean), 9, 1, true),
  (yX9_isPlaceOfSlot, cX9_isPlaceOfSlot, 1, (some .boolean), 9, 1, true),
  (yX9_isBlock, cX9_isBlock, 2, (some .boolean), 9, 2, true),
  (yX10_init, cX10_init, 1, none, 10, 1, false),
  (yX10_isIn, cX10_isIn, 3, (some .boolean), 10, 3, true),
  (yX10_isServer, cX10_isServer, 2, (some .boolean), 10, 2, false),
  (yX10_isSite, cX10_isSite, 2, (some .boolean), 10, 2, false),
  (yX10_isRouter, cX10_isRouter, 2, (some .boolean), 10, 2, false),
  (yX10_isName, cX10_isName, 1, (some .boolean), 10, 1, true),
  (yX10_siteAt, cX10_siteAt, 1, (some .int), 10, 1, true),
  (yX10_routerAt, cX10_routerAt, 1, (some .int), 10, 1, true),
  (yX10_mapAt, cX10_mapAt, 2, (some .int), 10, 2, true),
  (yX10_keeps, cX10_keeps, 3, none, 10, 2, false),
  (yX10_brings, cX10_brings, 3, none, 10, 2, false),
  (yX10_records, cX10_records, 2, none, 10, 1, false),
  (yX10_undo, cX10_undo, 1, (some .int), 10, 1, false),
  (yX10_save, cX10_save, 2, (some .int), 10, 2, false),
  (yX10_restore, cX10_restore, 2, (some .int), 10, 2, false),
  (yX10_isBlock, cX10_isBlock, 3, (some .boolean), 10, 2, true),
  (yX10_firstOf, cX10_firstOf, 2, (some .int), 10, 2, false),
  (yX10_sizeOf, cX10_sizeOf, 2, (some .int), 10, 2, false),
  (yX10_holds, cX10_holds, 4, (some .boolean), 10, 4, false),
  (yX10_homeOf, cX10_homeOf, 5, (some .int), 10, 3, false),
  (yX10_wayTo, cX10_wayTo, 4, (some .int), 10, 2, false),
  (yX10_way, cX10_way, 4, (some .int), 10, 3, false),
  (yX10_addServer, cX10_addServer, 6, (some .int), 10, 4, false),
  (yX10_ofSite, cX10_ofSite, 3, (some .int), 10, 3, false),
  (yX10_has, cX10_has, 3, (some .boolean), 10, 3, false),
  (yX10_homeOfSite, cX10_homeOfSite, 2, (some .int), 10, 2, false),
  (yX10_isRegistered, cX10_isRegistered, 2, (some .boolean), 10, 2, false),
  (yX10_isUp, cX10_isUp, 4, (some .boolean), 10, 2, false),
  (yX10_answerOf, cX10_answerOf, 6, (some .int), 10, 2, false),
  (yX10_answer, cX10_answer, 2, (some .int), 10, 2, false),
  (yX10_addSite, cX10_addSite, 6, (some .int), 10, 4, false),
  (yX10_addRouter, cX10_addRouter, 2, (some .int), 10, 1, false),
  (yX10_setSlot, cX10_setSlot, 7, (some .int), 10, 6, false),
  (yX10_emptySlot, cX10_emptySlot, 4, (some .int), 10, 3, false),
  (yX10_registers, cX10_registers, 2, (some .int), 10, 2, false),
  (yX10_register, cX10_register, 2, (some .int), 10, 2, false),
  (yX10_unregisterError, cX10_unregisterError, 2, (some .int), 10, 2, false),
  (yX10_unregisters, cX10_unregisters, 3, (some .int), 10, 2, false),
  (yX10_unregister, cX10_unregister, 3, (some .int), 10, 2, false),
  (yX10_setMapLife, cX10_setMapLife, 3, (some .int), 10, 2, false),
  (yX10_mapsOf, cX10_mapsOf, 2, (some .int), 10, 2, false),
  (yX10_ofMap, cX10_ofMap, 4, (some .int), 10, 4, false),
  (yX10_drops, cX10_drops, 4, none, 10, 3, false),
  (yX10_makesRoom, cX10_makesRoom, 4, none, 10, 3, false),
  (yX10_uses, cX10_uses, 6, none, 10, 3, false),
  (yX10_asks, cX10_asks, 6, (some .boolean), 10, 3, false),
  (yX10_chosen, cX10_chosen, 8, (some .int), 10, 3, false),
  (yX10_isAt, cX10_isAt, 6, (some .boolean), 10, 3, false),
  (yX10_takes, cX10_takes, 7, (some .int), 10, 3, false),
  (yX10_proxy, cX10_proxy, 3, (some .int), 10, 3, false),
  (yX10_sends, cX10_sends, 7, (some .int), 10, 4, false),
  (yX10_isLetter, cX10_isLetter, 2, (some .boolean), 10, 2, true),
  (yX10_send, cX10_send, 4, (some .int), 10, 4, false),
  (yX10_pass, cX10_pass, 2, (some .int), 10, 2, false),
  (yX10_forget, cX10_forget, 3, (some .int), 10, 2, false),
  (yX10_append, cX10_append, 2, (some .int), 10, 2, false),
  (yX10_clearText, cX10_clearText, 2, (some .int), 10, 1, false),
  (yX10_passesSign, cX10_passesSign, 3, (some .boolean), 10, 2, false),
  (yX10_isDigitHere, cX10_isDigitHere, 1, (some .boolean), 10, 1, false),
  (yX10_passesNumber, cX10_passesNumber, 6, (some .boolean), 10, 3, false),
  (yX10_passesLetter, cX10_passesLetter, 1, (some .boolean), 10, 1, false),
  (yX10_passesAct, cX10_passesAct, 2, (some .boolean), 10, 1, false),
  (yX10_faultOf, cX10_faultOf, 1, (some .int), 10, 1, false),
  (yX10_faultPosition, cX10_faultPosition, 1, (some .int), 10, 1, false),
  (yX10_does, cX10_does, 2, (some .boolean), 10, 1, false),
  (yX10_run, cX10_run, 3, (some .int), 10, 1, false),
  (yX10_children, cX10_children, 4, (some .int), 10, 2, false),
  (yX10_sitesOf, cX10_sitesOf, 4, (some .int), 10, 2, false),
  (yX10_server, cX10_server, 3, (some .int), 10, 3, false),
  (yX10_copiesOf, cX10_copiesOf, 5, (some .int), 10, 2, false),
  (yX10_site, cX10_site, 3, (some .int), 10, 3, false),
  (yX10_slot, cX10_slot, 5, (some .int), 10, 4, false),
  (yX10_router, cX10_router, 3, (some .int), 10, 3, false),
  (yX10_map, cX10_map, 4, (some .int), 10, 4, false),
  (yX10_isAhead, cX10_isAhead, 5, (some .boolean), 10, 3, false),
  (yX10_endingNext, cX10_endingNext, 5, (some .int), 10, 2, false),
  (yX10_upMany, cX10_upMany, 3, (some .int), 10, 1, false),
  (yX10_sumOf, cX10_sumOf, 4, (some .int), 10, 2, false),
  (yX10_answered, cX10_answered, 3, (some .int), 10, 1, false),
  (yX10_total, cX10_total, 2, (some .int), 10, 2, false),
  (yX10_wouldReach, cX10_wouldReach, 6, (some .int), 10, 5, false),
  (yX10_wouldAsk, cX10_wouldAsk, 6, (some .int), 10, 4, false),
  (yX10_share, cX10_share, 5, (some .int), 10, 3, false),
  (yJ6_bitCount_0f7a4, cJ6_bitCount_0f7a4, 1, (some .int), 25, 1, true),
  (yJ9_floorMod_7cf53, cJ9_floorMod_7cf53, 3, (some .int), 26, 2, true),
  (yL_law, cL_law, 4, (some .boolean), 24, 1, true)]
def mRow (m : Nat) : MRow := mTab.getD m (⟨"", "", ""⟩, code, 0, none, 0, 0, false)
def codT (m : Nat) : List Ent := allCo.getD m []
def retT (m : Nat) : Nat := allRet.getD m 9
/-- links of fields: the class that holds the link, its entry, the class and the field -/
def flT : List (Nat × Nat × Nat × Nat) := [(1, 7, 1, 0), (8, 226, 1, 0), (1, 13, 1, 1), (8, 79, 1, 1), (4, 64, 1, 1), (5, 12, 5, 0), (8, 37, 5, 0), (5, 18, 5, 1), (8, 82, 5, 1), (7, 11, 7, 0), (6, 12, 6, 0), (2, 25, 6, 0), (8, 88, 6, 0), (6, 21, 6, 1), (2, 32, 6, 1), (8, 107, 6, 1), (9, 141, 6, 1), (6, 29, 6, 2), (8, 123, 6, 2), (6, 33, 6, 3), (2, 40, 6, 3), (8, 117, 6, 3), (6, 36, 6, 4), (8, 126, 6, 4), (2, 12, 2, 0), (4, 55, 2, 0), (2, 21, 2, 1), (8, 189, 2, 1), (2, 36, 2, 2), (4, 52, 2, 2), (8, 193, 2, 2), (2, 43, 2, 3), (8, 202, 2, 3), (2, 44, 2, 4), (2, 47, 2, 5), (8, 162, 2, 5), (4, 11, 4, 0), (8, 158, 4, 0), (9, 167, 4, 0), (4, 18, 4, 1), (8, 135, 4, 1), (4, 22, 4, 2), (8, 203, 4, 2), (9, 193, 4, 2), (4, 25, 4, 3), (8, 206, 4, 3), (4, 28, 4, 4), (8, 144, 4, 4), (4, 31, 4, 5), (8, 223, 4, 5), (4, 34, 4, 6), (8, 186, 4, 6), (8, 11, 8, 0), (8, 19, 8, 1), (9, 137, 8, 1), (8, 25, 8, 2), (9, 155, 8, 2), (8, 29, 8, 3), (8, 53, 8, 4), (8, 59, 8, 5), (8, 65, 8, 6), (9, 119, 8, 6), (8, 33, 8, 7), (3, 13, 3, 0), (3, 18, 3, 1), (3, 28, 3, 2), (9, 106, 3, 2), (0, 9, 0, 0), (0, 19, 0, 1), (9, 89, 0, 1), (0, 22, 0, 2), (0, 15, 0, 3), (0, 36, 0, 4), (9, 205, 0, 4), (0, 46, 0, 5), (9, 208, 0, 5), (0, 53, 0, 6), (9, 211, 0, 6), (0, 56, 0, 7), (9, 214, 0, 7), (9, 10, 9, 0), (9, 16, 9, 1), (9, 22, 9, 2), (9, 26, 9, 3), (9, 30, 9, 4), (9, 37, 9, 5), (10, 7, 10, 0), (10, 13, 10, 1), (10, 16, 10, 2), (10, 26, 10, 3), (10, 19, 10, 4), (10, 148, 10, 5), (10, 151, 10, 6), (10, 158, 10, 7), (10, 176, 10, 8), (10, 164, 10, 9), (10, 170, 10, 10), (10, 173, 10, 11)]
def tOf (c : Nat) : u_T := (vwCl.getD c ("", TX0, 0)).2.1
def flOk (q : Nat × Nat × Nat × Nat) : Prop := inT (.fieldLink (cnm q.1) q.2.1 (cnm q.2.2.1) (tOf q.2.2.1 q.2.2.2).2.1 (tOf q.2.2.1 q.2.2.2).2.2.1)
theorem fl_0 : flOk (1, 7, 1, 0) := inT_at 109 (by decide +kernel)
theorem fl_1 : flOk (8, 226, 1, 0) := inT_at 110 (by decide +kernel)
theorem fl_2 : flOk (1, 13, 1, 1) := inT_at 111 (by decide +kernel)
theorem fl_3 : flOk (8, 79, 1, 1) := inT_at 112 (by decide +kernel)
theorem fl_4 : flOk (4, 64, 1, 1) := inT_at 113 (by decide +kernel)
theorem fl_5 : flOk (5, 12, 5, 0) := inT_at 119 (by decide +kernel)
theorem fl_6 : flOk (8, 37, 5, 0) := inT_at 120 (by decide +kernel)
theorem fl_7 : flOk (5, 18, 5, 1) := inT_at 121 (by decide +kernel)
theorem fl_8 : flOk (8, 82, 5, 1) := inT_at 122 (by decide +kernel)
theorem fl_9 : flOk (7, 11, 7, 0) := inT_at 145 (by decide +kernel)
theorem fl_10 : flOk (6, 12, 6, 0) := inT_at 150 (by decide +kernel)
theorem fl_11 : flOk (2, 25, 6, 0) := inT_at 151 (by decide +kernel)
theorem fl_12 : flOk (8, 88, 6, 0) := inT_at 152 (by decide +kernel)
theorem fl_13 : flOk (6, 21, 6, 1) := inT_at 153 (by decide +kernel)
theorem fl_14 : flOk (2, 32, 6, 1) := inT_at 154 (by decide +kernel)
theorem fl_15 : flOk (8, 107, 6, 1) := inT_at 155 (by decide +kernel)
theorem fl_16 : flOk (9, 141, 6, 1) := inT_at 156 (by decide +kernel)
theorem fl_17 : flOk (6, 29, 6, 2) := inT_at 157 (by decide +kernel)
theorem fl_18 : flOk (8, 123, 6, 2) := inT_at 158 (by decide +kernel)
theorem fl_19 : flOk (6, 33, 6, 3) := inT_at 159 (by decide +kernel)
theorem fl_20 : flOk (2, 40, 6, 3) := inT_at 160 (by decide +kernel)
theorem fl_21 : flOk (8, 117, 6, 3) := inT_at 161 (by decide +kernel)
theorem fl_22 : flOk (6, 36, 6, 4) := inT_at 162 (by decide +kernel)
theorem fl_23 : flOk (8, 126, 6, 4) := inT_at 163 (by decide +kernel)
theorem fl_24 : flOk (2, 12, 2, 0) := inT_at 191 (by decide +kernel)
theorem fl_25 : flOk (4, 55, 2, 0) := inT_at 192 (by decide +kernel)
theorem fl_26 : flOk (2, 21, 2, 1) := inT_at 193 (by decide +kernel)
theorem fl_27 : flOk (8, 189, 2, 1) := inT_at 194 (by decide +kernel)
theorem fl_28 : flOk (2, 36, 2, 2) := inT_at 195 (by decide +kernel)
theorem fl_29 : flOk (4, 52, 2, 2) := inT_at 196 (by decide +kernel)
theorem fl_30 : flOk (8, 193, 2, 2) := inT_at 197 (by decide +kernel)
theorem fl_31 : flOk (2, 43, 2, 3) := inT_at 198 (by decide +kernel)
theorem fl_32 : flOk (8, 202, 2, 3) := inT_at 199 (by decide +kernel)
theorem fl_33 : flOk (2, 44, 2, 4) := inT_at 200 (by decide +kernel)
theorem fl_34 : flOk (2, 47, 2, 5) := inT_at 201 (by decide +kernel)
theorem fl_35 : flOk (8, 162, 2, 5) := inT_at 202 (by decide +kernel)
theorem fl_36 : flOk (4, 11, 4, 0) := inT_at 216 (by decide +kernel)
theorem fl_37 : flOk (8, 158, 4, 0) := inT_at 217 (by decide +kernel)
theorem fl_38 : flOk (9, 167, 4, 0) := inT_at 218 (by decide +kernel)
theorem fl_39 : flOk (4, 18, 4, 1) := inT_at 219 (by decide +kernel)
theorem fl_40 : flOk (8, 135, 4, 1) := inT_at 220 (by decide +kernel)
theorem fl_41 : flOk (4, 22, 4, 2) := inT_at 221 (by decide +kernel)
theorem fl_42 : flOk (8, 203, 4, 2) := inT_at 222 (by decide +kernel)
theorem fl_43 : flOk (9, 193, 4, 2) := inT_at 223 (by decide +kernel)
theorem fl_44 : flOk (4, 25, 4, 3) := inT_at 224 (by decide +kernel)
theorem fl_45 : flOk (8, 206, 4, 3) := inT_at 225 (by decide +kernel)
theorem fl_46 : flOk (4, 28, 4, 4) := inT_at 226 (by decide +kernel)
theorem fl_47 : flOk (8, 144, 4, 4) := inT_at 227 (by decide +kernel)
theorem fl_48 : flOk (4, 31, 4, 5) := inT_at 228 (by decide +kernel)
theorem fl_49 : flOk (8, 223, 4, 5) := inT_at 229 (by decide +kernel)
theorem fl_50 : flOk (4, 34, 4, 6) := inT_at 230 (by decide +kernel)
theorem fl_51 : flOk (8, 186, 4, 6) := inT_at 231 (by decide +kernel)
theorem fl_52 : flOk (8, 11, 8, 0) := inT_at 247 (by decide +kernel)
theorem fl_53 : flOk (8, 19, 8, 1) := inT_at 248 (by decide +kernel)
theorem fl_54 : flOk (9, 137, 8, 1) := inT_at 249 (by decide +kernel)
theorem fl_55 : flOk (8, 25, 8, 2) := inT_at 250 (by decide +kernel)
theorem fl_56 : flOk (9, 155, 8, 2) := inT_at 251 (by decide +kernel)
theorem fl_57 : flOk (8, 29, 8, 3) := inT_at 252 (by decide +kernel)
theorem fl_58 : flOk (8, 53, 8, 4) := inT_at 253 (by decide +kernel)
theorem fl_59 : flOk (8, 59, 8, 5) := inT_at 254 (by decide +kernel)
theorem fl_60 : flOk (8, 65, 8, 6) := inT_at 255 (by decide +kernel)
theorem fl_61 : flOk (9, 119, 8, 6) := inT_at 256 (by decide +kernel)
theorem fl_62 : flOk (8, 33, 8, 7) := inT_at 257 (by decide +kernel)
theorem fl_63 : flOk (3, 13, 3, 0) := inT_at 284 (by decide +kernel)
theorem fl_64 : flOk (3, 18, 3, 1) := inT_at 285 (by decide +kernel)
theorem fl_65 : flOk (3, 28, 3, 2) := inT_at 286 (by decide +kernel)
theorem fl_66 : flOk (9, 106, 3, 2) := inT_at 287 (by decide +kernel)
theorem fl_67 : flOk (0, 9, 0, 0) := inT_at 301 (by decide +kernel)
theorem fl_68 : flOk (0, 19, 0, 1) := inT_at 302 (by decide +kernel)
theorem fl_69 : flOk (9, 89, 0, 1) := inT_at 303 (by decide +kernel)
theorem fl_70 : flOk (0, 22, 0, 2) := inT_at 304 (by decide +kernel)
theorem fl_71 : flOk (0, 15, 0, 3) := inT_at 305 (by decide +kernel)
theorem fl_72 : flOk (0, 36, 0, 4) := inT_at 306 (by decide +kernel)
theorem fl_73 : flOk (9, 205, 0, 4) := inT_at 307 (by decide +kernel)
theorem fl_74 : flOk (0, 46, 0, 5) := inT_at 308 (by decide +kernel)
theorem fl_75 : flOk (9, 208, 0, 5) := inT_at 309 (by decide +kernel)
theorem fl_76 : flOk (0, 53, 0, 6) := inT_at 310 (by decide +kernel)
theorem fl_77 : flOk (9, 211, 0, 6) := inT_at 311 (by decide +kernel)
theorem fl_78 : flOk (0, 56, 0, 7) := inT_at 312 (by decide +kernel)
theorem fl_79 : flOk (9, 214, 0, 7) := inT_at 313 (by decide +kernel)
theorem fl_80 : flOk (9, 10, 9, 0) := inT_at 333 (by decide +kernel)
theorem fl_81 : flOk (9, 16, 9, 1) := inT_at 334 (by decide +kernel)
theorem fl_82 : flOk (9, 22, 9, 2) := inT_at 335 (by decide +kernel)
theorem fl_83 : flOk (9, 26, 9, 3) := inT_at 336 (by decide +kernel)
theorem fl_84 : flOk (9, 30, 9, 4) := inT_at 337 (by decide +kernel)
theorem fl_85 : flOk (9, 37, 9, 5) := inT_at 338 (by decide +kernel)
theorem fl_86 : flOk (10, 7, 10, 0) := inT_at 865 (by decide +kernel)
theorem fl_87 : flOk (10, 13, 10, 1) := inT_at 866 (by decide +kernel)
theorem fl_88 : flOk (10, 16, 10, 2) := inT_at 867 (by decide +kernel)
theorem fl_89 : flOk (10, 26, 10, 3) := inT_at 868 (by decide +kernel)
theorem fl_90 : flOk (10, 19, 10, 4) := inT_at 869 (by decide +kernel)
theorem fl_91 : flOk (10, 148, 10, 5) := inT_at 870 (by decide +kernel)
theorem fl_92 : flOk (10, 151, 10, 6) := inT_at 871 (by decide +kernel)
theorem fl_93 : flOk (10, 158, 10, 7) := inT_at 872 (by decide +kernel)
theorem fl_94 : flOk (10, 176, 10, 8) := inT_at 873 (by decide +kernel)
theorem fl_95 : flOk (10, 164, 10, 9) := inT_at 874 (by decide +kernel)
theorem fl_96 : flOk (10, 170, 10, 10) := inT_at 875 (by decide +kernel)
theorem fl_97 : flOk (10, 173, 10, 11) := inT_at 876 (by decide +kernel)
set_option maxRecDepth 100000 in
theorem flT_ok : ∀ q ∈ flT, flOk q := List.forall_mem_cons.mpr ⟨fl_0, List.forall_mem_cons.mpr ⟨fl_1, List.forall_mem_cons.mpr ⟨fl_2, List.forall_mem_cons.mpr ⟨fl_3, List.forall_mem_cons.mpr ⟨fl_4, List.forall_mem_cons.mpr ⟨fl_5, List.forall_mem_cons.mpr ⟨fl_6, List.forall_mem_cons.mpr ⟨fl_7, List.forall_mem_cons.mpr ⟨fl_8, List.forall_mem_cons.mpr ⟨fl_9, List.forall_mem_cons.mpr ⟨fl_10, List.forall_mem_cons.mpr ⟨fl_11, List.forall_mem_cons.mpr ⟨fl_12, List.forall_mem_cons.mpr ⟨fl_13, List.forall_mem_cons.mpr ⟨fl_14, List.forall_mem_cons.mpr ⟨fl_15, List.forall_mem_cons.mpr ⟨fl_16, List.forall_mem_cons.mpr ⟨fl_17, List.forall_mem_cons.mpr ⟨fl_18, List.forall_mem_cons.mpr ⟨fl_19, List.forall_mem_cons.mpr ⟨fl_20, List.forall_mem_cons.mpr ⟨fl_21, List.forall_mem_cons.mpr ⟨fl_22, List.forall_mem_cons.mpr ⟨fl_23, List.forall_mem_cons.mpr ⟨fl_24, List.forall_mem_cons.mpr ⟨fl_25, List.forall_mem_cons.mpr ⟨fl_26, List.forall_mem_cons.mpr ⟨fl_27, List.forall_mem_cons.mpr ⟨fl_28, List.forall_mem_cons.mpr ⟨fl_29, List.forall_mem_cons.mpr ⟨fl_30, List.forall_mem_cons.mpr ⟨fl_31, List.forall_mem_cons.mpr ⟨fl_32, List.forall_mem_cons.mpr ⟨fl_33, List.forall_mem_cons.mpr ⟨fl_34, List.forall_mem_cons.mpr ⟨fl_35, List.forall_mem_cons.mpr ⟨fl_36, List.forall_mem_cons.mpr ⟨fl_37, List.forall_mem_cons.mpr ⟨fl_38, List.forall_mem_cons.mpr ⟨fl_39, List.forall_mem_cons.mpr ⟨fl_40, List.forall_mem_cons.mpr ⟨fl_41, List.forall_mem_cons.mpr ⟨fl_42, List.forall_mem_cons.mpr ⟨fl_43, List.forall_mem_cons.mpr ⟨fl_44, List.forall_mem_cons.mpr ⟨fl_45, List.forall_mem_cons.mpr ⟨fl_46, List.forall_mem_cons.mpr ⟨fl_47, List.forall_mem_cons.mpr ⟨fl_48, List.forall_mem_cons.mpr ⟨fl_49, List.forall_mem_cons.mpr ⟨fl_50, List.forall_mem_cons.mpr ⟨fl_51, List.forall_mem_cons.mpr ⟨fl_52, List.forall_mem_cons.mpr ⟨fl_53, List.forall_mem_cons.mpr ⟨fl_54, List.forall_mem_cons.mpr ⟨fl_55, List.forall_mem_cons.mpr ⟨fl_56, List.forall_mem_cons.mpr ⟨fl_57, List.forall_mem_cons.mpr ⟨fl_58, List.forall_mem_cons.mpr ⟨fl_59, List.forall_mem_cons.mpr ⟨fl_60, List.forall_mem_cons.mpr ⟨fl_61, List.forall_mem_cons.mpr ⟨fl_62, List.forall_mem_cons.mpr ⟨fl_63, List.forall_mem_cons.mpr ⟨fl_64, List.forall_mem_cons.mpr ⟨fl_65, List.forall_mem_cons.mpr ⟨fl_66, List.forall_mem_cons.mpr ⟨fl_67, List.forall_mem_cons.mpr ⟨fl_68, List.forall_mem_cons.mpr ⟨fl_69, List.forall_mem_cons.mpr ⟨fl_70, List.forall_mem_cons.mpr ⟨fl_71, List.forall_mem_cons.mpr ⟨fl_72, List.forall_mem_cons.mpr ⟨fl_73, List.forall_mem_cons.mpr ⟨fl_74, List.forall_mem_cons.mpr ⟨fl_75, List.forall_mem_cons.mpr ⟨fl_76, List.forall_mem_cons.mpr ⟨fl_77, List.forall_mem_cons.mpr ⟨fl_78, List.forall_mem_cons.mpr ⟨fl_79, List.forall_mem_cons.mpr ⟨fl_80, List.forall_mem_cons.mpr ⟨fl_81, List.forall_mem_cons.mpr ⟨fl_82, List.forall_mem_cons.mpr ⟨fl_83, List.forall_mem_cons.mpr ⟨fl_84, List.forall_mem_cons.mpr ⟨fl_85, List.forall_mem_cons.mpr ⟨fl_86, List.forall_mem_cons.mpr ⟨fl_87, List.forall_mem_cons.mpr ⟨fl_88, List.forall_mem_cons.mpr ⟨fl_89, List.forall_mem_cons.mpr ⟨fl_90, List.forall_mem_cons.mpr ⟨fl_91, List.forall_mem_cons.mpr ⟨fl_92, List.forall_mem_cons.mpr ⟨fl_93, List.forall_mem_cons.mpr ⟨fl_94, List.forall_mem_cons.mpr ⟨fl_95, List.forall_mem_cons.mpr ⟨fl_96, List.forall_mem_cons.mpr ⟨fl_97, fun _ h => absurd h List.not_mem_nil⟩⟩⟩⟩⟩⟩⟩⟩⟩⟩⟩⟩⟩⟩⟩⟩⟩⟩⟩⟩⟩⟩⟩⟩⟩⟩⟩⟩⟩⟩⟩⟩⟩⟩⟩⟩⟩⟩⟩⟩⟩⟩⟩⟩⟩⟩⟩⟩⟩⟩⟩⟩⟩⟩⟩⟩⟩⟩⟩⟩⟩⟩⟩⟩⟩⟩⟩⟩⟩⟩⟩⟩⟩⟩⟩⟩⟩⟩⟩⟩⟩⟩⟩⟩⟩⟩⟩⟩⟩⟩⟩⟩⟩⟩⟩⟩⟩⟩
def mhOk (r : MRow) : Prop := (r.1.cls ≠ "java/lang/invoke/MethodHandle" ∧ r.1.cls ≠ "java/lang/invoke/VarHandle") ∧ (parseMethodDescriptor r.1.desc).map (fun d => d.parameters.length) = some (r.2.2.2.2.2.1 - if r.2.2.2.2.2.2 = true then 0 else 1) ∧ plainFor r.1 = true ∧ cnm r.2.2.2.2.1 = r.1.cls ∧ r.2.2.1 ≤ 19 ∧ (r.2.2.2.2.2.2 = false → 0 < r.2.2.2.2.2.1)
theorem mh_all : ∀ r ∈ mTab, mhOk r := by unfold mhOk; decide +kernel
def mwOk (r : MRow) : Prop := inT (.code r.1 r.2.1 r.2.2.1 r.2.2.2.1) ∧ inT (.initialized r.1.cls) ∧ (if r.2.2.2.2.2.2 = true then inT (.static r.1) else inT (.instanceMethod r.1) ∧ (r.1.name = "<init>" ∨ inT (.selects r.1.cls r.1 r.1)))
theorem mw_X0_init : mwOk (mRow m_X0_init) := ⟨inT_at 299 (by decide +kernel), inT_at 74 (by decide +kernel), ⟨inT_at 298 (by decide +kernel), Or.inl rfl⟩⟩
theorem mw_X0_add : mwOk (mRow m_X0_add) := ⟨inT_at 664 (by decide +kernel), inT_at 74 (by decide +kernel), ⟨inT_at 662 (by decide +kernel), Or.inr (inT_at 663 (by decide +kernel))⟩⟩
theorem mw_X0_rewind : mwOk (mRow m_X0_rewind) := ⟨inT_at 680 (by decide +kernel), inT_at 74 (by decide +kernel), ⟨inT_at 678 (by decide +kernel), Or.inr (inT_at 679 (by decide +kernel))⟩⟩
theorem mw_X0_findFault : mwOk (mRow m_X0_findFault) := ⟨inT_at 676 (by decide +kernel), inT_at 74 (by decide +kernel), ⟨inT_at 674 (by decide +kernel), Or.inr (inT_at 675 (by decide +kernel))⟩⟩
theorem mw_X0_readAct : mwOk (mRow m_X0_readAct) := ⟨inT_at 684 (by decide +kernel), inT_at 74 (by decide +kernel), ⟨inT_at 682 (by decide +kernel), Or.inr (inT_at 683 (by decide +kernel))⟩⟩
theorem mw_X0_readSending : mwOk (mRow m_X0_readSending) := ⟨inT_at 692 (by decide +kernel), inT_at 74 (by decide +kernel), ⟨inT_at 691 (by decide +kernel), Or.inr (inT_at 8 (by decide +kernel))⟩⟩
theorem mw_X0_readSign : mwOk (mRow m_X0_readSign) := ⟨inT_at 696 (by decide +kernel), inT_at 74 (by decide +kernel), ⟨inT_at 695 (by decide +kernel), Or.inr (inT_at 9 (by decide +kernel))⟩⟩
theorem mw_X0_readNumber : mwOk (mRow m_X0_readNumber) := ⟨inT_at 700 (by decide +kernel), inT_at 74 (by decide +kernel), ⟨inT_at 699 (by decide +kernel), Or.inr (inT_at 10 (by decide +kernel))⟩⟩
theorem mw_X0_byteHere : mwOk (mRow m_X0_byteHere) := ⟨inT_at 688 (by decide +kernel), inT_at 74 (by decide +kernel), ⟨inT_at 687 (by decide +kernel), Or.inr (inT_at 7 (by decide +kernel))⟩⟩
theorem mw_X0_isDigit : mwOk (mRow m_X0_isDigit) := ⟨inT_at 703 (by decide +kernel), inT_at 74 (by decide +kernel), inT_at 702 (by decide +kernel)⟩
theorem mw_X1_init : mwOk (mRow m_X1_init) := ⟨inT_at 107 (by decide +kernel), inT_at 68 (by decide +kernel), ⟨inT_at 106 (by decide +kernel), Or.inl rfl⟩⟩
theorem mw_X1_become : mwOk (mRow m_X1_become) := ⟨inT_at 131 (by decide +kernel), inT_at 68 (by decide +kernel), ⟨inT_at 129 (by decide +kernel), Or.inr (inT_at 130 (by decide +kernel))⟩⟩
theorem mw_X1_copyFrom : mwOk (mRow m_X1_copyFrom) := ⟨inT_at 378 (by decide +kernel), inT_at 68 (by decide +kernel), ⟨inT_at 376 (by decide +kernel), Or.inr (inT_at 377 (by decide +kernel))⟩⟩
theorem mw_X1_isAt : mwOk (mRow m_X1_isAt) := ⟨inT_at 445 (by decide +kernel), inT_at 68 (by decide +kernel), ⟨inT_at 443 (by decide +kernel), Or.inr (inT_at 444 (by decide +kernel))⟩⟩
theorem mw_X1_has : mwOk (mRow m_X1_has) := ⟨inT_at 566 (by decide +kernel), inT_at 68 (by decide +kernel), ⟨inT_at 564 (by decide +kernel), Or.inr (inT_at 565 (by decide +kernel))⟩⟩
theorem mw_X1_holds : mwOk (mRow m_X1_holds) := ⟨inT_at 421 (by decide +kernel), inT_at 68 (by decide +kernel), ⟨inT_at 419 (by decide +kernel), Or.inr (inT_at 420 (by decide +kernel))⟩⟩
theorem mw_X1_meets : mwOk (mRow m_X1_meets) := ⟨inT_at 425 (by decide +kernel), inT_at 68 (by decide +kernel), ⟨inT_at 423 (by decide +kernel), Or.inr (inT_at 424 (by decide +kernel))⟩⟩
theorem mw_X2_init : mwOk (mRow m_X2_init) := ⟨inT_at 185 (by decide +kernel), inT_at 72 (by decide +kernel), ⟨inT_at 184 (by decide +kernel), Or.inl rfl⟩⟩
theorem mw_X2_become : mwOk (mRow m_X2_become) := ⟨inT_at 610 (by decide +kernel), inT_at 72 (by decide +kernel), ⟨inT_at 608 (by decide +kernel), Or.inr (inT_at 609 (by decide +kernel))⟩⟩
theorem mw_X2_copyFrom : mwOk (mRow m_X2_copyFrom) := ⟨inT_at 395 (by decide +kernel), inT_at 72 (by decide +kernel), ⟨inT_at 393 (by decide +kernel), Or.inr (inT_at 394 (by decide +kernel))⟩⟩
theorem mw_X2_isHolding : mwOk (mRow m_X2_isHolding) := ⟨inT_at 554 (by decide +kernel), inT_at 72 (by decide +kernel), ⟨inT_at 552 (by decide +kernel), Or.inr (inT_at 553 (by decide +kernel))⟩⟩
theorem mw_X2_property : mwOk (mRow m_X2_property) := ⟨inT_at 795 (by decide +kernel), inT_at 72 (by decide +kernel), ⟨inT_at 793 (by decide +kernel), Or.inr (inT_at 794 (by decide +kernel))⟩⟩
theorem mw_X3_init : mwOk (mRow m_X3_init) := ⟨inT_at 279 (by decide +kernel), inT_at 73 (by decide +kernel), ⟨inT_at 278 (by decide +kernel), Or.inl rfl⟩⟩
theorem mw_X3_row : mwOk (mRow m_X3_row) := ⟨inT_at 363 (by decide +kernel), inT_at 73 (by decide +kernel), ⟨inT_at 362 (by decide +kernel), Or.inr (inT_at 0 (by decide +kernel))⟩⟩
theorem mw_X3_draft : mwOk (mRow m_X3_draft) := ⟨inT_at 359 (by decide +kernel), inT_at 73 (by decide +kernel), ⟨inT_at 357 (by decide +kernel), Or.inr (inT_at 358 (by decide +kernel))⟩⟩
theorem mw_X3_keepDraft : mwOk (mRow m_X3_keepDraft) := ⟨inT_at 433 (by decide +kernel), inT_at 73 (by decide +kernel), ⟨inT_at 431 (by decide +kernel), Or.inr (inT_at 432 (by decide +kernel))⟩⟩
theorem mw_X3_takeLatest : mwOk (mRow m_X3_takeLatest) := ⟨inT_at 721 (by decide +kernel), inT_at 73 (by decide +kernel), ⟨inT_at 719 (by decide +kernel), Or.inr (inT_at 720 (by decide +kernel))⟩⟩
theorem mw_X4_init : mwOk (mRow m_X4_init) := ⟨inT_at 178 (by decide +kernel), inT_at 71 (by decide +kernel), ⟨inT_at 177 (by decide +kernel), Or.inl rfl⟩⟩
theorem mw_X4_start : mwOk (mRow m_X4_start) := ⟨inT_at 469 (by decide +kernel), inT_at 71 (by decide +kernel), ⟨inT_at 467 (by decide +kernel), Or.inr (inT_at 468 (by decide +kernel))⟩⟩
theorem mw_X4_copyFrom : mwOk (mRow m_X4_copyFrom) := ⟨inT_at 391 (by decide +kernel), inT_at 71 (by decide +kernel), ⟨inT_at 389 (by decide +kernel), Or.inr (inT_at 390 (by decide +kernel))⟩⟩
theorem mw_X4_isPlace : mwOk (mRow m_X4_isPlace) := ⟨inT_at 550 (by decide +kernel), inT_at 71 (by decide +kernel), ⟨inT_at 548 (by decide +kernel), Or.inr (inT_at 549 (by decide +kernel))⟩⟩
theorem mw_X4_property : mwOk (mRow m_X4_property) := ⟨inT_at 786 (by decide +kernel), inT_at 71 (by decide +kernel), ⟨inT_at 784 (by decide +kernel), Or.inr (inT_at 785 (by decide +kernel))⟩⟩
theorem mw_X4_moveToFront : mwOk (mRow m_X4_moveToFront) := ⟨inT_at 572 (by decide +kernel), inT_at 71 (by decide +kernel), ⟨inT_at 570 (by decide +kernel), Or.inr (inT_at 571 (by decide +kernel))⟩⟩
theorem mw_X4_drop : mwOk (mRow m_X4_drop) := ⟨inT_at 558 (by decide +kernel), inT_at 71 (by decide +kernel), ⟨inT_at 556 (by decide +kernel), Or.inr (inT_at 557 (by decide +kernel))⟩⟩
theorem mw_X4_dropEnded : mwOk (mRow m_X4_dropEnded) := ⟨inT_at 546 (by decide +kernel), inT_at 71 (by decide +kernel), ⟨inT_at 544 (by decide +kernel), Or.inr (inT_at 545 (by decide +kernel))⟩⟩
theorem mw_X4_placeOfSite : mwOk (mRow m_X4_placeOfSite) := ⟨inT_at 606 (by decide +kernel), inT_at 71 (by decide +kernel), ⟨inT_at 604 (by decide +kernel), Or.inr (inT_at 605 (by decide +kernel))⟩⟩
theorem mw_X4_placeOfSmallest : mwOk (mRow m_X4_placeOfSmallest) := ⟨inT_at 562 (by decide +kernel), inT_at 71 (by decide +kernel), ⟨inT_at 560 (by decide +kernel), Or.inr (inT_at 561 (by decide +kernel))⟩⟩
theorem mw_X4_addMap : mwOk (mRow m_X4_addMap) := ⟨inT_at 602 (by decide +kernel), inT_at 71 (by decide +kernel), ⟨inT_at 600 (by decide +kernel), Or.inr (inT_at 601 (by decide +kernel))⟩⟩
theorem mw_X5_init : mwOk (mRow m_X5_init) := ⟨inT_at 101 (by decide +kernel), inT_at 67 (by decide +kernel), ⟨inT_at 100 (by decide +kernel), Or.inl rfl⟩⟩
theorem mw_X5_copyFrom : mwOk (mRow m_X5_copyFrom) := ⟨inT_at 374 (by decide +kernel), inT_at 67 (by decide +kernel), ⟨inT_at 372 (by decide +kernel), Or.inr (inT_at 373 (by decide +kernel))⟩⟩
theorem mw_X6_init : mwOk (mRow m_X6_init) := ⟨inT_at 135 (by decide +kernel), inT_at 69 (by decide +kernel), ⟨inT_at 134 (by decide +kernel), Or.inl rfl⟩⟩
theorem mw_X6_start : mwOk (mRow m_X6_start) := ⟨inT_at 449 (by decide +kernel), inT_at 69 (by decide +kernel), ⟨inT_at 447 (by decide +kernel), Or.inr (inT_at 448 (by decide +kernel))⟩⟩
theorem mw_X6_copyFrom : mwOk (mRow m_X6_copyFrom) := ⟨inT_at 382 (by decide +kernel), inT_at 69 (by decide +kernel), ⟨inT_at 380 (by decide +kernel), Or.inr (inT_at 381 (by decide +kernel))⟩⟩
theorem mw_X6_isRegistered : mwOk (mRow m_X6_isRegistered) := ⟨inT_at 518 (by decide +kernel), inT_at 69 (by decide +kernel), ⟨inT_at 516 (by decide +kernel), Or.inr (inT_at 517 (by decide +kernel))⟩⟩
theorem mw_X6_isUp : mwOk (mRow m_X6_isUp) := ⟨inT_at 593 (by decide +kernel), inT_at 69 (by decide +kernel), ⟨inT_at 591 (by decide +kernel), Or.inr (inT_at 592 (by decide +kernel))⟩⟩
theorem mw_X7_init : mwOk (mRow m_X7_init) := ⟨inT_at 143 (by decide +kernel), inT_at 70 (by decide +kernel), ⟨inT_at 142 (by decide +kernel), Or.inl rfl⟩⟩
theorem mw_X7_copyFrom : mwOk (mRow m_X7_copyFrom) := ⟨inT_at 387 (by decide +kernel), inT_at 70 (by decide +kernel), ⟨inT_at 385 (by decide +kernel), Or.inr (inT_at 386 (by decide +kernel))⟩⟩
theorem mw_X7_fill : mwOk (mRow m_X7_fill) := ⟨inT_at 454 (by decide +kernel), inT_at 70 (by decide +kernel), ⟨inT_at 452 (by decide +kernel), Or.inr (inT_at 453 (by decide +kernel))⟩⟩
theorem mw_X7_propertyOf : mwOk (mRow m_X7_propertyOf) := ⟨inT_at 777 (by decide +kernel), inT_at 70 (by decide +kernel), ⟨inT_at 775 (by decide +kernel), Or.inr (inT_at 776 (by decide +kernel))⟩⟩
theorem mw_X7_isEmpty : mwOk (mRow m_X7_isEmpty) := ⟨inT_at 498 (by decide +kernel), inT_at 70 (by decide +kernel), ⟨inT_at 496 (by decide +kernel), Or.inr (inT_at 497 (by decide +kernel))⟩⟩
theorem mw_X7_areEmpty : mwOk (mRow m_X7_areEmpty) := ⟨inT_at 598 (by decide +kernel), inT_at 70 (by decide +kernel), ⟨inT_at 596 (by decide +kernel), Or.inr (inT_at 597 (by decide +kernel))⟩⟩
theorem mw_X7_have : mwOk (mRow m_X7_have) := ⟨inT_at 640 (by decide +kernel), inT_at 70 (by decide +kernel), ⟨inT_at 638 (by decide +kernel), Or.inr (inT_at 639 (by decide +kernel))⟩⟩
theorem mw_X7_lowestPriority : mwOk (mRow m_X7_lowestPriority) := ⟨inT_at 628 (by decide +kernel), inT_at 70 (by decide +kernel), ⟨inT_at 627 (by decide +kernel), Or.inr (inT_at 5 (by decide +kernel))⟩⟩
theorem mw_X7_weightThatCounts : mwOk (mRow m_X7_weightThatCounts) := ⟨inT_at 636 (by decide +kernel), inT_at 70 (by decide +kernel), ⟨inT_at 635 (by decide +kernel), Or.inr (inT_at 6 (by decide +kernel))⟩⟩
theorem mw_X7_placeFor : mwOk (mRow m_X7_placeFor) := ⟨inT_at 624 (by decide +kernel), inT_at 70 (by decide +kernel), ⟨inT_at 622 (by decide +kernel), Or.inr (inT_at 623 (by decide +kernel))⟩⟩
theorem mw_X7_flowsTo : mwOk (mRow m_X7_flowsTo) := ⟨inT_at 857 (by decide +kernel), inT_at 70 (by decide +kernel), ⟨inT_at 855 (by decide +kernel), Or.inr (inT_at 856 (by decide +kernel))⟩⟩
theorem mw_X8_init : mwOk (mRow m_X8_init) := ⟨inT_at 90 (by decide +kernel), inT_at 66 (by decide +kernel), ⟨inT_at 89 (by decide +kernel), Or.inl rfl⟩⟩
theorem mw_X8_copyFrom : mwOk (mRow m_X8_copyFrom) := ⟨inT_at 370 (by decide +kernel), inT_at 66 (by decide +kernel), ⟨inT_at 368 (by decide +kernel), Or.inr (inT_at 369 (by decide +kernel))⟩⟩
theorem mw_X8_isServer : mwOk (mRow m_X8_isServer) := ⟨inT_at 405 (by decide +kernel), inT_at 66 (by decide +kernel), ⟨inT_at 403 (by decide +kernel), Or.inr (inT_at 404 (by decide +kernel))⟩⟩
theorem mw_X8_isSite : mwOk (mRow m_X8_isSite) := ⟨inT_at 481 (by decide +kernel), inT_at 66 (by decide +kernel), ⟨inT_at 479 (by decide +kernel), Or.inr (inT_at 480 (by decide +kernel))⟩⟩
theorem mw_X8_isRouter : mwOk (mRow m_X8_isRouter) := ⟨inT_at 538 (by decide +kernel), inT_at 66 (by decide +kernel), ⟨inT_at 536 (by decide +kernel), Or.inr (inT_at 537 (by decide +kernel))⟩⟩
theorem mw_X8_newServer : mwOk (mRow m_X8_newServer) := ⟨inT_at 401 (by decide +kernel), inT_at 66 (by decide +kernel), ⟨inT_at 399 (by decide +kernel), Or.inr (inT_at 400 (by decide +kernel))⟩⟩
theorem mw_X8_newSite : mwOk (mRow m_X8_newSite) := ⟨inT_at 441 (by decide +kernel), inT_at 66 (by decide +kernel), ⟨inT_at 439 (by decide +kernel), Or.inr (inT_at 440 (by decide +kernel))⟩⟩
theorem mw_X8_newRouter : mwOk (mRow m_X8_newRouter) := ⟨inT_at 465 (by decide +kernel), inT_at 66 (by decide +kernel), ⟨inT_at 463 (by decide +kernel), Or.inr (inT_at 464 (by decide +kernel))⟩⟩
theorem mw_X8_fillSlot : mwOk (mRow m_X8_fillSlot) := ⟨inT_at 477 (by decide +kernel), inT_at 66 (by decide +kernel), ⟨inT_at 475 (by decide +kernel), Or.inr (inT_at 476 (by decide +kernel))⟩⟩
theorem mw_X8_vacateSlot : mwOk (mRow m_X8_vacateSlot) := ⟨inT_at 494 (by decide +kernel), inT_at 66 (by decide +kernel), ⟨inT_at 492 (by decide +kernel), Or.inr (inT_at 493 (by decide +kernel))⟩⟩
theorem mw_X8_startRegistration : mwOk (mRow m_X8_startRegistration) := ⟨inT_at 506 (by decide +kernel), inT_at 66 (by decide +kernel), ⟨inT_at 504 (by decide +kernel), Or.inr (inT_at 505 (by decide +kernel))⟩⟩
theorem mw_X8_endRegistration : mwOk (mRow m_X8_endRegistration) := ⟨inT_at 514 (by decide +kernel), inT_at 66 (by decide +kernel), ⟨inT_at 512 (by decide +kernel), Or.inr (inT_at 513 (by decide +kernel))⟩⟩
theorem mw_X8_changeMapLife : mwOk (mRow m_X8_changeMapLife) := ⟨inT_at 526 (by decide +kernel), inT_at 66 (by decide +kernel), ⟨inT_at 524 (by decide +kernel), Or.inr (inT_at 525 (by decide +kernel))⟩⟩
theorem mw_X8_letPass : mwOk (mRow m_X8_letPass) := ⟨inT_at 648 (by decide +kernel), inT_at 66 (by decide +kernel), ⟨inT_at 646 (by decide +kernel), Or.inr (inT_at 647 (by decide +kernel))⟩⟩
theorem mw_X8_emptyCache : mwOk (mRow m_X8_emptyCache) := ⟨inT_at 656 (by decide +kernel), inT_at 66 (by decide +kernel), ⟨inT_at 654 (by decide +kernel), Or.inr (inT_at 655 (by decide +kernel))⟩⟩
theorem mw_X8_sendLetter : mwOk (mRow m_X8_sendLetter) := ⟨inT_at 534 (by decide +kernel), inT_at 66 (by decide +kernel), ⟨inT_at 532 (by decide +kernel), Or.inr (inT_at 533 (by decide +kernel))⟩⟩
theorem mw_X8_placeByMap : mwOk (mRow m_X8_placeByMap) := ⟨inT_at 620 (by decide +kernel), inT_at 66 (by decide +kernel), ⟨inT_at 619 (by decide +kernel), Or.inr (inT_at 4 (by decide +kernel))⟩⟩
theorem mw_X8_ask : mwOk (mRow m_X8_ask) := ⟨inT_at 576 (by decide +kernel), inT_at 66 (by decide +kernel), ⟨inT_at 575 (by decide +kernel), Or.inr (inT_at 2 (by decide +kernel))⟩⟩
theorem mw_X8_goByProxy : mwOk (mRow m_X8_goByProxy) := ⟨inT_at 616 (by decide +kernel), inT_at 66 (by decide +kernel), ⟨inT_at 615 (by decide +kernel), Or.inr (inT_at 3 (by decide +kernel))⟩⟩
theorem mw_X8_homeOf : mwOk (mRow m_X8_homeOf) := ⟨inT_at 580 (by decide +kernel), inT_at 66 (by decide +kernel), ⟨inT_at 578 (by decide +kernel), Or.inr (inT_at 579 (by decide +kernel))⟩⟩
theorem mw_X8_homeOfSite : mwOk (mRow m_X8_homeOfSite) := ⟨inT_at 754 (by decide +kernel), inT_at 66 (by decide +kernel), ⟨inT_at 752 (by decide +kernel), Or.inr (inT_at 753 (by decide +kernel))⟩⟩
theorem mw_X8_hopsTo : mwOk (mRow m_X8_hopsTo) := ⟨inT_at 584 (by decide +kernel), inT_at 66 (by decide +kernel), ⟨inT_at 582 (by decide +kernel), Or.inr (inT_at 583 (by decide +kernel))⟩⟩
theorem mw_X8_answerFor : mwOk (mRow m_X8_answerFor) := ⟨inT_at 588 (by decide +kernel), inT_at 66 (by decide +kernel), ⟨inT_at 586 (by decide +kernel), Or.inr (inT_at 587 (by decide +kernel))⟩⟩
theorem mw_X8_siteEndingAt : mwOk (mRow m_X8_siteEndingAt) := ⟨inT_at 815 (by decide +kernel), inT_at 66 (by decide +kernel), ⟨inT_at 813 (by decide +kernel), Or.inr (inT_at 814 (by decide +kernel))⟩⟩
theorem mw_X8_sitesEndingAheadOf : mwOk (mRow m_X8_sitesEndingAheadOf) := ⟨inT_at 819 (by decide +kernel), inT_at 66 (by decide +kernel), ⟨inT_at 818 (by decide +kernel), Or.inr (inT_at 15 (by decide +kernel))⟩⟩
theorem mw_X8_serverProperty : mwOk (mRow m_X8_serverProperty) := ⟨inT_at 742 (by decide +kernel), inT_at 66 (by decide +kernel), ⟨inT_at 740 (by decide +kernel), Or.inr (inT_at 741 (by decide +kernel))⟩⟩
theorem mw_X8_childrenOf : mwOk (mRow m_X8_childrenOf) := ⟨inT_at 746 (by decide +kernel), inT_at 66 (by decide +kernel), ⟨inT_at 745 (by decide +kernel), Or.inr (inT_at 12 (by decide +kernel))⟩⟩
theorem mw_X8_sitesAtHome : mwOk (mRow m_X8_sitesAtHome) := ⟨inT_at 750 (by decide +kernel), inT_at 66 (by decide +kernel), ⟨inT_at 749 (by decide +kernel), Or.inr (inT_at 13 (by decide +kernel))⟩⟩
theorem mw_X8_siteProperty : mwOk (mRow m_X8_siteProperty) := ⟨inT_at 763 (by decide +kernel), inT_at 66 (by decide +kernel), ⟨inT_at 761 (by decide +kernel), Or.inr (inT_at 762 (by decide +kernel))⟩⟩
theorem mw_X8_mapsOf : mwOk (mRow m_X8_mapsOf) := ⟨inT_at 767 (by decide +kernel), inT_at 66 (by decide +kernel), ⟨inT_at 766 (by decide +kernel), Or.inr (inT_at 14 (by decide +kernel))⟩⟩
theorem mw_X8_totalOf : mwOk (mRow m_X8_totalOf) := ⟨inT_at 827 (by decide +kernel), inT_at 66 (by decide +kernel), ⟨inT_at 825 (by decide +kernel), Or.inr (inT_at 826 (by decide +kernel))⟩⟩
theorem mw_X8_sitesUp : mwOk (mRow m_X8_sitesUp) := ⟨inT_at 831 (by decide +kernel), inT_at 66 (by decide +kernel), ⟨inT_at 830 (by decide +kernel), Or.inr (inT_at 16 (by decide +kernel))⟩⟩
theorem mw_X8_sumOverRouters : mwOk (mRow m_X8_sumOverRouters) := ⟨inT_at 835 (by decide +kernel), inT_at 66 (by decide +kernel), ⟨inT_at 834 (by decide +kernel), Or.inr (inT_at 17 (by decide +kernel))⟩⟩
theorem mw_X8_namesWithAnswer : mwOk (mRow m_X8_namesWithAnswer) := ⟨inT_at 840 (by decide +kernel), inT_at 66 (by decide +kernel), ⟨inT_at 839 (by decide +kernel), Or.inr (inT_at 18 (by decide +kernel))⟩⟩
theorem mw_X9_init : mwOk (mRow m_X9_init) := ⟨inT_at 82 (by decide +kernel), inT_at 65 (by decide +kernel), ⟨inT_at 81 (by decide +kernel), Or.inl rfl⟩⟩
theorem mw_X9_addServer : mwOk (mRow m_X9_addServer) := ⟨inT_at 355 (by decide +kernel), inT_at 65 (by decide +kernel), ⟨inT_at 353 (by decide +kernel), Or.inr (inT_at 354 (by decide +kernel))⟩⟩
theorem mw_X9_addSite : mwOk (mRow m_X9_addSite) := ⟨inT_at 437 (by decide +kernel), inT_at 65 (by decide +kernel), ⟨inT_at 435 (by decide +kernel), Or.inr (inT_at 436 (by decide +kernel))⟩⟩
theorem mw_X9_addRouter : mwOk (mRow m_X9_addRouter) := ⟨inT_at 461 (by decide +kernel), inT_at 65 (by decide +kernel), ⟨inT_at 459 (by decide +kernel), Or.inr (inT_at 460 (by decide +kernel))⟩⟩
theorem mw_X9_setSlot : mwOk (mRow m_X9_setSlot) := ⟨inT_at 473 (by decide +kernel), inT_at 65 (by decide +kernel), ⟨inT_at 471 (by decide +kernel), Or.inr (inT_at 472 (by decide +kernel))⟩⟩
theorem mw_X9_emptySlot : mwOk (mRow m_X9_emptySlot) := ⟨inT_at 490 (by decide +kernel), inT_at 65 (by decide +kernel), ⟨inT_at 488 (by decide +kernel), Or.inr (inT_at 489 (by decide +kernel))⟩⟩
theorem mw_X9_register : mwOk (mRow m_X9_register) := ⟨inT_at 502 (by decide +kernel), inT_at 65 (by decide +kernel), ⟨inT_at 500 (by decide +kernel), Or.inr (inT_at 501 (by decide +kernel))⟩⟩
theorem mw_X9_unregister : mwOk (mRow m_X9_unregister) := ⟨inT_at 510 (by decide +kernel), inT_at 65 (by decide +kernel), ⟨inT_at 508 (by decide +kernel), Or.inr (inT_at 509 (by decide +kernel))⟩⟩
theorem mw_X9_setMapLife : mwOk (mRow m_X9_setMapLife) := ⟨inT_at 522 (by decide +kernel), inT_at 65 (by decide +kernel), ⟨inT_at 520 (by decide +kernel), Or.inr (inT_at 521 (by decide +kernel))⟩⟩
theorem mw_X9_send : mwOk (mRow m_X9_send) := ⟨inT_at 530 (by decide +kernel), inT_at 65 (by decide +kernel), ⟨inT_at 528 (by decide +kernel), Or.inr (inT_at 529 (by decide +kernel))⟩⟩
theorem mw_X9_pass : mwOk (mRow m_X9_pass) := ⟨inT_at 644 (by decide +kernel), inT_at 65 (by decide +kernel), ⟨inT_at 642 (by decide +kernel), Or.inr (inT_at 643 (by decide +kernel))⟩⟩
theorem mw_X9_forget : mwOk (mRow m_X9_forget) := ⟨inT_at 652 (by decide +kernel), inT_at 65 (by decide +kernel), ⟨inT_at 650 (by decide +kernel), Or.inr (inT_at 651 (by decide +kernel))⟩⟩
theorem mw_X9_append : mwOk (mRow m_X9_append) := ⟨inT_at 660 (by decide +kernel), inT_at 65 (by decide +kernel), ⟨inT_at 658 (by decide +kernel), Or.inr (inT_at 659 (by decide +kernel))⟩⟩
theorem mw_X9_clearText : mwOk (mRow m_X9_clearText) := ⟨inT_at 668 (by decide +kernel), inT_at 65 (by decide +kernel), ⟨inT_at 666 (by decide +kernel), Or.inr (inT_at 667 (by decide +kernel))⟩⟩
theorem mw_X9_faultPosition : mwOk (mRow m_X9_faultPosition) := ⟨inT_at 672 (by decide +kernel), inT_at 65 (by decide +kernel), ⟨inT_at 670 (by decide +kernel), Or.inr (inT_at 671 (by decide +kernel))⟩⟩
theorem mw_X9_run : mwOk (mRow m_X9_run) := ⟨inT_at 707 (by decide +kernel), inT_at 65 (by decide +kernel), ⟨inT_at 705 (by decide +kernel), Or.inr (inT_at 706 (by decide +kernel))⟩⟩
theorem mw_X9_undo : mwOk (mRow m_X9_undo) := ⟨inT_at 717 (by decide +kernel), inT_at 65 (by decide +kernel), ⟨inT_at 715 (by decide +kernel), Or.inr (inT_at 716 (by decide +kernel))⟩⟩
theorem mw_X9_save : mwOk (mRow m_X9_save) := ⟨inT_at 725 (by decide +kernel), inT_at 65 (by decide +kernel), ⟨inT_at 723 (by decide +kernel), Or.inr (inT_at 724 (by decide +kernel))⟩⟩
theorem mw_X9_restore : mwOk (mRow m_X9_restore) := ⟨inT_at 733 (by decide +kernel), inT_at 65 (by decide +kernel), ⟨inT_at 731 (by decide +kernel), Or.inr (inT_at 732 (by decide +kernel))⟩⟩
theorem mw_X9_server : mwOk (mRow m_X9_server) := ⟨inT_at 737 (by decide +kernel), inT_at 65 (by decide +kernel), ⟨inT_at 735 (by decide +kernel), Or.inr (inT_at 736 (by decide +kernel))⟩⟩
theorem mw_X9_site : mwOk (mRow m_X9_site) := ⟨inT_at 758 (by decide +kernel), inT_at 65 (by decide +kernel), ⟨inT_at 756 (by decide +kernel), Or.inr (inT_at 757 (by decide +kernel))⟩⟩
theorem mw_X9_slot : mwOk (mRow m_X9_slot) := ⟨inT_at 772 (by decide +kernel), inT_at 65 (by decide +kernel), ⟨inT_at 770 (by decide +kernel), Or.inr (inT_at 771 (by decide +kernel))⟩⟩
theorem mw_X9_router : mwOk (mRow m_X9_router) := ⟨inT_at 781 (by decide +kernel), inT_at 65 (by decide +kernel), ⟨inT_at 779 (by decide +kernel), Or.inr (inT_at 780 (by decide +kernel))⟩⟩
theorem mw_X9_map : mwOk (mRow m_X9_map) := ⟨inT_at 790 (by decide +kernel), inT_at 65 (by decide +kernel), ⟨inT_at 788 (by decide +kernel), Or.inr (inT_at 789 (by decide +kernel))⟩⟩
theorem mw_X9_answer : mwOk (mRow m_X9_answer) := ⟨inT_at 800 (by decide +kernel), inT_at 65 (by decide +kernel), ⟨inT_at 798 (by decide +kernel), Or.inr (inT_at 799 (by decide +kernel))⟩⟩
theorem mw_X9_way : mwOk (mRow m_X9_way) := ⟨inT_at 805 (by decide +kernel), inT_at 65 (by decide +kernel), ⟨inT_at 803 (by decide +kernel), Or.inr (inT_at 804 (by decide +kernel))⟩⟩
theorem mw_X9_endingNext : mwOk (mRow m_X9_endingNext) := ⟨inT_at 811 (by decide +kernel), inT_at 65 (by decide +kernel), ⟨inT_at 809 (by decide +kernel), Or.inr (inT_at 810 (by decide +kernel))⟩⟩
theorem mw_X9_total : mwOk (mRow m_X9_total) := ⟨inT_at 823 (by decide +kernel), inT_at 65 (by decide +kernel), ⟨inT_at 821 (by decide +kernel), Or.inr (inT_at 822 (by decide +kernel))⟩⟩
theorem mw_X9_wouldReach : mwOk (mRow m_X9_wouldReach) := ⟨inT_at 844 (by decide +kernel), inT_at 65 (by decide +kernel), ⟨inT_at 842 (by decide +kernel), Or.inr (inT_at 843 (by decide +kernel))⟩⟩
theorem mw_X9_wouldAsk : mwOk (mRow m_X9_wouldAsk) := ⟨inT_at 848 (by decide +kernel), inT_at 65 (by decide +kernel), ⟨inT_at 846 (by decide +kernel), Or.inr (inT_at 847 (by decide +kernel))⟩⟩
theorem mw_X9_share : mwOk (mRow m_X9_share) := ⟨inT_at 852 (by decide +kernel), inT_at 65 (by decide +kernel), ⟨inT_at 850 (by decide +kernel), Or.inr (inT_at 851 (by decide +kernel))⟩⟩
theorem mw_X9_recorded : mwOk (mRow m_X9_recorded) := ⟨inT_at 429 (by decide +kernel), inT_at 65 (by decide +kernel), ⟨inT_at 428 (by decide +kernel), Or.inr (inT_at 1 (by decide +kernel))⟩⟩
theorem mw_X9_carryOutAct : mwOk (mRow m_X9_carryOutAct) := ⟨inT_at 713 (by decide +kernel), inT_at 65 (by decide +kernel), ⟨inT_at 712 (by decide +kernel), Or.inr (inT_at 11 (by decide +kernel))⟩⟩
theorem mw_X9_isSave : mwOk (mRow m_X9_isSave) := ⟨inT_at 728 (by decide +kernel), inT_at 65 (by decide +kernel), inT_at 727 (by decide +kernel)⟩
theorem mw_X9_isSlot : mwOk (mRow m_X9_isSlot) := ⟨inT_at 457 (by decide +kernel), inT_at 65 (by decide +kernel), inT_at 456 (by decide +kernel)⟩
theorem mw_X9_isName : mwOk (mRow m_X9_isName) := ⟨inT_at 417 (by decide +kernel), inT_at 65 (by decide +kernel), inT_at 416 (by decide +kernel)⟩
theorem mw_X9_isFlow : mwOk (mRow m_X9_isFlow) := ⟨inT_at 542 (by decide +kernel), inT_at 65 (by decide +kernel), inT_at 541 (by decide +kernel)⟩
theorem mw_X9_isPlaceOfSlot : mwOk (mRow m_X9_isPlaceOfSlot) := ⟨inT_at 485 (by decide +kernel), inT_at 65 (by decide +kernel), inT_at 484 (by decide +kernel)⟩
theorem mw_X9_isBlock : mwOk (mRow m_X9_isBlock) := ⟨inT_at 408 (by decide +kernel), inT_at 65 (by decide +kernel), inT_at 407 (by decide +kernel)⟩
theorem mw_X10_init : mwOk (mRow m_X10_init) := ⟨inT_at 863 (by decide +kernel), inT_at 75 (by decide +kernel), ⟨inT_at 862 (by decide +kernel), Or.inl rfl⟩⟩
theorem mw_X10_isIn : mwOk (mRow m_X10_isIn) := ⟨inT_at 916 (by decide +kernel), inT_at 75 (by decide +kernel), inT_at 915 (by decide +kernel)⟩
theorem mw_X10_isServer : mwOk (mRow m_X10_isServer) := ⟨inT_at 963 (by decide +kernel), inT_at 75 (by decide +kernel), ⟨inT_at 962 (by decide +kernel), Or.inr (inT_at 27 (by decide +kernel))⟩⟩
theorem mw_X10_isSite : mwOk (mRow m_X10_isSite) := ⟨inT_at 1016 (by decide +kernel), inT_at 75 (by decide +kernel), ⟨inT_at 1015 (by decide +kernel), Or.inr (inT_at 34 (by decide +kernel))⟩⟩
theorem mw_X10_isRouter : mwOk (mRow m_X10_isRouter) := ⟨inT_at 1052 (by decide +kernel), inT_at 75 (by decide +kernel), ⟨inT_at 1051 (by decide +kernel), Or.inr (inT_at 38 (by decide +kernel))⟩⟩
theorem mw_X10_isName : mwOk (mRow m_X10_isName) := ⟨inT_at 935 (by decide +kernel), inT_at 75 (by decide +kernel), inT_at 934 (by decide +kernel)⟩
theorem mw_X10_siteAt : mwOk (mRow m_X10_siteAt) := ⟨inT_at 985 (by decide +kernel), inT_at 75 (by decide +kernel), inT_at 984 (by decide +kernel)⟩
theorem mw_X10_routerAt : mwOk (mRow m_X10_routerAt) := ⟨inT_at 1008 (by decide +kernel), inT_at 75 (by decide +kernel), inT_at 1007 (by decide +kernel)⟩
theorem mw_X10_mapAt : mwOk (mRow m_X10_mapAt) := ⟨inT_at 1074 (by decide +kernel), inT_at 75 (by decide +kernel), inT_at 1073 (by decide +kernel)⟩
theorem mw_X10_keeps : mwOk (mRow m_X10_keeps) := ⟨inT_at 920 (by decide +kernel), inT_at 75 (by decide +kernel), ⟨inT_at 919 (by decide +kernel), Or.inr (inT_at 20 (by decide +kernel))⟩⟩
theorem mw_X10_brings : mwOk (mRow m_X10_brings) := ⟨inT_at 909 (by decide +kernel), inT_at 75 (by decide +kernel), ⟨inT_at 908 (by decide +kernel), Or.inr (inT_at 19 (by decide +kernel))⟩⟩
theorem mw_X10_records : mwOk (mRow m_X10_records) := ⟨inT_at 928 (by decide +kernel), inT_at 75 (by decide +kernel), ⟨inT_at 927 (by decide +kernel), Or.inr (inT_at 21 (by decide +kernel))⟩⟩
theorem mw_X10_undo : mwOk (mRow m_X10_undo) := ⟨inT_at 905 (by decide +kernel), inT_at 75 (by decide +kernel), ⟨inT_at 903 (by decide +kernel), Or.inr (inT_at 904 (by decide +kernel))⟩⟩
theorem mw_X10_save : mwOk (mRow m_X10_save) := ⟨inT_at 913 (by decide +kernel), inT_at 75 (by decide +kernel), ⟨inT_at 911 (by decide +kernel), Or.inr (inT_at 912 (by decide +kernel))⟩⟩
theorem mw_X10_restore : mwOk (mRow m_X10_restore) := ⟨inT_at 924 (by decide +kernel), inT_at 75 (by decide +kernel), ⟨inT_at 922 (by decide +kernel), Or.inr (inT_at 923 (by decide +kernel))⟩⟩
theorem mw_X10_isBlock : mwOk (mRow m_X10_isBlock) := ⟨inT_at 966 (by decide +kernel), inT_at 75 (by decide +kernel), inT_at 965 (by decide +kernel)⟩
theorem mw_X10_firstOf : mwOk (mRow m_X10_firstOf) := ⟨inT_at 947 (by decide +kernel), inT_at 75 (by decide +kernel), ⟨inT_at 946 (by decide +kernel), Or.inr (inT_at 24 (by decide +kernel))⟩⟩
theorem mw_X10_sizeOf : mwOk (mRow m_X10_sizeOf) := ⟨inT_at 951 (by decide +kernel), inT_at 75 (by decide +kernel), ⟨inT_at 950 (by decide +kernel), Or.inr (inT_at 25 (by decide +kernel))⟩⟩
theorem mw_X10_holds : mwOk (mRow m_X10_holds) := ⟨inT_at 943 (by decide +kernel), inT_at 75 (by decide +kernel), ⟨inT_at 942 (by decide +kernel), Or.inr (inT_at 23 (by decide +kernel))⟩⟩
theorem mw_X10_homeOf : mwOk (mRow m_X10_homeOf) := ⟨inT_at 939 (by decide +kernel), inT_at 75 (by decide +kernel), ⟨inT_at 938 (by decide +kernel), Or.inr (inT_at 22 (by decide +kernel))⟩⟩
theorem mw_X10_wayTo : mwOk (mRow m_X10_wayTo) := ⟨inT_at 955 (by decide +kernel), inT_at 75 (by decide +kernel), ⟨inT_at 954 (by decide +kernel), Or.inr (inT_at 26 (by decide +kernel))⟩⟩
theorem mw_X10_way : mwOk (mRow m_X10_way) := ⟨inT_at 932 (by decide +kernel), inT_at 75 (by decide +kernel), ⟨inT_at 930 (by decide +kernel), Or.inr (inT_at 931 (by decide +kernel))⟩⟩
theorem mw_X10_addServer : mwOk (mRow m_X10_addServer) := ⟨inT_at 959 (by decide +kernel), inT_at 75 (by decide +kernel), ⟨inT_at 957 (by decide +kernel), Or.inr (inT_at 958 (by decide +kernel))⟩⟩
theorem mw_X10_ofSite : mwOk (mRow m_X10_ofSite) := ⟨inT_at 982 (by decide +kernel), inT_at 75 (by decide +kernel), ⟨inT_at 981 (by decide +kernel), Or.inr (inT_at 30 (by decide +kernel))⟩⟩
theorem mw_X10_has : mwOk (mRow m_X10_has) := ⟨inT_at 993 (by decide +kernel), inT_at 75 (by decide +kernel), ⟨inT_at 992 (by decide +kernel), Or.inr (inT_at 32 (by decide +kernel))⟩⟩
theorem mw_X10_homeOfSite : mwOk (mRow m_X10_homeOfSite) := ⟨inT_at 997 (by decide +kernel), inT_at 75 (by decide +kernel), ⟨inT_at 996 (by decide +kernel), Or.inr (inT_at 33 (by decide +kernel))⟩⟩
theorem mw_X10_isRegistered : mwOk (mRow m_X10_isRegistered) := ⟨inT_at 989 (by decide +kernel), inT_at 75 (by decide +kernel), ⟨inT_at 988 (by decide +kernel), Or.inr (inT_at 31 (by decide +kernel))⟩⟩
theorem mw_X10_isUp : mwOk (mRow m_X10_isUp) := ⟨inT_at 978 (by decide +kernel), inT_at 75 (by decide +kernel), ⟨inT_at 977 (by decide +kernel), Or.inr (inT_at 29 (by decide +kernel))⟩⟩
theorem mw_X10_answerOf : mwOk (mRow m_X10_answerOf) := ⟨inT_at 974 (by decide +kernel), inT_at 75 (by decide +kernel), ⟨inT_at 973 (by decide +kernel), Or.inr (inT_at 28 (by decide +kernel))⟩⟩
theorem mw_X10_answer : mwOk (mRow m_X10_answer) := ⟨inT_at 970 (by decide +kernel), inT_at 75 (by decide +kernel), ⟨inT_at 968 (by decide +kernel), Or.inr (inT_at 969 (by decide +kernel))⟩⟩
theorem mw_X10_addSite : mwOk (mRow m_X10_addSite) := ⟨inT_at 1001 (by decide +kernel), inT_at 75 (by decide +kernel), ⟨inT_at 999 (by decide +kernel), Or.inr (inT_at 1000 (by decide +kernel))⟩⟩
theorem mw_X10_addRouter : mwOk (mRow m_X10_addRouter) := ⟨inT_at 1005 (by decide +kernel), inT_at 75 (by decide +kernel), ⟨inT_at 1003 (by decide +kernel), Or.inr (inT_at 1004 (by decide +kernel))⟩⟩
theorem mw_X10_setSlot : mwOk (mRow m_X10_setSlot) := ⟨inT_at 1012 (by decide +kernel), inT_at 75 (by decide +kernel), ⟨inT_at 1010 (by decide +kernel), Or.inr (inT_at 1011 (by decide +kernel))⟩⟩
theorem mw_X10_emptySlot : mwOk (mRow m_X10_emptySlot) := ⟨inT_at 1020 (by decide +kernel), inT_at 75 (by decide +kernel), ⟨inT_at 1018 (by decide +kernel), Or.inr (inT_at 1019 (by decide +kernel))⟩⟩
theorem mw_X10_registers : mwOk (mRow m_X10_registers) := ⟨inT_at 1028 (by decide +kernel), inT_at 75 (by decide +kernel), ⟨inT_at 1027 (by decide +kernel), Or.inr (inT_at 35 (by decide +kernel))⟩⟩
theorem mw_X10_register : mwOk (mRow m_X10_register) := ⟨inT_at 1024 (by decide +kernel), inT_at 75 (by decide +kernel), ⟨inT_at 1022 (by decide +kernel), Or.inr (inT_at 1023 (by decide +kernel))⟩⟩
theorem mw_X10_unregisterError : mwOk (mRow m_X10_unregisterError) := ⟨inT_at 1036 (by decide +kernel), inT_at 75 (by decide +kernel), ⟨inT_at 1035 (by decide +kernel), Or.inr (inT_at 36 (by decide +kernel))⟩⟩
theorem mw_X10_unregisters : mwOk (mRow m_X10_unregisters) := ⟨inT_at 1040 (by decide +kernel), inT_at 75 (by decide +kernel), ⟨inT_at 1039 (by decide +kernel), Or.inr (inT_at 37 (by decide +kernel))⟩⟩
theorem mw_X10_unregister : mwOk (mRow m_X10_unregister) := ⟨inT_at 1032 (by decide +kernel), inT_at 75 (by decide +kernel), ⟨inT_at 1030 (by decide +kernel), Or.inr (inT_at 1031 (by decide +kernel))⟩⟩
theorem mw_X10_setMapLife : mwOk (mRow m_X10_setMapLife) := ⟨inT_at 1044 (by decide +kernel), inT_at 75 (by decide +kernel), ⟨inT_at 1042 (by decide +kernel), Or.inr (inT_at 1043 (by decide +kernel))⟩⟩
theorem mw_X10_mapsOf : mwOk (mRow m_X10_mapsOf) := ⟨inT_at 1067 (by decide +kernel), inT_at 75 (by decide +kernel), ⟨inT_at 1066 (by decide +kernel), Or.inr (inT_at 41 (by decide +kernel))⟩⟩
theorem mw_X10_ofMap : mwOk (mRow m_X10_ofMap) := ⟨inT_at 1071 (by decide +kernel), inT_at 75 (by decide +kernel), ⟨inT_at 1070 (by decide +kernel), Or.inr (inT_at 42 (by decide +kernel))⟩⟩
theorem mw_X10_drops : mwOk (mRow m_X10_drops) := ⟨inT_at 1078 (by decide +kernel), inT_at 75 (by decide +kernel), ⟨inT_at 1077 (by decide +kernel), Or.inr (inT_at 43 (by decide +kernel))⟩⟩
theorem mw_X10_makesRoom : mwOk (mRow m_X10_makesRoom) := ⟨inT_at 1086 (by decide +kernel), inT_at 75 (by decide +kernel), ⟨inT_at 1085 (by decide +kernel), Or.inr (inT_at 45 (by decide +kernel))⟩⟩
theorem mw_X10_uses : mwOk (mRow m_X10_uses) := ⟨inT_at 1094 (by decide +kernel), inT_at 75 (by decide +kernel), ⟨inT_at 1093 (by decide +kernel), Or.inr (inT_at 47 (by decide +kernel))⟩⟩
theorem mw_X10_asks : mwOk (mRow m_X10_asks) := ⟨inT_at 1082 (by decide +kernel), inT_at 75 (by decide +kernel), ⟨inT_at 1081 (by decide +kernel), Or.inr (inT_at 44 (by decide +kernel))⟩⟩
theorem mw_X10_chosen : mwOk (mRow m_X10_chosen) := ⟨inT_at 1098 (by decide +kernel), inT_at 75 (by decide +kernel), ⟨inT_at 1097 (by decide +kernel), Or.inr (inT_at 48 (by decide +kernel))⟩⟩
theorem mw_X10_isAt : mwOk (mRow m_X10_isAt) := ⟨inT_at 1102 (by decide +kernel), inT_at 75 (by decide +kernel), ⟨inT_at 1101 (by decide +kernel), Or.inr (inT_at 49 (by decide +kernel))⟩⟩
theorem mw_X10_takes : mwOk (mRow m_X10_takes) := ⟨inT_at 1063 (by decide +kernel), inT_at 75 (by decide +kernel), ⟨inT_at 1062 (by decide +kernel), Or.inr (inT_at 40 (by decide +kernel))⟩⟩
theorem mw_X10_proxy : mwOk (mRow m_X10_proxy) := ⟨inT_at 1090 (by decide +kernel), inT_at 75 (by decide +kernel), ⟨inT_at 1089 (by decide +kernel), Or.inr (inT_at 46 (by decide +kernel))⟩⟩
theorem mw_X10_sends : mwOk (mRow m_X10_sends) := ⟨inT_at 1059 (by decide +kernel), inT_at 75 (by decide +kernel), ⟨inT_at 1058 (by decide +kernel), Or.inr (inT_at 39 (by decide +kernel))⟩⟩
theorem mw_X10_isLetter : mwOk (mRow m_X10_isLetter) := ⟨inT_at 1055 (by decide +kernel), inT_at 75 (by decide +kernel), inT_at 1054 (by decide +kernel)⟩
theorem mw_X10_send : mwOk (mRow m_X10_send) := ⟨inT_at 1048 (by decide +kernel), inT_at 75 (by decide +kernel), ⟨inT_at 1046 (by decide +kernel), Or.inr (inT_at 1047 (by decide +kernel))⟩⟩
theorem mw_X10_pass : mwOk (mRow m_X10_pass) := ⟨inT_at 1106 (by decide +kernel), inT_at 75 (by decide +kernel), ⟨inT_at 1104 (by decide +kernel), Or.inr (inT_at 1105 (by decide +kernel))⟩⟩
theorem mw_X10_forget : mwOk (mRow m_X10_forget) := ⟨inT_at 1110 (by decide +kernel), inT_at 75 (by decide +kernel), ⟨inT_at 1108 (by decide +kernel), Or.inr (inT_at 1109 (by decide +kernel))⟩⟩
theorem mw_X10_append : mwOk (mRow m_X10_append) := ⟨inT_at 1114 (by decide +kernel), inT_at 75 (by decide +kernel), ⟨inT_at 1112 (by decide +kernel), Or.inr (inT_at 1113 (by decide +kernel))⟩⟩
theorem mw_X10_clearText : mwOk (mRow m_X10_clearText) := ⟨inT_at 1118 (by decide +kernel), inT_at 75 (by decide +kernel), ⟨inT_at 1116 (by decide +kernel), Or.inr (inT_at 1117 (by decide +kernel))⟩⟩
theorem mw_X10_passesSign : mwOk (mRow m_X10_passesSign) := ⟨inT_at 1146 (by decide +kernel), inT_at 75 (by decide +kernel), ⟨inT_at 1145 (by decide +kernel), Or.inr (inT_at 55 (by decide +kernel))⟩⟩
theorem mw_X10_isDigitHere : mwOk (mRow m_X10_isDigitHere) := ⟨inT_at 1142 (by decide +kernel), inT_at 75 (by decide +kernel), ⟨inT_at 1141 (by decide +kernel), Or.inr (inT_at 54 (by decide +kernel))⟩⟩
theorem mw_X10_passesNumber : mwOk (mRow m_X10_passesNumber) := ⟨inT_at 1138 (by decide +kernel), inT_at 75 (by decide +kernel), ⟨inT_at 1137 (by decide +kernel), Or.inr (inT_at 53 (by decide +kernel))⟩⟩
theorem mw_X10_passesLetter : mwOk (mRow m_X10_passesLetter) := ⟨inT_at 1134 (by decide +kernel), inT_at 75 (by decide +kernel), ⟨inT_at 1133 (by decide +kernel), Or.inr (inT_at 52 (by decide +kernel))⟩⟩
theorem mw_X10_passesAct : mwOk (mRow m_X10_passesAct) := ⟨inT_at 1130 (by decide +kernel), inT_at 75 (by decide +kernel), ⟨inT_at 1129 (by decide +kernel), Or.inr (inT_at 51 (by decide +kernel))⟩⟩
theorem mw_X10_faultOf : mwOk (mRow m_X10_faultOf) := ⟨inT_at 1126 (by decide +kernel), inT_at 75 (by decide +kernel), ⟨inT_at 1125 (by decide +kernel), Or.inr (inT_at 50 (by decide +kernel))⟩⟩
theorem mw_X10_faultPosition : mwOk (mRow m_X10_faultPosition) := ⟨inT_at 1122 (by decide +kernel), inT_at 75 (by decide +kernel), ⟨inT_at 1120 (by decide +kernel), Or.inr (inT_at 1121 (by decide +kernel))⟩⟩
theorem mw_X10_does : mwOk (mRow m_X10_does) := ⟨inT_at 1154 (by decide +kernel), inT_at 75 (by decide +kernel), ⟨inT_at 1153 (by decide +kernel), Or.inr (inT_at 56 (by decide +kernel))⟩⟩
theorem mw_X10_run : mwOk (mRow m_X10_run) := ⟨inT_at 1150 (by decide +kernel), inT_at 75 (by decide +kernel), ⟨inT_at 1148 (by decide +kernel), Or.inr (inT_at 1149 (by decide +kernel))⟩⟩
theorem mw_X10_children : mwOk (mRow m_X10_children) := ⟨inT_at 1162 (by decide +kernel), inT_at 75 (by decide +kernel), ⟨inT_at 1161 (by decide +kernel), Or.inr (inT_at 57 (by decide +kernel))⟩⟩
theorem mw_X10_sitesOf : mwOk (mRow m_X10_sitesOf) := ⟨inT_at 1166 (by decide +kernel), inT_at 75 (by decide +kernel), ⟨inT_at 1165 (by decide +kernel), Or.inr (inT_at 58 (by decide +kernel))⟩⟩
theorem mw_X10_server : mwOk (mRow m_X10_server) := ⟨inT_at 1158 (by decide +kernel), inT_at 75 (by decide +kernel), ⟨inT_at 1156 (by decide +kernel), Or.inr (inT_at 1157 (by decide +kernel))⟩⟩
theorem mw_X10_copiesOf : mwOk (mRow m_X10_copiesOf) := ⟨inT_at 1174 (by decide +kernel), inT_at 75 (by decide +kernel), ⟨inT_at 1173 (by decide +kernel), Or.inr (inT_at 59 (by decide +kernel))⟩⟩
theorem mw_X10_site : mwOk (mRow m_X10_site) := ⟨inT_at 1170 (by decide +kernel), inT_at 75 (by decide +kernel), ⟨inT_at 1168 (by decide +kernel), Or.inr (inT_at 1169 (by decide +kernel))⟩⟩
theorem mw_X10_slot : mwOk (mRow m_X10_slot) := ⟨inT_at 1178 (by decide +kernel), inT_at 75 (by decide +kernel), ⟨inT_at 1176 (by decide +kernel), Or.inr (inT_at 1177 (by decide +kernel))⟩⟩
theorem mw_X10_router : mwOk (mRow m_X10_router) := ⟨inT_at 1182 (by decide +kernel), inT_at 75 (by decide +kernel), ⟨inT_at 1180 (by decide +kernel), Or.inr (inT_at 1181 (by decide +kernel))⟩⟩
theorem mw_X10_map : mwOk (mRow m_X10_map) := ⟨inT_at 1186 (by decide +kernel), inT_at 75 (by decide +kernel), ⟨inT_at 1184 (by decide +kernel), Or.inr (inT_at 1185 (by decide +kernel))⟩⟩
theorem mw_X10_isAhead : mwOk (mRow m_X10_isAhead) := ⟨inT_at 1194 (by decide +kernel), inT_at 75 (by decide +kernel), ⟨inT_at 1193 (by decide +kernel), Or.inr (inT_at 60 (by decide +kernel))⟩⟩
theorem mw_X10_endingNext : mwOk (mRow m_X10_endingNext) := ⟨inT_at 1190 (by decide +kernel), inT_at 75 (by decide +kernel), ⟨inT_at 1188 (by decide +kernel), Or.inr (inT_at 1189 (by decide +kernel))⟩⟩
theorem mw_X10_upMany : mwOk (mRow m_X10_upMany) := ⟨inT_at 1202 (by decide +kernel), inT_at 75 (by decide +kernel), ⟨inT_at 1201 (by decide +kernel), Or.inr (inT_at 61 (by decide +kernel))⟩⟩
theorem mw_X10_sumOf : mwOk (mRow m_X10_sumOf) := ⟨inT_at 1206 (by decide +kernel), inT_at 75 (by decide +kernel), ⟨inT_at 1205 (by decide +kernel), Or.inr (inT_at 62 (by decide +kernel))⟩⟩
theorem mw_X10_answered : mwOk (mRow m_X10_answered) := ⟨inT_at 1210 (by decide +kernel), inT_at 75 (by decide +kernel), ⟨inT_at 1209 (by decide +kernel), Or.inr (inT_at 63 (by decide +kernel))⟩⟩
theorem mw_X10_total : mwOk (mRow m_X10_total) := ⟨inT_at 1198 (by decide +kernel), inT_at 75 (by decide +kernel), ⟨inT_at 1196 (by decide +kernel), Or.inr (inT_at 1197 (by decide +kernel))⟩⟩
theorem mw_X10_wouldReach : mwOk (mRow m_X10_wouldReach) := ⟨inT_at 1214 (by decide +kernel), inT_at 75 (by decide +kernel), ⟨inT_at 1212 (by decide +kernel), Or.inr (inT_at 1213 (by decide +kernel))⟩⟩
theorem mw_X10_wouldAsk : mwOk (mRow m_X10_wouldAsk) := ⟨inT_at 1218 (by decide +kernel), inT_at 75 (by decide +kernel), ⟨inT_at 1216 (by decide +kernel), Or.inr (inT_at 1217 (by decide +kernel))⟩⟩
theorem mw_X10_share : mwOk (mRow m_X10_share) := ⟨inT_at 1222 (by decide +kernel), inT_at 75 (by decide +kernel), ⟨inT_at 1220 (by decide +kernel), Or.inr (inT_at 1221 (by decide +kernel))⟩⟩
theorem mw_J6_bitCount_0f7a4 : mwOk (mRow m_J6_bitCount_0f7a4) := ⟨inT_at 411 (by decide +kernel), inT_at 77 (by decide +kernel), inT_at 410 (by decide +kernel)⟩
theorem mw_J9_floorMod_7cf53 : mwOk (mRow m_J9_floorMod_7cf53) := ⟨inT_at 366 (by decide +kernel), inT_at 76 (by decide +kernel), inT_at 365 (by decide +kernel)⟩
/-- links of methods: the class that holds the link, its entry, the method, nest or not -/
def mlT : List (Nat × Nat × Nat × Nat) := [(24, 9, 90, 0), (9, 9, 56, 0), (8, 41, 11, 0), (8, 48, 27, 0), (9, 21, 22, 0), (3, 17, 56, 0), (24, 13, 91, 0), (9, 41, 24, 0), (3, 31, 23, 0), (3, 22, 213, 0), (3, 35, 57, 0), (8, 49, 39, 0), (5, 22, 12, 0), (8, 56, 42, 0), (6, 43, 12, 0), (6, 47, 46, 0), (8, 62, 29, 0), (4, 37, 19, 0), (2, 28, 12, 0), (2, 33, 46, 0), (9, 45, 61, 0), (8, 68, 58, 0), (9, 217, 212, 0), (9, 175, 125, 0), (8, 76, 15, 0), (8, 85, 16, 0), (9, 49, 121, 0), (9, 202, 25, 0), (24, 18, 92, 0), (9, 53, 62, 0), (8, 89, 13, 0), (8, 92, 41, 0), (6, 25, 11, 0), (6, 39, 47, 0), (24, 22, 93, 0), (9, 56, 63, 0), (8, 96, 28, 0), (24, 27, 94, 0), (9, 60, 64, 0), (8, 98, 59, 0), (8, 111, 47, 0), (24, 32, 95, 0), (9, 64, 65, 0), (8, 120, 49, 0), (24, 37, 96, 0), (9, 68, 66, 0), (24, 42, 97, 0), (9, 71, 67, 0), (8, 129, 43, 0), (24, 46, 98, 0), (9, 74, 68, 0), (24, 50, 99, 0), (9, 77, 71, 0), (8, 132, 60, 0), (8, 147, 34, 0), (4, 41, 30, 0), (4, 45, 20, 0), (4, 48, 33, 0), (8, 151, 36, 0), (4, 59, 14, 0), (1, 16, 15, 0), (8, 155, 30, 0), (8, 168, 32, 0), (8, 171, 73, 0), (8, 209, 75, 0), (8, 213, 77, 0), (8, 216, 78, 0), (8, 229, 14, 0), (8, 196, 44, 0), (6, 50, 43, 0), (6, 54, 50, 0), (8, 219, 37, 0), (4, 67, 35, 0), (4, 71, 18, 0), (4, 75, 32, 0), (8, 175, 33, 0), (8, 178, 74, 0), (8, 182, 72, 0), (8, 190, 54, 0), (7, 28, 52, 0), (7, 19, 49, 0), (7, 32, 53, 0), (8, 199, 51, 0), (24, 54, 100, 0), (9, 80, 69, 0), (24, 58, 101, 0), (9, 83, 70, 0), (24, 62, 102, 0), (9, 86, 1, 0), (24, 66, 103, 0), (24, 70, 104, 0), (9, 93, 3, 0), (0, 25, 2, 0), (0, 28, 4, 0), (0, 32, 8, 0), (0, 39, 5, 0), (0, 49, 6, 0), (0, 42, 7, 0), (0, 59, 9, 0), (24, 74, 105, 0), (9, 96, 2, 0), (9, 99, 4, 0), (9, 103, 122, 0), (24, 78, 106, 0), (9, 109, 26, 0), (24, 82, 107, 0), (9, 112, 123, 0), (9, 116, 57, 0), (24, 86, 108, 0), (24, 90, 109, 0), (9, 122, 58, 0), (9, 125, 81, 0), (8, 235, 82, 0), (8, 238, 83, 0), (8, 241, 76, 0), (24, 94, 110, 0), (9, 128, 59, 0), (9, 131, 84, 0), (8, 244, 85, 0), (8, 247, 35, 0), (24, 98, 111, 0), (9, 134, 124, 0), (9, 147, 48, 0), (24, 102, 112, 0), (9, 152, 60, 0), (9, 159, 31, 0), (24, 106, 113, 0), (9, 164, 30, 0), (9, 171, 21, 0), (2, 51, 20, 0), (24, 110, 114, 0), (9, 178, 78, 0), (24, 114, 115, 0), (9, 181, 75, 0), (9, 184, 77, 0), (24, 118, 116, 0), (9, 187, 79, 0), (8, 232, 80, 0), (24, 122, 117, 0), (9, 190, 86, 0), (8, 250, 87, 0), (8, 254, 88, 0), (8, 260, 31, 0), (8, 257, 89, 0), (24, 126, 118, 0), (24, 131, 119, 0), (24, 135, 120, 0), (9, 196, 127, 0), (9, 199, 55, 0), (7, 35, 54, 0), (24, 12, 129, 0), (24, 81, 141, 0), (10, 34, 139, 0), (24, 85, 142, 0), (10, 22, 130, 0), (10, 30, 138, 0), (24, 89, 143, 0), (10, 37, 140, 0), (24, 117, 150, 0), (10, 40, 134, 0), (10, 54, 148, 0), (10, 51, 147, 0), (10, 44, 145, 0), (10, 48, 146, 0), (10, 58, 149, 0), (24, 17, 151, 0), (10, 61, 131, 0), (10, 64, 144, 0), (24, 113, 158, 0), (10, 86, 157, 0), (10, 77, 156, 0), (10, 71, 152, 0), (10, 68, 135, 0), (10, 74, 155, 0), (10, 80, 153, 0), (10, 83, 154, 0), (24, 21, 159, 0), (24, 26, 160, 0), (10, 89, 136, 0), (24, 31, 161, 0), (10, 92, 132, 0), (24, 36, 162, 0), (24, 41, 164, 0), (10, 95, 163, 0), (24, 45, 167, 0), (10, 98, 165, 0), (10, 101, 166, 0), (24, 49, 168, 0), (24, 53, 181, 0), (10, 139, 133, 0), (10, 142, 180, 0), (10, 145, 179, 0), (10, 121, 177, 0), (10, 107, 169, 0), (10, 110, 170, 0), (10, 104, 137, 0), (10, 114, 171, 0), (10, 124, 174, 0), (10, 118, 172, 0), (10, 127, 178, 0), (10, 130, 173, 0), (10, 133, 175, 0), (10, 136, 176, 0), (24, 57, 182, 0), (24, 61, 183, 0), (24, 65, 184, 0), (24, 69, 185, 0), (24, 73, 192, 0), (10, 185, 191, 0), (10, 182, 190, 0), (10, 179, 189, 0), (10, 161, 188, 0), (10, 154, 187, 0), (10, 167, 186, 0), (24, 77, 194, 0), (10, 189, 193, 0), (24, 93, 197, 0), (10, 192, 195, 0), (10, 195, 196, 0), (24, 97, 199, 0), (10, 198, 198, 0), (24, 101, 200, 0), (24, 105, 201, 0), (24, 109, 202, 0), (24, 121, 204, 0), (10, 201, 203, 0), (24, 125, 208, 0), (10, 204, 205, 0), (10, 207, 206, 0), (10, 210, 207, 0), (24, 130, 209, 0), (24, 134, 210, 0), (24, 138, 211, 0), (8, 36, 38, 1), (5, 11, 10, 1), (8, 47, 40, 1), (6, 11, 10, 1), (6, 20, 45, 1), (4, 17, 17, 1), (2, 11, 10, 1), (2, 20, 45, 1), (9, 36, 0, 1), (8, 72, 128, 1), (7, 15, 124, 1), (8, 101, 124, 1), (8, 104, 127, 1), (8, 138, 125, 1), (8, 141, 126, 1)]
def mlOk (q : Nat × Nat × Nat × Nat) : Prop := mwOk (mRow q.2.2.1) ∧ mhOk (mRow q.2.2.1) ∧ (if q.2.2.2 = 0 then inT (.methodLink (cnm q.1) q.2.1 (mRow q.2.2.1).1) else inT (.methodLinkNest (cnm q.1) q.2.1 (mRow q.2.2.1).1 RX9))
theorem mh_at {m : Nat} (h : m < mTab.length) : mhOk (mRow m) := by
  unfold mRow
  rw [List.getD_eq_getElem?_getD, List.getElem?_eq_getElem h]
  exact mh_all _ (List.getElem_mem h)
theorem ml_0 : mlOk (24, 9, 90, 0) := ⟨mw_X9_init, mh_at (by decide +kernel), inT_at 80 (by decide +kernel)⟩
theorem ml_1 : mlOk (9, 9, 56, 0) := ⟨mw_X8_init, mh_at (by decide +kernel), inT_at 88 (by decide +kernel)⟩
theorem ml_2 : mlOk (8, 41, 11, 0) := ⟨mw_X1_become, mh_at (by decide +kernel), inT_at 128 (by decide +kernel)⟩
theorem ml_3 : mlOk (8, 48, 27, 0) := ⟨mw_X4_init, mh_at (by decide +kernel), inT_at 176 (by decide +kernel)⟩
theorem ml_4 : mlOk (9, 21, 22, 0) := ⟨mw_X3_init, mh_at (by decide +kernel), inT_at 277 (by decide +kernel)⟩
theorem ml_5 : mlOk (3, 17, 56, 0) := ⟨mw_X8_init, mh_at (by decide +kernel), inT_at 283 (by decide +kernel)⟩
theorem ml_6 : mlOk (24, 13, 91, 0) := ⟨mw_X9_addServer, mh_at (by decide +kernel), inT_at 352 (by decide +kernel)⟩
theorem ml_7 : mlOk (9, 41, 24, 0) := ⟨mw_X3_draft, mh_at (by decide +kernel), inT_at 356 (by decide +kernel)⟩
theorem ml_8 : mlOk (3, 31, 23, 0) := ⟨mw_X3_row, mh_at (by decide +kernel), inT_at 360 (by decide +kernel)⟩
theorem ml_9 : mlOk (3, 22, 213, 0) := ⟨mw_J9_floorMod_7cf53, mh_at (by decide +kernel), inT_at 364 (by decide +kernel)⟩
theorem ml_10 : mlOk (3, 35, 57, 0) := ⟨mw_X8_copyFrom, mh_at (by decide +kernel), inT_at 367 (by decide +kernel)⟩
theorem ml_11 : mlOk (8, 49, 39, 0) := ⟨mw_X5_copyFrom, mh_at (by decide +kernel), inT_at 371 (by decide +kernel)⟩
theorem ml_12 : mlOk (5, 22, 12, 0) := ⟨mw_X1_copyFrom, mh_at (by decide +kernel), inT_at 375 (by decide +kernel)⟩
theorem ml_13 : mlOk (8, 56, 42, 0) := ⟨mw_X6_copyFrom, mh_at (by decide +kernel), inT_at 379 (by decide +kernel)⟩
theorem ml_14 : mlOk (6, 43, 12, 0) := ⟨mw_X1_copyFrom, mh_at (by decide +kernel), inT_at 383 (by decide +kernel)⟩
theorem ml_15 : mlOk (6, 47, 46, 0) := ⟨mw_X7_copyFrom, mh_at (by decide +kernel), inT_at 384 (by decide +kernel)⟩
theorem ml_16 : mlOk (8, 62, 29, 0) := ⟨mw_X4_copyFrom, mh_at (by decide +kernel), inT_at 388 (by decide +kernel)⟩
theorem ml_17 : mlOk (4, 37, 19, 0) := ⟨mw_X2_copyFrom, mh_at (by decide +kernel), inT_at 392 (by decide +kernel)⟩
theorem ml_18 : mlOk (2, 28, 12, 0) := ⟨mw_X1_copyFrom, mh_at (by decide +kernel), inT_at 396 (by decide +kernel)⟩
theorem ml_19 : mlOk (2, 33, 46, 0) := ⟨mw_X7_copyFrom, mh_at (by decide +kernel), inT_at 397 (by decide +kernel)⟩
theorem ml_20 : mlOk (9, 45, 61, 0) := ⟨mw_X8_newServer, mh_at (by decide +kernel), inT_at 398 (by decide +kernel)⟩
theorem ml_21 : mlOk (8, 68, 58, 0) := ⟨mw_X8_isServer, mh_at (by decide +kernel), inT_at 402 (by decide +kernel)⟩
theorem ml_22 : mlOk (9, 217, 212, 0) := ⟨mw_J6_bitCount_0f7a4, mh_at (by decide +kernel), inT_at 409 (by decide +kernel)⟩
theorem ml_23 : mlOk (9, 175, 125, 0) := ⟨mw_X9_isName, mh_at (by decide +kernel), inT_at 415 (by decide +kernel)⟩
theorem ml_24 : mlOk (8, 76, 15, 0) := ⟨mw_X1_holds, mh_at (by decide +kernel), inT_at 418 (by decide +kernel)⟩
theorem ml_25 : mlOk (8, 85, 16, 0) := ⟨mw_X1_meets, mh_at (by decide +kernel), inT_at 422 (by decide +kernel)⟩
theorem ml_26 : mlOk (9, 49, 121, 0) := ⟨mw_X9_recorded, mh_at (by decide +kernel), inT_at 426 (by decide +kernel)⟩
theorem ml_27 : mlOk (9, 202, 25, 0) := ⟨mw_X3_keepDraft, mh_at (by decide +kernel), inT_at 430 (by decide +kernel)⟩
theorem ml_28 : mlOk (24, 18, 92, 0) := ⟨mw_X9_addSite, mh_at (by decide +kernel), inT_at 434 (by decide +kernel)⟩
theorem ml_29 : mlOk (9, 53, 62, 0) := ⟨mw_X8_newSite, mh_at (by decide +kernel), inT_at 438 (by decide +kernel)⟩
theorem ml_30 : mlOk (8, 89, 13, 0) := ⟨mw_X1_isAt, mh_at (by decide +kernel), inT_at 442 (by decide +kernel)⟩
theorem ml_31 : mlOk (8, 92, 41, 0) := ⟨mw_X6_start, mh_at (by decide +kernel), inT_at 446 (by decide +kernel)⟩
theorem ml_32 : mlOk (6, 25, 11, 0) := ⟨mw_X1_become, mh_at (by decide +kernel), inT_at 450 (by decide +kernel)⟩
theorem ml_33 : mlOk (6, 39, 47, 0) := ⟨mw_X7_fill, mh_at (by decide +kernel), inT_at 451 (by decide +kernel)⟩
theorem ml_34 : mlOk (24, 22, 93, 0) := ⟨mw_X9_addRouter, mh_at (by decide +kernel), inT_at 458 (by decide +kernel)⟩
theorem ml_35 : mlOk (9, 56, 63, 0) := ⟨mw_X8_newRouter, mh_at (by decide +kernel), inT_at 462 (by decide +kernel)⟩
theorem ml_36 : mlOk (8, 96, 28, 0) := ⟨mw_X4_start, mh_at (by decide +kernel), inT_at 466 (by decide +kernel)⟩
theorem ml_37 : mlOk (24, 27, 94, 0) := ⟨mw_X9_setSlot, mh_at (by decide +kernel), inT_at 470 (by decide +kernel)⟩
theorem ml_38 : mlOk (9, 60, 64, 0) := ⟨mw_X8_fillSlot, mh_at (by decide +kernel), inT_at 474 (by decide +kernel)⟩
theorem ml_39 : mlOk (8, 98, 59, 0) := ⟨mw_X8_isSite, mh_at (by decide +kernel), inT_at 478 (by decide +kernel)⟩
theorem ml_40 : mlOk (8, 111, 47, 0) := ⟨mw_X7_fill, mh_at (by decide +kernel), inT_at 486 (by decide +kernel)⟩
theorem ml_41 : mlOk (24, 32, 95, 0) := ⟨mw_X9_emptySlot, mh_at (by decide +kernel), inT_at 487 (by decide +kernel)⟩
theorem ml_42 : mlOk (9, 64, 65, 0) := ⟨mw_X8_vacateSlot, mh_at (by decide +kernel), inT_at 491 (by decide +kernel)⟩
theorem ml_43 : mlOk (8, 120, 49, 0) := ⟨mw_X7_isEmpty, mh_at (by decide +kernel), inT_at 495 (by decide +kernel)⟩
theorem ml_44 : mlOk (24, 37, 96, 0) := ⟨mw_X9_register, mh_at (by decide +kernel), inT_at 499 (by decide +kernel)⟩
theorem ml_45 : mlOk (9, 68, 66, 0) := ⟨mw_X8_startRegistration, mh_at (by decide +kernel), inT_at 503 (by decide +kernel)⟩
theorem ml_46 : mlOk (24, 42, 97, 0) := ⟨mw_X9_unregister, mh_at (by decide +kernel), inT_at 507 (by decide +kernel)⟩
theorem ml_47 : mlOk (9, 71, 67, 0) := ⟨mw_X8_endRegistration, mh_at (by decide +kernel), inT_at 511 (by decide +kernel)⟩
theorem ml_48 : mlOk (8, 129, 43, 0) := ⟨mw_X6_isRegistered, mh_at (by decide +kernel), inT_at 515 (by decide +kernel)⟩
theorem ml_49 : mlOk (24, 46, 98, 0) := ⟨mw_X9_setMapLife, mh_at (by decide +kernel), inT_at 519 (by decide +kernel)⟩
theorem ml_50 : mlOk (9, 74, 68, 0) := ⟨mw_X8_changeMapLife, mh_at (by decide +kernel), inT_at 523 (by decide +kernel)⟩
theorem ml_51 : mlOk (24, 50, 99, 0) := ⟨mw_X9_send, mh_at (by decide +kernel), inT_at 527 (by decide +kernel)⟩
theorem ml_52 : mlOk (9, 77, 71, 0) := ⟨mw_X8_sendLetter, mh_at (by decide +kernel), inT_at 531 (by decide +kernel)⟩
theorem ml_53 : mlOk (8, 132, 60, 0) := ⟨mw_X8_isRouter, mh_at (by decide +kernel), inT_at 535 (by decide +kernel)⟩
theorem ml_54 : mlOk (8, 147, 34, 0) := ⟨mw_X4_dropEnded, mh_at (by decide +kernel), inT_at 543 (by decide +kernel)⟩
theorem ml_55 : mlOk (4, 41, 30, 0) := ⟨mw_X4_isPlace, mh_at (by decide +kernel), inT_at 547 (by decide +kernel)⟩
theorem ml_56 : mlOk (4, 45, 20, 0) := ⟨mw_X2_isHolding, mh_at (by decide +kernel), inT_at 551 (by decide +kernel)⟩
theorem ml_57 : mlOk (4, 48, 33, 0) := ⟨mw_X4_drop, mh_at (by decide +kernel), inT_at 555 (by decide +kernel)⟩
theorem ml_58 : mlOk (8, 151, 36, 0) := ⟨mw_X4_placeOfSmallest, mh_at (by decide +kernel), inT_at 559 (by decide +kernel)⟩
theorem ml_59 : mlOk (4, 59, 14, 0) := ⟨mw_X1_has, mh_at (by decide +kernel), inT_at 563 (by decide +kernel)⟩
theorem ml_60 : mlOk (1, 16, 15, 0) := ⟨mw_X1_holds, mh_at (by decide +kernel), inT_at 567 (by decide +kernel)⟩
theorem ml_61 : mlOk (8, 155, 30, 0) := ⟨mw_X4_isPlace, mh_at (by decide +kernel), inT_at 568 (by decide +kernel)⟩
theorem ml_62 : mlOk (8, 168, 32, 0) := ⟨mw_X4_moveToFront, mh_at (by decide +kernel), inT_at 569 (by decide +kernel)⟩
theorem ml_63 : mlOk (8, 171, 73, 0) := ⟨mw_X8_ask, mh_at (by decide +kernel), inT_at 573 (by decide +kernel)⟩
theorem ml_64 : mlOk (8, 209, 75, 0) := ⟨mw_X8_homeOf, mh_at (by decide +kernel), inT_at 577 (by decide +kernel)⟩
theorem ml_65 : mlOk (8, 213, 77, 0) := ⟨mw_X8_hopsTo, mh_at (by decide +kernel), inT_at 581 (by decide +kernel)⟩
theorem ml_66 : mlOk (8, 216, 78, 0) := ⟨mw_X8_answerFor, mh_at (by decide +kernel), inT_at 585 (by decide +kernel)⟩
theorem ml_67 : mlOk (8, 229, 14, 0) := ⟨mw_X1_has, mh_at (by decide +kernel), inT_at 589 (by decide +kernel)⟩
theorem ml_68 : mlOk (8, 196, 44, 0) := ⟨mw_X6_isUp, mh_at (by decide +kernel), inT_at 590 (by decide +kernel)⟩
theorem ml_69 : mlOk (6, 50, 43, 0) := ⟨mw_X6_isRegistered, mh_at (by decide +kernel), inT_at 594 (by decide +kernel)⟩
theorem ml_70 : mlOk (6, 54, 50, 0) := ⟨mw_X7_areEmpty, mh_at (by decide +kernel), inT_at 595 (by decide +kernel)⟩
theorem ml_71 : mlOk (8, 219, 37, 0) := ⟨mw_X4_addMap, mh_at (by decide +kernel), inT_at 599 (by decide +kernel)⟩
theorem ml_72 : mlOk (4, 67, 35, 0) := ⟨mw_X4_placeOfSite, mh_at (by decide +kernel), inT_at 603 (by decide +kernel)⟩
theorem ml_73 : mlOk (4, 71, 18, 0) := ⟨mw_X2_become, mh_at (by decide +kernel), inT_at 607 (by decide +kernel)⟩
theorem ml_74 : mlOk (4, 75, 32, 0) := ⟨mw_X4_moveToFront, mh_at (by decide +kernel), inT_at 611 (by decide +kernel)⟩
theorem ml_75 : mlOk (8, 175, 33, 0) := ⟨mw_X4_drop, mh_at (by decide +kernel), inT_at 612 (by decide +kernel)⟩
theorem ml_76 : mlOk (8, 178, 74, 0) := ⟨mw_X8_goByProxy, mh_at (by decide +kernel), inT_at 613 (by decide +kernel)⟩
theorem ml_77 : mlOk (8, 182, 72, 0) := ⟨mw_X8_placeByMap, mh_at (by decide +kernel), inT_at 617 (by decide +kernel)⟩
theorem ml_78 : mlOk (8, 190, 54, 0) := ⟨mw_X7_placeFor, mh_at (by decide +kernel), inT_at 621 (by decide +kernel)⟩
theorem ml_79 : mlOk (7, 28, 52, 0) := ⟨mw_X7_lowestPriority, mh_at (by decide +kernel), inT_at 625 (by decide +kernel)⟩
theorem ml_80 : mlOk (7, 19, 49, 0) := ⟨mw_X7_isEmpty, mh_at (by decide +kernel), inT_at 629 (by decide +kernel)⟩
theorem ml_81 : mlOk (7, 32, 53, 0) := ⟨mw_X7_weightThatCounts, mh_at (by decide +kernel), inT_at 633 (by decide +kernel)⟩
theorem ml_82 : mlOk (8, 199, 51, 0) := ⟨mw_X7_have, mh_at (by decide +kernel), inT_at 637 (by decide +kernel)⟩
theorem ml_83 : mlOk (24, 54, 100, 0) := ⟨mw_X9_pass, mh_at (by decide +kernel), inT_at 641 (by decide +kernel)⟩
theorem ml_84 : mlOk (9, 80, 69, 0) := ⟨mw_X8_letPass, mh_at (by decide +kernel), inT_at 645 (by decide +kernel)⟩
theorem ml_85 : mlOk (24, 58, 101, 0) := ⟨mw_X9_forget, mh_at (by decide +kernel), inT_at 649 (by decide +kernel)⟩
theorem ml_86 : mlOk (9, 83, 70, 0) := ⟨mw_X8_emptyCache, mh_at (by decide +kernel), inT_at 653 (by decide +kernel)⟩
theorem ml_87 : mlOk (24, 62, 102, 0) := ⟨mw_X9_append, mh_at (by decide +kernel), inT_at 657 (by decide +kernel)⟩
theorem ml_88 : mlOk (9, 86, 1, 0) := ⟨mw_X0_add, mh_at (by decide +kernel), inT_at 661 (by decide +kernel)⟩
theorem ml_89 : mlOk (24, 66, 103, 0) := ⟨mw_X9_clearText, mh_at (by decide +kernel), inT_at 665 (by decide +kernel)⟩
theorem ml_90 : mlOk (24, 70, 104, 0) := ⟨mw_X9_faultPosition, mh_at (by decide +kernel), inT_at 669 (by decide +kernel)⟩
theorem ml_91 : mlOk (9, 93, 3, 0) := ⟨mw_X0_findFault, mh_at (by decide +kernel), inT_at 673 (by decide +kernel)⟩
theorem ml_92 : mlOk (0, 25, 2, 0) := ⟨mw_X0_rewind, mh_at (by decide +kernel), inT_at 677 (by decide +kernel)⟩
theorem ml_93 : mlOk (0, 28, 4, 0) := ⟨mw_X0_readAct, mh_at (by decide +kernel), inT_at 681 (by decide +kernel)⟩
theorem ml_94 : mlOk (0, 32, 8, 0) := ⟨mw_X0_byteHere, mh_at (by decide +kernel), inT_at 685 (by decide +kernel)⟩
theorem ml_95 : mlOk (0, 39, 5, 0) := ⟨mw_X0_readSending, mh_at (by decide +kernel), inT_at 689 (by decide +kernel)⟩
theorem ml_96 : mlOk (0, 49, 6, 0) := ⟨mw_X0_readSign, mh_at (by decide +kernel), inT_at 693 (by decide +kernel)⟩
theorem ml_97 : mlOk (0, 42, 7, 0) := ⟨mw_X0_readNumber, mh_at (by decide +kernel), inT_at 697 (by decide +kernel)⟩
theorem ml_98 : mlOk (0, 59, 9, 0) := ⟨mw_X0_isDigit, mh_at (by decide +kernel), inT_at 701 (by decide +kernel)⟩
theorem ml_99 : mlOk (24, 74, 105, 0) := ⟨mw_X9_run, mh_at (by decide +kernel), inT_at 704 (by decide +kernel)⟩
theorem ml_100 : mlOk (9, 96, 2, 0) := ⟨mw_X0_rewind, mh_at (by decide +kernel), inT_at 708 (by decide +kernel)⟩
theorem ml_101 : mlOk (9, 99, 4, 0) := ⟨mw_X0_readAct, mh_at (by decide +kernel), inT_at 709 (by decide +kernel)⟩
theorem ml_102 : mlOk (9, 103, 122, 0) := ⟨mw_X9_carryOutAct, mh_at (by decide +kernel), inT_at 710 (by decide +kernel)⟩
theorem ml_103 : mlOk (24, 78, 106, 0) := ⟨mw_X9_undo, mh_at (by decide +kernel), inT_at 714 (by decide +kernel)⟩
theorem ml_104 : mlOk (9, 109, 26, 0) := ⟨mw_X3_takeLatest, mh_at (by decide +kernel), inT_at 718 (by decide +kernel)⟩
theorem ml_105 : mlOk (24, 82, 107, 0) := ⟨mw_X9_save, mh_at (by decide +kernel), inT_at 722 (by decide +kernel)⟩
theorem ml_106 : mlOk (9, 112, 123, 0) := ⟨mw_X9_isSave, mh_at (by decide +kernel), inT_at 726 (by decide +kernel)⟩
theorem ml_107 : mlOk (9, 116, 57, 0) := ⟨mw_X8_copyFrom, mh_at (by decide +kernel), inT_at 729 (by decide +kernel)⟩
theorem ml_108 : mlOk (24, 86, 108, 0) := ⟨mw_X9_restore, mh_at (by decide +kernel), inT_at 730 (by decide +kernel)⟩
theorem ml_109 : mlOk (24, 90, 109, 0) := ⟨mw_X9_server, mh_at (by decide +kernel), inT_at 734 (by decide +kernel)⟩
theorem ml_110 : mlOk (9, 122, 58, 0) := ⟨mw_X8_isServer, mh_at (by decide +kernel), inT_at 738 (by decide +kernel)⟩
theorem ml_111 : mlOk (9, 125, 81, 0) := ⟨mw_X8_serverProperty, mh_at (by decide +kernel), inT_at 739 (by decide +kernel)⟩
theorem ml_112 : mlOk (8, 235, 82, 0) := ⟨mw_X8_childrenOf, mh_at (by decide +kernel), inT_at 743 (by decide +kernel)⟩
theorem ml_113 : mlOk (8, 238, 83, 0) := ⟨mw_X8_sitesAtHome, mh_at (by decide +kernel), inT_at 747 (by decide +kernel)⟩
theorem ml_114 : mlOk (8, 241, 76, 0) := ⟨mw_X8_homeOfSite, mh_at (by decide +kernel), inT_at 751 (by decide +kernel)⟩
theorem ml_115 : mlOk (24, 94, 110, 0) := ⟨mw_X9_site, mh_at (by decide +kernel), inT_at 755 (by decide +kernel)⟩
theorem ml_116 : mlOk (9, 128, 59, 0) := ⟨mw_X8_isSite, mh_at (by decide +kernel), inT_at 759 (by decide +kernel)⟩
theorem ml_117 : mlOk (9, 131, 84, 0) := ⟨mw_X8_siteProperty, mh_at (by decide +kernel), inT_at 760 (by decide +kernel)⟩
theorem ml_118 : mlOk (8, 244, 85, 0) := ⟨mw_X8_mapsOf, mh_at (by decide +kernel), inT_at 764 (by decide +kernel)⟩
theorem ml_119 : mlOk (8, 247, 35, 0) := ⟨mw_X4_placeOfSite, mh_at (by decide +kernel), inT_at 768 (by decide +kernel)⟩
theorem ml_120 : mlOk (24, 98, 111, 0) := ⟨mw_X9_slot, mh_at (by decide +kernel), inT_at 769 (by decide +kernel)⟩
theorem ml_121 : mlOk (9, 134, 124, 0) := ⟨mw_X9_isSlot, mh_at (by decide +kernel), inT_at 773 (by decide +kernel)⟩
theorem ml_122 : mlOk (9, 147, 48, 0) := ⟨mw_X7_propertyOf, mh_at (by decide +kernel), inT_at 774 (by decide +kernel)⟩
theorem ml_123 : mlOk (24, 102, 112, 0) := ⟨mw_X9_router, mh_at (by decide +kernel), inT_at 778 (by decide +kernel)⟩
theorem ml_124 : mlOk (9, 152, 60, 0) := ⟨mw_X8_isRouter, mh_at (by decide +kernel), inT_at 782 (by decide +kernel)⟩
theorem ml_125 : mlOk (9, 159, 31, 0) := ⟨mw_X4_property, mh_at (by decide +kernel), inT_at 783 (by decide +kernel)⟩
theorem ml_126 : mlOk (24, 106, 113, 0) := ⟨mw_X9_map, mh_at (by decide +kernel), inT_at 787 (by decide +kernel)⟩
theorem ml_127 : mlOk (9, 164, 30, 0) := ⟨mw_X4_isPlace, mh_at (by decide +kernel), inT_at 791 (by decide +kernel)⟩
theorem ml_128 : mlOk (9, 171, 21, 0) := ⟨mw_X2_property, mh_at (by decide +kernel), inT_at 792 (by decide +kernel)⟩
theorem ml_129 : mlOk (2, 51, 20, 0) := ⟨mw_X2_isHolding, mh_at (by decide +kernel), inT_at 796 (by decide +kernel)⟩
theorem ml_130 : mlOk (24, 110, 114, 0) := ⟨mw_X9_answer, mh_at (by decide +kernel), inT_at 797 (by decide +kernel)⟩
theorem ml_131 : mlOk (9, 178, 78, 0) := ⟨mw_X8_answerFor, mh_at (by decide +kernel), inT_at 801 (by decide +kernel)⟩
theorem ml_132 : mlOk (24, 114, 115, 0) := ⟨mw_X9_way, mh_at (by decide +kernel), inT_at 802 (by decide +kernel)⟩
theorem ml_133 : mlOk (9, 181, 75, 0) := ⟨mw_X8_homeOf, mh_at (by decide +kernel), inT_at 806 (by decide +kernel)⟩
theorem ml_134 : mlOk (9, 184, 77, 0) := ⟨mw_X8_hopsTo, mh_at (by decide +kernel), inT_at 807 (by decide +kernel)⟩
theorem ml_135 : mlOk (24, 118, 116, 0) := ⟨mw_X9_endingNext, mh_at (by decide +kernel), inT_at 808 (by decide +kernel)⟩
theorem ml_136 : mlOk (9, 187, 79, 0) := ⟨mw_X8_siteEndingAt, mh_at (by decide +kernel), inT_at 812 (by decide +kernel)⟩
theorem ml_137 : mlOk (8, 232, 80, 0) := ⟨mw_X8_sitesEndingAheadOf, mh_at (by decide +kernel), inT_at 816 (by decide +kernel)⟩
theorem ml_138 : mlOk (24, 122, 117, 0) := ⟨mw_X9_total, mh_at (by decide +kernel), inT_at 820 (by decide +kernel)⟩
theorem ml_139 : mlOk (9, 190, 86, 0) := ⟨mw_X8_totalOf, mh_at (by decide +kernel), inT_at 824 (by decide +kernel)⟩
theorem ml_140 : mlOk (8, 250, 87, 0) := ⟨mw_X8_sitesUp, mh_at (by decide +kernel), inT_at 828 (by decide +kernel)⟩
theorem ml_141 : mlOk (8, 254, 88, 0) := ⟨mw_X8_sumOverRouters, mh_at (by decide +kernel), inT_at 832 (by decide +kernel)⟩
theorem ml_142 : mlOk (8, 260, 31, 0) := ⟨mw_X4_property, mh_at (by decide +kernel), inT_at 836 (by decide +kernel)⟩
theorem ml_143 : mlOk (8, 257, 89, 0) := ⟨mw_X8_namesWithAnswer, mh_at (by decide +kernel), inT_at 837 (by decide +kernel)⟩
theorem ml_144 : mlOk (24, 126, 118, 0) := ⟨mw_X9_wouldReach, mh_at (by decide +kernel), inT_at 841 (by decide +kernel)⟩
theorem ml_145 : mlOk (24, 131, 119, 0) := ⟨mw_X9_wouldAsk, mh_at (by decide +kernel), inT_at 845 (by decide +kernel)⟩
theorem ml_146 : mlOk (24, 135, 120, 0) := ⟨mw_X9_share, mh_at (by decide +kernel), inT_at 849 (by decide +kernel)⟩
theorem ml_147 : mlOk (9, 196, 127, 0) := ⟨mw_X9_isPlaceOfSlot, mh_at (by decide +kernel), inT_at 853 (by decide +kernel)⟩
theorem ml_148 : mlOk (9, 199, 55, 0) := ⟨mw_X7_flowsTo, mh_at (by decide +kernel), inT_at 854 (by decide +kernel)⟩
theorem ml_149 : mlOk (7, 35, 54, 0) := ⟨mw_X7_placeFor, mh_at (by decide +kernel), inT_at 858 (by decide +kernel)⟩
theorem ml_150 : mlOk (24, 12, 129, 0) := ⟨mw_X10_init, mh_at (by decide +kernel), inT_at 861 (by decide +kernel)⟩
theorem ml_151 : mlOk (24, 81, 141, 0) := ⟨mw_X10_undo, mh_at (by decide +kernel), inT_at 902 (by decide +kernel)⟩
theorem ml_152 : mlOk (10, 34, 139, 0) := ⟨mw_X10_brings, mh_at (by decide +kernel), inT_at 906 (by decide +kernel)⟩
theorem ml_153 : mlOk (24, 85, 142, 0) := ⟨mw_X10_save, mh_at (by decide +kernel), inT_at 910 (by decide +kernel)⟩
theorem ml_154 : mlOk (10, 22, 130, 0) := ⟨mw_X10_isIn, mh_at (by decide +kernel), inT_at 914 (by decide +kernel)⟩
theorem ml_155 : mlOk (10, 30, 138, 0) := ⟨mw_X10_keeps, mh_at (by decide +kernel), inT_at 917 (by decide +kernel)⟩
theorem ml_156 : mlOk (24, 89, 143, 0) := ⟨mw_X10_restore, mh_at (by decide +kernel), inT_at 921 (by decide +kernel)⟩
theorem ml_157 : mlOk (10, 37, 140, 0) := ⟨mw_X10_records, mh_at (by decide +kernel), inT_at 925 (by decide +kernel)⟩
theorem ml_158 : mlOk (24, 117, 150, 0) := ⟨mw_X10_way, mh_at (by decide +kernel), inT_at 929 (by decide +kernel)⟩
theorem ml_159 : mlOk (10, 40, 134, 0) := ⟨mw_X10_isName, mh_at (by decide +kernel), inT_at 933 (by decide +kernel)⟩
theorem ml_160 : mlOk (10, 54, 148, 0) := ⟨mw_X10_homeOf, mh_at (by decide +kernel), inT_at 936 (by decide +kernel)⟩
theorem ml_161 : mlOk (10, 51, 147, 0) := ⟨mw_X10_holds, mh_at (by decide +kernel), inT_at 940 (by decide +kernel)⟩
theorem ml_162 : mlOk (10, 44, 145, 0) := ⟨mw_X10_firstOf, mh_at (by decide +kernel), inT_at 944 (by decide +kernel)⟩
theorem ml_163 : mlOk (10, 48, 146, 0) := ⟨mw_X10_sizeOf, mh_at (by decide +kernel), inT_at 948 (by decide +kernel)⟩
theorem ml_164 : mlOk (10, 58, 149, 0) := ⟨mw_X10_wayTo, mh_at (by decide +kernel), inT_at 952 (by decide +kernel)⟩
theorem ml_165 : mlOk (24, 17, 151, 0) := ⟨mw_X10_addServer, mh_at (by decide +kernel), inT_at 956 (by decide +kernel)⟩
theorem ml_166 : mlOk (10, 61, 131, 0) := ⟨mw_X10_isServer, mh_at (by decide +kernel), inT_at 960 (by decide +kernel)⟩
theorem ml_167 : mlOk (10, 64, 144, 0) := ⟨mw_X10_isBlock, mh_at (by decide +kernel), inT_at 964 (by decide +kernel)⟩
theorem ml_168 : mlOk (24, 113, 158, 0) := ⟨mw_X10_answer, mh_at (by decide +kernel), inT_at 967 (by decide +kernel)⟩
theorem ml_169 : mlOk (10, 86, 157, 0) := ⟨mw_X10_answerOf, mh_at (by decide +kernel), inT_at 971 (by decide +kernel)⟩
theorem ml_170 : mlOk (10, 77, 156, 0) := ⟨mw_X10_isUp, mh_at (by decide +kernel), inT_at 975 (by decide +kernel)⟩
theorem ml_171 : mlOk (10, 71, 152, 0) := ⟨mw_X10_ofSite, mh_at (by decide +kernel), inT_at 979 (by decide +kernel)⟩
theorem ml_172 : mlOk (10, 68, 135, 0) := ⟨mw_X10_siteAt, mh_at (by decide +kernel), inT_at 983 (by decide +kernel)⟩
theorem ml_173 : mlOk (10, 74, 155, 0) := ⟨mw_X10_isRegistered, mh_at (by decide +kernel), inT_at 986 (by decide +kernel)⟩
theorem ml_174 : mlOk (10, 80, 153, 0) := ⟨mw_X10_has, mh_at (by decide +kernel), inT_at 990 (by decide +kernel)⟩
theorem ml_175 : mlOk (10, 83, 154, 0) := ⟨mw_X10_homeOfSite, mh_at (by decide +kernel), inT_at 994 (by decide +kernel)⟩
theorem ml_176 : mlOk (24, 21, 159, 0) := ⟨mw_X10_addSite, mh_at (by decide +kernel), inT_at 998 (by decide +kernel)⟩
theorem ml_177 : mlOk (24, 26, 160, 0) := ⟨mw_X10_addRouter, mh_at (by decide +kernel), inT_at 1002 (by decide +kernel)⟩
theorem ml_178 : mlOk (10, 89, 136, 0) := ⟨mw_X10_routerAt, mh_at (by decide +kernel), inT_at 1006 (by decide +kernel)⟩
theorem ml_179 : mlOk (24, 31, 161, 0) := ⟨mw_X10_setSlot, mh_at (by decide +kernel), inT_at 1009 (by decide +kernel)⟩
theorem ml_180 : mlOk (10, 92, 132, 0) := ⟨mw_X10_isSite, mh_at (by decide +kernel), inT_at 1013 (by decide +kernel)⟩
theorem ml_181 : mlOk (24, 36, 162, 0) := ⟨mw_X10_emptySlot, mh_at (by decide +kernel), inT_at 1017 (by decide +kernel)⟩
theorem ml_182 : mlOk (24, 41, 164, 0) := ⟨mw_X10_register, mh_at (by decide +kernel), inT_at 1021 (by decide +kernel)⟩
theorem ml_183 : mlOk (10, 95, 163, 0) := ⟨mw_X10_registers, mh_at (by decide +kernel), inT_at 1025 (by decide +kernel)⟩
theorem ml_184 : mlOk (24, 45, 167, 0) := ⟨mw_X10_unregister, mh_at (by decide +kernel), inT_at 1029 (by decide +kernel)⟩
theorem ml_185 : mlOk (10, 98, 165, 0) := ⟨mw_X10_unregisterError, mh_at (by decide +kernel), inT_at 1033 (by decide +kernel)⟩
theorem ml_186 : mlOk (10, 101, 166, 0) := ⟨mw_X10_unregisters, mh_at (by decide +kernel), inT_at 1037 (by decide +kernel)⟩
theorem ml_187 : mlOk (24, 49, 168, 0) := ⟨mw_X10_setMapLife, mh_at (by decide +kernel), inT_at 1041 (by decide +kernel)⟩
theorem ml_188 : mlOk (24, 53, 181, 0) := ⟨mw_X10_send, mh_at (by decide +kernel), inT_at 1045 (by decide +kernel)⟩
theorem ml_189 : mlOk (10, 139, 133, 0) := ⟨mw_X10_isRouter, mh_at (by decide +kernel), inT_at 1049 (by decide +kernel)⟩
theorem ml_190 : mlOk (10, 142, 180, 0) := ⟨mw_X10_isLetter, mh_at (by decide +kernel), inT_at 1053 (by decide +kernel)⟩
theorem ml_191 : mlOk (10, 145, 179, 0) := ⟨mw_X10_sends, mh_at (by decide +kernel), inT_at 1056 (by decide +kernel)⟩
theorem ml_192 : mlOk (10, 121, 177, 0) := ⟨mw_X10_takes, mh_at (by decide +kernel), inT_at 1060 (by decide +kernel)⟩
theorem ml_193 : mlOk (10, 107, 169, 0) := ⟨mw_X10_mapsOf, mh_at (by decide +kernel), inT_at 1064 (by decide +kernel)⟩
theorem ml_194 : mlOk (10, 110, 170, 0) := ⟨mw_X10_ofMap, mh_at (by decide +kernel), inT_at 1068 (by decide +kernel)⟩
theorem ml_195 : mlOk (10, 104, 137, 0) := ⟨mw_X10_mapAt, mh_at (by decide +kernel), inT_at 1072 (by decide +kernel)⟩
theorem ml_196 : mlOk (10, 114, 171, 0) := ⟨mw_X10_drops, mh_at (by decide +kernel), inT_at 1075 (by decide +kernel)⟩
theorem ml_197 : mlOk (10, 124, 174, 0) := ⟨mw_X10_asks, mh_at (by decide +kernel), inT_at 1079 (by decide +kernel)⟩
theorem ml_198 : mlOk (10, 118, 172, 0) := ⟨mw_X10_makesRoom, mh_at (by decide +kernel), inT_at 1083 (by decide +kernel)⟩
theorem ml_199 : mlOk (10, 127, 178, 0) := ⟨mw_X10_proxy, mh_at (by decide +kernel), inT_at 1087 (by decide +kernel)⟩
theorem ml_200 : mlOk (10, 130, 173, 0) := ⟨mw_X10_uses, mh_at (by decide +kernel), inT_at 1091 (by decide +kernel)⟩
theorem ml_201 : mlOk (10, 133, 175, 0) := ⟨mw_X10_chosen, mh_at (by decide +kernel), inT_at 1095 (by decide +kernel)⟩
theorem ml_202 : mlOk (10, 136, 176, 0) := ⟨mw_X10_isAt, mh_at (by decide +kernel), inT_at 1099 (by decide +kernel)⟩
theorem ml_203 : mlOk (24, 57, 182, 0) := ⟨mw_X10_pass, mh_at (by decide +kernel), inT_at 1103 (by decide +kernel)⟩
theorem ml_204 : mlOk (24, 61, 183, 0) := ⟨mw_X10_forget, mh_at (by decide +kernel), inT_at 1107 (by decide +kernel)⟩
theorem ml_205 : mlOk (24, 65, 184, 0) := ⟨mw_X10_append, mh_at (by decide +kernel), inT_at 1111 (by decide +kernel)⟩
theorem ml_206 : mlOk (24, 69, 185, 0) := ⟨mw_X10_clearText, mh_at (by decide +kernel), inT_at 1115 (by decide +kernel)⟩
theorem ml_207 : mlOk (24, 73, 192, 0) := ⟨mw_X10_faultPosition, mh_at (by decide +kernel), inT_at 1119 (by decide +kernel)⟩
theorem ml_208 : mlOk (10, 185, 191, 0) := ⟨mw_X10_faultOf, mh_at (by decide +kernel), inT_at 1123 (by decide +kernel)⟩
theorem ml_209 : mlOk (10, 182, 190, 0) := ⟨mw_X10_passesAct, mh_at (by decide +kernel), inT_at 1127 (by decide +kernel)⟩
theorem ml_210 : mlOk (10, 179, 189, 0) := ⟨mw_X10_passesLetter, mh_at (by decide +kernel), inT_at 1131 (by decide +kernel)⟩
theorem ml_211 : mlOk (10, 161, 188, 0) := ⟨mw_X10_passesNumber, mh_at (by decide +kernel), inT_at 1135 (by decide +kernel)⟩
theorem ml_212 : mlOk (10, 154, 187, 0) := ⟨mw_X10_isDigitHere, mh_at (by decide +kernel), inT_at 1139 (by decide +kernel)⟩
theorem ml_213 : mlOk (10, 167, 186, 0) := ⟨mw_X10_passesSign, mh_at (by decide +kernel), inT_at 1143 (by decide +kernel)⟩
theorem ml_214 : mlOk (24, 77, 194, 0) := ⟨mw_X10_run, mh_at (by decide +kernel), inT_at 1147 (by decide +kernel)⟩
theorem ml_215 : mlOk (10, 189, 193, 0) := ⟨mw_X10_does, mh_at (by decide +kernel), inT_at 1151 (by decide +kernel)⟩
theorem ml_216 : mlOk (24, 93, 197, 0) := ⟨mw_X10_server, mh_at (by decide +kernel), inT_at 1155 (by decide +kernel)⟩
theorem ml_217 : mlOk (10, 192, 195, 0) := ⟨mw_X10_children, mh_at (by decide +kernel), inT_at 1159 (by decide +kernel)⟩
theorem ml_218 : mlOk (10, 195, 196, 0) := ⟨mw_X10_sitesOf, mh_at (by decide +kernel), inT_at 1163 (by decide +kernel)⟩
theorem ml_219 : mlOk (24, 97, 199, 0) := ⟨mw_X10_site, mh_at (by decide +kernel), inT_at 1167 (by decide +kernel)⟩
theorem ml_220 : mlOk (10, 198, 198, 0) := ⟨mw_X10_copiesOf, mh_at (by decide +kernel), inT_at 1171 (by decide +kernel)⟩
theorem ml_221 : mlOk (24, 101, 200, 0) := ⟨mw_X10_slot, mh_at (by decide +kernel), inT_at 1175 (by decide +kernel)⟩
theorem ml_222 : mlOk (24, 105, 201, 0) := ⟨mw_X10_router, mh_at (by decide +kernel), inT_at 1179 (by decide +kernel)⟩
theorem ml_223 : mlOk (24, 109, 202, 0) := ⟨mw_X10_map, mh_at (by decide +kernel), inT_at 1183 (by decide +kernel)⟩
theorem ml_224 : mlOk (24, 121, 204, 0) := ⟨mw_X10_endingNext, mh_at (by decide +kernel), inT_at 1187 (by decide +kernel)⟩
theorem ml_225 : mlOk (10, 201, 203, 0) := ⟨mw_X10_isAhead, mh_at (by decide +kernel), inT_at 1191 (by decide +kernel)⟩
theorem ml_226 : mlOk (24, 125, 208, 0) := ⟨mw_X10_total, mh_at (by decide +kernel), inT_at 1195 (by decide +kernel)⟩
theorem ml_227 : mlOk (10, 204, 205, 0) := ⟨mw_X10_upMany, mh_at (by decide +kernel), inT_at 1199 (by decide +kernel)⟩
theorem ml_228 : mlOk (10, 207, 206, 0) := ⟨mw_X10_sumOf, mh_at (by decide +kernel), inT_at 1203 (by decide +kernel)⟩
theorem ml_229 : mlOk (10, 210, 207, 0) := ⟨mw_X10_answered, mh_at (by decide +kernel), inT_at 1207 (by decide +kernel)⟩
theorem ml_230 : mlOk (24, 130, 209, 0) := ⟨mw_X10_wouldReach, mh_at (by decide +kernel), inT_at 1211 (by decide +kernel)⟩
theorem ml_231 : mlOk (24, 134, 210, 0) := ⟨mw_X10_wouldAsk, mh_at (by decide +kernel), inT_at 1215 (by decide +kernel)⟩
theorem ml_232 : mlOk (24, 138, 211, 0) := ⟨mw_X10_share, mh_at (by decide +kernel), inT_at 1219 (by decide +kernel)⟩
theorem ml_233 : mlOk (8, 36, 38, 1) := ⟨mw_X5_init, mh_at (by decide +kernel), inT_at 99 (by decide +kernel)⟩
theorem ml_234 : mlOk (5, 11, 10, 1) := ⟨mw_X1_init, mh_at (by decide +kernel), inT_at 105 (by decide +kernel)⟩
theorem ml_235 : mlOk (8, 47, 40, 1) := ⟨mw_X6_init, mh_at (by decide +kernel), inT_at 133 (by decide +kernel)⟩
theorem ml_236 : mlOk (6, 11, 10, 1) := ⟨mw_X1_init, mh_at (by decide +kernel), inT_at 138 (by decide +kernel)⟩
theorem ml_237 : mlOk (6, 20, 45, 1) := ⟨mw_X7_init, mh_at (by decide +kernel), inT_at 141 (by decide +kernel)⟩
theorem ml_238 : mlOk (4, 17, 17, 1) := ⟨mw_X2_init, mh_at (by decide +kernel), inT_at 183 (by decide +kernel)⟩
theorem ml_239 : mlOk (2, 11, 10, 1) := ⟨mw_X1_init, mh_at (by decide +kernel), inT_at 188 (by decide +kernel)⟩
theorem ml_240 : mlOk (2, 20, 45, 1) := ⟨mw_X7_init, mh_at (by decide +kernel), inT_at 190 (by decide +kernel)⟩
theorem ml_241 : mlOk (9, 36, 0, 1) := ⟨mw_X0_init, mh_at (by decide +kernel), inT_at 297 (by decide +kernel)⟩
theorem ml_242 : mlOk (8, 72, 128, 1) := ⟨mw_X9_isBlock, mh_at (by decide +kernel), inT_at 406 (by decide +kernel)⟩
theorem ml_243 : mlOk (7, 15, 124, 1) := ⟨mw_X9_isSlot, mh_at (by decide +kernel), inT_at 455 (by decide +kernel)⟩
theorem ml_244 : mlOk (8, 101, 124, 1) := ⟨mw_X9_isSlot, mh_at (by decide +kernel), inT_at 482 (by decide +kernel)⟩
theorem ml_245 : mlOk (8, 104, 127, 1) := ⟨mw_X9_isPlaceOfSlot, mh_at (by decide +kernel), inT_at 483 (by decide +kernel)⟩
theorem ml_246 : mlOk (8, 138, 125, 1) := ⟨mw_X9_isName, mh_at (by decide +kernel), inT_at 539 (by decide +kernel)⟩
theorem ml_247 : mlOk (8, 141, 126, 1) := ⟨mw_X9_isFlow, mh_at (by decide +kernel), inT_at 540 (by decide +kernel)⟩
set_option maxRecDepth 100000 in
theorem mlT_ok : ∀ q ∈ mlT, mlOk q := List.forall_mem_cons.mpr ⟨ml_0, List.forall_mem_cons.mpr ⟨ml_1, List.forall_mem_cons.mpr ⟨ml_2, List.forall_mem_cons.mpr ⟨ml_3, List.forall_mem_cons.mpr ⟨ml_4, List.forall_mem_cons.mpr ⟨ml_5, List.forall_mem_cons.mpr ⟨ml_6, List.forall_mem_cons.mpr ⟨ml_7, List.forall_mem_cons.mpr ⟨ml_8, List.forall_mem_cons.mpr ⟨ml_9, List.forall_mem_cons.mpr ⟨ml_10, List.forall_mem_cons.mpr ⟨ml_11, List.forall_mem_cons.mpr ⟨ml_12, List.forall_mem_cons.mpr ⟨ml_13, List.forall_mem_cons.mpr ⟨ml_14, List.forall_mem_cons.mpr ⟨ml_15, List.forall_mem_cons.mpr ⟨ml_16, List.forall_mem_cons.mpr ⟨ml_17, List.forall_mem_cons.mpr ⟨ml_18, List.forall_mem_cons.mpr ⟨ml_19, List.forall_mem_cons.mpr ⟨ml_20, List.forall_mem_cons.mpr ⟨ml_21, List.forall_mem_cons.mpr ⟨ml_22, List.forall_mem_cons.mpr ⟨ml_23, List.forall_mem_cons.mpr ⟨ml_24, List.forall_mem_cons.mpr ⟨ml_25, List.forall_mem_cons.mpr ⟨ml_26, List.forall_mem_cons.mpr ⟨ml_27, List.forall_mem_cons.mpr ⟨ml_28, List.forall_mem_cons.mpr ⟨ml_29, List.forall_mem_cons.mpr ⟨ml_30, List.forall_mem_cons.mpr ⟨ml_31, List.forall_mem_cons.mpr ⟨ml_32, List.forall_mem_cons.mpr ⟨ml_33, List.forall_mem_cons.mpr ⟨ml_34, List.forall_mem_cons.mpr ⟨ml_35, List.forall_mem_cons.mpr ⟨ml_36, List.forall_mem_cons.mpr ⟨ml_37, List.forall_mem_cons.mpr ⟨ml_38, List.forall_mem_cons.mpr ⟨ml_39, List.forall_mem_cons.mpr ⟨ml_40, List.forall_mem_cons.mpr ⟨ml_41, List.forall_mem_cons.mpr ⟨ml_42, List.forall_mem_cons.mpr ⟨ml_43, List.forall_mem_cons.mpr ⟨ml_44, List.forall_mem_cons.mpr ⟨ml_45, List.forall_mem_cons.mpr ⟨ml_46, List.forall_mem_cons.mpr ⟨ml_47, List.forall_mem_cons.mpr ⟨ml_48, List.forall_mem_cons.mpr ⟨ml_49, List.forall_mem_cons.mpr ⟨ml_50, List.forall_mem_cons.mpr ⟨ml_51, List.forall_mem_cons.mpr ⟨ml_52, List.forall_mem_cons.mpr ⟨ml_53, List.forall_mem_cons.mpr ⟨ml_54, List.forall_mem_cons.mpr ⟨ml_55, List.forall_mem_cons.mpr ⟨ml_56, List.forall_mem_cons.mpr ⟨ml_57, List.forall_mem_cons.mpr ⟨ml_58, List.forall_mem_cons.mpr ⟨ml_59, List.forall_mem_cons.mpr ⟨ml_60, List.forall_mem_cons.mpr ⟨ml_61, List.forall_mem_cons.mpr ⟨ml_62, List.forall_mem_cons.mpr ⟨ml_63, List.forall_mem_cons.mpr ⟨ml_64, List.forall_mem_cons.mpr ⟨ml_65, List.forall_mem_cons.mpr ⟨ml_66, List.forall_mem_cons.mpr ⟨ml_67, List.forall_mem_cons.mpr ⟨ml_68, List.forall_mem_cons.mpr ⟨ml_69, List.forall_mem_cons.mpr ⟨ml_70, List.forall_mem_cons.mpr ⟨ml_71, List.forall_mem_cons.mpr ⟨ml_72, List.forall_mem_cons.mpr ⟨ml_73, List.forall_mem_cons.mpr ⟨ml_74, List.forall_mem_cons.mpr ⟨ml_75, List.forall_mem_cons.mpr ⟨ml_76, List.forall_mem_cons.mpr ⟨ml_77, List.forall_mem_cons.mpr ⟨ml_78, List.forall_mem_cons.mpr ⟨ml_79, List.forall_mem_cons.mpr ⟨ml_80, List.forall_mem_cons.mpr ⟨ml_81, List.forall_mem_cons.mpr ⟨ml_82, List.forall_mem_cons.mpr ⟨ml_83, List.forall_mem_cons.mpr ⟨ml_84, List.forall_mem_cons.mpr ⟨ml_85, List.forall_mem_cons.mpr ⟨ml_86, List.forall_mem_cons.mpr ⟨ml_87, List.forall_mem_cons.mpr ⟨ml_88, List.forall_mem_cons.mpr ⟨ml_89, List.forall_mem_cons.mpr ⟨ml_90, List.forall_mem_cons.mpr ⟨ml_91, List.forall_mem_cons.mpr ⟨ml_92, List.forall_mem_cons.mpr ⟨ml_93, List.forall_mem_cons.mpr ⟨ml_94, List.forall_mem_cons.mpr ⟨ml_95, List.forall_mem_cons.mpr ⟨ml_96, List.forall_mem_cons.mpr ⟨ml_97, List.forall_mem_cons.mpr ⟨ml_98, List.forall_mem_cons.mpr ⟨ml_99, List.forall_mem_cons.mpr ⟨ml_100, List.forall_mem_cons.mpr ⟨ml_101, List.forall_mem_cons.mpr ⟨ml_102, List.forall_mem_cons.mpr ⟨ml_103, List.forall_mem_cons.mpr ⟨ml_104, List.forall_mem_cons.mpr ⟨ml_105, List.forall_mem_cons.mpr ⟨ml_106, List.forall_mem_cons.mpr ⟨ml_107, List.forall_mem_cons.mpr ⟨ml_108, List.forall_mem_cons.mpr ⟨ml_109, List.forall_mem_cons.mpr ⟨ml_110, List.forall_mem_cons.mpr ⟨ml_111, List.forall_mem_cons.mpr ⟨ml_112, List.forall_mem_cons.mpr ⟨ml_113, List.forall_mem_cons.mpr ⟨ml_114, List.forall_mem_cons.mpr ⟨ml_115, List.forall_mem_cons.mpr ⟨ml_116, List.forall_mem_cons.mpr ⟨ml_117, List.forall_mem_cons.mpr ⟨ml_118, List.forall_mem_cons.mpr ⟨ml_119, List.forall_mem_cons.mpr ⟨ml_120, List.forall_mem_cons.mpr ⟨ml_121, List.forall_mem_cons.mpr ⟨ml_122, List.forall_mem_cons.mpr ⟨ml_123, List.forall_mem_cons.mpr ⟨ml_124, List.forall_mem_cons.mpr ⟨ml_125, List.forall_mem_cons.mpr ⟨ml_126, List.forall_mem_cons.mpr ⟨ml_127, List.forall_mem_cons.mpr ⟨ml_128, List.forall_mem_cons.mpr ⟨ml_129, List.forall_mem_cons.mpr ⟨ml_130, List.forall_mem_cons.mpr ⟨ml_131, List.forall_mem_cons.mpr ⟨ml_132, List.forall_mem_cons.mpr ⟨ml_133, List.forall_mem_cons.mpr ⟨ml_134, List.forall_mem_cons.mpr ⟨ml_135, List.forall_mem_cons.mpr ⟨ml_136, List.forall_mem_cons.mpr ⟨ml_137, List.forall_mem_cons.mpr ⟨ml_138, List.forall_mem_cons.mpr ⟨ml_139, List.forall_mem_cons.mpr ⟨ml_140, List.forall_mem_cons.mpr ⟨ml_141, List.forall_mem_cons.mpr ⟨ml_142, List.forall_mem_cons.mpr ⟨ml_143, List.forall_mem_cons.mpr ⟨ml_144, List.forall_mem_cons.mpr ⟨ml_145, List.forall_mem_cons.mpr ⟨ml_146, List.forall_mem_cons.mpr ⟨ml_147, List.forall_mem_cons.mpr ⟨ml_148, List.forall_mem_cons.mpr ⟨ml_149, List.forall_mem_cons.mpr ⟨ml_150, List.forall_mem_cons.mpr ⟨ml_151, List.forall_mem_cons.mpr ⟨ml_152, List.forall_mem_cons.mpr ⟨ml_153, List.forall_mem_cons.mpr ⟨ml_154, List.forall_mem_cons.mpr ⟨ml_155, List.forall_mem_cons.mpr ⟨ml_156, List.forall_mem_cons.mpr ⟨ml_157, List.forall_mem_cons.mpr ⟨ml_158, List.forall_mem_cons.mpr ⟨ml_159, List.forall_mem_cons.mpr ⟨ml_160, List.forall_mem_cons.mpr ⟨ml_161, List.forall_mem_cons.mpr ⟨ml_162, List.forall_mem_cons.mpr ⟨ml_163, List.forall_mem_cons.mpr ⟨ml_164, List.forall_mem_cons.mpr ⟨ml_165, List.forall_mem_cons.mpr ⟨ml_166, List.forall_mem_cons.mpr ⟨ml_167, List.forall_mem_cons.mpr ⟨ml_168, List.forall_mem_cons.mpr ⟨ml_169, List.forall_mem_cons.mpr ⟨ml_170, List.forall_mem_cons.mpr ⟨ml_171, List.forall_mem_cons.mpr ⟨ml_172, List.forall_mem_cons.mpr ⟨ml_173, List.forall_mem_cons.mpr ⟨ml_174, List.forall_mem_cons.mpr ⟨ml_175, List.forall_mem_cons.mpr ⟨ml_176, List.forall_mem_cons.mpr ⟨ml_177, List.forall_mem_cons.mpr ⟨ml_178, List.forall_mem_cons.mpr ⟨ml_179, List.forall_mem_cons.mpr ⟨ml_180, List.forall_mem_cons.mpr ⟨ml_181, List.forall_mem_cons.mpr ⟨ml_182, List.forall_mem_cons.mpr ⟨ml_183, List.forall_mem_cons.mpr ⟨ml_184, List.forall_mem_cons.mpr ⟨ml_185, List.forall_mem_cons.mpr ⟨ml_186, List.forall_mem_cons.mpr ⟨ml_187, List.forall_mem_cons.mpr ⟨ml_188, List.forall_mem_cons.mpr ⟨ml_189, List.forall_mem_cons.mpr ⟨ml_190, List.forall_mem_cons.mpr ⟨ml_191, List.forall_mem_cons.mpr ⟨ml_192, List.forall_mem_cons.mpr ⟨ml_193, List.forall_mem_cons.mpr ⟨ml_194, List.forall_mem_cons.mpr ⟨ml_195, List.forall_mem_cons.mpr ⟨ml_196, List.forall_mem_cons.mpr ⟨ml_197, List.forall_mem_cons.mpr ⟨ml_198, List.forall_mem_cons.mpr ⟨ml_199, List.forall_mem_cons.mpr ⟨ml_200, List.forall_mem_cons.mpr ⟨ml_201, List.forall_mem_cons.mpr ⟨ml_202, List.forall_mem_cons.mpr ⟨ml_203, List.forall_mem_cons.mpr ⟨ml_204, List.forall_mem_cons.mpr ⟨ml_205, List.forall_mem_cons.mpr ⟨ml_206, List.forall_mem_cons.mpr ⟨ml_207, List.forall_mem_cons.mpr ⟨ml_208, List.forall_mem_cons.mpr ⟨ml_209, List.forall_mem_cons.mpr ⟨ml_210, List.forall_mem_cons.mpr ⟨ml_211, List.forall_mem_cons.mpr ⟨ml_212, List.forall_mem_cons.mpr ⟨ml_213, List.forall_mem_cons.mpr ⟨ml_214, List.forall_mem_cons.mpr ⟨ml_215, List.forall_mem_cons.mpr ⟨ml_216, List.forall_mem_cons.mpr ⟨ml_217, List.forall_mem_cons.mpr ⟨ml_218, List.forall_mem_cons.mpr ⟨ml_219, List.forall_mem_cons.mpr ⟨ml_220, List.forall_mem_cons.mpr ⟨ml_221, List.forall_mem_cons.mpr ⟨ml_222, List.forall_mem_cons.mpr ⟨ml_223, List.forall_mem_cons.mpr ⟨ml_224, List.forall_mem_cons.mpr ⟨ml_225, List.forall_mem_cons.mpr ⟨ml_226, List.forall_mem_cons.mpr ⟨ml_227, List.forall_mem_cons.mpr ⟨ml_228, List.forall_mem_cons.mpr ⟨ml_229, List.forall_mem_cons.mpr ⟨ml_230, List.forall_mem_cons.mpr ⟨ml_231, List.forall_mem_cons.mpr ⟨ml_232, List.forall_mem_cons.mpr ⟨ml_233, List.forall_mem_cons.mpr ⟨ml_234, List.forall_mem_cons.mpr ⟨ml_235, List.forall_mem_cons.mpr ⟨ml_236, List.forall_mem_cons.mpr ⟨ml_237, List.forall_mem_cons.mpr ⟨ml_238, List.forall_mem_cons.mpr ⟨ml_239, List.forall_mem_cons.mpr ⟨ml_240, List.forall_mem_cons.mpr ⟨ml_241, List.forall_mem_cons.mpr ⟨ml_242, List.forall_mem_cons.mpr ⟨ml_243, List.forall_mem_cons.mpr ⟨ml_244, List.forall_mem_cons.mpr ⟨ml_245, List.forall_mem_cons.mpr ⟨ml_246, List.forall_mem_cons.mpr ⟨ml_247, fun _ h => absurd h List.not_mem_nil⟩⟩⟩⟩⟩⟩⟩⟩⟩⟩⟩⟩⟩⟩⟩⟩⟩⟩⟩⟩⟩⟩⟩⟩⟩⟩⟩⟩⟩⟩⟩⟩⟩⟩⟩⟩⟩⟩⟩⟩⟩⟩⟩⟩⟩⟩⟩⟩⟩⟩⟩⟩⟩⟩⟩⟩⟩⟩⟩⟩⟩⟩⟩⟩⟩⟩⟩⟩⟩⟩⟩⟩⟩⟩⟩⟩⟩⟩⟩⟩⟩⟩⟩⟩⟩⟩⟩⟩⟩⟩⟩⟩⟩⟩⟩⟩⟩⟩⟩⟩⟩⟩⟩⟩⟩⟩⟩⟩⟩⟩⟩⟩⟩⟩⟩⟩⟩⟩⟩⟩⟩⟩⟩⟩⟩⟩⟩⟩⟩⟩⟩⟩⟩⟩⟩⟩⟩⟩⟩⟩⟩⟩⟩⟩⟩⟩⟩⟩⟩⟩⟩⟩⟩⟩⟩⟩⟩⟩⟩⟩⟩⟩⟩⟩⟩⟩⟩⟩⟩⟩⟩⟩⟩⟩⟩⟩⟩⟩⟩⟩⟩⟩⟩⟩⟩⟩⟩⟩⟩⟩⟩⟩⟩⟩⟩⟩⟩⟩⟩⟩⟩⟩⟩⟩⟩⟩⟩⟩⟩⟩⟩⟩⟩⟩⟩⟩⟩⟩⟩⟩⟩⟩⟩⟩⟩⟩⟩⟩⟩⟩⟩⟩⟩⟩⟩⟩⟩⟩⟩⟩⟩⟩⟩⟩⟩⟩⟩⟩
theorem ck_265 : inT (.constant RJ6 265 1431655765) := inT_at 412 (by decide +kernel)
theorem ck_266 : inT (.constant RJ6 266 858993459) := inT_at 413 (by decide +kernel)
theorem ck_267 : inT (.constant RJ6 267 252645135) := inT_at 414 (by decide +kernel)
theorem mmin_ok : inT (.methodLink RX7 22 Lib.Math.min.name) ∧ inT (.static Lib.Math.min.name) ∧ inT (.initialized "java/lang/Math") ∧ inT (.code Lib.Math.min.name Lib.Math.min.code 2 (some .int)) := ⟨inT_at 630 (by decide +kernel), inT_at 631 (by decide +kernel), inT_at 76 (by decide +kernel), inT_at 632 (by decide +kernel)⟩
theorem wx_0 : ∀ w ∈ u_ws RX0 TX0 8, inT w := by
  intro w hw
  obtain ⟨k, hk, rfl⟩ := List.mem_map.mp hw
  have hk : k < 8 := List.mem_range.mp hk
  match k, hk with
  | 0, _ => exact inT_at 314 (by decide +kernel)
  | 1, _ => exact inT_at 316 (by decide +kernel)
  | 2, _ => exact inT_at 318 (by decide +kernel)
  | 3, _ => exact inT_at 320 (by decide +kernel)
  | 4, _ => exact inT_at 322 (by decide +kernel)
  | 5, _ => exact inT_at 324 (by decide +kernel)
  | 6, _ => exact inT_at 326 (by decide +kernel)
  | 7, _ => exact inT_at 328 (by decide +kernel)
  | k + 8, h => exact absurd h (by omega)
theorem wx_1 : ∀ w ∈ u_ws RX1 TX1 2, inT w := by
  intro w hw
  obtain ⟨k, hk, rfl⟩ := List.mem_map.mp hw
  have hk : k < 2 := List.mem_range.mp hk
  match k, hk with
  | 0, _ => exact inT_at 114 (by decide +kernel)
  | 1, _ => exact inT_at 116 (by decide +kernel)
  | k + 2, h => exact absurd h (by omega)
theorem wx_2 : ∀ w ∈ u_ws RX2 TX2 6, inT w := by
  intro w hw
  obtain ⟨k, hk, rfl⟩ := List.mem_map.mp hw
  have hk : k < 6 := List.mem_range.mp hk
  match k, hk with
  | 0, _ => exact inT_at 203 (by decide +kernel)
  | 1, _ => exact inT_at 205 (by decide +kernel)
  | 2, _ => exact inT_at 207 (by decide +kernel)
  | 3, _ => exact inT_at 209 (by decide +kernel)
  | 4, _ => exact inT_at 211 (by decide +kernel)
  | 5, _ => exact inT_at 213 (by decide +kernel)
  | k + 6, h => exact absurd h (by omega)
theorem wx_3 : ∀ w ∈ u_ws RX3 TX3 3, inT w := by
  intro w hw
  obtain ⟨k, hk, rfl⟩ := List.mem_map.mp hw
  have hk : k < 3 := List.mem_range.mp hk
  match k, hk with
  | 0, _ => exact inT_at 288 (by decide +kernel)
  | 1, _ => exact inT_at 290 (by decide +kernel)
  | 2, _ => exact inT_at 292 (by decide +kernel)
  | k + 3, h => exact absurd h (by omega)
theorem wx_4 : ∀ w ∈ u_ws RX4 TX4 7, inT w := by
  intro w hw
  obtain ⟨k, hk, rfl⟩ := List.mem_map.mp hw
  have hk : k < 7 := List.mem_range.mp hk
  match k, hk with
  | 0, _ => exact inT_at 232 (by decide +kernel)
  | 1, _ => exact inT_at 234 (by decide +kernel)
  | 2, _ => exact inT_at 236 (by decide +kernel)
  | 3, _ => exact inT_at 238 (by decide +kernel)
  | 4, _ => exact inT_at 240 (by decide +kernel)
  | 5, _ => exact inT_at 242 (by decide +kernel)
  | 6, _ => exact inT_at 244 (by decide +kernel)
  | k + 7, h => exact absurd h (by omega)
theorem wx_5 : ∀ w ∈ u_ws RX5 TX5 2, inT w := by
  intro w hw
  obtain ⟨k, hk, rfl⟩ := List.mem_map.mp hw
  have hk : k < 2 := List.mem_range.mp hk
  match k, hk with
  | 0, _ => exact inT_at 123 (by decide +kernel)
  | 1, _ => exact inT_at 125 (by decide +kernel)
  | k + 2, h => exact absurd h (by omega)
theorem wx_6 : ∀ w ∈ u_ws RX6 TX6 5, inT w := by
  intro w hw
  obtain ⟨k, hk, rfl⟩ := List.mem_map.mp hw
  have hk : k < 5 := List.mem_range.mp hk
  match k, hk with
  | 0, _ => exact inT_at 164 (by decide +kernel)
  | 1, _ => exact inT_at 166 (by decide +kernel)
  | 2, _ => exact inT_at 168 (by decide +kernel)
  | 3, _ => exact inT_at 170 (by decide +kernel)
  | 4, _ => exact inT_at 172 (by decide +kernel)
  | k + 5, h => exact absurd h (by omega)
theorem wx_7 : ∀ w ∈ u_ws RX7 TX7 1, inT w := by
  intro w hw
  obtain ⟨k, hk, rfl⟩ := List.mem_map.mp hw
  have hk : k < 1 := List.mem_range.mp hk
  match k, hk with
  | 0, _ => exact inT_at 146 (by decide +kernel)
  | k + 1, h => exact absurd h (by omega)
theorem wx_8 : ∀ w ∈ u_ws RX8 TX8 8, inT w := by
  intro w hw
  obtain ⟨k, hk, rfl⟩ := List.mem_map.mp hw
  have hk : k < 8 := List.mem_range.mp hk
  match k, hk with
  | 0, _ => exact inT_at 258 (by decide +kernel)
  | 1, _ => exact inT_at 260 (by decide +kernel)
  | 2, _ => exact inT_at 262 (by decide +kernel)
  | 3, _ => exact inT_at 264 (by decide +kernel)
  | 4, _ => exact inT_at 266 (by decide +kernel)
  | 5, _ => exact inT_at 268 (by decide +kernel)
  | 6, _ => exact inT_at 270 (by decide +kernel)
  | 7, _ => exact inT_at 272 (by decide +kernel)
  | k + 8, h => exact absurd h (by omega)
theorem wx_9 : ∀ w ∈ u_ws RX9 TX9 6, inT w := by
  intro w hw
  obtain ⟨k, hk, rfl⟩ := List.mem_map.mp hw
  have hk : k < 6 := List.mem_range.mp hk
  match k, hk with
  | 0, _ => exact inT_at 339 (by decide +kernel)
  | 1, _ => exact inT_at 341 (by decide +kernel)
  | 2, _ => exact inT_at 343 (by decide +kernel)
  | 3, _ => exact inT_at 345 (by decide +kernel)
  | 4, _ => exact inT_at 347 (by decide +kernel)
  | 5, _ => exact inT_at 349 (by decide +kernel)
  | k + 6, h => exact absurd h (by omega)
theorem wx_10 : ∀ w ∈ u_ws RX10 TX10 12, inT w := by
  intro w hw
  obtain ⟨k, hk, rfl⟩ := List.mem_map.mp hw
  have hk : k < 12 := List.mem_range.mp hk
  match k, hk with
  | 0, _ => exact inT_at 877 (by decide +kernel)
  | 1, _ => exact inT_at 879 (by decide +kernel)
  | 2, _ => exact inT_at 881 (by decide +kernel)
  | 3, _ => exact inT_at 883 (by decide +kernel)
  | 4, _ => exact inT_at 885 (by decide +kernel)
  | 5, _ => exact inT_at 887 (by decide +kernel)
  | 6, _ => exact inT_at 889 (by decide +kernel)
  | 7, _ => exact inT_at 891 (by decide +kernel)
  | 8, _ => exact inT_at 893 (by decide +kernel)
  | 9, _ => exact inT_at 895 (by decide +kernel)
  | 10, _ => exact inT_at 897 (by decide +kernel)
  | 11, _ => exact inT_at 899 (by decide +kernel)
  | k + 12, h => exact absurd h (by omega)
