/-- words that any later state keeps -/
def isNest : Cond → Bool
  | .methodLinkNest _ _ _ _ => true
  | _ => false
def kw (w : Cond) : Bool := (w.onTables && w.keeps) || isNest w
def inT (w : Cond) : Prop := w ∈ lw_tbl ∧ kw w = true
theorem inT_at {w : Cond} (i : Nat) (h : lw_tbl[i]? = some w ∧ kw w = true) : inT w := ⟨List.mem_of_getElem? h.1, h.2⟩
def cnm : Nat → String := fun c => match c with
  | 0 => RX0
  | 1 => RX1
  | 2 => RX2
  | 3 => RX3
  | 4 => RX4
  | 5 => RX5
  | 6 => RX6
  | 7 => RX7
  | 8 => RX8
  | 9 => RX9
  | 10 => RX10
  | 24 => RL
  | 25 => RJ6
  | _ => RJ9
abbrev MRow : Type := MethodName × ByteArray × Nat × Option FieldType × Nat × Nat × Bool
/-- name, bytes, locals, answer, class, arguments (with the receiver), static -/
def mTab : List MRow := [(yX0_init, cX0_init, 1, none, 0, 1, false),
  (yX1_init, cX1_init, 1, none, 1, 1, false),
  (yX1_become, cX1_become, 3, none, 1, 3, false),
  (yX1_copyFrom, cX1_copyFrom, 2, none, 1, 2, false),
  (yX1_isAt, cX1_isAt, 3, (some .boolean), 1, 3, false),
  (yX1_has, cX1_has, 2, (some .boolean), 1, 2, false),
  (yX1_holds, cX1_holds, 3, (some .boolean), 1, 3, false),
  (yX1_meets, cX1_meets, 3, (some .boolean), 1, 3, false),
  (yX2_init, cX2_init, 1, none, 2, 1, false),
  (yX2_become, cX2_become, 4, none, 2, 4, false),
  (yX2_copyFrom, cX2_copyFrom, 2, none, 2, 2, false),
  (yX2_isHolding, cX2_isHolding, 2, (some .boolean), 2, 2, false),
  (yX2_property, cX2_property, 3, (some .int), 2, 3, false),
  (yX3_init, cX3_init, 2, none, 3, 1, false),
  (yX3_row, cX3_row, 2, (some .int), 3, 2, false),
  (yX3_draft, cX3_draft, 2, none, 3, 2, false),
  (yX3_keepDraft, cX3_keepDraft, 1, none, 3, 1, false),
  (yX3_takeLatest, cX3_takeLatest, 2, none, 3, 2, false),
  (yX4_init, cX4_init, 2, none, 4, 1, false),
  (yX4_start, cX4_start, 1, none, 4, 1, false),
  (yX4_copyFrom, cX4_copyFrom, 3, none, 4, 2, false),
  (yX4_isPlace, cX4_isPlace, 2, (some .boolean), 4, 2, false),
  (yX4_property, cX4_property, 2, (some .int), 4, 2, false),
  (yX4_moveToFront, cX4_moveToFront, 4, none, 4, 2, false),
  (yX4_drop, cX4_drop, 4, none, 4, 2, false),
  (yX4_dropEnded, cX4_dropEnded, 3, none, 4, 2, false),
  (yX4_placeOfSite, cX4_placeOfSite, 3, (some .int), 4, 2, false),
  (yX4_placeOfSmallest, cX4_placeOfSmallest, 6, (some .int), 4, 2, false),
  (yX4_addMap, cX4_addMap, 4, none, 4, 4, false),
  (yX5_init, cX5_init, 1, none, 5, 1, false),
  (yX5_copyFrom, cX5_copyFrom, 2, none, 5, 2, false),
  (yX6_init, cX6_init, 1, none, 6, 1, false),
  (yX6_start, cX6_start, 5, none, 6, 4, false),
  (yX6_copyFrom, cX6_copyFrom, 2, none, 6, 2, false),
  (yX6_isRegistered, cX6_isRegistered, 2, (some .boolean), 6, 2, false),
  (yX6_isUp, cX6_isUp, 2, (some .boolean), 6, 2, false),
  (yX7_init, cX7_init, 1, none, 7, 1, false),
  (yX7_copyFrom, cX7_copyFrom, 3, none, 7, 2, false),
  (yX7_fill, cX7_fill, 5, none, 7, 5, false),
  (yX7_propertyOf, cX7_propertyOf, 3, (some .int), 7, 3, false),
  (yX7_isEmpty, cX7_isEmpty, 2, (some .boolean), 7, 2, false),
  (yX7_areEmpty, cX7_areEmpty, 3, (some .boolean), 7, 1, false),
  (yX7_have, cX7_have, 3, (some .boolean), 7, 2, false),
  (yX7_lowestPriority, cX7_lowestPriority, 3, (some .int), 7, 1, false),
  (yX7_weightThatCounts, cX7_weightThatCounts, 3, (some .int), 7, 3, false),
  (yX7_placeFor, cX7_placeFor, 7, (some .int), 7, 2, false),
  (yX8_init, cX8_init, 2, none, 8, 1, false),
  (yX8_copyFrom, cX8_copyFrom, 3, none, 8, 2, false),
  (yX8_isServer, cX8_isServer, 2, (some .boolean), 8, 2, false),
  (yX8_isSite, cX8_isSite, 2, (some .boolean), 8, 2, false),
  (yX8_isRouter, cX8_isRouter, 2, (some .boolean), 8, 2, false),
  (yX8_newServer, cX8_newServer, 6, (some .int), 8, 4, false),
  (yX8_newSite, cX8_newSite, 5, (some .int), 8, 4, false),
  (yX8_newRouter, cX8_newRouter, 1, (some .int), 8, 1, false),
  (yX8_fillSlot, cX8_fillSlot, 6, (some .int), 8, 6, false),
  (yX8_vacateSlot, cX8_vacateSlot, 3, (some .int), 8, 3, false),
  (yX8_startRegistration, cX8_startRegistration, 2, (some .int), 8, 2, false),
  (yX8_endRegistration, cX8_endRegistration, 3, (some .int), 8, 2, false),
  (yX8_changeMapLife, cX8_changeMapLife, 3, (some .int), 8, 2, false),
  (yX8_letPass, cX8_letPass, 2, (some .int), 8, 2, false),
  (yX8_emptyCache, cX8_emptyCache, 3, (some .int), 8, 2, false),
  (yX8_sendLetter, cX8_sendLetter, 7, (some .int), 8, 4, false),
  (yX8_placeByMap, cX8_placeByMap, 5, (some .int), 8, 3, false),
  (yX8_ask, cX8_ask, 4, (some .boolean), 8, 3, false),
  (yX8_goByProxy, cX8_goByProxy, 3, (some .int), 8, 3, false),
  (yX8_homeOf, cX8_homeOf, 6, (some .int), 8, 3, false),
  (yX8_homeOfSite, cX8_homeOfSite, 2, (some .int), 8, 2, false),
  (yX8_hopsTo, cX8_hopsTo, 4, (some .int), 8, 2, false),
  (yX8_answerFor, cX8_answerFor, 7, (some .int), 8, 2, false),
  (yX8_siteEndingAt, cX8_siteEndingAt, 3, (some .int), 8, 2, false),
  (yX8_sitesEndingAheadOf, cX8_sitesEndingAheadOf, 6, (some .int), 8, 2, false),
  (yX8_serverProperty, cX8_serverProperty, 3, (some .int), 8, 3, false),
  (yX8_childrenOf, cX8_childrenOf, 4, (some .int), 8, 2, false),
  (yX8_sitesAtHome, cX8_sitesAtHome, 4, (some .int), 8, 2, false),
  (yX8_siteProperty, cX8_siteProperty, 3, (some .int), 8, 3, false),
  (yX8_mapsOf, cX8_mapsOf, 4, (some .int), 8, 2, false),
  (yX8_totalOf, cX8_totalOf, 2, (some .int), 8, 2, false),
  (yX8_sitesUp, cX8_sitesUp, 3, (some .int), 8, 1, false),
  (yX8_sumOverRouters, cX8_sumOverRouters, 4, (some .int), 8, 2, false),
  (yX8_namesWithAnswer, cX8_namesWithAnswer, 3, (some .int), 8, 1, false),
  (yX9_init, cX9_init, 2, none, 9, 1, false),
  (yX9_addServer, cX9_addServer, 4, (some .int), 9, 4, false),
  (yX9_addSite, cX9_addSite, 4, (some .int), 9, 4, false),
  (yX9_addRouter, cX9_addRouter, 1, (some .int), 9, 1, false),
  (yX9_setSlot, cX9_setSlot, 6, (some .int), 9, 6, false),
  (yX9_emptySlot, cX9_emptySlot, 3, (some .int), 9, 3, false),
  (yX9_register, cX9_register, 2, (some .int), 9, 2, false),
  (yX9_unregister, cX9_unregister, 2, (some .int), 9, 2, false),
  (yX9_setMapLife, cX9_setMapLife, 2, (some .int), 9, 2, false),
  (yX9_send, cX9_send, 4, (some .int), 9, 4, false),
  (yX9_pass, cX9_pass, 2, (some .int), 9, 2, false),
  (yX9_forget, cX9_forget, 2, (some .int), 9, 2, false),
  (yX9_undo, cX9_undo, 1, (some .int), 9, 1, false),
  (yX9_save, cX9_save, 2, (some .int), 9, 2, false),
  (yX9_restore, cX9_restore, 2, (some .int), 9, 2, false),
  (yX9_server, cX9_server, 3, (some .int), 9, 3, false),
  (yX9_site, cX9_site, 3, (some .int), 9, 3, false),
  (yX9_slot, cX9_slot, 4, (some .int), 9, 4, false),
  (yX9_router, cX9_router, 3, (some .int), 9, 3, false),
  (yX9_map, cX9_map, 4, (some .int), 9, 4, false),
  (yX9_answer, cX9_answer, 3, (some .int), 9, 2, false),
  (yX9_endingNext, cX9_endingNext, 3, (some .int), 9, 2, false),
  (yX9_total, cX9_total, 2, (some .int), 9, 2, false),
  (yX9_wouldReach, cX9_wouldReach, 5, (some .int), 9, 5, false),
  (yX9_wouldAsk, cX9_wouldAsk, 5, (some .int), 9, 4, false),
  (yX9_recorded, cX9_recorded, 2, (some .int), 9, 2, false),
  (yX9_isSave, cX9_isSave, 1, (some .boolean), 9, 1, true),
  (yX9_isSlot, cX9_isSlot, 1, (some .boolean), 9, 1, true),
  (yX9_isName, cX9_isName, 1, (some .boolean), 9, 1, true),
  (yX9_isFlow, cX9_isFlow, 1, (some .boolean), 9, 1, true),
  (yX9_isPlaceOfSlot, cX9_isPlaceOfSlot, 1, (some .boolean), 9, 1, true),
  (yX9_isBlock, cX9_isBlock, 2, (some .boolean), 9, 2, true),
  (yJ6_bitCount_0f7a4, cJ6_bitCount_0f7a4, 1, (some .int), 25, 1, true),
  (yJ9_floorMod_7cf53, cJ9_floorMod_7cf53, 3, (some .int), 26, 2, true),
  (yL_cell, cL_cell, 2, (some .int), 24, 2, true),
  (yL_up, cL_up, 2, (some .int), 24, 2, true),
  (yL_size, cL_size, 1, (some .int), 24, 1, true),
  (yL_any, cL_any, 3, (some .int), 24, 3, true),
  (yL_turn, cL_turn, 6, (some .int), 24, 4, true),
  (yL_name, cL_name, 4, (some .int), 24, 2, true),
  (yL_hasPlace, cL_hasPlace, 7, (some .boolean), 24, 3, true),
  (yL_areRouters, cL_areRouters, 7, (some .boolean), 24, 1, true),
  (yL_areEnding, cL_areEnding, 6, (some .boolean), 24, 1, true),
  (yL_view, cL_view, 6, (some .long), 24, 1, true),
  (yL_isSent, cL_isSent, 12, (some .boolean), 24, 4, true),
  (yL_isUndone, cL_isUndone, 8, (some .boolean), 24, 6, true),
  (yL_isSaved, cL_isSaved, 6, (some .boolean), 24, 3, true),
  (yL_law, cL_law, 15, (some .boolean), 24, 1, true)]
def mRow (m : Nat) : MRow := mTab.getD m (⟨"", "", ""⟩, code, 0, none, 0, 0, false)
def codT (m : Nat) : List Ent := allCo.getD m []
def retT (m : Nat) : Nat := allRet.getD m 9
def colT (m : Nat) : List Ent := allCl.getD (m - nSm) []
/-- links of fields: the class that holds the link, its entry, the class and the field -/
def flT : List (Nat × Nat × Nat × Nat) := [(1, 7, 1, 0), (8, 226, 1, 0), (1, 13, 1, 1), (8, 79, 1, 1), (4, 64, 1, 1), (5, 12, 5, 0), (8, 37, 5, 0), (5, 18, 5, 1), (8, 82, 5, 1), (7, 11, 7, 0), (6, 12, 6, 0), (2, 25, 6, 0), (8, 88, 6, 0), (6, 21, 6, 1), (2, 32, 6, 1), (8, 107, 6, 1), (9, 141, 6, 1), (6, 29, 6, 2), (8, 123, 6, 2), (6, 33, 6, 3), (2, 40, 6, 3), (8, 117, 6, 3), (6, 36, 6, 4), (8, 126, 6, 4), (2, 12, 2, 0), (4, 55, 2, 0), (2, 21, 2, 1), (8, 189, 2, 1), (2, 36, 2, 2), (4, 52, 2, 2), (8, 193, 2, 2), (2, 43, 2, 3), (8, 202, 2, 3), (2, 44, 2, 4), (2, 47, 2, 5), (8, 162, 2, 5), (4, 11, 4, 0), (8, 158, 4, 0), (9, 167, 4, 0), (4, 18, 4, 1), (8, 135, 4, 1), (4, 22, 4, 2), (8, 203, 4, 2), (9, 193, 4, 2), (4, 25, 4, 3), (8, 206, 4, 3), (4, 28, 4, 4), (8, 144, 4, 4), (4, 31, 4, 5), (8, 223, 4, 5), (4, 34, 4, 6), (8, 186, 4, 6), (8, 11, 8, 0), (8, 19, 8, 1), (9, 137, 8, 1), (8, 25, 8, 2), (9, 155, 8, 2), (8, 29, 8, 3), (8, 53, 8, 4), (8, 59, 8, 5), (8, 65, 8, 6), (9, 119, 8, 6), (8, 33, 8, 7), (3, 13, 3, 0), (3, 18, 3, 1), (3, 28, 3, 2), (9, 106, 3, 2), (0, 9, 0, 0), (9, 89, 0, 1), (0, 15, 0, 3), (9, 10, 9, 0), (9, 16, 9, 1), (9, 22, 9, 2), (9, 26, 9, 3), (9, 30, 9, 4), (9, 37, 9, 5)]
def tOf (c : Nat) : u_T := (vwCl.getD c ("", TX0, 0)).2.1
def flOk (q : Nat × Nat × Nat × Nat) : Prop := inT (.fieldLink (cnm q.1) q.2.1 (cnm q.2.2.1) (tOf q.2.2.1 q.2.2.2).2.1 (tOf q.2.2.1 q.2.2.2).2.2.1)
theorem fl_0 : flOk (1, 7, 1, 0) := inT_at 58 (by decide +kernel)
theorem fl_1 : flOk (8, 226, 1, 0) := inT_at 59 (by decide +kernel)
theorem fl_2 : flOk (1, 13, 1, 1) := inT_at 60 (by decide +kernel)
theorem fl_3 : flOk (8, 79, 1, 1) := inT_at 61 (by decide +kernel)
theorem fl_4 : flOk (4, 64, 1, 1) := inT_at 62 (by decide +kernel)
theorem fl_5 : flOk (5, 12, 5, 0) := inT_at 68 (by decide +kernel)
theorem fl_6 : flOk (8, 37, 5, 0) := inT_at 69 (by decide +kernel)
theorem fl_7 : flOk (5, 18, 5, 1) := inT_at 70 (by decide +kernel)
theorem fl_8 : flOk (8, 82, 5, 1) := inT_at 71 (by decide +kernel)
theorem fl_9 : flOk (7, 11, 7, 0) := inT_at 94 (by decide +kernel)
theorem fl_10 : flOk (6, 12, 6, 0) := inT_at 99 (by decide +kernel)
theorem fl_11 : flOk (2, 25, 6, 0) := inT_at 100 (by decide +kernel)
theorem fl_12 : flOk (8, 88, 6, 0) := inT_at 101 (by decide +kernel)
theorem fl_13 : flOk (6, 21, 6, 1) := inT_at 102 (by decide +kernel)
theorem fl_14 : flOk (2, 32, 6, 1) := inT_at 103 (by decide +kernel)
theorem fl_15 : flOk (8, 107, 6, 1) := inT_at 104 (by decide +kernel)
theorem fl_16 : flOk (9, 141, 6, 1) := inT_at 105 (by decide +kernel)
theorem fl_17 : flOk (6, 29, 6, 2) := inT_at 106 (by decide +kernel)
theorem fl_18 : flOk (8, 123, 6, 2) := inT_at 107 (by decide +kernel)
theorem fl_19 : flOk (6, 33, 6, 3) := inT_at 108 (by decide +kernel)
theorem fl_20 : flOk (2, 40, 6, 3) := inT_at 109 (by decide +kernel)
theorem fl_21 : flOk (8, 117, 6, 3) := inT_at 110 (by decide +kernel)
theorem fl_22 : flOk (6, 36, 6, 4) := inT_at 111 (by decide +kernel)
theorem fl_23 : flOk (8, 126, 6, 4) := inT_at 112 (by decide +kernel)
theorem fl_24 : flOk (2, 12, 2, 0) := inT_at 140 (by decide +kernel)
theorem fl_25 : flOk (4, 55, 2, 0) := inT_at 141 (by decide +kernel)
theorem fl_26 : flOk (2, 21, 2, 1) := inT_at 142 (by decide +kernel)
theorem fl_27 : flOk (8, 189, 2, 1) := inT_at 143 (by decide +kernel)
theorem fl_28 : flOk (2, 36, 2, 2) := inT_at 144 (by decide +kernel)
theorem fl_29 : flOk (4, 52, 2, 2) := inT_at 145 (by decide +kernel)
theorem fl_30 : flOk (8, 193, 2, 2) := inT_at 146 (by decide +kernel)
theorem fl_31 : flOk (2, 43, 2, 3) := inT_at 147 (by decide +kernel)
theorem fl_32 : flOk (8, 202, 2, 3) := inT_at 148 (by decide +kernel)
theorem fl_33 : flOk (2, 44, 2, 4) := inT_at 149 (by decide +kernel)
theorem fl_34 : flOk (2, 47, 2, 5) := inT_at 150 (by decide +kernel)
theorem fl_35 : flOk (8, 162, 2, 5) := inT_at 151 (by decide +kernel)
theorem fl_36 : flOk (4, 11, 4, 0) := inT_at 165 (by decide +kernel)
theorem fl_37 : flOk (8, 158, 4, 0) := inT_at 166 (by decide +kernel)
theorem fl_38 : flOk (9, 167, 4, 0) := inT_at 167 (by decide +kernel)
theorem fl_39 : flOk (4, 18, 4, 1) := inT_at 168 (by decide +kernel)
theorem fl_40 : flOk (8, 135, 4, 1) := inT_at 169 (by decide +kernel)
theorem fl_41 : flOk (4, 22, 4, 2) := inT_at 170 (by decide +kernel)
theorem fl_42 : flOk (8, 203, 4, 2) := inT_at 171 (by decide +kernel)
theorem fl_43 : flOk (9, 193, 4, 2) := inT_at 172 (by decide +kernel)
theorem fl_44 : flOk (4, 25, 4, 3) := inT_at 173 (by decide +kernel)
theorem fl_45 : flOk (8, 206, 4, 3) := inT_at 174 (by decide +kernel)
theorem fl_46 : flOk (4, 28, 4, 4) := inT_at 175 (by decide +kernel)
theorem fl_47 : flOk (8, 144, 4, 4) := inT_at 176 (by decide +kernel)
theorem fl_48 : flOk (4, 31, 4, 5) := inT_at 177 (by decide +kernel)
theorem fl_49 : flOk (8, 223, 4, 5) := inT_at 178 (by decide +kernel)
theorem fl_50 : flOk (4, 34, 4, 6) := inT_at 179 (by decide +kernel)
theorem fl_51 : flOk (8, 186, 4, 6) := inT_at 180 (by decide +kernel)
theorem fl_52 : flOk (8, 11, 8, 0) := inT_at 196 (by decide +kernel)
theorem fl_53 : flOk (8, 19, 8, 1) := inT_at 197 (by decide +kernel)
theorem fl_54 : flOk (9, 137, 8, 1) := inT_at 198 (by decide +kernel)
theorem fl_55 : flOk (8, 25, 8, 2) := inT_at 199 (by decide +kernel)
theorem fl_56 : flOk (9, 155, 8, 2) := inT_at 200 (by decide +kernel)
theorem fl_57 : flOk (8, 29, 8, 3) := inT_at 201 (by decide +kernel)
theorem fl_58 : flOk (8, 53, 8, 4) := inT_at 202 (by decide +kernel)
theorem fl_59 : flOk (8, 59, 8, 5) := inT_at 203 (by decide +kernel)
theorem fl_60 : flOk (8, 65, 8, 6) := inT_at 204 (by decide +kernel)
theorem fl_61 : flOk (9, 119, 8, 6) := inT_at 205 (by decide +kernel)
theorem fl_62 : flOk (8, 33, 8, 7) := inT_at 206 (by decide +kernel)
theorem fl_63 : flOk (3, 13, 3, 0) := inT_at 233 (by decide +kernel)
theorem fl_64 : flOk (3, 18, 3, 1) := inT_at 234 (by decide +kernel)
theorem fl_65 : flOk (3, 28, 3, 2) := inT_at 235 (by decide +kernel)
theorem fl_66 : flOk (9, 106, 3, 2) := inT_at 236 (by decide +kernel)
theorem fl_67 : flOk (0, 9, 0, 0) := inT_at 250 (by decide +kernel)
theorem fl_68 : flOk (9, 89, 0, 1) := inT_at 251 (by decide +kernel)
theorem fl_69 : flOk (0, 15, 0, 3) := inT_at 252 (by decide +kernel)
theorem fl_70 : flOk (9, 10, 9, 0) := inT_at 272 (by decide +kernel)
theorem fl_71 : flOk (9, 16, 9, 1) := inT_at 273 (by decide +kernel)
theorem fl_72 : flOk (9, 22, 9, 2) := inT_at 274 (by decide +kernel)
theorem fl_73 : flOk (9, 26, 9, 3) := inT_at 275 (by decide +kernel)
theorem fl_74 : flOk (9, 30, 9, 4) := inT_at 276 (by decide +kernel)
theorem fl_75 : flOk (9, 37, 9, 5) := inT_at 277 (by decide +kernel)
set_option maxRecDepth 100000 in
theorem flT_ok : ∀ q ∈ flT, flOk q := List.forall_mem_cons.mpr ⟨fl_0, List.forall_mem_cons.mpr ⟨fl_1, List.forall_mem_cons.mpr ⟨fl_2, List.forall_mem_cons.mpr ⟨fl_3, List.forall_mem_cons.mpr ⟨fl_4, List.forall_mem_cons.mpr ⟨fl_5, List.forall_mem_cons.mpr ⟨fl_6, List.forall_mem_cons.mpr ⟨fl_7, List.forall_mem_cons.mpr ⟨fl_8, List.forall_mem_cons.mpr ⟨fl_9, List.forall_mem_cons.mpr ⟨fl_10, List.forall_mem_cons.mpr ⟨fl_11, List.forall_mem_cons.mpr ⟨fl_12, List.forall_mem_cons.mpr ⟨fl_13, List.forall_mem_cons.mpr ⟨fl_14, List.forall_mem_cons.mpr ⟨fl_15, List.forall_mem_cons.mpr ⟨fl_16, List.forall_mem_cons.mpr ⟨fl_17, List.forall_mem_cons.mpr ⟨fl_18, List.forall_mem_cons.mpr ⟨fl_19, List.forall_mem_cons.mpr ⟨fl_20, List.forall_mem_cons.mpr ⟨fl_21, List.forall_mem_cons.mpr ⟨fl_22, List.forall_mem_cons.mpr ⟨fl_23, List.forall_mem_cons.mpr ⟨fl_24, List.forall_mem_cons.mpr ⟨fl_25, List.forall_mem_cons.mpr ⟨fl_26, List.forall_mem_cons.mpr ⟨fl_27, List.forall_mem_cons.mpr ⟨fl_28, List.forall_mem_cons.mpr ⟨fl_29, List.forall_mem_cons.mpr ⟨fl_30, List.forall_mem_cons.mpr ⟨fl_31, List.forall_mem_cons.mpr ⟨fl_32, List.forall_mem_cons.mpr ⟨fl_33, List.forall_mem_cons.mpr ⟨fl_34, List.forall_mem_cons.mpr ⟨fl_35, List.forall_mem_cons.mpr ⟨fl_36, List.forall_mem_cons.mpr ⟨fl_37, List.forall_mem_cons.mpr ⟨fl_38, List.forall_mem_cons.mpr ⟨fl_39, List.forall_mem_cons.mpr ⟨fl_40, List.forall_mem_cons.mpr ⟨fl_41, List.forall_mem_cons.mpr ⟨fl_42, List.forall_mem_cons.mpr ⟨fl_43, List.forall_mem_cons.mpr ⟨fl_44, List.forall_mem_cons.mpr ⟨fl_45, List.forall_mem_cons.mpr ⟨fl_46, List.forall_mem_cons.mpr ⟨fl_47, List.forall_mem_cons.mpr ⟨fl_48, List.forall_mem_cons.mpr ⟨fl_49, List.forall_mem_cons.mpr ⟨fl_50, List.forall_mem_cons.mpr ⟨fl_51, List.forall_mem_cons.mpr ⟨fl_52, List.forall_mem_cons.mpr ⟨fl_53, List.forall_mem_cons.mpr ⟨fl_54, List.forall_mem_cons.mpr ⟨fl_55, List.forall_mem_cons.mpr ⟨fl_56, List.forall_mem_cons.mpr ⟨fl_57, List.forall_mem_cons.mpr ⟨fl_58, List.forall_mem_cons.mpr ⟨fl_59, List.forall_mem_cons.mpr ⟨fl_60, List.forall_mem_cons.mpr ⟨fl_61, List.forall_mem_cons.mpr ⟨fl_62, List.forall_mem_cons.mpr ⟨fl_63, List.forall_mem_cons.mpr ⟨fl_64, List.forall_mem_cons.mpr ⟨fl_65, List.forall_mem_cons.mpr ⟨fl_66, List.forall_mem_cons.mpr ⟨fl_67, List.forall_mem_cons.mpr ⟨fl_68, List.forall_mem_cons.mpr ⟨fl_69, List.forall_mem_cons.mpr ⟨fl_70, List.forall_mem_cons.mpr ⟨fl_71, List.forall_mem_cons.mpr ⟨fl_72, List.forall_mem_cons.mpr ⟨fl_73, List.forall_mem_cons.mpr ⟨fl_74, List.forall_mem_cons.mpr ⟨fl_75, fun _ h => absurd h List.not_mem_nil⟩⟩⟩⟩⟩⟩⟩⟩⟩⟩⟩⟩⟩⟩⟩⟩⟩⟩⟩⟩⟩⟩⟩⟩⟩⟩⟩⟩⟩⟩⟩⟩⟩⟩⟩⟩⟩⟩⟩⟩⟩⟩⟩⟩⟩⟩⟩⟩⟩⟩⟩⟩⟩⟩⟩⟩⟩⟩⟩⟩⟩⟩⟩⟩⟩⟩⟩⟩⟩⟩⟩⟩⟩⟩⟩⟩
def mhOk (r : MRow) : Prop := (r.1.cls ≠ "java/lang/invoke/MethodHandle" ∧ r.1.cls ≠ "java/lang/invoke/VarHandle") ∧ (parseMethodDescriptor r.1.desc).map (fun d => d.parameters.length) = some (r.2.2.2.2.2.1 - if r.2.2.2.2.2.2 = true then 0 else 1) ∧ plainFor r.1 = true ∧ cnm r.2.2.2.2.1 = r.1.cls ∧ r.2.2.1 ≤ 19 ∧ (r.2.2.2.2.2.2 = false → 0 < r.2.2.2.2.2.1)
theorem mh_all : ∀ r ∈ mTab, mhOk r := by unfold mhOk; decide +kernel
def mwOk (r : MRow) : Prop := inT (.code r.1 r.2.1 r.2.2.1 r.2.2.2.1) ∧ inT (.initialized r.1.cls) ∧ (if r.2.2.2.2.2.2 = true then inT (.static r.1) else inT (.instanceMethod r.1) ∧ (r.1.name = "<init>" ∨ inT (.selects r.1.cls r.1 r.1)))
theorem mw_X0_init : mwOk (mRow m_X0_init) := ⟨inT_at 248 (by decide +kernel), inT_at 24 (by decide +kernel), ⟨inT_at 247 (by decide +kernel), Or.inl rfl⟩⟩
theorem mw_X1_init : mwOk (mRow m_X1_init) := ⟨inT_at 56 (by decide +kernel), inT_at 18 (by decide +kernel), ⟨inT_at 55 (by decide +kernel), Or.inl rfl⟩⟩
theorem mw_X1_become : mwOk (mRow m_X1_become) := ⟨inT_at 80 (by decide +kernel), inT_at 18 (by decide +kernel), ⟨inT_at 78 (by decide +kernel), Or.inr (inT_at 79 (by decide +kernel))⟩⟩
theorem mw_X1_copyFrom : mwOk (mRow m_X1_copyFrom) := ⟨inT_at 317 (by decide +kernel), inT_at 18 (by decide +kernel), ⟨inT_at 315 (by decide +kernel), Or.inr (inT_at 316 (by decide +kernel))⟩⟩
theorem mw_X1_isAt : mwOk (mRow m_X1_isAt) := ⟨inT_at 550 (by decide +kernel), inT_at 18 (by decide +kernel), ⟨inT_at 548 (by decide +kernel), Or.inr (inT_at 549 (by decide +kernel))⟩⟩
theorem mw_X1_has : mwOk (mRow m_X1_has) := ⟨inT_at 404 (by decide +kernel), inT_at 18 (by decide +kernel), ⟨inT_at 402 (by decide +kernel), Or.inr (inT_at 403 (by decide +kernel))⟩⟩
theorem mw_X1_holds : mwOk (mRow m_X1_holds) := ⟨inT_at 400 (by decide +kernel), inT_at 18 (by decide +kernel), ⟨inT_at 398 (by decide +kernel), Or.inr (inT_at 399 (by decide +kernel))⟩⟩
theorem mw_X1_meets : mwOk (mRow m_X1_meets) := ⟨inT_at 538 (by decide +kernel), inT_at 18 (by decide +kernel), ⟨inT_at 536 (by decide +kernel), Or.inr (inT_at 537 (by decide +kernel))⟩⟩
theorem mw_X2_init : mwOk (mRow m_X2_init) := ⟨inT_at 134 (by decide +kernel), inT_at 22 (by decide +kernel), ⟨inT_at 133 (by decide +kernel), Or.inl rfl⟩⟩
theorem mw_X2_become : mwOk (mRow m_X2_become) := ⟨inT_at 669 (by decide +kernel), inT_at 22 (by decide +kernel), ⟨inT_at 667 (by decide +kernel), Or.inr (inT_at 668 (by decide +kernel))⟩⟩
theorem mw_X2_copyFrom : mwOk (mRow m_X2_copyFrom) := ⟨inT_at 334 (by decide +kernel), inT_at 22 (by decide +kernel), ⟨inT_at 332 (by decide +kernel), Or.inr (inT_at 333 (by decide +kernel))⟩⟩
theorem mw_X2_isHolding : mwOk (mRow m_X2_isHolding) := ⟨inT_at 508 (by decide +kernel), inT_at 22 (by decide +kernel), ⟨inT_at 506 (by decide +kernel), Or.inr (inT_at 507 (by decide +kernel))⟩⟩
theorem mw_X2_property : mwOk (mRow m_X2_property) := ⟨inT_at 504 (by decide +kernel), inT_at 22 (by decide +kernel), ⟨inT_at 502 (by decide +kernel), Or.inr (inT_at 503 (by decide +kernel))⟩⟩
theorem mw_X3_init : mwOk (mRow m_X3_init) := ⟨inT_at 228 (by decide +kernel), inT_at 23 (by decide +kernel), ⟨inT_at 227 (by decide +kernel), Or.inl rfl⟩⟩
theorem mw_X3_row : mwOk (mRow m_X3_row) := ⟨inT_at 302 (by decide +kernel), inT_at 23 (by decide +kernel), ⟨inT_at 301 (by decide +kernel), Or.inr (inT_at 0 (by decide +kernel))⟩⟩
theorem mw_X3_draft : mwOk (mRow m_X3_draft) := ⟨inT_at 298 (by decide +kernel), inT_at 23 (by decide +kernel), ⟨inT_at 296 (by decide +kernel), Or.inr (inT_at 297 (by decide +kernel))⟩⟩
theorem mw_X3_keepDraft : mwOk (mRow m_X3_keepDraft) := ⟨inT_at 352 (by decide +kernel), inT_at 23 (by decide +kernel), ⟨inT_at 350 (by decide +kernel), Or.inr (inT_at 351 (by decide +kernel))⟩⟩
theorem mw_X3_takeLatest : mwOk (mRow m_X3_takeLatest) := ⟨inT_at 739 (by decide +kernel), inT_at 23 (by decide +kernel), ⟨inT_at 737 (by decide +kernel), Or.inr (inT_at 738 (by decide +kernel))⟩⟩
theorem mw_X4_init : mwOk (mRow m_X4_init) := ⟨inT_at 127 (by decide +kernel), inT_at 21 (by decide +kernel), ⟨inT_at 126 (by decide +kernel), Or.inl rfl⟩⟩
theorem mw_X4_start : mwOk (mRow m_X4_start) := ⟨inT_at 344 (by decide +kernel), inT_at 21 (by decide +kernel), ⟨inT_at 342 (by decide +kernel), Or.inr (inT_at 343 (by decide +kernel))⟩⟩
theorem mw_X4_copyFrom : mwOk (mRow m_X4_copyFrom) := ⟨inT_at 330 (by decide +kernel), inT_at 21 (by decide +kernel), ⟨inT_at 328 (by decide +kernel), Or.inr (inT_at 329 (by decide +kernel))⟩⟩
theorem mw_X4_isPlace : mwOk (mRow m_X4_isPlace) := ⟨inT_at 500 (by decide +kernel), inT_at 21 (by decide +kernel), ⟨inT_at 498 (by decide +kernel), Or.inr (inT_at 499 (by decide +kernel))⟩⟩
theorem mw_X4_property : mwOk (mRow m_X4_property) := ⟨inT_at 384 (by decide +kernel), inT_at 21 (by decide +kernel), ⟨inT_at 382 (by decide +kernel), Or.inr (inT_at 383 (by decide +kernel))⟩⟩
theorem mw_X4_moveToFront : mwOk (mRow m_X4_moveToFront) := ⟨inT_at 656 (by decide +kernel), inT_at 21 (by decide +kernel), ⟨inT_at 654 (by decide +kernel), Or.inr (inT_at 655 (by decide +kernel))⟩⟩
theorem mw_X4_drop : mwOk (mRow m_X4_drop) := ⟨inT_at 646 (by decide +kernel), inT_at 21 (by decide +kernel), ⟨inT_at 644 (by decide +kernel), Or.inr (inT_at 645 (by decide +kernel))⟩⟩
theorem mw_X4_dropEnded : mwOk (mRow m_X4_dropEnded) := ⟨inT_at 640 (by decide +kernel), inT_at 21 (by decide +kernel), ⟨inT_at 638 (by decide +kernel), Or.inr (inT_at 639 (by decide +kernel))⟩⟩
theorem mw_X4_placeOfSite : mwOk (mRow m_X4_placeOfSite) := ⟨inT_at 468 (by decide +kernel), inT_at 21 (by decide +kernel), ⟨inT_at 466 (by decide +kernel), Or.inr (inT_at 467 (by decide +kernel))⟩⟩
theorem mw_X4_placeOfSmallest : mwOk (mRow m_X4_placeOfSmallest) := ⟨inT_at 650 (by decide +kernel), inT_at 21 (by decide +kernel), ⟨inT_at 648 (by decide +kernel), Or.inr (inT_at 649 (by decide +kernel))⟩⟩
theorem mw_X4_addMap : mwOk (mRow m_X4_addMap) := ⟨inT_at 664 (by decide +kernel), inT_at 21 (by decide +kernel), ⟨inT_at 662 (by decide +kernel), Or.inr (inT_at 663 (by decide +kernel))⟩⟩
theorem mw_X5_init : mwOk (mRow m_X5_init) := ⟨inT_at 50 (by decide +kernel), inT_at 17 (by decide +kernel), ⟨inT_at 49 (by decide +kernel), Or.inl rfl⟩⟩
theorem mw_X5_copyFrom : mwOk (mRow m_X5_copyFrom) := ⟨inT_at 313 (by decide +kernel), inT_at 17 (by decide +kernel), ⟨inT_at 311 (by decide +kernel), Or.inr (inT_at 312 (by decide +kernel))⟩⟩
theorem mw_X6_init : mwOk (mRow m_X6_init) := ⟨inT_at 84 (by decide +kernel), inT_at 19 (by decide +kernel), ⟨inT_at 83 (by decide +kernel), Or.inl rfl⟩⟩
theorem mw_X6_start : mwOk (mRow m_X6_start) := ⟨inT_at 554 (by decide +kernel), inT_at 19 (by decide +kernel), ⟨inT_at 552 (by decide +kernel), Or.inr (inT_at 553 (by decide +kernel))⟩⟩
theorem mw_X6_copyFrom : mwOk (mRow m_X6_copyFrom) := ⟨inT_at 321 (by decide +kernel), inT_at 19 (by decide +kernel), ⟨inT_at 319 (by decide +kernel), Or.inr (inT_at 320 (by decide +kernel))⟩⟩
theorem mw_X6_isRegistered : mwOk (mRow m_X6_isRegistered) := ⟨inT_at 372 (by decide +kernel), inT_at 19 (by decide +kernel), ⟨inT_at 370 (by decide +kernel), Or.inr (inT_at 371 (by decide +kernel))⟩⟩
theorem mw_X6_isUp : mwOk (mRow m_X6_isUp) := ⟨inT_at 368 (by decide +kernel), inT_at 19 (by decide +kernel), ⟨inT_at 366 (by decide +kernel), Or.inr (inT_at 367 (by decide +kernel))⟩⟩
theorem mw_X7_init : mwOk (mRow m_X7_init) := ⟨inT_at 92 (by decide +kernel), inT_at 20 (by decide +kernel), ⟨inT_at 91 (by decide +kernel), Or.inl rfl⟩⟩
theorem mw_X7_copyFrom : mwOk (mRow m_X7_copyFrom) := ⟨inT_at 326 (by decide +kernel), inT_at 20 (by decide +kernel), ⟨inT_at 324 (by decide +kernel), Or.inr (inT_at 325 (by decide +kernel))⟩⟩
theorem mw_X7_fill : mwOk (mRow m_X7_fill) := ⟨inT_at 559 (by decide +kernel), inT_at 20 (by decide +kernel), ⟨inT_at 557 (by decide +kernel), Or.inr (inT_at 558 (by decide +kernel))⟩⟩
theorem mw_X7_propertyOf : mwOk (mRow m_X7_propertyOf) := ⟨inT_at 479 (by decide +kernel), inT_at 20 (by decide +kernel), ⟨inT_at 477 (by decide +kernel), Or.inr (inT_at 478 (by decide +kernel))⟩⟩
theorem mw_X7_isEmpty : mwOk (mRow m_X7_isEmpty) := ⟨inT_at 483 (by decide +kernel), inT_at 20 (by decide +kernel), ⟨inT_at 481 (by decide +kernel), Or.inr (inT_at 482 (by decide +kernel))⟩⟩
theorem mw_X7_areEmpty : mwOk (mRow m_X7_areEmpty) := ⟨inT_at 376 (by decide +kernel), inT_at 20 (by decide +kernel), ⟨inT_at 374 (by decide +kernel), Or.inr (inT_at 375 (by decide +kernel))⟩⟩
theorem mw_X7_have : mwOk (mRow m_X7_have) := ⟨inT_at 698 (by decide +kernel), inT_at 20 (by decide +kernel), ⟨inT_at 696 (by decide +kernel), Or.inr (inT_at 697 (by decide +kernel))⟩⟩
theorem mw_X7_lowestPriority : mwOk (mRow m_X7_lowestPriority) := ⟨inT_at 687 (by decide +kernel), inT_at 20 (by decide +kernel), ⟨inT_at 686 (by decide +kernel), Or.inr (inT_at 11 (by decide +kernel))⟩⟩
theorem mw_X7_weightThatCounts : mwOk (mRow m_X7_weightThatCounts) := ⟨inT_at 694 (by decide +kernel), inT_at 20 (by decide +kernel), ⟨inT_at 693 (by decide +kernel), Or.inr (inT_at 12 (by decide +kernel))⟩⟩
theorem mw_X7_placeFor : mwOk (mRow m_X7_placeFor) := ⟨inT_at 683 (by decide +kernel), inT_at 20 (by decide +kernel), ⟨inT_at 681 (by decide +kernel), Or.inr (inT_at 682 (by decide +kernel))⟩⟩
theorem mw_X8_init : mwOk (mRow m_X8_init) := ⟨inT_at 39 (by decide +kernel), inT_at 16 (by decide +kernel), ⟨inT_at 38 (by decide +kernel), Or.inl rfl⟩⟩
theorem mw_X8_copyFrom : mwOk (mRow m_X8_copyFrom) := ⟨inT_at 309 (by decide +kernel), inT_at 16 (by decide +kernel), ⟨inT_at 307 (by decide +kernel), Or.inr (inT_at 308 (by decide +kernel))⟩⟩
theorem mw_X8_isServer : mwOk (mRow m_X8_isServer) := ⟨inT_at 426 (by decide +kernel), inT_at 16 (by decide +kernel), ⟨inT_at 424 (by decide +kernel), Or.inr (inT_at 425 (by decide +kernel))⟩⟩
theorem mw_X8_isSite : mwOk (mRow m_X8_isSite) := ⟨inT_at 451 (by decide +kernel), inT_at 16 (by decide +kernel), ⟨inT_at 449 (by decide +kernel), Or.inr (inT_at 450 (by decide +kernel))⟩⟩
theorem mw_X8_isRouter : mwOk (mRow m_X8_isRouter) := ⟨inT_at 491 (by decide +kernel), inT_at 16 (by decide +kernel), ⟨inT_at 489 (by decide +kernel), Or.inr (inT_at 490 (by decide +kernel))⟩⟩
theorem mw_X8_newServer : mwOk (mRow m_X8_newServer) := ⟨inT_at 522 (by decide +kernel), inT_at 16 (by decide +kernel), ⟨inT_at 520 (by decide +kernel), Or.inr (inT_at 521 (by decide +kernel))⟩⟩
theorem mw_X8_newSite : mwOk (mRow m_X8_newSite) := ⟨inT_at 546 (by decide +kernel), inT_at 16 (by decide +kernel), ⟨inT_at 544 (by decide +kernel), Or.inr (inT_at 545 (by decide +kernel))⟩⟩
theorem mw_X8_newRouter : mwOk (mRow m_X8_newRouter) := ⟨inT_at 340 (by decide +kernel), inT_at 16 (by decide +kernel), ⟨inT_at 338 (by decide +kernel), Or.inr (inT_at 339 (by decide +kernel))⟩⟩
theorem mw_X8_fillSlot : mwOk (mRow m_X8_fillSlot) := ⟨inT_at 568 (by decide +kernel), inT_at 16 (by decide +kernel), ⟨inT_at 566 (by decide +kernel), Or.inr (inT_at 567 (by decide +kernel))⟩⟩
theorem mw_X8_vacateSlot : mwOk (mRow m_X8_vacateSlot) := ⟨inT_at 581 (by decide +kernel), inT_at 16 (by decide +kernel), ⟨inT_at 579 (by decide +kernel), Or.inr (inT_at 580 (by decide +kernel))⟩⟩
theorem mw_X8_startRegistration : mwOk (mRow m_X8_startRegistration) := ⟨inT_at 590 (by decide +kernel), inT_at 16 (by decide +kernel), ⟨inT_at 588 (by decide +kernel), Or.inr (inT_at 589 (by decide +kernel))⟩⟩
theorem mw_X8_endRegistration : mwOk (mRow m_X8_endRegistration) := ⟨inT_at 598 (by decide +kernel), inT_at 16 (by decide +kernel), ⟨inT_at 596 (by decide +kernel), Or.inr (inT_at 597 (by decide +kernel))⟩⟩
theorem mw_X8_changeMapLife : mwOk (mRow m_X8_changeMapLife) := ⟨inT_at 607 (by decide +kernel), inT_at 16 (by decide +kernel), ⟨inT_at 605 (by decide +kernel), Or.inr (inT_at 606 (by decide +kernel))⟩⟩
theorem mw_X8_letPass : mwOk (mRow m_X8_letPass) := ⟨inT_at 624 (by decide +kernel), inT_at 16 (by decide +kernel), ⟨inT_at 622 (by decide +kernel), Or.inr (inT_at 623 (by decide +kernel))⟩⟩
theorem mw_X8_emptyCache : mwOk (mRow m_X8_emptyCache) := ⟨inT_at 615 (by decide +kernel), inT_at 16 (by decide +kernel), ⟨inT_at 613 (by decide +kernel), Or.inr (inT_at 614 (by decide +kernel))⟩⟩
theorem mw_X8_sendLetter : mwOk (mRow m_X8_sendLetter) := ⟨inT_at 632 (by decide +kernel), inT_at 16 (by decide +kernel), ⟨inT_at 630 (by decide +kernel), Or.inr (inT_at 631 (by decide +kernel))⟩⟩
theorem mw_X8_placeByMap : mwOk (mRow m_X8_placeByMap) := ⟨inT_at 679 (by decide +kernel), inT_at 16 (by decide +kernel), ⟨inT_at 678 (by decide +kernel), Or.inr (inT_at 10 (by decide +kernel))⟩⟩
theorem mw_X8_ask : mwOk (mRow m_X8_ask) := ⟨inT_at 660 (by decide +kernel), inT_at 16 (by decide +kernel), ⟨inT_at 659 (by decide +kernel), Or.inr (inT_at 8 (by decide +kernel))⟩⟩
theorem mw_X8_goByProxy : mwOk (mRow m_X8_goByProxy) := ⟨inT_at 675 (by decide +kernel), inT_at 16 (by decide +kernel), ⟨inT_at 674 (by decide +kernel), Or.inr (inT_at 9 (by decide +kernel))⟩⟩
theorem mw_X8_homeOf : mwOk (mRow m_X8_homeOf) := ⟨inT_at 396 (by decide +kernel), inT_at 16 (by decide +kernel), ⟨inT_at 394 (by decide +kernel), Or.inr (inT_at 395 (by decide +kernel))⟩⟩
theorem mw_X8_homeOfSite : mwOk (mRow m_X8_homeOfSite) := ⟨inT_at 447 (by decide +kernel), inT_at 16 (by decide +kernel), ⟨inT_at 445 (by decide +kernel), Or.inr (inT_at 446 (by decide +kernel))⟩⟩
theorem mw_X8_hopsTo : mwOk (mRow m_X8_hopsTo) := ⟨inT_at 439 (by decide +kernel), inT_at 16 (by decide +kernel), ⟨inT_at 437 (by decide +kernel), Or.inr (inT_at 438 (by decide +kernel))⟩⟩
theorem mw_X8_answerFor : mwOk (mRow m_X8_answerFor) := ⟨inT_at 392 (by decide +kernel), inT_at 16 (by decide +kernel), ⟨inT_at 390 (by decide +kernel), Or.inr (inT_at 391 (by decide +kernel))⟩⟩
theorem mw_X8_siteEndingAt : mwOk (mRow m_X8_siteEndingAt) := ⟨inT_at 753 (by decide +kernel), inT_at 16 (by decide +kernel), ⟨inT_at 751 (by decide +kernel), Or.inr (inT_at 752 (by decide +kernel))⟩⟩
theorem mw_X8_sitesEndingAheadOf : mwOk (mRow m_X8_sitesEndingAheadOf) := ⟨inT_at 757 (by decide +kernel), inT_at 16 (by decide +kernel), ⟨inT_at 756 (by decide +kernel), Or.inr (inT_at 13 (by decide +kernel))⟩⟩
theorem mw_X8_serverProperty : mwOk (mRow m_X8_serverProperty) := ⟨inT_at 430 (by decide +kernel), inT_at 16 (by decide +kernel), ⟨inT_at 428 (by decide +kernel), Or.inr (inT_at 429 (by decide +kernel))⟩⟩
theorem mw_X8_childrenOf : mwOk (mRow m_X8_childrenOf) := ⟨inT_at 435 (by decide +kernel), inT_at 16 (by decide +kernel), ⟨inT_at 434 (by decide +kernel), Or.inr (inT_at 5 (by decide +kernel))⟩⟩
theorem mw_X8_sitesAtHome : mwOk (mRow m_X8_sitesAtHome) := ⟨inT_at 443 (by decide +kernel), inT_at 16 (by decide +kernel), ⟨inT_at 442 (by decide +kernel), Or.inr (inT_at 6 (by decide +kernel))⟩⟩
theorem mw_X8_siteProperty : mwOk (mRow m_X8_siteProperty) := ⟨inT_at 460 (by decide +kernel), inT_at 16 (by decide +kernel), ⟨inT_at 458 (by decide +kernel), Or.inr (inT_at 459 (by decide +kernel))⟩⟩
theorem mw_X8_mapsOf : mwOk (mRow m_X8_mapsOf) := ⟨inT_at 464 (by decide +kernel), inT_at 16 (by decide +kernel), ⟨inT_at 463 (by decide +kernel), Or.inr (inT_at 7 (by decide +kernel))⟩⟩
theorem mw_X8_totalOf : mwOk (mRow m_X8_totalOf) := ⟨inT_at 360 (by decide +kernel), inT_at 16 (by decide +kernel), ⟨inT_at 358 (by decide +kernel), Or.inr (inT_at 359 (by decide +kernel))⟩⟩
theorem mw_X8_sitesUp : mwOk (mRow m_X8_sitesUp) := ⟨inT_at 364 (by decide +kernel), inT_at 16 (by decide +kernel), ⟨inT_at 363 (by decide +kernel), Or.inr (inT_at 2 (by decide +kernel))⟩⟩
theorem mw_X8_sumOverRouters : mwOk (mRow m_X8_sumOverRouters) := ⟨inT_at 380 (by decide +kernel), inT_at 16 (by decide +kernel), ⟨inT_at 379 (by decide +kernel), Or.inr (inT_at 3 (by decide +kernel))⟩⟩
theorem mw_X8_namesWithAnswer : mwOk (mRow m_X8_namesWithAnswer) := ⟨inT_at 388 (by decide +kernel), inT_at 16 (by decide +kernel), ⟨inT_at 387 (by decide +kernel), Or.inr (inT_at 4 (by decide +kernel))⟩⟩
theorem mw_X9_init : mwOk (mRow m_X9_init) := ⟨inT_at 31 (by decide +kernel), inT_at 15 (by decide +kernel), ⟨inT_at 30 (by decide +kernel), Or.inl rfl⟩⟩
theorem mw_X9_addServer : mwOk (mRow m_X9_addServer) := ⟨inT_at 518 (by decide +kernel), inT_at 15 (by decide +kernel), ⟨inT_at 516 (by decide +kernel), Or.inr (inT_at 517 (by decide +kernel))⟩⟩
theorem mw_X9_addSite : mwOk (mRow m_X9_addSite) := ⟨inT_at 542 (by decide +kernel), inT_at 15 (by decide +kernel), ⟨inT_at 540 (by decide +kernel), Or.inr (inT_at 541 (by decide +kernel))⟩⟩
theorem mw_X9_addRouter : mwOk (mRow m_X9_addRouter) := ⟨inT_at 294 (by decide +kernel), inT_at 15 (by decide +kernel), ⟨inT_at 292 (by decide +kernel), Or.inr (inT_at 293 (by decide +kernel))⟩⟩
theorem mw_X9_setSlot : mwOk (mRow m_X9_setSlot) := ⟨inT_at 564 (by decide +kernel), inT_at 15 (by decide +kernel), ⟨inT_at 562 (by decide +kernel), Or.inr (inT_at 563 (by decide +kernel))⟩⟩
theorem mw_X9_emptySlot : mwOk (mRow m_X9_emptySlot) := ⟨inT_at 577 (by decide +kernel), inT_at 15 (by decide +kernel), ⟨inT_at 575 (by decide +kernel), Or.inr (inT_at 576 (by decide +kernel))⟩⟩
theorem mw_X9_register : mwOk (mRow m_X9_register) := ⟨inT_at 586 (by decide +kernel), inT_at 15 (by decide +kernel), ⟨inT_at 584 (by decide +kernel), Or.inr (inT_at 585 (by decide +kernel))⟩⟩
theorem mw_X9_unregister : mwOk (mRow m_X9_unregister) := ⟨inT_at 594 (by decide +kernel), inT_at 15 (by decide +kernel), ⟨inT_at 592 (by decide +kernel), Or.inr (inT_at 593 (by decide +kernel))⟩⟩
theorem mw_X9_setMapLife : mwOk (mRow m_X9_setMapLife) := ⟨inT_at 603 (by decide +kernel), inT_at 15 (by decide +kernel), ⟨inT_at 601 (by decide +kernel), Or.inr (inT_at 602 (by decide +kernel))⟩⟩
theorem mw_X9_send : mwOk (mRow m_X9_send) := ⟨inT_at 628 (by decide +kernel), inT_at 15 (by decide +kernel), ⟨inT_at 626 (by decide +kernel), Or.inr (inT_at 627 (by decide +kernel))⟩⟩
theorem mw_X9_pass : mwOk (mRow m_X9_pass) := ⟨inT_at 620 (by decide +kernel), inT_at 15 (by decide +kernel), ⟨inT_at 618 (by decide +kernel), Or.inr (inT_at 619 (by decide +kernel))⟩⟩
theorem mw_X9_forget : mwOk (mRow m_X9_forget) := ⟨inT_at 611 (by decide +kernel), inT_at 15 (by decide +kernel), ⟨inT_at 609 (by decide +kernel), Or.inr (inT_at 610 (by decide +kernel))⟩⟩
theorem mw_X9_undo : mwOk (mRow m_X9_undo) := ⟨inT_at 735 (by decide +kernel), inT_at 15 (by decide +kernel), ⟨inT_at 733 (by decide +kernel), Or.inr (inT_at 734 (by decide +kernel))⟩⟩
theorem mw_X9_save : mwOk (mRow m_X9_save) := ⟨inT_at 767 (by decide +kernel), inT_at 15 (by decide +kernel), ⟨inT_at 765 (by decide +kernel), Or.inr (inT_at 766 (by decide +kernel))⟩⟩
theorem mw_X9_restore : mwOk (mRow m_X9_restore) := ⟨inT_at 708 (by decide +kernel), inT_at 15 (by decide +kernel), ⟨inT_at 706 (by decide +kernel), Or.inr (inT_at 707 (by decide +kernel))⟩⟩
theorem mw_X9_server : mwOk (mRow m_X9_server) := ⟨inT_at 422 (by decide +kernel), inT_at 15 (by decide +kernel), ⟨inT_at 420 (by decide +kernel), Or.inr (inT_at 421 (by decide +kernel))⟩⟩
theorem mw_X9_site : mwOk (mRow m_X9_site) := ⟨inT_at 455 (by decide +kernel), inT_at 15 (by decide +kernel), ⟨inT_at 453 (by decide +kernel), Or.inr (inT_at 454 (by decide +kernel))⟩⟩
theorem mw_X9_slot : mwOk (mRow m_X9_slot) := ⟨inT_at 472 (by decide +kernel), inT_at 15 (by decide +kernel), ⟨inT_at 470 (by decide +kernel), Or.inr (inT_at 471 (by decide +kernel))⟩⟩
theorem mw_X9_router : mwOk (mRow m_X9_router) := ⟨inT_at 487 (by decide +kernel), inT_at 15 (by decide +kernel), ⟨inT_at 485 (by decide +kernel), Or.inr (inT_at 486 (by decide +kernel))⟩⟩
theorem mw_X9_map : mwOk (mRow m_X9_map) := ⟨inT_at 496 (by decide +kernel), inT_at 15 (by decide +kernel), ⟨inT_at 494 (by decide +kernel), Or.inr (inT_at 495 (by decide +kernel))⟩⟩
theorem mw_X9_answer : mwOk (mRow m_X9_answer) := ⟨inT_at 719 (by decide +kernel), inT_at 15 (by decide +kernel), ⟨inT_at 717 (by decide +kernel), Or.inr (inT_at 718 (by decide +kernel))⟩⟩
theorem mw_X9_endingNext : mwOk (mRow m_X9_endingNext) := ⟨inT_at 749 (by decide +kernel), inT_at 15 (by decide +kernel), ⟨inT_at 747 (by decide +kernel), Or.inr (inT_at 748 (by decide +kernel))⟩⟩
theorem mw_X9_total : mwOk (mRow m_X9_total) := ⟨inT_at 356 (by decide +kernel), inT_at 15 (by decide +kernel), ⟨inT_at 354 (by decide +kernel), Or.inr (inT_at 355 (by decide +kernel))⟩⟩
theorem mw_X9_wouldReach : mwOk (mRow m_X9_wouldReach) := ⟨inT_at 724 (by decide +kernel), inT_at 15 (by decide +kernel), ⟨inT_at 722 (by decide +kernel), Or.inr (inT_at 723 (by decide +kernel))⟩⟩
theorem mw_X9_wouldAsk : mwOk (mRow m_X9_wouldAsk) := ⟨inT_at 728 (by decide +kernel), inT_at 15 (by decide +kernel), ⟨inT_at 726 (by decide +kernel), Or.inr (inT_at 727 (by decide +kernel))⟩⟩
theorem mw_X9_recorded : mwOk (mRow m_X9_recorded) := ⟨inT_at 348 (by decide +kernel), inT_at 15 (by decide +kernel), ⟨inT_at 347 (by decide +kernel), Or.inr (inT_at 1 (by decide +kernel))⟩⟩
theorem mw_X9_isSave : mwOk (mRow m_X9_isSave) := ⟨inT_at 711 (by decide +kernel), inT_at 15 (by decide +kernel), inT_at 710 (by decide +kernel)⟩
theorem mw_X9_isSlot : mwOk (mRow m_X9_isSlot) := ⟨inT_at 475 (by decide +kernel), inT_at 15 (by decide +kernel), inT_at 474 (by decide +kernel)⟩
theorem mw_X9_isName : mwOk (mRow m_X9_isName) := ⟨inT_at 534 (by decide +kernel), inT_at 15 (by decide +kernel), inT_at 533 (by decide +kernel)⟩
theorem mw_X9_isFlow : mwOk (mRow m_X9_isFlow) := ⟨inT_at 636 (by decide +kernel), inT_at 15 (by decide +kernel), inT_at 635 (by decide +kernel)⟩
theorem mw_X9_isPlaceOfSlot : mwOk (mRow m_X9_isPlaceOfSlot) := ⟨inT_at 572 (by decide +kernel), inT_at 15 (by decide +kernel), inT_at 571 (by decide +kernel)⟩
theorem mw_X9_isBlock : mwOk (mRow m_X9_isBlock) := ⟨inT_at 525 (by decide +kernel), inT_at 15 (by decide +kernel), inT_at 524 (by decide +kernel)⟩
theorem mw_J6_bitCount_0f7a4 : mwOk (mRow m_J6_bitCount_0f7a4) := ⟨inT_at 528 (by decide +kernel), inT_at 26 (by decide +kernel), inT_at 527 (by decide +kernel)⟩
theorem mw_J9_floorMod_7cf53 : mwOk (mRow m_J9_floorMod_7cf53) := ⟨inT_at 305 (by decide +kernel), inT_at 25 (by decide +kernel), inT_at 304 (by decide +kernel)⟩
theorem mw_L_cell : mwOk (mRow m_L_cell) := ⟨inT_at 408 (by decide +kernel), inT_at 14 (by decide +kernel), inT_at 407 (by decide +kernel)⟩
theorem mw_L_up : mwOk (mRow m_L_up) := ⟨inT_at 412 (by decide +kernel), inT_at 14 (by decide +kernel), inT_at 411 (by decide +kernel)⟩
theorem mw_L_size : mwOk (mRow m_L_size) := ⟨inT_at 514 (by decide +kernel), inT_at 14 (by decide +kernel), inT_at 513 (by decide +kernel)⟩
theorem mw_L_any : mwOk (mRow m_L_any) := ⟨inT_at 704 (by decide +kernel), inT_at 14 (by decide +kernel), inT_at 703 (by decide +kernel)⟩
theorem mw_L_turn : mwOk (mRow m_L_turn) := ⟨inT_at 511 (by decide +kernel), inT_at 14 (by decide +kernel), inT_at 510 (by decide +kernel)⟩
theorem mw_L_name : mwOk (mRow m_L_name) := ⟨inT_at 701 (by decide +kernel), inT_at 14 (by decide +kernel), inT_at 700 (by decide +kernel)⟩
theorem mw_L_hasPlace : mwOk (mRow m_L_hasPlace) := ⟨inT_at 731 (by decide +kernel), inT_at 14 (by decide +kernel), inT_at 730 (by decide +kernel)⟩
theorem mw_L_areRouters : mwOk (mRow m_L_areRouters) := ⟨inT_at 742 (by decide +kernel), inT_at 14 (by decide +kernel), inT_at 741 (by decide +kernel)⟩
theorem mw_L_areEnding : mwOk (mRow m_L_areEnding) := ⟨inT_at 745 (by decide +kernel), inT_at 14 (by decide +kernel), inT_at 744 (by decide +kernel)⟩
theorem mw_L_view : mwOk (mRow m_L_view) := ⟨inT_at 416 (by decide +kernel), inT_at 14 (by decide +kernel), inT_at 415 (by decide +kernel)⟩
theorem mw_L_isSent : mwOk (mRow m_L_isSent) := ⟨inT_at 715 (by decide +kernel), inT_at 14 (by decide +kernel), inT_at 714 (by decide +kernel)⟩
theorem mw_L_isUndone : mwOk (mRow m_L_isUndone) := ⟨inT_at 760 (by decide +kernel), inT_at 14 (by decide +kernel), inT_at 759 (by decide +kernel)⟩
theorem mw_L_isSaved : mwOk (mRow m_L_isSaved) := ⟨inT_at 763 (by decide +kernel), inT_at 14 (by decide +kernel), inT_at 762 (by decide +kernel)⟩
/-- links of methods: the class that holds the link, its entry, the method, nest or not -/
def mlT : List (Nat × Nat × Nat × Nat) := [(24, 121, 80, 0), (9, 9, 46, 0), (8, 41, 2, 0), (8, 48, 18, 0), (9, 21, 13, 0), (3, 17, 46, 0), (24, 69, 83, 0), (9, 41, 15, 0), (3, 31, 14, 0), (3, 22, 113, 0), (3, 35, 47, 0), (8, 49, 30, 0), (5, 22, 3, 0), (8, 56, 33, 0), (6, 43, 3, 0), (6, 47, 37, 0), (8, 62, 20, 0), (4, 37, 10, 0), (2, 28, 3, 0), (2, 33, 37, 0), (9, 56, 53, 0), (8, 96, 19, 0), (9, 49, 105, 0), (9, 202, 16, 0), (24, 13, 102, 0), (9, 190, 76, 0), (8, 250, 77, 0), (8, 196, 35, 0), (6, 50, 34, 0), (6, 54, 41, 0), (8, 254, 78, 0), (8, 260, 22, 0), (8, 257, 79, 0), (8, 216, 68, 0), (8, 209, 65, 0), (8, 76, 6, 0), (8, 229, 5, 0), (1, 16, 6, 0), (24, 122, 114, 0), (24, 61, 115, 0), (24, 19, 95, 0), (9, 122, 48, 0), (9, 125, 71, 0), (8, 68, 48, 0), (8, 235, 72, 0), (8, 213, 67, 0), (8, 238, 73, 0), (8, 241, 66, 0), (8, 98, 49, 0), (24, 23, 96, 0), (9, 128, 49, 0), (9, 131, 74, 0), (8, 244, 75, 0), (8, 247, 26, 0), (24, 26, 97, 0), (9, 134, 107, 0), (9, 147, 39, 0), (7, 19, 40, 0), (24, 30, 98, 0), (9, 152, 50, 0), (9, 159, 22, 0), (24, 33, 99, 0), (9, 164, 21, 0), (9, 171, 12, 0), (2, 51, 11, 0), (24, 114, 118, 0), (24, 66, 116, 0), (24, 36, 81, 0), (9, 45, 51, 0), (9, 217, 112, 0), (9, 175, 108, 0), (8, 85, 7, 0), (24, 39, 82, 0), (9, 53, 52, 0), (8, 89, 4, 0), (8, 92, 32, 0), (6, 25, 2, 0), (6, 39, 38, 0), (24, 42, 84, 0), (9, 60, 54, 0), (8, 111, 38, 0), (24, 46, 85, 0), (9, 64, 55, 0), (8, 120, 40, 0), (24, 73, 86, 0), (9, 68, 56, 0), (24, 76, 87, 0), (9, 71, 57, 0), (8, 129, 34, 0), (24, 58, 88, 0), (9, 74, 58, 0), (24, 79, 91, 0), (9, 83, 60, 0), (8, 132, 50, 0), (24, 52, 90, 0), (9, 80, 59, 0), (24, 49, 89, 0), (9, 77, 61, 0), (8, 147, 25, 0), (4, 41, 21, 0), (4, 45, 11, 0), (4, 48, 24, 0), (8, 151, 27, 0), (4, 59, 5, 0), (8, 155, 21, 0), (8, 168, 23, 0), (8, 171, 63, 0), (8, 219, 28, 0), (4, 67, 26, 0), (4, 71, 9, 0), (4, 75, 23, 0), (8, 175, 24, 0), (8, 178, 64, 0), (8, 182, 62, 0), (8, 190, 45, 0), (7, 28, 43, 0), (7, 32, 44, 0), (8, 199, 42, 0), (24, 82, 119, 0), (24, 86, 117, 0), (24, 55, 94, 0), (9, 112, 106, 0), (9, 116, 47, 0), (24, 94, 100, 0), (9, 178, 68, 0), (24, 97, 103, 0), (24, 101, 104, 0), (24, 104, 120, 0), (24, 108, 92, 0), (9, 109, 17, 0), (24, 137, 121, 0), (24, 141, 122, 0), (24, 111, 101, 0), (9, 187, 69, 0), (8, 232, 70, 0), (24, 118, 93, 0), (8, 36, 29, 1), (5, 11, 1, 1), (8, 47, 31, 1), (6, 11, 1, 1), (6, 20, 36, 1), (4, 17, 8, 1), (2, 11, 1, 1), (2, 20, 36, 1), (9, 36, 0, 1), (8, 72, 111, 1), (7, 15, 107, 1), (8, 101, 107, 1), (8, 104, 110, 1), (8, 138, 108, 1), (8, 141, 109, 1)]
def mlOk (q : Nat × Nat × Nat × Nat) : Prop := mwOk (mRow q.2.2.1) ∧ mhOk (mRow q.2.2.1) ∧ (if q.2.2.2 = 0 then inT (.methodLink (cnm q.1) q.2.1 (mRow q.2.2.1).1) else inT (.methodLinkNest (cnm q.1) q.2.1 (mRow q.2.2.1).1 RX9))
theorem mh_at {m : Nat} (h : m < mTab.length) : mhOk (mRow m) := by
  unfold mRow
  rw [List.getD_eq_getElem?_getD, List.getElem?_eq_getElem h]
  exact mh_all _ (List.getElem_mem h)
theorem ml_0 : mlOk (24, 121, 80, 0) := ⟨mw_X9_init, mh_at (by decide +kernel), inT_at 29 (by decide +kernel)⟩
theorem ml_1 : mlOk (9, 9, 46, 0) := ⟨mw_X8_init, mh_at (by decide +kernel), inT_at 37 (by decide +kernel)⟩
theorem ml_2 : mlOk (8, 41, 2, 0) := ⟨mw_X1_become, mh_at (by decide +kernel), inT_at 77 (by decide +kernel)⟩
theorem ml_3 : mlOk (8, 48, 18, 0) := ⟨mw_X4_init, mh_at (by decide +kernel), inT_at 125 (by decide +kernel)⟩
theorem ml_4 : mlOk (9, 21, 13, 0) := ⟨mw_X3_init, mh_at (by decide +kernel), inT_at 226 (by decide +kernel)⟩
theorem ml_5 : mlOk (3, 17, 46, 0) := ⟨mw_X8_init, mh_at (by decide +kernel), inT_at 232 (by decide +kernel)⟩
theorem ml_6 : mlOk (24, 69, 83, 0) := ⟨mw_X9_addRouter, mh_at (by decide +kernel), inT_at 291 (by decide +kernel)⟩
theorem ml_7 : mlOk (9, 41, 15, 0) := ⟨mw_X3_draft, mh_at (by decide +kernel), inT_at 295 (by decide +kernel)⟩
theorem ml_8 : mlOk (3, 31, 14, 0) := ⟨mw_X3_row, mh_at (by decide +kernel), inT_at 299 (by decide +kernel)⟩
theorem ml_9 : mlOk (3, 22, 113, 0) := ⟨mw_J9_floorMod_7cf53, mh_at (by decide +kernel), inT_at 303 (by decide +kernel)⟩
theorem ml_10 : mlOk (3, 35, 47, 0) := ⟨mw_X8_copyFrom, mh_at (by decide +kernel), inT_at 306 (by decide +kernel)⟩
theorem ml_11 : mlOk (8, 49, 30, 0) := ⟨mw_X5_copyFrom, mh_at (by decide +kernel), inT_at 310 (by decide +kernel)⟩
theorem ml_12 : mlOk (5, 22, 3, 0) := ⟨mw_X1_copyFrom, mh_at (by decide +kernel), inT_at 314 (by decide +kernel)⟩
theorem ml_13 : mlOk (8, 56, 33, 0) := ⟨mw_X6_copyFrom, mh_at (by decide +kernel), inT_at 318 (by decide +kernel)⟩
theorem ml_14 : mlOk (6, 43, 3, 0) := ⟨mw_X1_copyFrom, mh_at (by decide +kernel), inT_at 322 (by decide +kernel)⟩
theorem ml_15 : mlOk (6, 47, 37, 0) := ⟨mw_X7_copyFrom, mh_at (by decide +kernel), inT_at 323 (by decide +kernel)⟩
theorem ml_16 : mlOk (8, 62, 20, 0) := ⟨mw_X4_copyFrom, mh_at (by decide +kernel), inT_at 327 (by decide +kernel)⟩
theorem ml_17 : mlOk (4, 37, 10, 0) := ⟨mw_X2_copyFrom, mh_at (by decide +kernel), inT_at 331 (by decide +kernel)⟩
theorem ml_18 : mlOk (2, 28, 3, 0) := ⟨mw_X1_copyFrom, mh_at (by decide +kernel), inT_at 335 (by decide +kernel)⟩
theorem ml_19 : mlOk (2, 33, 37, 0) := ⟨mw_X7_copyFrom, mh_at (by decide +kernel), inT_at 336 (by decide +kernel)⟩
theorem ml_20 : mlOk (9, 56, 53, 0) := ⟨mw_X8_newRouter, mh_at (by decide +kernel), inT_at 337 (by decide +kernel)⟩
theorem ml_21 : mlOk (8, 96, 19, 0) := ⟨mw_X4_start, mh_at (by decide +kernel), inT_at 341 (by decide +kernel)⟩
theorem ml_22 : mlOk (9, 49, 105, 0) := ⟨mw_X9_recorded, mh_at (by decide +kernel), inT_at 345 (by decide +kernel)⟩
theorem ml_23 : mlOk (9, 202, 16, 0) := ⟨mw_X3_keepDraft, mh_at (by decide +kernel), inT_at 349 (by decide +kernel)⟩
theorem ml_24 : mlOk (24, 13, 102, 0) := ⟨mw_X9_total, mh_at (by decide +kernel), inT_at 353 (by decide +kernel)⟩
theorem ml_25 : mlOk (9, 190, 76, 0) := ⟨mw_X8_totalOf, mh_at (by decide +kernel), inT_at 357 (by decide +kernel)⟩
theorem ml_26 : mlOk (8, 250, 77, 0) := ⟨mw_X8_sitesUp, mh_at (by decide +kernel), inT_at 361 (by decide +kernel)⟩
theorem ml_27 : mlOk (8, 196, 35, 0) := ⟨mw_X6_isUp, mh_at (by decide +kernel), inT_at 365 (by decide +kernel)⟩
theorem ml_28 : mlOk (6, 50, 34, 0) := ⟨mw_X6_isRegistered, mh_at (by decide +kernel), inT_at 369 (by decide +kernel)⟩
theorem ml_29 : mlOk (6, 54, 41, 0) := ⟨mw_X7_areEmpty, mh_at (by decide +kernel), inT_at 373 (by decide +kernel)⟩
theorem ml_30 : mlOk (8, 254, 78, 0) := ⟨mw_X8_sumOverRouters, mh_at (by decide +kernel), inT_at 377 (by decide +kernel)⟩
theorem ml_31 : mlOk (8, 260, 22, 0) := ⟨mw_X4_property, mh_at (by decide +kernel), inT_at 381 (by decide +kernel)⟩
theorem ml_32 : mlOk (8, 257, 79, 0) := ⟨mw_X8_namesWithAnswer, mh_at (by decide +kernel), inT_at 385 (by decide +kernel)⟩
theorem ml_33 : mlOk (8, 216, 68, 0) := ⟨mw_X8_answerFor, mh_at (by decide +kernel), inT_at 389 (by decide +kernel)⟩
theorem ml_34 : mlOk (8, 209, 65, 0) := ⟨mw_X8_homeOf, mh_at (by decide +kernel), inT_at 393 (by decide +kernel)⟩
theorem ml_35 : mlOk (8, 76, 6, 0) := ⟨mw_X1_holds, mh_at (by decide +kernel), inT_at 397 (by decide +kernel)⟩
theorem ml_36 : mlOk (8, 229, 5, 0) := ⟨mw_X1_has, mh_at (by decide +kernel), inT_at 401 (by decide +kernel)⟩
theorem ml_37 : mlOk (1, 16, 6, 0) := ⟨mw_X1_holds, mh_at (by decide +kernel), inT_at 405 (by decide +kernel)⟩
theorem ml_38 : mlOk (24, 122, 114, 0) := ⟨mw_L_cell, mh_at (by decide +kernel), inT_at 406 (by decide +kernel)⟩
theorem ml_39 : mlOk (24, 61, 115, 0) := ⟨mw_L_up, mh_at (by decide +kernel), inT_at 410 (by decide +kernel)⟩
theorem ml_40 : mlOk (24, 19, 95, 0) := ⟨mw_X9_server, mh_at (by decide +kernel), inT_at 419 (by decide +kernel)⟩
theorem ml_41 : mlOk (9, 122, 48, 0) := ⟨mw_X8_isServer, mh_at (by decide +kernel), inT_at 423 (by decide +kernel)⟩
theorem ml_42 : mlOk (9, 125, 71, 0) := ⟨mw_X8_serverProperty, mh_at (by decide +kernel), inT_at 427 (by decide +kernel)⟩
theorem ml_43 : mlOk (8, 68, 48, 0) := ⟨mw_X8_isServer, mh_at (by decide +kernel), inT_at 431 (by decide +kernel)⟩
theorem ml_44 : mlOk (8, 235, 72, 0) := ⟨mw_X8_childrenOf, mh_at (by decide +kernel), inT_at 432 (by decide +kernel)⟩
theorem ml_45 : mlOk (8, 213, 67, 0) := ⟨mw_X8_hopsTo, mh_at (by decide +kernel), inT_at 436 (by decide +kernel)⟩
theorem ml_46 : mlOk (8, 238, 73, 0) := ⟨mw_X8_sitesAtHome, mh_at (by decide +kernel), inT_at 440 (by decide +kernel)⟩
theorem ml_47 : mlOk (8, 241, 66, 0) := ⟨mw_X8_homeOfSite, mh_at (by decide +kernel), inT_at 444 (by decide +kernel)⟩
theorem ml_48 : mlOk (8, 98, 49, 0) := ⟨mw_X8_isSite, mh_at (by decide +kernel), inT_at 448 (by decide +kernel)⟩
theorem ml_49 : mlOk (24, 23, 96, 0) := ⟨mw_X9_site, mh_at (by decide +kernel), inT_at 452 (by decide +kernel)⟩
theorem ml_50 : mlOk (9, 128, 49, 0) := ⟨mw_X8_isSite, mh_at (by decide +kernel), inT_at 456 (by decide +kernel)⟩
theorem ml_51 : mlOk (9, 131, 74, 0) := ⟨mw_X8_siteProperty, mh_at (by decide +kernel), inT_at 457 (by decide +kernel)⟩
theorem ml_52 : mlOk (8, 244, 75, 0) := ⟨mw_X8_mapsOf, mh_at (by decide +kernel), inT_at 461 (by decide +kernel)⟩
theorem ml_53 : mlOk (8, 247, 26, 0) := ⟨mw_X4_placeOfSite, mh_at (by decide +kernel), inT_at 465 (by decide +kernel)⟩
theorem ml_54 : mlOk (24, 26, 97, 0) := ⟨mw_X9_slot, mh_at (by decide +kernel), inT_at 469 (by decide +kernel)⟩
theorem ml_55 : mlOk (9, 134, 107, 0) := ⟨mw_X9_isSlot, mh_at (by decide +kernel), inT_at 473 (by decide +kernel)⟩
theorem ml_56 : mlOk (9, 147, 39, 0) := ⟨mw_X7_propertyOf, mh_at (by decide +kernel), inT_at 476 (by decide +kernel)⟩
theorem ml_57 : mlOk (7, 19, 40, 0) := ⟨mw_X7_isEmpty, mh_at (by decide +kernel), inT_at 480 (by decide +kernel)⟩
theorem ml_58 : mlOk (24, 30, 98, 0) := ⟨mw_X9_router, mh_at (by decide +kernel), inT_at 484 (by decide +kernel)⟩
theorem ml_59 : mlOk (9, 152, 50, 0) := ⟨mw_X8_isRouter, mh_at (by decide +kernel), inT_at 488 (by decide +kernel)⟩
theorem ml_60 : mlOk (9, 159, 22, 0) := ⟨mw_X4_property, mh_at (by decide +kernel), inT_at 492 (by decide +kernel)⟩
theorem ml_61 : mlOk (24, 33, 99, 0) := ⟨mw_X9_map, mh_at (by decide +kernel), inT_at 493 (by decide +kernel)⟩
theorem ml_62 : mlOk (9, 164, 21, 0) := ⟨mw_X4_isPlace, mh_at (by decide +kernel), inT_at 497 (by decide +kernel)⟩
theorem ml_63 : mlOk (9, 171, 12, 0) := ⟨mw_X2_property, mh_at (by decide +kernel), inT_at 501 (by decide +kernel)⟩
theorem ml_64 : mlOk (2, 51, 11, 0) := ⟨mw_X2_isHolding, mh_at (by decide +kernel), inT_at 505 (by decide +kernel)⟩
theorem ml_65 : mlOk (24, 114, 118, 0) := ⟨mw_L_turn, mh_at (by decide +kernel), inT_at 509 (by decide +kernel)⟩
theorem ml_66 : mlOk (24, 66, 116, 0) := ⟨mw_L_size, mh_at (by decide +kernel), inT_at 512 (by decide +kernel)⟩
theorem ml_67 : mlOk (24, 36, 81, 0) := ⟨mw_X9_addServer, mh_at (by decide +kernel), inT_at 515 (by decide +kernel)⟩
theorem ml_68 : mlOk (9, 45, 51, 0) := ⟨mw_X8_newServer, mh_at (by decide +kernel), inT_at 519 (by decide +kernel)⟩
theorem ml_69 : mlOk (9, 217, 112, 0) := ⟨mw_J6_bitCount_0f7a4, mh_at (by decide +kernel), inT_at 526 (by decide +kernel)⟩
theorem ml_70 : mlOk (9, 175, 108, 0) := ⟨mw_X9_isName, mh_at (by decide +kernel), inT_at 532 (by decide +kernel)⟩
theorem ml_71 : mlOk (8, 85, 7, 0) := ⟨mw_X1_meets, mh_at (by decide +kernel), inT_at 535 (by decide +kernel)⟩
theorem ml_72 : mlOk (24, 39, 82, 0) := ⟨mw_X9_addSite, mh_at (by decide +kernel), inT_at 539 (by decide +kernel)⟩
theorem ml_73 : mlOk (9, 53, 52, 0) := ⟨mw_X8_newSite, mh_at (by decide +kernel), inT_at 543 (by decide +kernel)⟩
theorem ml_74 : mlOk (8, 89, 4, 0) := ⟨mw_X1_isAt, mh_at (by decide +kernel), inT_at 547 (by decide +kernel)⟩
theorem ml_75 : mlOk (8, 92, 32, 0) := ⟨mw_X6_start, mh_at (by decide +kernel), inT_at 551 (by decide +kernel)⟩
theorem ml_76 : mlOk (6, 25, 2, 0) := ⟨mw_X1_become, mh_at (by decide +kernel), inT_at 555 (by decide +kernel)⟩
theorem ml_77 : mlOk (6, 39, 38, 0) := ⟨mw_X7_fill, mh_at (by decide +kernel), inT_at 556 (by decide +kernel)⟩
theorem ml_78 : mlOk (24, 42, 84, 0) := ⟨mw_X9_setSlot, mh_at (by decide +kernel), inT_at 561 (by decide +kernel)⟩
theorem ml_79 : mlOk (9, 60, 54, 0) := ⟨mw_X8_fillSlot, mh_at (by decide +kernel), inT_at 565 (by decide +kernel)⟩
theorem ml_80 : mlOk (8, 111, 38, 0) := ⟨mw_X7_fill, mh_at (by decide +kernel), inT_at 573 (by decide +kernel)⟩
theorem ml_81 : mlOk (24, 46, 85, 0) := ⟨mw_X9_emptySlot, mh_at (by decide +kernel), inT_at 574 (by decide +kernel)⟩
theorem ml_82 : mlOk (9, 64, 55, 0) := ⟨mw_X8_vacateSlot, mh_at (by decide +kernel), inT_at 578 (by decide +kernel)⟩
theorem ml_83 : mlOk (8, 120, 40, 0) := ⟨mw_X7_isEmpty, mh_at (by decide +kernel), inT_at 582 (by decide +kernel)⟩
theorem ml_84 : mlOk (24, 73, 86, 0) := ⟨mw_X9_register, mh_at (by decide +kernel), inT_at 583 (by decide +kernel)⟩
theorem ml_85 : mlOk (9, 68, 56, 0) := ⟨mw_X8_startRegistration, mh_at (by decide +kernel), inT_at 587 (by decide +kernel)⟩
theorem ml_86 : mlOk (24, 76, 87, 0) := ⟨mw_X9_unregister, mh_at (by decide +kernel), inT_at 591 (by decide +kernel)⟩
theorem ml_87 : mlOk (9, 71, 57, 0) := ⟨mw_X8_endRegistration, mh_at (by decide +kernel), inT_at 595 (by decide +kernel)⟩
theorem ml_88 : mlOk (8, 129, 34, 0) := ⟨mw_X6_isRegistered, mh_at (by decide +kernel), inT_at 599 (by decide +kernel)⟩
theorem ml_89 : mlOk (24, 58, 88, 0) := ⟨mw_X9_setMapLife, mh_at (by decide +kernel), inT_at 600 (by decide +kernel)⟩
theorem ml_90 : mlOk (9, 74, 58, 0) := ⟨mw_X8_changeMapLife, mh_at (by decide +kernel), inT_at 604 (by decide +kernel)⟩
theorem ml_91 : mlOk (24, 79, 91, 0) := ⟨mw_X9_forget, mh_at (by decide +kernel), inT_at 608 (by decide +kernel)⟩
theorem ml_92 : mlOk (9, 83, 60, 0) := ⟨mw_X8_emptyCache, mh_at (by decide +kernel), inT_at 612 (by decide +kernel)⟩
theorem ml_93 : mlOk (8, 132, 50, 0) := ⟨mw_X8_isRouter, mh_at (by decide +kernel), inT_at 616 (by decide +kernel)⟩
theorem ml_94 : mlOk (24, 52, 90, 0) := ⟨mw_X9_pass, mh_at (by decide +kernel), inT_at 617 (by decide +kernel)⟩
theorem ml_95 : mlOk (9, 80, 59, 0) := ⟨mw_X8_letPass, mh_at (by decide +kernel), inT_at 621 (by decide +kernel)⟩
theorem ml_96 : mlOk (24, 49, 89, 0) := ⟨mw_X9_send, mh_at (by decide +kernel), inT_at 625 (by decide +kernel)⟩
theorem ml_97 : mlOk (9, 77, 61, 0) := ⟨mw_X8_sendLetter, mh_at (by decide +kernel), inT_at 629 (by decide +kernel)⟩
theorem ml_98 : mlOk (8, 147, 25, 0) := ⟨mw_X4_dropEnded, mh_at (by decide +kernel), inT_at 637 (by decide +kernel)⟩
theorem ml_99 : mlOk (4, 41, 21, 0) := ⟨mw_X4_isPlace, mh_at (by decide +kernel), inT_at 641 (by decide +kernel)⟩
theorem ml_100 : mlOk (4, 45, 11, 0) := ⟨mw_X2_isHolding, mh_at (by decide +kernel), inT_at 642 (by decide +kernel)⟩
theorem ml_101 : mlOk (4, 48, 24, 0) := ⟨mw_X4_drop, mh_at (by decide +kernel), inT_at 643 (by decide +kernel)⟩
theorem ml_102 : mlOk (8, 151, 27, 0) := ⟨mw_X4_placeOfSmallest, mh_at (by decide +kernel), inT_at 647 (by decide +kernel)⟩
theorem ml_103 : mlOk (4, 59, 5, 0) := ⟨mw_X1_has, mh_at (by decide +kernel), inT_at 651 (by decide +kernel)⟩
theorem ml_104 : mlOk (8, 155, 21, 0) := ⟨mw_X4_isPlace, mh_at (by decide +kernel), inT_at 652 (by decide +kernel)⟩
theorem ml_105 : mlOk (8, 168, 23, 0) := ⟨mw_X4_moveToFront, mh_at (by decide +kernel), inT_at 653 (by decide +kernel)⟩
theorem ml_106 : mlOk (8, 171, 63, 0) := ⟨mw_X8_ask, mh_at (by decide +kernel), inT_at 657 (by decide +kernel)⟩
theorem ml_107 : mlOk (8, 219, 28, 0) := ⟨mw_X4_addMap, mh_at (by decide +kernel), inT_at 661 (by decide +kernel)⟩
theorem ml_108 : mlOk (4, 67, 26, 0) := ⟨mw_X4_placeOfSite, mh_at (by decide +kernel), inT_at 665 (by decide +kernel)⟩
theorem ml_109 : mlOk (4, 71, 9, 0) := ⟨mw_X2_become, mh_at (by decide +kernel), inT_at 666 (by decide +kernel)⟩
theorem ml_110 : mlOk (4, 75, 23, 0) := ⟨mw_X4_moveToFront, mh_at (by decide +kernel), inT_at 670 (by decide +kernel)⟩
theorem ml_111 : mlOk (8, 175, 24, 0) := ⟨mw_X4_drop, mh_at (by decide +kernel), inT_at 671 (by decide +kernel)⟩
theorem ml_112 : mlOk (8, 178, 64, 0) := ⟨mw_X8_goByProxy, mh_at (by decide +kernel), inT_at 672 (by decide +kernel)⟩
theorem ml_113 : mlOk (8, 182, 62, 0) := ⟨mw_X8_placeByMap, mh_at (by decide +kernel), inT_at 676 (by decide +kernel)⟩
theorem ml_114 : mlOk (8, 190, 45, 0) := ⟨mw_X7_placeFor, mh_at (by decide +kernel), inT_at 680 (by decide +kernel)⟩
theorem ml_115 : mlOk (7, 28, 43, 0) := ⟨mw_X7_lowestPriority, mh_at (by decide +kernel), inT_at 684 (by decide +kernel)⟩
theorem ml_116 : mlOk (7, 32, 44, 0) := ⟨mw_X7_weightThatCounts, mh_at (by decide +kernel), inT_at 691 (by decide +kernel)⟩
theorem ml_117 : mlOk (8, 199, 42, 0) := ⟨mw_X7_have, mh_at (by decide +kernel), inT_at 695 (by decide +kernel)⟩
theorem ml_118 : mlOk (24, 82, 119, 0) := ⟨mw_L_name, mh_at (by decide +kernel), inT_at 699 (by decide +kernel)⟩
theorem ml_119 : mlOk (24, 86, 117, 0) := ⟨mw_L_any, mh_at (by decide +kernel), inT_at 702 (by decide +kernel)⟩
theorem ml_120 : mlOk (24, 55, 94, 0) := ⟨mw_X9_restore, mh_at (by decide +kernel), inT_at 705 (by decide +kernel)⟩
theorem ml_121 : mlOk (9, 112, 106, 0) := ⟨mw_X9_isSave, mh_at (by decide +kernel), inT_at 709 (by decide +kernel)⟩
theorem ml_122 : mlOk (9, 116, 47, 0) := ⟨mw_X8_copyFrom, mh_at (by decide +kernel), inT_at 712 (by decide +kernel)⟩
theorem ml_123 : mlOk (24, 94, 100, 0) := ⟨mw_X9_answer, mh_at (by decide +kernel), inT_at 716 (by decide +kernel)⟩
theorem ml_124 : mlOk (9, 178, 68, 0) := ⟨mw_X8_answerFor, mh_at (by decide +kernel), inT_at 720 (by decide +kernel)⟩
theorem ml_125 : mlOk (24, 97, 103, 0) := ⟨mw_X9_wouldReach, mh_at (by decide +kernel), inT_at 721 (by decide +kernel)⟩
theorem ml_126 : mlOk (24, 101, 104, 0) := ⟨mw_X9_wouldAsk, mh_at (by decide +kernel), inT_at 725 (by decide +kernel)⟩
theorem ml_127 : mlOk (24, 104, 120, 0) := ⟨mw_L_hasPlace, mh_at (by decide +kernel), inT_at 729 (by decide +kernel)⟩
theorem ml_128 : mlOk (24, 108, 92, 0) := ⟨mw_X9_undo, mh_at (by decide +kernel), inT_at 732 (by decide +kernel)⟩
theorem ml_129 : mlOk (9, 109, 17, 0) := ⟨mw_X3_takeLatest, mh_at (by decide +kernel), inT_at 736 (by decide +kernel)⟩
theorem ml_130 : mlOk (24, 137, 121, 0) := ⟨mw_L_areRouters, mh_at (by decide +kernel), inT_at 740 (by decide +kernel)⟩
theorem ml_131 : mlOk (24, 141, 122, 0) := ⟨mw_L_areEnding, mh_at (by decide +kernel), inT_at 743 (by decide +kernel)⟩
theorem ml_132 : mlOk (24, 111, 101, 0) := ⟨mw_X9_endingNext, mh_at (by decide +kernel), inT_at 746 (by decide +kernel)⟩
theorem ml_133 : mlOk (9, 187, 69, 0) := ⟨mw_X8_siteEndingAt, mh_at (by decide +kernel), inT_at 750 (by decide +kernel)⟩
theorem ml_134 : mlOk (8, 232, 70, 0) := ⟨mw_X8_sitesEndingAheadOf, mh_at (by decide +kernel), inT_at 754 (by decide +kernel)⟩
theorem ml_135 : mlOk (24, 118, 93, 0) := ⟨mw_X9_save, mh_at (by decide +kernel), inT_at 764 (by decide +kernel)⟩
theorem ml_136 : mlOk (8, 36, 29, 1) := ⟨mw_X5_init, mh_at (by decide +kernel), inT_at 48 (by decide +kernel)⟩
theorem ml_137 : mlOk (5, 11, 1, 1) := ⟨mw_X1_init, mh_at (by decide +kernel), inT_at 54 (by decide +kernel)⟩
theorem ml_138 : mlOk (8, 47, 31, 1) := ⟨mw_X6_init, mh_at (by decide +kernel), inT_at 82 (by decide +kernel)⟩
theorem ml_139 : mlOk (6, 11, 1, 1) := ⟨mw_X1_init, mh_at (by decide +kernel), inT_at 87 (by decide +kernel)⟩
theorem ml_140 : mlOk (6, 20, 36, 1) := ⟨mw_X7_init, mh_at (by decide +kernel), inT_at 90 (by decide +kernel)⟩
theorem ml_141 : mlOk (4, 17, 8, 1) := ⟨mw_X2_init, mh_at (by decide +kernel), inT_at 132 (by decide +kernel)⟩
theorem ml_142 : mlOk (2, 11, 1, 1) := ⟨mw_X1_init, mh_at (by decide +kernel), inT_at 137 (by decide +kernel)⟩
theorem ml_143 : mlOk (2, 20, 36, 1) := ⟨mw_X7_init, mh_at (by decide +kernel), inT_at 139 (by decide +kernel)⟩
theorem ml_144 : mlOk (9, 36, 0, 1) := ⟨mw_X0_init, mh_at (by decide +kernel), inT_at 246 (by decide +kernel)⟩
theorem ml_145 : mlOk (8, 72, 111, 1) := ⟨mw_X9_isBlock, mh_at (by decide +kernel), inT_at 523 (by decide +kernel)⟩
theorem ml_146 : mlOk (7, 15, 107, 1) := ⟨mw_X9_isSlot, mh_at (by decide +kernel), inT_at 560 (by decide +kernel)⟩
theorem ml_147 : mlOk (8, 101, 107, 1) := ⟨mw_X9_isSlot, mh_at (by decide +kernel), inT_at 569 (by decide +kernel)⟩
theorem ml_148 : mlOk (8, 104, 110, 1) := ⟨mw_X9_isPlaceOfSlot, mh_at (by decide +kernel), inT_at 570 (by decide +kernel)⟩
theorem ml_149 : mlOk (8, 138, 108, 1) := ⟨mw_X9_isName, mh_at (by decide +kernel), inT_at 633 (by decide +kernel)⟩
theorem ml_150 : mlOk (8, 141, 109, 1) := ⟨mw_X9_isFlow, mh_at (by decide +kernel), inT_at 634 (by decide +kernel)⟩
/-- links of methods with longs -/
def mlT2 : List (Nat × Nat × Nat × Nat) := [(24, 90, 123, 0), (24, 133, 124, 0), (24, 126, 125, 0), (24, 130, 126, 0)]
theorem mk_0 : mlOk (24, 90, 123, 0) := ⟨mw_L_view, mh_at (by decide +kernel), inT_at 414 (by decide +kernel)⟩
theorem mk_1 : mlOk (24, 133, 124, 0) := ⟨mw_L_isSent, mh_at (by decide +kernel), inT_at 713 (by decide +kernel)⟩
theorem mk_2 : mlOk (24, 126, 125, 0) := ⟨mw_L_isUndone, mh_at (by decide +kernel), inT_at 758 (by decide +kernel)⟩
theorem mk_3 : mlOk (24, 130, 126, 0) := ⟨mw_L_isSaved, mh_at (by decide +kernel), inT_at 761 (by decide +kernel)⟩
theorem mlT2_ok : ∀ q ∈ mlT2, mlOk q := List.forall_mem_cons.mpr ⟨mk_0, List.forall_mem_cons.mpr ⟨mk_1, List.forall_mem_cons.mpr ⟨mk_2, List.forall_mem_cons.mpr ⟨mk_3, fun _ h => absurd h List.not_mem_nil⟩⟩⟩⟩
set_option maxRecDepth 100000 in
theorem mlT_ok : ∀ q ∈ mlT, mlOk q := List.forall_mem_cons.mpr ⟨ml_0, List.forall_mem_cons.mpr ⟨ml_1, List.forall_mem_cons.mpr ⟨ml_2, List.forall_mem_cons.mpr ⟨ml_3, List.forall_mem_cons.mpr ⟨ml_4, List.forall_mem_cons.mpr ⟨ml_5, List.forall_mem_cons.mpr ⟨ml_6, List.forall_mem_cons.mpr ⟨ml_7, List.forall_mem_cons.mpr ⟨ml_8, List.forall_mem_cons.mpr ⟨ml_9, List.forall_mem_cons.mpr ⟨ml_10, List.forall_mem_cons.mpr ⟨ml_11, List.forall_mem_cons.mpr ⟨ml_12, List.forall_mem_cons.mpr ⟨ml_13, List.forall_mem_cons.mpr ⟨ml_14, List.forall_mem_cons.mpr ⟨ml_15, List.forall_mem_cons.mpr ⟨ml_16, List.forall_mem_cons.mpr ⟨ml_17, List.forall_mem_cons.mpr ⟨ml_18, List.forall_mem_cons.mpr ⟨ml_19, List.forall_mem_cons.mpr ⟨ml_20, List.forall_mem_cons.mpr ⟨ml_21, List.forall_mem_cons.mpr ⟨ml_22, List.forall_mem_cons.mpr ⟨ml_23, List.forall_mem_cons.mpr ⟨ml_24, List.forall_mem_cons.mpr ⟨ml_25, List.forall_mem_cons.mpr ⟨ml_26, List.forall_mem_cons.mpr ⟨ml_27, List.forall_mem_cons.mpr ⟨ml_28, List.forall_mem_cons.mpr ⟨ml_29, List.forall_mem_cons.mpr ⟨ml_30, List.forall_mem_cons.mpr ⟨ml_31, List.forall_mem_cons.mpr ⟨ml_32, List.forall_mem_cons.mpr ⟨ml_33, List.forall_mem_cons.mpr ⟨ml_34, List.forall_mem_cons.mpr ⟨ml_35, List.forall_mem_cons.mpr ⟨ml_36, List.forall_mem_cons.mpr ⟨ml_37, List.forall_mem_cons.mpr ⟨ml_38, List.forall_mem_cons.mpr ⟨ml_39, List.forall_mem_cons.mpr ⟨ml_40, List.forall_mem_cons.mpr ⟨ml_41, List.forall_mem_cons.mpr ⟨ml_42, List.forall_mem_cons.mpr ⟨ml_43, List.forall_mem_cons.mpr ⟨ml_44, List.forall_mem_cons.mpr ⟨ml_45, List.forall_mem_cons.mpr ⟨ml_46, List.forall_mem_cons.mpr ⟨ml_47, List.forall_mem_cons.mpr ⟨ml_48, List.forall_mem_cons.mpr ⟨ml_49, List.forall_mem_cons.mpr ⟨ml_50, List.forall_mem_cons.mpr ⟨ml_51, List.forall_mem_cons.mpr ⟨ml_52, List.forall_mem_cons.mpr ⟨ml_53, List.forall_mem_cons.mpr ⟨ml_54, List.forall_mem_cons.mpr ⟨ml_55, List.forall_mem_cons.mpr ⟨ml_56, List.forall_mem_cons.mpr ⟨ml_57, List.forall_mem_cons.mpr ⟨ml_58, List.forall_mem_cons.mpr ⟨ml_59, List.forall_mem_cons.mpr ⟨ml_60, List.forall_mem_cons.mpr ⟨ml_61, List.forall_mem_cons.mpr ⟨ml_62, List.forall_mem_cons.mpr ⟨ml_63, List.forall_mem_cons.mpr ⟨ml_64, List.forall_mem_cons.mpr ⟨ml_65, List.forall_mem_cons.mpr ⟨ml_66, List.forall_mem_cons.mpr ⟨ml_67, List.forall_mem_cons.mpr ⟨ml_68, List.forall_mem_cons.mpr ⟨ml_69, List.forall_mem_cons.mpr ⟨ml_70, List.forall_mem_cons.mpr ⟨ml_71, List.forall_mem_cons.mpr ⟨ml_72, List.forall_mem_cons.mpr ⟨ml_73, List.forall_mem_cons.mpr ⟨ml_74, List.forall_mem_cons.mpr ⟨ml_75, List.forall_mem_cons.mpr ⟨ml_76, List.forall_mem_cons.mpr ⟨ml_77, List.forall_mem_cons.mpr ⟨ml_78, List.forall_mem_cons.mpr ⟨ml_79, List.forall_mem_cons.mpr ⟨ml_80, List.forall_mem_cons.mpr ⟨ml_81, List.forall_mem_cons.mpr ⟨ml_82, List.forall_mem_cons.mpr ⟨ml_83, List.forall_mem_cons.mpr ⟨ml_84, List.forall_mem_cons.mpr ⟨ml_85, List.forall_mem_cons.mpr ⟨ml_86, List.forall_mem_cons.mpr ⟨ml_87, List.forall_mem_cons.mpr ⟨ml_88, List.forall_mem_cons.mpr ⟨ml_89, List.forall_mem_cons.mpr ⟨ml_90, List.forall_mem_cons.mpr ⟨ml_91, List.forall_mem_cons.mpr ⟨ml_92, List.forall_mem_cons.mpr ⟨ml_93, List.forall_mem_cons.mpr ⟨ml_94, List.forall_mem_cons.mpr ⟨ml_95, List.forall_mem_cons.mpr ⟨ml_96, List.forall_mem_cons.mpr ⟨ml_97, List.forall_mem_cons.mpr ⟨ml_98, List.forall_mem_cons.mpr ⟨ml_99, List.forall_mem_cons.mpr ⟨ml_100, List.forall_mem_cons.mpr ⟨ml_101, List.forall_mem_cons.mpr ⟨ml_102, List.forall_mem_cons.mpr ⟨ml_103, List.forall_mem_cons.mpr ⟨ml_104, List.forall_mem_cons.mpr ⟨ml_105, List.forall_mem_cons.mpr ⟨ml_106, List.forall_mem_cons.mpr ⟨ml_107, List.forall_mem_cons.mpr ⟨ml_108, List.forall_mem_cons.mpr ⟨ml_109, List.forall_mem_cons.mpr ⟨ml_110, List.forall_mem_cons.mpr ⟨ml_111, List.forall_mem_cons.mpr ⟨ml_112, List.forall_mem_cons.mpr ⟨ml_113, List.forall_mem_cons.mpr ⟨ml_114, List.forall_mem_cons.mpr ⟨ml_115, List.forall_mem_cons.mpr ⟨ml_116, List.forall_mem_cons.mpr ⟨ml_117, List.forall_mem_cons.mpr ⟨ml_118, List.forall_mem_cons.mpr ⟨ml_119, List.forall_mem_cons.mpr ⟨ml_120, List.forall_mem_cons.mpr ⟨ml_121, List.forall_mem_cons.mpr ⟨ml_122, List.forall_mem_cons.mpr ⟨ml_123, List.forall_mem_cons.mpr ⟨ml_124, List.forall_mem_cons.mpr ⟨ml_125, List.forall_mem_cons.mpr ⟨ml_126, List.forall_mem_cons.mpr ⟨ml_127, List.forall_mem_cons.mpr ⟨ml_128, List.forall_mem_cons.mpr ⟨ml_129, List.forall_mem_cons.mpr ⟨ml_130, List.forall_mem_cons.mpr ⟨ml_131, List.forall_mem_cons.mpr ⟨ml_132, List.forall_mem_cons.mpr ⟨ml_133, List.forall_mem_cons.mpr ⟨ml_134, List.forall_mem_cons.mpr ⟨ml_135, List.forall_mem_cons.mpr ⟨ml_136, List.forall_mem_cons.mpr ⟨ml_137, List.forall_mem_cons.mpr ⟨ml_138, List.forall_mem_cons.mpr ⟨ml_139, List.forall_mem_cons.mpr ⟨ml_140, List.forall_mem_cons.mpr ⟨ml_141, List.forall_mem_cons.mpr ⟨ml_142, List.forall_mem_cons.mpr ⟨ml_143, List.forall_mem_cons.mpr ⟨ml_144, List.forall_mem_cons.mpr ⟨ml_145, List.forall_mem_cons.mpr ⟨ml_146, List.forall_mem_cons.mpr ⟨ml_147, List.forall_mem_cons.mpr ⟨ml_148, List.forall_mem_cons.mpr ⟨ml_149, List.forall_mem_cons.mpr ⟨ml_150, fun _ h => absurd h List.not_mem_nil⟩⟩⟩⟩⟩⟩⟩⟩⟩⟩⟩⟩⟩⟩⟩⟩⟩⟩⟩⟩⟩⟩⟩⟩⟩⟩⟩⟩⟩⟩⟩⟩⟩⟩⟩⟩⟩⟩⟩⟩⟩⟩⟩⟩⟩⟩⟩⟩⟩⟩⟩⟩⟩⟩⟩⟩⟩⟩⟩⟩⟩⟩⟩⟩⟩⟩⟩⟩⟩⟩⟩⟩⟩⟩⟩⟩⟩⟩⟩⟩⟩⟩⟩⟩⟩⟩⟩⟩⟩⟩⟩⟩⟩⟩⟩⟩⟩⟩⟩⟩⟩⟩⟩⟩⟩⟩⟩⟩⟩⟩⟩⟩⟩⟩⟩⟩⟩⟩⟩⟩⟩⟩⟩⟩⟩⟩⟩⟩⟩⟩⟩⟩⟩⟩⟩⟩⟩⟩⟩⟩⟩⟩⟩⟩⟩⟩⟩⟩⟩⟩⟩
theorem ck_265 : inT (.constant RJ6 265 1431655765) := inT_at 529 (by decide +kernel)
theorem ck_266 : inT (.constant RJ6 266 858993459) := inT_at 530 (by decide +kernel)
theorem ck_267 : inT (.constant RJ6 267 252645135) := inT_at 531 (by decide +kernel)
theorem ck_7 : inT (.constant RL 7 763049417) := inT_at 409 (by decide +kernel)
theorem ck_8 : inT (.constant RL 8 2147483647) := inT_at 413 (by decide +kernel)
theorem cl_9 : inT (.constantLong RL 9 7) := inT_at 417 (by decide +kernel)
theorem cl_11 : inT (.constantLong RL 11 31) := inT_at 418 (by decide +kernel)
theorem mmin_ok : inT (.methodLink RX7 22 Lib.Math.min.name) ∧ inT (.static Lib.Math.min.name) ∧ inT (.initialized "java/lang/Math") ∧ inT (.code Lib.Math.min.name Lib.Math.min.code 2 (some .int)) := ⟨inT_at 688 (by decide +kernel), inT_at 689 (by decide +kernel), inT_at 25 (by decide +kernel), inT_at 690 (by decide +kernel)⟩
theorem wx_0 : ∀ w ∈ u_ws RX0 TX0 8, inT w := by
  intro w hw
  obtain ⟨k, hk, rfl⟩ := List.mem_map.mp hw
  have hk : k < 8 := List.mem_range.mp hk
  match k, hk with
  | 0, _ => exact inT_at 253 (by decide +kernel)
  | 1, _ => exact inT_at 255 (by decide +kernel)
  | 2, _ => exact inT_at 257 (by decide +kernel)
  | 3, _ => exact inT_at 259 (by decide +kernel)
  | 4, _ => exact inT_at 261 (by decide +kernel)
  | 5, _ => exact inT_at 263 (by decide +kernel)
  | 6, _ => exact inT_at 265 (by decide +kernel)
  | 7, _ => exact inT_at 267 (by decide +kernel)
  | k + 8, h => exact absurd h (by omega)
theorem wx_1 : ∀ w ∈ u_ws RX1 TX1 2, inT w := by
  intro w hw
  obtain ⟨k, hk, rfl⟩ := List.mem_map.mp hw
  have hk : k < 2 := List.mem_range.mp hk
  match k, hk with
  | 0, _ => exact inT_at 63 (by decide +kernel)
  | 1, _ => exact inT_at 65 (by decide +kernel)
  | k + 2, h => exact absurd h (by omega)
theorem wx_2 : ∀ w ∈ u_ws RX2 TX2 6, inT w := by
  intro w hw
  obtain ⟨k, hk, rfl⟩ := List.mem_map.mp hw
  have hk : k < 6 := List.mem_range.mp hk
  match k, hk with
  | 0, _ => exact inT_at 152 (by decide +kernel)
  | 1, _ => exact inT_at 154 (by decide +kernel)
  | 2, _ => exact inT_at 156 (by decide +kernel)
  | 3, _ => exact inT_at 158 (by decide +kernel)
  | 4, _ => exact inT_at 160 (by decide +kernel)
  | 5, _ => exact inT_at 162 (by decide +kernel)
  | k + 6, h => exact absurd h (by omega)
theorem wx_3 : ∀ w ∈ u_ws RX3 TX3 3, inT w := by
  intro w hw
  obtain ⟨k, hk, rfl⟩ := List.mem_map.mp hw
  have hk : k < 3 := List.mem_range.mp hk
  match k, hk with
  | 0, _ => exact inT_at 237 (by decide +kernel)
  | 1, _ => exact inT_at 239 (by decide +kernel)
  | 2, _ => exact inT_at 241 (by decide +kernel)
  | k + 3, h => exact absurd h (by omega)
theorem wx_4 : ∀ w ∈ u_ws RX4 TX4 7, inT w := by
  intro w hw
  obtain ⟨k, hk, rfl⟩ := List.mem_map.mp hw
  have hk : k < 7 := List.mem_range.mp hk
  match k, hk with
  | 0, _ => exact inT_at 181 (by decide +kernel)
  | 1, _ => exact inT_at 183 (by decide +kernel)
  | 2, _ => exact inT_at 185 (by decide +kernel)
  | 3, _ => exact inT_at 187 (by decide +kernel)
  | 4, _ => exact inT_at 189 (by decide +kernel)
  | 5, _ => exact inT_at 191 (by decide +kernel)
  | 6, _ => exact inT_at 193 (by decide +kernel)
  | k + 7, h => exact absurd h (by omega)
theorem wx_5 : ∀ w ∈ u_ws RX5 TX5 2, inT w := by
  intro w hw
  obtain ⟨k, hk, rfl⟩ := List.mem_map.mp hw
  have hk : k < 2 := List.mem_range.mp hk
  match k, hk with
  | 0, _ => exact inT_at 72 (by decide +kernel)
  | 1, _ => exact inT_at 74 (by decide +kernel)
  | k + 2, h => exact absurd h (by omega)
theorem wx_6 : ∀ w ∈ u_ws RX6 TX6 5, inT w := by
  intro w hw
  obtain ⟨k, hk, rfl⟩ := List.mem_map.mp hw
  have hk : k < 5 := List.mem_range.mp hk
  match k, hk with
  | 0, _ => exact inT_at 113 (by decide +kernel)
  | 1, _ => exact inT_at 115 (by decide +kernel)
  | 2, _ => exact inT_at 117 (by decide +kernel)
  | 3, _ => exact inT_at 119 (by decide +kernel)
  | 4, _ => exact inT_at 121 (by decide +kernel)
  | k + 5, h => exact absurd h (by omega)
theorem wx_7 : ∀ w ∈ u_ws RX7 TX7 1, inT w := by
  intro w hw
  obtain ⟨k, hk, rfl⟩ := List.mem_map.mp hw
  have hk : k < 1 := List.mem_range.mp hk
  match k, hk with
  | 0, _ => exact inT_at 95 (by decide +kernel)
  | k + 1, h => exact absurd h (by omega)
theorem wx_8 : ∀ w ∈ u_ws RX8 TX8 8, inT w := by
  intro w hw
  obtain ⟨k, hk, rfl⟩ := List.mem_map.mp hw
  have hk : k < 8 := List.mem_range.mp hk
  match k, hk with
  | 0, _ => exact inT_at 207 (by decide +kernel)
  | 1, _ => exact inT_at 209 (by decide +kernel)
  | 2, _ => exact inT_at 211 (by decide +kernel)
  | 3, _ => exact inT_at 213 (by decide +kernel)
  | 4, _ => exact inT_at 215 (by decide +kernel)
  | 5, _ => exact inT_at 217 (by decide +kernel)
  | 6, _ => exact inT_at 219 (by decide +kernel)
  | 7, _ => exact inT_at 221 (by decide +kernel)
  | k + 8, h => exact absurd h (by omega)
theorem wx_9 : ∀ w ∈ u_ws RX9 TX9 6, inT w := by
  intro w hw
  obtain ⟨k, hk, rfl⟩ := List.mem_map.mp hw
  have hk : k < 6 := List.mem_range.mp hk
  match k, hk with
  | 0, _ => exact inT_at 278 (by decide +kernel)
  | 1, _ => exact inT_at 280 (by decide +kernel)
  | 2, _ => exact inT_at 282 (by decide +kernel)
  | 3, _ => exact inT_at 284 (by decide +kernel)
  | 4, _ => exact inT_at 286 (by decide +kernel)
  | 5, _ => exact inT_at 288 (by decide +kernel)
  | k + 6, h => exact absurd h (by omega)
