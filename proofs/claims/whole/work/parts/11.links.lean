/-! methods, and what the tables say of each link -/
theorem tw (i : Nat) {w : Cond} (h : tables_1[i]? = some w) (hg : goodWord w = true) : w ∈ g_t := g_mem (List.mem_append_right _ (List.mem_of_getElem? h)) hg
theorem tq (i : Nat) {y : MethodName} (h : lw_privs[i]?.map Prod.fst = some y) : Cond.selects y.cls y y ∈ g_t := by
  refine g_mem (List.mem_append_left _ ?_) rfl
  cases hq : lw_privs[i]? with
  | none => rw [hq] at h; cases h
  | some q =>
    rw [hq] at h
    cases h
    exact List.mem_map.mpr ⟨q, List.mem_of_getElem? hq, rfl⟩
theorem tw1 (i : Nat) {w : Cond} (h : tables_1_1[i]? = some w) (hg : goodWord w = true) : w ∈ g_t := g_mem (List.mem_append_right _ (List.mem_append_left _ (List.mem_of_getElem? h))) hg
theorem tw2 (i : Nat) {w : Cond} (h : tables_1_2[i]? = some w) (hg : goodWord w = true) : w ∈ g_t := g_mem (List.mem_append_right _ (List.mem_append_right _ (List.mem_append_left _ (List.mem_of_getElem? h)))) hg
theorem tw3 (i : Nat) {w : Cond} (h : tables_1_3[i]? = some w) (hg : goodWord w = true) : w ∈ g_t := g_mem (List.mem_append_right _ (List.mem_append_right _ (List.mem_append_right _ (List.mem_append_left _ (List.mem_of_getElem? h))))) hg
theorem tw4 (i : Nat) {w : Cond} (h : tables_1_4[i]? = some w) (hg : goodWord w = true) : w ∈ g_t := g_mem (List.mem_append_right _ (List.mem_append_right _ (List.mem_append_right _ (List.mem_append_right _ (List.mem_append_left _ (List.mem_of_getElem? h)))))) hg
theorem tw5 (i : Nat) {w : Cond} (h : tables_1_5[i]? = some w) (hg : goodWord w = true) : w ∈ g_t := g_mem (List.mem_append_right _ (List.mem_append_right _ (List.mem_append_right _ (List.mem_append_right _ (List.mem_append_right _ (List.mem_append_left _ (List.mem_of_getElem? h))))))) hg
theorem tw6 (i : Nat) {w : Cond} (h : tables_1_6[i]? = some w) (hg : goodWord w = true) : w ∈ g_t := g_mem (List.mem_append_right _ (List.mem_append_right _ (List.mem_append_right _ (List.mem_append_right _ (List.mem_append_right _ (List.mem_append_right _ (List.mem_append_left _ (List.mem_of_getElem? h)))))))) hg
theorem tw7 (i : Nat) {w : Cond} (h : tables_1_7[i]? = some w) (hg : goodWord w = true) : w ∈ g_t := g_mem (List.mem_append_right _ (List.mem_append_right _ (List.mem_append_right _ (List.mem_append_right _ (List.mem_append_right _ (List.mem_append_right _ (List.mem_append_right _ (List.mem_append_left _ (List.mem_of_getElem? h))))))))) hg
theorem tw8 (i : Nat) {w : Cond} (h : tables_1_8[i]? = some w) (hg : goodWord w = true) : w ∈ g_t := g_mem (List.mem_append_right _ (List.mem_append_right _ (List.mem_append_right _ (List.mem_append_right _ (List.mem_append_right _ (List.mem_append_right _ (List.mem_append_right _ (List.mem_append_right _ (List.mem_of_getElem? h))))))))) hg
abbrev m_J6_bitCount_0f7a4 : g_Md := (yJ6_bitCount_0f7a4, cJ6_bitCount_0f7a4, 1, (some .int))
abbrev m_J6_numberOfTrailingZeros_0f7a4 : g_Md := (yJ6_numberOfTrailingZeros_0f7a4, cJ6_numberOfTrailingZeros_0f7a4, 2, (some .int))
abbrev m_J7_fill_53178 : g_Md := (yJ7_fill_53178, cJ7_fill_53178, 4, none)
abbrev m_J9_abs_0f7a4 : g_Md := (yJ9_abs_0f7a4, cJ9_abs_0f7a4, 1, (some .int))
abbrev m_J9_max_7cf53 : g_Md := (yJ9_max_7cf53, cJ9_max_7cf53, 2, (some .int))
abbrev m_J9_min_7cf53 : g_Md := (yJ9_min_7cf53, cJ9_min_7cf53, 2, (some .int))
abbrev m_X0_alike : g_Md := (yX0_alike, cX0_alike, 6, (some .int))
abbrev m_X0_at : g_Md := (yX0_at, cX0_at, 2, (some .int))
abbrev m_X0_copyFirst : g_Md := (yX0_copyFirst, cX0_copyFirst, 3, none)
abbrev m_X0_init : g_Md := (yX0_init, cX0_init, 2, none)
abbrev m_X0_push : g_Md := (yX0_push, cX0_push, 2, none)
abbrev m_X10_clear : g_Md := (yX10_clear, cX10_clear, 1, none)
abbrev m_X10_endsAsDue : g_Md := (yX10_endsAsDue, cX10_endsAsDue, 3, (some .boolean))
abbrev m_X10_init : g_Md := (yX10_init, cX10_init, 1, none)
abbrev m_X10_survived : g_Md := (yX10_survived, cX10_survived, 6, (some .int))
abbrev m_X10_survivedTwice : g_Md := (yX10_survivedTwice, cX10_survivedTwice, 7, (some .int))
abbrev m_X10_survives : g_Md := (yX10_survives, cX10_survives, 4, (some .boolean))
abbrev m_X11_act : g_Md := (yX11_act, cX11_act, 3, (some .int))
abbrev m_X11_acts : g_Md := (yX11_acts, cX11_acts, 1, (some .int))
abbrev m_X11_ahead : g_Md := (yX11_ahead, cX11_ahead, 3, (some .int))
abbrev m_X11_best : g_Md := (yX11_best, cX11_best, 2, (some .int))
abbrev m_X11_bestChoice : g_Md := (yX11_bestChoice, cX11_bestChoice, 4, (some .int))
abbrev m_X11_bestRule : g_Md := (yX11_bestRule, cX11_bestRule, 4, (some .int))
abbrev m_X11_boot : g_Md := (yX11_boot, cX11_boot, 2, (some .int))
abbrev m_X11_burn : g_Md := (yX11_burn, cX11_burn, 1, (some .int))
abbrev m_X11_cell : g_Md := (yX11_cell, cX11_cell, 3, (some .int))
abbrev m_X11_command : g_Md := (yX11_command, cX11_command, 3, (some .int))
abbrev m_X11_commands : g_Md := (yX11_commands, cX11_commands, 1, (some .int))
abbrev m_X11_commonDivisor : g_Md := (yX11_commonDivisor, cX11_commonDivisor, 6, (some .int))
abbrev m_X11_count : g_Md := (yX11_count, cX11_count, 2, (some .int))
abbrev m_X11_cut : g_Md := (yX11_cut, cX11_cut, 4, (some .int))
abbrev m_X11_cuts : g_Md := (yX11_cuts, cX11_cuts, 2, (some .int))
abbrev m_X11_digest : g_Md := (yX11_digest, cX11_digest, 2, (some .long))
abbrev m_X11_digestOf : g_Md := (yX11_digestOf, cX11_digestOf, 1, (some .long))
abbrev m_X11_due : g_Md := (yX11_due, cX11_due, 3, (some .long))
abbrev m_X11_elementOf : g_Md := (yX11_elementOf, cX11_elementOf, 2, (some .int))
abbrev m_X11_fault : g_Md := (yX11_fault, cX11_fault, 2, (some .int))
abbrev m_X11_feed : g_Md := (yX11_feed, cX11_feed, 6, (some .int))
abbrev m_X11_feedWord : g_Md := (yX11_feedWord, cX11_feedWord, 3, none)
abbrev m_X11_fewest : g_Md := (yX11_fewest, cX11_fewest, 3, (some .int))
abbrev m_X11_fits : g_Md := (yX11_fits, cX11_fits, 2, (some .int))
abbrev m_X11_floatBits : g_Md := (yX11_floatBits, cX11_floatBits, 9, (some .int))
abbrev m_X11_forget : g_Md := (yX11_forget, cX11_forget, 2, (some .int))
abbrev m_X11_fresh : g_Md := (yX11_fresh, cX11_fresh, 2, (some .int))
abbrev m_X11_go : g_Md := (yX11_go, cX11_go, 4, (some .int))
abbrev m_X11_hasBit : g_Md := (yX11_hasBit, cX11_hasBit, 2, (some .boolean))
abbrev m_X11_hazard : g_Md := (yX11_hazard, cX11_hazard, 5, (some .int))
abbrev m_X11_image : g_Md := (yX11_image, cX11_image, 2, (some .int))
abbrev m_X11_init : g_Md := (yX11_init, cX11_init, 2, none)
abbrev m_X11_least : g_Md := (yX11_least, cX11_least, 1, (some .int))
abbrev m_X11_load : g_Md := (yX11_load, cX11_load, 2, (some .int))
abbrev m_X11_lowestBit : g_Md := (yX11_lowestBit, cX11_lowestBit, 2, (some .int))
abbrev m_X11_makeCourse : g_Md := (yX11_makeCourse, cX11_makeCourse, 1, none)
abbrev m_X11_makePlan : g_Md := (yX11_makePlan, cX11_makePlan, 1, none)
abbrev m_X11_needs : g_Md := (yX11_needs, cX11_needs, 2, (some .int))
abbrev m_X11_odds : g_Md := (yX11_odds, cX11_odds, 6, (some .int))
abbrev m_X11_old : g_Md := (yX11_old, cX11_old, 2, (some .int))
abbrev m_X11_onesFrom : g_Md := (yX11_onesFrom, cX11_onesFrom, 2, (some .int))
abbrev m_X11_packed : g_Md := (yX11_packed, cX11_packed, 4, (some .int))
abbrev m_X11_patch : g_Md := (yX11_patch, cX11_patch, 2, (some .int))
abbrev m_X11_plan : g_Md := (yX11_plan, cX11_plan, 2, (some .int))
abbrev m_X11_restore : g_Md := (yX11_restore, cX11_restore, 2, (some .int))
abbrev m_X11_right : g_Md := (yX11_right, cX11_right, 3, (some .int))
abbrev m_X11_ring : g_Md := (yX11_ring, cX11_ring, 4, (some .int))
abbrev m_X11_ringed : g_Md := (yX11_ringed, cX11_ringed, 1, (some .int))
abbrev m_X11_run : g_Md := (yX11_run, cX11_run, 3, (some .int))
abbrev m_X11_share : g_Md := (yX11_share, cX11_share, 4, (some .int))
abbrev m_X11_shareOf : g_Md := (yX11_shareOf, cX11_shareOf, 2, (some .int))
abbrev m_X11_shared : g_Md := (yX11_shared, cX11_shared, 2, (some .int))
abbrev m_X11_sized : g_Md := (yX11_sized, cX11_sized, 2, (some .int))
abbrev m_X11_sortSuffixes : g_Md := (yX11_sortSuffixes, cX11_sortSuffixes, 1, none)
abbrev m_X11_spoil : g_Md := (yX11_spoil, cX11_spoil, 4, (some .int))
abbrev m_X11_step : g_Md := (yX11_step, cX11_step, 4, (some .int))
abbrev m_X11_steps : g_Md := (yX11_steps, cX11_steps, 1, (some .int))
abbrev m_X11_suffix : g_Md := (yX11_suffix, cX11_suffix, 2, (some .int))
abbrev m_X11_take : g_Md := (yX11_take, cX11_take, 1, (some .int))
abbrev m_X11_takeCells : g_Md := (yX11_takeCells, cX11_takeCells, 3, (some .int))
abbrev m_X11_takePatch : g_Md := (yX11_takePatch, cX11_takePatch, 3, none)
abbrev m_X11_terms : g_Md := (yX11_terms, cX11_terms, 4, (some .int))
abbrev m_X11_turned : g_Md := (yX11_turned, cX11_turned, 1, (some .int))
abbrev m_X11_twice : g_Md := (yX11_twice, cX11_twice, 3, (some .int))
abbrev m_X11_undo : g_Md := (yX11_undo, cX11_undo, 2, (some .int))
abbrev m_X11_unlike : g_Md := (yX11_unlike, cX11_unlike, 2, (some .int))
abbrev m_X11_wear : g_Md := (yX11_wear, cX11_wear, 4, (some .int))
abbrev m_X11_widest : g_Md := (yX11_widest, cX11_widest, 6, (some .int))
abbrev m_X12_act : g_Md := (yX12_act, cX12_act, 3, (some .int))
abbrev m_X12_actNow : g_Md := (yX12_actNow, cX12_actNow, 3, (some .int))
abbrev m_X12_acts : g_Md := (yX12_acts, cX12_acts, 1, (some .int))
abbrev m_X12_ahead : g_Md := (yX12_ahead, cX12_ahead, 3, (some .int))
abbrev m_X12_apart : g_Md := (yX12_apart, cX12_apart, 2, (some .int))
abbrev m_X12_begins : g_Md := (yX12_begins, cX12_begins, 2, none)
abbrev m_X12_best : g_Md := (yX12_best, cX12_best, 7, (some .int))
abbrev m_X12_boot : g_Md := (yX12_boot, cX12_boot, 3, (some .int))
abbrev m_X12_breaksRing : g_Md := (yX12_breaksRing, cX12_breaksRing, 4, none)
abbrev m_X12_burn : g_Md := (yX12_burn, cX12_burn, 1, (some .int))
abbrev m_X12_burns : g_Md := (yX12_burns, cX12_burns, 2, none)
abbrev m_X12_cell : g_Md := (yX12_cell, cX12_cell, 3, (some .int))
abbrev m_X12_chosenAt : g_Md := (yX12_chosenAt, cX12_chosenAt, 6, (some .int))
abbrev m_X12_command : g_Md := (yX12_command, cX12_command, 3, (some .int))
abbrev m_X12_commands : g_Md := (yX12_commands, cX12_commands, 1, (some .int))
abbrev m_X12_common : g_Md := (yX12_common, cX12_common, 4, (some .int))
abbrev m_X12_common1 : g_Md := (yX12_common1, cX12_common1, 2, (some .int))
abbrev m_X12_count : g_Md := (yX12_count, cX12_count, 2, (some .int))
abbrev m_X12_cut : g_Md := (yX12_cut, cX12_cut, 4, (some .int))
abbrev m_X12_cuts : g_Md := (yX12_cuts, cX12_cuts, 2, (some .int))
abbrev m_X12_cuts1 : g_Md := (yX12_cuts1, cX12_cuts1, 5, none)
abbrev m_X12_digest : g_Md := (yX12_digest, cX12_digest, 3, (some .long))
abbrev m_X12_digestOf : g_Md := (yX12_digestOf, cX12_digestOf, 6, (some .long))
abbrev m_X12_does : g_Md := (yX12_does, cX12_does, 2, none)
abbrev m_X12_doesStep : g_Md := (yX12_doesStep, cX12_doesStep, 3, none)
abbrev m_X12_doesSteps : g_Md := (yX12_doesSteps, cX12_doesSteps, 4, none)
abbrev m_X12_due : g_Md := (yX12_due, cX12_due, 4, (some .long))
abbrev m_X12_fails : g_Md := (yX12_fails, cX12_fails, 3, none)
abbrev m_X12_fault : g_Md := (yX12_fault, cX12_fault, 2, (some .int))
abbrev m_X12_feed : g_Md := (yX12_feed, cX12_feed, 8, (some .int))
abbrev m_X12_fewest : g_Md := (yX12_fewest, cX12_fewest, 9, (some .int))
abbrev m_X12_fits : g_Md := (yX12_fits, cX12_fits, 6, (some .int))
abbrev m_X12_floatBits : g_Md := (yX12_floatBits, cX12_floatBits, 9, (some .int))
abbrev m_X12_forget : g_Md := (yX12_forget, cX12_forget, 1, (some .int))
abbrev m_X12_fresh : g_Md := (yX12_fresh, cX12_fresh, 2, (some .int))
abbrev m_X12_go : g_Md := (yX12_go, cX12_go, 4, (some .int))
abbrev m_X12_hazard : g_Md := (yX12_hazard, cX12_hazard, 5, (some .int))
abbrev m_X12_healed : g_Md := (yX12_healed, cX12_healed, 5, (some .int))
abbrev m_X12_image : g_Md := (yX12_image, cX12_image, 3, (some .int))
abbrev m_X12_init : g_Md := (yX12_init, cX12_init, 1, none)
abbrev m_X12_isAheadSuffix : g_Md := (yX12_isAheadSuffix, cX12_isAheadSuffix, 4, (some .boolean))
abbrev m_X12_isAmongCopies : g_Md := (yX12_isAmongCopies, cX12_isAmongCopies, 3, none)
abbrev m_X12_isCommand : g_Md := (yX12_isCommand, cX12_isCommand, 2, (some .boolean))
abbrev m_X12_isFit : g_Md := (yX12_isFit, cX12_isFit, 3, (some .boolean))
abbrev m_X12_isHealed : g_Md := (yX12_isHealed, cX12_isHealed, 5, (some .boolean))
abbrev m_X12_isHealedTwice : g_Md := (yX12_isHealedTwice, cX12_isHealedTwice, 5, (some .boolean))
abbrev m_X12_isOpen : g_Md := (yX12_isOpen, cX12_isOpen, 2, (some .boolean))
abbrev m_X12_isRight : g_Md := (yX12_isRight, cX12_isRight, 2, (some .boolean))
abbrev m_X12_isRinged : g_Md := (yX12_isRinged, cX12_isRinged, 2, (some .boolean))
abbrev m_X12_isSooner : g_Md := (yX12_isSooner, cX12_isSooner, 3, (some .boolean))
abbrev m_X12_isTerm : g_Md := (yX12_isTerm, cX12_isTerm, 2, (some .boolean))
abbrev m_X12_isWithoutRing : g_Md := (yX12_isWithoutRing, cX12_isWithoutRing, 7, (some .boolean))
abbrev m_X12_isWritten : g_Md := (yX12_isWritten, cX12_isWritten, 4, (some .boolean))
abbrev m_X12_keepsWork : g_Md := (yX12_keepsWork, cX12_keepsWork, 2, none)
abbrev m_X12_laysAct : g_Md := (yX12_laysAct, cX12_laysAct, 3, none)
abbrev m_X12_laysAll : g_Md := (yX12_laysAll, cX12_laysAll, 1, none)
abbrev m_X12_laysByte : g_Md := (yX12_laysByte, cX12_laysByte, 2, none)
abbrev m_X12_laysBytes : g_Md := (yX12_laysBytes, cX12_laysBytes, 4, none)
abbrev m_X12_laysCommand : g_Md := (yX12_laysCommand, cX12_laysCommand, 5, none)
abbrev m_X12_laysCommands : g_Md := (yX12_laysCommands, cX12_laysCommands, 4, none)
abbrev m_X12_laysDue : g_Md := (yX12_laysDue, cX12_laysDue, 4, none)
abbrev m_X12_laysFarTo : g_Md := (yX12_laysFarTo, cX12_laysFarTo, 6, none)
abbrev m_X12_laysNewCells : g_Md := (yX12_laysNewCells, cX12_laysNewCells, 4, none)
abbrev m_X12_laysPlan : g_Md := (yX12_laysPlan, cX12_laysPlan, 4, none)
abbrev m_X12_laysRinged : g_Md := (yX12_laysRinged, cX12_laysRinged, 3, (some .int))
abbrev m_X12_laysStep : g_Md := (yX12_laysStep, cX12_laysStep, 3, none)
abbrev m_X12_laysSteps : g_Md := (yX12_laysSteps, cX12_laysSteps, 5, (some .int))
abbrev m_X12_laysSuffixes : g_Md := (yX12_laysSuffixes, cX12_laysSuffixes, 4, none)
abbrev m_X12_least : g_Md := (yX12_least, cX12_least, 6, (some .int))
abbrev m_X12_leastFit : g_Md := (yX12_leastFit, cX12_leastFit, 2, (some .int))
abbrev m_X12_lesser : g_Md := (yX12_lesser, cX12_lesser, 2, (some .int))
abbrev m_X12_load : g_Md := (yX12_load, cX12_load, 3, (some .int))
abbrev m_X12_longestAt : g_Md := (yX12_longestAt, cX12_longestAt, 4, (some .int))
abbrev m_X12_lowestFree : g_Md := (yX12_lowestFree, cX12_lowestFree, 4, (some .int))
abbrev m_X12_marksStash : g_Md := (yX12_marksStash, cX12_marksStash, 5, none)
abbrev m_X12_meet : g_Md := (yX12_meet, cX12_meet, 4, (some .boolean))
abbrev m_X12_needs : g_Md := (yX12_needs, cX12_needs, 4, (some .int))
abbrev m_X12_notes : g_Md := (yX12_notes, cX12_notes, 2, none)
abbrev m_X12_odds : g_Md := (yX12_odds, cX12_odds, 5, (some .int))
abbrev m_X12_old : g_Md := (yX12_old, cX12_old, 2, (some .int))
abbrev m_X12_patch : g_Md := (yX12_patch, cX12_patch, 2, (some .int))
abbrev m_X12_plan : g_Md := (yX12_plan, cX12_plan, 2, (some .int))
abbrev m_X12_readAct : g_Md := (yX12_readAct, cX12_readAct, 8, none)
abbrev m_X12_readByte : g_Md := (yX12_readByte, cX12_readByte, 2, (some .int))
abbrev m_X12_readLength : g_Md := (yX12_readLength, cX12_readLength, 3, (some .int))
abbrev m_X12_readPlace : g_Md := (yX12_readPlace, cX12_readPlace, 3, (some .int))
abbrev m_X12_readsNow : g_Md := (yX12_readsNow, cX12_readsNow, 5, (some .int))
abbrev m_X12_readsPatch : g_Md := (yX12_readsPatch, cX12_readsPatch, 2, none)
abbrev m_X12_readsStash : g_Md := (yX12_readsStash, cX12_readsStash, 5, (some .int))
abbrev m_X12_restore : g_Md := (yX12_restore, cX12_restore, 3, (some .int))
abbrev m_X12_right : g_Md := (yX12_right, cX12_right, 3, (some .int))
abbrev m_X12_ring : g_Md := (yX12_ring, cX12_ring, 7, (some .int))
abbrev m_X12_ringed : g_Md := (yX12_ringed, cX12_ringed, 3, (some .int))
abbrev m_X12_roomAt : g_Md := (yX12_roomAt, cX12_roomAt, 2, (some .int))
abbrev m_X12_roomFor : g_Md := (yX12_roomFor, cX12_roomFor, 5, (some .int))
abbrev m_X12_run : g_Md := (yX12_run, cX12_run, 6, (some .int))
abbrev m_X12_runAt : g_Md := (yX12_runAt, cX12_runAt, 4, (some .int))
abbrev m_X12_savesCells : g_Md := (yX12_savesCells, cX12_savesCells, 5, none)
abbrev m_X12_share : g_Md := (yX12_share, cX12_share, 5, (some .int))
abbrev m_X12_shared : g_Md := (yX12_shared, cX12_shared, 2, (some .int))
abbrev m_X12_sized : g_Md := (yX12_sized, cX12_sized, 3, (some .int))
abbrev m_X12_spoil : g_Md := (yX12_spoil, cX12_spoil, 4, (some .int))
abbrev m_X12_step : g_Md := (yX12_step, cX12_step, 5, (some .int))
abbrev m_X12_steps : g_Md := (yX12_steps, cX12_steps, 1, (some .int))
abbrev m_X12_suffix : g_Md := (yX12_suffix, cX12_suffix, 2, (some .int))
abbrev m_X12_take : g_Md := (yX12_take, cX12_take, 2, (some .int))
abbrev m_X12_takesCells : g_Md := (yX12_takesCells, cX12_takesCells, 5, (some .int))
abbrev m_X12_takesPatch : g_Md := (yX12_takesPatch, cX12_takesPatch, 2, (some .int))
abbrev m_X12_terms : g_Md := (yX12_terms, cX12_terms, 4, (some .int))
abbrev m_X12_turned : g_Md := (yX12_turned, cX12_turned, 1, (some .int))
abbrev m_X12_turns : g_Md := (yX12_turns, cX12_turns, 4, none)
abbrev m_X12_twice : g_Md := (yX12_twice, cX12_twice, 5, (some .int))
abbrev m_X12_undo : g_Md := (yX12_undo, cX12_undo, 3, (some .int))
abbrev m_X12_unlike : g_Md := (yX12_unlike, cX12_unlike, 6, (some .int))
abbrev m_X12_waitingFor : g_Md := (yX12_waitingFor, cX12_waitingFor, 4, (some .int))
abbrev m_X12_wear : g_Md := (yX12_wear, cX12_wear, 4, (some .int))
abbrev m_X12_widest : g_Md := (yX12_widest, cX12_widest, 6, (some .int))
abbrev m_X12_within : g_Md := (yX12_within, cX12_within, 6, (some .boolean))
abbrev m_X12_worksFrom : g_Md := (yX12_worksFrom, cX12_worksFrom, 3, none)
abbrev m_X12_worksNow : g_Md := (yX12_worksNow, cX12_worksNow, 2, none)
abbrev m_X12_writes : g_Md := (yX12_writes, cX12_writes, 3, (some .boolean))
abbrev m_X12_writesBlock : g_Md := (yX12_writesBlock, cX12_writesBlock, 5, (some .boolean))
abbrev m_X12_writesJournal : g_Md := (yX12_writesJournal, cX12_writesJournal, 2, none)
abbrev m_X1_actAt : g_Md := (yX1_actAt, cX1_actAt, 2, (some .int))
abbrev m_X1_append : g_Md := (yX1_append, cX1_append, 3, none)
abbrev m_X1_areBlocksDue : g_Md := (yX1_areBlocksDue, cX1_areBlocksDue, 3, (some .boolean))
abbrev m_X1_bitsReadAt : g_Md := (yX1_bitsReadAt, cX1_bitsReadAt, 5, (some .int))
abbrev m_X1_bootUp : g_Md := (yX1_bootUp, cX1_bootUp, 3, none)
abbrev m_X1_build : g_Md := (yX1_build, cX1_build, 2, none)
abbrev m_X1_canBoot : g_Md := (yX1_canBoot, cX1_canBoot, 2, (some .boolean))
abbrev m_X1_countFits : g_Md := (yX1_countFits, cX1_countFits, 4, (some .int))
abbrev m_X1_cutPower : g_Md := (yX1_cutPower, cX1_cutPower, 5, none)
abbrev m_X1_doStep : g_Md := (yX1_doStep, cX1_doStep, 3, none)
abbrev m_X1_dueBlock : g_Md := (yX1_dueBlock, cX1_dueBlock, 3, (some .int))
abbrev m_X1_firstFit : g_Md := (yX1_firstFit, cX1_firstFit, 3, (some .int))
abbrev m_X1_hasLeft : g_Md := (yX1_hasLeft, cX1_hasLeft, 2, (some .boolean))
abbrev m_X1_init : g_Md := (yX1_init, cX1_init, 1, none)
abbrev m_X1_isFit : g_Md := (yX1_isFit, cX1_isFit, 3, (some .boolean))
abbrev m_X1_isStashDue : g_Md := (yX1_isStashDue, cX1_isStashDue, 5, (some .boolean))
abbrev m_X1_lastFit : g_Md := (yX1_lastFit, cX1_lastFit, 3, (some .int))
abbrev m_X1_listBlocks : g_Md := (yX1_listBlocks, cX1_listBlocks, 6, none)
abbrev m_X1_listSteps : g_Md := (yX1_listSteps, cX1_listSteps, 2, none)
abbrev m_X1_look : g_Md := (yX1_look, cX1_look, 4, none)
abbrev m_X1_markNeeded : g_Md := (yX1_markNeeded, cX1_markNeeded, 3, none)
abbrev m_X1_noteDue : g_Md := (yX1_noteDue, cX1_noteDue, 3, none)
abbrev m_X1_readCell : g_Md := (yX1_readCell, cX1_readCell, 5, (some .int))
abbrev m_X1_readComing : g_Md := (yX1_readComing, cX1_readComing, 8, none)
abbrev m_X1_saveCells : g_Md := (yX1_saveCells, cX1_saveCells, 6, none)
abbrev m_X1_standAsDue : g_Md := (yX1_standAsDue, cX1_standAsDue, 5, none)
abbrev m_X1_walkDue : g_Md := (yX1_walkDue, cX1_walkDue, 3, none)
abbrev m_X2_burnCells : g_Md := (yX2_burnCells, cX2_burnCells, 3, none)
abbrev m_X2_copyFrom : g_Md := (yX2_copyFrom, cX2_copyFrom, 2, none)
abbrev m_X2_init : g_Md := (yX2_init, cX2_init, 1, none)
abbrev m_X2_standAt : g_Md := (yX2_standAt, cX2_standAt, 2, none)
abbrev m_X2_start : g_Md := (yX2_start, cX2_start, 3, none)
abbrev m_X2_startHere : g_Md := (yX2_startHere, cX2_startHere, 1, none)
abbrev m_X2_writeBlock : g_Md := (yX2_writeBlock, cX2_writeBlock, 6, none)
abbrev m_X2_writeJournal : g_Md := (yX2_writeJournal, cX2_writeJournal, 3, none)
abbrev m_X3_clear : g_Md := (yX3_clear, cX3_clear, 1, none)
abbrev m_X3_goBack : g_Md := (yX3_goBack, cX3_goBack, 3, none)
abbrev m_X3_init : g_Md := (yX3_init, cX3_init, 2, none)
abbrev m_X3_keep : g_Md := (yX3_keep, cX3_keep, 2, none)
abbrev m_X4_append : g_Md := (yX4_append, cX4_append, 5, none)
abbrev m_X4_blockedBits : g_Md := (yX4_blockedBits, cX4_blockedBits, 5, (some .int))
abbrev m_X4_breakRing : g_Md := (yX4_breakRing, cX4_breakRing, 9, none)
abbrev m_X4_build : g_Md := (yX4_build, cX4_build, 7, none)
abbrev m_X4_fateOf : g_Md := (yX4_fateOf, cX4_fateOf, 2, (some .int))
abbrev m_X4_finish : g_Md := (yX4_finish, cX4_finish, 4, none)
abbrev m_X4_freePlace : g_Md := (yX4_freePlace, cX4_freePlace, 4, (some .int))
abbrev m_X4_init : g_Md := (yX4_init, cX4_init, 1, none)
abbrev m_X4_isPreferred : g_Md := (yX4_isPreferred, cX4_isPreferred, 5, (some .boolean))
abbrev m_X4_pushThree : g_Md := (yX4_pushThree, cX4_pushThree, 4, none)
abbrev m_X4_readers : g_Md := (yX4_readers, cX4_readers, 2, (some .int))
abbrev m_X4_saveCopy : g_Md := (yX4_saveCopy, cX4_saveCopy, 5, none)
abbrev m_X4_waiting : g_Md := (yX4_waiting, cX4_waiting, 3, (some .int))
abbrev m_X4_write : g_Md := (yX4_write, cX4_write, 4, none)
abbrev m_X4_writeAct : g_Md := (yX4_writeAct, cX4_writeAct, 6, none)
abbrev m_X5_fail : g_Md := (yX5_fail, cX5_fail, 3, none)
abbrev m_X5_firstOverwritten : g_Md := (yX5_firstOverwritten, cX5_firstOverwritten, 4, (some .int))
abbrev m_X5_init : g_Md := (yX5_init, cX5_init, 1, none)
abbrev m_X5_passCells : g_Md := (yX5_passCells, cX5_passCells, 2, none)
abbrev m_X5_readAct : g_Md := (yX5_readAct, cX5_readAct, 4, none)
abbrev m_X5_readActs : g_Md := (yX5_readActs, cX5_readActs, 5, none)
abbrev m_X5_readNumber : g_Md := (yX5_readNumber, cX5_readNumber, 5, (some .int))
abbrev m_X6_findShortest : g_Md := (yX6_findShortest, cX6_findShortest, 5, none)
abbrev m_X6_init : g_Md := (yX6_init, cX6_init, 1, none)
abbrev m_X6_isWithoutRing : g_Md := (yX6_isWithoutRing, cX6_isWithoutRing, 6, (some .boolean))
abbrev m_X6_leadingInto : g_Md := (yX6_leadingInto, cX6_leadingInto, 4, (some .int))
abbrev m_X6_members : g_Md := (yX6_members, cX6_members, 5, (some .int))
abbrev m_X6_weigh : g_Md := (yX6_weigh, cX6_weigh, 6, none)
abbrev m_X6_weighSet : g_Md := (yX6_weighSet, cX6_weighSet, 7, none)
abbrev m_X7_addCell : g_Md := (yX7_addCell, cX7_addCell, 2, none)
abbrev m_X7_append : g_Md := (yX7_append, cX7_append, 5, none)
abbrev m_X7_build : g_Md := (yX7_build, cX7_build, 6, none)
abbrev m_X7_findOrder : g_Md := (yX7_findOrder, cX7_findOrder, 3, none)
abbrev m_X7_findRun : g_Md := (yX7_findRun, cX7_findRun, 7, none)
abbrev m_X7_has : g_Md := (yX7_has, cX7_has, 2, (some .boolean))
abbrev m_X7_init : g_Md := (yX7_init, cX7_init, 1, none)
abbrev m_X7_isPreferred : g_Md := (yX7_isPreferred, cX7_isPreferred, 4, (some .boolean))
abbrev m_X7_leastSize : g_Md := (yX7_leastSize, cX7_leastSize, 9, (some .int))
abbrev m_X7_movers : g_Md := (yX7_movers, cX7_movers, 3, (some .int))
abbrev m_X7_mustBeAhead : g_Md := (yX7_mustBeAhead, cX7_mustBeAhead, 3, (some .boolean))
abbrev m_X7_writers : g_Md := (yX7_writers, cX7_writers, 3, (some .int))
abbrev m_X8_copyFrom : g_Md := (yX8_copyFrom, cX8_copyFrom, 2, none)
abbrev m_X8_init : g_Md := (yX8_init, cX8_init, 1, none)
abbrev m_X9_init : g_Md := (yX9_init, cX9_init, 1, none)
abbrev m_X9_insert : g_Md := (yX9_insert, cX9_insert, 4, none)
abbrev m_X9_isBefore : g_Md := (yX9_isBefore, cX9_isBefore, 4, (some .boolean))
abbrev m_X9_sort : g_Md := (yX9_sort, cX9_sort, 3, none)
abbrev m_X9_unlikeRows : g_Md := (yX9_unlikeRows, cX9_unlikeRows, 5, (some .int))
abbrev m_L_law : g_Md := (yL_law, cL_law, 4, some .boolean)
theorem g_in_of {ws : List Cond} (ps : List Nat) (hp : ws = ps.filterMap (fun i => tables_1[i]?)) (hg : ws.all goodWord = true) : ∀ w ∈ ws, w ∈ g_t := by
  intro w hw
  have h1 := List.all_eq_true.mp hg w hw
  rw [hp] at hw
  obtain ⟨i, -, hi⟩ := List.mem_filterMap.mp hw
  exact tw i hi h1
set_option maxRecDepth 20000 in
theorem uw_X0 : ∀ w ∈ u_ws RX0 TX0 2, w ∈ g_t := g_in_of [55, 57] (by decide +kernel) (by decide +kernel)
set_option maxRecDepth 20000 in
theorem uw_X1 : ∀ w ∈ u_ws RX1 TX1 11, w ∈ g_t := g_in_of [420, 422, 424, 426, 428, 430, 432, 434, 436, 438, 440] (by decide +kernel) (by decide +kernel)
set_option maxRecDepth 20000 in
theorem uw_X10 : ∀ w ∈ u_ws RX10 TX10 2, w ∈ g_t := g_in_of [454, 456] (by decide +kernel) (by decide +kernel)
set_option maxRecDepth 20000 in
theorem uw_X11 : ∀ w ∈ u_ws RX11 TX11 16, w ∈ g_t := g_in_of [475, 477, 479, 481, 483, 485, 487, 489, 491, 493, 495, 497, 499, 501, 503, 505] (by decide +kernel) (by decide +kernel)
set_option maxRecDepth 20000 in
theorem uw_X12 : ∀ w ∈ u_ws RX12 TX12 51, w ∈ g_t := g_in_of [1250, 1252, 1254, 1256, 1258, 1260, 1262, 1264, 1266, 1268, 1270, 1272, 1274, 1276, 1278, 1280, 1282, 1284, 1286, 1288, 1290, 1292, 1294, 1296, 1298, 1300, 1302, 1304, 1306, 1308, 1310, 1312, 1314, 1316, 1318, 1320, 1322, 1324, 1326, 1328, 1330, 1332, 1334, 1336, 1338, 1340, 1342, 1344, 1346, 1348, 1350] (by decide +kernel) (by decide +kernel)
set_option maxRecDepth 20000 in
theorem uw_X2 : ∀ w ∈ u_ws RX2 TX2 10, w ∈ g_t := g_in_of [111, 113, 115, 117, 119, 121, 123, 125, 127, 129] (by decide +kernel) (by decide +kernel)
set_option maxRecDepth 20000 in
theorem uw_X3 : ∀ w ∈ u_ws RX3 TX3 3, w ∈ g_t := g_in_of [208, 210, 212] (by decide +kernel) (by decide +kernel)
set_option maxRecDepth 20000 in
theorem uw_X4 : ∀ w ∈ u_ws RX4 TX4 12, w ∈ g_t := g_in_of [367, 369, 371, 373, 375, 377, 379, 381, 383, 385, 387, 389] (by decide +kernel) (by decide +kernel)
set_option maxRecDepth 20000 in
theorem uw_X5 : ∀ w ∈ u_ws RX5 TX5 9, w ∈ g_t := g_in_of [175, 177, 179, 181, 183, 185, 187, 189, 191] (by decide +kernel) (by decide +kernel)
set_option maxRecDepth 20000 in
theorem uw_X6 : ∀ w ∈ u_ws RX6 TX6 9, w ∈ g_t := g_in_of [262, 264, 266, 268, 270, 272, 274, 276, 278] (by decide +kernel) (by decide +kernel)
set_option maxRecDepth 20000 in
theorem uw_X7 : ∀ w ∈ u_ws RX7 TX7 12, w ∈ g_t := g_in_of [313, 315, 317, 319, 321, 323, 325, 327, 329, 331, 333, 335] (by decide +kernel) (by decide +kernel)
set_option maxRecDepth 20000 in
theorem uw_X8 : ∀ w ∈ u_ws RX8 TX8 4, w ∈ g_t := g_in_of [140, 142, 144, 146] (by decide +kernel) (by decide +kernel)
set_option maxRecDepth 20000 in
theorem uw_X9 : ∀ w ∈ u_ws RX9 TX9 3, w ∈ g_t := g_in_of [227, 229, 231] (by decide +kernel) (by decide +kernel)
set_option maxRecDepth 20000 in
theorem wc_J6_bitCount_0f7a4 : Cond.code m_J6_bitCount_0f7a4.1 m_J6_bitCount_0f7a4.2.1 m_J6_bitCount_0f7a4.2.2.1 m_J6_bitCount_0f7a4.2.2.2 ∈ g_t := (tw3 239 rfl rfl)
set_option maxRecDepth 20000 in
theorem wc_J6_numberOfTrailingZeros_0f7a4 : Cond.code m_J6_numberOfTrailingZeros_0f7a4.1 m_J6_numberOfTrailingZeros_0f7a4.2.1 m_J6_numberOfTrailingZeros_0f7a4.2.2.1 m_J6_numberOfTrailingZeros_0f7a4.2.2.2 ∈ g_t := (tw3 199 rfl rfl)
set_option maxRecDepth 20000 in
theorem wc_J7_fill_53178 : Cond.code m_J7_fill_53178.1 m_J7_fill_53178.2.1 m_J7_fill_53178.2.2.1 m_J7_fill_53178.2.2.2 ∈ g_t := (tw1 76 rfl rfl)
set_option maxRecDepth 20000 in
theorem wc_J9_abs_0f7a4 : Cond.code m_J9_abs_0f7a4.1 m_J9_abs_0f7a4.2.1 m_J9_abs_0f7a4.2.2.1 m_J9_abs_0f7a4.2.2.2 ∈ g_t := (tw3 126 rfl rfl)
set_option maxRecDepth 20000 in
theorem wc_J9_max_7cf53 : Cond.code m_J9_max_7cf53.1 m_J9_max_7cf53.2.1 m_J9_max_7cf53.2.2.1 m_J9_max_7cf53.2.2.2 ∈ g_t := (tw1 40 rfl rfl)
set_option maxRecDepth 20000 in
theorem wc_J9_min_7cf53 : Cond.code m_J9_min_7cf53.1 m_J9_min_7cf53.2.1 m_J9_min_7cf53.2.2.1 m_J9_min_7cf53.2.2.2 ∈ g_t := (tw3 51 rfl rfl)
set_option maxRecDepth 20000 in
theorem wc_X0_alike : Cond.code m_X0_alike.1 m_X0_alike.2.1 m_X0_alike.2.2.1 m_X0_alike.2.2.2 ∈ g_t := (tw3 98 rfl rfl)
set_option maxRecDepth 20000 in
theorem wc_X0_at : Cond.code m_X0_at.1 m_X0_at.2.1 m_X0_at.2.2.1 m_X0_at.2.2.2 ∈ g_t := (tw3 64 rfl rfl)
set_option maxRecDepth 20000 in
theorem wc_X0_copyFirst : Cond.code m_X0_copyFirst.1 m_X0_copyFirst.2.1 m_X0_copyFirst.2.2.1 m_X0_copyFirst.2.2.2 ∈ g_t := (tw3 48 rfl rfl)
set_option maxRecDepth 20000 in
theorem wc_X0_init : Cond.code m_X0_init.1 m_X0_init.2.1 m_X0_init.2.2.1 m_X0_init.2.2.2 ∈ g_t := (tw1 36 rfl rfl)
set_option maxRecDepth 20000 in
theorem wc_X0_push : Cond.code m_X0_push.1 m_X0_push.2.1 m_X0_push.2.2.1 m_X0_push.2.2.2 ∈ g_t := (tw1 80 rfl rfl)
set_option maxRecDepth 20000 in
theorem wc_X10_clear : Cond.code m_X10_clear.1 m_X10_clear.2.1 m_X10_clear.2.2.1 m_X10_clear.2.2.2 ∈ g_t := (tw5 24 rfl rfl)
set_option maxRecDepth 20000 in
theorem wc_X10_endsAsDue : Cond.code m_X10_endsAsDue.1 m_X10_endsAsDue.2.1 m_X10_endsAsDue.2.2.1 m_X10_endsAsDue.2.2.2 ∈ g_t := (tw5 182 rfl rfl)
set_option maxRecDepth 20000 in
theorem wc_X10_init : Cond.code m_X10_init.1 m_X10_init.2.1 m_X10_init.2.2.1 m_X10_init.2.2.2 ∈ g_t := (tw2 207 rfl rfl)
set_option maxRecDepth 20000 in
theorem wc_X10_survived : Cond.code m_X10_survived.1 m_X10_survived.2.1 m_X10_survived.2.2.1 m_X10_survived.2.2.2 ∈ g_t := (tw5 167 rfl rfl)
set_option maxRecDepth 20000 in
theorem wc_X10_survivedTwice : Cond.code m_X10_survivedTwice.1 m_X10_survivedTwice.2.1 m_X10_survivedTwice.2.2.1 m_X10_survivedTwice.2.2.2 ∈ g_t := (tw5 195 rfl rfl)
set_option maxRecDepth 20000 in
theorem wc_X10_survives : Cond.code m_X10_survives.1 m_X10_survives.2.1 m_X10_survives.2.2.1 m_X10_survives.2.2.2 ∈ g_t := (tw5 175 rfl rfl)
set_option maxRecDepth 20000 in
theorem wc_X11_act : Cond.code m_X11_act.1 m_X11_act.2.1 m_X11_act.2.2.1 m_X11_act.2.2.2 ∈ g_t := (tw4 80 rfl rfl)
set_option maxRecDepth 20000 in
theorem wc_X11_acts : Cond.code m_X11_acts.1 m_X11_acts.2.1 m_X11_acts.2.2.1 m_X11_acts.2.2.2 ∈ g_t := (tw4 76 rfl rfl)
set_option maxRecDepth 20000 in
theorem wc_X11_ahead : Cond.code m_X11_ahead.1 m_X11_ahead.2.1 m_X11_ahead.2.2.1 m_X11_ahead.2.2.2 ∈ g_t := (tw4 34 rfl rfl)
set_option maxRecDepth 20000 in
theorem wc_X11_best : Cond.code m_X11_best.1 m_X11_best.2.1 m_X11_best.2.2.1 m_X11_best.2.2.2 ∈ g_t := (tw4 105 rfl rfl)
set_option maxRecDepth 20000 in
theorem wc_X11_bestChoice : Cond.code m_X11_bestChoice.1 m_X11_bestChoice.2.1 m_X11_bestChoice.2.2.1 m_X11_bestChoice.2.2.2 ∈ g_t := (tw4 113 rfl rfl)
set_option maxRecDepth 20000 in
theorem wc_X11_bestRule : Cond.code m_X11_bestRule.1 m_X11_bestRule.2.1 m_X11_bestRule.2.2.1 m_X11_bestRule.2.2.2 ∈ g_t := (tw4 109 rfl rfl)
set_option maxRecDepth 20000 in
theorem wc_X11_boot : Cond.code m_X11_boot.1 m_X11_boot.2.1 m_X11_boot.2.2.1 m_X11_boot.2.2.2 ∈ g_t := (tw5 71 rfl rfl)
set_option maxRecDepth 20000 in
theorem wc_X11_burn : Cond.code m_X11_burn.1 m_X11_burn.2.1 m_X11_burn.2.2.1 m_X11_burn.2.2.2 ∈ g_t := (tw4 130 rfl rfl)
set_option maxRecDepth 20000 in
theorem wc_X11_cell : Cond.code m_X11_cell.1 m_X11_cell.2.1 m_X11_cell.2.2.1 m_X11_cell.2.2.2 ∈ g_t := (tw3 60 rfl rfl)
set_option maxRecDepth 20000 in
theorem wc_X11_command : Cond.code m_X11_command.1 m_X11_command.2.1 m_X11_command.2.2.1 m_X11_command.2.2.2 ∈ g_t := (tw4 25 rfl rfl)
set_option maxRecDepth 20000 in
theorem wc_X11_commands : Cond.code m_X11_commands.1 m_X11_commands.2.1 m_X11_commands.2.2.1 m_X11_commands.2.2.2 ∈ g_t := (tw3 146 rfl rfl)
set_option maxRecDepth 20000 in
theorem wc_X11_commonDivisor : Cond.code m_X11_commonDivisor.1 m_X11_commonDivisor.2.1 m_X11_commonDivisor.2.2.1 m_X11_commonDivisor.2.2.2 ∈ g_t := (tw5 202 rfl rfl)
set_option maxRecDepth 20000 in
theorem wc_X11_count : Cond.code m_X11_count.1 m_X11_count.2.1 m_X11_count.2.2.1 m_X11_count.2.2.2 ∈ g_t := (tw5 224 rfl rfl)
set_option maxRecDepth 20000 in
theorem wc_X11_cut : Cond.code m_X11_cut.1 m_X11_cut.2.1 m_X11_cut.2.2.1 m_X11_cut.2.2.2 ∈ g_t := (tw5 55 rfl rfl)
set_option maxRecDepth 20000 in
theorem wc_X11_cuts : Cond.code m_X11_cuts.1 m_X11_cuts.2.1 m_X11_cuts.2.2.1 m_X11_cuts.2.2.2 ∈ g_t := (tw5 163 rfl rfl)
set_option maxRecDepth 20000 in
theorem wc_X11_digest : Cond.code m_X11_digest.1 m_X11_digest.2.1 m_X11_digest.2.2.1 m_X11_digest.2.2.2 ∈ g_t := (tw5 117 rfl rfl)
set_option maxRecDepth 20000 in
theorem wc_X11_digestOf : Cond.code m_X11_digestOf.1 m_X11_digestOf.2.1 m_X11_digestOf.2.2.1 m_X11_digestOf.2.2.2 ∈ g_t := (tw5 122 rfl rfl)
set_option maxRecDepth 20000 in
theorem wc_X11_due : Cond.code m_X11_due.1 m_X11_due.2.1 m_X11_due.2.2.1 m_X11_due.2.2.2 ∈ g_t := (tw5 129 rfl rfl)
set_option maxRecDepth 20000 in
theorem wc_X11_elementOf : Cond.code m_X11_elementOf.1 m_X11_elementOf.2.1 m_X11_elementOf.2.2.1 m_X11_elementOf.2.2.2 ∈ g_t := (tw3 67 rfl rfl)
set_option maxRecDepth 20000 in
theorem wc_X11_fault : Cond.code m_X11_fault.1 m_X11_fault.2.1 m_X11_fault.2.2.1 m_X11_fault.2.2.2 ∈ g_t := (tw5 33 rfl rfl)
set_option maxRecDepth 20000 in
theorem wc_X11_feed : Cond.code m_X11_feed.1 m_X11_feed.2.1 m_X11_feed.2.2.1 m_X11_feed.2.2.2 ∈ g_t := (tw3 31 rfl rfl)
set_option maxRecDepth 20000 in
theorem wc_X11_feedWord : Cond.code m_X11_feedWord.1 m_X11_feedWord.2.1 m_X11_feedWord.2.2.1 m_X11_feedWord.2.2.2 ∈ g_t := (tw3 35 rfl rfl)
set_option maxRecDepth 20000 in
theorem wc_X11_fewest : Cond.code m_X11_fewest.1 m_X11_fewest.2.1 m_X11_fewest.2.2.1 m_X11_fewest.2.2.2 ∈ g_t := (tw4 57 rfl rfl)
set_option maxRecDepth 20000 in
theorem wc_X11_fits : Cond.code m_X11_fits.1 m_X11_fits.2.1 m_X11_fits.2.2.1 m_X11_fits.2.2.2 ∈ g_t := (tw5 133 rfl rfl)
set_option maxRecDepth 20000 in
theorem wc_X11_floatBits : Cond.code m_X11_floatBits.1 m_X11_floatBits.2.1 m_X11_floatBits.2.2.1 m_X11_floatBits.2.2.2 ∈ g_t := (tw4 124 rfl rfl)
set_option maxRecDepth 20000 in
theorem wc_X11_forget : Cond.code m_X11_forget.1 m_X11_forget.2.1 m_X11_forget.2.2.1 m_X11_forget.2.2.2 ∈ g_t := (tw5 67 rfl rfl)
set_option maxRecDepth 20000 in
theorem wc_X11_fresh : Cond.code m_X11_fresh.1 m_X11_fresh.2.1 m_X11_fresh.2.2.1 m_X11_fresh.2.2.2 ∈ g_t := (tw3 56 rfl rfl)
set_option maxRecDepth 20000 in
theorem wc_X11_go : Cond.code m_X11_go.1 m_X11_go.2.1 m_X11_go.2.2.1 m_X11_go.2.2.2 ∈ g_t := (tw5 49 rfl rfl)
set_option maxRecDepth 20000 in
theorem wc_X11_hasBit : Cond.code m_X11_hasBit.1 m_X11_hasBit.2.1 m_X11_hasBit.2.2.1 m_X11_hasBit.2.2.2 ∈ g_t := (tw3 193 rfl rfl)
set_option maxRecDepth 20000 in
theorem wc_X11_hazard : Cond.code m_X11_hazard.1 m_X11_hazard.2.1 m_X11_hazard.2.2.1 m_X11_hazard.2.2.2 ∈ g_t := (tw5 151 rfl rfl)
set_option maxRecDepth 20000 in
theorem wc_X11_image : Cond.code m_X11_image.1 m_X11_image.2.1 m_X11_image.2.2.1 m_X11_image.2.2.2 ∈ g_t := (tw5 206 rfl rfl)
set_option maxRecDepth 20000 in
theorem wc_X11_init : Cond.code m_X11_init.1 m_X11_init.2.1 m_X11_init.2.2.1 m_X11_init.2.2.2 ∈ g_t := (tw1 22 rfl rfl)
set_option maxRecDepth 20000 in
theorem wc_X11_least : Cond.code m_X11_least.1 m_X11_least.2.1 m_X11_least.2.2.1 m_X11_least.2.2.2 ∈ g_t := (tw3 134 rfl rfl)
set_option maxRecDepth 20000 in
theorem wc_X11_load : Cond.code m_X11_load.1 m_X11_load.2.1 m_X11_load.2.2.1 m_X11_load.2.2.2 ∈ g_t := (tw5 28 rfl rfl)
set_option maxRecDepth 20000 in
theorem wc_X11_lowestBit : Cond.code m_X11_lowestBit.1 m_X11_lowestBit.2.1 m_X11_lowestBit.2.2.1 m_X11_lowestBit.2.2.2 ∈ g_t := (tw3 196 rfl rfl)
set_option maxRecDepth 20000 in
theorem wc_X11_makeCourse : Cond.code m_X11_makeCourse.1 m_X11_makeCourse.2.1 m_X11_makeCourse.2.2.1 m_X11_makeCourse.2.2.2 ∈ g_t := (tw4 168 rfl rfl)
set_option maxRecDepth 20000 in
theorem wc_X11_makePlan : Cond.code m_X11_makePlan.1 m_X11_makePlan.2.1 m_X11_makePlan.2.2.1 m_X11_makePlan.2.2.2 ∈ g_t := (tw3 150 rfl rfl)
set_option maxRecDepth 20000 in
theorem wc_X11_needs : Cond.code m_X11_needs.1 m_X11_needs.2.1 m_X11_needs.2.2.1 m_X11_needs.2.2.2 ∈ g_t := (tw4 93 rfl rfl)
set_option maxRecDepth 20000 in
theorem wc_X11_odds : Cond.code m_X11_odds.1 m_X11_odds.2.1 m_X11_odds.2.2.1 m_X11_odds.2.2.2 ∈ g_t := (tw5 199 rfl rfl)
set_option maxRecDepth 20000 in
theorem wc_X11_old : Cond.code m_X11_old.1 m_X11_old.2.1 m_X11_old.2.2.1 m_X11_old.2.2.2 ∈ g_t := (tw3 40 rfl rfl)
set_option maxRecDepth 20000 in
theorem wc_X11_onesFrom : Cond.code m_X11_onesFrom.1 m_X11_onesFrom.2.1 m_X11_onesFrom.2.2.1 m_X11_onesFrom.2.2.2 ∈ g_t := (tw3 211 rfl rfl)
set_option maxRecDepth 20000 in
theorem wc_X11_packed : Cond.code m_X11_packed.1 m_X11_packed.2.1 m_X11_packed.2.2.1 m_X11_packed.2.2.2 ∈ g_t := (tw4 232 rfl rfl)
set_option maxRecDepth 20000 in
theorem wc_X11_patch : Cond.code m_X11_patch.1 m_X11_patch.2.1 m_X11_patch.2.2.1 m_X11_patch.2.2.2 ∈ g_t := (tw4 89 rfl rfl)
set_option maxRecDepth 20000 in
theorem wc_X11_plan : Cond.code m_X11_plan.1 m_X11_plan.2.1 m_X11_plan.2.2.1 m_X11_plan.2.2.2 ∈ g_t := (tw4 84 rfl rfl)
set_option maxRecDepth 20000 in
theorem wc_X11_restore : Cond.code m_X11_restore.1 m_X11_restore.2.1 m_X11_restore.2.2.1 m_X11_restore.2.2.2 ∈ g_t := (tw5 216 rfl rfl)
set_option maxRecDepth 20000 in
theorem wc_X11_right : Cond.code m_X11_right.1 m_X11_right.2.1 m_X11_right.2.2.1 m_X11_right.2.2.2 ∈ g_t := (tw5 147 rfl rfl)
set_option maxRecDepth 20000 in
theorem wc_X11_ring : Cond.code m_X11_ring.1 m_X11_ring.2.1 m_X11_ring.2.2.1 m_X11_ring.2.2.2 ∈ g_t := (tw4 45 rfl rfl)
set_option maxRecDepth 20000 in
theorem wc_X11_ringed : Cond.code m_X11_ringed.1 m_X11_ringed.2.1 m_X11_ringed.2.2.1 m_X11_ringed.2.2.2 ∈ g_t := (tw4 39 rfl rfl)
set_option maxRecDepth 20000 in
theorem wc_X11_run : Cond.code m_X11_run.1 m_X11_run.2.1 m_X11_run.2.2.1 m_X11_run.2.2.2 ∈ g_t := (tw3 114 rfl rfl)
set_option maxRecDepth 20000 in
theorem wc_X11_share : Cond.code m_X11_share.1 m_X11_share.2.1 m_X11_share.2.2.1 m_X11_share.2.2.2 ∈ g_t := (tw4 117 rfl rfl)
set_option maxRecDepth 20000 in
theorem wc_X11_shareOf : Cond.code m_X11_shareOf.1 m_X11_shareOf.2.1 m_X11_shareOf.2.2.1 m_X11_shareOf.2.2.2 ∈ g_t := (tw4 121 rfl rfl)
set_option maxRecDepth 20000 in
theorem wc_X11_shared : Cond.code m_X11_shared.1 m_X11_shared.2.1 m_X11_shared.2.2.1 m_X11_shared.2.2.2 ∈ g_t := (tw3 102 rfl rfl)
set_option maxRecDepth 20000 in
theorem wc_X11_sized : Cond.code m_X11_sized.1 m_X11_sized.2.1 m_X11_sized.2.2.1 m_X11_sized.2.2.2 ∈ g_t := (tw4 97 rfl rfl)
set_option maxRecDepth 20000 in
theorem wc_X11_sortSuffixes : Cond.code m_X11_sortSuffixes.1 m_X11_sortSuffixes.2.1 m_X11_sortSuffixes.2.2.1 m_X11_sortSuffixes.2.2.2 ∈ g_t := (tw3 83 rfl rfl)
set_option maxRecDepth 20000 in
theorem wc_X11_spoil : Cond.code m_X11_spoil.1 m_X11_spoil.2.1 m_X11_spoil.2.2.1 m_X11_spoil.2.2.2 ∈ g_t := (tw5 105 rfl rfl)
set_option maxRecDepth 20000 in
theorem wc_X11_step : Cond.code m_X11_step.1 m_X11_step.2.1 m_X11_step.2.2.1 m_X11_step.2.2.2 ∈ g_t := (tw5 41 rfl rfl)
set_option maxRecDepth 20000 in
theorem wc_X11_steps : Cond.code m_X11_steps.1 m_X11_steps.2.1 m_X11_steps.2.2.1 m_X11_steps.2.2.2 ∈ g_t := (tw5 37 rfl rfl)
set_option maxRecDepth 20000 in
theorem wc_X11_suffix : Cond.code m_X11_suffix.1 m_X11_suffix.2.1 m_X11_suffix.2.2.1 m_X11_suffix.2.2.2 ∈ g_t := (tw3 79 rfl rfl)
set_option maxRecDepth 20000 in
theorem wc_X11_take : Cond.code m_X11_take.1 m_X11_take.2.1 m_X11_take.2.2.1 m_X11_take.2.2.2 ∈ g_t := (tw4 156 rfl rfl)
set_option maxRecDepth 20000 in
theorem wc_X11_takeCells : Cond.code m_X11_takeCells.1 m_X11_takeCells.2.1 m_X11_takeCells.2.2.1 m_X11_takeCells.2.2.2 ∈ g_t := (tw3 44 rfl rfl)
set_option maxRecDepth 20000 in
theorem wc_X11_takePatch : Cond.code m_X11_takePatch.1 m_X11_takePatch.2.1 m_X11_takePatch.2.2.1 m_X11_takePatch.2.2.2 ∈ g_t := (tw4 160 rfl rfl)
set_option maxRecDepth 20000 in
theorem wc_X11_terms : Cond.code m_X11_terms.1 m_X11_terms.2.1 m_X11_terms.2.2.1 m_X11_terms.2.2.2 ∈ g_t := (tw3 71 rfl rfl)
set_option maxRecDepth 20000 in
theorem wc_X11_turned : Cond.code m_X11_turned.1 m_X11_turned.2.1 m_X11_turned.2.2.1 m_X11_turned.2.2.2 ∈ g_t := (tw4 101 rfl rfl)
set_option maxRecDepth 20000 in
theorem wc_X11_twice : Cond.code m_X11_twice.1 m_X11_twice.2.1 m_X11_twice.2.2.1 m_X11_twice.2.2.2 ∈ g_t := (tw5 191 rfl rfl)
set_option maxRecDepth 20000 in
theorem wc_X11_undo : Cond.code m_X11_undo.1 m_X11_undo.2.1 m_X11_undo.2.2.1 m_X11_undo.2.2.2 ∈ g_t := (tw5 109 rfl rfl)
set_option maxRecDepth 20000 in
theorem wc_X11_unlike : Cond.code m_X11_unlike.1 m_X11_unlike.2.1 m_X11_unlike.2.2.1 m_X11_unlike.2.2.2 ∈ g_t := (tw3 106 rfl rfl)
set_option maxRecDepth 20000 in
theorem wc_X11_wear : Cond.code m_X11_wear.1 m_X11_wear.2.1 m_X11_wear.2.2.1 m_X11_wear.2.2.2 ∈ g_t := (tw5 159 rfl rfl)
set_option maxRecDepth 20000 in
theorem wc_X11_widest : Cond.code m_X11_widest.1 m_X11_widest.2.1 m_X11_widest.2.2.1 m_X11_widest.2.2.2 ∈ g_t := (tw3 130 rfl rfl)
set_option maxRecDepth 20000 in
theorem wc_X12_act : Cond.code m_X12_act.1 m_X12_act.2.1 m_X12_act.2.2.1 m_X12_act.2.2.2 ∈ g_t := (tw7 124 rfl rfl)
set_option maxRecDepth 20000 in
theorem wc_X12_actNow : Cond.code m_X12_actNow.1 m_X12_actNow.2.1 m_X12_actNow.2.2.1 m_X12_actNow.2.2.2 ∈ g_t := (tw7 212 rfl rfl)
set_option maxRecDepth 20000 in
theorem wc_X12_acts : Cond.code m_X12_acts.1 m_X12_acts.2.1 m_X12_acts.2.2.1 m_X12_acts.2.2.2 ∈ g_t := (tw7 116 rfl rfl)
set_option maxRecDepth 20000 in
theorem wc_X12_ahead : Cond.code m_X12_ahead.1 m_X12_ahead.2.1 m_X12_ahead.2.2.1 m_X12_ahead.2.2.2 ∈ g_t := (tw7 88 rfl rfl)
set_option maxRecDepth 20000 in
theorem wc_X12_apart : Cond.code m_X12_apart.1 m_X12_apart.2.1 m_X12_apart.2.2.1 m_X12_apart.2.2.2 ∈ g_t := (tw6 232 rfl rfl)
set_option maxRecDepth 20000 in
theorem wc_X12_begins : Cond.code m_X12_begins.1 m_X12_begins.2.1 m_X12_begins.2.2.1 m_X12_begins.2.2.2 ∈ g_t := (tw5 238 rfl rfl)
set_option maxRecDepth 20000 in
theorem wc_X12_best : Cond.code m_X12_best.1 m_X12_best.2.1 m_X12_best.2.2.1 m_X12_best.2.2.2 ∈ g_t := (tw7 152 rfl rfl)
set_option maxRecDepth 20000 in
theorem wc_X12_boot : Cond.code m_X12_boot.1 m_X12_boot.2.1 m_X12_boot.2.2.1 m_X12_boot.2.2.2 ∈ g_t := (tw8 57 rfl rfl)
set_option maxRecDepth 20000 in
theorem wc_X12_breaksRing : Cond.code m_X12_breaksRing.1 m_X12_breaksRing.2.1 m_X12_breaksRing.2.2.1 m_X12_breaksRing.2.2.2 ∈ g_t := (tw7 56 rfl rfl)
set_option maxRecDepth 20000 in
theorem wc_X12_burn : Cond.code m_X12_burn.1 m_X12_burn.2.1 m_X12_burn.2.2.1 m_X12_burn.2.2.2 ∈ g_t := (tw7 165 rfl rfl)
set_option maxRecDepth 20000 in
theorem wc_X12_burns : Cond.code m_X12_burns.1 m_X12_burns.2.1 m_X12_burns.2.2.1 m_X12_burns.2.2.2 ∈ g_t := (tw5 234 rfl rfl)
set_option maxRecDepth 20000 in
theorem wc_X12_cell : Cond.code m_X12_cell.1 m_X12_cell.2.1 m_X12_cell.2.2.1 m_X12_cell.2.2.2 ∈ g_t := (tw6 176 rfl rfl)
set_option maxRecDepth 20000 in
theorem wc_X12_chosenAt : Cond.code m_X12_chosenAt.1 m_X12_chosenAt.2.1 m_X12_chosenAt.2.2.1 m_X12_chosenAt.2.2.2 ∈ g_t := (tw6 229 rfl rfl)
set_option maxRecDepth 20000 in
theorem wc_X12_command : Cond.code m_X12_command.1 m_X12_command.2.1 m_X12_command.2.2.1 m_X12_command.2.2.2 ∈ g_t := (tw7 23 rfl rfl)
set_option maxRecDepth 20000 in
theorem wc_X12_commands : Cond.code m_X12_commands.1 m_X12_commands.2.1 m_X12_commands.2.2.1 m_X12_commands.2.2.2 ∈ g_t := (tw7 8 rfl rfl)
set_option maxRecDepth 20000 in
theorem wc_X12_common : Cond.code m_X12_common.1 m_X12_common.2.1 m_X12_common.2.2.1 m_X12_common.2.2.2 ∈ g_t := (tw6 205 rfl rfl)
set_option maxRecDepth 20000 in
theorem wc_X12_common1 : Cond.code m_X12_common1.1 m_X12_common1.2.1 m_X12_common1.2.2.1 m_X12_common1.2.2.2 ∈ g_t := (tw8 153 rfl rfl)
set_option maxRecDepth 20000 in
theorem wc_X12_count : Cond.code m_X12_count.1 m_X12_count.2.1 m_X12_count.2.2.1 m_X12_count.2.2.2 ∈ g_t := (tw8 165 rfl rfl)
set_option maxRecDepth 20000 in
theorem wc_X12_cut : Cond.code m_X12_cut.1 m_X12_cut.2.1 m_X12_cut.2.2.1 m_X12_cut.2.2.2 ∈ g_t := (tw8 45 rfl rfl)
set_option maxRecDepth 20000 in
theorem wc_X12_cuts : Cond.code m_X12_cuts.1 m_X12_cuts.2.1 m_X12_cuts.2.2.1 m_X12_cuts.2.2.2 ∈ g_t := (tw8 122 rfl rfl)
set_option maxRecDepth 20000 in
theorem wc_X12_cuts1 : Cond.code m_X12_cuts1.1 m_X12_cuts1.2.1 m_X12_cuts1.2.2.1 m_X12_cuts1.2.2.2 ∈ g_t := (tw8 49 rfl rfl)
set_option maxRecDepth 20000 in
theorem wc_X12_digest : Cond.code m_X12_digest.1 m_X12_digest.2.1 m_X12_digest.2.2.1 m_X12_digest.2.2.2 ∈ g_t := (tw8 83 rfl rfl)
set_option maxRecDepth 20000 in
theorem wc_X12_digestOf : Cond.code m_X12_digestOf.1 m_X12_digestOf.2.1 m_X12_digestOf.2.2.1 m_X12_digestOf.2.2.2 ∈ g_t := (tw8 88 rfl rfl)
set_option maxRecDepth 20000 in
theorem wc_X12_does : Cond.code m_X12_does.1 m_X12_does.2.1 m_X12_does.2.2.1 m_X12_does.2.2.2 ∈ g_t := (tw7 44 rfl rfl)
set_option maxRecDepth 20000 in
theorem wc_X12_doesStep : Cond.code m_X12_doesStep.1 m_X12_doesStep.2.1 m_X12_doesStep.2.2.1 m_X12_doesStep.2.2.2 ∈ g_t := (tw8 8 rfl rfl)
set_option maxRecDepth 20000 in
theorem wc_X12_doesSteps : Cond.code m_X12_doesSteps.1 m_X12_doesSteps.2.1 m_X12_doesSteps.2.2.1 m_X12_doesSteps.2.2.2 ∈ g_t := (tw8 37 rfl rfl)
set_option maxRecDepth 20000 in
theorem wc_X12_due : Cond.code m_X12_due.1 m_X12_due.2.1 m_X12_due.2.2.1 m_X12_due.2.2.2 ∈ g_t := (tw8 98 rfl rfl)
set_option maxRecDepth 20000 in
theorem wc_X12_fails : Cond.code m_X12_fails.1 m_X12_fails.2.1 m_X12_fails.2.2.1 m_X12_fails.2.2.2 ∈ g_t := (tw7 185 rfl rfl)
set_option maxRecDepth 20000 in
theorem wc_X12_fault : Cond.code m_X12_fault.1 m_X12_fault.2.1 m_X12_fault.2.2.1 m_X12_fault.2.2.2 ∈ g_t := (tw7 232 rfl rfl)
set_option maxRecDepth 20000 in
theorem wc_X12_feed : Cond.code m_X12_feed.1 m_X12_feed.2.1 m_X12_feed.2.2.1 m_X12_feed.2.2.2 ∈ g_t := (tw6 156 rfl rfl)
set_option maxRecDepth 20000 in
theorem wc_X12_fewest : Cond.code m_X12_fewest.1 m_X12_fewest.2.1 m_X12_fewest.2.2.1 m_X12_fewest.2.2.2 ∈ g_t := (tw7 104 rfl rfl)
set_option maxRecDepth 20000 in
theorem wc_X12_fits : Cond.code m_X12_fits.1 m_X12_fits.2.1 m_X12_fits.2.2.1 m_X12_fits.2.2.2 ∈ g_t := (tw8 102 rfl rfl)
set_option maxRecDepth 20000 in
theorem wc_X12_floatBits : Cond.code m_X12_floatBits.1 m_X12_floatBits.2.1 m_X12_floatBits.2.2.1 m_X12_floatBits.2.2.2 ∈ g_t := (tw7 159 rfl rfl)
set_option maxRecDepth 20000 in
theorem wc_X12_forget : Cond.code m_X12_forget.1 m_X12_forget.2.1 m_X12_forget.2.2.1 m_X12_forget.2.2.2 ∈ g_t := (tw8 53 rfl rfl)
set_option maxRecDepth 20000 in
theorem wc_X12_fresh : Cond.code m_X12_fresh.1 m_X12_fresh.2.1 m_X12_fresh.2.2.1 m_X12_fresh.2.2.2 ∈ g_t := (tw6 172 rfl rfl)
set_option maxRecDepth 20000 in
theorem wc_X12_go : Cond.code m_X12_go.1 m_X12_go.2.1 m_X12_go.2.2.1 m_X12_go.2.2.2 ∈ g_t := (tw8 28 rfl rfl)
set_option maxRecDepth 20000 in
theorem wc_X12_hazard : Cond.code m_X12_hazard.1 m_X12_hazard.2.1 m_X12_hazard.2.2.1 m_X12_hazard.2.2.2 ∈ g_t := (tw8 110 rfl rfl)
set_option maxRecDepth 20000 in
theorem wc_X12_healed : Cond.code m_X12_healed.1 m_X12_healed.2.1 m_X12_healed.2.2.1 m_X12_healed.2.2.2 ∈ g_t := (tw8 126 rfl rfl)
set_option maxRecDepth 20000 in
theorem wc_X12_image : Cond.code m_X12_image.1 m_X12_image.2.1 m_X12_image.2.2.1 m_X12_image.2.2.2 ∈ g_t := (tw8 157 rfl rfl)
set_option maxRecDepth 20000 in
theorem wc_X12_init : Cond.code m_X12_init.1 m_X12_init.2.1 m_X12_init.2.2.1 m_X12_init.2.2.2 ∈ g_t := (tw5 229 rfl rfl)
set_option maxRecDepth 20000 in
theorem wc_X12_isAheadSuffix : Cond.code m_X12_isAheadSuffix.1 m_X12_isAheadSuffix.2.1 m_X12_isAheadSuffix.2.2.1 m_X12_isAheadSuffix.2.2.2 ∈ g_t := (tw6 201 rfl rfl)
set_option maxRecDepth 20000 in
theorem wc_X12_isAmongCopies : Cond.code m_X12_isAmongCopies.1 m_X12_isAmongCopies.2.1 m_X12_isAmongCopies.2.2.1 m_X12_isAmongCopies.2.2.2 ∈ g_t := (tw7 96 rfl rfl)
set_option maxRecDepth 20000 in
theorem wc_X12_isCommand : Cond.code m_X12_isCommand.1 m_X12_isCommand.2.1 m_X12_isCommand.2.2.1 m_X12_isCommand.2.2.2 ∈ g_t := (tw7 27 rfl rfl)
set_option maxRecDepth 20000 in
theorem wc_X12_isFit : Cond.code m_X12_isFit.1 m_X12_isFit.2.1 m_X12_isFit.2.2.1 m_X12_isFit.2.2.2 ∈ g_t := (tw8 69 rfl rfl)
set_option maxRecDepth 20000 in
theorem wc_X12_isHealed : Cond.code m_X12_isHealed.1 m_X12_isHealed.2.1 m_X12_isHealed.2.2.1 m_X12_isHealed.2.2.2 ∈ g_t := (tw8 130 rfl rfl)
set_option maxRecDepth 20000 in
theorem wc_X12_isHealedTwice : Cond.code m_X12_isHealedTwice.1 m_X12_isHealedTwice.2.1 m_X12_isHealedTwice.2.2.1 m_X12_isHealedTwice.2.2.2 ∈ g_t := (tw8 146 rfl rfl)
set_option maxRecDepth 20000 in
theorem wc_X12_isOpen : Cond.code m_X12_isOpen.1 m_X12_isOpen.2.1 m_X12_isOpen.2.2.1 m_X12_isOpen.2.2.2 ∈ g_t := (tw7 40 rfl rfl)
set_option maxRecDepth 20000 in
theorem wc_X12_isRight : Cond.code m_X12_isRight.1 m_X12_isRight.2.1 m_X12_isRight.2.2.1 m_X12_isRight.2.2.2 ∈ g_t := (tw8 138 rfl rfl)
set_option maxRecDepth 20000 in
theorem wc_X12_isRinged : Cond.code m_X12_isRinged.1 m_X12_isRinged.2.1 m_X12_isRinged.2.2.1 m_X12_isRinged.2.2.2 ∈ g_t := (tw7 60 rfl rfl)
set_option maxRecDepth 20000 in
theorem wc_X12_isSooner : Cond.code m_X12_isSooner.1 m_X12_isSooner.2.1 m_X12_isSooner.2.2.1 m_X12_isSooner.2.2.2 ∈ g_t := (tw7 72 rfl rfl)
set_option maxRecDepth 20000 in
theorem wc_X12_isTerm : Cond.code m_X12_isTerm.1 m_X12_isTerm.2.1 m_X12_isTerm.2.2.1 m_X12_isTerm.2.2.2 ∈ g_t := (tw6 186 rfl rfl)
set_option maxRecDepth 20000 in
theorem wc_X12_isWithoutRing : Cond.code m_X12_isWithoutRing.1 m_X12_isWithoutRing.2.1 m_X12_isWithoutRing.2.2.1 m_X12_isWithoutRing.2.2.2 ∈ g_t := (tw7 112 rfl rfl)
set_option maxRecDepth 20000 in
theorem wc_X12_isWritten : Cond.code m_X12_isWritten.1 m_X12_isWritten.2.1 m_X12_isWritten.2.2.1 m_X12_isWritten.2.2.2 ∈ g_t := (tw8 114 rfl rfl)
set_option maxRecDepth 20000 in
theorem wc_X12_keepsWork : Cond.code m_X12_keepsWork.1 m_X12_keepsWork.2.1 m_X12_keepsWork.2.2.1 m_X12_keepsWork.2.2.2 ∈ g_t := (tw8 41 rfl rfl)
set_option maxRecDepth 20000 in
theorem wc_X12_laysAct : Cond.code m_X12_laysAct.1 m_X12_laysAct.2.1 m_X12_laysAct.2.2.1 m_X12_laysAct.2.2.2 ∈ g_t := (tw7 48 rfl rfl)
set_option maxRecDepth 20000 in
theorem wc_X12_laysAll : Cond.code m_X12_laysAll.1 m_X12_laysAll.2.1 m_X12_laysAll.2.2.1 m_X12_laysAll.2.2.2 ∈ g_t := (tw7 120 rfl rfl)
set_option maxRecDepth 20000 in
theorem wc_X12_laysByte : Cond.code m_X12_laysByte.1 m_X12_laysByte.2.1 m_X12_laysByte.2.2.1 m_X12_laysByte.2.2.2 ∈ g_t := (tw7 84 rfl rfl)
set_option maxRecDepth 20000 in
theorem wc_X12_laysBytes : Cond.code m_X12_laysBytes.1 m_X12_laysBytes.2.1 m_X12_laysBytes.2.2.1 m_X12_laysBytes.2.2.2 ∈ g_t := (tw7 80 rfl rfl)
set_option maxRecDepth 20000 in
theorem wc_X12_laysCommand : Cond.code m_X12_laysCommand.1 m_X12_laysCommand.2.1 m_X12_laysCommand.2.2.1 m_X12_laysCommand.2.2.2 ∈ g_t := (tw7 16 rfl rfl)
set_option maxRecDepth 20000 in
theorem wc_X12_laysCommands : Cond.code m_X12_laysCommands.1 m_X12_laysCommands.2.1 m_X12_laysCommands.2.2.1 m_X12_laysCommands.2.2.2 ∈ g_t := (tw7 12 rfl rfl)
set_option maxRecDepth 20000 in
theorem wc_X12_laysDue : Cond.code m_X12_laysDue.1 m_X12_laysDue.2.1 m_X12_laysDue.2.2.1 m_X12_laysDue.2.2.2 ∈ g_t := (tw8 4 rfl rfl)
set_option maxRecDepth 20000 in
theorem wc_X12_laysFarTo : Cond.code m_X12_laysFarTo.1 m_X12_laysFarTo.2.1 m_X12_laysFarTo.2.2.1 m_X12_laysFarTo.2.2.2 ∈ g_t := (tw7 64 rfl rfl)
set_option maxRecDepth 20000 in
theorem wc_X12_laysNewCells : Cond.code m_X12_laysNewCells.1 m_X12_laysNewCells.2.1 m_X12_laysNewCells.2.2.1 m_X12_laysNewCells.2.2.2 ∈ g_t := (tw8 16 rfl rfl)
set_option maxRecDepth 20000 in
theorem wc_X12_laysPlan : Cond.code m_X12_laysPlan.1 m_X12_laysPlan.2.1 m_X12_laysPlan.2.2.1 m_X12_laysPlan.2.2.2 ∈ g_t := (tw7 32 rfl rfl)
set_option maxRecDepth 20000 in
theorem wc_X12_laysRinged : Cond.code m_X12_laysRinged.1 m_X12_laysRinged.2.1 m_X12_laysRinged.2.2.1 m_X12_laysRinged.2.2.2 ∈ g_t := (tw7 108 rfl rfl)
set_option maxRecDepth 20000 in
theorem wc_X12_laysStep : Cond.code m_X12_laysStep.1 m_X12_laysStep.2.1 m_X12_laysStep.2.2.1 m_X12_laysStep.2.2.2 ∈ g_t := (tw7 216 rfl rfl)
set_option maxRecDepth 20000 in
theorem wc_X12_laysSteps : Cond.code m_X12_laysSteps.1 m_X12_laysSteps.2.1 m_X12_laysSteps.2.2.1 m_X12_laysSteps.2.2.2 ∈ g_t := (tw7 208 rfl rfl)
set_option maxRecDepth 20000 in
theorem wc_X12_laysSuffixes : Cond.code m_X12_laysSuffixes.1 m_X12_laysSuffixes.2.1 m_X12_laysSuffixes.2.2.1 m_X12_laysSuffixes.2.2.2 ∈ g_t := (tw6 197 rfl rfl)
set_option maxRecDepth 20000 in
theorem wc_X12_least : Cond.code m_X12_least.1 m_X12_least.2.1 m_X12_least.2.2.1 m_X12_least.2.2.2 ∈ g_t := (tw7 0 rfl rfl)
set_option maxRecDepth 20000 in
theorem wc_X12_leastFit : Cond.code m_X12_leastFit.1 m_X12_leastFit.2.1 m_X12_leastFit.2.2.1 m_X12_leastFit.2.2.2 ∈ g_t := (tw8 65 rfl rfl)
set_option maxRecDepth 20000 in
theorem wc_X12_lesser : Cond.code m_X12_lesser.1 m_X12_lesser.2.1 m_X12_lesser.2.2.1 m_X12_lesser.2.2.2 ∈ g_t := (tw7 4 rfl rfl)
set_option maxRecDepth 20000 in
theorem wc_X12_load : Cond.code m_X12_load.1 m_X12_load.2.1 m_X12_load.2.2.1 m_X12_load.2.2.2 ∈ g_t := (tw7 228 rfl rfl)
set_option maxRecDepth 20000 in
theorem wc_X12_longestAt : Cond.code m_X12_longestAt.1 m_X12_longestAt.2.1 m_X12_longestAt.2.2.1 m_X12_longestAt.2.2.2 ∈ g_t := (tw6 221 rfl rfl)
set_option maxRecDepth 20000 in
theorem wc_X12_lowestFree : Cond.code m_X12_lowestFree.1 m_X12_lowestFree.2.1 m_X12_lowestFree.2.2.1 m_X12_lowestFree.2.2.2 ∈ g_t := (tw7 36 rfl rfl)
set_option maxRecDepth 20000 in
theorem wc_X12_marksStash : Cond.code m_X12_marksStash.1 m_X12_marksStash.2.1 m_X12_marksStash.2.2.1 m_X12_marksStash.2.2.2 ∈ g_t := (tw7 52 rfl rfl)
set_option maxRecDepth 20000 in
theorem wc_X12_meet : Cond.code m_X12_meet.1 m_X12_meet.2.1 m_X12_meet.2.2.1 m_X12_meet.2.2.2 ∈ g_t := (tw7 19 rfl rfl)
set_option maxRecDepth 20000 in
theorem wc_X12_needs : Cond.code m_X12_needs.1 m_X12_needs.2.1 m_X12_needs.2.2.1 m_X12_needs.2.2.2 ∈ g_t := (tw7 136 rfl rfl)
set_option maxRecDepth 20000 in
theorem wc_X12_notes : Cond.code m_X12_notes.1 m_X12_notes.2.1 m_X12_notes.2.2.1 m_X12_notes.2.2.2 ∈ g_t := (tw7 169 rfl rfl)
set_option maxRecDepth 20000 in
theorem wc_X12_odds : Cond.code m_X12_odds.1 m_X12_odds.2.1 m_X12_odds.2.2.1 m_X12_odds.2.2.2 ∈ g_t := (tw8 150 rfl rfl)
set_option maxRecDepth 20000 in
theorem wc_X12_old : Cond.code m_X12_old.1 m_X12_old.2.1 m_X12_old.2.2.1 m_X12_old.2.2.2 ∈ g_t := (tw6 160 rfl rfl)
set_option maxRecDepth 20000 in
theorem wc_X12_patch : Cond.code m_X12_patch.1 m_X12_patch.2.1 m_X12_patch.2.2.1 m_X12_patch.2.2.2 ∈ g_t := (tw7 132 rfl rfl)
set_option maxRecDepth 20000 in
theorem wc_X12_plan : Cond.code m_X12_plan.1 m_X12_plan.2.1 m_X12_plan.2.2.1 m_X12_plan.2.2.2 ∈ g_t := (tw7 128 rfl rfl)
set_option maxRecDepth 20000 in
theorem wc_X12_readAct : Cond.code m_X12_readAct.1 m_X12_readAct.2.1 m_X12_readAct.2.2.1 m_X12_readAct.2.2.2 ∈ g_t := (tw7 189 rfl rfl)
set_option maxRecDepth 20000 in
theorem wc_X12_readByte : Cond.code m_X12_readByte.1 m_X12_readByte.2.1 m_X12_readByte.2.2.1 m_X12_readByte.2.2.2 ∈ g_t := (tw7 181 rfl rfl)
set_option maxRecDepth 20000 in
theorem wc_X12_readLength : Cond.code m_X12_readLength.1 m_X12_readLength.2.1 m_X12_readLength.2.2.1 m_X12_readLength.2.2.2 ∈ g_t := (tw7 196 rfl rfl)
set_option maxRecDepth 20000 in
theorem wc_X12_readPlace : Cond.code m_X12_readPlace.1 m_X12_readPlace.2.1 m_X12_readPlace.2.2.1 m_X12_readPlace.2.2.2 ∈ g_t := (tw7 200 rfl rfl)
set_option maxRecDepth 20000 in
theorem wc_X12_readsNow : Cond.code m_X12_readsNow.1 m_X12_readsNow.2.1 m_X12_readsNow.2.2.1 m_X12_readsNow.2.2.2 ∈ g_t := (tw8 20 rfl rfl)
set_option maxRecDepth 20000 in
theorem wc_X12_readsPatch : Cond.code m_X12_readsPatch.1 m_X12_readsPatch.2.1 m_X12_readsPatch.2.2.1 m_X12_readsPatch.2.2.2 ∈ g_t := (tw7 177 rfl rfl)
set_option maxRecDepth 20000 in
theorem wc_X12_readsStash : Cond.code m_X12_readsStash.1 m_X12_readsStash.2.1 m_X12_readsStash.2.2.1 m_X12_readsStash.2.2.2 ∈ g_t := (tw8 24 rfl rfl)
set_option maxRecDepth 20000 in
theorem wc_X12_restore : Cond.code m_X12_restore.1 m_X12_restore.2.1 m_X12_restore.2.2.1 m_X12_restore.2.2.2 ∈ g_t := (tw8 161 rfl rfl)
set_option maxRecDepth 20000 in
theorem wc_X12_right : Cond.code m_X12_right.1 m_X12_right.2.1 m_X12_right.2.2.1 m_X12_right.2.2.2 ∈ g_t := (tw8 106 rfl rfl)
set_option maxRecDepth 20000 in
theorem wc_X12_ring : Cond.code m_X12_ring.1 m_X12_ring.2.1 m_X12_ring.2.2.1 m_X12_ring.2.2.2 ∈ g_t := (tw7 100 rfl rfl)
set_option maxRecDepth 20000 in
theorem wc_X12_ringed : Cond.code m_X12_ringed.1 m_X12_ringed.2.1 m_X12_ringed.2.2.1 m_X12_ringed.2.2.2 ∈ g_t := (tw7 92 rfl rfl)
set_option maxRecDepth 20000 in
theorem wc_X12_roomAt : Cond.code m_X12_roomAt.1 m_X12_roomAt.2.1 m_X12_roomAt.2.2.1 m_X12_roomAt.2.2.2 ∈ g_t := (tw7 192 rfl rfl)
set_option maxRecDepth 20000 in
theorem wc_X12_roomFor : Cond.code m_X12_roomFor.1 m_X12_roomFor.2.1 m_X12_roomFor.2.2.1 m_X12_roomFor.2.2.2 ∈ g_t := (tw7 68 rfl rfl)
set_option maxRecDepth 20000 in
theorem wc_X12_run : Cond.code m_X12_run.1 m_X12_run.2.1 m_X12_run.2.2.1 m_X12_run.2.2.2 ∈ g_t := (tw6 217 rfl rfl)
set_option maxRecDepth 20000 in
theorem wc_X12_runAt : Cond.code m_X12_runAt.1 m_X12_runAt.2.1 m_X12_runAt.2.2.1 m_X12_runAt.2.2.2 ∈ g_t := (tw6 225 rfl rfl)
set_option maxRecDepth 20000 in
theorem wc_X12_savesCells : Cond.code m_X12_savesCells.1 m_X12_savesCells.2.1 m_X12_savesCells.2.2.1 m_X12_savesCells.2.2.2 ∈ g_t := (tw8 12 rfl rfl)
set_option maxRecDepth 20000 in
theorem wc_X12_share : Cond.code m_X12_share.1 m_X12_share.2.1 m_X12_share.2.2.1 m_X12_share.2.2.2 ∈ g_t := (tw7 156 rfl rfl)
set_option maxRecDepth 20000 in
theorem wc_X12_shared : Cond.code m_X12_shared.1 m_X12_shared.2.1 m_X12_shared.2.2.1 m_X12_shared.2.2.2 ∈ g_t := (tw6 209 rfl rfl)
set_option maxRecDepth 20000 in
theorem wc_X12_sized : Cond.code m_X12_sized.1 m_X12_sized.2.1 m_X12_sized.2.2.1 m_X12_sized.2.2.2 ∈ g_t := (tw7 140 rfl rfl)
set_option maxRecDepth 20000 in
theorem wc_X12_spoil : Cond.code m_X12_spoil.1 m_X12_spoil.2.1 m_X12_spoil.2.2.1 m_X12_spoil.2.2.2 ∈ g_t := (tw8 73 rfl rfl)
set_option maxRecDepth 20000 in
theorem wc_X12_step : Cond.code m_X12_step.1 m_X12_step.2.1 m_X12_step.2.2.1 m_X12_step.2.2.2 ∈ g_t := (tw8 0 rfl rfl)
set_option maxRecDepth 20000 in
theorem wc_X12_steps : Cond.code m_X12_steps.1 m_X12_steps.2.1 m_X12_steps.2.2.1 m_X12_steps.2.2.2 ∈ g_t := (tw7 236 rfl rfl)
set_option maxRecDepth 20000 in
theorem wc_X12_suffix : Cond.code m_X12_suffix.1 m_X12_suffix.2.1 m_X12_suffix.2.2.1 m_X12_suffix.2.2.2 ∈ g_t := (tw6 193 rfl rfl)
set_option maxRecDepth 20000 in
theorem wc_X12_take : Cond.code m_X12_take.1 m_X12_take.2.1 m_X12_take.2.2.1 m_X12_take.2.2.2 ∈ g_t := (tw7 173 rfl rfl)
set_option maxRecDepth 20000 in
theorem wc_X12_takesCells : Cond.code m_X12_takesCells.1 m_X12_takesCells.2.1 m_X12_takesCells.2.2.1 m_X12_takesCells.2.2.2 ∈ g_t := (tw6 164 rfl rfl)
set_option maxRecDepth 20000 in
theorem wc_X12_takesPatch : Cond.code m_X12_takesPatch.1 m_X12_takesPatch.2.1 m_X12_takesPatch.2.2.1 m_X12_takesPatch.2.2.2 ∈ g_t := (tw7 204 rfl rfl)
set_option maxRecDepth 20000 in
theorem wc_X12_terms : Cond.code m_X12_terms.1 m_X12_terms.2.1 m_X12_terms.2.2.1 m_X12_terms.2.2.2 ∈ g_t := (tw6 182 rfl rfl)
set_option maxRecDepth 20000 in
theorem wc_X12_turned : Cond.code m_X12_turned.1 m_X12_turned.2.1 m_X12_turned.2.2.1 m_X12_turned.2.2.2 ∈ g_t := (tw7 144 rfl rfl)
set_option maxRecDepth 20000 in
theorem wc_X12_turns : Cond.code m_X12_turns.1 m_X12_turns.2.1 m_X12_turns.2.2.1 m_X12_turns.2.2.2 ∈ g_t := (tw7 148 rfl rfl)
set_option maxRecDepth 20000 in
theorem wc_X12_twice : Cond.code m_X12_twice.1 m_X12_twice.2.1 m_X12_twice.2.2.1 m_X12_twice.2.2.2 ∈ g_t := (tw8 142 rfl rfl)
set_option maxRecDepth 20000 in
theorem wc_X12_undo : Cond.code m_X12_undo.1 m_X12_undo.2.1 m_X12_undo.2.2.1 m_X12_undo.2.2.2 ∈ g_t := (tw8 78 rfl rfl)
set_option maxRecDepth 20000 in
theorem wc_X12_unlike : Cond.code m_X12_unlike.1 m_X12_unlike.2.1 m_X12_unlike.2.2.1 m_X12_unlike.2.2.2 ∈ g_t := (tw6 213 rfl rfl)
set_option maxRecDepth 20000 in
theorem wc_X12_waitingFor : Cond.code m_X12_waitingFor.1 m_X12_waitingFor.2.1 m_X12_waitingFor.2.2.1 m_X12_waitingFor.2.2.2 ∈ g_t := (tw7 76 rfl rfl)
set_option maxRecDepth 20000 in
theorem wc_X12_wear : Cond.code m_X12_wear.1 m_X12_wear.2.1 m_X12_wear.2.2.1 m_X12_wear.2.2.2 ∈ g_t := (tw8 118 rfl rfl)
set_option maxRecDepth 20000 in
theorem wc_X12_widest : Cond.code m_X12_widest.1 m_X12_widest.2.1 m_X12_widest.2.2.1 m_X12_widest.2.2.2 ∈ g_t := (tw6 236 rfl rfl)
set_option maxRecDepth 20000 in
theorem wc_X12_within : Cond.code m_X12_within.1 m_X12_within.2.1 m_X12_within.2.2.1 m_X12_within.2.2.2 ∈ g_t := (tw6 168 rfl rfl)
set_option maxRecDepth 20000 in
theorem wc_X12_worksFrom : Cond.code m_X12_worksFrom.1 m_X12_worksFrom.2.1 m_X12_worksFrom.2.2.1 m_X12_worksFrom.2.2.2 ∈ g_t := (tw8 134 rfl rfl)
set_option maxRecDepth 20000 in
theorem wc_X12_worksNow : Cond.code m_X12_worksNow.1 m_X12_worksNow.2.1 m_X12_worksNow.2.2.1 m_X12_worksNow.2.2.2 ∈ g_t := (tw8 33 rfl rfl)
set_option maxRecDepth 20000 in
theorem wc_X12_writes : Cond.code m_X12_writes.1 m_X12_writes.2.1 m_X12_writes.2.2.1 m_X12_writes.2.2.2 ∈ g_t := (tw7 224 rfl rfl)
set_option maxRecDepth 20000 in
theorem wc_X12_writesBlock : Cond.code m_X12_writesBlock.1 m_X12_writesBlock.2.1 m_X12_writesBlock.2.2.1 m_X12_writesBlock.2.2.2 ∈ g_t := (tw7 220 rfl rfl)
set_option maxRecDepth 20000 in
theorem wc_X12_writesJournal : Cond.code m_X12_writesJournal.1 m_X12_writesJournal.2.1 m_X12_writesJournal.2.2.1 m_X12_writesJournal.2.2.2 ∈ g_t := (tw8 61 rfl rfl)
set_option maxRecDepth 20000 in
theorem wc_X1_actAt : Cond.code m_X1_actAt.1 m_X1_actAt.2.1 m_X1_actAt.2.2.1 m_X1_actAt.2.2.2 ∈ g_t := (tw4 236 rfl rfl)
set_option maxRecDepth 20000 in
theorem wc_X1_append : Cond.code m_X1_append.1 m_X1_append.2.1 m_X1_append.2.2.1 m_X1_append.2.2.2 ∈ g_t := (tw4 204 rfl rfl)
set_option maxRecDepth 20000 in
theorem wc_X1_areBlocksDue : Cond.code m_X1_areBlocksDue.1 m_X1_areBlocksDue.2.1 m_X1_areBlocksDue.2.2.1 m_X1_areBlocksDue.2.2.2 ∈ g_t := (tw5 91 rfl rfl)
set_option maxRecDepth 20000 in
theorem wc_X1_bitsReadAt : Cond.code m_X1_bitsReadAt.1 m_X1_bitsReadAt.2.1 m_X1_bitsReadAt.2.2.1 m_X1_bitsReadAt.2.2.2 ∈ g_t := (tw4 217 rfl rfl)
set_option maxRecDepth 20000 in
theorem wc_X1_bootUp : Cond.code m_X1_bootUp.1 m_X1_bootUp.2.1 m_X1_bootUp.2.2.1 m_X1_bootUp.2.2.2 ∈ g_t := (tw5 101 rfl rfl)
set_option maxRecDepth 20000 in
theorem wc_X1_build : Cond.code m_X1_build.1 m_X1_build.2.1 m_X1_build.2.2.1 m_X1_build.2.2.2 ∈ g_t := (tw4 172 rfl rfl)
set_option maxRecDepth 20000 in
theorem wc_X1_canBoot : Cond.code m_X1_canBoot.1 m_X1_canBoot.2.1 m_X1_canBoot.2.2.1 m_X1_canBoot.2.2.2 ∈ g_t := (tw5 75 rfl rfl)
set_option maxRecDepth 20000 in
theorem wc_X1_countFits : Cond.code m_X1_countFits.1 m_X1_countFits.2.1 m_X1_countFits.2.2.1 m_X1_countFits.2.2.2 ∈ g_t := (tw5 143 rfl rfl)
set_option maxRecDepth 20000 in
theorem wc_X1_cutPower : Cond.code m_X1_cutPower.1 m_X1_cutPower.2.1 m_X1_cutPower.2.2.1 m_X1_cutPower.2.2.2 ∈ g_t := (tw5 59 rfl rfl)
set_option maxRecDepth 20000 in
theorem wc_X1_doStep : Cond.code m_X1_doStep.1 m_X1_doStep.2.1 m_X1_doStep.2.2.1 m_X1_doStep.2.2.2 ∈ g_t := (tw5 0 rfl rfl)
set_option maxRecDepth 20000 in
theorem wc_X1_dueBlock : Cond.code m_X1_dueBlock.1 m_X1_dueBlock.2.1 m_X1_dueBlock.2.2.1 m_X1_dueBlock.2.2.2 ∈ g_t := (tw5 45 rfl rfl)
set_option maxRecDepth 20000 in
theorem wc_X1_firstFit : Cond.code m_X1_firstFit.1 m_X1_firstFit.2.1 m_X1_firstFit.2.2.1 m_X1_firstFit.2.2.2 ∈ g_t := (tw5 83 rfl rfl)
set_option maxRecDepth 20000 in
theorem wc_X1_hasLeft : Cond.code m_X1_hasLeft.1 m_X1_hasLeft.2.1 m_X1_hasLeft.2.2.1 m_X1_hasLeft.2.2.2 ∈ g_t := (tw5 4 rfl rfl)
set_option maxRecDepth 20000 in
theorem wc_X1_init : Cond.code m_X1_init.1 m_X1_init.2.1 m_X1_init.2.2.1 m_X1_init.2.2.2 ∈ g_t := (tw2 156 rfl rfl)
set_option maxRecDepth 20000 in
theorem wc_X1_isFit : Cond.code m_X1_isFit.1 m_X1_isFit.2.1 m_X1_isFit.2.2.1 m_X1_isFit.2.2.2 ∈ g_t := (tw5 87 rfl rfl)
set_option maxRecDepth 20000 in
theorem wc_X1_isStashDue : Cond.code m_X1_isStashDue.1 m_X1_isStashDue.2.1 m_X1_isStashDue.2.2.1 m_X1_isStashDue.2.2.2 ∈ g_t := (tw5 96 rfl rfl)
set_option maxRecDepth 20000 in
theorem wc_X1_lastFit : Cond.code m_X1_lastFit.1 m_X1_lastFit.2.1 m_X1_lastFit.2.2.1 m_X1_lastFit.2.2.2 ∈ g_t := (tw5 139 rfl rfl)
set_option maxRecDepth 20000 in
theorem wc_X1_listBlocks : Cond.code m_X1_listBlocks.1 m_X1_listBlocks.2.1 m_X1_listBlocks.2.2.1 m_X1_listBlocks.2.2.2 ∈ g_t := (tw4 208 rfl rfl)
set_option maxRecDepth 20000 in
theorem wc_X1_listSteps : Cond.code m_X1_listSteps.1 m_X1_listSteps.2.1 m_X1_listSteps.2.2.1 m_X1_listSteps.2.2.2 ∈ g_t := (tw4 200 rfl rfl)
set_option maxRecDepth 20000 in
theorem wc_X1_look : Cond.code m_X1_look.1 m_X1_look.2.1 m_X1_look.2.2.1 m_X1_look.2.2.2 ∈ g_t := (tw5 79 rfl rfl)
set_option maxRecDepth 20000 in
theorem wc_X1_markNeeded : Cond.code m_X1_markNeeded.1 m_X1_markNeeded.2.1 m_X1_markNeeded.2.2.1 m_X1_markNeeded.2.2.2 ∈ g_t := (tw4 212 rfl rfl)
set_option maxRecDepth 20000 in
theorem wc_X1_noteDue : Cond.code m_X1_noteDue.1 m_X1_noteDue.2.1 m_X1_noteDue.2.2.1 m_X1_noteDue.2.2.2 ∈ g_t := (tw4 229 rfl rfl)
set_option maxRecDepth 20000 in
theorem wc_X1_readCell : Cond.code m_X1_readCell.1 m_X1_readCell.2.1 m_X1_readCell.2.2.1 m_X1_readCell.2.2.2 ∈ g_t := (tw5 16 rfl rfl)
set_option maxRecDepth 20000 in
theorem wc_X1_readComing : Cond.code m_X1_readComing.1 m_X1_readComing.2.1 m_X1_readComing.2.2.1 m_X1_readComing.2.2.2 ∈ g_t := (tw5 12 rfl rfl)
set_option maxRecDepth 20000 in
theorem wc_X1_saveCells : Cond.code m_X1_saveCells.1 m_X1_saveCells.2.1 m_X1_saveCells.2.2.1 m_X1_saveCells.2.2.2 ∈ g_t := (tw5 8 rfl rfl)
set_option maxRecDepth 20000 in
theorem wc_X1_standAsDue : Cond.code m_X1_standAsDue.1 m_X1_standAsDue.2.1 m_X1_standAsDue.2.2.1 m_X1_standAsDue.2.2.2 ∈ g_t := (tw5 171 rfl rfl)
set_option maxRecDepth 20000 in
theorem wc_X1_walkDue : Cond.code m_X1_walkDue.1 m_X1_walkDue.2.1 m_X1_walkDue.2.2.1 m_X1_walkDue.2.2.2 ∈ g_t := (tw4 223 rfl rfl)
set_option maxRecDepth 20000 in
theorem wc_X2_burnCells : Cond.code m_X2_burnCells.1 m_X2_burnCells.2.1 m_X2_burnCells.2.2.1 m_X2_burnCells.2.2.2 ∈ g_t := (tw4 144 rfl rfl)
set_option maxRecDepth 20000 in
theorem wc_X2_copyFrom : Cond.code m_X2_copyFrom.1 m_X2_copyFrom.2.1 m_X2_copyFrom.2.2.1 m_X2_copyFrom.2.2.2 ∈ g_t := (tw4 138 rfl rfl)
set_option maxRecDepth 20000 in
theorem wc_X2_init : Cond.code m_X2_init.1 m_X2_init.2.1 m_X2_init.2.2.1 m_X2_init.2.2.2 ∈ g_t := (tw1 70 rfl rfl)
set_option maxRecDepth 20000 in
theorem wc_X2_standAt : Cond.code m_X2_standAt.1 m_X2_standAt.2.1 m_X2_standAt.2.2.1 m_X2_standAt.2.2.2 ∈ g_t := (tw4 152 rfl rfl)
set_option maxRecDepth 20000 in
theorem wc_X2_start : Cond.code m_X2_start.1 m_X2_start.2.1 m_X2_start.2.2.1 m_X2_start.2.2.2 ∈ g_t := (tw4 164 rfl rfl)
set_option maxRecDepth 20000 in
theorem wc_X2_startHere : Cond.code m_X2_startHere.1 m_X2_startHere.2.1 m_X2_startHere.2.2.1 m_X2_startHere.2.2.2 ∈ g_t := (tw4 148 rfl rfl)
set_option maxRecDepth 20000 in
theorem wc_X2_writeBlock : Cond.code m_X2_writeBlock.1 m_X2_writeBlock.2.1 m_X2_writeBlock.2.2.1 m_X2_writeBlock.2.2.2 ∈ g_t := (tw5 20 rfl rfl)
set_option maxRecDepth 20000 in
theorem wc_X2_writeJournal : Cond.code m_X2_writeJournal.1 m_X2_writeJournal.2.1 m_X2_writeJournal.2.2.1 m_X2_writeJournal.2.2.2 ∈ g_t := (tw5 63 rfl rfl)
set_option maxRecDepth 20000 in
theorem wc_X3_clear : Cond.code m_X3_clear.1 m_X3_clear.2.1 m_X3_clear.2.2.1 m_X3_clear.2.2.2 ∈ g_t := (tw5 220 rfl rfl)
set_option maxRecDepth 20000 in
theorem wc_X3_goBack : Cond.code m_X3_goBack.1 m_X3_goBack.2.1 m_X3_goBack.2.2.1 m_X3_goBack.2.2.2 ∈ g_t := (tw5 113 rfl rfl)
set_option maxRecDepth 20000 in
theorem wc_X3_init : Cond.code m_X3_init.1 m_X3_init.2.1 m_X3_init.2.2.1 m_X3_init.2.2.2 ∈ g_t := (tw1 199 rfl rfl)
set_option maxRecDepth 20000 in
theorem wc_X3_keep : Cond.code m_X3_keep.1 m_X3_keep.2.1 m_X3_keep.2.2.1 m_X3_keep.2.2.2 ∈ g_t := (tw4 134 rfl rfl)
set_option maxRecDepth 20000 in
theorem wc_X4_append : Cond.code m_X4_append.1 m_X4_append.2.1 m_X4_append.2.2.1 m_X4_append.2.2.2 ∈ g_t := (tw3 215 rfl rfl)
set_option maxRecDepth 20000 in
theorem wc_X4_blockedBits : Cond.code m_X4_blockedBits.1 m_X4_blockedBits.2.1 m_X4_blockedBits.2.2.1 m_X4_blockedBits.2.2.2 ∈ g_t := (tw3 182 rfl rfl)
set_option maxRecDepth 20000 in
theorem wc_X4_breakRing : Cond.code m_X4_breakRing.1 m_X4_breakRing.2.1 m_X4_breakRing.2.2.1 m_X4_breakRing.2.2.2 ∈ g_t := (tw3 219 rfl rfl)
set_option maxRecDepth 20000 in
theorem wc_X4_build : Cond.code m_X4_build.1 m_X4_build.2.1 m_X4_build.2.2.1 m_X4_build.2.2.2 ∈ g_t := (tw3 174 rfl rfl)
set_option maxRecDepth 20000 in
theorem wc_X4_fateOf : Cond.code m_X4_fateOf.1 m_X4_fateOf.2.1 m_X4_fateOf.2.2.1 m_X4_fateOf.2.2.2 ∈ g_t := (tw3 208 rfl rfl)
set_option maxRecDepth 20000 in
theorem wc_X4_finish : Cond.code m_X4_finish.1 m_X4_finish.2.1 m_X4_finish.2.2.1 m_X4_finish.2.2.2 ∈ g_t := (tw3 204 rfl rfl)
set_option maxRecDepth 20000 in
theorem wc_X4_freePlace : Cond.code m_X4_freePlace.1 m_X4_freePlace.2.1 m_X4_freePlace.2.2.1 m_X4_freePlace.2.2.2 ∈ g_t := (tw3 228 rfl rfl)
set_option maxRecDepth 20000 in
theorem wc_X4_init : Cond.code m_X4_init.1 m_X4_init.2.1 m_X4_init.2.2.1 m_X4_init.2.2.2 ∈ g_t := (tw2 102 rfl rfl)
set_option maxRecDepth 20000 in
theorem wc_X4_isPreferred : Cond.code m_X4_isPreferred.1 m_X4_isPreferred.2.1 m_X4_isPreferred.2.2.1 m_X4_isPreferred.2.2.2 ∈ g_t := (tw3 232 rfl rfl)
set_option maxRecDepth 20000 in
theorem wc_X4_pushThree : Cond.code m_X4_pushThree.1 m_X4_pushThree.2.1 m_X4_pushThree.2.2.1 m_X4_pushThree.2.2.2 ∈ g_t := (tw4 20 rfl rfl)
set_option maxRecDepth 20000 in
theorem wc_X4_readers : Cond.code m_X4_readers.1 m_X4_readers.2.1 m_X4_readers.2.2.1 m_X4_readers.2.2.2 ∈ g_t := (tw3 186 rfl rfl)
set_option maxRecDepth 20000 in
theorem wc_X4_saveCopy : Cond.code m_X4_saveCopy.1 m_X4_saveCopy.2.1 m_X4_saveCopy.2.2.1 m_X4_saveCopy.2.2.2 ∈ g_t := (tw4 6 rfl rfl)
set_option maxRecDepth 20000 in
theorem wc_X4_waiting : Cond.code m_X4_waiting.1 m_X4_waiting.2.1 m_X4_waiting.2.2.1 m_X4_waiting.2.2.2 ∈ g_t := (tw3 236 rfl rfl)
set_option maxRecDepth 20000 in
theorem wc_X4_write : Cond.code m_X4_write.1 m_X4_write.2.1 m_X4_write.2.2.1 m_X4_write.2.2.2 ∈ g_t := (tw4 11 rfl rfl)
set_option maxRecDepth 20000 in
theorem wc_X4_writeAct : Cond.code m_X4_writeAct.1 m_X4_writeAct.2.1 m_X4_writeAct.2.2.1 m_X4_writeAct.2.2.2 ∈ g_t := (tw4 16 rfl rfl)
set_option maxRecDepth 20000 in
theorem wc_X5_fail : Cond.code m_X5_fail.1 m_X5_fail.2.1 m_X5_fail.2.2.1 m_X5_fail.2.2.2 ∈ g_t := (tw4 187 rfl rfl)
set_option maxRecDepth 20000 in
theorem wc_X5_firstOverwritten : Cond.code m_X5_firstOverwritten.1 m_X5_firstOverwritten.2.1 m_X5_firstOverwritten.2.2.1 m_X5_firstOverwritten.2.2.2 ∈ g_t := (tw5 155 rfl rfl)
set_option maxRecDepth 20000 in
theorem wc_X5_init : Cond.code m_X5_init.1 m_X5_init.2.1 m_X5_init.2.2.1 m_X5_init.2.2.2 ∈ g_t := (tw1 156 rfl rfl)
set_option maxRecDepth 20000 in
theorem wc_X5_passCells : Cond.code m_X5_passCells.1 m_X5_passCells.2.1 m_X5_passCells.2.2.1 m_X5_passCells.2.2.2 ∈ g_t := (tw4 196 rfl rfl)
set_option maxRecDepth 20000 in
theorem wc_X5_readAct : Cond.code m_X5_readAct.1 m_X5_readAct.2.1 m_X5_readAct.2.2.1 m_X5_readAct.2.2.2 ∈ g_t := (tw4 192 rfl rfl)
set_option maxRecDepth 20000 in
theorem wc_X5_readActs : Cond.code m_X5_readActs.1 m_X5_readActs.2.1 m_X5_readActs.2.2.1 m_X5_readActs.2.2.2 ∈ g_t := (tw4 177 rfl rfl)
set_option maxRecDepth 20000 in
theorem wc_X5_readNumber : Cond.code m_X5_readNumber.1 m_X5_readNumber.2.1 m_X5_readNumber.2.2.1 m_X5_readNumber.2.2.2 ∈ g_t := (tw4 183 rfl rfl)
set_option maxRecDepth 20000 in
theorem wc_X6_findShortest : Cond.code m_X6_findShortest.1 m_X6_findShortest.2.1 m_X6_findShortest.2.2.1 m_X6_findShortest.2.2.2 ∈ g_t := (tw4 49 rfl rfl)
set_option maxRecDepth 20000 in
theorem wc_X6_init : Cond.code m_X6_init.1 m_X6_init.2.1 m_X6_init.2.2.1 m_X6_init.2.2.2 ∈ g_t := (tw2 4 rfl rfl)
set_option maxRecDepth 20000 in
theorem wc_X6_isWithoutRing : Cond.code m_X6_isWithoutRing.1 m_X6_isWithoutRing.2.1 m_X6_isWithoutRing.2.2.1 m_X6_isWithoutRing.2.2.2 ∈ g_t := (tw4 72 rfl rfl)
set_option maxRecDepth 20000 in
theorem wc_X6_leadingInto : Cond.code m_X6_leadingInto.1 m_X6_leadingInto.2.1 m_X6_leadingInto.2.2.1 m_X6_leadingInto.2.2.2 ∈ g_t := (tw4 52 rfl rfl)
set_option maxRecDepth 20000 in
theorem wc_X6_members : Cond.code m_X6_members.1 m_X6_members.2.1 m_X6_members.2.2.1 m_X6_members.2.2.2 ∈ g_t := (tw3 223 rfl rfl)
set_option maxRecDepth 20000 in
theorem wc_X6_weigh : Cond.code m_X6_weigh.1 m_X6_weigh.2.1 m_X6_weigh.2.2.1 m_X6_weigh.2.2.2 ∈ g_t := (tw4 61 rfl rfl)
set_option maxRecDepth 20000 in
theorem wc_X6_weighSet : Cond.code m_X6_weighSet.1 m_X6_weighSet.2.1 m_X6_weighSet.2.2.1 m_X6_weighSet.2.2.2 ∈ g_t := (tw4 69 rfl rfl)
set_option maxRecDepth 20000 in
theorem wc_X7_addCell : Cond.code m_X7_addCell.1 m_X7_addCell.2.1 m_X7_addCell.2.2.1 m_X7_addCell.2.2.2 ∈ g_t := (tw3 162 rfl rfl)
set_option maxRecDepth 20000 in
theorem wc_X7_append : Cond.code m_X7_append.1 m_X7_append.2.1 m_X7_append.2.2.1 m_X7_append.2.2.2 ∈ g_t := (tw3 158 rfl rfl)
set_option maxRecDepth 20000 in
theorem wc_X7_build : Cond.code m_X7_build.1 m_X7_build.2.1 m_X7_build.2.2.1 m_X7_build.2.2.2 ∈ g_t := (tw3 154 rfl rfl)
set_option maxRecDepth 20000 in
theorem wc_X7_findOrder : Cond.code m_X7_findOrder.1 m_X7_findOrder.2.1 m_X7_findOrder.2.2.1 m_X7_findOrder.2.2.2 ∈ g_t := (tw3 166 rfl rfl)
set_option maxRecDepth 20000 in
theorem wc_X7_findRun : Cond.code m_X7_findRun.1 m_X7_findRun.2.1 m_X7_findRun.2.2.1 m_X7_findRun.2.2.2 ∈ g_t := (tw3 118 rfl rfl)
set_option maxRecDepth 20000 in
theorem wc_X7_has : Cond.code m_X7_has.1 m_X7_has.2.1 m_X7_has.2.2.1 m_X7_has.2.2.2 ∈ g_t := (tw4 29 rfl rfl)
set_option maxRecDepth 20000 in
theorem wc_X7_init : Cond.code m_X7_init.1 m_X7_init.2.1 m_X7_init.2.2.1 m_X7_init.2.2.2 ∈ g_t := (tw1 238 rfl rfl)
set_option maxRecDepth 20000 in
theorem wc_X7_isPreferred : Cond.code m_X7_isPreferred.1 m_X7_isPreferred.2.1 m_X7_isPreferred.2.2.1 m_X7_isPreferred.2.2.2 ∈ g_t := (tw3 123 rfl rfl)
set_option maxRecDepth 20000 in
theorem wc_X7_leastSize : Cond.code m_X7_leastSize.1 m_X7_leastSize.2.1 m_X7_leastSize.2.2.1 m_X7_leastSize.2.2.2 ∈ g_t := (tw3 138 rfl rfl)
set_option maxRecDepth 20000 in
theorem wc_X7_movers : Cond.code m_X7_movers.1 m_X7_movers.2.1 m_X7_movers.2.2.1 m_X7_movers.2.2.2 ∈ g_t := (tw3 190 rfl rfl)
set_option maxRecDepth 20000 in
theorem wc_X7_mustBeAhead : Cond.code m_X7_mustBeAhead.1 m_X7_mustBeAhead.2.1 m_X7_mustBeAhead.2.2.1 m_X7_mustBeAhead.2.2.2 ∈ g_t := (tw3 170 rfl rfl)
set_option maxRecDepth 20000 in
theorem wc_X7_writers : Cond.code m_X7_writers.1 m_X7_writers.2.1 m_X7_writers.2.2.1 m_X7_writers.2.2.2 ∈ g_t := (tw3 178 rfl rfl)
set_option maxRecDepth 20000 in
theorem wc_X8_copyFrom : Cond.code m_X8_copyFrom.1 m_X8_copyFrom.2.1 m_X8_copyFrom.2.2.1 m_X8_copyFrom.2.2.2 ∈ g_t := (tw5 210 rfl rfl)
set_option maxRecDepth 20000 in
theorem wc_X8_init : Cond.code m_X8_init.1 m_X8_init.2.1 m_X8_init.2.2.1 m_X8_init.2.2.2 ∈ g_t := (tw1 30 rfl rfl)
set_option maxRecDepth 20000 in
theorem wc_X9_init : Cond.code m_X9_init.1 m_X9_init.2.1 m_X9_init.2.2.1 m_X9_init.2.2.2 ∈ g_t := (tw1 219 rfl rfl)
set_option maxRecDepth 20000 in
theorem wc_X9_insert : Cond.code m_X9_insert.1 m_X9_insert.2.1 m_X9_insert.2.2.1 m_X9_insert.2.2.2 ∈ g_t := (tw3 91 rfl rfl)
set_option maxRecDepth 20000 in
theorem wc_X9_isBefore : Cond.code m_X9_isBefore.1 m_X9_isBefore.2.1 m_X9_isBefore.2.2.1 m_X9_isBefore.2.2.2 ∈ g_t := (tw3 94 rfl rfl)
set_option maxRecDepth 20000 in
theorem wc_X9_sort : Cond.code m_X9_sort.1 m_X9_sort.2.1 m_X9_sort.2.2.1 m_X9_sort.2.2.2 ∈ g_t := (tw3 87 rfl rfl)
set_option maxRecDepth 20000 in
theorem wc_X9_unlikeRows : Cond.code m_X9_unlikeRows.1 m_X9_unlikeRows.2.1 m_X9_unlikeRows.2.2.1 m_X9_unlikeRows.2.2.2 ∈ g_t := (tw3 110 rfl rfl)
set_option maxRecDepth 20000 in
theorem wi_J10 : Cond.initialized RJ10 ∈ g_t := (tw1 5 rfl rfl)
set_option maxRecDepth 20000 in
theorem wi_J6 : Cond.initialized RJ6 ∈ g_t := (tw1 17 rfl rfl)
set_option maxRecDepth 20000 in
theorem wi_J7 : Cond.initialized RJ7 ∈ g_t := (tw1 7 rfl rfl)
set_option maxRecDepth 20000 in
theorem wi_J9 : Cond.initialized RJ9 ∈ g_t := (tw1 4 rfl rfl)
set_option maxRecDepth 20000 in
theorem wi_X0 : Cond.initialized RX0 ∈ g_t := (tw1 3 rfl rfl)
set_option maxRecDepth 20000 in
theorem wi_X1 : Cond.initialized RX1 ∈ g_t := (tw1 14 rfl rfl)
set_option maxRecDepth 20000 in
theorem wi_X10 : Cond.initialized RX10 ∈ g_t := (tw1 15 rfl rfl)
set_option maxRecDepth 20000 in
theorem wi_X11 : Cond.initialized RX11 ∈ g_t := (tw1 1 rfl rfl)
set_option maxRecDepth 20000 in
theorem wi_X12 : Cond.initialized RX12 ∈ g_t := (tw1 16 rfl rfl)
set_option maxRecDepth 20000 in
theorem wi_X2 : Cond.initialized RX2 ∈ g_t := (tw1 6 rfl rfl)
set_option maxRecDepth 20000 in
theorem wi_X3 : Cond.initialized RX3 ∈ g_t := (tw1 9 rfl rfl)
set_option maxRecDepth 20000 in
theorem wi_X4 : Cond.initialized RX4 ∈ g_t := (tw1 13 rfl rfl)
set_option maxRecDepth 20000 in
theorem wi_X5 : Cond.initialized RX5 ∈ g_t := (tw1 8 rfl rfl)
set_option maxRecDepth 20000 in
theorem wi_X6 : Cond.initialized RX6 ∈ g_t := (tw1 12 rfl rfl)
set_option maxRecDepth 20000 in
theorem wi_X7 : Cond.initialized RX7 ∈ g_t := (tw1 11 rfl rfl)
set_option maxRecDepth 20000 in
theorem wi_X8 : Cond.initialized RX8 ∈ g_t := (tw1 2 rfl rfl)
set_option maxRecDepth 20000 in
theorem wi_X9 : Cond.initialized RX9 ∈ g_t := (tw1 10 rfl rfl)
set_option maxRecDepth 20000 in
theorem fd_X11_12 : g_fd RX11 12 11 0 := ⟨RX11, TX11, 16, tyX11, rfl, uw_X11, by decide, (tw2 219 rfl rfl), tyX11_ok, nmX11⟩
set_option maxRecDepth 20000 in
theorem fd_X11_16 : g_fd RX11 16 11 1 := ⟨RX11, TX11, 16, tyX11, rfl, uw_X11, by decide, (tw2 220 rfl rfl), tyX11_ok, nmX11⟩
set_option maxRecDepth 20000 in
theorem fd_X11_20 : g_fd RX11 20 11 2 := ⟨RX11, TX11, 16, tyX11, rfl, uw_X11, by decide, (tw2 221 rfl rfl), tyX11_ok, nmX11⟩
set_option maxRecDepth 20000 in
theorem fd_X11_29 : g_fd RX11 29 11 3 := ⟨RX11, TX11, 16, tyX11, rfl, uw_X11, by decide, (tw2 222 rfl rfl), tyX11_ok, nmX11⟩
set_option maxRecDepth 20000 in
theorem fd_X11_36 : g_fd RX11 36 11 4 := ⟨RX11, TX11, 16, tyX11, rfl, uw_X11, by decide, (tw2 223 rfl rfl), tyX11_ok, nmX11⟩
set_option maxRecDepth 20000 in
theorem fd_X11_43 : g_fd RX11 43 11 5 := ⟨RX11, TX11, 16, tyX11, rfl, uw_X11, by decide, (tw2 224 rfl rfl), tyX11_ok, nmX11⟩
set_option maxRecDepth 20000 in
theorem fd_X11_50 : g_fd RX11 50 11 6 := ⟨RX11, TX11, 16, tyX11, rfl, uw_X11, by decide, (tw2 225 rfl rfl), tyX11_ok, nmX11⟩
set_option maxRecDepth 20000 in
theorem fd_X11_57 : g_fd RX11 57 11 7 := ⟨RX11, TX11, 16, tyX11, rfl, uw_X11, by decide, (tw2 226 rfl rfl), tyX11_ok, nmX11⟩
set_option maxRecDepth 20000 in
theorem fd_X11_64 : g_fd RX11 64 11 8 := ⟨RX11, TX11, 16, tyX11, rfl, uw_X11, by decide, (tw2 227 rfl rfl), tyX11_ok, nmX11⟩
set_option maxRecDepth 20000 in
theorem fd_X11_68 : g_fd RX11 68 11 9 := ⟨RX11, TX11, 16, tyX11, rfl, uw_X11, by decide, (tw2 228 rfl rfl), tyX11_ok, nmX11⟩
set_option maxRecDepth 20000 in
theorem fd_X11_71 : g_fd RX11 71 11 10 := ⟨RX11, TX11, 16, tyX11, rfl, uw_X11, by decide, (tw2 229 rfl rfl), tyX11_ok, nmX11⟩
set_option maxRecDepth 20000 in
theorem fd_X11_77 : g_fd RX11 77 11 11 := ⟨RX11, TX11, 16, tyX11, rfl, uw_X11, by decide, (tw2 230 rfl rfl), tyX11_ok, nmX11⟩
set_option maxRecDepth 20000 in
theorem fd_X11_84 : g_fd RX11 84 11 12 := ⟨RX11, TX11, 16, tyX11, rfl, uw_X11, by decide, (tw2 231 rfl rfl), tyX11_ok, nmX11⟩
set_option maxRecDepth 20000 in
theorem fd_X11_88 : g_fd RX11 88 11 13 := ⟨RX11, TX11, 16, tyX11, rfl, uw_X11, by decide, (tw2 232 rfl rfl), tyX11_ok, nmX11⟩
set_option maxRecDepth 20000 in
theorem fd_X11_92 : g_fd RX11 92 11 14 := ⟨RX11, TX11, 16, tyX11, rfl, uw_X11, by decide, (tw2 233 rfl rfl), tyX11_ok, nmX11⟩
set_option maxRecDepth 20000 in
theorem fd_X11_95 : g_fd RX11 95 11 15 := ⟨RX11, TX11, 16, tyX11, rfl, uw_X11, by decide, (tw2 234 rfl rfl), tyX11_ok, nmX11⟩
set_option maxRecDepth 20000 in
theorem fd_X11_98 : g_fd RX11 98 0 1 := ⟨RX0, TX0, 2, tyX0, rfl, uw_X0, by decide, (tw1 47 rfl rfl), tyX0_ok, nmX0⟩
set_option maxRecDepth 20000 in
theorem fd_X11_105 : g_fd RX11 105 8 0 := ⟨RX8, TX8, 4, tyX8, rfl, uw_X8, by decide, (tw1 133 rfl rfl), tyX8_ok, nmX8⟩
set_option maxRecDepth 20000 in
theorem fd_X11_112 : g_fd RX11 112 8 1 := ⟨RX8, TX8, 4, tyX8, rfl, uw_X8, by decide, (tw1 135 rfl rfl), tyX8_ok, nmX8⟩
set_option maxRecDepth 20000 in
theorem fd_X11_119 : g_fd RX11 119 8 3 := ⟨RX8, TX8, 4, tyX8, rfl, uw_X8, by decide, (tw1 139 rfl rfl), tyX8_ok, nmX8⟩
set_option maxRecDepth 20000 in
theorem fd_X11_123 : g_fd RX11 123 2 0 := ⟨RX2, TX2, 10, tyX2, rfl, uw_X2, by decide, (tw1 82 rfl rfl), tyX2_ok, nmX2⟩
set_option maxRecDepth 20000 in
theorem fd_X11_133 : g_fd RX11 133 2 1 := ⟨RX2, TX2, 10, tyX2, rfl, uw_X2, by decide, (tw1 85 rfl rfl), tyX2_ok, nmX2⟩
set_option maxRecDepth 20000 in
theorem fd_X11_142 : g_fd RX11 142 8 2 := ⟨RX8, TX8, 4, tyX8, rfl, uw_X8, by decide, (tw1 137 rfl rfl), tyX8_ok, nmX8⟩
set_option maxRecDepth 20000 in
theorem fd_X11_148 : g_fd RX11 148 9 2 := ⟨RX9, TX9, 3, tyX9, rfl, uw_X9, by decide, (tw1 226 rfl rfl), tyX9_ok, nmX9⟩
set_option maxRecDepth 20000 in
theorem fd_X11_149 : g_fd RX11 149 9 0 := ⟨RX9, TX9, 3, tyX9, rfl, uw_X9, by decide, (tw1 222 rfl rfl), tyX9_ok, nmX9⟩
set_option maxRecDepth 20000 in
theorem fd_X11_152 : g_fd RX11 152 9 1 := ⟨RX9, TX9, 3, tyX9, rfl, uw_X9, by decide, (tw1 224 rfl rfl), tyX9_ok, nmX9⟩
set_option maxRecDepth 20000 in
theorem fd_X11_162 : g_fd RX11 162 7 9 := ⟨RX7, TX7, 12, tyX7, rfl, uw_X7, by decide, (tw2 68 rfl rfl), tyX7_ok, nmX7⟩
set_option maxRecDepth 20000 in
theorem fd_X11_165 : g_fd RX11 165 7 10 := ⟨RX7, TX7, 12, tyX7, rfl, uw_X7, by decide, (tw2 70 rfl rfl), tyX7_ok, nmX7⟩
set_option maxRecDepth 20000 in
theorem fd_X11_168 : g_fd RX11 168 7 11 := ⟨RX7, TX7, 12, tyX7, rfl, uw_X7, by decide, (tw2 72 rfl rfl), tyX7_ok, nmX7⟩
set_option maxRecDepth 20000 in
theorem fd_X11_178 : g_fd RX11 178 7 8 := ⟨RX7, TX7, 12, tyX7, rfl, uw_X7, by decide, (tw2 66 rfl rfl), tyX7_ok, nmX7⟩
set_option maxRecDepth 20000 in
theorem fd_X11_183 : g_fd RX11 183 7 0 := ⟨RX7, TX7, 12, tyX7, rfl, uw_X7, by decide, (tw2 43 rfl rfl), tyX7_ok, nmX7⟩
set_option maxRecDepth 20000 in
theorem fd_X11_186 : g_fd RX11 186 7 1 := ⟨RX7, TX7, 12, tyX7, rfl, uw_X7, by decide, (tw2 45 rfl rfl), tyX7_ok, nmX7⟩
set_option maxRecDepth 20000 in
theorem fd_X11_189 : g_fd RX11 189 7 2 := ⟨RX7, TX7, 12, tyX7, rfl, uw_X7, by decide, (tw2 49 rfl rfl), tyX7_ok, nmX7⟩
set_option maxRecDepth 20000 in
theorem fd_X11_192 : g_fd RX11 192 7 3 := ⟨RX7, TX7, 12, tyX7, rfl, uw_X7, by decide, (tw2 53 rfl rfl), tyX7_ok, nmX7⟩
set_option maxRecDepth 20000 in
theorem fd_X11_198 : g_fd RX11 198 7 4 := ⟨RX7, TX7, 12, tyX7, rfl, uw_X7, by decide, (tw2 57 rfl rfl), tyX7_ok, nmX7⟩
set_option maxRecDepth 20000 in
theorem fd_X11_205 : g_fd RX11 205 7 5 := ⟨RX7, TX7, 12, tyX7, rfl, uw_X7, by decide, (tw2 60 rfl rfl), tyX7_ok, nmX7⟩
set_option maxRecDepth 20000 in
theorem fd_X11_222 : g_fd RX11 222 6 3 := ⟨RX6, TX6, 9, tyX6, rfl, uw_X6, by decide, (tw2 11 rfl rfl), tyX6_ok, nmX6⟩
set_option maxRecDepth 20000 in
theorem fd_X11_225 : g_fd RX11 225 6 2 := ⟨RX6, TX6, 9, tyX6, rfl, uw_X6, by decide, (tw2 9 rfl rfl), tyX6_ok, nmX6⟩
set_option maxRecDepth 20000 in
theorem fd_X11_232 : g_fd RX11 232 6 5 := ⟨RX6, TX6, 9, tyX6, rfl, uw_X6, by decide, (tw2 15 rfl rfl), tyX6_ok, nmX6⟩
set_option maxRecDepth 20000 in
theorem fd_X11_235 : g_fd RX11 235 6 6 := ⟨RX6, TX6, 9, tyX6, rfl, uw_X6, by decide, (tw2 17 rfl rfl), tyX6_ok, nmX6⟩
set_option maxRecDepth 20000 in
theorem fd_X11_238 : g_fd RX11 238 6 7 := ⟨RX6, TX6, 9, tyX6, rfl, uw_X6, by decide, (tw2 19 rfl rfl), tyX6_ok, nmX6⟩
set_option maxRecDepth 20000 in
theorem fd_X11_241 : g_fd RX11 241 6 8 := ⟨RX6, TX6, 9, tyX6, rfl, uw_X6, by decide, (tw2 21 rfl rfl), tyX6_ok, nmX6⟩
set_option maxRecDepth 20000 in
theorem fd_X11_244 : g_fd RX11 244 4 5 := ⟨RX4, TX4, 12, tyX4, rfl, uw_X4, by decide, (tw2 116 rfl rfl), tyX4_ok, nmX4⟩
set_option maxRecDepth 20000 in
theorem fd_X11_247 : g_fd RX11 247 4 0 := ⟨RX4, TX4, 12, tyX4, rfl, uw_X4, by decide, (tw2 107 rfl rfl), tyX4_ok, nmX4⟩
set_option maxRecDepth 20000 in
theorem fd_X11_250 : g_fd RX11 250 4 1 := ⟨RX4, TX4, 12, tyX4, rfl, uw_X4, by decide, (tw2 109 rfl rfl), tyX4_ok, nmX4⟩
set_option maxRecDepth 20000 in
theorem fd_X11_253 : g_fd RX11 253 4 2 := ⟨RX4, TX4, 12, tyX4, rfl, uw_X4, by decide, (tw2 111 rfl rfl), tyX4_ok, nmX4⟩
set_option maxRecDepth 20000 in
theorem fd_X11_256 : g_fd RX11 256 4 8 := ⟨RX4, TX4, 12, tyX4, rfl, uw_X4, by decide, (tw2 121 rfl rfl), tyX4_ok, nmX4⟩
set_option maxRecDepth 20000 in
theorem fd_X11_264 : g_fd RX11 264 4 9 := ⟨RX4, TX4, 12, tyX4, rfl, uw_X4, by decide, (tw2 123 rfl rfl), tyX4_ok, nmX4⟩
set_option maxRecDepth 20000 in
theorem fd_X11_267 : g_fd RX11 267 4 11 := ⟨RX4, TX4, 12, tyX4, rfl, uw_X4, by decide, (tw2 126 rfl rfl), tyX4_ok, nmX4⟩
set_option maxRecDepth 20000 in
theorem fd_X11_270 : g_fd RX11 270 4 6 := ⟨RX4, TX4, 12, tyX4, rfl, uw_X4, by decide, (tw2 118 rfl rfl), tyX4_ok, nmX4⟩
set_option maxRecDepth 20000 in
theorem fd_X11_273 : g_fd RX11 273 4 4 := ⟨RX4, TX4, 12, tyX4, rfl, uw_X4, by decide, (tw2 114 rfl rfl), tyX4_ok, nmX4⟩
set_option maxRecDepth 20000 in
theorem fd_X11_303 : g_fd RX11 303 2 9 := ⟨RX2, TX2, 10, tyX2, rfl, uw_X2, by decide, (tw1 110 rfl rfl), tyX2_ok, nmX2⟩
set_option maxRecDepth 20000 in
theorem fd_X11_313 : g_fd RX11 313 1 4 := ⟨RX1, TX1, 11, tyX1, rfl, uw_X1, by decide, (tw2 173 rfl rfl), tyX1_ok, nmX1⟩
set_option maxRecDepth 20000 in
theorem fd_X11_319 : g_fd RX11 319 5 5 := ⟨RX5, TX5, 9, tyX5, rfl, uw_X5, by decide, (tw1 170 rfl rfl), tyX5_ok, nmX5⟩
set_option maxRecDepth 20000 in
theorem fd_X11_322 : g_fd RX11 322 5 6 := ⟨RX5, TX5, 9, tyX5, rfl, uw_X5, by decide, (tw1 172 rfl rfl), tyX5_ok, nmX5⟩
set_option maxRecDepth 20000 in
theorem fd_X11_325 : g_fd RX11 325 1 2 := ⟨RX1, TX1, 11, tyX1, rfl, uw_X1, by decide, (tw2 168 rfl rfl), tyX1_ok, nmX1⟩
set_option maxRecDepth 20000 in
theorem fd_X11_328 : g_fd RX11 328 1 3 := ⟨RX1, TX1, 11, tyX1, rfl, uw_X1, by decide, (tw2 170 rfl rfl), tyX1_ok, nmX1⟩
set_option maxRecDepth 20000 in
theorem fd_X11_334 : g_fd RX11 334 2 7 := ⟨RX2, TX2, 10, tyX2, rfl, uw_X2, by decide, (tw1 103 rfl rfl), tyX2_ok, nmX2⟩
set_option maxRecDepth 20000 in
theorem fd_X11_349 : g_fd RX11 349 2 8 := ⟨RX2, TX2, 10, tyX2, rfl, uw_X2, by decide, (tw1 107 rfl rfl), tyX2_ok, nmX2⟩
set_option maxRecDepth 20000 in
theorem fd_X11_359 : g_fd RX11 359 3 2 := ⟨RX3, TX3, 3, tyX3, rfl, uw_X3, by decide, (tw1 207 rfl rfl), tyX3_ok, nmX3⟩
set_option maxRecDepth 20000 in
theorem fd_X11_387 : g_fd RX11 387 0 0 := ⟨RX0, TX0, 2, tyX0, rfl, uw_X0, by decide, (tw1 45 rfl rfl), tyX0_ok, nmX0⟩
set_option maxRecDepth 20000 in
theorem fd_X11_388 : g_fd RX11 388 1 0 := ⟨RX1, TX1, 11, tyX1, rfl, uw_X1, by decide, (tw2 165 rfl rfl), tyX1_ok, nmX1⟩
set_option maxRecDepth 20000 in
theorem fd_X11_391 : g_fd RX11 391 5 4 := ⟨RX5, TX5, 9, tyX5, rfl, uw_X5, by decide, (tw1 168 rfl rfl), tyX5_ok, nmX5⟩
set_option maxRecDepth 20000 in
theorem fd_X11_413 : g_fd RX11 413 2 6 := ⟨RX2, TX2, 10, tyX2, rfl, uw_X2, by decide, (tw1 99 rfl rfl), tyX2_ok, nmX2⟩
set_option maxRecDepth 20000 in
theorem gs_X11_136 : Cond.fieldLink RX11 136 RX11 "LOWEST_TERM" "[I" ∈ g_t := (tw3 72 rfl rfl)
set_option maxRecDepth 20000 in
theorem gs_X11_139 : Cond.fieldLink RX11 139 RX11 "HIGHEST_TERM" "[I" ∈ g_t := (tw3 74 rfl rfl)
set_option maxRecDepth 20000 in
theorem oi_X11_3 : Cond.methodLink RX11 3 objectInit ∈ g_t := (tw1 23 rfl rfl)
set_option maxRecDepth 20000 in
theorem mi_X11_11 : g_md RX11 11 0 m_X8_init ∧ Cond.instanceMethod m_X8_init.1 ∈ g_t := ⟨⟨(tw1 28 rfl rfl), wi_X8, wc_X8_init, ⟨by decide, by decide, by decide +kernel⟩, by decide⟩, (tw1 29 rfl rfl)⟩
set_option maxRecDepth 20000 in
theorem mi_X11_26 : g_md RX11 26 1 m_X0_init ∧ Cond.instanceMethod m_X0_init.1 ∈ g_t := ⟨⟨(tw1 151 rfl rfl), wi_X0, wc_X0_init, ⟨by decide, by decide, by decide +kernel⟩, by decide⟩, (tw1 35 rfl rfl)⟩
set_option maxRecDepth 20000 in
theorem mi_X11_35 : g_md RX11 35 0 m_X5_init ∧ Cond.instanceMethod m_X5_init.1 ∈ g_t := ⟨⟨(tw1 154 rfl rfl), wi_X5, wc_X5_init, ⟨by decide, by decide, by decide +kernel⟩, by decide⟩, (tw1 155 rfl rfl)⟩
set_option maxRecDepth 20000 in
theorem mi_X11_42 : g_md RX11 42 0 m_X3_init ∧ Cond.instanceMethod m_X3_init.1 ∈ g_t := ⟨⟨(tw1 197 rfl rfl), wi_X3, wc_X3_init, ⟨by decide, by decide, by decide +kernel⟩, by decide⟩, (tw1 198 rfl rfl)⟩
set_option maxRecDepth 20000 in
theorem mi_X11_49 : g_md RX11 49 0 m_X9_init ∧ Cond.instanceMethod m_X9_init.1 ∈ g_t := ⟨⟨(tw1 217 rfl rfl), wi_X9, wc_X9_init, ⟨by decide, by decide, by decide +kernel⟩, by decide⟩, (tw1 218 rfl rfl)⟩
set_option maxRecDepth 20000 in
theorem mi_X11_56 : g_md RX11 56 0 m_X7_init ∧ Cond.instanceMethod m_X7_init.1 ∈ g_t := ⟨⟨(tw1 236 rfl rfl), wi_X7, wc_X7_init, ⟨by decide, by decide, by decide +kernel⟩, by decide⟩, (tw1 237 rfl rfl)⟩
set_option maxRecDepth 20000 in
theorem mi_X11_63 : g_md RX11 63 0 m_X4_init ∧ Cond.instanceMethod m_X4_init.1 ∈ g_t := ⟨⟨(tw2 100 rfl rfl), wi_X4, wc_X4_init, ⟨by decide, by decide, by decide +kernel⟩, by decide⟩, (tw2 101 rfl rfl)⟩
set_option maxRecDepth 20000 in
theorem mi_X11_76 : g_md RX11 76 0 m_X1_init ∧ Cond.instanceMethod m_X1_init.1 ∈ g_t := ⟨⟨(tw2 154 rfl rfl), wi_X1, wc_X1_init, ⟨by decide, by decide, by decide +kernel⟩, by decide⟩, (tw2 155 rfl rfl)⟩
set_option maxRecDepth 20000 in
theorem mi_X11_83 : g_md RX11 83 0 m_X10_init ∧ Cond.instanceMethod m_X10_init.1 ∈ g_t := ⟨⟨(tw2 205 rfl rfl), wi_X10, wc_X10_init, ⟨by decide, by decide, by decide +kernel⟩, by decide⟩, (tw2 206 rfl rfl)⟩
set_option maxRecDepth 20000 in
theorem ms_X11_129 : g_md RX11 129 2 m_X11_elementOf ∧ Cond.static m_X11_elementOf.1 ∈ g_t := ⟨⟨(tw3 65 rfl rfl), wi_X11, wc_X11_elementOf, ⟨by decide, by decide, by decide +kernel⟩, by decide⟩, (tw3 66 rfl rfl)⟩
set_option maxRecDepth 20000 in
theorem ms_X11_201 : g_md RX11 201 2 m_X11_hasBit ∧ Cond.static m_X11_hasBit.1 ∈ g_t := ⟨⟨(tw4 35 rfl rfl), wi_X11, wc_X11_hasBit, ⟨by decide, by decide, by decide +kernel⟩, by decide⟩, (tw3 192 rfl rfl)⟩
set_option maxRecDepth 20000 in
theorem ms_X11_259 : g_md RX11 259 1 m_J6_bitCount_0f7a4 ∧ Cond.static m_J6_bitCount_0f7a4.1 ∈ g_t := ⟨⟨(tw4 85 rfl rfl), wi_J6, wc_J6_bitCount_0f7a4, ⟨by decide, by decide, by decide +kernel⟩, by decide⟩, (tw3 238 rfl rfl)⟩
set_option maxRecDepth 20000 in
theorem ms_X11_291 : g_md RX11 291 2 m_X11_floatBits ∧ Cond.static m_X11_floatBits.1 ∈ g_t := ⟨⟨(tw4 122 rfl rfl), wi_X11, wc_X11_floatBits, ⟨by decide, by decide, by decide +kernel⟩, by decide⟩, (tw4 123 rfl rfl)⟩
set_option maxRecDepth 20000 in
theorem mw_X11_337 : g_mw RX11 337 Lib.Math.min.name Lib.Math.min.code 2 := ⟨(tw5 50 rfl rfl), (tw3 50 rfl rfl), (tw1 4 rfl rfl), (tw3 51 rfl rfl)⟩
set_option maxRecDepth 20000 in
theorem ms_X11_366 : g_md RX11 366 2 m_X11_packed ∧ Cond.static m_X11_packed.1 ∈ g_t := ⟨⟨(tw5 119 rfl rfl), wi_X11, wc_X11_packed, ⟨by decide, by decide, by decide +kernel⟩, by decide⟩, (tw4 231 rfl rfl)⟩
set_option maxRecDepth 20000 in
theorem ms_X11_369 : g_md RX11 369 1 m_X11_digestOf ∧ Cond.static m_X11_digestOf.1 ∈ g_t := ⟨⟨(tw5 120 rfl rfl), wi_X11, wc_X11_digestOf, ⟨by decide, by decide, by decide +kernel⟩, by decide⟩, (tw5 121 rfl rfl)⟩
set_option maxRecDepth 20000 in
theorem ms_X11_403 : g_md RX11 403 2 m_X11_commonDivisor ∧ Cond.static m_X11_commonDivisor.1 ∈ g_t := ⟨⟨(tw5 200 rfl rfl), wi_X11, wc_X11_commonDivisor, ⟨by decide, by decide, by decide +kernel⟩, by decide⟩, (tw5 201 rfl rfl)⟩
set_option maxRecDepth 20000 in
theorem ms_X11_439 : g_md RX11 439 1 m_J6_numberOfTrailingZeros_0f7a4 ∧ Cond.static m_J6_numberOfTrailingZeros_0f7a4.1 ∈ g_t := ⟨⟨(tw3 197 rfl rfl), wi_J6, wc_J6_numberOfTrailingZeros_0f7a4, ⟨by decide, by decide, by decide +kernel⟩, by decide⟩, (tw3 198 rfl rfl)⟩
set_option maxRecDepth 20000 in
theorem mv_X11_102 : g_mv RX11 102 1 11 m_X11_feedWord := ⟨⟨(tw3 32 rfl rfl), wi_X11, wc_X11_feedWord, ⟨by decide, by decide, by decide +kernel⟩, by decide⟩, (tw3 34 rfl rfl), (tq 0 rfl), _, rfl, rfl⟩
set_option maxRecDepth 20000 in
theorem mv_X11_108 : g_mv RX11 108 2 11 m_X11_takeCells := ⟨⟨(tw3 41 rfl rfl), wi_X11, wc_X11_takeCells, ⟨by decide, by decide, by decide +kernel⟩, by decide⟩, (tw3 43 rfl rfl), (tq 1 rfl), _, rfl, rfl⟩
set_option maxRecDepth 20000 in
theorem mv_X11_115 : g_mv RX11 115 1 0 m_X0_at := ⟨⟨(tw3 61 rfl rfl), wi_X0, wc_X0_at, ⟨by decide, by decide, by decide +kernel⟩, by decide⟩, (tw3 62 rfl rfl), (tw3 63 rfl rfl), _, rfl, rfl⟩
set_option maxRecDepth 20000 in
theorem mv_X11_145 : g_mv RX11 145 0 11 m_X11_sortSuffixes := ⟨⟨(tw3 80 rfl rfl), wi_X11, wc_X11_sortSuffixes, ⟨by decide, by decide, by decide +kernel⟩, by decide⟩, (tw3 82 rfl rfl), (tq 2 rfl), _, rfl, rfl⟩
set_option maxRecDepth 20000 in
theorem mv_X11_155 : g_mv RX11 155 1 9 m_X9_unlikeRows := ⟨⟨(tw3 107 rfl rfl), wi_X9, wc_X9_unlikeRows, ⟨by decide, by decide, by decide +kernel⟩, by decide⟩, (tw3 108 rfl rfl), (tw3 109 rfl rfl), _, rfl, rfl⟩
set_option maxRecDepth 20000 in
theorem mv_X11_158 : g_mv RX11 158 4 7 m_X7_findRun := ⟨⟨(tw3 115 rfl rfl), wi_X7, wc_X7_findRun, ⟨by decide, by decide, by decide +kernel⟩, by decide⟩, (tw3 116 rfl rfl), (tw3 117 rfl rfl), _, rfl, rfl⟩
set_option maxRecDepth 20000 in
theorem mv_X11_171 : g_mv RX11 171 3 7 m_X7_leastSize := ⟨⟨(tw3 135 rfl rfl), wi_X7, wc_X7_leastSize, ⟨by decide, by decide, by decide +kernel⟩, by decide⟩, (tw3 136 rfl rfl), (tw3 137 rfl rfl), _, rfl, rfl⟩
set_option maxRecDepth 20000 in
theorem mv_X11_175 : g_mv RX11 175 0 11 m_X11_makePlan := ⟨⟨(tw3 147 rfl rfl), wi_X11, wc_X11_makePlan, ⟨by decide, by decide, by decide +kernel⟩, by decide⟩, (tw3 149 rfl rfl), (tq 5 rfl), _, rfl, rfl⟩
set_option maxRecDepth 20000 in
theorem mv_X11_179 : g_mv RX11 179 1 7 m_X7_has := ⟨⟨(tw4 26 rfl rfl), wi_X7, wc_X7_has, ⟨by decide, by decide, by decide +kernel⟩, by decide⟩, (tw4 27 rfl rfl), (tw4 28 rfl rfl), _, rfl, rfl⟩
set_option maxRecDepth 20000 in
theorem mv_X11_195 : g_mv RX11 195 1 4 m_X4_fateOf := ⟨⟨(tw4 30 rfl rfl), wi_X4, wc_X4_fateOf, ⟨by decide, by decide, by decide +kernel⟩, by decide⟩, (tw3 206 rfl rfl), (tw3 207 rfl rfl), _, rfl, rfl⟩
set_option maxRecDepth 20000 in
theorem mv_X11_209 : g_mv RX11 209 0 7 m_X7_movers := ⟨⟨(tw4 40 rfl rfl), wi_X7, wc_X7_movers, ⟨by decide, by decide, by decide +kernel⟩, by decide⟩, (tw3 188 rfl rfl), (tw3 189 rfl rfl), _, rfl, rfl⟩
set_option maxRecDepth 20000 in
theorem mv_X11_213 : g_mv RX11 213 2 6 m_X6_members := ⟨⟨(tw4 41 rfl rfl), wi_X6, wc_X6_members, ⟨by decide, by decide, by decide +kernel⟩, by decide⟩, (tw3 221 rfl rfl), (tw3 222 rfl rfl), _, rfl, rfl⟩
set_option maxRecDepth 20000 in
theorem mv_X11_218 : g_mv RX11 218 2 6 m_X6_findShortest := ⟨⟨(tw4 46 rfl rfl), wi_X6, wc_X6_findShortest, ⟨by decide, by decide, by decide +kernel⟩, by decide⟩, (tw4 47 rfl rfl), (tw4 48 rfl rfl), _, rfl, rfl⟩
set_option maxRecDepth 20000 in
theorem mv_X11_228 : g_mv RX11 228 1 6 m_X6_weigh := ⟨⟨(tw4 58 rfl rfl), wi_X6, wc_X6_weigh, ⟨by decide, by decide, by decide +kernel⟩, by decide⟩, (tw4 59 rfl rfl), (tw4 60 rfl rfl), _, rfl, rfl⟩
set_option maxRecDepth 20000 in
theorem mv_X11_276 : g_mv RX11 276 3 4 m_X4_build := ⟨⟨(tw3 171 rfl rfl), wi_X4, wc_X4_build, ⟨by decide, by decide, by decide +kernel⟩, by decide⟩, (tw3 172 rfl rfl), (tw3 173 rfl rfl), _, rfl, rfl⟩
set_option maxRecDepth 20000 in
theorem mv_X11_280 : g_mv RX11 280 4 7 m_X7_build := ⟨⟨(tw3 151 rfl rfl), wi_X7, wc_X7_build, ⟨by decide, by decide, by decide +kernel⟩, by decide⟩, (tw3 152 rfl rfl), (tw3 153 rfl rfl), _, rfl, rfl⟩
set_option maxRecDepth 20000 in
theorem mv_X11_282 : g_mv RX11 282 0 11 m_X11_bestRule := ⟨⟨(tw4 106 rfl rfl), wi_X11, wc_X11_bestRule, ⟨by decide, by decide, by decide +kernel⟩, by decide⟩, (tw4 108 rfl rfl), (tq 22 rfl), _, rfl, rfl⟩
set_option maxRecDepth 20000 in
theorem mv_X11_285 : g_mv RX11 285 0 11 m_X11_bestChoice := ⟨⟨(tw4 110 rfl rfl), wi_X11, wc_X11_bestChoice, ⟨by decide, by decide, by decide +kernel⟩, by decide⟩, (tw4 112 rfl rfl), (tq 23 rfl), _, rfl, rfl⟩
set_option maxRecDepth 20000 in
theorem mv_X11_288 : g_mv RX11 288 1 11 m_X11_shareOf := ⟨⟨(tw4 118 rfl rfl), wi_X11, wc_X11_shareOf, ⟨by decide, by decide, by decide +kernel⟩, by decide⟩, (tw4 120 rfl rfl), (tq 24 rfl), _, rfl, rfl⟩
set_option maxRecDepth 20000 in
theorem mv_X11_295 : g_mv RX11 295 1 3 m_X3_keep := ⟨⟨(tw4 131 rfl rfl), wi_X3, wc_X3_keep, ⟨by decide, by decide, by decide +kernel⟩, by decide⟩, (tw4 132 rfl rfl), (tw4 133 rfl rfl), _, rfl, rfl⟩
set_option maxRecDepth 20000 in
theorem mv_X11_299 : g_mv RX11 299 1 2 m_X2_burnCells := ⟨⟨(tw4 141 rfl rfl), wi_X2, wc_X2_burnCells, ⟨by decide, by decide, by decide +kernel⟩, by decide⟩, (tw4 142 rfl rfl), (tw4 143 rfl rfl), _, rfl, rfl⟩
set_option maxRecDepth 20000 in
theorem mv_X11_306 : g_mv RX11 306 2 11 m_X11_takePatch := ⟨⟨(tw4 157 rfl rfl), wi_X11, wc_X11_takePatch, ⟨by decide, by decide, by decide +kernel⟩, by decide⟩, (tw4 159 rfl rfl), (tq 26 rfl), _, rfl, rfl⟩
set_option maxRecDepth 20000 in
theorem mv_X11_310 : g_mv RX11 310 0 11 m_X11_makeCourse := ⟨⟨(tw4 165 rfl rfl), wi_X11, wc_X11_makeCourse, ⟨by decide, by decide, by decide +kernel⟩, by decide⟩, (tw4 167 rfl rfl), (tq 27 rfl), _, rfl, rfl⟩
set_option maxRecDepth 20000 in
theorem mv_X11_316 : g_mv RX11 316 2 5 m_X5_readActs := ⟨⟨(tw5 29 rfl rfl), wi_X5, wc_X5_readActs, ⟨by decide, by decide, by decide +kernel⟩, by decide⟩, (tw4 175 rfl rfl), (tw4 176 rfl rfl), _, rfl, rfl⟩
set_option maxRecDepth 20000 in
theorem mv_X11_331 : g_mv RX11 331 2 1 m_X1_dueBlock := ⟨⟨(tw5 42 rfl rfl), wi_X1, wc_X1_dueBlock, ⟨by decide, by decide, by decide +kernel⟩, by decide⟩, (tw5 43 rfl rfl), (tw5 44 rfl rfl), _, rfl, rfl⟩
set_option maxRecDepth 20000 in
theorem mv_X11_342 : g_mv RX11 342 1 1 m_X1_doStep := ⟨⟨(tw5 51 rfl rfl), wi_X1, wc_X1_doStep, ⟨by decide, by decide, by decide +kernel⟩, by decide⟩, (tw4 238 rfl rfl), (tw4 239 rfl rfl), _, rfl, rfl⟩
set_option maxRecDepth 20000 in
theorem mv_X11_345 : g_mv RX11 345 3 1 m_X1_cutPower := ⟨⟨(tw5 56 rfl rfl), wi_X1, wc_X1_cutPower, ⟨by decide, by decide, by decide +kernel⟩, by decide⟩, (tw5 57 rfl rfl), (tw5 58 rfl rfl), _, rfl, rfl⟩
set_option maxRecDepth 20000 in
theorem mv_X11_352 : g_mv RX11 352 1 1 m_X1_canBoot := ⟨⟨(tw5 72 rfl rfl), wi_X1, wc_X1_canBoot, ⟨by decide, by decide, by decide +kernel⟩, by decide⟩, (tw5 73 rfl rfl), (tw5 74 rfl rfl), _, rfl, rfl⟩
set_option maxRecDepth 20000 in
theorem mv_X11_356 : g_mv RX11 356 1 1 m_X1_bootUp := ⟨⟨(tw5 98 rfl rfl), wi_X1, wc_X1_bootUp, ⟨by decide, by decide, by decide +kernel⟩, by decide⟩, (tw5 99 rfl rfl), (tw5 100 rfl rfl), _, rfl, rfl⟩
set_option maxRecDepth 20000 in
theorem mv_X11_360 : g_mv RX11 360 2 3 m_X3_goBack := ⟨⟨(tw5 110 rfl rfl), wi_X3, wc_X3_goBack, ⟨by decide, by decide, by decide +kernel⟩, by decide⟩, (tw5 111 rfl rfl), (tw5 112 rfl rfl), _, rfl, rfl⟩
set_option maxRecDepth 20000 in
theorem mv_X11_373 : g_mv RX11 373 2 1 m_X1_look := ⟨⟨(tw5 134 rfl rfl), wi_X1, wc_X1_look, ⟨by decide, by decide, by decide +kernel⟩, by decide⟩, (tw5 77 rfl rfl), (tw5 78 rfl rfl), _, rfl, rfl⟩
set_option maxRecDepth 20000 in
theorem mv_X11_377 : g_mv RX11 377 1 1 m_X1_firstFit := ⟨⟨(tw5 135 rfl rfl), wi_X1, wc_X1_firstFit, ⟨by decide, by decide, by decide +kernel⟩, by decide⟩, (tw5 81 rfl rfl), (tw5 82 rfl rfl), _, rfl, rfl⟩
set_option maxRecDepth 20000 in
theorem mv_X11_381 : g_mv RX11 381 1 1 m_X1_lastFit := ⟨⟨(tw5 136 rfl rfl), wi_X1, wc_X1_lastFit, ⟨by decide, by decide, by decide +kernel⟩, by decide⟩, (tw5 137 rfl rfl), (tw5 138 rfl rfl), _, rfl, rfl⟩
set_option maxRecDepth 20000 in
theorem mv_X11_384 : g_mv RX11 384 1 1 m_X1_countFits := ⟨⟨(tw5 140 rfl rfl), wi_X1, wc_X1_countFits, ⟨by decide, by decide, by decide +kernel⟩, by decide⟩, (tw5 141 rfl rfl), (tw5 142 rfl rfl), _, rfl, rfl⟩
set_option maxRecDepth 20000 in
theorem mv_X11_392 : g_mv RX11 392 1 5 m_X5_firstOverwritten := ⟨⟨(tw5 152 rfl rfl), wi_X5, wc_X5_firstOverwritten, ⟨by decide, by decide, by decide +kernel⟩, by decide⟩, (tw5 153 rfl rfl), (tw5 154 rfl rfl), _, rfl, rfl⟩
set_option maxRecDepth 20000 in
theorem mv_X11_395 : g_mv RX11 395 2 10 m_X10_survived := ⟨⟨(tw5 164 rfl rfl), wi_X10, wc_X10_survived, ⟨by decide, by decide, by decide +kernel⟩, by decide⟩, (tw5 165 rfl rfl), (tw5 166 rfl rfl), _, rfl, rfl⟩
set_option maxRecDepth 20000 in
theorem mv_X11_399 : g_mv RX11 399 3 10 m_X10_survivedTwice := ⟨⟨(tw5 192 rfl rfl), wi_X10, wc_X10_survivedTwice, ⟨by decide, by decide, by decide +kernel⟩, by decide⟩, (tw5 193 rfl rfl), (tw5 194 rfl rfl), _, rfl, rfl⟩
set_option maxRecDepth 20000 in
theorem mv_X11_406 : g_mv RX11 406 1 8 m_X8_copyFrom := ⟨⟨(tw5 207 rfl rfl), wi_X8, wc_X8_copyFrom, ⟨by decide, by decide, by decide +kernel⟩, by decide⟩, (tw5 208 rfl rfl), (tw5 209 rfl rfl), _, rfl, rfl⟩
set_option maxRecDepth 20000 in
theorem mv_X11_410 : g_mv RX11 410 0 3 m_X3_clear := ⟨⟨(tw5 217 rfl rfl), wi_X3, wc_X3_clear, ⟨by decide, by decide, by decide +kernel⟩, by decide⟩, (tw5 218 rfl rfl), (tw5 219 rfl rfl), _, rfl, rfl⟩
set_option maxRecDepth 20000 in
theorem mv_X11_416 : g_mv RX11 416 1 0 m_X0_push := ⟨⟨(tw3 36 rfl rfl), wi_X0, wc_X0_push, ⟨by decide, by decide, by decide +kernel⟩, by decide⟩, (tw1 78 rfl rfl), (tw1 79 rfl rfl), _, rfl, rfl⟩
set_option maxRecDepth 20000 in
theorem mv_X11_419 : g_mv RX11 419 2 0 m_X0_copyFirst := ⟨⟨(tw3 45 rfl rfl), wi_X0, wc_X0_copyFirst, ⟨by decide, by decide, by decide +kernel⟩, by decide⟩, (tw3 46 rfl rfl), (tw3 47 rfl rfl), _, rfl, rfl⟩
set_option maxRecDepth 20000 in
theorem mv_X11_422 : g_mv RX11 422 2 2 m_X2_start := ⟨⟨(tw4 161 rfl rfl), wi_X2, wc_X2_start, ⟨by decide, by decide, by decide +kernel⟩, by decide⟩, (tw4 162 rfl rfl), (tw4 163 rfl rfl), _, rfl, rfl⟩
set_option maxRecDepth 20000 in
theorem mv_X11_425 : g_mv RX11 425 1 9 m_X9_sort := ⟨⟨(tw3 84 rfl rfl), wi_X9, wc_X9_sort, ⟨by decide, by decide, by decide +kernel⟩, by decide⟩, (tw3 85 rfl rfl), (tw3 86 rfl rfl), _, rfl, rfl⟩
set_option maxRecDepth 20000 in
theorem mv_X11_428 : g_mv RX11 428 2 4 m_X4_write := ⟨⟨(tw4 8 rfl rfl), wi_X4, wc_X4_write, ⟨by decide, by decide, by decide +kernel⟩, by decide⟩, (tw4 9 rfl rfl), (tw4 10 rfl rfl), _, rfl, rfl⟩
set_option maxRecDepth 20000 in
theorem mv_X11_432 : g_mv RX11 432 1 1 m_X1_build := ⟨⟨(tw4 169 rfl rfl), wi_X1, wc_X1_build, ⟨by decide, by decide, by decide +kernel⟩, by decide⟩, (tw4 170 rfl rfl), (tw4 171 rfl rfl), _, rfl, rfl⟩
set_option maxRecDepth 20000 in
theorem mv_X11_434 : g_mv RX11 434 0 10 m_X10_clear := ⟨⟨(tw5 21 rfl rfl), wi_X10, wc_X10_clear, ⟨by decide, by decide, by decide +kernel⟩, by decide⟩, (tw5 22 rfl rfl), (tw5 23 rfl rfl), _, rfl, rfl⟩
set_option maxRecDepth 20000 in
theorem kl_X11_364 : Cond.constantLong RX11 364 (Int64.ofInt (-2)) ∈ g_t := (tw5 118 rfl rfl)
set_option maxRecDepth 20000 in
theorem kl_X11_435 : Cond.constantLong RX11 435 (Int64.ofInt 2) ∈ g_t := (tw4 125 rfl rfl)
set_option maxRecDepth 20000 in
theorem kl_X11_437 : Cond.constantLong RX11 437 (Int64.ofInt 8388608) ∈ g_t := (tw4 126 rfl rfl)
set_option maxRecDepth 20000 in
theorem kl_X11_442 : Cond.constantLong RX11 442 (Int64.ofInt 4294967295) ∈ g_t := (tw5 123 rfl rfl)
set_option maxRecDepth 20000 in
theorem kl_X11_444 : Cond.constantLong RX11 444 (Int64.ofInt 1664525) ∈ g_t := (tw5 124 rfl rfl)
set_option maxRecDepth 20000 in
theorem kl_X11_446 : Cond.constantLong RX11 446 (Int64.ofInt 1013904223) ∈ g_t := (tw5 125 rfl rfl)
set_option maxRecDepth 20000 in
theorem fd_X0_15 : g_fd RX0 15 0 0 := ⟨RX0, TX0, 2, tyX0, rfl, uw_X0, by decide, (tw1 41 rfl rfl), tyX0_ok, nmX0⟩
set_option maxRecDepth 20000 in
theorem fd_X0_21 : g_fd RX0 21 0 1 := ⟨RX0, TX0, 2, tyX0, rfl, uw_X0, by decide, (tw1 48 rfl rfl), tyX0_ok, nmX0⟩
set_option maxRecDepth 20000 in
theorem oi_X0_3 : Cond.methodLink RX0 3 objectInit ∈ g_t := (tw1 37 rfl rfl)
set_option maxRecDepth 20000 in
theorem mw_X0_9 : g_mw RX0 9 Lib.Math.max.name Lib.Math.max.code 2 := ⟨(tw1 38 rfl rfl), (tw1 39 rfl rfl), (tw1 4 rfl rfl), (tw1 40 rfl rfl)⟩
set_option maxRecDepth 20000 in
theorem mw_X0_25 : g_mw RX0 25 Lib.Math.min.name Lib.Math.min.code 2 := ⟨(tw3 49 rfl rfl), (tw3 50 rfl rfl), (tw1 4 rfl rfl), (tw3 51 rfl rfl)⟩
set_option maxRecDepth 20000 in
theorem ac_X0_28 : g_ac RX0 28 := ⟨(tw3 52 rfl rfl), (tw1 65 rfl rfl), (tw1 64 rfl rfl), (tw1 5 rfl rfl)⟩
set_option maxRecDepth 20000 in
theorem fd_X1_12 : g_fd RX1 12 1 0 := ⟨RX1, TX1, 11, tyX1, rfl, uw_X1, by decide, (tw2 164 rfl rfl), tyX1_ok, nmX1⟩
set_option maxRecDepth 20000 in
theorem fd_X1_23 : g_fd RX1 23 1 1 := ⟨RX1, TX1, 11, tyX1, rfl, uw_X1, by decide, (tw2 166 rfl rfl), tyX1_ok, nmX1⟩
set_option maxRecDepth 20000 in
theorem fd_X1_27 : g_fd RX1 27 1 2 := ⟨RX1, TX1, 11, tyX1, rfl, uw_X1, by decide, (tw2 167 rfl rfl), tyX1_ok, nmX1⟩
set_option maxRecDepth 20000 in
theorem fd_X1_31 : g_fd RX1 31 1 3 := ⟨RX1, TX1, 11, tyX1, rfl, uw_X1, by decide, (tw2 169 rfl rfl), tyX1_ok, nmX1⟩
set_option maxRecDepth 20000 in
theorem fd_X1_34 : g_fd RX1 34 1 5 := ⟨RX1, TX1, 11, tyX1, rfl, uw_X1, by decide, (tw2 174 rfl rfl), tyX1_ok, nmX1⟩
set_option maxRecDepth 20000 in
theorem fd_X1_37 : g_fd RX1 37 1 6 := ⟨RX1, TX1, 11, tyX1, rfl, uw_X1, by decide, (tw2 175 rfl rfl), tyX1_ok, nmX1⟩
set_option maxRecDepth 20000 in
theorem fd_X1_40 : g_fd RX1 40 1 7 := ⟨RX1, TX1, 11, tyX1, rfl, uw_X1, by decide, (tw2 176 rfl rfl), tyX1_ok, nmX1⟩
set_option maxRecDepth 20000 in
theorem fd_X1_46 : g_fd RX1 46 1 8 := ⟨RX1, TX1, 11, tyX1, rfl, uw_X1, by decide, (tw2 177 rfl rfl), tyX1_ok, nmX1⟩
set_option maxRecDepth 20000 in
theorem fd_X1_50 : g_fd RX1 50 1 9 := ⟨RX1, TX1, 11, tyX1, rfl, uw_X1, by decide, (tw2 178 rfl rfl), tyX1_ok, nmX1⟩
set_option maxRecDepth 20000 in
theorem fd_X1_53 : g_fd RX1 53 1 10 := ⟨RX1, TX1, 11, tyX1, rfl, uw_X1, by decide, (tw2 179 rfl rfl), tyX1_ok, nmX1⟩
set_option maxRecDepth 20000 in
theorem fd_X1_56 : g_fd RX1 56 2 4 := ⟨RX2, TX2, 10, tyX2, rfl, uw_X2, by decide, (tw1 93 rfl rfl), tyX2_ok, nmX2⟩
set_option maxRecDepth 20000 in
theorem fd_X1_57 : g_fd RX1 57 0 1 := ⟨RX0, TX0, 2, tyX0, rfl, uw_X0, by decide, (tw1 49 rfl rfl), tyX0_ok, nmX0⟩
set_option maxRecDepth 20000 in
theorem fd_X1_78 : g_fd RX1 78 1 4 := ⟨RX1, TX1, 11, tyX1, rfl, uw_X1, by decide, (tw2 171 rfl rfl), tyX1_ok, nmX1⟩
set_option maxRecDepth 20000 in
theorem fd_X1_81 : g_fd RX1 81 5 4 := ⟨RX5, TX5, 9, tyX5, rfl, uw_X5, by decide, (tw1 167 rfl rfl), tyX5_ok, nmX5⟩
set_option maxRecDepth 20000 in
theorem fd_X1_84 : g_fd RX1 84 5 0 := ⟨RX5, TX5, 9, tyX5, rfl, uw_X5, by decide, (tw1 159 rfl rfl), tyX5_ok, nmX5⟩
set_option maxRecDepth 20000 in
theorem fd_X1_94 : g_fd RX1 94 5 1 := ⟨RX5, TX5, 9, tyX5, rfl, uw_X5, by decide, (tw1 161 rfl rfl), tyX5_ok, nmX5⟩
set_option maxRecDepth 20000 in
theorem fd_X1_97 : g_fd RX1 97 5 3 := ⟨RX5, TX5, 9, tyX5, rfl, uw_X5, by decide, (tw1 165 rfl rfl), tyX5_ok, nmX5⟩
set_option maxRecDepth 20000 in
theorem fd_X1_100 : g_fd RX1 100 5 2 := ⟨RX5, TX5, 9, tyX5, rfl, uw_X5, by decide, (tw1 163 rfl rfl), tyX5_ok, nmX5⟩
set_option maxRecDepth 20000 in
theorem fd_X1_119 : g_fd RX1 119 2 2 := ⟨RX2, TX2, 10, tyX2, rfl, uw_X2, by decide, (tw1 89 rfl rfl), tyX2_ok, nmX2⟩
set_option maxRecDepth 20000 in
theorem fd_X1_122 : g_fd RX1 122 2 0 := ⟨RX2, TX2, 10, tyX2, rfl, uw_X2, by decide, (tw1 83 rfl rfl), tyX2_ok, nmX2⟩
set_option maxRecDepth 20000 in
theorem fd_X1_131 : g_fd RX1 131 2 3 := ⟨RX2, TX2, 10, tyX2, rfl, uw_X2, by decide, (tw1 91 rfl rfl), tyX2_ok, nmX2⟩
set_option maxRecDepth 20000 in
theorem fd_X1_134 : g_fd RX1 134 2 1 := ⟨RX2, TX2, 10, tyX2, rfl, uw_X2, by decide, (tw1 87 rfl rfl), tyX2_ok, nmX2⟩
set_option maxRecDepth 20000 in
theorem fd_X1_156 : g_fd RX1 156 2 7 := ⟨RX2, TX2, 10, tyX2, rfl, uw_X2, by decide, (tw1 102 rfl rfl), tyX2_ok, nmX2⟩
set_option maxRecDepth 20000 in
theorem fd_X1_187 : g_fd RX1 187 0 0 := ⟨RX0, TX0, 2, tyX0, rfl, uw_X0, by decide, (tw1 44 rfl rfl), tyX0_ok, nmX0⟩
set_option maxRecDepth 20000 in
theorem fd_X1_190 : g_fd RX1 190 2 8 := ⟨RX2, TX2, 10, tyX2, rfl, uw_X2, by decide, (tw1 106 rfl rfl), tyX2_ok, nmX2⟩
set_option maxRecDepth 20000 in
theorem fd_X1_201 : g_fd RX1 201 2 6 := ⟨RX2, TX2, 10, tyX2, rfl, uw_X2, by decide, (tw1 98 rfl rfl), tyX2_ok, nmX2⟩
set_option maxRecDepth 20000 in
theorem fd_X1_204 : g_fd RX1 204 2 5 := ⟨RX2, TX2, 10, tyX2, rfl, uw_X2, by decide, (tw1 95 rfl rfl), tyX2_ok, nmX2⟩
set_option maxRecDepth 20000 in
theorem oi_X1_3 : Cond.methodLink RX1 3 objectInit ∈ g_t := (tw2 157 rfl rfl)
set_option maxRecDepth 20000 in
theorem mi_X1_11 : g_md RX1 11 0 m_X5_init ∧ Cond.instanceMethod m_X5_init.1 ∈ g_t := ⟨⟨(tw2 159 rfl rfl), wi_X5, wc_X5_init, ⟨by decide, by decide, by decide +kernel⟩, by decide⟩, (tw1 155 rfl rfl)⟩
set_option maxRecDepth 20000 in
theorem mi_X1_20 : g_md RX1 20 1 m_X0_init ∧ Cond.instanceMethod m_X0_init.1 ∈ g_t := ⟨⟨(tw2 161 rfl rfl), wi_X0, wc_X0_init, ⟨by decide, by decide, by decide +kernel⟩, by decide⟩, (tw1 35 rfl rfl)⟩
set_option maxRecDepth 20000 in
theorem mi_X1_45 : g_md RX1 45 0 m_X2_init ∧ Cond.instanceMethod m_X2_init.1 ∈ g_t := ⟨⟨(tw2 163 rfl rfl), wi_X2, wc_X2_init, ⟨by decide, by decide, by decide +kernel⟩, by decide⟩, (tw1 69 rfl rfl)⟩
set_option maxRecDepth 20000 in
theorem mn_X1_103 : g_msn RX1 103 2 m_X11_onesFrom := ⟨by decide +kernel, wi_X11, wc_X11_onesFrom, ⟨by decide, by decide, by decide +kernel⟩, by decide, (tw3 210 rfl rfl)⟩
set_option maxRecDepth 20000 in
theorem mw_X1_111 : g_mw RX1 111 Lib.Math.max.name Lib.Math.max.code 2 := ⟨(tw4 218 rfl rfl), (tw1 39 rfl rfl), (tw1 4 rfl rfl), (tw1 40 rfl rfl)⟩
set_option maxRecDepth 20000 in
theorem mw_X1_116 : g_mw RX1 116 Lib.Math.min.name Lib.Math.min.code 2 := ⟨(tw4 219 rfl rfl), (tw3 50 rfl rfl), (tw1 4 rfl rfl), (tw3 51 rfl rfl)⟩
set_option maxRecDepth 20000 in
theorem ac_X1_125 : g_ac RX1 125 := ⟨(tw4 224 rfl rfl), (tw1 65 rfl rfl), (tw1 64 rfl rfl), (tw1 5 rfl rfl)⟩
set_option maxRecDepth 20000 in
theorem mn_X1_146 : g_msn RX1 146 2 m_X11_packed := ⟨by decide +kernel, wi_X11, wc_X11_packed, ⟨by decide, by decide, by decide +kernel⟩, by decide, (tw4 231 rfl rfl)⟩
set_option maxRecDepth 20000 in
theorem mn_X1_218 : g_msn RX1 218 2 m_X11_hasBit := ⟨by decide +kernel, wi_X11, wc_X11_hasBit, ⟨by decide, by decide, by decide +kernel⟩, by decide, (tw3 192 rfl rfl)⟩
set_option maxRecDepth 20000 in
theorem mv_X1_61 : g_mv RX1 61 2 0 m_X0_copyFirst := ⟨⟨(tw4 173 rfl rfl), wi_X0, wc_X0_copyFirst, ⟨by decide, by decide, by decide +kernel⟩, by decide⟩, (tw3 46 rfl rfl), (tw3 47 rfl rfl), _, rfl, rfl⟩
set_option maxRecDepth 20000 in
theorem mv_X1_65 : g_mv RX1 65 2 5 m_X5_readActs := ⟨⟨(tw4 174 rfl rfl), wi_X5, wc_X5_readActs, ⟨by decide, by decide, by decide +kernel⟩, by decide⟩, (tw4 175 rfl rfl), (tw4 176 rfl rfl), _, rfl, rfl⟩
set_option maxRecDepth 20000 in
theorem mv_X1_68 : g_mv RX1 68 0 1 m_X1_listSteps := ⟨⟨(tw4 197 rfl rfl), wi_X1, wc_X1_listSteps, ⟨by decide, by decide, by decide +kernel⟩, by decide⟩, (tw4 199 rfl rfl), (tq 32 rfl), _, rfl, rfl⟩
set_option maxRecDepth 20000 in
theorem mv_X1_71 : g_mv RX1 71 0 1 m_X1_markNeeded := ⟨⟨(tw4 209 rfl rfl), wi_X1, wc_X1_markNeeded, ⟨by decide, by decide, by decide +kernel⟩, by decide⟩, (tw4 211 rfl rfl), (tq 35 rfl), _, rfl, rfl⟩
set_option maxRecDepth 20000 in
theorem mv_X1_74 : g_mv RX1 74 1 1 m_X1_walkDue := ⟨⟨(tw4 220 rfl rfl), wi_X1, wc_X1_walkDue, ⟨by decide, by decide, by decide +kernel⟩, by decide⟩, (tw4 222 rfl rfl), (tq 37 rfl), _, rfl, rfl⟩
set_option maxRecDepth 20000 in
theorem mv_X1_87 : g_mv RX1 87 2 1 m_X1_append := ⟨⟨(tw4 201 rfl rfl), wi_X1, wc_X1_append, ⟨by decide, by decide, by decide +kernel⟩, by decide⟩, (tw4 203 rfl rfl), (tq 33 rfl), _, rfl, rfl⟩
set_option maxRecDepth 20000 in
theorem mv_X1_91 : g_mv RX1 91 1 1 m_X1_listBlocks := ⟨⟨(tw4 205 rfl rfl), wi_X1, wc_X1_listBlocks, ⟨by decide, by decide, by decide +kernel⟩, by decide⟩, (tw4 207 rfl rfl), (tq 34 rfl), _, rfl, rfl⟩
set_option maxRecDepth 20000 in
theorem mv_X1_107 : g_mv RX1 107 1 1 m_X1_bitsReadAt := ⟨⟨(tw4 214 rfl rfl), wi_X1, wc_X1_bitsReadAt, ⟨by decide, by decide, by decide +kernel⟩, by decide⟩, (tw4 216 rfl rfl), (tq 36 rfl), _, rfl, rfl⟩
set_option maxRecDepth 20000 in
theorem mv_X1_137 : g_mv RX1 137 1 2 m_X2_standAt := ⟨⟨(tw4 225 rfl rfl), wi_X2, wc_X2_standAt, ⟨by decide, by decide, by decide +kernel⟩, by decide⟩, (tw4 150 rfl rfl), (tw4 151 rfl rfl), _, rfl, rfl⟩
set_option maxRecDepth 20000 in
theorem mv_X1_140 : g_mv RX1 140 1 1 m_X1_noteDue := ⟨⟨(tw4 226 rfl rfl), wi_X1, wc_X1_noteDue, ⟨by decide, by decide, by decide +kernel⟩, by decide⟩, (tw4 228 rfl rfl), (tq 38 rfl), _, rfl, rfl⟩
set_option maxRecDepth 20000 in
theorem mv_X1_143 : g_mv RX1 143 1 1 m_X1_doStep := ⟨⟨(tw4 237 rfl rfl), wi_X1, wc_X1_doStep, ⟨by decide, by decide, by decide +kernel⟩, by decide⟩, (tw4 238 rfl rfl), (tw4 239 rfl rfl), _, rfl, rfl⟩
set_option maxRecDepth 20000 in
theorem mv_X1_150 : g_mv RX1 150 1 1 m_X1_actAt := ⟨⟨(tw4 233 rfl rfl), wi_X1, wc_X1_actAt, ⟨by decide, by decide, by decide +kernel⟩, by decide⟩, (tw4 235 rfl rfl), (tq 39 rfl), _, rfl, rfl⟩
set_option maxRecDepth 20000 in
theorem mv_X1_153 : g_mv RX1 153 2 1 m_X1_dueBlock := ⟨⟨(tw5 92 rfl rfl), wi_X1, wc_X1_dueBlock, ⟨by decide, by decide, by decide +kernel⟩, by decide⟩, (tw5 43 rfl rfl), (tw5 44 rfl rfl), _, rfl, rfl⟩
set_option maxRecDepth 20000 in
theorem mv_X1_159 : g_mv RX1 159 1 1 m_X1_hasLeft := ⟨⟨(tw5 1 rfl rfl), wi_X1, wc_X1_hasLeft, ⟨by decide, by decide, by decide +kernel⟩, by decide⟩, (tw5 2 rfl rfl), (tw5 3 rfl rfl), _, rfl, rfl⟩
set_option maxRecDepth 20000 in
theorem mv_X1_163 : g_mv RX1 163 3 1 m_X1_saveCells := ⟨⟨(tw5 5 rfl rfl), wi_X1, wc_X1_saveCells, ⟨by decide, by decide, by decide +kernel⟩, by decide⟩, (tw5 7 rfl rfl), (tq 40 rfl), _, rfl, rfl⟩
set_option maxRecDepth 20000 in
theorem mv_X1_167 : g_mv RX1 167 2 1 m_X1_readComing := ⟨⟨(tw5 9 rfl rfl), wi_X1, wc_X1_readComing, ⟨by decide, by decide, by decide +kernel⟩, by decide⟩, (tw5 11 rfl rfl), (tq 41 rfl), _, rfl, rfl⟩
set_option maxRecDepth 20000 in
theorem mv_X1_171 : g_mv RX1 171 3 2 m_X2_writeBlock := ⟨⟨(tw5 17 rfl rfl), wi_X2, wc_X2_writeBlock, ⟨by decide, by decide, by decide +kernel⟩, by decide⟩, (tw5 18 rfl rfl), (tw5 19 rfl rfl), _, rfl, rfl⟩
set_option maxRecDepth 20000 in
theorem mv_X1_179 : g_mv RX1 179 2 2 m_X2_writeJournal := ⟨⟨(tw5 60 rfl rfl), wi_X2, wc_X2_writeJournal, ⟨by decide, by decide, by decide +kernel⟩, by decide⟩, (tw5 61 rfl rfl), (tw5 62 rfl rfl), _, rfl, rfl⟩
set_option maxRecDepth 20000 in
theorem mv_X1_183 : g_mv RX1 183 3 1 m_X1_readCell := ⟨⟨(tw5 13 rfl rfl), wi_X1, wc_X1_readCell, ⟨by decide, by decide, by decide +kernel⟩, by decide⟩, (tw5 15 rfl rfl), (tq 42 rfl), _, rfl, rfl⟩
set_option maxRecDepth 20000 in
theorem mv_X1_193 : g_mv RX1 193 2 1 m_X1_look := ⟨⟨(tw5 76 rfl rfl), wi_X1, wc_X1_look, ⟨by decide, by decide, by decide +kernel⟩, by decide⟩, (tw5 77 rfl rfl), (tw5 78 rfl rfl), _, rfl, rfl⟩
set_option maxRecDepth 20000 in
theorem mv_X1_197 : g_mv RX1 197 1 1 m_X1_firstFit := ⟨⟨(tw5 80 rfl rfl), wi_X1, wc_X1_firstFit, ⟨by decide, by decide, by decide +kernel⟩, by decide⟩, (tw5 81 rfl rfl), (tw5 82 rfl rfl), _, rfl, rfl⟩
set_option maxRecDepth 20000 in
theorem mv_X1_207 : g_mv RX1 207 2 1 m_X1_isFit := ⟨⟨(tw5 84 rfl rfl), wi_X1, wc_X1_isFit, ⟨by decide, by decide, by decide +kernel⟩, by decide⟩, (tw5 85 rfl rfl), (tw5 86 rfl rfl), _, rfl, rfl⟩
set_option maxRecDepth 20000 in
theorem mv_X1_211 : g_mv RX1 211 1 1 m_X1_areBlocksDue := ⟨⟨(tw5 88 rfl rfl), wi_X1, wc_X1_areBlocksDue, ⟨by decide, by decide, by decide +kernel⟩, by decide⟩, (tw5 89 rfl rfl), (tw5 90 rfl rfl), _, rfl, rfl⟩
set_option maxRecDepth 20000 in
theorem mv_X1_215 : g_mv RX1 215 2 1 m_X1_isStashDue := ⟨⟨(tw5 93 rfl rfl), wi_X1, wc_X1_isStashDue, ⟨by decide, by decide, by decide +kernel⟩, by decide⟩, (tw5 95 rfl rfl), (tq 43 rfl), _, rfl, rfl⟩
set_option maxRecDepth 20000 in
theorem fd_X1_175 : g_fd RX1 175 2 9 := ⟨RX2, TX2, 10, tyX2, rfl, uw_X2, by decide, (tw1 109 rfl rfl), tyX2_ok, nmX2⟩
set_option maxRecDepth 20000 in
theorem fd_X2_9 : g_fd RX2 9 2 0 := ⟨RX2, TX2, 10, tyX2, rfl, uw_X2, by decide, (tw1 81 rfl rfl), tyX2_ok, nmX2⟩
set_option maxRecDepth 20000 in
theorem fd_X2_15 : g_fd RX2 15 2 1 := ⟨RX2, TX2, 10, tyX2, rfl, uw_X2, by decide, (tw1 84 rfl rfl), tyX2_ok, nmX2⟩
set_option maxRecDepth 20000 in
theorem fd_X2_18 : g_fd RX2 18 2 2 := ⟨RX2, TX2, 10, tyX2, rfl, uw_X2, by decide, (tw1 88 rfl rfl), tyX2_ok, nmX2⟩
set_option maxRecDepth 20000 in
theorem fd_X2_21 : g_fd RX2 21 2 3 := ⟨RX2, TX2, 10, tyX2, rfl, uw_X2, by decide, (tw1 90 rfl rfl), tyX2_ok, nmX2⟩
set_option maxRecDepth 20000 in
theorem fd_X2_29 : g_fd RX2 29 2 4 := ⟨RX2, TX2, 10, tyX2, rfl, uw_X2, by decide, (tw1 92 rfl rfl), tyX2_ok, nmX2⟩
set_option maxRecDepth 20000 in
theorem fd_X2_33 : g_fd RX2 33 2 5 := ⟨RX2, TX2, 10, tyX2, rfl, uw_X2, by decide, (tw1 94 rfl rfl), tyX2_ok, nmX2⟩
set_option maxRecDepth 20000 in
theorem fd_X2_42 : g_fd RX2 42 2 6 := ⟨RX2, TX2, 10, tyX2, rfl, uw_X2, by decide, (tw1 96 rfl rfl), tyX2_ok, nmX2⟩
set_option maxRecDepth 20000 in
theorem fd_X2_46 : g_fd RX2 46 2 8 := ⟨RX2, TX2, 10, tyX2, rfl, uw_X2, by decide, (tw1 104 rfl rfl), tyX2_ok, nmX2⟩
set_option maxRecDepth 20000 in
theorem fd_X2_50 : g_fd RX2 50 2 9 := ⟨RX2, TX2, 10, tyX2, rfl, uw_X2, by decide, (tw1 108 rfl rfl), tyX2_ok, nmX2⟩
set_option maxRecDepth 20000 in
theorem fd_X2_62 : g_fd RX2 62 0 1 := ⟨RX0, TX0, 2, tyX0, rfl, uw_X0, by decide, (tw1 52 rfl rfl), tyX0_ok, nmX0⟩
set_option maxRecDepth 20000 in
theorem fd_X2_69 : g_fd RX2 69 2 7 := ⟨RX2, TX2, 10, tyX2, rfl, uw_X2, by decide, (tw1 100 rfl rfl), tyX2_ok, nmX2⟩
set_option maxRecDepth 20000 in
theorem fd_X2_72 : g_fd RX2 72 0 0 := ⟨RX0, TX0, 2, tyX0, rfl, uw_X0, by decide, (tw1 42 rfl rfl), tyX0_ok, nmX0⟩
set_option maxRecDepth 20000 in
theorem oi_X2_3 : Cond.methodLink RX2 3 objectInit ∈ g_t := (tw1 71 rfl rfl)
set_option maxRecDepth 20000 in
theorem mi_X2_26 : g_md RX2 26 1 m_X0_init ∧ Cond.instanceMethod m_X0_init.1 ∈ g_t := ⟨⟨(tw1 73 rfl rfl), wi_X0, wc_X0_init, ⟨by decide, by decide, by decide +kernel⟩, by decide⟩, (tw1 35 rfl rfl)⟩
set_option maxRecDepth 20000 in
theorem ms_X2_36 : g_md RX2 36 2 m_J7_fill_53178 ∧ Cond.static m_J7_fill_53178.1 ∈ g_t := ⟨⟨(tw1 74 rfl rfl), wi_J7, wc_J7_fill_53178, ⟨by decide, by decide, by decide +kernel⟩, by decide⟩, (tw1 75 rfl rfl)⟩
set_option maxRecDepth 20000 in
theorem ac_X2_56 : g_ac RX2 56 := ⟨(tw4 139 rfl rfl), (tw1 65 rfl rfl), (tw1 64 rfl rfl), (tw1 5 rfl rfl)⟩
set_option maxRecDepth 20000 in
theorem mv_X2_53 : g_mv RX2 53 1 0 m_X0_push := ⟨⟨(tw1 77 rfl rfl), wi_X0, wc_X0_push, ⟨by decide, by decide, by decide +kernel⟩, by decide⟩, (tw1 78 rfl rfl), (tw1 79 rfl rfl), _, rfl, rfl⟩
set_option maxRecDepth 20000 in
theorem mv_X2_65 : g_mv RX2 65 2 0 m_X0_copyFirst := ⟨⟨(tw4 140 rfl rfl), wi_X0, wc_X0_copyFirst, ⟨by decide, by decide, by decide +kernel⟩, by decide⟩, (tw3 46 rfl rfl), (tw3 47 rfl rfl), _, rfl, rfl⟩
set_option maxRecDepth 20000 in
theorem mv_X2_75 : g_mv RX2 75 0 2 m_X2_startHere := ⟨⟨(tw4 145 rfl rfl), wi_X2, wc_X2_startHere, ⟨by decide, by decide, by decide +kernel⟩, by decide⟩, (tw4 147 rfl rfl), (tq 25 rfl), _, rfl, rfl⟩
set_option maxRecDepth 20000 in
theorem mv_X2_78 : g_mv RX2 78 1 2 m_X2_standAt := ⟨⟨(tw4 149 rfl rfl), wi_X2, wc_X2_standAt, ⟨by decide, by decide, by decide +kernel⟩, by decide⟩, (tw4 150 rfl rfl), (tw4 151 rfl rfl), _, rfl, rfl⟩
set_option maxRecDepth 20000 in
theorem fd_X3_11 : g_fd RX3 11 3 0 := ⟨RX3, TX3, 3, tyX3, rfl, uw_X3, by decide, (tw1 204 rfl rfl), tyX3_ok, nmX3⟩
set_option maxRecDepth 20000 in
theorem fd_X3_18 : g_fd RX3 18 3 2 := ⟨RX3, TX3, 3, tyX3, rfl, uw_X3, by decide, (tw1 206 rfl rfl), tyX3_ok, nmX3⟩
set_option maxRecDepth 20000 in
theorem fd_X3_22 : g_fd RX3 22 3 1 := ⟨RX3, TX3, 3, tyX3, rfl, uw_X3, by decide, (tw1 205 rfl rfl), tyX3_ok, nmX3⟩
set_option maxRecDepth 20000 in
theorem oi_X3_3 : Cond.methodLink RX3 3 objectInit ∈ g_t := (tw1 200 rfl rfl)
set_option maxRecDepth 20000 in
theorem mi_X3_17 : g_md RX3 17 0 m_X2_init ∧ Cond.instanceMethod m_X2_init.1 ∈ g_t := ⟨⟨(tw1 203 rfl rfl), wi_X2, wc_X2_init, ⟨by decide, by decide, by decide +kernel⟩, by decide⟩, (tw1 69 rfl rfl)⟩
set_option maxRecDepth 20000 in
theorem mv_X3_25 : g_mv RX3 25 1 2 m_X2_copyFrom := ⟨⟨(tw4 135 rfl rfl), wi_X2, wc_X2_copyFrom, ⟨by decide, by decide, by decide +kernel⟩, by decide⟩, (tw4 136 rfl rfl), (tw4 137 rfl rfl), _, rfl, rfl⟩
set_option maxRecDepth 20000 in
theorem fd_X4_11 : g_fd RX4 11 4 0 := ⟨RX4, TX4, 12, tyX4, rfl, uw_X4, by decide, (tw2 106 rfl rfl), tyX4_ok, nmX4⟩
set_option maxRecDepth 20000 in
theorem fd_X4_15 : g_fd RX4 15 4 1 := ⟨RX4, TX4, 12, tyX4, rfl, uw_X4, by decide, (tw2 108 rfl rfl), tyX4_ok, nmX4⟩
set_option maxRecDepth 20000 in
theorem fd_X4_18 : g_fd RX4 18 4 2 := ⟨RX4, TX4, 12, tyX4, rfl, uw_X4, by decide, (tw2 110 rfl rfl), tyX4_ok, nmX4⟩
set_option maxRecDepth 20000 in
theorem fd_X4_21 : g_fd RX4 21 4 3 := ⟨RX4, TX4, 12, tyX4, rfl, uw_X4, by decide, (tw2 112 rfl rfl), tyX4_ok, nmX4⟩
set_option maxRecDepth 20000 in
theorem fd_X4_29 : g_fd RX4 29 4 4 := ⟨RX4, TX4, 12, tyX4, rfl, uw_X4, by decide, (tw2 113 rfl rfl), tyX4_ok, nmX4⟩
set_option maxRecDepth 20000 in
theorem fd_X4_33 : g_fd RX4 33 4 8 := ⟨RX4, TX4, 12, tyX4, rfl, uw_X4, by decide, (tw2 120 rfl rfl), tyX4_ok, nmX4⟩
set_option maxRecDepth 20000 in
theorem fd_X4_41 : g_fd RX4 41 4 9 := ⟨RX4, TX4, 12, tyX4, rfl, uw_X4, by decide, (tw2 122 rfl rfl), tyX4_ok, nmX4⟩
set_option maxRecDepth 20000 in
theorem fd_X4_44 : g_fd RX4 44 4 5 := ⟨RX4, TX4, 12, tyX4, rfl, uw_X4, by decide, (tw2 115 rfl rfl), tyX4_ok, nmX4⟩
set_option maxRecDepth 20000 in
theorem fd_X4_47 : g_fd RX4 47 4 6 := ⟨RX4, TX4, 12, tyX4, rfl, uw_X4, by decide, (tw2 117 rfl rfl), tyX4_ok, nmX4⟩
set_option maxRecDepth 20000 in
theorem fd_X4_50 : g_fd RX4 50 4 7 := ⟨RX4, TX4, 12, tyX4, rfl, uw_X4, by decide, (tw2 119 rfl rfl), tyX4_ok, nmX4⟩
set_option maxRecDepth 20000 in
theorem fd_X4_53 : g_fd RX4 53 4 10 := ⟨RX4, TX4, 12, tyX4, rfl, uw_X4, by decide, (tw2 124 rfl rfl), tyX4_ok, nmX4⟩
set_option maxRecDepth 20000 in
theorem fd_X4_56 : g_fd RX4 56 4 11 := ⟨RX4, TX4, 12, tyX4, rfl, uw_X4, by decide, (tw2 125 rfl rfl), tyX4_ok, nmX4⟩
set_option maxRecDepth 20000 in
theorem fd_X4_87 : g_fd RX4 87 7 8 := ⟨RX7, TX7, 12, tyX7, rfl, uw_X7, by decide, (tw2 64 rfl rfl), tyX7_ok, nmX7⟩
set_option maxRecDepth 20000 in
theorem fd_X4_90 : g_fd RX4 90 7 4 := ⟨RX7, TX7, 12, tyX7, rfl, uw_X7, by decide, (tw2 56 rfl rfl), tyX7_ok, nmX7⟩
set_option maxRecDepth 20000 in
theorem fd_X4_96 : g_fd RX4 96 7 3 := ⟨RX7, TX7, 12, tyX7, rfl, uw_X7, by decide, (tw2 52 rfl rfl), tyX7_ok, nmX7⟩
set_option maxRecDepth 20000 in
theorem fd_X4_107 : g_fd RX4 107 7 0 := ⟨RX7, TX7, 12, tyX7, rfl, uw_X7, by decide, (tw2 42 rfl rfl), tyX7_ok, nmX7⟩
set_option maxRecDepth 20000 in
theorem fd_X4_110 : g_fd RX4 110 7 5 := ⟨RX7, TX7, 12, tyX7, rfl, uw_X7, by decide, (tw2 59 rfl rfl), tyX7_ok, nmX7⟩
set_option maxRecDepth 20000 in
theorem fd_X4_144 : g_fd RX4 144 0 1 := ⟨RX0, TX0, 2, tyX0, rfl, uw_X0, by decide, (tw1 54 rfl rfl), tyX0_ok, nmX0⟩
set_option maxRecDepth 20000 in
theorem fd_X4_152 : g_fd RX4 152 7 2 := ⟨RX7, TX7, 12, tyX7, rfl, uw_X7, by decide, (tw2 48 rfl rfl), tyX7_ok, nmX7⟩
set_option maxRecDepth 20000 in
theorem fd_X4_159 : g_fd RX4 159 7 1 := ⟨RX7, TX7, 12, tyX7, rfl, uw_X7, by decide, (tw2 46 rfl rfl), tyX7_ok, nmX7⟩
set_option maxRecDepth 20000 in
theorem oi_X4_3 : Cond.methodLink RX4 3 objectInit ∈ g_t := (tw2 103 rfl rfl)
set_option maxRecDepth 20000 in
theorem mi_X4_26 : g_md RX4 26 1 m_X0_init ∧ Cond.instanceMethod m_X0_init.1 ∈ g_t := ⟨⟨(tw2 105 rfl rfl), wi_X0, wc_X0_init, ⟨by decide, by decide, by decide +kernel⟩, by decide⟩, (tw1 35 rfl rfl)⟩
set_option maxRecDepth 20000 in
theorem mn_X4_37 : g_msn RX4 37 2 m_X11_hasBit := ⟨by decide +kernel, wi_X11, wc_X11_hasBit, ⟨by decide, by decide, by decide +kernel⟩, by decide, (tw3 192 rfl rfl)⟩
set_option maxRecDepth 20000 in
theorem mn_X4_69 : g_msn RX4 69 1 m_X11_lowestBit := ⟨by decide +kernel, wi_X11, wc_X11_lowestBit, ⟨by decide, by decide, by decide +kernel⟩, by decide, (tw3 195 rfl rfl)⟩
set_option maxRecDepth 20000 in
theorem mn_X4_99 : g_msn RX4 99 2 m_X11_onesFrom := ⟨by decide +kernel, wi_X11, wc_X11_onesFrom, ⟨by decide, by decide, by decide +kernel⟩, by decide, (tw3 210 rfl rfl)⟩
set_option maxRecDepth 20000 in
theorem ms_X4_134 : g_md RX4 134 1 m_J6_bitCount_0f7a4 ∧ Cond.static m_J6_bitCount_0f7a4.1 ∈ g_t := ⟨⟨(tw3 237 rfl rfl), wi_J6, wc_J6_bitCount_0f7a4, ⟨by decide, by decide, by decide +kernel⟩, by decide⟩, (tw3 238 rfl rfl)⟩
set_option maxRecDepth 20000 in
theorem mw_X4_139 : g_mw RX4 139 Lib.Math.max.name Lib.Math.max.code 2 := ⟨(tw4 7 rfl rfl), (tw1 39 rfl rfl), (tw1 4 rfl rfl), (tw1 40 rfl rfl)⟩
set_option maxRecDepth 20000 in
theorem mv_X4_59 : g_mv RX4 59 0 7 m_X7_writers := ⟨⟨(tw3 175 rfl rfl), wi_X7, wc_X7_writers, ⟨by decide, by decide, by decide +kernel⟩, by decide⟩, (tw3 176 rfl rfl), (tw3 177 rfl rfl), _, rfl, rfl⟩
set_option maxRecDepth 20000 in
theorem mv_X4_65 : g_mv RX4 65 1 4 m_X4_blockedBits := ⟨⟨(tw3 179 rfl rfl), wi_X4, wc_X4_blockedBits, ⟨by decide, by decide, by decide +kernel⟩, by decide⟩, (tw3 181 rfl rfl), (tq 10 rfl), _, rfl, rfl⟩
set_option maxRecDepth 20000 in
theorem mv_X4_73 : g_mv RX4 73 2 4 m_X4_finish := ⟨⟨(tw3 201 rfl rfl), wi_X4, wc_X4_finish, ⟨by decide, by decide, by decide +kernel⟩, by decide⟩, (tw3 203 rfl rfl), (tq 12 rfl), _, rfl, rfl⟩
set_option maxRecDepth 20000 in
theorem mv_X4_77 : g_mv RX4 77 3 4 m_X4_breakRing := ⟨⟨(tw3 216 rfl rfl), wi_X4, wc_X4_breakRing, ⟨by decide, by decide, by decide +kernel⟩, by decide⟩, (tw3 218 rfl rfl), (tq 14 rfl), _, rfl, rfl⟩
set_option maxRecDepth 20000 in
theorem mv_X4_81 : g_mv RX4 81 0 7 m_X7_movers := ⟨⟨(tw3 187 rfl rfl), wi_X7, wc_X7_movers, ⟨by decide, by decide, by decide +kernel⟩, by decide⟩, (tw3 188 rfl rfl), (tw3 189 rfl rfl), _, rfl, rfl⟩
set_option maxRecDepth 20000 in
theorem mv_X4_84 : g_mv RX4 84 1 4 m_X4_readers := ⟨⟨(tw3 183 rfl rfl), wi_X4, wc_X4_readers, ⟨by decide, by decide, by decide +kernel⟩, by decide⟩, (tw3 185 rfl rfl), (tq 11 rfl), _, rfl, rfl⟩
set_option maxRecDepth 20000 in
theorem mv_X4_93 : g_mv RX4 93 1 4 m_X4_fateOf := ⟨⟨(tw3 205 rfl rfl), wi_X4, wc_X4_fateOf, ⟨by decide, by decide, by decide +kernel⟩, by decide⟩, (tw3 206 rfl rfl), (tw3 207 rfl rfl), _, rfl, rfl⟩
set_option maxRecDepth 20000 in
theorem mv_X4_103 : g_mv RX4 103 4 4 m_X4_append := ⟨⟨(tw3 212 rfl rfl), wi_X4, wc_X4_append, ⟨by decide, by decide, by decide +kernel⟩, by decide⟩, (tw3 214 rfl rfl), (tq 13 rfl), _, rfl, rfl⟩
set_option maxRecDepth 20000 in
theorem mv_X4_114 : g_mv RX4 114 2 6 m_X6_members := ⟨⟨(tw3 220 rfl rfl), wi_X6, wc_X6_members, ⟨by decide, by decide, by decide +kernel⟩, by decide⟩, (tw3 221 rfl rfl), (tw3 222 rfl rfl), _, rfl, rfl⟩
set_option maxRecDepth 20000 in
theorem mv_X4_120 : g_mv RX4 120 2 4 m_X4_freePlace := ⟨⟨(tw3 225 rfl rfl), wi_X4, wc_X4_freePlace, ⟨by decide, by decide, by decide +kernel⟩, by decide⟩, (tw3 227 rfl rfl), (tq 15 rfl), _, rfl, rfl⟩
set_option maxRecDepth 20000 in
theorem mv_X4_123 : g_mv RX4 123 4 4 m_X4_isPreferred := ⟨⟨(tw3 229 rfl rfl), wi_X4, wc_X4_isPreferred, ⟨by decide, by decide, by decide +kernel⟩, by decide⟩, (tw3 231 rfl rfl), (tq 16 rfl), _, rfl, rfl⟩
set_option maxRecDepth 20000 in
theorem mv_X4_127 : g_mv RX4 127 3 4 m_X4_saveCopy := ⟨⟨(tw4 3 rfl rfl), wi_X4, wc_X4_saveCopy, ⟨by decide, by decide, by decide +kernel⟩, by decide⟩, (tw4 5 rfl rfl), (tq 18 rfl), _, rfl, rfl⟩
set_option maxRecDepth 20000 in
theorem mv_X4_130 : g_mv RX4 130 2 4 m_X4_waiting := ⟨⟨(tw3 233 rfl rfl), wi_X4, wc_X4_waiting, ⟨by decide, by decide, by decide +kernel⟩, by decide⟩, (tw3 235 rfl rfl), (tq 17 rfl), _, rfl, rfl⟩
set_option maxRecDepth 20000 in
theorem mv_X4_145 : g_mv RX4 145 1 0 m_X0_push := ⟨⟨(tw4 12 rfl rfl), wi_X0, wc_X0_push, ⟨by decide, by decide, by decide +kernel⟩, by decide⟩, (tw1 78 rfl rfl), (tw1 79 rfl rfl), _, rfl, rfl⟩
set_option maxRecDepth 20000 in
theorem mv_X4_148 : g_mv RX4 148 3 4 m_X4_writeAct := ⟨⟨(tw4 13 rfl rfl), wi_X4, wc_X4_writeAct, ⟨by decide, by decide, by decide +kernel⟩, by decide⟩, (tw4 15 rfl rfl), (tq 19 rfl), _, rfl, rfl⟩
set_option maxRecDepth 20000 in
theorem mv_X4_155 : g_mv RX4 155 3 4 m_X4_pushThree := ⟨⟨(tw4 17 rfl rfl), wi_X4, wc_X4_pushThree, ⟨by decide, by decide, by decide +kernel⟩, by decide⟩, (tw4 19 rfl rfl), (tq 20 rfl), _, rfl, rfl⟩
set_option maxRecDepth 20000 in
theorem mv_X4_162 : g_mv RX4 162 1 0 m_X0_at := ⟨⟨(tw4 21 rfl rfl), wi_X0, wc_X0_at, ⟨by decide, by decide, by decide +kernel⟩, by decide⟩, (tw3 62 rfl rfl), (tw3 63 rfl rfl), _, rfl, rfl⟩
set_option maxRecDepth 20000 in
theorem fd_X5_9 : g_fd RX5 9 5 0 := ⟨RX5, TX5, 9, tyX5, rfl, uw_X5, by decide, (tw1 158 rfl rfl), tyX5_ok, nmX5⟩
set_option maxRecDepth 20000 in
theorem fd_X5_15 : g_fd RX5 15 5 1 := ⟨RX5, TX5, 9, tyX5, rfl, uw_X5, by decide, (tw1 160 rfl rfl), tyX5_ok, nmX5⟩
set_option maxRecDepth 20000 in
theorem fd_X5_18 : g_fd RX5 18 5 2 := ⟨RX5, TX5, 9, tyX5, rfl, uw_X5, by decide, (tw1 162 rfl rfl), tyX5_ok, nmX5⟩
set_option maxRecDepth 20000 in
theorem fd_X5_21 : g_fd RX5 21 5 3 := ⟨RX5, TX5, 9, tyX5, rfl, uw_X5, by decide, (tw1 164 rfl rfl), tyX5_ok, nmX5⟩
set_option maxRecDepth 20000 in
theorem fd_X5_28 : g_fd RX5 28 5 4 := ⟨RX5, TX5, 9, tyX5, rfl, uw_X5, by decide, (tw1 166 rfl rfl), tyX5_ok, nmX5⟩
set_option maxRecDepth 20000 in
theorem fd_X5_31 : g_fd RX5 31 5 5 := ⟨RX5, TX5, 9, tyX5, rfl, uw_X5, by decide, (tw1 169 rfl rfl), tyX5_ok, nmX5⟩
set_option maxRecDepth 20000 in
theorem fd_X5_34 : g_fd RX5 34 5 7 := ⟨RX5, TX5, 9, tyX5, rfl, uw_X5, by decide, (tw1 173 rfl rfl), tyX5_ok, nmX5⟩
set_option maxRecDepth 20000 in
theorem fd_X5_37 : g_fd RX5 37 0 1 := ⟨RX0, TX0, 2, tyX0, rfl, uw_X0, by decide, (tw1 51 rfl rfl), tyX0_ok, nmX0⟩
set_option maxRecDepth 20000 in
theorem fd_X5_51 : g_fd RX5 51 5 8 := ⟨RX5, TX5, 9, tyX5, rfl, uw_X5, by decide, (tw1 174 rfl rfl), tyX5_ok, nmX5⟩
set_option maxRecDepth 20000 in
theorem oi_X5_3 : Cond.methodLink RX5 3 objectInit ∈ g_t := (tw1 157 rfl rfl)
set_option maxRecDepth 20000 in
theorem mw_X5_42 : g_mw RX5 42 Lib.Math.min.name Lib.Math.min.code 2 := ⟨(tw4 178 rfl rfl), (tw3 50 rfl rfl), (tw1 4 rfl rfl), (tw3 51 rfl rfl)⟩
set_option maxRecDepth 20000 in
theorem mw_X5_48 : g_mw RX5 48 Lib.Math.max.name Lib.Math.max.code 2 := ⟨(tw4 179 rfl rfl), (tw1 39 rfl rfl), (tw1 4 rfl rfl), (tw1 40 rfl rfl)⟩
set_option maxRecDepth 20000 in
theorem mv_X5_54 : g_mv RX5 54 3 5 m_X5_readNumber := ⟨⟨(tw4 180 rfl rfl), wi_X5, wc_X5_readNumber, ⟨by decide, by decide, by decide +kernel⟩, by decide⟩, (tw4 182 rfl rfl), (tq 28 rfl), _, rfl, rfl⟩
set_option maxRecDepth 20000 in
theorem mv_X5_58 : g_mv RX5 58 1 0 m_X0_at := ⟨⟨(tw4 188 rfl rfl), wi_X0, wc_X0_at, ⟨by decide, by decide, by decide +kernel⟩, by decide⟩, (tw3 62 rfl rfl), (tw3 63 rfl rfl), _, rfl, rfl⟩
set_option maxRecDepth 20000 in
theorem mv_X5_61 : g_mv RX5 61 2 5 m_X5_fail := ⟨⟨(tw4 184 rfl rfl), wi_X5, wc_X5_fail, ⟨by decide, by decide, by decide +kernel⟩, by decide⟩, (tw4 186 rfl rfl), (tq 29 rfl), _, rfl, rfl⟩
set_option maxRecDepth 20000 in
theorem mv_X5_65 : g_mv RX5 65 2 5 m_X5_readAct := ⟨⟨(tw4 189 rfl rfl), wi_X5, wc_X5_readAct, ⟨by decide, by decide, by decide +kernel⟩, by decide⟩, (tw4 191 rfl rfl), (tq 30 rfl), _, rfl, rfl⟩
set_option maxRecDepth 20000 in
theorem mv_X5_69 : g_mv RX5 69 1 5 m_X5_passCells := ⟨⟨(tw4 193 rfl rfl), wi_X5, wc_X5_passCells, ⟨by decide, by decide, by decide +kernel⟩, by decide⟩, (tw4 195 rfl rfl), (tq 31 rfl), _, rfl, rfl⟩
set_option maxRecDepth 20000 in
theorem fd_X5_24 : g_fd RX5 24 5 6 := ⟨RX5, TX5, 9, tyX5, rfl, uw_X5, by decide, (tw1 171 rfl rfl), tyX5_ok, nmX5⟩
set_option maxRecDepth 20000 in
theorem fd_X6_9 : g_fd RX6 9 6 0 := ⟨RX6, TX6, 9, tyX6, rfl, uw_X6, by decide, (tw2 6 rfl rfl), tyX6_ok, nmX6⟩
set_option maxRecDepth 20000 in
theorem fd_X6_15 : g_fd RX6 15 6 1 := ⟨RX6, TX6, 9, tyX6, rfl, uw_X6, by decide, (tw2 7 rfl rfl), tyX6_ok, nmX6⟩
set_option maxRecDepth 20000 in
theorem fd_X6_18 : g_fd RX6 18 6 2 := ⟨RX6, TX6, 9, tyX6, rfl, uw_X6, by decide, (tw2 8 rfl rfl), tyX6_ok, nmX6⟩
set_option maxRecDepth 20000 in
theorem fd_X6_25 : g_fd RX6 25 6 3 := ⟨RX6, TX6, 9, tyX6, rfl, uw_X6, by decide, (tw2 10 rfl rfl), tyX6_ok, nmX6⟩
set_option maxRecDepth 20000 in
theorem fd_X6_37 : g_fd RX6 37 6 4 := ⟨RX6, TX6, 9, tyX6, rfl, uw_X6, by decide, (tw2 12 rfl rfl), tyX6_ok, nmX6⟩
set_option maxRecDepth 20000 in
theorem fd_X6_41 : g_fd RX6 41 7 4 := ⟨RX7, TX7, 12, tyX7, rfl, uw_X7, by decide, (tw2 55 rfl rfl), tyX7_ok, nmX7⟩
set_option maxRecDepth 20000 in
theorem fd_X6_54 : g_fd RX6 54 6 5 := ⟨RX6, TX6, 9, tyX6, rfl, uw_X6, by decide, (tw2 14 rfl rfl), tyX6_ok, nmX6⟩
set_option maxRecDepth 20000 in
theorem fd_X6_57 : g_fd RX6 57 6 7 := ⟨RX6, TX6, 9, tyX6, rfl, uw_X6, by decide, (tw2 18 rfl rfl), tyX6_ok, nmX6⟩
set_option maxRecDepth 20000 in
theorem fd_X6_69 : g_fd RX6 69 7 8 := ⟨RX7, TX7, 12, tyX7, rfl, uw_X7, by decide, (tw2 65 rfl rfl), tyX7_ok, nmX7⟩
set_option maxRecDepth 20000 in
theorem fd_X6_72 : g_fd RX6 72 7 3 := ⟨RX7, TX7, 12, tyX7, rfl, uw_X7, by decide, (tw2 51 rfl rfl), tyX7_ok, nmX7⟩
set_option maxRecDepth 20000 in
theorem oi_X6_3 : Cond.methodLink RX6 3 objectInit ∈ g_t := (tw2 5 rfl rfl)
set_option maxRecDepth 20000 in
theorem mn_X6_21 : g_msn RX6 21 2 m_X11_hasBit := ⟨by decide +kernel, wi_X11, wc_X11_hasBit, ⟨by decide, by decide, by decide +kernel⟩, by decide, (tw3 192 rfl rfl)⟩
set_option maxRecDepth 20000 in
theorem ms_X6_29 : g_md RX6 29 2 m_X6_leadingInto ∧ Cond.static m_X6_leadingInto.1 ∈ g_t := ⟨⟨(tw4 50 rfl rfl), wi_X6, wc_X6_leadingInto, ⟨by decide, by decide, by decide +kernel⟩, by decide⟩, (tw4 51 rfl rfl)⟩
set_option maxRecDepth 20000 in
theorem mn_X6_33 : g_msn RX6 33 1 m_X11_lowestBit := ⟨by decide +kernel, wi_X11, wc_X11_lowestBit, ⟨by decide, by decide, by decide +kernel⟩, by decide, (tw3 195 rfl rfl)⟩
set_option maxRecDepth 20000 in
theorem ms_X6_60 : g_md RX6 60 1 m_J6_bitCount_0f7a4 ∧ Cond.static m_J6_bitCount_0f7a4.1 ∈ g_t := ⟨⟨(tw4 65 rfl rfl), wi_J6, wc_J6_bitCount_0f7a4, ⟨by decide, by decide, by decide +kernel⟩, by decide⟩, (tw3 238 rfl rfl)⟩
set_option maxRecDepth 20000 in
theorem ms_X6_75 : g_md RX6 75 2 m_X6_isWithoutRing ∧ Cond.static m_X6_isWithoutRing.1 ∈ g_t := ⟨⟨(tw4 70 rfl rfl), wi_X6, wc_X6_isWithoutRing, ⟨by decide, by decide, by decide +kernel⟩, by decide⟩, (tw4 71 rfl rfl)⟩
set_option maxRecDepth 20000 in
theorem mv_X6_46 : g_mv RX6 46 0 7 m_X7_movers := ⟨⟨(tw4 62 rfl rfl), wi_X7, wc_X7_movers, ⟨by decide, by decide, by decide +kernel⟩, by decide⟩, (tw3 188 rfl rfl), (tw3 189 rfl rfl), _, rfl, rfl⟩
set_option maxRecDepth 20000 in
theorem mv_X6_50 : g_mv RX6 50 2 6 m_X6_members := ⟨⟨(tw4 63 rfl rfl), wi_X6, wc_X6_members, ⟨by decide, by decide, by decide +kernel⟩, by decide⟩, (tw3 221 rfl rfl), (tw3 222 rfl rfl), _, rfl, rfl⟩
set_option maxRecDepth 20000 in
theorem mv_X6_65 : g_mv RX6 65 3 6 m_X6_weighSet := ⟨⟨(tw4 66 rfl rfl), wi_X6, wc_X6_weighSet, ⟨by decide, by decide, by decide +kernel⟩, by decide⟩, (tw4 68 rfl rfl), (tq 21 rfl), _, rfl, rfl⟩
set_option maxRecDepth 20000 in
theorem kc_X6_53 : Cond.constant RX6 53 (Int32.ofInt 1048576) ∈ g_t := (tw4 64 rfl rfl)
set_option maxRecDepth 20000 in
theorem fd_X6_79 : g_fd RX6 79 6 6 := ⟨RX6, TX6, 9, tyX6, rfl, uw_X6, by decide, (tw2 16 rfl rfl), tyX6_ok, nmX6⟩
set_option maxRecDepth 20000 in
theorem fd_X6_82 : g_fd RX6 82 6 8 := ⟨RX6, TX6, 9, tyX6, rfl, uw_X6, by decide, (tw2 20 rfl rfl), tyX6_ok, nmX6⟩
set_option maxRecDepth 20000 in
theorem fd_X7_9 : g_fd RX7 9 7 0 := ⟨RX7, TX7, 12, tyX7, rfl, uw_X7, by decide, (tw2 41 rfl rfl), tyX7_ok, nmX7⟩
set_option maxRecDepth 20000 in
theorem fd_X7_15 : g_fd RX7 15 7 1 := ⟨RX7, TX7, 12, tyX7, rfl, uw_X7, by decide, (tw2 44 rfl rfl), tyX7_ok, nmX7⟩
set_option maxRecDepth 20000 in
theorem fd_X7_18 : g_fd RX7 18 7 2 := ⟨RX7, TX7, 12, tyX7, rfl, uw_X7, by decide, (tw2 47 rfl rfl), tyX7_ok, nmX7⟩
set_option maxRecDepth 20000 in
theorem fd_X7_21 : g_fd RX7 21 7 3 := ⟨RX7, TX7, 12, tyX7, rfl, uw_X7, by decide, (tw2 50 rfl rfl), tyX7_ok, nmX7⟩
set_option maxRecDepth 20000 in
theorem fd_X7_24 : g_fd RX7 24 7 4 := ⟨RX7, TX7, 12, tyX7, rfl, uw_X7, by decide, (tw2 54 rfl rfl), tyX7_ok, nmX7⟩
set_option maxRecDepth 20000 in
theorem fd_X7_30 : g_fd RX7 30 7 5 := ⟨RX7, TX7, 12, tyX7, rfl, uw_X7, by decide, (tw2 58 rfl rfl), tyX7_ok, nmX7⟩
set_option maxRecDepth 20000 in
theorem fd_X7_34 : g_fd RX7 34 7 6 := ⟨RX7, TX7, 12, tyX7, rfl, uw_X7, by decide, (tw2 61 rfl rfl), tyX7_ok, nmX7⟩
set_option maxRecDepth 20000 in
theorem fd_X7_37 : g_fd RX7 37 7 7 := ⟨RX7, TX7, 12, tyX7, rfl, uw_X7, by decide, (tw2 62 rfl rfl), tyX7_ok, nmX7⟩
set_option maxRecDepth 20000 in
theorem fd_X7_40 : g_fd RX7 40 7 8 := ⟨RX7, TX7, 12, tyX7, rfl, uw_X7, by decide, (tw2 63 rfl rfl), tyX7_ok, nmX7⟩
set_option maxRecDepth 20000 in
theorem fd_X7_44 : g_fd RX7 44 7 9 := ⟨RX7, TX7, 12, tyX7, rfl, uw_X7, by decide, (tw2 67 rfl rfl), tyX7_ok, nmX7⟩
set_option maxRecDepth 20000 in
theorem fd_X7_47 : g_fd RX7 47 7 10 := ⟨RX7, TX7, 12, tyX7, rfl, uw_X7, by decide, (tw2 69 rfl rfl), tyX7_ok, nmX7⟩
set_option maxRecDepth 20000 in
theorem fd_X7_50 : g_fd RX7 50 7 11 := ⟨RX7, TX7, 12, tyX7, rfl, uw_X7, by decide, (tw2 71 rfl rfl), tyX7_ok, nmX7⟩
set_option maxRecDepth 20000 in
theorem fd_X7_53 : g_fd RX7 53 0 1 := ⟨RX0, TX0, 2, tyX0, rfl, uw_X0, by decide, (tw1 53 rfl rfl), tyX0_ok, nmX0⟩
set_option maxRecDepth 20000 in
theorem oi_X7_3 : Cond.methodLink RX7 3 objectInit ∈ g_t := (tw1 239 rfl rfl)
set_option maxRecDepth 20000 in
theorem mi_X7_29 : g_md RX7 29 0 m_X6_init ∧ Cond.instanceMethod m_X6_init.1 ∈ g_t := ⟨⟨(tw2 2 rfl rfl), wi_X6, wc_X6_init, ⟨by decide, by decide, by decide +kernel⟩, by decide⟩, (tw2 3 rfl rfl)⟩
set_option maxRecDepth 20000 in
theorem mw_X7_64 : g_mw RX7 64 Lib.Math.abs.name Lib.Math.abs.code 1 := ⟨(tw3 124 rfl rfl), (tw3 125 rfl rfl), (tw1 4 rfl rfl), (tw3 126 rfl rfl)⟩
set_option maxRecDepth 20000 in
theorem ms_X7_89 : g_md RX7 89 2 m_J7_fill_53178 ∧ Cond.static m_J7_fill_53178.1 ∈ g_t := ⟨⟨(tw3 140 rfl rfl), wi_J7, wc_J7_fill_53178, ⟨by decide, by decide, by decide +kernel⟩, by decide⟩, (tw1 75 rfl rfl)⟩
set_option maxRecDepth 20000 in
theorem mw_X7_100 : g_mw RX7 100 Lib.Math.min.name Lib.Math.min.code 2 := ⟨(tw3 141 rfl rfl), (tw3 50 rfl rfl), (tw1 4 rfl rfl), (tw3 51 rfl rfl)⟩
set_option maxRecDepth 20000 in
theorem mv_X7_56 : g_mv RX7 56 3 0 m_X0_alike := ⟨⟨(tw3 119 rfl rfl), wi_X0, wc_X0_alike, ⟨by decide, by decide, by decide +kernel⟩, by decide⟩, (tw3 96 rfl rfl), (tw3 97 rfl rfl), _, rfl, rfl⟩
set_option maxRecDepth 20000 in
theorem mv_X7_60 : g_mv RX7 60 3 7 m_X7_isPreferred := ⟨⟨(tw3 120 rfl rfl), wi_X7, wc_X7_isPreferred, ⟨by decide, by decide, by decide +kernel⟩, by decide⟩, (tw3 122 rfl rfl), (tq 4 rfl), _, rfl, rfl⟩
set_option maxRecDepth 20000 in
theorem mv_X7_74 : g_mv RX7 74 4 7 m_X7_findRun := ⟨⟨(tw3 142 rfl rfl), wi_X7, wc_X7_findRun, ⟨by decide, by decide, by decide +kernel⟩, by decide⟩, (tw3 116 rfl rfl), (tw3 117 rfl rfl), _, rfl, rfl⟩
set_option maxRecDepth 20000 in
theorem mv_X7_78 : g_mv RX7 78 4 7 m_X7_append := ⟨⟨(tw3 155 rfl rfl), wi_X7, wc_X7_append, ⟨by decide, by decide, by decide +kernel⟩, by decide⟩, (tw3 157 rfl rfl), (tq 6 rfl), _, rfl, rfl⟩
set_option maxRecDepth 20000 in
theorem mv_X7_82 : g_mv RX7 82 1 7 m_X7_addCell := ⟨⟨(tw3 159 rfl rfl), wi_X7, wc_X7_addCell, ⟨by decide, by decide, by decide +kernel⟩, by decide⟩, (tw3 161 rfl rfl), (tq 7 rfl), _, rfl, rfl⟩
set_option maxRecDepth 20000 in
theorem mv_X7_86 : g_mv RX7 86 0 7 m_X7_findOrder := ⟨⟨(tw3 163 rfl rfl), wi_X7, wc_X7_findOrder, ⟨by decide, by decide, by decide +kernel⟩, by decide⟩, (tw3 165 rfl rfl), (tq 8 rfl), _, rfl, rfl⟩
set_option maxRecDepth 20000 in
theorem mv_X7_95 : g_mv RX7 95 2 7 m_X7_mustBeAhead := ⟨⟨(tw3 167 rfl rfl), wi_X7, wc_X7_mustBeAhead, ⟨by decide, by decide, by decide +kernel⟩, by decide⟩, (tw3 169 rfl rfl), (tq 9 rfl), _, rfl, rfl⟩
set_option maxRecDepth 20000 in
theorem kc_X7_99 : Cond.constant RX7 99 (Int32.ofInt 1048576) ∈ g_t := (tw3 139 rfl rfl)
set_option maxRecDepth 20000 in
theorem fd_X7_70 : g_fd RX7 70 6 4 := ⟨RX6, TX6, 9, tyX6, rfl, uw_X6, by decide, (tw2 13 rfl rfl), tyX6_ok, nmX6⟩
set_option maxRecDepth 20000 in
theorem fd_X8_14 : g_fd RX8 14 8 0 := ⟨RX8, TX8, 4, tyX8, rfl, uw_X8, by decide, (tw1 132 rfl rfl), tyX8_ok, nmX8⟩
set_option maxRecDepth 20000 in
theorem fd_X8_20 : g_fd RX8 20 8 1 := ⟨RX8, TX8, 4, tyX8, rfl, uw_X8, by decide, (tw1 134 rfl rfl), tyX8_ok, nmX8⟩
set_option maxRecDepth 20000 in
theorem fd_X8_23 : g_fd RX8 23 8 2 := ⟨RX8, TX8, 4, tyX8, rfl, uw_X8, by decide, (tw1 136 rfl rfl), tyX8_ok, nmX8⟩
set_option maxRecDepth 20000 in
theorem fd_X8_39 : g_fd RX8 39 8 3 := ⟨RX8, TX8, 4, tyX8, rfl, uw_X8, by decide, (tw1 138 rfl rfl), tyX8_ok, nmX8⟩
set_option maxRecDepth 20000 in
theorem fd_X8_43 : g_fd RX8 43 0 1 := ⟨RX0, TX0, 2, tyX0, rfl, uw_X0, by decide, (tw1 50 rfl rfl), tyX0_ok, nmX0⟩
set_option maxRecDepth 20000 in
theorem oi_X8_3 : Cond.methodLink RX8 3 objectInit ∈ g_t := (tw1 31 rfl rfl)
set_option maxRecDepth 20000 in
theorem mi_X8_11 : g_md RX8 11 1 m_X0_init ∧ Cond.instanceMethod m_X0_init.1 ∈ g_t := ⟨⟨(tw1 34 rfl rfl), wi_X0, wc_X0_init, ⟨by decide, by decide, by decide +kernel⟩, by decide⟩, (tw1 35 rfl rfl)⟩
set_option maxRecDepth 20000 in
theorem mi_X8_38 : g_md RX8 38 0 m_X2_init ∧ Cond.instanceMethod m_X2_init.1 ∈ g_t := ⟨⟨(tw1 68 rfl rfl), wi_X2, wc_X2_init, ⟨by decide, by decide, by decide +kernel⟩, by decide⟩, (tw1 69 rfl rfl)⟩
set_option maxRecDepth 20000 in
theorem ac_X8_30 : g_ac RX8 30 := ⟨(tw1 63 rfl rfl), (tw1 65 rfl rfl), (tw1 64 rfl rfl), (tw1 5 rfl rfl)⟩
set_option maxRecDepth 20000 in
theorem mv_X8_47 : g_mv RX8 47 2 0 m_X0_copyFirst := ⟨⟨(tw5 211 rfl rfl), wi_X0, wc_X0_copyFirst, ⟨by decide, by decide, by decide +kernel⟩, by decide⟩, (tw3 46 rfl rfl), (tw3 47 rfl rfl), _, rfl, rfl⟩
set_option maxRecDepth 20000 in
theorem mv_X8_51 : g_mv RX8 51 1 2 m_X2_copyFrom := ⟨⟨(tw5 212 rfl rfl), wi_X2, wc_X2_copyFrom, ⟨by decide, by decide, by decide +kernel⟩, by decide⟩, (tw4 136 rfl rfl), (tw4 137 rfl rfl), _, rfl, rfl⟩
set_option maxRecDepth 20000 in
theorem fd_X9_9 : g_fd RX9 9 9 0 := ⟨RX9, TX9, 3, tyX9, rfl, uw_X9, by decide, (tw1 221 rfl rfl), tyX9_ok, nmX9⟩
set_option maxRecDepth 20000 in
theorem fd_X9_15 : g_fd RX9 15 9 1 := ⟨RX9, TX9, 3, tyX9, rfl, uw_X9, by decide, (tw1 223 rfl rfl), tyX9_ok, nmX9⟩
set_option maxRecDepth 20000 in
theorem fd_X9_18 : g_fd RX9 18 0 1 := ⟨RX0, TX0, 2, tyX0, rfl, uw_X0, by decide, (tw1 46 rfl rfl), tyX0_ok, nmX0⟩
set_option maxRecDepth 20000 in
theorem fd_X9_24 : g_fd RX9 24 9 2 := ⟨RX9, TX9, 3, tyX9, rfl, uw_X9, by decide, (tw1 225 rfl rfl), tyX9_ok, nmX9⟩
set_option maxRecDepth 20000 in
theorem fd_X9_37 : g_fd RX9 37 0 0 := ⟨RX0, TX0, 2, tyX0, rfl, uw_X0, by decide, (tw1 43 rfl rfl), tyX0_ok, nmX0⟩
set_option maxRecDepth 20000 in
theorem oi_X9_3 : Cond.methodLink RX9 3 objectInit ∈ g_t := (tw1 220 rfl rfl)
set_option maxRecDepth 20000 in
theorem ms_X9_33 : g_md RX9 33 3 m_X9_isBefore ∧ Cond.static m_X9_isBefore.1 ∈ g_t := ⟨⟨(tw3 92 rfl rfl), wi_X9, wc_X9_isBefore, ⟨by decide, by decide, by decide +kernel⟩, by decide⟩, (tw3 93 rfl rfl)⟩
set_option maxRecDepth 20000 in
theorem mv_X9_25 : g_mv RX9 25 2 9 m_X9_insert := ⟨⟨(tw3 88 rfl rfl), wi_X9, wc_X9_insert, ⟨by decide, by decide, by decide +kernel⟩, by decide⟩, (tw3 90 rfl rfl), (tq 3 rfl), _, rfl, rfl⟩
set_option maxRecDepth 20000 in
theorem mv_X9_29 : g_mv RX9 29 3 0 m_X0_alike := ⟨⟨(tw3 95 rfl rfl), wi_X0, wc_X0_alike, ⟨by decide, by decide, by decide +kernel⟩, by decide⟩, (tw3 96 rfl rfl), (tw3 97 rfl rfl), _, rfl, rfl⟩
set_option maxRecDepth 20000 in
theorem fd_X10_12 : g_fd RX10 12 10 0 := ⟨RX10, TX10, 2, tyX10, rfl, uw_X10, by decide, (tw2 212 rfl rfl), tyX10_ok, nmX10⟩
set_option maxRecDepth 20000 in
theorem fd_X10_18 : g_fd RX10 18 10 1 := ⟨RX10, TX10, 2, tyX10, rfl, uw_X10, by decide, (tw2 213 rfl rfl), tyX10_ok, nmX10⟩
set_option maxRecDepth 20000 in
theorem fd_X10_28 : g_fd RX10 28 1 4 := ⟨RX1, TX1, 11, tyX1, rfl, uw_X1, by decide, (tw2 172 rfl rfl), tyX1_ok, nmX1⟩
set_option maxRecDepth 20000 in
theorem fd_X10_72 : g_fd RX10 72 2 1 := ⟨RX2, TX2, 10, tyX2, rfl, uw_X2, by decide, (tw1 86 rfl rfl), tyX2_ok, nmX2⟩
set_option maxRecDepth 20000 in
theorem fd_X10_75 : g_fd RX10 75 2 7 := ⟨RX2, TX2, 10, tyX2, rfl, uw_X2, by decide, (tw1 101 rfl rfl), tyX2_ok, nmX2⟩
set_option maxRecDepth 20000 in
theorem oi_X10_3 : Cond.methodLink RX10 3 objectInit ∈ g_t := (tw2 208 rfl rfl)
set_option maxRecDepth 20000 in
theorem mi_X10_11 : g_md RX10 11 0 m_X2_init ∧ Cond.instanceMethod m_X2_init.1 ∈ g_t := ⟨⟨(tw2 210 rfl rfl), wi_X2, wc_X2_init, ⟨by decide, by decide, by decide +kernel⟩, by decide⟩, (tw1 69 rfl rfl)⟩
set_option maxRecDepth 20000 in
theorem ms_X10_22 : g_md RX10 22 2 m_J7_fill_53178 ∧ Cond.static m_J7_fill_53178.1 ∈ g_t := ⟨⟨(tw2 211 rfl rfl), wi_J7, wc_J7_fill_53178, ⟨by decide, by decide, by decide +kernel⟩, by decide⟩, (tw1 75 rfl rfl)⟩
set_option maxRecDepth 20000 in
theorem mv_X10_34 : g_mv RX10 34 2 1 m_X1_standAsDue := ⟨⟨(tw5 168 rfl rfl), wi_X1, wc_X1_standAsDue, ⟨by decide, by decide, by decide +kernel⟩, by decide⟩, (tw5 169 rfl rfl), (tw5 170 rfl rfl), _, rfl, rfl⟩
set_option maxRecDepth 20000 in
theorem mv_X10_38 : g_mv RX10 38 3 10 m_X10_survives := ⟨⟨(tw5 172 rfl rfl), wi_X10, wc_X10_survives, ⟨by decide, by decide, by decide +kernel⟩, by decide⟩, (tw5 174 rfl rfl), (tq 44 rfl), _, rfl, rfl⟩
set_option maxRecDepth 20000 in
theorem mv_X10_42 : g_mv RX10 42 1 10 m_X10_endsAsDue := ⟨⟨(tw5 179 rfl rfl), wi_X10, wc_X10_endsAsDue, ⟨by decide, by decide, by decide +kernel⟩, by decide⟩, (tw5 181 rfl rfl), (tq 45 rfl), _, rfl, rfl⟩
set_option maxRecDepth 20000 in
theorem mv_X10_46 : g_mv RX10 46 1 1 m_X1_hasLeft := ⟨⟨(tw5 185 rfl rfl), wi_X1, wc_X1_hasLeft, ⟨by decide, by decide, by decide +kernel⟩, by decide⟩, (tw5 2 rfl rfl), (tw5 3 rfl rfl), _, rfl, rfl⟩
set_option maxRecDepth 20000 in
theorem mv_X10_50 : g_mv RX10 50 3 1 m_X1_cutPower := ⟨⟨(tw5 176 rfl rfl), wi_X1, wc_X1_cutPower, ⟨by decide, by decide, by decide +kernel⟩, by decide⟩, (tw5 57 rfl rfl), (tw5 58 rfl rfl), _, rfl, rfl⟩
set_option maxRecDepth 20000 in
theorem mv_X10_61 : g_mv RX10 61 1 1 m_X1_canBoot := ⟨⟨(tw5 177 rfl rfl), wi_X1, wc_X1_canBoot, ⟨by decide, by decide, by decide +kernel⟩, by decide⟩, (tw5 73 rfl rfl), (tw5 74 rfl rfl), _, rfl, rfl⟩
set_option maxRecDepth 20000 in
theorem mv_X10_64 : g_mv RX10 64 1 1 m_X1_bootUp := ⟨⟨(tw5 178 rfl rfl), wi_X1, wc_X1_bootUp, ⟨by decide, by decide, by decide +kernel⟩, by decide⟩, (tw5 99 rfl rfl), (tw5 100 rfl rfl), _, rfl, rfl⟩
set_option maxRecDepth 20000 in
theorem mv_X10_68 : g_mv RX10 68 2 1 m_X1_look := ⟨⟨(tw5 183 rfl rfl), wi_X1, wc_X1_look, ⟨by decide, by decide, by decide +kernel⟩, by decide⟩, (tw5 77 rfl rfl), (tw5 78 rfl rfl), _, rfl, rfl⟩
set_option maxRecDepth 20000 in
theorem mv_X10_78 : g_mv RX10 78 2 1 m_X1_isFit := ⟨⟨(tw5 184 rfl rfl), wi_X1, wc_X1_isFit, ⟨by decide, by decide, by decide +kernel⟩, by decide⟩, (tw5 85 rfl rfl), (tw5 86 rfl rfl), _, rfl, rfl⟩
set_option maxRecDepth 20000 in
theorem mv_X10_82 : g_mv RX10 82 1 1 m_X1_doStep := ⟨⟨(tw5 186 rfl rfl), wi_X1, wc_X1_doStep, ⟨by decide, by decide, by decide +kernel⟩, by decide⟩, (tw4 238 rfl rfl), (tw4 239 rfl rfl), _, rfl, rfl⟩
set_option maxRecDepth 20000 in
theorem mv_X10_85 : g_mv RX10 85 1 1 m_X1_areBlocksDue := ⟨⟨(tw5 187 rfl rfl), wi_X1, wc_X1_areBlocksDue, ⟨by decide, by decide, by decide +kernel⟩, by decide⟩, (tw5 89 rfl rfl), (tw5 90 rfl rfl), _, rfl, rfl⟩
set_option maxRecDepth 20000 in
theorem fd_X10_54 : g_fd RX10 54 2 8 := ⟨RX2, TX2, 10, tyX2, rfl, uw_X2, by decide, (tw1 105 rfl rfl), tyX2_ok, nmX2⟩
set_option maxRecDepth 20000 in
theorem fd_X10_58 : g_fd RX10 58 2 6 := ⟨RX2, TX2, 10, tyX2, rfl, uw_X2, by decide, (tw1 97 rfl rfl), tyX2_ok, nmX2⟩
set_option maxRecDepth 20000 in
theorem mi_L_9 : g_md RL 9 0 m_X11_init ∧ Cond.instanceMethod m_X11_init.1 ∈ g_t := ⟨⟨(tw1 20 rfl rfl), wi_X11, wc_X11_init, ⟨by decide, by decide, by decide +kernel⟩, by decide⟩, (tw1 21 rfl rfl)⟩
set_option maxRecDepth 20000 in
theorem mi_L_12 : g_md RL 12 0 m_X12_init ∧ Cond.instanceMethod m_X12_init.1 ∈ g_t := ⟨⟨(tw5 227 rfl rfl), wi_X12, wc_X12_init, ⟨by decide, by decide, by decide +kernel⟩, by decide⟩, (tw5 228 rfl rfl)⟩
set_option maxRecDepth 20000 in
theorem mv_L_13 : g_mv RL 13 5 11 m_X11_feed := ⟨⟨(tw3 28 rfl rfl), wi_X11, wc_X11_feed, ⟨by decide, by decide, by decide +kernel⟩, by decide⟩, (tw3 29 rfl rfl), (tw3 30 rfl rfl), _, rfl, rfl⟩
set_option maxRecDepth 20000 in
theorem mv_L_17 : g_mv RL 17 5 12 m_X12_feed := ⟨⟨(tw6 153 rfl rfl), wi_X12, wc_X12_feed, ⟨by decide, by decide, by decide +kernel⟩, by decide⟩, (tw6 154 rfl rfl), (tw6 155 rfl rfl), _, rfl, rfl⟩
set_option maxRecDepth 20000 in
theorem mv_L_18 : g_mv RL 18 1 11 m_X11_old := ⟨⟨(tw3 37 rfl rfl), wi_X11, wc_X11_old, ⟨by decide, by decide, by decide +kernel⟩, by decide⟩, (tw3 38 rfl rfl), (tw3 39 rfl rfl), _, rfl, rfl⟩
set_option maxRecDepth 20000 in
theorem mv_L_22 : g_mv RL 22 1 12 m_X12_old := ⟨⟨(tw6 157 rfl rfl), wi_X12, wc_X12_old, ⟨by decide, by decide, by decide +kernel⟩, by decide⟩, (tw6 158 rfl rfl), (tw6 159 rfl rfl), _, rfl, rfl⟩
set_option maxRecDepth 20000 in
theorem mv_L_23 : g_mv RL 23 1 11 m_X11_fresh := ⟨⟨(tw3 53 rfl rfl), wi_X11, wc_X11_fresh, ⟨by decide, by decide, by decide +kernel⟩, by decide⟩, (tw3 54 rfl rfl), (tw3 55 rfl rfl), _, rfl, rfl⟩
set_option maxRecDepth 20000 in
theorem mv_L_26 : g_mv RL 26 1 12 m_X12_fresh := ⟨⟨(tw6 169 rfl rfl), wi_X12, wc_X12_fresh, ⟨by decide, by decide, by decide +kernel⟩, by decide⟩, (tw6 170 rfl rfl), (tw6 171 rfl rfl), _, rfl, rfl⟩
set_option maxRecDepth 20000 in
theorem mv_L_27 : g_mv RL 27 2 11 m_X11_cell := ⟨⟨(tw3 57 rfl rfl), wi_X11, wc_X11_cell, ⟨by decide, by decide, by decide +kernel⟩, by decide⟩, (tw3 58 rfl rfl), (tw3 59 rfl rfl), _, rfl, rfl⟩
set_option maxRecDepth 20000 in
theorem mv_L_31 : g_mv RL 31 2 12 m_X12_cell := ⟨⟨(tw6 173 rfl rfl), wi_X12, wc_X12_cell, ⟨by decide, by decide, by decide +kernel⟩, by decide⟩, (tw6 174 rfl rfl), (tw6 175 rfl rfl), _, rfl, rfl⟩
set_option maxRecDepth 20000 in
theorem mv_L_32 : g_mv RL 32 2 11 m_X11_terms := ⟨⟨(tw3 68 rfl rfl), wi_X11, wc_X11_terms, ⟨by decide, by decide, by decide +kernel⟩, by decide⟩, (tw3 69 rfl rfl), (tw3 70 rfl rfl), _, rfl, rfl⟩
set_option maxRecDepth 20000 in
theorem mv_L_35 : g_mv RL 35 2 12 m_X12_terms := ⟨⟨(tw6 179 rfl rfl), wi_X12, wc_X12_terms, ⟨by decide, by decide, by decide +kernel⟩, by decide⟩, (tw6 180 rfl rfl), (tw6 181 rfl rfl), _, rfl, rfl⟩
set_option maxRecDepth 20000 in
theorem mv_L_36 : g_mv RL 36 1 11 m_X11_suffix := ⟨⟨(tw3 76 rfl rfl), wi_X11, wc_X11_suffix, ⟨by decide, by decide, by decide +kernel⟩, by decide⟩, (tw3 77 rfl rfl), (tw3 78 rfl rfl), _, rfl, rfl⟩
set_option maxRecDepth 20000 in
theorem mv_L_39 : g_mv RL 39 1 12 m_X12_suffix := ⟨⟨(tw6 190 rfl rfl), wi_X12, wc_X12_suffix, ⟨by decide, by decide, by decide +kernel⟩, by decide⟩, (tw6 191 rfl rfl), (tw6 192 rfl rfl), _, rfl, rfl⟩
set_option maxRecDepth 20000 in
theorem mv_L_40 : g_mv RL 40 1 11 m_X11_shared := ⟨⟨(tw3 99 rfl rfl), wi_X11, wc_X11_shared, ⟨by decide, by decide, by decide +kernel⟩, by decide⟩, (tw3 100 rfl rfl), (tw3 101 rfl rfl), _, rfl, rfl⟩
set_option maxRecDepth 20000 in
theorem mv_L_43 : g_mv RL 43 1 12 m_X12_shared := ⟨⟨(tw6 206 rfl rfl), wi_X12, wc_X12_shared, ⟨by decide, by decide, by decide +kernel⟩, by decide⟩, (tw6 207 rfl rfl), (tw6 208 rfl rfl), _, rfl, rfl⟩
set_option maxRecDepth 20000 in
theorem mv_L_44 : g_mv RL 44 1 11 m_X11_unlike := ⟨⟨(tw3 103 rfl rfl), wi_X11, wc_X11_unlike, ⟨by decide, by decide, by decide +kernel⟩, by decide⟩, (tw3 104 rfl rfl), (tw3 105 rfl rfl), _, rfl, rfl⟩
set_option maxRecDepth 20000 in
theorem mv_L_47 : g_mv RL 47 1 12 m_X12_unlike := ⟨⟨(tw6 210 rfl rfl), wi_X12, wc_X12_unlike, ⟨by decide, by decide, by decide +kernel⟩, by decide⟩, (tw6 211 rfl rfl), (tw6 212 rfl rfl), _, rfl, rfl⟩
set_option maxRecDepth 20000 in
theorem mv_L_48 : g_mv RL 48 2 11 m_X11_run := ⟨⟨(tw3 111 rfl rfl), wi_X11, wc_X11_run, ⟨by decide, by decide, by decide +kernel⟩, by decide⟩, (tw3 112 rfl rfl), (tw3 113 rfl rfl), _, rfl, rfl⟩
set_option maxRecDepth 20000 in
theorem mv_L_51 : g_mv RL 51 2 12 m_X12_run := ⟨⟨(tw6 214 rfl rfl), wi_X12, wc_X12_run, ⟨by decide, by decide, by decide +kernel⟩, by decide⟩, (tw6 215 rfl rfl), (tw6 216 rfl rfl), _, rfl, rfl⟩
set_option maxRecDepth 20000 in
theorem mv_L_52 : g_mv RL 52 1 11 m_X11_widest := ⟨⟨(tw3 127 rfl rfl), wi_X11, wc_X11_widest, ⟨by decide, by decide, by decide +kernel⟩, by decide⟩, (tw3 128 rfl rfl), (tw3 129 rfl rfl), _, rfl, rfl⟩
set_option maxRecDepth 20000 in
theorem mv_L_55 : g_mv RL 55 1 12 m_X12_widest := ⟨⟨(tw6 233 rfl rfl), wi_X12, wc_X12_widest, ⟨by decide, by decide, by decide +kernel⟩, by decide⟩, (tw6 234 rfl rfl), (tw6 235 rfl rfl), _, rfl, rfl⟩
set_option maxRecDepth 20000 in
theorem mv_L_56 : g_mv RL 56 0 11 m_X11_least := ⟨⟨(tw3 131 rfl rfl), wi_X11, wc_X11_least, ⟨by decide, by decide, by decide +kernel⟩, by decide⟩, (tw3 132 rfl rfl), (tw3 133 rfl rfl), _, rfl, rfl⟩
set_option maxRecDepth 20000 in
theorem mv_L_60 : g_mv RL 60 0 12 m_X12_least := ⟨⟨(tw6 237 rfl rfl), wi_X12, wc_X12_least, ⟨by decide, by decide, by decide +kernel⟩, by decide⟩, (tw6 238 rfl rfl), (tw6 239 rfl rfl), _, rfl, rfl⟩
set_option maxRecDepth 20000 in
theorem mv_L_61 : g_mv RL 61 0 11 m_X11_commands := ⟨⟨(tw3 143 rfl rfl), wi_X11, wc_X11_commands, ⟨by decide, by decide, by decide +kernel⟩, by decide⟩, (tw3 144 rfl rfl), (tw3 145 rfl rfl), _, rfl, rfl⟩
set_option maxRecDepth 20000 in
theorem mv_L_64 : g_mv RL 64 0 12 m_X12_commands := ⟨⟨(tw7 5 rfl rfl), wi_X12, wc_X12_commands, ⟨by decide, by decide, by decide +kernel⟩, by decide⟩, (tw7 6 rfl rfl), (tw7 7 rfl rfl), _, rfl, rfl⟩
set_option maxRecDepth 20000 in
theorem mv_L_65 : g_mv RL 65 2 11 m_X11_command := ⟨⟨(tw4 22 rfl rfl), wi_X11, wc_X11_command, ⟨by decide, by decide, by decide +kernel⟩, by decide⟩, (tw4 23 rfl rfl), (tw4 24 rfl rfl), _, rfl, rfl⟩
set_option maxRecDepth 20000 in
theorem mv_L_68 : g_mv RL 68 2 12 m_X12_command := ⟨⟨(tw7 20 rfl rfl), wi_X12, wc_X12_command, ⟨by decide, by decide, by decide +kernel⟩, by decide⟩, (tw7 21 rfl rfl), (tw7 22 rfl rfl), _, rfl, rfl⟩
set_option maxRecDepth 20000 in
theorem mv_L_69 : g_mv RL 69 2 11 m_X11_ahead := ⟨⟨(tw4 31 rfl rfl), wi_X11, wc_X11_ahead, ⟨by decide, by decide, by decide +kernel⟩, by decide⟩, (tw4 32 rfl rfl), (tw4 33 rfl rfl), _, rfl, rfl⟩
set_option maxRecDepth 20000 in
theorem mv_L_72 : g_mv RL 72 2 12 m_X12_ahead := ⟨⟨(tw7 85 rfl rfl), wi_X12, wc_X12_ahead, ⟨by decide, by decide, by decide +kernel⟩, by decide⟩, (tw7 86 rfl rfl), (tw7 87 rfl rfl), _, rfl, rfl⟩
set_option maxRecDepth 20000 in
theorem mv_L_73 : g_mv RL 73 0 11 m_X11_ringed := ⟨⟨(tw4 36 rfl rfl), wi_X11, wc_X11_ringed, ⟨by decide, by decide, by decide +kernel⟩, by decide⟩, (tw4 37 rfl rfl), (tw4 38 rfl rfl), _, rfl, rfl⟩
set_option maxRecDepth 20000 in
theorem mv_L_76 : g_mv RL 76 0 12 m_X12_ringed := ⟨⟨(tw7 89 rfl rfl), wi_X12, wc_X12_ringed, ⟨by decide, by decide, by decide +kernel⟩, by decide⟩, (tw7 90 rfl rfl), (tw7 91 rfl rfl), _, rfl, rfl⟩
set_option maxRecDepth 20000 in
theorem mv_L_77 : g_mv RL 77 2 11 m_X11_ring := ⟨⟨(tw4 42 rfl rfl), wi_X11, wc_X11_ring, ⟨by decide, by decide, by decide +kernel⟩, by decide⟩, (tw4 43 rfl rfl), (tw4 44 rfl rfl), _, rfl, rfl⟩
set_option maxRecDepth 20000 in
theorem mv_L_80 : g_mv RL 80 2 12 m_X12_ring := ⟨⟨(tw7 97 rfl rfl), wi_X12, wc_X12_ring, ⟨by decide, by decide, by decide +kernel⟩, by decide⟩, (tw7 98 rfl rfl), (tw7 99 rfl rfl), _, rfl, rfl⟩
set_option maxRecDepth 20000 in
theorem mv_L_81 : g_mv RL 81 1 11 m_X11_fewest := ⟨⟨(tw4 54 rfl rfl), wi_X11, wc_X11_fewest, ⟨by decide, by decide, by decide +kernel⟩, by decide⟩, (tw4 55 rfl rfl), (tw4 56 rfl rfl), _, rfl, rfl⟩
set_option maxRecDepth 20000 in
theorem mv_L_84 : g_mv RL 84 1 12 m_X12_fewest := ⟨⟨(tw7 101 rfl rfl), wi_X12, wc_X12_fewest, ⟨by decide, by decide, by decide +kernel⟩, by decide⟩, (tw7 102 rfl rfl), (tw7 103 rfl rfl), _, rfl, rfl⟩
set_option maxRecDepth 20000 in
theorem mv_L_85 : g_mv RL 85 0 11 m_X11_acts := ⟨⟨(tw4 73 rfl rfl), wi_X11, wc_X11_acts, ⟨by decide, by decide, by decide +kernel⟩, by decide⟩, (tw4 74 rfl rfl), (tw4 75 rfl rfl), _, rfl, rfl⟩
set_option maxRecDepth 20000 in
theorem mv_L_88 : g_mv RL 88 0 12 m_X12_acts := ⟨⟨(tw7 113 rfl rfl), wi_X12, wc_X12_acts, ⟨by decide, by decide, by decide +kernel⟩, by decide⟩, (tw7 114 rfl rfl), (tw7 115 rfl rfl), _, rfl, rfl⟩
set_option maxRecDepth 20000 in
theorem mv_L_89 : g_mv RL 89 2 11 m_X11_act := ⟨⟨(tw4 77 rfl rfl), wi_X11, wc_X11_act, ⟨by decide, by decide, by decide +kernel⟩, by decide⟩, (tw4 78 rfl rfl), (tw4 79 rfl rfl), _, rfl, rfl⟩
set_option maxRecDepth 20000 in
theorem mv_L_92 : g_mv RL 92 2 12 m_X12_act := ⟨⟨(tw7 121 rfl rfl), wi_X12, wc_X12_act, ⟨by decide, by decide, by decide +kernel⟩, by decide⟩, (tw7 122 rfl rfl), (tw7 123 rfl rfl), _, rfl, rfl⟩
set_option maxRecDepth 20000 in
theorem mv_L_93 : g_mv RL 93 1 11 m_X11_plan := ⟨⟨(tw4 81 rfl rfl), wi_X11, wc_X11_plan, ⟨by decide, by decide, by decide +kernel⟩, by decide⟩, (tw4 82 rfl rfl), (tw4 83 rfl rfl), _, rfl, rfl⟩
set_option maxRecDepth 20000 in
theorem mv_L_96 : g_mv RL 96 1 12 m_X12_plan := ⟨⟨(tw7 125 rfl rfl), wi_X12, wc_X12_plan, ⟨by decide, by decide, by decide +kernel⟩, by decide⟩, (tw7 126 rfl rfl), (tw7 127 rfl rfl), _, rfl, rfl⟩
set_option maxRecDepth 20000 in
theorem mv_L_97 : g_mv RL 97 1 11 m_X11_patch := ⟨⟨(tw4 86 rfl rfl), wi_X11, wc_X11_patch, ⟨by decide, by decide, by decide +kernel⟩, by decide⟩, (tw4 87 rfl rfl), (tw4 88 rfl rfl), _, rfl, rfl⟩
set_option maxRecDepth 20000 in
theorem mv_L_100 : g_mv RL 100 1 12 m_X12_patch := ⟨⟨(tw7 129 rfl rfl), wi_X12, wc_X12_patch, ⟨by decide, by decide, by decide +kernel⟩, by decide⟩, (tw7 130 rfl rfl), (tw7 131 rfl rfl), _, rfl, rfl⟩
set_option maxRecDepth 20000 in
theorem mv_L_101 : g_mv RL 101 0 11 m_X11_needs := ⟨⟨(tw4 90 rfl rfl), wi_X11, wc_X11_needs, ⟨by decide, by decide, by decide +kernel⟩, by decide⟩, (tw4 91 rfl rfl), (tw4 92 rfl rfl), _, rfl, rfl⟩
set_option maxRecDepth 20000 in
theorem mv_L_104 : g_mv RL 104 0 12 m_X12_needs := ⟨⟨(tw7 133 rfl rfl), wi_X12, wc_X12_needs, ⟨by decide, by decide, by decide +kernel⟩, by decide⟩, (tw7 134 rfl rfl), (tw7 135 rfl rfl), _, rfl, rfl⟩
set_option maxRecDepth 20000 in
theorem mv_L_105 : g_mv RL 105 1 11 m_X11_sized := ⟨⟨(tw4 94 rfl rfl), wi_X11, wc_X11_sized, ⟨by decide, by decide, by decide +kernel⟩, by decide⟩, (tw4 95 rfl rfl), (tw4 96 rfl rfl), _, rfl, rfl⟩
set_option maxRecDepth 20000 in
theorem mv_L_108 : g_mv RL 108 1 12 m_X12_sized := ⟨⟨(tw7 137 rfl rfl), wi_X12, wc_X12_sized, ⟨by decide, by decide, by decide +kernel⟩, by decide⟩, (tw7 138 rfl rfl), (tw7 139 rfl rfl), _, rfl, rfl⟩
set_option maxRecDepth 20000 in
theorem mv_L_109 : g_mv RL 109 0 11 m_X11_turned := ⟨⟨(tw4 98 rfl rfl), wi_X11, wc_X11_turned, ⟨by decide, by decide, by decide +kernel⟩, by decide⟩, (tw4 99 rfl rfl), (tw4 100 rfl rfl), _, rfl, rfl⟩
set_option maxRecDepth 20000 in
theorem mv_L_112 : g_mv RL 112 0 12 m_X12_turned := ⟨⟨(tw7 141 rfl rfl), wi_X12, wc_X12_turned, ⟨by decide, by decide, by decide +kernel⟩, by decide⟩, (tw7 142 rfl rfl), (tw7 143 rfl rfl), _, rfl, rfl⟩
set_option maxRecDepth 20000 in
theorem mv_L_113 : g_mv RL 113 1 11 m_X11_best := ⟨⟨(tw4 102 rfl rfl), wi_X11, wc_X11_best, ⟨by decide, by decide, by decide +kernel⟩, by decide⟩, (tw4 103 rfl rfl), (tw4 104 rfl rfl), _, rfl, rfl⟩
set_option maxRecDepth 20000 in
theorem mv_L_116 : g_mv RL 116 1 12 m_X12_best := ⟨⟨(tw7 149 rfl rfl), wi_X12, wc_X12_best, ⟨by decide, by decide, by decide +kernel⟩, by decide⟩, (tw7 150 rfl rfl), (tw7 151 rfl rfl), _, rfl, rfl⟩
set_option maxRecDepth 20000 in
theorem mv_L_117 : g_mv RL 117 1 11 m_X11_share := ⟨⟨(tw4 114 rfl rfl), wi_X11, wc_X11_share, ⟨by decide, by decide, by decide +kernel⟩, by decide⟩, (tw4 115 rfl rfl), (tw4 116 rfl rfl), _, rfl, rfl⟩
set_option maxRecDepth 20000 in
theorem mv_L_120 : g_mv RL 120 1 12 m_X12_share := ⟨⟨(tw7 153 rfl rfl), wi_X12, wc_X12_share, ⟨by decide, by decide, by decide +kernel⟩, by decide⟩, (tw7 154 rfl rfl), (tw7 155 rfl rfl), _, rfl, rfl⟩
set_option maxRecDepth 20000 in
theorem mv_L_121 : g_mv RL 121 0 11 m_X11_burn := ⟨⟨(tw4 127 rfl rfl), wi_X11, wc_X11_burn, ⟨by decide, by decide, by decide +kernel⟩, by decide⟩, (tw4 128 rfl rfl), (tw4 129 rfl rfl), _, rfl, rfl⟩
set_option maxRecDepth 20000 in
theorem mv_L_124 : g_mv RL 124 0 12 m_X12_burn := ⟨⟨(tw7 162 rfl rfl), wi_X12, wc_X12_burn, ⟨by decide, by decide, by decide +kernel⟩, by decide⟩, (tw7 163 rfl rfl), (tw7 164 rfl rfl), _, rfl, rfl⟩
set_option maxRecDepth 20000 in
theorem mv_L_125 : g_mv RL 125 0 11 m_X11_take := ⟨⟨(tw4 153 rfl rfl), wi_X11, wc_X11_take, ⟨by decide, by decide, by decide +kernel⟩, by decide⟩, (tw4 154 rfl rfl), (tw4 155 rfl rfl), _, rfl, rfl⟩
set_option maxRecDepth 20000 in
theorem mv_L_128 : g_mv RL 128 0 12 m_X12_take := ⟨⟨(tw7 170 rfl rfl), wi_X12, wc_X12_take, ⟨by decide, by decide, by decide +kernel⟩, by decide⟩, (tw7 171 rfl rfl), (tw7 172 rfl rfl), _, rfl, rfl⟩
set_option maxRecDepth 20000 in
theorem mv_L_129 : g_mv RL 129 1 11 m_X11_load := ⟨⟨(tw5 25 rfl rfl), wi_X11, wc_X11_load, ⟨by decide, by decide, by decide +kernel⟩, by decide⟩, (tw5 26 rfl rfl), (tw5 27 rfl rfl), _, rfl, rfl⟩
set_option maxRecDepth 20000 in
theorem mv_L_132 : g_mv RL 132 1 12 m_X12_load := ⟨⟨(tw7 225 rfl rfl), wi_X12, wc_X12_load, ⟨by decide, by decide, by decide +kernel⟩, by decide⟩, (tw7 226 rfl rfl), (tw7 227 rfl rfl), _, rfl, rfl⟩
set_option maxRecDepth 20000 in
theorem mv_L_133 : g_mv RL 133 1 11 m_X11_fault := ⟨⟨(tw5 30 rfl rfl), wi_X11, wc_X11_fault, ⟨by decide, by decide, by decide +kernel⟩, by decide⟩, (tw5 31 rfl rfl), (tw5 32 rfl rfl), _, rfl, rfl⟩
set_option maxRecDepth 20000 in
theorem mv_L_136 : g_mv RL 136 1 12 m_X12_fault := ⟨⟨(tw7 229 rfl rfl), wi_X12, wc_X12_fault, ⟨by decide, by decide, by decide +kernel⟩, by decide⟩, (tw7 230 rfl rfl), (tw7 231 rfl rfl), _, rfl, rfl⟩
set_option maxRecDepth 20000 in
theorem mv_L_137 : g_mv RL 137 0 11 m_X11_steps := ⟨⟨(tw5 34 rfl rfl), wi_X11, wc_X11_steps, ⟨by decide, by decide, by decide +kernel⟩, by decide⟩, (tw5 35 rfl rfl), (tw5 36 rfl rfl), _, rfl, rfl⟩
set_option maxRecDepth 20000 in
theorem mv_L_140 : g_mv RL 140 0 12 m_X12_steps := ⟨⟨(tw7 233 rfl rfl), wi_X12, wc_X12_steps, ⟨by decide, by decide, by decide +kernel⟩, by decide⟩, (tw7 234 rfl rfl), (tw7 235 rfl rfl), _, rfl, rfl⟩
set_option maxRecDepth 20000 in
theorem mv_L_141 : g_mv RL 141 2 11 m_X11_step := ⟨⟨(tw5 38 rfl rfl), wi_X11, wc_X11_step, ⟨by decide, by decide, by decide +kernel⟩, by decide⟩, (tw5 39 rfl rfl), (tw5 40 rfl rfl), _, rfl, rfl⟩
set_option maxRecDepth 20000 in
theorem mv_L_144 : g_mv RL 144 2 12 m_X12_step := ⟨⟨(tw7 237 rfl rfl), wi_X12, wc_X12_step, ⟨by decide, by decide, by decide +kernel⟩, by decide⟩, (tw7 238 rfl rfl), (tw7 239 rfl rfl), _, rfl, rfl⟩
set_option maxRecDepth 20000 in
theorem mv_L_145 : g_mv RL 145 1 11 m_X11_go := ⟨⟨(tw5 46 rfl rfl), wi_X11, wc_X11_go, ⟨by decide, by decide, by decide +kernel⟩, by decide⟩, (tw5 47 rfl rfl), (tw5 48 rfl rfl), _, rfl, rfl⟩
set_option maxRecDepth 20000 in
theorem mv_L_148 : g_mv RL 148 1 12 m_X12_go := ⟨⟨(tw8 25 rfl rfl), wi_X12, wc_X12_go, ⟨by decide, by decide, by decide +kernel⟩, by decide⟩, (tw8 26 rfl rfl), (tw8 27 rfl rfl), _, rfl, rfl⟩
set_option maxRecDepth 20000 in
theorem mv_L_149 : g_mv RL 149 2 11 m_X11_cut := ⟨⟨(tw5 52 rfl rfl), wi_X11, wc_X11_cut, ⟨by decide, by decide, by decide +kernel⟩, by decide⟩, (tw5 53 rfl rfl), (tw5 54 rfl rfl), _, rfl, rfl⟩
set_option maxRecDepth 20000 in
theorem mv_L_152 : g_mv RL 152 2 12 m_X12_cut := ⟨⟨(tw8 42 rfl rfl), wi_X12, wc_X12_cut, ⟨by decide, by decide, by decide +kernel⟩, by decide⟩, (tw8 43 rfl rfl), (tw8 44 rfl rfl), _, rfl, rfl⟩
set_option maxRecDepth 20000 in
theorem mv_L_153 : g_mv RL 153 0 11 m_X11_forget := ⟨⟨(tw5 64 rfl rfl), wi_X11, wc_X11_forget, ⟨by decide, by decide, by decide +kernel⟩, by decide⟩, (tw5 65 rfl rfl), (tw5 66 rfl rfl), _, rfl, rfl⟩
set_option maxRecDepth 20000 in
theorem mv_L_156 : g_mv RL 156 0 12 m_X12_forget := ⟨⟨(tw8 50 rfl rfl), wi_X12, wc_X12_forget, ⟨by decide, by decide, by decide +kernel⟩, by decide⟩, (tw8 51 rfl rfl), (tw8 52 rfl rfl), _, rfl, rfl⟩
set_option maxRecDepth 20000 in
theorem mv_L_157 : g_mv RL 157 0 11 m_X11_boot := ⟨⟨(tw5 68 rfl rfl), wi_X11, wc_X11_boot, ⟨by decide, by decide, by decide +kernel⟩, by decide⟩, (tw5 69 rfl rfl), (tw5 70 rfl rfl), _, rfl, rfl⟩
set_option maxRecDepth 20000 in
theorem mv_L_160 : g_mv RL 160 0 12 m_X12_boot := ⟨⟨(tw8 54 rfl rfl), wi_X12, wc_X12_boot, ⟨by decide, by decide, by decide +kernel⟩, by decide⟩, (tw8 55 rfl rfl), (tw8 56 rfl rfl), _, rfl, rfl⟩
set_option maxRecDepth 20000 in
theorem mv_L_161 : g_mv RL 161 2 11 m_X11_spoil := ⟨⟨(tw5 102 rfl rfl), wi_X11, wc_X11_spoil, ⟨by decide, by decide, by decide +kernel⟩, by decide⟩, (tw5 103 rfl rfl), (tw5 104 rfl rfl), _, rfl, rfl⟩
set_option maxRecDepth 20000 in
theorem mv_L_164 : g_mv RL 164 2 12 m_X12_spoil := ⟨⟨(tw8 70 rfl rfl), wi_X12, wc_X12_spoil, ⟨by decide, by decide, by decide +kernel⟩, by decide⟩, (tw8 71 rfl rfl), (tw8 72 rfl rfl), _, rfl, rfl⟩
set_option maxRecDepth 20000 in
theorem mv_L_165 : g_mv RL 165 1 11 m_X11_undo := ⟨⟨(tw5 106 rfl rfl), wi_X11, wc_X11_undo, ⟨by decide, by decide, by decide +kernel⟩, by decide⟩, (tw5 107 rfl rfl), (tw5 108 rfl rfl), _, rfl, rfl⟩
set_option maxRecDepth 20000 in
theorem mv_L_168 : g_mv RL 168 1 12 m_X12_undo := ⟨⟨(tw8 75 rfl rfl), wi_X12, wc_X12_undo, ⟨by decide, by decide, by decide +kernel⟩, by decide⟩, (tw8 76 rfl rfl), (tw8 77 rfl rfl), _, rfl, rfl⟩
set_option maxRecDepth 20000 in
theorem mv_L_169 : g_mv RL 169 1 11 m_X11_digest := ⟨⟨(tw5 114 rfl rfl), wi_X11, wc_X11_digest, ⟨by decide, by decide, by decide +kernel⟩, by decide⟩, (tw5 115 rfl rfl), (tw5 116 rfl rfl), _, rfl, rfl⟩
set_option maxRecDepth 20000 in
theorem mv_L_173 : g_mv RL 173 1 12 m_X12_digest := ⟨⟨(tw8 80 rfl rfl), wi_X12, wc_X12_digest, ⟨by decide, by decide, by decide +kernel⟩, by decide⟩, (tw8 81 rfl rfl), (tw8 82 rfl rfl), _, rfl, rfl⟩
set_option maxRecDepth 20000 in
theorem mv_L_174 : g_mv RL 174 2 11 m_X11_due := ⟨⟨(tw5 126 rfl rfl), wi_X11, wc_X11_due, ⟨by decide, by decide, by decide +kernel⟩, by decide⟩, (tw5 127 rfl rfl), (tw5 128 rfl rfl), _, rfl, rfl⟩
set_option maxRecDepth 20000 in
theorem mv_L_178 : g_mv RL 178 2 12 m_X12_due := ⟨⟨(tw8 95 rfl rfl), wi_X12, wc_X12_due, ⟨by decide, by decide, by decide +kernel⟩, by decide⟩, (tw8 96 rfl rfl), (tw8 97 rfl rfl), _, rfl, rfl⟩
set_option maxRecDepth 20000 in
theorem mv_L_179 : g_mv RL 179 1 11 m_X11_fits := ⟨⟨(tw5 130 rfl rfl), wi_X11, wc_X11_fits, ⟨by decide, by decide, by decide +kernel⟩, by decide⟩, (tw5 131 rfl rfl), (tw5 132 rfl rfl), _, rfl, rfl⟩
set_option maxRecDepth 20000 in
theorem mv_L_182 : g_mv RL 182 1 12 m_X12_fits := ⟨⟨(tw8 99 rfl rfl), wi_X12, wc_X12_fits, ⟨by decide, by decide, by decide +kernel⟩, by decide⟩, (tw8 100 rfl rfl), (tw8 101 rfl rfl), _, rfl, rfl⟩
set_option maxRecDepth 20000 in
theorem mv_L_183 : g_mv RL 183 0 11 m_X11_right := ⟨⟨(tw5 144 rfl rfl), wi_X11, wc_X11_right, ⟨by decide, by decide, by decide +kernel⟩, by decide⟩, (tw5 145 rfl rfl), (tw5 146 rfl rfl), _, rfl, rfl⟩
set_option maxRecDepth 20000 in
theorem mv_L_186 : g_mv RL 186 0 12 m_X12_right := ⟨⟨(tw8 103 rfl rfl), wi_X12, wc_X12_right, ⟨by decide, by decide, by decide +kernel⟩, by decide⟩, (tw8 104 rfl rfl), (tw8 105 rfl rfl), _, rfl, rfl⟩
set_option maxRecDepth 20000 in
theorem mv_L_187 : g_mv RL 187 1 11 m_X11_hazard := ⟨⟨(tw5 148 rfl rfl), wi_X11, wc_X11_hazard, ⟨by decide, by decide, by decide +kernel⟩, by decide⟩, (tw5 149 rfl rfl), (tw5 150 rfl rfl), _, rfl, rfl⟩
set_option maxRecDepth 20000 in
theorem mv_L_190 : g_mv RL 190 1 12 m_X12_hazard := ⟨⟨(tw8 107 rfl rfl), wi_X12, wc_X12_hazard, ⟨by decide, by decide, by decide +kernel⟩, by decide⟩, (tw8 108 rfl rfl), (tw8 109 rfl rfl), _, rfl, rfl⟩
set_option maxRecDepth 20000 in
theorem mv_L_191 : g_mv RL 191 1 11 m_X11_wear := ⟨⟨(tw5 156 rfl rfl), wi_X11, wc_X11_wear, ⟨by decide, by decide, by decide +kernel⟩, by decide⟩, (tw5 157 rfl rfl), (tw5 158 rfl rfl), _, rfl, rfl⟩
set_option maxRecDepth 20000 in
theorem mv_L_194 : g_mv RL 194 1 12 m_X12_wear := ⟨⟨(tw8 115 rfl rfl), wi_X12, wc_X12_wear, ⟨by decide, by decide, by decide +kernel⟩, by decide⟩, (tw8 116 rfl rfl), (tw8 117 rfl rfl), _, rfl, rfl⟩
set_option maxRecDepth 20000 in
theorem mv_L_195 : g_mv RL 195 1 11 m_X11_cuts := ⟨⟨(tw5 160 rfl rfl), wi_X11, wc_X11_cuts, ⟨by decide, by decide, by decide +kernel⟩, by decide⟩, (tw5 161 rfl rfl), (tw5 162 rfl rfl), _, rfl, rfl⟩
set_option maxRecDepth 20000 in
theorem mv_L_198 : g_mv RL 198 1 12 m_X12_cuts := ⟨⟨(tw8 119 rfl rfl), wi_X12, wc_X12_cuts, ⟨by decide, by decide, by decide +kernel⟩, by decide⟩, (tw8 120 rfl rfl), (tw8 121 rfl rfl), _, rfl, rfl⟩
set_option maxRecDepth 20000 in
theorem mv_L_199 : g_mv RL 199 2 11 m_X11_twice := ⟨⟨(tw5 188 rfl rfl), wi_X11, wc_X11_twice, ⟨by decide, by decide, by decide +kernel⟩, by decide⟩, (tw5 189 rfl rfl), (tw5 190 rfl rfl), _, rfl, rfl⟩
set_option maxRecDepth 20000 in
theorem mv_L_202 : g_mv RL 202 2 12 m_X12_twice := ⟨⟨(tw8 139 rfl rfl), wi_X12, wc_X12_twice, ⟨by decide, by decide, by decide +kernel⟩, by decide⟩, (tw8 140 rfl rfl), (tw8 141 rfl rfl), _, rfl, rfl⟩
set_option maxRecDepth 20000 in
theorem mv_L_203 : g_mv RL 203 2 11 m_X11_odds := ⟨⟨(tw5 196 rfl rfl), wi_X11, wc_X11_odds, ⟨by decide, by decide, by decide +kernel⟩, by decide⟩, (tw5 197 rfl rfl), (tw5 198 rfl rfl), _, rfl, rfl⟩
set_option maxRecDepth 20000 in
theorem mv_L_206 : g_mv RL 206 2 12 m_X12_odds := ⟨⟨(tw8 147 rfl rfl), wi_X12, wc_X12_odds, ⟨by decide, by decide, by decide +kernel⟩, by decide⟩, (tw8 148 rfl rfl), (tw8 149 rfl rfl), _, rfl, rfl⟩
set_option maxRecDepth 20000 in
theorem mv_L_207 : g_mv RL 207 1 11 m_X11_image := ⟨⟨(tw5 203 rfl rfl), wi_X11, wc_X11_image, ⟨by decide, by decide, by decide +kernel⟩, by decide⟩, (tw5 204 rfl rfl), (tw5 205 rfl rfl), _, rfl, rfl⟩
set_option maxRecDepth 20000 in
theorem mv_L_210 : g_mv RL 210 1 12 m_X12_image := ⟨⟨(tw8 154 rfl rfl), wi_X12, wc_X12_image, ⟨by decide, by decide, by decide +kernel⟩, by decide⟩, (tw8 155 rfl rfl), (tw8 156 rfl rfl), _, rfl, rfl⟩
set_option maxRecDepth 20000 in
theorem mv_L_211 : g_mv RL 211 1 11 m_X11_restore := ⟨⟨(tw5 213 rfl rfl), wi_X11, wc_X11_restore, ⟨by decide, by decide, by decide +kernel⟩, by decide⟩, (tw5 214 rfl rfl), (tw5 215 rfl rfl), _, rfl, rfl⟩
set_option maxRecDepth 20000 in
theorem mv_L_214 : g_mv RL 214 1 12 m_X12_restore := ⟨⟨(tw8 158 rfl rfl), wi_X12, wc_X12_restore, ⟨by decide, by decide, by decide +kernel⟩, by decide⟩, (tw8 159 rfl rfl), (tw8 160 rfl rfl), _, rfl, rfl⟩
set_option maxRecDepth 20000 in
theorem mv_L_215 : g_mv RL 215 1 11 m_X11_count := ⟨⟨(tw5 221 rfl rfl), wi_X11, wc_X11_count, ⟨by decide, by decide, by decide +kernel⟩, by decide⟩, (tw5 222 rfl rfl), (tw5 223 rfl rfl), _, rfl, rfl⟩
set_option maxRecDepth 20000 in
theorem mv_L_218 : g_mv RL 218 1 12 m_X12_count := ⟨⟨(tw8 162 rfl rfl), wi_X12, wc_X12_count, ⟨by decide, by decide, by decide +kernel⟩, by decide⟩, (tw8 163 rfl rfl), (tw8 164 rfl rfl), _, rfl, rfl⟩
set_option maxRecDepth 20000 in
theorem fd_X12_13 : g_fd RX12 13 12 1 := ⟨RX12, TX12, 51, tyX12, rfl, uw_X12, by decide, (tw6 0 rfl rfl), tyX12_ok, nmX12⟩
set_option maxRecDepth 20000 in
theorem fd_X12_17 : g_fd RX12 17 12 2 := ⟨RX12, TX12, 51, tyX12, rfl, uw_X12, by decide, (tw6 1 rfl rfl), tyX12_ok, nmX12⟩
set_option maxRecDepth 20000 in
theorem fd_X12_20 : g_fd RX12 20 12 3 := ⟨RX12, TX12, 51, tyX12, rfl, uw_X12, by decide, (tw6 2 rfl rfl), tyX12_ok, nmX12⟩
set_option maxRecDepth 20000 in
theorem fd_X12_24 : g_fd RX12 24 12 4 := ⟨RX12, TX12, 51, tyX12, rfl, uw_X12, by decide, (tw6 3 rfl rfl), tyX12_ok, nmX12⟩
set_option maxRecDepth 20000 in
theorem fd_X12_27 : g_fd RX12 27 12 6 := ⟨RX12, TX12, 51, tyX12, rfl, uw_X12, by decide, (tw6 5 rfl rfl), tyX12_ok, nmX12⟩
set_option maxRecDepth 20000 in
theorem fd_X12_30 : g_fd RX12 30 12 7 := ⟨RX12, TX12, 51, tyX12, rfl, uw_X12, by decide, (tw6 6 rfl rfl), tyX12_ok, nmX12⟩
set_option maxRecDepth 20000 in
theorem fd_X12_33 : g_fd RX12 33 12 8 := ⟨RX12, TX12, 51, tyX12, rfl, uw_X12, by decide, (tw6 7 rfl rfl), tyX12_ok, nmX12⟩
set_option maxRecDepth 20000 in
theorem fd_X12_36 : g_fd RX12 36 12 9 := ⟨RX12, TX12, 51, tyX12, rfl, uw_X12, by decide, (tw6 8 rfl rfl), tyX12_ok, nmX12⟩
set_option maxRecDepth 20000 in
theorem fd_X12_39 : g_fd RX12 39 12 10 := ⟨RX12, TX12, 51, tyX12, rfl, uw_X12, by decide, (tw6 9 rfl rfl), tyX12_ok, nmX12⟩
set_option maxRecDepth 20000 in
theorem fd_X12_42 : g_fd RX12 42 12 11 := ⟨RX12, TX12, 51, tyX12, rfl, uw_X12, by decide, (tw6 10 rfl rfl), tyX12_ok, nmX12⟩
set_option maxRecDepth 20000 in
theorem fd_X12_45 : g_fd RX12 45 12 12 := ⟨RX12, TX12, 51, tyX12, rfl, uw_X12, by decide, (tw6 11 rfl rfl), tyX12_ok, nmX12⟩
set_option maxRecDepth 20000 in
theorem fd_X12_48 : g_fd RX12 48 12 13 := ⟨RX12, TX12, 51, tyX12, rfl, uw_X12, by decide, (tw6 12 rfl rfl), tyX12_ok, nmX12⟩
set_option maxRecDepth 20000 in
theorem fd_X12_51 : g_fd RX12 51 12 15 := ⟨RX12, TX12, 51, tyX12, rfl, uw_X12, by decide, (tw6 14 rfl rfl), tyX12_ok, nmX12⟩
set_option maxRecDepth 20000 in
theorem fd_X12_54 : g_fd RX12 54 12 16 := ⟨RX12, TX12, 51, tyX12, rfl, uw_X12, by decide, (tw6 15 rfl rfl), tyX12_ok, nmX12⟩
set_option maxRecDepth 20000 in
theorem fd_X12_57 : g_fd RX12 57 12 17 := ⟨RX12, TX12, 51, tyX12, rfl, uw_X12, by decide, (tw6 16 rfl rfl), tyX12_ok, nmX12⟩
set_option maxRecDepth 20000 in
theorem fd_X12_60 : g_fd RX12 60 12 18 := ⟨RX12, TX12, 51, tyX12, rfl, uw_X12, by decide, (tw6 17 rfl rfl), tyX12_ok, nmX12⟩
set_option maxRecDepth 20000 in
theorem fd_X12_63 : g_fd RX12 63 12 19 := ⟨RX12, TX12, 51, tyX12, rfl, uw_X12, by decide, (tw6 18 rfl rfl), tyX12_ok, nmX12⟩
set_option maxRecDepth 20000 in
theorem fd_X12_66 : g_fd RX12 66 12 20 := ⟨RX12, TX12, 51, tyX12, rfl, uw_X12, by decide, (tw6 19 rfl rfl), tyX12_ok, nmX12⟩
set_option maxRecDepth 20000 in
theorem fd_X12_69 : g_fd RX12 69 12 21 := ⟨RX12, TX12, 51, tyX12, rfl, uw_X12, by decide, (tw6 20 rfl rfl), tyX12_ok, nmX12⟩
set_option maxRecDepth 20000 in
theorem fd_X12_72 : g_fd RX12 72 12 22 := ⟨RX12, TX12, 51, tyX12, rfl, uw_X12, by decide, (tw6 21 rfl rfl), tyX12_ok, nmX12⟩
set_option maxRecDepth 20000 in
theorem fd_X12_75 : g_fd RX12 75 12 23 := ⟨RX12, TX12, 51, tyX12, rfl, uw_X12, by decide, (tw6 22 rfl rfl), tyX12_ok, nmX12⟩
set_option maxRecDepth 20000 in
theorem fd_X12_78 : g_fd RX12 78 12 24 := ⟨RX12, TX12, 51, tyX12, rfl, uw_X12, by decide, (tw6 23 rfl rfl), tyX12_ok, nmX12⟩
set_option maxRecDepth 20000 in
theorem fd_X12_81 : g_fd RX12 81 12 25 := ⟨RX12, TX12, 51, tyX12, rfl, uw_X12, by decide, (tw6 24 rfl rfl), tyX12_ok, nmX12⟩
set_option maxRecDepth 20000 in
theorem fd_X12_84 : g_fd RX12 84 12 31 := ⟨RX12, TX12, 51, tyX12, rfl, uw_X12, by decide, (tw6 30 rfl rfl), tyX12_ok, nmX12⟩
set_option maxRecDepth 20000 in
theorem fd_X12_87 : g_fd RX12 87 12 32 := ⟨RX12, TX12, 51, tyX12, rfl, uw_X12, by decide, (tw6 31 rfl rfl), tyX12_ok, nmX12⟩
set_option maxRecDepth 20000 in
theorem fd_X12_90 : g_fd RX12 90 12 33 := ⟨RX12, TX12, 51, tyX12, rfl, uw_X12, by decide, (tw6 32 rfl rfl), tyX12_ok, nmX12⟩
set_option maxRecDepth 20000 in
theorem fd_X12_93 : g_fd RX12 93 12 41 := ⟨RX12, TX12, 51, tyX12, rfl, uw_X12, by decide, (tw6 40 rfl rfl), tyX12_ok, nmX12⟩
set_option maxRecDepth 20000 in
theorem fd_X12_96 : g_fd RX12 96 12 42 := ⟨RX12, TX12, 51, tyX12, rfl, uw_X12, by decide, (tw6 41 rfl rfl), tyX12_ok, nmX12⟩
set_option maxRecDepth 20000 in
theorem fd_X12_99 : g_fd RX12 99 12 43 := ⟨RX12, TX12, 51, tyX12, rfl, uw_X12, by decide, (tw6 42 rfl rfl), tyX12_ok, nmX12⟩
set_option maxRecDepth 20000 in
theorem fd_X12_102 : g_fd RX12 102 12 44 := ⟨RX12, TX12, 51, tyX12, rfl, uw_X12, by decide, (tw6 43 rfl rfl), tyX12_ok, nmX12⟩
set_option maxRecDepth 20000 in
theorem fd_X12_105 : g_fd RX12 105 12 45 := ⟨RX12, TX12, 51, tyX12, rfl, uw_X12, by decide, (tw6 44 rfl rfl), tyX12_ok, nmX12⟩
set_option maxRecDepth 20000 in
theorem fd_X12_108 : g_fd RX12 108 12 47 := ⟨RX12, TX12, 51, tyX12, rfl, uw_X12, by decide, (tw6 46 rfl rfl), tyX12_ok, nmX12⟩
set_option maxRecDepth 20000 in
theorem fd_X12_111 : g_fd RX12 111 12 48 := ⟨RX12, TX12, 51, tyX12, rfl, uw_X12, by decide, (tw6 47 rfl rfl), tyX12_ok, nmX12⟩
set_option maxRecDepth 20000 in
theorem fd_X12_114 : g_fd RX12 114 12 49 := ⟨RX12, TX12, 51, tyX12, rfl, uw_X12, by decide, (tw6 48 rfl rfl), tyX12_ok, nmX12⟩
set_option maxRecDepth 20000 in
theorem fd_X12_117 : g_fd RX12 117 12 50 := ⟨RX12, TX12, 51, tyX12, rfl, uw_X12, by decide, (tw6 49 rfl rfl), tyX12_ok, nmX12⟩
set_option maxRecDepth 20000 in
theorem fd_X12_126 : g_fd RX12 126 12 5 := ⟨RX12, TX12, 51, tyX12, rfl, uw_X12, by decide, (tw6 4 rfl rfl), tyX12_ok, nmX12⟩
set_option maxRecDepth 20000 in
theorem fd_X12_182 : g_fd RX12 182 12 14 := ⟨RX12, TX12, 51, tyX12, rfl, uw_X12, by decide, (tw6 13 rfl rfl), tyX12_ok, nmX12⟩
set_option maxRecDepth 20000 in
theorem fd_X12_228 : g_fd RX12 228 12 26 := ⟨RX12, TX12, 51, tyX12, rfl, uw_X12, by decide, (tw6 25 rfl rfl), tyX12_ok, nmX12⟩
set_option maxRecDepth 20000 in
theorem fd_X12_231 : g_fd RX12 231 12 30 := ⟨RX12, TX12, 51, tyX12, rfl, uw_X12, by decide, (tw6 29 rfl rfl), tyX12_ok, nmX12⟩
set_option maxRecDepth 20000 in
theorem fd_X12_248 : g_fd RX12 248 12 29 := ⟨RX12, TX12, 51, tyX12, rfl, uw_X12, by decide, (tw6 28 rfl rfl), tyX12_ok, nmX12⟩
set_option maxRecDepth 20000 in
theorem fd_X12_251 : g_fd RX12 251 12 28 := ⟨RX12, TX12, 51, tyX12, rfl, uw_X12, by decide, (tw6 27 rfl rfl), tyX12_ok, nmX12⟩
set_option maxRecDepth 20000 in
theorem fd_X12_266 : g_fd RX12 266 12 27 := ⟨RX12, TX12, 51, tyX12, rfl, uw_X12, by decide, (tw6 26 rfl rfl), tyX12_ok, nmX12⟩
set_option maxRecDepth 20000 in
theorem fd_X12_288 : g_fd RX12 288 12 38 := ⟨RX12, TX12, 51, tyX12, rfl, uw_X12, by decide, (tw6 37 rfl rfl), tyX12_ok, nmX12⟩
set_option maxRecDepth 20000 in
theorem fd_X12_291 : g_fd RX12 291 12 39 := ⟨RX12, TX12, 51, tyX12, rfl, uw_X12, by decide, (tw6 38 rfl rfl), tyX12_ok, nmX12⟩
set_option maxRecDepth 20000 in
theorem fd_X12_294 : g_fd RX12 294 12 37 := ⟨RX12, TX12, 51, tyX12, rfl, uw_X12, by decide, (tw6 36 rfl rfl), tyX12_ok, nmX12⟩
set_option maxRecDepth 20000 in
theorem fd_X12_297 : g_fd RX12 297 12 36 := ⟨RX12, TX12, 51, tyX12, rfl, uw_X12, by decide, (tw6 35 rfl rfl), tyX12_ok, nmX12⟩
set_option maxRecDepth 20000 in
theorem fd_X12_306 : g_fd RX12 306 12 34 := ⟨RX12, TX12, 51, tyX12, rfl, uw_X12, by decide, (tw6 33 rfl rfl), tyX12_ok, nmX12⟩
set_option maxRecDepth 20000 in
theorem fd_X12_309 : g_fd RX12 309 12 35 := ⟨RX12, TX12, 51, tyX12, rfl, uw_X12, by decide, (tw6 34 rfl rfl), tyX12_ok, nmX12⟩
set_option maxRecDepth 20000 in
theorem fd_X12_333 : g_fd RX12 333 12 40 := ⟨RX12, TX12, 51, tyX12, rfl, uw_X12, by decide, (tw6 39 rfl rfl), tyX12_ok, nmX12⟩
set_option maxRecDepth 20000 in
theorem fd_X12_342 : g_fd RX12 342 12 46 := ⟨RX12, TX12, 51, tyX12, rfl, uw_X12, by decide, (tw6 45 rfl rfl), tyX12_ok, nmX12⟩
set_option maxRecDepth 20000 in
theorem oi_X12_7 : Cond.methodLink RX12 7 objectInit ∈ g_t := (tw5 230 rfl rfl)
set_option maxRecDepth 20000 in
theorem ms_X12_131 : g_md RX12 131 3 m_X12_within ∧ Cond.static m_X12_within.1 ∈ g_t := ⟨⟨(tw6 166 rfl rfl), wi_X12, wc_X12_within, ⟨by decide, by decide, by decide +kernel⟩, by decide⟩, (tw6 167 rfl rfl)⟩
set_option maxRecDepth 20000 in
theorem ms_X12_151 : g_md RX12 151 2 m_X12_isTerm ∧ Cond.static m_X12_isTerm.1 ∈ g_t := ⟨⟨(tw6 184 rfl rfl), wi_X12, wc_X12_isTerm, ⟨by decide, by decide, by decide +kernel⟩, by decide⟩, (tw6 185 rfl rfl)⟩
set_option maxRecDepth 20000 in
theorem ms_X12_172 : g_md RX12 172 2 m_X12_apart ∧ Cond.static m_X12_apart.1 ∈ g_t := ⟨⟨(tw6 230 rfl rfl), wi_X12, wc_X12_apart, ⟨by decide, by decide, by decide +kernel⟩, by decide⟩, (tw6 231 rfl rfl)⟩
set_option maxRecDepth 20000 in
theorem ms_X12_179 : g_md RX12 179 2 m_X12_lesser ∧ Cond.static m_X12_lesser.1 ∈ g_t := ⟨⟨(tw7 2 rfl rfl), wi_X12, wc_X12_lesser, ⟨by decide, by decide, by decide +kernel⟩, by decide⟩, (tw7 3 rfl rfl)⟩
set_option maxRecDepth 20000 in
theorem ms_X12_189 : g_md RX12 189 4 m_X12_meet ∧ Cond.static m_X12_meet.1 ∈ g_t := ⟨⟨(tw7 17 rfl rfl), wi_X12, wc_X12_meet, ⟨by decide, by decide, by decide +kernel⟩, by decide⟩, (tw7 18 rfl rfl)⟩
set_option maxRecDepth 20000 in
theorem ms_X12_282 : g_md RX12 282 2 m_X12_floatBits ∧ Cond.static m_X12_floatBits.1 ∈ g_t := ⟨⟨(tw7 157 rfl rfl), wi_X12, wc_X12_floatBits, ⟨by decide, by decide, by decide +kernel⟩, by decide⟩, (tw7 158 rfl rfl)⟩
set_option maxRecDepth 20000 in
theorem ms_X12_312 : g_md RX12 312 2 m_X12_roomAt ∧ Cond.static m_X12_roomAt.1 ∈ g_t := ⟨⟨(tw7 190 rfl rfl), wi_X12, wc_X12_roomAt, ⟨by decide, by decide, by decide +kernel⟩, by decide⟩, (tw7 191 rfl rfl)⟩
set_option maxRecDepth 20000 in
theorem ms_X12_413 : g_md RX12 413 4 m_X12_digestOf ∧ Cond.static m_X12_digestOf.1 ∈ g_t := ⟨⟨(tw8 86 rfl rfl), wi_X12, wc_X12_digestOf, ⟨by decide, by decide, by decide +kernel⟩, by decide⟩, (tw8 87 rfl rfl)⟩
set_option maxRecDepth 20000 in
theorem ms_X12_437 : g_md RX12 437 2 m_X12_common1 ∧ Cond.static m_X12_common1.1 ∈ g_t := ⟨⟨(tw8 151 rfl rfl), wi_X12, wc_X12_common1, ⟨by decide, by decide, by decide +kernel⟩, by decide⟩, (tw8 152 rfl rfl)⟩
set_option maxRecDepth 20000 in
theorem mv_X12_120 : g_mv RX12 120 0 12 m_X12_burns := ⟨⟨(tw5 231 rfl rfl), wi_X12, wc_X12_burns, ⟨by decide, by decide, by decide +kernel⟩, by decide⟩, (tw5 233 rfl rfl), (tq 46 rfl), _, rfl, rfl⟩
set_option maxRecDepth 20000 in
theorem mv_X12_123 : g_mv RX12 123 0 12 m_X12_begins := ⟨⟨(tw5 235 rfl rfl), wi_X12, wc_X12_begins, ⟨by decide, by decide, by decide +kernel⟩, by decide⟩, (tw5 237 rfl rfl), (tq 47 rfl), _, rfl, rfl⟩
set_option maxRecDepth 20000 in
theorem mv_X12_135 : g_mv RX12 135 3 12 m_X12_takesCells := ⟨⟨(tw6 161 rfl rfl), wi_X12, wc_X12_takesCells, ⟨by decide, by decide, by decide +kernel⟩, by decide⟩, (tw6 163 rfl rfl), (tq 48 rfl), _, rfl, rfl⟩
set_option maxRecDepth 20000 in
theorem mv_X12_155 : g_mv RX12 155 2 12 m_X12_common := ⟨⟨(tw6 202 rfl rfl), wi_X12, wc_X12_common, ⟨by decide, by decide, by decide +kernel⟩, by decide⟩, (tw6 204 rfl rfl), (tq 51 rfl), _, rfl, rfl⟩
set_option maxRecDepth 20000 in
theorem mv_X12_159 : g_mv RX12 159 2 12 m_X12_isAheadSuffix := ⟨⟨(tw6 198 rfl rfl), wi_X12, wc_X12_isAheadSuffix, ⟨by decide, by decide, by decide +kernel⟩, by decide⟩, (tw6 200 rfl rfl), (tq 50 rfl), _, rfl, rfl⟩
set_option maxRecDepth 20000 in
theorem mv_X12_162 : g_mv RX12 162 0 12 m_X12_laysSuffixes := ⟨⟨(tw6 194 rfl rfl), wi_X12, wc_X12_laysSuffixes, ⟨by decide, by decide, by decide +kernel⟩, by decide⟩, (tw6 196 rfl rfl), (tq 49 rfl), _, rfl, rfl⟩
set_option maxRecDepth 20000 in
theorem mv_X12_165 : g_mv RX12 165 2 12 m_X12_runAt := ⟨⟨(tw6 222 rfl rfl), wi_X12, wc_X12_runAt, ⟨by decide, by decide, by decide +kernel⟩, by decide⟩, (tw6 224 rfl rfl), (tq 53 rfl), _, rfl, rfl⟩
set_option maxRecDepth 20000 in
theorem mv_X12_168 : g_mv RX12 168 1 12 m_X12_longestAt := ⟨⟨(tw6 218 rfl rfl), wi_X12, wc_X12_longestAt, ⟨by decide, by decide, by decide +kernel⟩, by decide⟩, (tw6 220 rfl rfl), (tq 52 rfl), _, rfl, rfl⟩
set_option maxRecDepth 20000 in
theorem mv_X12_175 : g_mv RX12 175 1 12 m_X12_chosenAt := ⟨⟨(tw6 226 rfl rfl), wi_X12, wc_X12_chosenAt, ⟨by decide, by decide, by decide +kernel⟩, by decide⟩, (tw6 228 rfl rfl), (tq 54 rfl), _, rfl, rfl⟩
set_option maxRecDepth 20000 in
theorem mv_X12_185 : g_mv RX12 185 4 12 m_X12_laysCommand := ⟨⟨(tw7 13 rfl rfl), wi_X12, wc_X12_laysCommand, ⟨by decide, by decide, by decide +kernel⟩, by decide⟩, (tw7 15 rfl rfl), (tq 56 rfl), _, rfl, rfl⟩
set_option maxRecDepth 20000 in
theorem mv_X12_193 : g_mv RX12 193 0 12 m_X12_laysCommands := ⟨⟨(tw7 9 rfl rfl), wi_X12, wc_X12_laysCommands, ⟨by decide, by decide, by decide +kernel⟩, by decide⟩, (tw7 11 rfl rfl), (tq 55 rfl), _, rfl, rfl⟩
set_option maxRecDepth 20000 in
theorem mv_X12_196 : g_mv RX12 196 1 12 m_X12_isCommand := ⟨⟨(tw7 24 rfl rfl), wi_X12, wc_X12_isCommand, ⟨by decide, by decide, by decide +kernel⟩, by decide⟩, (tw7 26 rfl rfl), (tq 57 rfl), _, rfl, rfl⟩
set_option maxRecDepth 20000 in
theorem mv_X12_202 : g_mv RX12 202 0 12 m_X12_laysPlan := ⟨⟨(tw7 29 rfl rfl), wi_X12, wc_X12_laysPlan, ⟨by decide, by decide, by decide +kernel⟩, by decide⟩, (tw7 31 rfl rfl), (tq 58 rfl), _, rfl, rfl⟩
set_option maxRecDepth 20000 in
theorem mv_X12_205 : g_mv RX12 205 1 12 m_X12_laysFarTo := ⟨⟨(tw7 61 rfl rfl), wi_X12, wc_X12_laysFarTo, ⟨by decide, by decide, by decide +kernel⟩, by decide⟩, (tw7 63 rfl rfl), (tq 66 rfl), _, rfl, rfl⟩
set_option maxRecDepth 20000 in
theorem mv_X12_209 : g_mv RX12 209 1 12 m_X12_isAmongCopies := ⟨⟨(tw7 93 rfl rfl), wi_X12, wc_X12_isAmongCopies, ⟨by decide, by decide, by decide +kernel⟩, by decide⟩, (tw7 95 rfl rfl), (tq 72 rfl), _, rfl, rfl⟩
set_option maxRecDepth 20000 in
theorem mv_X12_212 : g_mv RX12 212 1 12 m_X12_isRinged := ⟨⟨(tw7 57 rfl rfl), wi_X12, wc_X12_isRinged, ⟨by decide, by decide, by decide +kernel⟩, by decide⟩, (tw7 59 rfl rfl), (tq 65 rfl), _, rfl, rfl⟩
set_option maxRecDepth 20000 in
theorem mv_X12_215 : g_mv RX12 215 0 12 m_X12_laysRinged := ⟨⟨(tw7 105 rfl rfl), wi_X12, wc_X12_laysRinged, ⟨by decide, by decide, by decide +kernel⟩, by decide⟩, (tw7 107 rfl rfl), (tq 73 rfl), _, rfl, rfl⟩
set_option maxRecDepth 20000 in
theorem mv_X12_219 : g_mv RX12 219 1 12 m_X12_isWithoutRing := ⟨⟨(tw7 109 rfl rfl), wi_X12, wc_X12_isWithoutRing, ⟨by decide, by decide, by decide +kernel⟩, by decide⟩, (tw7 111 rfl rfl), (tq 74 rfl), _, rfl, rfl⟩
set_option maxRecDepth 20000 in
theorem mv_X12_222 : g_mv RX12 222 1 12 m_X12_isOpen := ⟨⟨(tw7 37 rfl rfl), wi_X12, wc_X12_isOpen, ⟨by decide, by decide, by decide +kernel⟩, by decide⟩, (tw7 39 rfl rfl), (tq 60 rfl), _, rfl, rfl⟩
set_option maxRecDepth 20000 in
theorem mv_X12_225 : g_mv RX12 225 1 12 m_X12_waitingFor := ⟨⟨(tw7 73 rfl rfl), wi_X12, wc_X12_waitingFor, ⟨by decide, by decide, by decide +kernel⟩, by decide⟩, (tw7 75 rfl rfl), (tq 69 rfl), _, rfl, rfl⟩
set_option maxRecDepth 20000 in
theorem mv_X12_234 : g_mv RX12 234 2 12 m_X12_laysAct := ⟨⟨(tw7 45 rfl rfl), wi_X12, wc_X12_laysAct, ⟨by decide, by decide, by decide +kernel⟩, by decide⟩, (tw7 47 rfl rfl), (tq 62 rfl), _, rfl, rfl⟩
set_option maxRecDepth 20000 in
theorem mv_X12_238 : g_mv RX12 238 2 12 m_X12_marksStash := ⟨⟨(tw7 49 rfl rfl), wi_X12, wc_X12_marksStash, ⟨by decide, by decide, by decide +kernel⟩, by decide⟩, (tw7 51 rfl rfl), (tq 63 rfl), _, rfl, rfl⟩
set_option maxRecDepth 20000 in
theorem mv_X12_242 : g_mv RX12 242 1 12 m_X12_roomFor := ⟨⟨(tw7 65 rfl rfl), wi_X12, wc_X12_roomFor, ⟨by decide, by decide, by decide +kernel⟩, by decide⟩, (tw7 67 rfl rfl), (tq 67 rfl), _, rfl, rfl⟩
set_option maxRecDepth 20000 in
theorem mv_X12_245 : g_mv RX12 245 2 12 m_X12_isSooner := ⟨⟨(tw7 69 rfl rfl), wi_X12, wc_X12_isSooner, ⟨by decide, by decide, by decide +kernel⟩, by decide⟩, (tw7 71 rfl rfl), (tq 68 rfl), _, rfl, rfl⟩
set_option maxRecDepth 20000 in
theorem mv_X12_254 : g_mv RX12 254 0 12 m_X12_lowestFree := ⟨⟨(tw7 33 rfl rfl), wi_X12, wc_X12_lowestFree, ⟨by decide, by decide, by decide +kernel⟩, by decide⟩, (tw7 35 rfl rfl), (tq 59 rfl), _, rfl, rfl⟩
set_option maxRecDepth 20000 in
theorem mv_X12_257 : g_mv RX12 257 1 12 m_X12_does := ⟨⟨(tw7 41 rfl rfl), wi_X12, wc_X12_does, ⟨by decide, by decide, by decide +kernel⟩, by decide⟩, (tw7 43 rfl rfl), (tq 61 rfl), _, rfl, rfl⟩
set_option maxRecDepth 20000 in
theorem mv_X12_260 : g_mv RX12 260 0 12 m_X12_breaksRing := ⟨⟨(tw7 53 rfl rfl), wi_X12, wc_X12_breaksRing, ⟨by decide, by decide, by decide +kernel⟩, by decide⟩, (tw7 55 rfl rfl), (tq 64 rfl), _, rfl, rfl⟩
set_option maxRecDepth 20000 in
theorem mv_X12_263 : g_mv RX12 263 0 12 m_X12_laysBytes := ⟨⟨(tw7 77 rfl rfl), wi_X12, wc_X12_laysBytes, ⟨by decide, by decide, by decide +kernel⟩, by decide⟩, (tw7 79 rfl rfl), (tq 70 rfl), _, rfl, rfl⟩
set_option maxRecDepth 20000 in
theorem mv_X12_269 : g_mv RX12 269 1 12 m_X12_laysByte := ⟨⟨(tw7 81 rfl rfl), wi_X12, wc_X12_laysByte, ⟨by decide, by decide, by decide +kernel⟩, by decide⟩, (tw7 83 rfl rfl), (tq 71 rfl), _, rfl, rfl⟩
set_option maxRecDepth 20000 in
theorem mv_X12_272 : g_mv RX12 272 0 12 m_X12_laysAll := ⟨⟨(tw7 117 rfl rfl), wi_X12, wc_X12_laysAll, ⟨by decide, by decide, by decide +kernel⟩, by decide⟩, (tw7 119 rfl rfl), (tq 75 rfl), _, rfl, rfl⟩
set_option maxRecDepth 20000 in
theorem mv_X12_275 : g_mv RX12 275 0 12 m_X12_turns := ⟨⟨(tw7 145 rfl rfl), wi_X12, wc_X12_turns, ⟨by decide, by decide, by decide +kernel⟩, by decide⟩, (tw7 147 rfl rfl), (tq 76 rfl), _, rfl, rfl⟩
set_option maxRecDepth 20000 in
theorem mv_X12_285 : g_mv RX12 285 0 12 m_X12_notes := ⟨⟨(tw7 166 rfl rfl), wi_X12, wc_X12_notes, ⟨by decide, by decide, by decide +kernel⟩, by decide⟩, (tw7 168 rfl rfl), (tq 77 rfl), _, rfl, rfl⟩
set_option maxRecDepth 20000 in
theorem mv_X12_300 : g_mv RX12 300 2 12 m_X12_fails := ⟨⟨(tw7 182 rfl rfl), wi_X12, wc_X12_fails, ⟨by decide, by decide, by decide +kernel⟩, by decide⟩, (tw7 184 rfl rfl), (tq 80 rfl), _, rfl, rfl⟩
set_option maxRecDepth 20000 in
theorem mv_X12_303 : g_mv RX12 303 1 12 m_X12_readByte := ⟨⟨(tw7 178 rfl rfl), wi_X12, wc_X12_readByte, ⟨by decide, by decide, by decide +kernel⟩, by decide⟩, (tw7 180 rfl rfl), (tq 79 rfl), _, rfl, rfl⟩
set_option maxRecDepth 20000 in
theorem mv_X12_315 : g_mv RX12 315 1 12 m_X12_readLength := ⟨⟨(tw7 193 rfl rfl), wi_X12, wc_X12_readLength, ⟨by decide, by decide, by decide +kernel⟩, by decide⟩, (tw7 195 rfl rfl), (tq 82 rfl), _, rfl, rfl⟩
set_option maxRecDepth 20000 in
theorem mv_X12_318 : g_mv RX12 318 1 12 m_X12_readPlace := ⟨⟨(tw7 197 rfl rfl), wi_X12, wc_X12_readPlace, ⟨by decide, by decide, by decide +kernel⟩, by decide⟩, (tw7 199 rfl rfl), (tq 83 rfl), _, rfl, rfl⟩
set_option maxRecDepth 20000 in
theorem mv_X12_321 : g_mv RX12 321 0 12 m_X12_readAct := ⟨⟨(tw7 186 rfl rfl), wi_X12, wc_X12_readAct, ⟨by decide, by decide, by decide +kernel⟩, by decide⟩, (tw7 188 rfl rfl), (tq 81 rfl), _, rfl, rfl⟩
set_option maxRecDepth 20000 in
theorem mv_X12_324 : g_mv RX12 324 0 12 m_X12_laysSteps := ⟨⟨(tw7 205 rfl rfl), wi_X12, wc_X12_laysSteps, ⟨by decide, by decide, by decide +kernel⟩, by decide⟩, (tw7 207 rfl rfl), (tq 85 rfl), _, rfl, rfl⟩
set_option maxRecDepth 20000 in
theorem mv_X12_327 : g_mv RX12 327 1 12 m_X12_readsPatch := ⟨⟨(tw7 174 rfl rfl), wi_X12, wc_X12_readsPatch, ⟨by decide, by decide, by decide +kernel⟩, by decide⟩, (tw7 176 rfl rfl), (tq 78 rfl), _, rfl, rfl⟩
set_option maxRecDepth 20000 in
theorem mv_X12_330 : g_mv RX12 330 0 12 m_X12_takesPatch := ⟨⟨(tw7 201 rfl rfl), wi_X12, wc_X12_takesPatch, ⟨by decide, by decide, by decide +kernel⟩, by decide⟩, (tw7 203 rfl rfl), (tq 84 rfl), _, rfl, rfl⟩
set_option maxRecDepth 20000 in
theorem mv_X12_336 : g_mv RX12 336 2 12 m_X12_actNow := ⟨⟨(tw7 209 rfl rfl), wi_X12, wc_X12_actNow, ⟨by decide, by decide, by decide +kernel⟩, by decide⟩, (tw7 211 rfl rfl), (tq 86 rfl), _, rfl, rfl⟩
set_option maxRecDepth 20000 in
theorem mv_X12_339 : g_mv RX12 339 2 12 m_X12_writes := ⟨⟨(tw7 221 rfl rfl), wi_X12, wc_X12_writes, ⟨by decide, by decide, by decide +kernel⟩, by decide⟩, (tw7 223 rfl rfl), (tq 89 rfl), _, rfl, rfl⟩
set_option maxRecDepth 20000 in
theorem mv_X12_345 : g_mv RX12 345 2 12 m_X12_laysStep := ⟨⟨(tw7 213 rfl rfl), wi_X12, wc_X12_laysStep, ⟨by decide, by decide, by decide +kernel⟩, by decide⟩, (tw7 215 rfl rfl), (tq 87 rfl), _, rfl, rfl⟩
set_option maxRecDepth 20000 in
theorem mv_X12_348 : g_mv RX12 348 2 12 m_X12_writesBlock := ⟨⟨(tw7 217 rfl rfl), wi_X12, wc_X12_writesBlock, ⟨by decide, by decide, by decide +kernel⟩, by decide⟩, (tw7 219 rfl rfl), (tq 88 rfl), _, rfl, rfl⟩
set_option maxRecDepth 20000 in
theorem mv_X12_351 : g_mv RX12 351 2 12 m_X12_readsNow := ⟨⟨(tw8 17 rfl rfl), wi_X12, wc_X12_readsNow, ⟨by decide, by decide, by decide +kernel⟩, by decide⟩, (tw8 19 rfl rfl), (tq 94 rfl), _, rfl, rfl⟩
set_option maxRecDepth 20000 in
theorem mv_X12_354 : g_mv RX12 354 2 12 m_X12_savesCells := ⟨⟨(tw8 9 rfl rfl), wi_X12, wc_X12_savesCells, ⟨by decide, by decide, by decide +kernel⟩, by decide⟩, (tw8 11 rfl rfl), (tq 92 rfl), _, rfl, rfl⟩
set_option maxRecDepth 20000 in
theorem mv_X12_357 : g_mv RX12 357 1 12 m_X12_laysNewCells := ⟨⟨(tw8 13 rfl rfl), wi_X12, wc_X12_laysNewCells, ⟨by decide, by decide, by decide +kernel⟩, by decide⟩, (tw8 15 rfl rfl), (tq 93 rfl), _, rfl, rfl⟩
set_option maxRecDepth 20000 in
theorem mv_X12_360 : g_mv RX12 360 1 12 m_X12_doesStep := ⟨⟨(tw8 5 rfl rfl), wi_X12, wc_X12_doesStep, ⟨by decide, by decide, by decide +kernel⟩, by decide⟩, (tw8 7 rfl rfl), (tq 91 rfl), _, rfl, rfl⟩
set_option maxRecDepth 20000 in
theorem mv_X12_363 : g_mv RX12 363 1 12 m_X12_readsStash := ⟨⟨(tw8 21 rfl rfl), wi_X12, wc_X12_readsStash, ⟨by decide, by decide, by decide +kernel⟩, by decide⟩, (tw8 23 rfl rfl), (tq 95 rfl), _, rfl, rfl⟩
set_option maxRecDepth 20000 in
theorem mv_X12_366 : g_mv RX12 366 1 12 m_X12_isFit := ⟨⟨(tw8 66 rfl rfl), wi_X12, wc_X12_isFit, ⟨by decide, by decide, by decide +kernel⟩, by decide⟩, (tw8 68 rfl rfl), (tq 102 rfl), _, rfl, rfl⟩
set_option maxRecDepth 20000 in
theorem mv_X12_369 : g_mv RX12 369 0 12 m_X12_laysDue := ⟨⟨(tw8 1 rfl rfl), wi_X12, wc_X12_laysDue, ⟨by decide, by decide, by decide +kernel⟩, by decide⟩, (tw8 3 rfl rfl), (tq 90 rfl), _, rfl, rfl⟩
set_option maxRecDepth 20000 in
theorem mv_X12_374 : g_mv RX12 374 0 12 m_X12_worksNow := ⟨⟨(tw8 30 rfl rfl), wi_X12, wc_X12_worksNow, ⟨by decide, by decide, by decide +kernel⟩, by decide⟩, (tw8 32 rfl rfl), (tq 96 rfl), _, rfl, rfl⟩
set_option maxRecDepth 20000 in
theorem mv_X12_377 : g_mv RX12 377 2 12 m_X12_doesSteps := ⟨⟨(tw8 34 rfl rfl), wi_X12, wc_X12_doesSteps, ⟨by decide, by decide, by decide +kernel⟩, by decide⟩, (tw8 36 rfl rfl), (tq 97 rfl), _, rfl, rfl⟩
set_option maxRecDepth 20000 in
theorem mv_X12_380 : g_mv RX12 380 0 12 m_X12_keepsWork := ⟨⟨(tw8 38 rfl rfl), wi_X12, wc_X12_keepsWork, ⟨by decide, by decide, by decide +kernel⟩, by decide⟩, (tw8 40 rfl rfl), (tq 98 rfl), _, rfl, rfl⟩
set_option maxRecDepth 20000 in
theorem mv_X12_383 : g_mv RX12 383 3 12 m_X12_cuts1 := ⟨⟨(tw8 46 rfl rfl), wi_X12, wc_X12_cuts1, ⟨by decide, by decide, by decide +kernel⟩, by decide⟩, (tw8 48 rfl rfl), (tq 99 rfl), _, rfl, rfl⟩
set_option maxRecDepth 20000 in
theorem mv_X12_387 : g_mv RX12 387 0 12 m_X12_writesJournal := ⟨⟨(tw8 58 rfl rfl), wi_X12, wc_X12_writesJournal, ⟨by decide, by decide, by decide +kernel⟩, by decide⟩, (tw8 60 rfl rfl), (tq 100 rfl), _, rfl, rfl⟩
set_option maxRecDepth 20000 in
theorem mv_X12_390 : g_mv RX12 390 0 12 m_X12_leastFit := ⟨⟨(tw8 62 rfl rfl), wi_X12, wc_X12_leastFit, ⟨by decide, by decide, by decide +kernel⟩, by decide⟩, (tw8 64 rfl rfl), (tq 101 rfl), _, rfl, rfl⟩
set_option maxRecDepth 20000 in
theorem mv_X12_417 : g_mv RX12 417 2 12 m_X12_isWritten := ⟨⟨(tw8 111 rfl rfl), wi_X12, wc_X12_isWritten, ⟨by decide, by decide, by decide +kernel⟩, by decide⟩, (tw8 113 rfl rfl), (tq 103 rfl), _, rfl, rfl⟩
set_option maxRecDepth 20000 in
theorem mv_X12_420 : g_mv RX12 420 1 12 m_X12_worksFrom := ⟨⟨(tw8 131 rfl rfl), wi_X12, wc_X12_worksFrom, ⟨by decide, by decide, by decide +kernel⟩, by decide⟩, (tw8 133 rfl rfl), (tq 106 rfl), _, rfl, rfl⟩
set_option maxRecDepth 20000 in
theorem mv_X12_423 : g_mv RX12 423 0 12 m_X12_isRight := ⟨⟨(tw8 135 rfl rfl), wi_X12, wc_X12_isRight, ⟨by decide, by decide, by decide +kernel⟩, by decide⟩, (tw8 137 rfl rfl), (tq 107 rfl), _, rfl, rfl⟩
set_option maxRecDepth 20000 in
theorem mv_X12_427 : g_mv RX12 427 3 12 m_X12_isHealed := ⟨⟨(tw8 127 rfl rfl), wi_X12, wc_X12_isHealed, ⟨by decide, by decide, by decide +kernel⟩, by decide⟩, (tw8 129 rfl rfl), (tq 105 rfl), _, rfl, rfl⟩
set_option maxRecDepth 20000 in
theorem mv_X12_431 : g_mv RX12 431 1 12 m_X12_healed := ⟨⟨(tw8 123 rfl rfl), wi_X12, wc_X12_healed, ⟨by decide, by decide, by decide +kernel⟩, by decide⟩, (tw8 125 rfl rfl), (tq 104 rfl), _, rfl, rfl⟩
set_option maxRecDepth 20000 in
theorem mv_X12_434 : g_mv RX12 434 3 12 m_X12_isHealedTwice := ⟨⟨(tw8 143 rfl rfl), wi_X12, wc_X12_isHealedTwice, ⟨by decide, by decide, by decide +kernel⟩, by decide⟩, (tw8 145 rfl rfl), (tq 108 rfl), _, rfl, rfl⟩
set_option maxRecDepth 20000 in
theorem kc_X12_178 : Cond.constant RX12 178 (Int32.ofInt 268435456) ∈ g_t := (tw7 1 rfl rfl)
set_option maxRecDepth 20000 in
theorem kl_X12_129 : Cond.constantLong RX12 129 (Int64.ofInt 40) ∈ g_t := (tw6 165 rfl rfl)
set_option maxRecDepth 20000 in
theorem kl_X12_139 : Cond.constantLong RX12 139 (Int64.ofInt 39) ∈ g_t := (tw6 177 rfl rfl)
set_option maxRecDepth 20000 in
theorem kl_X12_141 : Cond.constantLong RX12 141 (Int64.ofInt 19) ∈ g_t := (tw6 178 rfl rfl)
set_option maxRecDepth 20000 in
theorem kl_X12_143 : Cond.constantLong RX12 143 (Int64.ofInt 3) ∈ g_t := (tw6 183 rfl rfl)
set_option maxRecDepth 20000 in
theorem kl_X12_145 : Cond.constantLong RX12 145 (Int64.ofInt 8) ∈ g_t := (tw6 187 rfl rfl)
set_option maxRecDepth 20000 in
theorem kl_X12_147 : Cond.constantLong RX12 147 (Int64.ofInt 20) ∈ g_t := (tw6 188 rfl rfl)
set_option maxRecDepth 20000 in
theorem kl_X12_149 : Cond.constantLong RX12 149 (Int64.ofInt 2) ∈ g_t := (tw6 189 rfl rfl)
set_option maxRecDepth 20000 in
theorem kl_X12_200 : Cond.constantLong RX12 200 (Int64.ofInt 4) ∈ g_t := (tw7 28 rfl rfl)
set_option maxRecDepth 20000 in
theorem kl_X12_278 : Cond.constantLong RX12 278 (Int64.ofInt 8388608) ∈ g_t := (tw7 160 rfl rfl)
set_option maxRecDepth 20000 in
theorem kl_X12_280 : Cond.constantLong RX12 280 (Int64.ofInt 150) ∈ g_t := (tw7 161 rfl rfl)
set_option maxRecDepth 20000 in
theorem kl_X12_372 : Cond.constantLong RX12 372 (Int64.ofInt 400) ∈ g_t := (tw8 29 rfl rfl)
set_option maxRecDepth 20000 in
theorem kl_X12_393 : Cond.constantLong RX12 393 (Int64.ofInt 255) ∈ g_t := (tw8 74 rfl rfl)
set_option maxRecDepth 20000 in
theorem kl_X12_395 : Cond.constantLong RX12 395 (Int64.ofInt 10) ∈ g_t := (tw8 79 rfl rfl)
set_option maxRecDepth 20000 in
theorem kl_X12_397 : Cond.constantLong RX12 397 (Int64.ofInt 16777216) ∈ g_t := (tw8 89 rfl rfl)
set_option maxRecDepth 20000 in
theorem kl_X12_399 : Cond.constantLong RX12 399 (Int64.ofInt 65536) ∈ g_t := (tw8 90 rfl rfl)
set_option maxRecDepth 20000 in
theorem kl_X12_401 : Cond.constantLong RX12 401 (Int64.ofInt 256) ∈ g_t := (tw8 91 rfl rfl)
set_option maxRecDepth 20000 in
theorem kl_X12_403 : Cond.constantLong RX12 403 (Int64.ofInt 1664525) ∈ g_t := (tw8 92 rfl rfl)
set_option maxRecDepth 20000 in
theorem kl_X12_405 : Cond.constantLong RX12 405 (Int64.ofInt 1013904223) ∈ g_t := (tw8 93 rfl rfl)
set_option maxRecDepth 20000 in
theorem kl_X12_407 : Cond.constantLong RX12 407 (Int64.ofInt 4294967296) ∈ g_t := (tw8 94 rfl rfl)
set_option maxRecDepth 20000 in
theorem kl_X12_409 : Cond.constantLong RX12 409 (Int64.ofInt 9) ∈ g_t := (tw8 84 rfl rfl)
set_option maxRecDepth 20000 in
theorem kl_X12_411 : Cond.constantLong RX12 411 (Int64.ofInt (-2)) ∈ g_t := (tw8 85 rfl rfl)
set_option maxRecDepth 20000 in
theorem fd_X12_1 : g_fd RX12 1 12 0 := ⟨RX12, TX12, 51, tyX12, rfl, uw_X12, by decide, (tw5 239 rfl rfl), tyX12_ok, nmX12⟩
set_option maxRecDepth 20000 in
theorem kc_J6_264 : Cond.constant RJ6 264 (Int32.ofInt 65536) ∈ g_t := (tw3 200 rfl rfl)
set_option maxRecDepth 20000 in
theorem kc_J6_265 : Cond.constant RJ6 265 (Int32.ofInt 1431655765) ∈ g_t := (tw4 0 rfl rfl)
set_option maxRecDepth 20000 in
theorem kc_J6_266 : Cond.constant RJ6 266 (Int32.ofInt 858993459) ∈ g_t := (tw4 1 rfl rfl)
set_option maxRecDepth 20000 in
theorem kc_J6_267 : Cond.constant RJ6 267 (Int32.ofInt 252645135) ∈ g_t := (tw4 2 rfl rfl)
