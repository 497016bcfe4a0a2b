theorem zG_of {w : Cond} (h : w ∈ lw_tbl) (hg : goodWord w = true) : w ∈ zG := List.mem_filter.mpr ⟨h, hg⟩
theorem zt_1 {w : Cond} {i : Nat} (h0 : tables_1_1[i]? = some w) (hg : goodWord w = true) : w ∈ zG := by
  have h := List.mem_of_getElem? h0
  exact zG_of (List.mem_append_right _ (List.mem_append_left _ h)) hg
theorem zt_2 {w : Cond} {i : Nat} (h0 : tables_1_2[i]? = some w) (hg : goodWord w = true) : w ∈ zG := by
  have h := List.mem_of_getElem? h0
  exact zG_of (List.mem_append_right _ (List.mem_append_right _ (List.mem_append_left _ h))) hg
theorem zt_3 {w : Cond} {i : Nat} (h0 : tables_1_3[i]? = some w) (hg : goodWord w = true) : w ∈ zG := by
  have h := List.mem_of_getElem? h0
  exact zG_of (List.mem_append_right _ (List.mem_append_right _ (List.mem_append_right _ (List.mem_append_left _ h)))) hg
theorem zt_4 {w : Cond} {i : Nat} (h0 : tables_1_4[i]? = some w) (hg : goodWord w = true) : w ∈ zG := by
  have h := List.mem_of_getElem? h0
  exact zG_of (List.mem_append_right _ (List.mem_append_right _ (List.mem_append_right _ (List.mem_append_right _ (List.mem_append_left _ h))))) hg
theorem zt_5 {w : Cond} {i : Nat} (h0 : tables_1_5[i]? = some w) (hg : goodWord w = true) : w ∈ zG := by
  have h := List.mem_of_getElem? h0
  exact zG_of (List.mem_append_right _ (List.mem_append_right _ (List.mem_append_right _ (List.mem_append_right _ (List.mem_append_right _ (List.mem_append_left _ h)))))) hg
theorem zt_6 {w : Cond} {i : Nat} (h0 : tables_1_6[i]? = some w) (hg : goodWord w = true) : w ∈ zG := by
  have h := List.mem_of_getElem? h0
  exact zG_of (List.mem_append_right _ (List.mem_append_right _ (List.mem_append_right _ (List.mem_append_right _ (List.mem_append_right _ (List.mem_append_right _ (List.mem_append_left _ h))))))) hg
theorem zt_7 {w : Cond} {i : Nat} (h0 : tables_1_7[i]? = some w) (hg : goodWord w = true) : w ∈ zG := by
  have h := List.mem_of_getElem? h0
  exact zG_of (List.mem_append_right _ (List.mem_append_right _ (List.mem_append_right _ (List.mem_append_right _ (List.mem_append_right _ (List.mem_append_right _ (List.mem_append_right _ (h)))))))) hg
def MX11_init : zM := (yX11_init, cX11_init, 2, none, false)
def MX5_init : zM := (yX5_init, cX5_init, 1, none, false)
def MX8_init : zM := (yX8_init, cX8_init, 1, none, false)
def MX6_init : zM := (yX6_init, cX6_init, 2, none, false)
def MX0_init : zM := (yX0_init, cX0_init, 2, none, false)
def MJ9_max_7cf53 : zM := (yJ9_max_7cf53, cJ9_max_7cf53, 2, some .int, false)
def MX7_init : zM := (yX7_init, cX7_init, 2, none, false)
def MX1_init : zM := (yX1_init, cX1_init, 1, none, false)
def MX4_init : zM := (yX4_init, cX4_init, 1, none, false)
def MX2_init : zM := (yX2_init, cX2_init, 1, none, false)
def MX9_init : zM := (yX9_init, cX9_init, 1, none, false)
def MX3_init : zM := (yX3_init, cX3_init, 1, none, false)
def MX11_feed : zM := (yX11_feed, cX11_feed, 6, some .int, false)
def MX0_size : zM := (yX0_size, cX0_size, 1, some .int, false)
def MX0_putFour : zM := (yX0_putFour, cX0_putFour, 2, none, false)
def MX0_put : zM := (yX0_put, cX0_put, 2, none, false)
def MX11_end : zM := (yX11_end, cX11_end, 2, some .int, false)
def MX0_shorten : zM := (yX0_shorten, cX0_shorten, 2, none, false)
def MX11_told : zM := (yX11_told, cX11_told, 3, some .int, false)
def MX11_isSlot : zM := (yX11_isSlot, cX11_isSlot, 1, some .boolean, false)
def MX7_read : zM := (yX7_read, cX7_read, 2, some .boolean, false)
def MX7_advance : zM := (yX7_advance, cX7_advance, 2, none, false)
def MX0_byteAt : zM := (yX0_byteAt, cX0_byteAt, 2, some .int, false)
def MX7_isBlank : zM := (yX7_isBlank, cX7_isBlank, 1, some .boolean, false)
def MX7_runEnd : zM := (yX7_runEnd, cX7_runEnd, 4, some .int, false)
def MX7_readHead : zM := (yX7_readHead, cX7_readHead, 3, some .boolean, false)
def MX7_isWord : zM := (yX7_isWord, cX7_isWord, 3, some .boolean, false)
def MJ0_length_8abf5 : zM := (yJ0_length_8abf5, cJ0_length_8abf5, 1, some .int, false)
def MJ0_coder_7d493 : zM := (yJ0_coder_7d493, cJ0_coder_7d493, 1, some .byte, false)
def MJ0_charAt_5068e : zM := (yJ0_charAt_5068e, cJ0_charAt_5068e, 2, some .char, false)
def MJ0_isLatin1_aae02 : zM := (yJ0_isLatin1_aae02, cJ0_isLatin1_aae02, 1, some .boolean, false)
def MJ1_charAt_3b067 : zM := (yJ1_charAt_3b067, cJ1_charAt_3b067, 2, some .char, false)
def MJ0_checkIndex_df160 : zM := (yJ0_checkIndex_df160, cJ0_checkIndex_df160, 2, none, false)
def MJ3_checkIndex_8e157 : zM := (yJ3_checkIndex_8e157, cJ3_checkIndex_8e157, 3, some .int, false)
def MJ2_charAt_3b067 : zM := (yJ2_charAt_3b067, cJ2_charAt_3b067, 2, some .char, false)
def MJ2_checkIndex_2214a : zM := (yJ2_checkIndex_2214a, cJ2_checkIndex_2214a, 2, none, false)
def MJ2_length_9d52b : zM := (yJ2_length_9d52b, cJ2_length_9d52b, 1, some .int, false)
def MJ2_getChar_3b067 : zM := (yJ2_getChar_3b067, cJ2_getChar_3b067, 2, some .char, false)
def MX7_refuse : zM := (yX7_refuse, cX7_refuse, 2, some .boolean, false)
def MX7_number : zM := (yX7_number, cX7_number, 3, some .int, false)
def MJ9_min_7cf53 : zM := (yJ9_min_7cf53, cJ9_min_7cf53, 2, some .int, false)
def MX5_begin : zM := (yX5_begin, cX5_begin, 3, none, false)
def MX8_clear : zM := (yX8_clear, cX8_clear, 1, none, false)
def MX7_readTwos : zM := (yX7_readTwos, cX7_readTwos, 4, some .boolean, false)
def MX7_isSign : zM := (yX7_isSign, cX7_isSign, 2, some .boolean, false)
def MX7_readClimb : zM := (yX7_readClimb, cX7_readClimb, 5, some .boolean, false)
def MX7_thingHere : zM := (yX7_thingHere, cX7_thingHere, 3, some .int, false)
def MX5_has : zM := (yX5_has, cX5_has, 2, some .boolean, false)
def MX5_under : zM := (yX5_under, cX5_under, 3, some .boolean, false)
def MX5_link : zM := (yX5_link, cX5_link, 7, some .int, false)
def MX5_twos : zM := (yX5_twos, cX5_twos, 3, some .int, false)
def MJ6_bitCount_0f7a4 : zM := (yJ6_bitCount_0f7a4, cJ6_bitCount_0f7a4, 1, some .int, false)
def MX7_passSemicolon : zM := (yX7_passSemicolon, cX7_passSemicolon, 1, some .boolean, false)
def MX7_readRows : zM := (yX7_readRows, cX7_readRows, 3, some .boolean, false)
def MX5_rows : zM := (yX5_rows, cX5_rows, 1, some (.object "OrderGauge$Rows"), false)
def MX8_size : zM := (yX8_size, cX8_size, 1, some .int, false)
def MX7_isRowOf : zM := (yX7_isRowOf, cX7_isRowOf, 5, some .boolean, false)
def MX5_size : zM := (yX5_size, cX5_size, 1, some .int, false)
def MX7_takeRow : zM := (yX7_takeRow, cX7_takeRow, 4, none, false)
def MX8_open : zM := (yX8_open, cX8_open, 1, some .int, false)
def MX8_put : zM := (yX8_put, cX8_put, 4, none, false)
def MX8_isPlace : zM := (yX8_isPlace, cX8_isPlace, 2, some .boolean, false)
def MX11_become : zM := (yX11_become, cX11_become, 2, none, false)
def MX5_sameAs : zM := (yX5_sameAs, cX5_sameAs, 3, some .boolean, false)
def MX8_sameAs : zM := (yX8_sameAs, cX8_sameAs, 4, some .boolean, false)
def MX8_sameRow : zM := (yX8_sameRow, cX8_sameRow, 6, some .boolean, false)
def MX8_thingAt : zM := (yX8_thingAt, cX8_thingAt, 3, some .int, false)
def MX6_keep : zM := (yX6_keep, cX6_keep, 3, none, false)
def MX5_copyFrom : zM := (yX5_copyFrom, cX5_copyFrom, 2, none, false)
def MX8_copyFrom : zM := (yX8_copyFrom, cX8_copyFrom, 2, none, false)
def MX11_fault : zM := (yX11_fault, cX11_fault, 2, some .int, false)
def MX7_faultKind : zM := (yX7_faultKind, cX7_faultKind, 1, some .int, false)
def MX7_faultPlace : zM := (yX7_faultPlace, cX7_faultPlace, 1, some .int, false)
def MX11_count : zM := (yX11_count, cX11_count, 2, some .int, false)
def MX11_filledSlots : zM := (yX11_filledSlots, cX11_filledSlots, 3, some .int, false)
def MX11_orderIn : zM := (yX11_orderIn, cX11_orderIn, 2, some (.object "OrderGauge$Order"), false)
def MX6_size : zM := (yX6_size, cX6_size, 1, some .int, false)
def MX11_look : zM := (yX11_look, cX11_look, 4, some .int, false)
def MX5_covers : zM := (yX5_covers, cX5_covers, 3, some .int, false)
def MX5_coveredBy : zM := (yX5_coveredBy, cX5_coveredBy, 4, some .int, false)
def MX5_belowOf : zM := (yX5_belowOf, cX5_belowOf, 2, some .int, false)
def MX1_height : zM := (yX1_height, cX1_height, 4, some .int, false)
def MX1_measure : zM := (yX1_measure, cX1_measure, 5, none, false)
def MX5_aboveOf : zM := (yX5_aboveOf, cX5_aboveOf, 2, some .int, false)
def MX1_deepest : zM := (yX1_deepest, cX1_deepest, 5, some .int, false)
def MX10_widest : zM := (yX10_widest, cX10_widest, 3, some .int, false)
def MX5_all : zM := (yX5_all, cX5_all, 1, some .int, false)
def MX10_isFreeSet : zM := (yX10_isFreeSet, cX10_isFreeSet, 3, some .boolean, false)
def MX5_freeTwos : zM := (yX5_freeTwos, cX5_freeTwos, 1, some .int, false)
def MX10_ideals : zM := (yX10_ideals, cX10_ideals, 3, some .int, false)
def MX5_isIdeal : zM := (yX5_isIdeal, cX5_isIdeal, 3, some .boolean, false)
def MX10_hangingParts : zM := (yX10_hangingParts, cX10_hangingParts, 4, some .int, false)
def MX10_hangingWith : zM := (yX10_hangingWith, cX10_hangingWith, 5, some .int, false)
def MX11_of : zM := (yX11_of, cX11_of, 5, some .int, false)
def MX11_orderWith : zM := (yX11_orderWith, cX11_orderWith, 4, some (.object "OrderGauge$Order"), false)
def MX5_freeOf : zM := (yX5_freeOf, cX5_freeOf, 2, some .int, false)
def MX5_coversOf : zM := (yX5_coversOf, cX5_coversOf, 4, some .int, false)
def MX11_is : zM := (yX11_is, cX11_is, 4, some .int, false)
def MX11_bit : zM := (yX11_bit, cX11_bit, 1, some .int, false)
def MX10_hasN : zM := (yX10_hasN, cX10_hasN, 3, some .boolean, false)
def MX10_isLeftOfN : zM := (yX10_isLeftOfN, cX10_isLeftOfN, 6, some .boolean, false)
def MX10_hasTwoAndTwo : zM := (yX10_hasTwoAndTwo, cX10_hasTwoAndTwo, 4, some .boolean, false)
def MX10_hasThreeAndOne : zM := (yX10_hasThreeAndOne, cX10_hasThreeAndOne, 5, some .boolean, false)
def MX10_isLattice : zM := (yX10_isLattice, cX10_isLattice, 5, some .boolean, false)
def MX10_upFrom : zM := (yX10_upFrom, cX10_upFrom, 2, some .int, false)
def MX10_downFrom : zM := (yX10_downFrom, cX10_downFrom, 2, some .int, false)
def MX10_hasLeast : zM := (yX10_hasLeast, cX10_hasLeast, 3, some .boolean, false)
def MX10_hasGreatest : zM := (yX10_hasGreatest, cX10_hasGreatest, 3, some .boolean, false)
def MX1_isLevelled : zM := (yX1_isLevelled, cX1_isLevelled, 5, some .boolean, false)
def MX11_chain : zM := (yX11_chain, cX11_chain, 4, some .int, false)
def MX1_longestAt : zM := (yX1_longestAt, cX1_longestAt, 7, some .int, false)
def MX1_leastOfDepth : zM := (yX1_leastOfDepth, cX1_leastOfDepth, 5, some .int, false)
def MX11_anti : zM := (yX11_anti, cX11_anti, 3, some .int, false)
def MX11_part : zM := (yX11_part, cX11_part, 4, some .int, false)
def MX1_chainOf : zM := (yX1_chainOf, cX1_chainOf, 5, some .int, false)
def MX1_divide : zM := (yX1_divide, cX1_divide, 7, some .boolean, false)
def MX11_lines : zM := (yX11_lines, cX11_lines, 3, some .int, false)
def MX11_linesOf : zM := (yX11_linesOf, cX11_linesOf, 2, some (.object "OrderGauge$Lines"), false)
def MX4_fill : zM := (yX4_fill, cX4_fill, 5, none, false)
def MX5_canFollow : zM := (yX5_canFollow, cX5_canFollow, 3, some .boolean, false)
def MX4_total : zM := (yX4_total, cX4_total, 1, some .int, false)
def MX11_line : zM := (yX11_line, cX11_line, 5, some .int, false)
def MX4_thingAt : zM := (yX4_thingAt, cX4_thingAt, 9, some .int, false)
def MX4_waysWith : zM := (yX4_waysWith, cX4_waysWith, 4, some .int, false)
def MX11_rank : zM := (yX11_rank, cX11_rank, 4, some .int, false)
def MX11_orderWithRow : zM := (yX11_orderWithRow, cX11_orderWithRow, 4, some (.object "OrderGauge$Order"), false)
def MX8_has : zM := (yX8_has, cX8_has, 2, some .boolean, false)
def MX4_numberOf : zM := (yX4_numberOf, cX4_numberOf, 8, some .int, false)
def MX11_deep : zM := (yX11_deep, cX11_deep, 5, some .int, false)
def MX11_isBit : zM := (yX11_isBit, cX11_isBit, 1, some .boolean, false)
def MX1_depth : zM := (yX1_depth, cX1_depth, 4, some .int, false)
def MX11_through : zM := (yX11_through, cX11_through, 4, some .int, false)
def MX4_thatBeginWith : zM := (yX4_thatBeginWith, cX4_thatBeginWith, 2, some .int, false)
def MX11_before : zM := (yX11_before, cX11_before, 5, some .int, false)
def MX4_withFirstAhead : zM := (yX4_withFirstAhead, cX4_withFirstAhead, 6, some .int, false)
def MX11_at : zM := (yX11_at, cX11_at, 5, some .int, false)
def MX4_withThingAt : zM := (yX4_withThingAt, cX4_withThingAt, 6, some .int, false)
def MX11_mean : zM := (yX11_mean, cX11_mean, 8, some .int, false)
def MX4_placeSum : zM := (yX4_placeSum, cX4_placeSum, 5, some .int, false)
def MX11_commonDivisor : zM := (yX11_commonDivisor, cX11_commonDivisor, 6, some .int, false)
def MX11_balance : zM := (yX11_balance, cX11_balance, 5, some .int, false)
def MX4_bestBalanced : zM := (yX4_bestBalanced, cX4_bestBalanced, 7, some .int, false)
def MJ9_abs_0f7a4 : zM := (yJ9_abs_0f7a4, cJ9_abs_0f7a4, 1, some .int, false)
def MX11_jumps : zM := (yX11_jumps, cX11_jumps, 4, some .int, false)
def MX2_extreme : zM := (yX2_extreme, cX2_extreme, 3, some .int, false)
def MX2_measure : zM := (yX2_measure, cX2_measure, 6, none, false)
def MX2_pick : zM := (yX2_pick, cX2_pick, 9, some .int, false)
def MX2_worth : zM := (yX2_worth, cX2_worth, 6, some .int, false)
def MX11_jumper : zM := (yX11_jumper, cX11_jumper, 5, some .int, false)
def MX2_thingAt : zM := (yX2_thingAt, cX2_thingAt, 7, some .int, false)
def MX11_jumpsOf : zM := (yX11_jumpsOf, cX11_jumpsOf, 4, some .int, false)
def MX5_jumpsIn : zM := (yX5_jumpsIn, cX5_jumpsIn, 4, some .int, false)
def MX11_critical : zM := (yX11_critical, cX11_critical, 4, some .int, false)
def MX9_collect : zM := (yX9_collect, cX9_collect, 4, none, false)
def MX9_isCritical : zM := (yX9_isCritical, cX9_isCritical, 3, some .boolean, false)
def MX9_size : zM := (yX9_size, cX9_size, 1, some .int, false)
def MX9_twoAt : zM := (yX9_twoAt, cX9_twoAt, 2, some .int, false)
def MX11_reversed : zM := (yX11_reversed, cX11_reversed, 4, some .int, false)
def MX9_turnedBy : zM := (yX9_turnedBy, cX9_turnedBy, 5, some .int, false)
def MX8_comesAhead : zM := (yX8_comesAhead, cX8_comesAhead, 5, some .boolean, false)
def MX8_placeOf : zM := (yX8_placeOf, cX8_placeOf, 5, some .int, false)
def MX11_rowsAre : zM := (yX11_rowsAre, cX11_rowsAre, 4, some .int, false)
def MX5_allRowsAreLines : zM := (yX5_allRowsAreLines, cX5_allRowsAreLines, 5, some .boolean, false)
def MX5_rowsRealize : zM := (yX5_rowsRealize, cX5_rowsRealize, 2, some .boolean, false)
def MX5_alwaysAheadOf : zM := (yX5_alwaysAheadOf, cX5_alwaysAheadOf, 5, some .int, false)
def MX8_allUnlike : zM := (yX8_allUnlike, cX8_allUnlike, 4, some .boolean, false)
def MX11_ahead : zM := (yX11_ahead, cX11_ahead, 4, some .int, false)
def MX11_realizes : zM := (yX11_realizes, cX11_realizes, 6, some .int, false)
def MX11_areTries : zM := (yX11_areTries, cX11_areTries, 1, some .boolean, false)
def MX9_run : zM := (yX9_run, cX9_run, 8, some .int, false)
def MX9_startPlaces : zM := (yX9_startPlaces, cX9_startPlaces, 4, none, false)
def MX9_takeOut : zM := (yX9_takeOut, cX9_takeOut, 4, none, false)
def MX9_canStand : zM := (yX9_canStand, cX9_canStand, 3, some .boolean, false)
def MX9_putIn : zM := (yX9_putIn, cX9_putIn, 6, none, false)
def MX9_writeRows : zM := (yX9_writeRows, cX9_writeRows, 9, none, false)
def MX9_firstOf : zM := (yX9_firstOf, cX9_firstOf, 6, some .int, false)
def MX11_dimension : zM := (yX11_dimension, cX11_dimension, 6, some .int, false)
def MX11_row : zM := (yX11_row, cX11_row, 5, some .int, false)
def MX11_adds : zM := (yX11_adds, cX11_adds, 6, some .int, false)
def MX11_takes : zM := (yX11_takes, cX11_takes, 4, some .int, false)
def MX8_remove : zM := (yX8_remove, cX8_remove, 4, none, false)
def MX11_puts : zM := (yX11_puts, cX11_puts, 6, some .int, false)
def MX11_cuts : zM := (yX11_cuts, cX11_cuts, 5, some .int, false)
def MX5_unlink : zM := (yX5_unlink, cX5_unlink, 3, none, false)
def MX11_flip : zM := (yX11_flip, cX11_flip, 3, some .int, false)
def MX5_turnOver : zM := (yX5_turnOver, cX5_turnOver, 3, none, false)
def MX8_turnOver : zM := (yX8_turnOver, cX8_turnOver, 6, none, false)
def MX11_without : zM := (yX11_without, cX11_without, 4, some .int, false)
def MX5_leaveOut : zM := (yX5_leaveOut, cX5_leaveOut, 4, none, false)
def MX8_leaveOut : zM := (yX8_leaveOut, cX8_leaveOut, 7, none, false)
def MX5_closeGap : zM := (yX5_closeGap, cX5_closeGap, 3, some .int, false)
def MX11_joins : zM := (yX11_joins, cX11_joins, 7, some .int, false)
def MX5_unite : zM := (yX5_unite, cX5_unite, 6, none, false)
def MX11_alike : zM := (yX11_alike, cX11_alike, 5, some .int, false)
def MX3_between : zM := (yX3_between, cX3_between, 3, some .boolean, false)
def MX3_extend : zM := (yX3_extend, cX3_extend, 6, some .boolean, false)
def MX3_isName : zM := (yX3_isName, cX3_isName, 6, some .boolean, false)
def MX11_selves : zM := (yX11_selves, cX11_selves, 3, some .int, false)
def MX3_waysOf : zM := (yX3_waysOf, cX3_waysOf, 7, some .int, false)
def MX11_drops : zM := (yX11_drops, cX11_drops, 3, some .int, false)
def MX11_undo : zM := (yX11_undo, cX11_undo, 2, some .int, false)
def MX6_latestSlot : zM := (yX6_latestSlot, cX6_latestSlot, 1, some .int, false)
def MX6_latest : zM := (yX6_latest, cX6_latest, 1, some .int, false)
def MX6_giveBack : zM := (yX6_giveBack, cX6_giveBack, 2, none, false)
def MX11_tell : zM := (yX11_tell, cX11_tell, 3, some .int, false)
def MX5_writeTo : zM := (yX5_writeTo, cX5_writeTo, 6, none, false)
def MX0_putWord : zM := (yX0_putWord, cX0_putWord, 3, none, false)
def MX0_putDigit : zM := (yX0_putDigit, cX0_putDigit, 2, none, false)
def MX5_writeRows : zM := (yX5_writeRows, cX5_writeRows, 4, none, false)
def MX11_octet : zM := (yX11_octet, cX11_octet, 2, some .int, false)
def MX12_init : zM := (yX12_init, cX12_init, 1, none, false)
def MX12_undo : zM := (yX12_undo, cX12_undo, 2, some .int, false)
def MX12_drops : zM := (yX12_drops, cX12_drops, 2, some .int, false)
def MX12_isSlot : zM := (yX12_isSlot, cX12_isSlot, 1, some .boolean, false)
def MX12_in : zM := (yX12_in, cX12_in, 6, some .boolean, true)
def MX12_isOrder : zM := (yX12_isOrder, cX12_isOrder, 2, some .boolean, false)
def MX12_many : zM := (yX12_many, cX12_many, 2, some .int, false)
def MX12_of : zM := (yX12_of, cX12_of, 3, some .int, false)
def MX12_remembers : zM := (yX12_remembers, cX12_remembers, 2, none, false)
def MX12_empties : zM := (yX12_empties, cX12_empties, 3, none, false)
def MX12_lays : zM := (yX12_lays, cX12_lays, 4, none, false)
def MX12_keeps : zM := (yX12_keeps, cX12_keeps, 3, some .int, false)
def MX12_feed : zM := (yX12_feed, cX12_feed, 8, some .int, false)
def MX12_end : zM := (yX12_end, cX12_end, 2, some .int, false)
def MX12_told : zM := (yX12_told, cX12_told, 3, some .int, false)
def MX12_next : zM := (yX12_next, cX12_next, 1, none, false)
def MX12_isAt : zM := (yX12_isAt, cX12_isAt, 3, some .boolean, false)
def MX12_readsOrder : zM := (yX12_readsOrder, cX12_readsOrder, 3, none, false)
def MX12_isWord : zM := (yX12_isWord, cX12_isWord, 4, some .boolean, false)
def MX12_must : zM := (yX12_must, cX12_must, 2, none, false)
def MX12_faults : zM := (yX12_faults, cX12_faults, 2, none, false)
def MX12_passes : zM := (yX12_passes, cX12_passes, 1, none, false)
def MX12_here : zM := (yX12_here, cX12_here, 3, some .int, false)
def MX12_isSign : zM := (yX12_isSign, cX12_isSign, 2, some .boolean, false)
def MX12_readsChain : zM := (yX12_readsChain, cX12_readsChain, 5, none, false)
def MX12_isBelow : zM := (yX12_isBelow, cX12_isBelow, 4, some .boolean, false)
def MX12_under : zM := (yX12_under, cX12_under, 3, some .int, false)
def MX12_has : zM := (yX12_has, cX12_has, 2, some .boolean, false)
def MX12_lies : zM := (yX12_lies, cX12_lies, 7, none, false)
def MX12_over : zM := (yX12_over, cX12_over, 5, some .int, false)
def MX12_readsRow : zM := (yX12_readsRow, cX12_readsRow, 6, none, false)
def MX12_rows : zM := (yX12_rows, cX12_rows, 2, some .int, false)
def MX12_belowMany : zM := (yX12_belowMany, cX12_belowMany, 4, some .int, false)
def MX12_ones : zM := (yX12_ones, cX12_ones, 3, some .int, false)
def MX12_done : zM := (yX12_done, cX12_done, 3, some .int, false)
def MX12_fault : zM := (yX12_fault, cX12_fault, 2, some .int, false)
def MX12_count : zM := (yX12_count, cX12_count, 4, some .int, false)
def MX12_deep : zM := (yX12_deep, cX12_deep, 4, some .int, false)
def MX12_isThing : zM := (yX12_isThing, cX12_isThing, 3, some .boolean, false)
def MX12_deepOf : zM := (yX12_deepOf, cX12_deepOf, 7, some .int, false)
def MX12_chain : zM := (yX12_chain, cX12_chain, 7, some .int, false)
def MX12_height : zM := (yX12_height, cX12_height, 4, some .int, false)
def MX12_anti : zM := (yX12_anti, cX12_anti, 2, some .int, false)
def MX12_antiOf : zM := (yX12_antiOf, cX12_antiOf, 4, some .int, false)
def MX12_isAnti : zM := (yX12_isAnti, cX12_isAnti, 4, some .boolean, false)
def MX12_part : zM := (yX12_part, cX12_part, 4, some .int, false)
def MX12_parts : zM := (yX12_parts, cX12_parts, 8, some .boolean, false)
def MX12_areFree : zM := (yX12_areFree, cX12_areFree, 4, some .boolean, false)
def MX12_look : zM := (yX12_look, cX12_look, 8, some .int, false)
def MX12_isCover : zM := (yX12_isCover, cX12_isCover, 4, some .boolean, false)
def MX12_isIdeal : zM := (yX12_isIdeal, cX12_isIdeal, 4, some .boolean, false)
def MX12_hangs : zM := (yX12_hangs, cX12_hangs, 8, some .int, false)
def MX12_of_ : zM := (yX12_of_, cX12_of_, 8, some .int, false)
def MX12_is : zM := (yX12_is, cX12_is, 3, some .int, false)
def MX12_isSo : zM := (yX12_isSo, cX12_isSo, 3, some .boolean, false)
def MX12_isWithout : zM := (yX12_isWithout, cX12_isWithout, 5, some .boolean, false)
def MX12_isOfKind : zM := (yX12_isOfKind, cX12_isOfKind, 7, some .boolean, false)
def MX12_isN : zM := (yX12_isN, cX12_isN, 6, some .boolean, false)
def MX12_isTwoAndTwo : zM := (yX12_isTwoAndTwo, cX12_isTwoAndTwo, 6, some .boolean, false)
def MX12_isThreeAndOne : zM := (yX12_isThreeAndOne, cX12_isThreeAndOne, 6, some .boolean, false)
def MX12_isLattice : zM := (yX12_isLattice, cX12_isLattice, 6, some .boolean, false)
def MX12_hasEnd : zM := (yX12_hasEnd, cX12_hasEnd, 6, some .boolean, false)
def MX12_isLevelled : zM := (yX12_isLevelled, cX12_isLevelled, 4, some .boolean, false)
def MX12_lines : zM := (yX12_lines, cX12_lines, 2, some .int, false)
def MX12_laysLines : zM := (yX12_laysLines, cX12_laysLines, 5, none, false)
def MX12_line : zM := (yX12_line, cX12_line, 4, some .int, false)
def MX12_laysLine : zM := (yX12_laysLine, cX12_laysLine, 10, some .boolean, false)
def MX12_rank : zM := (yX12_rank, cX12_rank, 7, some .int, false)
def MX12_isRow : zM := (yX12_isRow, cX12_isRow, 3, some .boolean, false)
def MX12_isLine : zM := (yX12_isLine, cX12_isLine, 6, some .boolean, false)
def MX12_rowAt : zM := (yX12_rowAt, cX12_rowAt, 4, some .int, false)
def MX12_through : zM := (yX12_through, cX12_through, 3, some .int, false)
def MX12_before : zM := (yX12_before, cX12_before, 4, some .int, false)
def MX12_beforeOf : zM := (yX12_beforeOf, cX12_beforeOf, 7, some .int, false)
def MX12_at : zM := (yX12_at, cX12_at, 4, some .int, false)
def MX12_atOf : zM := (yX12_atOf, cX12_atOf, 7, some .int, false)
def MX12_mean : zM := (yX12_mean, cX12_mean, 6, some .int, false)
def MX12_common : zM := (yX12_common, cX12_common, 2, some .int, false)
def MX12_balance : zM := (yX12_balance, cX12_balance, 8, some .int, false)
def MX12_jumps : zM := (yX12_jumps, cX12_jumps, 3, some .int, false)
def MX12_laysJumper : zM := (yX12_laysJumper, cX12_laysJumper, 9, some .int, false)
def MX12_laysLeaps : zM := (yX12_laysLeaps, cX12_laysLeaps, 9, none, false)
def MX12_jumper : zM := (yX12_jumper, cX12_jumper, 5, some .int, false)
def MX12_jumpsOf : zM := (yX12_jumpsOf, cX12_jumpsOf, 5, some .int, false)
def MX12_critical : zM := (yX12_critical, cX12_critical, 3, some .int, false)
def MX12_laysTwos : zM := (yX12_laysTwos, cX12_laysTwos, 4, none, false)
def MX12_reversed : zM := (yX12_reversed, cX12_reversed, 5, some .int, false)
def MX12_placeIn : zM := (yX12_placeIn, cX12_placeIn, 5, some .int, false)
def MX12_ahead : zM := (yX12_ahead, cX12_ahead, 3, some .int, false)
def MX12_aheadOf : zM := (yX12_aheadOf, cX12_aheadOf, 6, some .int, false)
def MX12_rowsAre : zM := (yX12_rowsAre, cX12_rowsAre, 4, some .int, false)
def MX12_areLines : zM := (yX12_areLines, cX12_areLines, 3, some .boolean, false)
def MX12_isRealizer : zM := (yX12_isRealizer, cX12_isRealizer, 4, some .boolean, false)
def MX12_areUnlike : zM := (yX12_areUnlike, cX12_areUnlike, 6, some .boolean, false)
def MX12_realizes : zM := (yX12_realizes, cX12_realizes, 8, some .int, false)
def MX12_sought : zM := (yX12_sought, cX12_sought, 4, some .int, false)
def MX12_searches : zM := (yX12_searches, cX12_searches, 8, some .int, false)
def MX12_laysPlace : zM := (yX12_laysPlace, cX12_laysPlace, 6, none, false)
def MX12_laysRow : zM := (yX12_laysRow, cX12_laysRow, 6, some .boolean, false)
def MX12_dimension : zM := (yX12_dimension, cX12_dimension, 5, some .int, false)
def MX12_row : zM := (yX12_row, cX12_row, 4, some .int, false)
def MX12_adds : zM := (yX12_adds, cX12_adds, 4, some .int, false)
def MX12_takes : zM := (yX12_takes, cX12_takes, 5, some .int, false)
def MX12_puts : zM := (yX12_puts, cX12_puts, 5, some .int, false)
def MX12_cuts : zM := (yX12_cuts, cX12_cuts, 4, some .int, false)
def MX12_flip : zM := (yX12_flip, cX12_flip, 4, some .int, false)
def MX12_without : zM := (yX12_without, cX12_without, 8, some .int, false)
def MX12_without1 : zM := (yX12_without1, cX12_without1, 3, some .int, false)
def MX12_joins : zM := (yX12_joins, cX12_joins, 8, some .int, false)
def MX12_alike : zM := (yX12_alike, cX12_alike, 3, some .int, false)
def MX12_names : zM := (yX12_names, cX12_names, 10, some .int, false)
def MX12_selves : zM := (yX12_selves, cX12_selves, 2, some .int, false)
def MX12_tell : zM := (yX12_tell, cX12_tell, 5, some .int, false)
def MX12_says : zM := (yX12_says, cX12_says, 3, none, false)
def MX12_saysDigit : zM := (yX12_saysDigit, cX12_saysDigit, 2, none, false)
def MX12_octet : zM := (yX12_octet, cX12_octet, 2, some .int, false)
def ML_law : zM := (x, code, 4, some .boolean, false)
theorem g_195 : Cond.laysFinal "OrderGauge$Bytes" "OrderGauge$Bytes" "held" "[I" ∈ zG := zt_1 (i := 95) rfl rfl
theorem g_197 : Cond.lays "OrderGauge$Bytes" "OrderGauge$Bytes" "size" "I" ∈ zG := zt_1 (i := 97) rfl rfl
theorem in_X0 : ∀ w ∈ u_ws RX0 TX0 2, w ∈ zG := by
  intro w hw
  obtain ⟨k, hk, rfl⟩ := List.mem_map.mp hw
  have hk := List.mem_range.mp hk
  match k, hk with
    | 0, _ => exact g_195
    | 1, _ => exact g_197
    | k + 2, h => exact absurd h (by omega)
theorem g_234 : Cond.laysFinal "OrderGauge$Chains" "OrderGauge$Chains" "depths" "[I" ∈ zG := zt_1 (i := 134) rfl rfl
theorem g_236 : Cond.laysFinal "OrderGauge$Chains" "OrderGauge$Chains" "chosen" "[I" ∈ zG := zt_1 (i := 136) rfl rfl
theorem g_238 : Cond.laysFinal "OrderGauge$Chains" "OrderGauge$Chains" "members" "[I" ∈ zG := zt_1 (i := 138) rfl rfl
theorem in_X1 : ∀ w ∈ u_ws RX1 TX1 3, w ∈ zG := by
  intro w hw
  obtain ⟨k, hk, rfl⟩ := List.mem_map.mp hw
  have hk := List.mem_range.mp hk
  match k, hk with
    | 0, _ => exact g_234
    | 1, _ => exact g_236
    | 2, _ => exact g_238
    | k + 3, h => exact absurd h (by omega)
theorem g_261 : Cond.laysFinal "OrderGauge$Jumps" "OrderGauge$Jumps" "best" "[I" ∈ zG := zt_1 (i := 161) rfl rfl
theorem in_X2 : ∀ w ∈ u_ws RX2 TX2 1, w ∈ zG := by
  intro w hw
  obtain ⟨k, hk, rfl⟩ := List.mem_map.mp hw
  have hk := List.mem_range.mp hk
  match k, hk with
    | 0, _ => exact g_261
    | k + 1, h => exact absurd h (by omega)
theorem g_299 : Cond.laysFinal "OrderGauge$Likeness" "OrderGauge$Likeness" "names" "[I" ∈ zG := zt_1 (i := 199) rfl rfl
theorem in_X3 : ∀ w ∈ u_ws RX3 TX3 1, w ∈ zG := by
  intro w hw
  obtain ⟨k, hk, rfl⟩ := List.mem_map.mp hw
  have hk := List.mem_range.mp hk
  match k, hk with
    | 0, _ => exact g_299
    | k + 1, h => exact absurd h (by omega)
theorem g_249 : Cond.laysFinal "OrderGauge$Lines" "OrderGauge$Lines" "begun" "[I" ∈ zG := zt_1 (i := 149) rfl rfl
theorem g_251 : Cond.laysFinal "OrderGauge$Lines" "OrderGauge$Lines" "rest" "[I" ∈ zG := zt_1 (i := 151) rfl rfl
theorem in_X4 : ∀ w ∈ u_ws RX4 TX4 2, w ∈ zG := by
  intro w hw
  obtain ⟨k, hk, rfl⟩ := List.mem_map.mp hw
  have hk := List.mem_range.mp hk
  match k, hk with
    | 0, _ => exact g_249
    | 1, _ => exact g_251
    | k + 2, h => exact absurd h (by omega)
theorem g_154 : Cond.laysFinal "OrderGauge$Order" "OrderGauge$Order" "below" "[I" ∈ zG := zt_1 (i := 54) rfl rfl
theorem g_156 : Cond.laysFinal "OrderGauge$Order" "OrderGauge$Order" "above" "[I" ∈ zG := zt_1 (i := 56) rfl rfl
theorem g_158 : Cond.laysFinal "OrderGauge$Order" "OrderGauge$Order" "rows" "LOrderGauge$Rows;" ∈ zG := zt_1 (i := 58) rfl rfl
theorem g_160 : Cond.lays "OrderGauge$Order" "OrderGauge$Order" "size" "I" ∈ zG := zt_1 (i := 60) rfl rfl
theorem in_X5 : ∀ w ∈ u_ws RX5 TX5 4, w ∈ zG := by
  intro w hw
  obtain ⟨k, hk, rfl⟩ := List.mem_map.mp hw
  have hk := List.mem_range.mp hk
  match k, hk with
    | 0, _ => exact g_154
    | 1, _ => exact g_156
    | 2, _ => exact g_158
    | 3, _ => exact g_160
    | k + 4, h => exact absurd h (by omega)
theorem g_175 : Cond.laysFinal "OrderGauge$Past" "OrderGauge$Past" "kept" "[LOrderGauge$Order;" ∈ zG := zt_1 (i := 75) rfl rfl
theorem g_177 : Cond.laysFinal "OrderGauge$Past" "OrderGauge$Past" "slotOf" "[I" ∈ zG := zt_1 (i := 77) rfl rfl
theorem g_179 : Cond.lays "OrderGauge$Past" "OrderGauge$Past" "head" "I" ∈ zG := zt_1 (i := 79) rfl rfl
theorem g_181 : Cond.lays "OrderGauge$Past" "OrderGauge$Past" "size" "I" ∈ zG := zt_1 (i := 81) rfl rfl
theorem in_X6 : ∀ w ∈ u_ws RX6 TX6 4, w ∈ zG := by
  intro w hw
  obtain ⟨k, hk, rfl⟩ := List.mem_map.mp hw
  have hk := List.mem_range.mp hk
  match k, hk with
    | 0, _ => exact g_175
    | 1, _ => exact g_177
    | 2, _ => exact g_179
    | 3, _ => exact g_181
    | k + 4, h => exact absurd h (by omega)
theorem g_212 : Cond.laysFinal "OrderGauge$Reader" "OrderGauge$Reader" "tape" "LOrderGauge$Bytes;" ∈ zG := zt_1 (i := 112) rfl rfl
theorem g_214 : Cond.lays "OrderGauge$Reader" "OrderGauge$Reader" "kind" "I" ∈ zG := zt_1 (i := 114) rfl rfl
theorem g_216 : Cond.lays "OrderGauge$Reader" "OrderGauge$Reader" "start" "I" ∈ zG := zt_1 (i := 116) rfl rfl
theorem g_218 : Cond.lays "OrderGauge$Reader" "OrderGauge$Reader" "stop" "I" ∈ zG := zt_1 (i := 118) rfl rfl
theorem g_220 : Cond.lays "OrderGauge$Reader" "OrderGauge$Reader" "faultKind" "I" ∈ zG := zt_1 (i := 120) rfl rfl
theorem g_222 : Cond.lays "OrderGauge$Reader" "OrderGauge$Reader" "faultPlace" "I" ∈ zG := zt_1 (i := 122) rfl rfl
theorem in_X7 : ∀ w ∈ u_ws RX7 TX7 6, w ∈ zG := by
  intro w hw
  obtain ⟨k, hk, rfl⟩ := List.mem_map.mp hw
  have hk := List.mem_range.mp hk
  match k, hk with
    | 0, _ => exact g_212
    | 1, _ => exact g_214
    | 2, _ => exact g_216
    | 3, _ => exact g_218
    | 4, _ => exact g_220
    | 5, _ => exact g_222
    | k + 6, h => exact absurd h (by omega)
theorem g_144 : Cond.laysFinal "OrderGauge$Rows" "OrderGauge$Rows" "held" "[I" ∈ zG := zt_1 (i := 44) rfl rfl
theorem g_146 : Cond.lays "OrderGauge$Rows" "OrderGauge$Rows" "size" "I" ∈ zG := zt_1 (i := 46) rfl rfl
theorem in_X8 : ∀ w ∈ u_ws RX8 TX8 2, w ∈ zG := by
  intro w hw
  obtain ⟨k, hk, rfl⟩ := List.mem_map.mp hw
  have hk := List.mem_range.mp hk
  match k, hk with
    | 0, _ => exact g_144
    | 1, _ => exact g_146
    | k + 2, h => exact absurd h (by omega)
theorem g_277 : Cond.laysFinal "OrderGauge$Search" "OrderGauge$Search" "firsts" "[I" ∈ zG := zt_1 (i := 177) rfl rfl
theorem g_279 : Cond.laysFinal "OrderGauge$Search" "OrderGauge$Search" "seconds" "[I" ∈ zG := zt_1 (i := 179) rfl rfl
theorem g_281 : Cond.laysFinal "OrderGauge$Search" "OrderGauge$Search" "placeOf" "[I" ∈ zG := zt_1 (i := 181) rfl rfl
theorem g_283 : Cond.laysFinal "OrderGauge$Search" "OrderGauge$Search" "usedAhead" "[I" ∈ zG := zt_1 (i := 183) rfl rfl
theorem g_285 : Cond.laysFinal "OrderGauge$Search" "OrderGauge$Search" "behind" "[I" ∈ zG := zt_1 (i := 185) rfl rfl
theorem g_287 : Cond.laysFinal "OrderGauge$Search" "OrderGauge$Search" "saved" "[I" ∈ zG := zt_1 (i := 187) rfl rfl
theorem g_289 : Cond.lays "OrderGauge$Search" "OrderGauge$Search" "size" "I" ∈ zG := zt_1 (i := 189) rfl rfl
theorem in_X9 : ∀ w ∈ u_ws RX9 TX9 7, w ∈ zG := by
  intro w hw
  obtain ⟨k, hk, rfl⟩ := List.mem_map.mp hw
  have hk := List.mem_range.mp hk
  match k, hk with
    | 0, _ => exact g_277
    | 1, _ => exact g_279
    | 2, _ => exact g_281
    | 3, _ => exact g_283
    | 4, _ => exact g_285
    | 5, _ => exact g_287
    | 6, _ => exact g_289
    | k + 7, h => exact absurd h (by omega)
theorem g_313 : Cond.laysFinal "OrderGauge" "OrderGauge" "slots" "[LOrderGauge$Order;" ∈ zG := zt_1 (i := 213) rfl rfl
theorem g_315 : Cond.laysFinal "OrderGauge" "OrderGauge" "next" "LOrderGauge$Order;" ∈ zG := zt_1 (i := 215) rfl rfl
theorem g_317 : Cond.laysFinal "OrderGauge" "OrderGauge" "past" "LOrderGauge$Past;" ∈ zG := zt_1 (i := 217) rfl rfl
theorem g_319 : Cond.laysFinal "OrderGauge" "OrderGauge" "tape" "LOrderGauge$Bytes;" ∈ zG := zt_1 (i := 219) rfl rfl
theorem g_321 : Cond.laysFinal "OrderGauge" "OrderGauge" "out" "LOrderGauge$Bytes;" ∈ zG := zt_1 (i := 221) rfl rfl
theorem g_323 : Cond.laysFinal "OrderGauge" "OrderGauge" "reader" "LOrderGauge$Reader;" ∈ zG := zt_1 (i := 223) rfl rfl
theorem g_325 : Cond.laysFinal "OrderGauge" "OrderGauge" "chains" "LOrderGauge$Chains;" ∈ zG := zt_1 (i := 225) rfl rfl
theorem g_327 : Cond.laysFinal "OrderGauge" "OrderGauge" "lineTable" "LOrderGauge$Lines;" ∈ zG := zt_1 (i := 227) rfl rfl
theorem g_329 : Cond.laysFinal "OrderGauge" "OrderGauge" "jumpTable" "LOrderGauge$Jumps;" ∈ zG := zt_1 (i := 229) rfl rfl
theorem g_331 : Cond.laysFinal "OrderGauge" "OrderGauge" "search" "LOrderGauge$Search;" ∈ zG := zt_1 (i := 231) rfl rfl
theorem g_333 : Cond.laysFinal "OrderGauge" "OrderGauge" "likeness" "LOrderGauge$Likeness;" ∈ zG := zt_1 (i := 233) rfl rfl
theorem in_X11 : ∀ w ∈ u_ws RX11 TX11 11, w ∈ zG := by
  intro w hw
  obtain ⟨k, hk, rfl⟩ := List.mem_map.mp hw
  have hk := List.mem_range.mp hk
  match k, hk with
    | 0, _ => exact g_313
    | 1, _ => exact g_315
    | 2, _ => exact g_317
    | 3, _ => exact g_319
    | 4, _ => exact g_321
    | 5, _ => exact g_323
    | 6, _ => exact g_325
    | 7, _ => exact g_327
    | 8, _ => exact g_329
    | 9, _ => exact g_331
    | 10, _ => exact g_333
    | k + 11, h => exact absurd h (by omega)
theorem g_1238 : Cond.laysFinal "OrderGaugeModel" "OrderGaugeModel" "state" "[I" ∈ zG := zt_5 (i := 178) rfl rfl
theorem g_1240 : Cond.laysFinal "OrderGaugeModel" "OrderGaugeModel" "was" "[I" ∈ zG := zt_5 (i := 180) rfl rfl
theorem g_1242 : Cond.laysFinal "OrderGaugeModel" "OrderGaugeModel" "kept" "[I" ∈ zG := zt_5 (i := 182) rfl rfl
theorem g_1244 : Cond.lays "OrderGaugeModel" "OrderGaugeModel" "keptMany" "I" ∈ zG := zt_5 (i := 184) rfl rfl
theorem g_1246 : Cond.laysFinal "OrderGaugeModel" "OrderGaugeModel" "tape" "[I" ∈ zG := zt_5 (i := 186) rfl rfl
theorem g_1248 : Cond.lays "OrderGaugeModel" "OrderGaugeModel" "taped" "I" ∈ zG := zt_5 (i := 188) rfl rfl
theorem g_1250 : Cond.lays "OrderGaugeModel" "OrderGaugeModel" "faultKind" "I" ∈ zG := zt_5 (i := 190) rfl rfl
theorem g_1252 : Cond.lays "OrderGaugeModel" "OrderGaugeModel" "faultPlace" "I" ∈ zG := zt_5 (i := 192) rfl rfl
theorem g_1254 : Cond.lays "OrderGaugeModel" "OrderGaugeModel" "spot" "I" ∈ zG := zt_5 (i := 194) rfl rfl
theorem g_1256 : Cond.lays "OrderGaugeModel" "OrderGaugeModel" "begin" "I" ∈ zG := zt_5 (i := 196) rfl rfl
theorem g_1258 : Cond.lays "OrderGaugeModel" "OrderGaugeModel" "token" "I" ∈ zG := zt_5 (i := 198) rfl rfl
theorem g_1260 : Cond.lays "OrderGaugeModel" "OrderGaugeModel" "value" "I" ∈ zG := zt_5 (i := 200) rfl rfl
theorem g_1262 : Cond.lays "OrderGaugeModel" "OrderGaugeModel" "bad" "Z" ∈ zG := zt_5 (i := 202) rfl rfl
theorem g_1264 : Cond.laysFinal "OrderGaugeModel" "OrderGaugeModel" "chainOf" "[I" ∈ zG := zt_5 (i := 204) rfl rfl
theorem g_1266 : Cond.laysFinal "OrderGaugeModel" "OrderGaugeModel" "front" "[I" ∈ zG := zt_5 (i := 206) rfl rfl
theorem g_1268 : Cond.laysFinal "OrderGaugeModel" "OrderGaugeModel" "rest" "[I" ∈ zG := zt_5 (i := 208) rfl rfl
theorem g_1270 : Cond.lays "OrderGaugeModel" "OrderGaugeModel" "full" "I" ∈ zG := zt_5 (i := 210) rfl rfl
theorem g_1272 : Cond.laysFinal "OrderGaugeModel" "OrderGaugeModel" "made" "[I" ∈ zG := zt_5 (i := 212) rfl rfl
theorem g_1274 : Cond.laysFinal "OrderGaugeModel" "OrderGaugeModel" "leaps" "[I" ∈ zG := zt_5 (i := 214) rfl rfl
theorem g_1276 : Cond.laysFinal "OrderGaugeModel" "OrderGaugeModel" "firsts" "[I" ∈ zG := zt_5 (i := 216) rfl rfl
theorem g_1278 : Cond.laysFinal "OrderGaugeModel" "OrderGaugeModel" "seconds" "[I" ∈ zG := zt_5 (i := 218) rfl rfl
theorem g_1280 : Cond.lays "OrderGaugeModel" "OrderGaugeModel" "twos" "I" ∈ zG := zt_5 (i := 220) rfl rfl
theorem g_1282 : Cond.laysFinal "OrderGaugeModel" "OrderGaugeModel" "ahead" "[I" ∈ zG := zt_5 (i := 222) rfl rfl
theorem g_1284 : Cond.lays "OrderGaugeModel" "OrderGaugeModel" "tried" "I" ∈ zG := zt_5 (i := 224) rfl rfl
theorem g_1286 : Cond.laysFinal "OrderGaugeModel" "OrderGaugeModel" "places" "[I" ∈ zG := zt_5 (i := 226) rfl rfl
theorem g_1288 : Cond.laysFinal "OrderGaugeModel" "OrderGaugeModel" "turned" "[I" ∈ zG := zt_5 (i := 228) rfl rfl
theorem g_1290 : Cond.laysFinal "OrderGaugeModel" "OrderGaugeModel" "name" "[I" ∈ zG := zt_5 (i := 230) rfl rfl
theorem g_1292 : Cond.laysFinal "OrderGaugeModel" "OrderGaugeModel" "out" "[I" ∈ zG := zt_5 (i := 232) rfl rfl
theorem g_1294 : Cond.lays "OrderGaugeModel" "OrderGaugeModel" "outs" "I" ∈ zG := zt_5 (i := 234) rfl rfl
theorem in_X12 : ∀ w ∈ u_ws RX12 TX12 29, w ∈ zG := by
  intro w hw
  obtain ⟨k, hk, rfl⟩ := List.mem_map.mp hw
  have hk := List.mem_range.mp hk
  match k, hk with
    | 0, _ => exact g_1238
    | 1, _ => exact g_1240
    | 2, _ => exact g_1242
    | 3, _ => exact g_1244
    | 4, _ => exact g_1246
    | 5, _ => exact g_1248
    | 6, _ => exact g_1250
    | 7, _ => exact g_1252
    | 8, _ => exact g_1254
    | 9, _ => exact g_1256
    | 10, _ => exact g_1258
    | 11, _ => exact g_1260
    | 12, _ => exact g_1262
    | 13, _ => exact g_1264
    | 14, _ => exact g_1266
    | 15, _ => exact g_1268
    | 16, _ => exact g_1270
    | 17, _ => exact g_1272
    | 18, _ => exact g_1274
    | 19, _ => exact g_1276
    | 20, _ => exact g_1278
    | 21, _ => exact g_1280
    | 22, _ => exact g_1282
    | 23, _ => exact g_1284
    | 24, _ => exact g_1286
    | 25, _ => exact g_1288
    | 26, _ => exact g_1290
    | 27, _ => exact g_1292
    | 28, _ => exact g_1294
    | k + 29, h => exact absurd h (by omega)
theorem g_142 : Cond.fieldLink "OrderGauge$Rows" 9 "OrderGauge$Rows" "held" "[I" ∈ zG := zt_1 (i := 42) rfl rfl
theorem f_X8_9 : zFL "OrderGauge$Rows" 9 8 0 (.array .int) true := ⟨RX8, TX8, 2, tyX8, rfl, by decide, in_X8, g_142, tyX8_ok, nmX8, rfl, rfl, fun _ => rfl⟩
theorem g_143 : Cond.fieldLink "OrderGauge$Rows" 15 "OrderGauge$Rows" "size" "I" ∈ zG := zt_1 (i := 43) rfl rfl
theorem f_X8_15 : zFL "OrderGauge$Rows" 15 8 1 (.int) false := ⟨RX8, TX8, 2, tyX8, rfl, by decide, in_X8, g_143, tyX8_ok, nmX8, rfl, rfl, fun h => by cases h⟩
theorem g_150 : Cond.fieldLink "OrderGauge$Order" 9 "OrderGauge$Order" "below" "[I" ∈ zG := zt_1 (i := 50) rfl rfl
theorem f_X5_9 : zFL "OrderGauge$Order" 9 5 0 (.array .int) true := ⟨RX5, TX5, 4, tyX5, rfl, by decide, in_X5, g_150, tyX5_ok, nmX5, rfl, rfl, fun _ => rfl⟩
theorem g_151 : Cond.fieldLink "OrderGauge$Order" 15 "OrderGauge$Order" "above" "[I" ∈ zG := zt_1 (i := 51) rfl rfl
theorem f_X5_15 : zFL "OrderGauge$Order" 15 5 1 (.array .int) true := ⟨RX5, TX5, 4, tyX5, rfl, by decide, in_X5, g_151, tyX5_ok, nmX5, rfl, rfl, fun _ => rfl⟩
theorem g_152 : Cond.fieldLink "OrderGauge$Order" 21 "OrderGauge$Order" "rows" "LOrderGauge$Rows;" ∈ zG := zt_1 (i := 52) rfl rfl
theorem f_X5_21 : zFL "OrderGauge$Order" 21 5 2 (.object "OrderGauge$Rows") true := ⟨RX5, TX5, 4, tyX5, rfl, by decide, in_X5, g_152, tyX5_ok, nmX5, rfl, rfl, fun _ => rfl⟩
theorem g_153 : Cond.fieldLink "OrderGauge$Order" 25 "OrderGauge$Order" "size" "I" ∈ zG := zt_1 (i := 53) rfl rfl
theorem f_X5_25 : zFL "OrderGauge$Order" 25 5 3 (.int) false := ⟨RX5, TX5, 4, tyX5, rfl, by decide, in_X5, g_153, tyX5_ok, nmX5, rfl, rfl, fun h => by cases h⟩
theorem g_171 : Cond.fieldLink "OrderGauge$Past" 11 "OrderGauge$Past" "kept" "[LOrderGauge$Order;" ∈ zG := zt_1 (i := 71) rfl rfl
theorem f_X6_11 : zFL "OrderGauge$Past" 11 6 0 (.array (.object "OrderGauge$Order")) true := ⟨RX6, TX6, 4, tyX6, rfl, by decide, in_X6, g_171, tyX6_ok, nmX6, rfl, rfl, fun _ => rfl⟩
theorem g_172 : Cond.fieldLink "OrderGauge$Past" 17 "OrderGauge$Past" "slotOf" "[I" ∈ zG := zt_1 (i := 72) rfl rfl
theorem f_X6_17 : zFL "OrderGauge$Past" 17 6 1 (.array .int) true := ⟨RX6, TX6, 4, tyX6, rfl, by decide, in_X6, g_172, tyX6_ok, nmX6, rfl, rfl, fun _ => rfl⟩
theorem g_173 : Cond.fieldLink "OrderGauge$Past" 26 "OrderGauge$Past" "head" "I" ∈ zG := zt_1 (i := 73) rfl rfl
theorem f_X6_26 : zFL "OrderGauge$Past" 26 6 2 (.int) false := ⟨RX6, TX6, 4, tyX6, rfl, by decide, in_X6, g_173, tyX6_ok, nmX6, rfl, rfl, fun h => by cases h⟩
theorem g_174 : Cond.fieldLink "OrderGauge$Past" 22 "OrderGauge$Past" "size" "I" ∈ zG := zt_1 (i := 74) rfl rfl
theorem f_X6_22 : zFL "OrderGauge$Past" 22 6 3 (.int) false := ⟨RX6, TX6, 4, tyX6, rfl, by decide, in_X6, g_174, tyX6_ok, nmX6, rfl, rfl, fun h => by cases h⟩
theorem g_193 : Cond.fieldLink "OrderGauge$Bytes" 15 "OrderGauge$Bytes" "held" "[I" ∈ zG := zt_1 (i := 93) rfl rfl
theorem f_X0_15 : zFL "OrderGauge$Bytes" 15 0 0 (.array .int) true := ⟨RX0, TX0, 2, tyX0, rfl, by decide, in_X0, g_193, tyX0_ok, nmX0, rfl, rfl, fun _ => rfl⟩
theorem g_194 : Cond.fieldLink "OrderGauge$Bytes" 21 "OrderGauge$Bytes" "size" "I" ∈ zG := zt_1 (i := 94) rfl rfl
theorem f_X0_21 : zFL "OrderGauge$Bytes" 21 0 1 (.int) false := ⟨RX0, TX0, 2, tyX0, rfl, by decide, in_X0, g_194, tyX0_ok, nmX0, rfl, rfl, fun h => by cases h⟩
theorem g_206 : Cond.fieldLink "OrderGauge$Reader" 15 "OrderGauge$Reader" "tape" "LOrderGauge$Bytes;" ∈ zG := zt_1 (i := 106) rfl rfl
theorem f_X7_15 : zFL "OrderGauge$Reader" 15 7 0 (.object "OrderGauge$Bytes") true := ⟨RX7, TX7, 6, tyX7, rfl, by decide, in_X7, g_206, tyX7_ok, nmX7, rfl, rfl, fun _ => rfl⟩
theorem g_207 : Cond.fieldLink "OrderGauge$Reader" 48 "OrderGauge$Reader" "kind" "I" ∈ zG := zt_1 (i := 107) rfl rfl
theorem f_X7_48 : zFL "OrderGauge$Reader" 48 7 1 (.int) false := ⟨RX7, TX7, 6, tyX7, rfl, by decide, in_X7, g_207, tyX7_ok, nmX7, rfl, rfl, fun h => by cases h⟩
theorem g_208 : Cond.fieldLink "OrderGauge$Reader" 101 "OrderGauge$Reader" "start" "I" ∈ zG := zt_1 (i := 108) rfl rfl
theorem f_X7_101 : zFL "OrderGauge$Reader" 101 7 2 (.int) false := ⟨RX7, TX7, 6, tyX7, rfl, by decide, in_X7, g_208, tyX7_ok, nmX7, rfl, rfl, fun h => by cases h⟩
theorem g_209 : Cond.fieldLink "OrderGauge$Reader" 22 "OrderGauge$Reader" "stop" "I" ∈ zG := zt_1 (i := 109) rfl rfl
theorem f_X7_22 : zFL "OrderGauge$Reader" 22 7 3 (.int) false := ⟨RX7, TX7, 6, tyX7, rfl, by decide, in_X7, g_209, tyX7_ok, nmX7, rfl, rfl, fun h => by cases h⟩
theorem g_210 : Cond.fieldLink "OrderGauge$Reader" 19 "OrderGauge$Reader" "faultKind" "I" ∈ zG := zt_1 (i := 110) rfl rfl
theorem f_X7_19 : zFL "OrderGauge$Reader" 19 7 4 (.int) false := ⟨RX7, TX7, 6, tyX7, rfl, by decide, in_X7, g_210, tyX7_ok, nmX7, rfl, rfl, fun h => by cases h⟩
theorem g_211 : Cond.fieldLink "OrderGauge$Reader" 9 "OrderGauge$Reader" "faultPlace" "I" ∈ zG := zt_1 (i := 111) rfl rfl
theorem f_X7_9 : zFL "OrderGauge$Reader" 9 7 5 (.int) false := ⟨RX7, TX7, 6, tyX7, rfl, by decide, in_X7, g_211, tyX7_ok, nmX7, rfl, rfl, fun h => by cases h⟩
theorem g_231 : Cond.fieldLink "OrderGauge$Chains" 9 "OrderGauge$Chains" "depths" "[I" ∈ zG := zt_1 (i := 131) rfl rfl
theorem f_X1_9 : zFL "OrderGauge$Chains" 9 1 0 (.array .int) true := ⟨RX1, TX1, 3, tyX1, rfl, by decide, in_X1, g_231, tyX1_ok, nmX1, rfl, rfl, fun _ => rfl⟩
theorem g_232 : Cond.fieldLink "OrderGauge$Chains" 15 "OrderGauge$Chains" "chosen" "[I" ∈ zG := zt_1 (i := 132) rfl rfl
theorem f_X1_15 : zFL "OrderGauge$Chains" 15 1 1 (.array .int) true := ⟨RX1, TX1, 3, tyX1, rfl, by decide, in_X1, g_232, tyX1_ok, nmX1, rfl, rfl, fun _ => rfl⟩
theorem g_233 : Cond.fieldLink "OrderGauge$Chains" 18 "OrderGauge$Chains" "members" "[I" ∈ zG := zt_1 (i := 133) rfl rfl
theorem f_X1_18 : zFL "OrderGauge$Chains" 18 1 2 (.array .int) true := ⟨RX1, TX1, 3, tyX1, rfl, by decide, in_X1, g_233, tyX1_ok, nmX1, rfl, rfl, fun _ => rfl⟩
theorem g_247 : Cond.fieldLink "OrderGauge$Lines" 9 "OrderGauge$Lines" "begun" "[I" ∈ zG := zt_1 (i := 147) rfl rfl
theorem f_X4_9 : zFL "OrderGauge$Lines" 9 4 0 (.array .int) true := ⟨RX4, TX4, 2, tyX4, rfl, by decide, in_X4, g_247, tyX4_ok, nmX4, rfl, rfl, fun _ => rfl⟩
theorem g_248 : Cond.fieldLink "OrderGauge$Lines" 15 "OrderGauge$Lines" "rest" "[I" ∈ zG := zt_1 (i := 148) rfl rfl
theorem f_X4_15 : zFL "OrderGauge$Lines" 15 4 1 (.array .int) true := ⟨RX4, TX4, 2, tyX4, rfl, by decide, in_X4, g_248, tyX4_ok, nmX4, rfl, rfl, fun _ => rfl⟩
theorem g_260 : Cond.fieldLink "OrderGauge$Jumps" 9 "OrderGauge$Jumps" "best" "[I" ∈ zG := zt_1 (i := 160) rfl rfl
theorem f_X2_9 : zFL "OrderGauge$Jumps" 9 2 0 (.array .int) true := ⟨RX2, TX2, 1, tyX2, rfl, by decide, in_X2, g_260, tyX2_ok, nmX2, rfl, rfl, fun _ => rfl⟩
theorem g_270 : Cond.fieldLink "OrderGauge$Search" 9 "OrderGauge$Search" "firsts" "[I" ∈ zG := zt_1 (i := 170) rfl rfl
theorem f_X9_9 : zFL "OrderGauge$Search" 9 9 0 (.array .int) true := ⟨RX9, TX9, 7, tyX9, rfl, by decide, in_X9, g_270, tyX9_ok, nmX9, rfl, rfl, fun _ => rfl⟩
theorem g_271 : Cond.fieldLink "OrderGauge$Search" 15 "OrderGauge$Search" "seconds" "[I" ∈ zG := zt_1 (i := 171) rfl rfl
theorem f_X9_15 : zFL "OrderGauge$Search" 15 9 1 (.array .int) true := ⟨RX9, TX9, 7, tyX9, rfl, by decide, in_X9, g_271, tyX9_ok, nmX9, rfl, rfl, fun _ => rfl⟩
theorem g_272 : Cond.fieldLink "OrderGauge$Search" 18 "OrderGauge$Search" "placeOf" "[I" ∈ zG := zt_1 (i := 172) rfl rfl
theorem f_X9_18 : zFL "OrderGauge$Search" 18 9 2 (.array .int) true := ⟨RX9, TX9, 7, tyX9, rfl, by decide, in_X9, g_272, tyX9_ok, nmX9, rfl, rfl, fun _ => rfl⟩
theorem g_273 : Cond.fieldLink "OrderGauge$Search" 21 "OrderGauge$Search" "usedAhead" "[I" ∈ zG := zt_1 (i := 173) rfl rfl
theorem f_X9_21 : zFL "OrderGauge$Search" 21 9 3 (.array .int) true := ⟨RX9, TX9, 7, tyX9, rfl, by decide, in_X9, g_273, tyX9_ok, nmX9, rfl, rfl, fun _ => rfl⟩
theorem g_274 : Cond.fieldLink "OrderGauge$Search" 24 "OrderGauge$Search" "behind" "[I" ∈ zG := zt_1 (i := 174) rfl rfl
theorem f_X9_24 : zFL "OrderGauge$Search" 24 9 4 (.array .int) true := ⟨RX9, TX9, 7, tyX9, rfl, by decide, in_X9, g_274, tyX9_ok, nmX9, rfl, rfl, fun _ => rfl⟩
theorem g_275 : Cond.fieldLink "OrderGauge$Search" 27 "OrderGauge$Search" "saved" "[I" ∈ zG := zt_1 (i := 175) rfl rfl
theorem f_X9_27 : zFL "OrderGauge$Search" 27 9 5 (.array .int) true := ⟨RX9, TX9, 7, tyX9, rfl, by decide, in_X9, g_275, tyX9_ok, nmX9, rfl, rfl, fun _ => rfl⟩
theorem g_276 : Cond.fieldLink "OrderGauge$Search" 30 "OrderGauge$Search" "size" "I" ∈ zG := zt_1 (i := 176) rfl rfl
theorem f_X9_30 : zFL "OrderGauge$Search" 30 9 6 (.int) false := ⟨RX9, TX9, 7, tyX9, rfl, by decide, in_X9, g_276, tyX9_ok, nmX9, rfl, rfl, fun h => by cases h⟩
theorem g_298 : Cond.fieldLink "OrderGauge$Likeness" 9 "OrderGauge$Likeness" "names" "[I" ∈ zG := zt_1 (i := 198) rfl rfl
theorem f_X3_9 : zFL "OrderGauge$Likeness" 9 3 0 (.array .int) true := ⟨RX3, TX3, 1, tyX3, rfl, by decide, in_X3, g_298, tyX3_ok, nmX3, rfl, rfl, fun _ => rfl⟩
theorem g_302 : Cond.fieldLink "OrderGauge" 11 "OrderGauge" "slots" "[LOrderGauge$Order;" ∈ zG := zt_1 (i := 202) rfl rfl
theorem f_X11_11 : zFL "OrderGauge" 11 10 0 (.array (.object "OrderGauge$Order")) true := ⟨RX11, TX11, 11, tyX11, rfl, by decide, in_X11, g_302, tyX11_ok, nmX11, rfl, rfl, fun _ => rfl⟩
theorem g_303 : Cond.fieldLink "OrderGauge" 16 "OrderGauge" "next" "LOrderGauge$Order;" ∈ zG := zt_1 (i := 203) rfl rfl
theorem f_X11_16 : zFL "OrderGauge" 16 10 1 (.object "OrderGauge$Order") true := ⟨RX11, TX11, 11, tyX11, rfl, by decide, in_X11, g_303, tyX11_ok, nmX11, rfl, rfl, fun _ => rfl⟩
theorem g_304 : Cond.fieldLink "OrderGauge" 23 "OrderGauge" "past" "LOrderGauge$Past;" ∈ zG := zt_1 (i := 204) rfl rfl
theorem f_X11_23 : zFL "OrderGauge" 23 10 2 (.object "OrderGauge$Past") true := ⟨RX11, TX11, 11, tyX11, rfl, by decide, in_X11, g_304, tyX11_ok, nmX11, rfl, rfl, fun _ => rfl⟩
theorem g_305 : Cond.fieldLink "OrderGauge" 32 "OrderGauge" "tape" "LOrderGauge$Bytes;" ∈ zG := zt_1 (i := 205) rfl rfl
theorem f_X11_32 : zFL "OrderGauge" 32 10 3 (.object "OrderGauge$Bytes") true := ⟨RX11, TX11, 11, tyX11, rfl, by decide, in_X11, g_305, tyX11_ok, nmX11, rfl, rfl, fun _ => rfl⟩
theorem g_306 : Cond.fieldLink "OrderGauge" 36 "OrderGauge" "out" "LOrderGauge$Bytes;" ∈ zG := zt_1 (i := 206) rfl rfl
theorem f_X11_36 : zFL "OrderGauge" 36 10 4 (.object "OrderGauge$Bytes") true := ⟨RX11, TX11, 11, tyX11, rfl, by decide, in_X11, g_306, tyX11_ok, nmX11, rfl, rfl, fun _ => rfl⟩
theorem g_307 : Cond.fieldLink "OrderGauge" 44 "OrderGauge" "reader" "LOrderGauge$Reader;" ∈ zG := zt_1 (i := 207) rfl rfl
theorem f_X11_44 : zFL "OrderGauge" 44 10 5 (.object "OrderGauge$Reader") true := ⟨RX11, TX11, 11, tyX11, rfl, by decide, in_X11, g_307, tyX11_ok, nmX11, rfl, rfl, fun _ => rfl⟩
theorem g_308 : Cond.fieldLink "OrderGauge" 51 "OrderGauge" "chains" "LOrderGauge$Chains;" ∈ zG := zt_1 (i := 208) rfl rfl
theorem f_X11_51 : zFL "OrderGauge" 51 10 6 (.object "OrderGauge$Chains") true := ⟨RX11, TX11, 11, tyX11, rfl, by decide, in_X11, g_308, tyX11_ok, nmX11, rfl, rfl, fun _ => rfl⟩
theorem g_309 : Cond.fieldLink "OrderGauge" 58 "OrderGauge" "lineTable" "LOrderGauge$Lines;" ∈ zG := zt_1 (i := 209) rfl rfl
theorem f_X11_58 : zFL "OrderGauge" 58 10 7 (.object "OrderGauge$Lines") true := ⟨RX11, TX11, 11, tyX11, rfl, by decide, in_X11, g_309, tyX11_ok, nmX11, rfl, rfl, fun _ => rfl⟩
theorem g_310 : Cond.fieldLink "OrderGauge" 65 "OrderGauge" "jumpTable" "LOrderGauge$Jumps;" ∈ zG := zt_1 (i := 210) rfl rfl
theorem f_X11_65 : zFL "OrderGauge" 65 10 8 (.object "OrderGauge$Jumps") true := ⟨RX11, TX11, 11, tyX11, rfl, by decide, in_X11, g_310, tyX11_ok, nmX11, rfl, rfl, fun _ => rfl⟩
theorem g_311 : Cond.fieldLink "OrderGauge" 72 "OrderGauge" "search" "LOrderGauge$Search;" ∈ zG := zt_1 (i := 211) rfl rfl
theorem f_X11_72 : zFL "OrderGauge" 72 10 9 (.object "OrderGauge$Search") true := ⟨RX11, TX11, 11, tyX11, rfl, by decide, in_X11, g_311, tyX11_ok, nmX11, rfl, rfl, fun _ => rfl⟩
theorem g_312 : Cond.fieldLink "OrderGauge" 79 "OrderGauge" "likeness" "LOrderGauge$Likeness;" ∈ zG := zt_1 (i := 212) rfl rfl
theorem f_X11_79 : zFL "OrderGauge" 79 10 10 (.object "OrderGauge$Likeness") true := ⟨RX11, TX11, 11, tyX11, rfl, by decide, in_X11, g_312, tyX11_ok, nmX11, rfl, rfl, fun _ => rfl⟩
theorem g_404 : Cond.fieldLink "java/lang/String" 38 "java/lang/String" "COMPACT_STRINGS" "Z" ∈ zG := zt_2 (i := 64) rfl rfl
theorem g_420 : Cond.fieldLink "java/lang/String" 1053 "jdk/internal/util/Preconditions" "SIOOBE_FORMATTER" "Ljava/util/function/BiFunction;" ∈ zG := zt_2 (i := 80) rfl rfl
theorem g_438 : Cond.fieldLink "java/lang/StringUTF16" 44 "java/lang/StringUTF16" "$assertionsDisabled" "Z" ∈ zG := zt_2 (i := 98) rfl rfl
theorem g_440 : Cond.fieldLink "java/lang/StringUTF16" 59 "java/lang/StringUTF16" "HI_BYTE_SHIFT" "I" ∈ zG := zt_2 (i := 100) rfl rfl
theorem g_442 : Cond.fieldLink "java/lang/StringUTF16" 63 "java/lang/StringUTF16" "LO_BYTE_SHIFT" "I" ∈ zG := zt_2 (i := 102) rfl rfl
theorem g_1209 : Cond.fieldLink "OrderGaugeModel" 7 "OrderGaugeModel" "state" "[I" ∈ zG := zt_5 (i := 149) rfl rfl
theorem f_X12_7 : zFL "OrderGaugeModel" 7 11 0 (.array .int) true := ⟨RX12, TX12, 29, tyX12, rfl, by decide, in_X12, g_1209, tyX12_ok, nmX12, rfl, rfl, fun _ => rfl⟩
theorem g_1210 : Cond.fieldLink "OrderGaugeModel" 13 "OrderGaugeModel" "was" "[I" ∈ zG := zt_5 (i := 150) rfl rfl
theorem f_X12_13 : zFL "OrderGaugeModel" 13 11 1 (.array .int) true := ⟨RX12, TX12, 29, tyX12, rfl, by decide, in_X12, g_1210, tyX12_ok, nmX12, rfl, rfl, fun _ => rfl⟩
theorem g_1211 : Cond.fieldLink "OrderGaugeModel" 16 "OrderGaugeModel" "kept" "[I" ∈ zG := zt_5 (i := 151) rfl rfl
theorem f_X12_16 : zFL "OrderGaugeModel" 16 11 2 (.array .int) true := ⟨RX12, TX12, 29, tyX12, rfl, by decide, in_X12, g_1211, tyX12_ok, nmX12, rfl, rfl, fun _ => rfl⟩
theorem g_1212 : Cond.fieldLink "OrderGaugeModel" 103 "OrderGaugeModel" "keptMany" "I" ∈ zG := zt_5 (i := 152) rfl rfl
theorem f_X12_103 : zFL "OrderGaugeModel" 103 11 3 (.int) false := ⟨RX12, TX12, 29, tyX12, rfl, by decide, in_X12, g_1212, tyX12_ok, nmX12, rfl, rfl, fun h => by cases h⟩
theorem g_1213 : Cond.fieldLink "OrderGaugeModel" 19 "OrderGaugeModel" "tape" "[I" ∈ zG := zt_5 (i := 153) rfl rfl
theorem f_X12_19 : zFL "OrderGaugeModel" 19 11 4 (.array .int) true := ⟨RX12, TX12, 29, tyX12, rfl, by decide, in_X12, g_1213, tyX12_ok, nmX12, rfl, rfl, fun _ => rfl⟩
theorem g_1214 : Cond.fieldLink "OrderGaugeModel" 120 "OrderGaugeModel" "taped" "I" ∈ zG := zt_5 (i := 154) rfl rfl
theorem f_X12_120 : zFL "OrderGaugeModel" 120 11 5 (.int) false := ⟨RX12, TX12, 29, tyX12, rfl, by decide, in_X12, g_1214, tyX12_ok, nmX12, rfl, rfl, fun h => by cases h⟩
theorem g_1215 : Cond.fieldLink "OrderGaugeModel" 147 "OrderGaugeModel" "faultKind" "I" ∈ zG := zt_5 (i := 155) rfl rfl
theorem f_X12_147 : zFL "OrderGaugeModel" 147 11 6 (.int) false := ⟨RX12, TX12, 29, tyX12, rfl, by decide, in_X12, g_1215, tyX12_ok, nmX12, rfl, rfl, fun h => by cases h⟩
theorem g_1216 : Cond.fieldLink "OrderGaugeModel" 22 "OrderGaugeModel" "faultPlace" "I" ∈ zG := zt_5 (i := 156) rfl rfl
theorem f_X12_22 : zFL "OrderGaugeModel" 22 11 7 (.int) false := ⟨RX12, TX12, 29, tyX12, rfl, by decide, in_X12, g_1216, tyX12_ok, nmX12, rfl, rfl, fun h => by cases h⟩
theorem g_1217 : Cond.fieldLink "OrderGaugeModel" 123 "OrderGaugeModel" "spot" "I" ∈ zG := zt_5 (i := 157) rfl rfl
theorem f_X12_123 : zFL "OrderGaugeModel" 123 11 8 (.int) false := ⟨RX12, TX12, 29, tyX12, rfl, by decide, in_X12, g_1217, tyX12_ok, nmX12, rfl, rfl, fun h => by cases h⟩
theorem g_1218 : Cond.fieldLink "OrderGaugeModel" 129 "OrderGaugeModel" "begin" "I" ∈ zG := zt_5 (i := 158) rfl rfl
theorem f_X12_129 : zFL "OrderGaugeModel" 129 11 9 (.int) false := ⟨RX12, TX12, 29, tyX12, rfl, by decide, in_X12, g_1218, tyX12_ok, nmX12, rfl, rfl, fun h => by cases h⟩
theorem g_1219 : Cond.fieldLink "OrderGaugeModel" 135 "OrderGaugeModel" "token" "I" ∈ zG := zt_5 (i := 159) rfl rfl
theorem f_X12_135 : zFL "OrderGaugeModel" 135 11 10 (.int) false := ⟨RX12, TX12, 29, tyX12, rfl, by decide, in_X12, g_1219, tyX12_ok, nmX12, rfl, rfl, fun h => by cases h⟩
theorem g_1220 : Cond.fieldLink "OrderGaugeModel" 132 "OrderGaugeModel" "value" "I" ∈ zG := zt_5 (i := 160) rfl rfl
theorem f_X12_132 : zFL "OrderGaugeModel" 132 11 11 (.int) false := ⟨RX12, TX12, 29, tyX12, rfl, by decide, in_X12, g_1220, tyX12_ok, nmX12, rfl, rfl, fun h => by cases h⟩
theorem g_1221 : Cond.fieldLink "OrderGaugeModel" 143 "OrderGaugeModel" "bad" "Z" ∈ zG := zt_5 (i := 161) rfl rfl
theorem f_X12_143 : zFL "OrderGaugeModel" 143 11 12 (.boolean) false := ⟨RX12, TX12, 29, tyX12, rfl, by decide, in_X12, g_1221, tyX12_ok, nmX12, rfl, rfl, fun h => by cases h⟩
theorem g_1222 : Cond.fieldLink "OrderGaugeModel" 26 "OrderGaugeModel" "chainOf" "[I" ∈ zG := zt_5 (i := 162) rfl rfl
theorem f_X12_26 : zFL "OrderGaugeModel" 26 11 13 (.array .int) true := ⟨RX12, TX12, 29, tyX12, rfl, by decide, in_X12, g_1222, tyX12_ok, nmX12, rfl, rfl, fun _ => rfl⟩
theorem g_1223 : Cond.fieldLink "OrderGaugeModel" 29 "OrderGaugeModel" "front" "[I" ∈ zG := zt_5 (i := 163) rfl rfl
theorem f_X12_29 : zFL "OrderGaugeModel" 29 11 14 (.array .int) true := ⟨RX12, TX12, 29, tyX12, rfl, by decide, in_X12, g_1223, tyX12_ok, nmX12, rfl, rfl, fun _ => rfl⟩
theorem g_1224 : Cond.fieldLink "OrderGaugeModel" 32 "OrderGaugeModel" "rest" "[I" ∈ zG := zt_5 (i := 164) rfl rfl
theorem f_X12_32 : zFL "OrderGaugeModel" 32 11 15 (.array .int) true := ⟨RX12, TX12, 29, tyX12, rfl, by decide, in_X12, g_1224, tyX12_ok, nmX12, rfl, rfl, fun _ => rfl⟩
theorem g_1225 : Cond.fieldLink "OrderGaugeModel" 282 "OrderGaugeModel" "full" "I" ∈ zG := zt_5 (i := 165) rfl rfl
theorem f_X12_282 : zFL "OrderGaugeModel" 282 11 16 (.int) false := ⟨RX12, TX12, 29, tyX12, rfl, by decide, in_X12, g_1225, tyX12_ok, nmX12, rfl, rfl, fun h => by cases h⟩
theorem g_1226 : Cond.fieldLink "OrderGaugeModel" 35 "OrderGaugeModel" "made" "[I" ∈ zG := zt_5 (i := 166) rfl rfl
theorem f_X12_35 : zFL "OrderGaugeModel" 35 11 17 (.array .int) true := ⟨RX12, TX12, 29, tyX12, rfl, by decide, in_X12, g_1226, tyX12_ok, nmX12, rfl, rfl, fun _ => rfl⟩
theorem g_1227 : Cond.fieldLink "OrderGaugeModel" 38 "OrderGaugeModel" "leaps" "[I" ∈ zG := zt_5 (i := 167) rfl rfl
theorem f_X12_38 : zFL "OrderGaugeModel" 38 11 18 (.array .int) true := ⟨RX12, TX12, 29, tyX12, rfl, by decide, in_X12, g_1227, tyX12_ok, nmX12, rfl, rfl, fun _ => rfl⟩
theorem g_1228 : Cond.fieldLink "OrderGaugeModel" 41 "OrderGaugeModel" "firsts" "[I" ∈ zG := zt_5 (i := 168) rfl rfl
theorem f_X12_41 : zFL "OrderGaugeModel" 41 11 19 (.array .int) true := ⟨RX12, TX12, 29, tyX12, rfl, by decide, in_X12, g_1228, tyX12_ok, nmX12, rfl, rfl, fun _ => rfl⟩
theorem g_1229 : Cond.fieldLink "OrderGaugeModel" 44 "OrderGaugeModel" "seconds" "[I" ∈ zG := zt_5 (i := 169) rfl rfl
theorem f_X12_44 : zFL "OrderGaugeModel" 44 11 20 (.array .int) true := ⟨RX12, TX12, 29, tyX12, rfl, by decide, in_X12, g_1229, tyX12_ok, nmX12, rfl, rfl, fun _ => rfl⟩
theorem g_1230 : Cond.fieldLink "OrderGaugeModel" 321 "OrderGaugeModel" "twos" "I" ∈ zG := zt_5 (i := 170) rfl rfl
theorem f_X12_321 : zFL "OrderGaugeModel" 321 11 21 (.int) false := ⟨RX12, TX12, 29, tyX12, rfl, by decide, in_X12, g_1230, tyX12_ok, nmX12, rfl, rfl, fun h => by cases h⟩
theorem g_1231 : Cond.fieldLink "OrderGaugeModel" 47 "OrderGaugeModel" "ahead" "[I" ∈ zG := zt_5 (i := 171) rfl rfl
theorem f_X12_47 : zFL "OrderGaugeModel" 47 11 22 (.array .int) true := ⟨RX12, TX12, 29, tyX12, rfl, by decide, in_X12, g_1231, tyX12_ok, nmX12, rfl, rfl, fun _ => rfl⟩
theorem g_1232 : Cond.fieldLink "OrderGaugeModel" 342 "OrderGaugeModel" "tried" "I" ∈ zG := zt_5 (i := 172) rfl rfl
theorem f_X12_342 : zFL "OrderGaugeModel" 342 11 23 (.int) false := ⟨RX12, TX12, 29, tyX12, rfl, by decide, in_X12, g_1232, tyX12_ok, nmX12, rfl, rfl, fun h => by cases h⟩
theorem g_1233 : Cond.fieldLink "OrderGaugeModel" 50 "OrderGaugeModel" "places" "[I" ∈ zG := zt_5 (i := 173) rfl rfl
theorem f_X12_50 : zFL "OrderGaugeModel" 50 11 24 (.array .int) true := ⟨RX12, TX12, 29, tyX12, rfl, by decide, in_X12, g_1233, tyX12_ok, nmX12, rfl, rfl, fun _ => rfl⟩
theorem g_1234 : Cond.fieldLink "OrderGaugeModel" 53 "OrderGaugeModel" "turned" "[I" ∈ zG := zt_5 (i := 174) rfl rfl
theorem f_X12_53 : zFL "OrderGaugeModel" 53 11 25 (.array .int) true := ⟨RX12, TX12, 29, tyX12, rfl, by decide, in_X12, g_1234, tyX12_ok, nmX12, rfl, rfl, fun _ => rfl⟩
theorem g_1235 : Cond.fieldLink "OrderGaugeModel" 56 "OrderGaugeModel" "name" "[I" ∈ zG := zt_5 (i := 175) rfl rfl
theorem f_X12_56 : zFL "OrderGaugeModel" 56 11 26 (.array .int) true := ⟨RX12, TX12, 29, tyX12, rfl, by decide, in_X12, g_1235, tyX12_ok, nmX12, rfl, rfl, fun _ => rfl⟩
theorem g_1236 : Cond.fieldLink "OrderGaugeModel" 59 "OrderGaugeModel" "out" "[I" ∈ zG := zt_5 (i := 176) rfl rfl
theorem f_X12_59 : zFL "OrderGaugeModel" 59 11 27 (.array .int) true := ⟨RX12, TX12, 29, tyX12, rfl, by decide, in_X12, g_1236, tyX12_ok, nmX12, rfl, rfl, fun _ => rfl⟩
theorem g_1237 : Cond.fieldLink "OrderGaugeModel" 205 "OrderGaugeModel" "outs" "I" ∈ zG := zt_5 (i := 177) rfl rfl
theorem f_X12_205 : zFL "OrderGaugeModel" 205 11 28 (.int) false := ⟨RX12, TX12, 29, tyX12, rfl, by decide, in_X12, g_1237, tyX12_ok, nmX12, rfl, rfl, fun h => by cases h⟩
theorem g_1770 : Cond.fieldLink "java/lang/String" 9 "java/lang/String" "value" "[B" ∈ zG := zt_7 (i := 230) rfl rfl
theorem g_1771 : Cond.fieldLink "java/lang/String" 15 "java/lang/String" "coder" "B" ∈ zG := zt_7 (i := 231) rfl rfl
theorem g_123 : Cond.methodLink "OrderGaugeLaw" 9 yX11_init ∈ zG := zt_1 (i := 23) rfl rfl
theorem g_124 : Cond.instanceMethod yX11_init ∈ zG := zt_1 (i := 24) rfl rfl
theorem g_101 : Cond.initialized "OrderGauge" ∈ zG := zt_1 (i := 1) rfl rfl
theorem g_125 : Cond.code yX11_init cX11_init 2 none ∈ zG := zt_1 (i := 25) rfl rfl
theorem m_L_9 : zMI "OrderGaugeLaw" 9 MX11_init 0 := ⟨Or.inl g_123, rfl, rfl, g_124, g_101, g_125, ⟨by decide, by decide, by decide⟩, by decide⟩
theorem g_126 : Cond.methodLink "OrderGauge" 3 objectInit ∈ zG := zt_1 (i := 26) rfl rfl
theorem g_135 : Cond.methodLink "OrderGauge$Order" 3 objectInit ∈ zG := zt_1 (i := 35) rfl rfl
theorem g_141 : Cond.methodLink "OrderGauge$Rows" 3 objectInit ∈ zG := zt_1 (i := 41) rfl rfl
theorem g_165 : Cond.methodLink "OrderGauge" 22 yX6_init ∈ zG := zt_1 (i := 65) rfl rfl
theorem g_166 : Cond.instanceMethod yX6_init ∈ zG := zt_1 (i := 66) rfl rfl
theorem g_104 : Cond.initialized "OrderGauge$Past" ∈ zG := zt_1 (i := 4) rfl rfl
theorem g_167 : Cond.code yX6_init cX6_init 2 none ∈ zG := zt_1 (i := 67) rfl rfl
theorem m_X11_22 : zMI "OrderGauge" 22 MX6_init 0 := ⟨Or.inl g_165, rfl, rfl, g_166, g_104, g_167, ⟨by decide, by decide, by decide⟩, by decide⟩
theorem g_168 : Cond.methodLink "OrderGauge$Past" 3 objectInit ∈ zG := zt_1 (i := 68) rfl rfl
theorem g_186 : Cond.methodLink "OrderGauge" 29 yX0_init ∈ zG := zt_1 (i := 86) rfl rfl
theorem g_187 : Cond.instanceMethod yX0_init ∈ zG := zt_1 (i := 87) rfl rfl
theorem g_105 : Cond.initialized "OrderGauge$Bytes" ∈ zG := zt_1 (i := 5) rfl rfl
theorem g_188 : Cond.code yX0_init cX0_init 2 none ∈ zG := zt_1 (i := 88) rfl rfl
theorem m_X11_29 : zMI "OrderGauge" 29 MX0_init 1 := ⟨Or.inl g_186, rfl, rfl, g_187, g_105, g_188, ⟨by decide, by decide, by decide⟩, by decide⟩
theorem g_189 : Cond.methodLink "OrderGauge$Bytes" 3 objectInit ∈ zG := zt_1 (i := 89) rfl rfl
theorem g_190 : Cond.methodLink "OrderGauge$Bytes" 9 yJ9_max_7cf53 ∈ zG := zt_1 (i := 90) rfl rfl
theorem g_202 : Cond.methodLink "OrderGauge" 41 yX7_init ∈ zG := zt_1 (i := 102) rfl rfl
theorem g_203 : Cond.instanceMethod yX7_init ∈ zG := zt_1 (i := 103) rfl rfl
theorem g_107 : Cond.initialized "OrderGauge$Reader" ∈ zG := zt_1 (i := 7) rfl rfl
theorem g_204 : Cond.code yX7_init cX7_init 2 none ∈ zG := zt_1 (i := 104) rfl rfl
theorem m_X11_41 : zMI "OrderGauge" 41 MX7_init 1 := ⟨Or.inl g_202, rfl, rfl, g_203, g_107, g_204, ⟨by decide, by decide, by decide⟩, by decide⟩
theorem g_205 : Cond.methodLink "OrderGauge$Reader" 3 objectInit ∈ zG := zt_1 (i := 105) rfl rfl
theorem g_230 : Cond.methodLink "OrderGauge$Chains" 3 objectInit ∈ zG := zt_1 (i := 130) rfl rfl
theorem g_246 : Cond.methodLink "OrderGauge$Lines" 3 objectInit ∈ zG := zt_1 (i := 146) rfl rfl
theorem g_259 : Cond.methodLink "OrderGauge$Jumps" 3 objectInit ∈ zG := zt_1 (i := 159) rfl rfl
theorem g_269 : Cond.methodLink "OrderGauge$Search" 3 objectInit ∈ zG := zt_1 (i := 169) rfl rfl
theorem g_297 : Cond.methodLink "OrderGauge$Likeness" 3 objectInit ∈ zG := zt_1 (i := 197) rfl rfl
theorem g_336 : Cond.methodLink "OrderGaugeLaw" 13 yX11_feed ∈ zG := zt_1 (i := 236) rfl rfl
theorem g_337 : Cond.instanceMethod yX11_feed ∈ zG := zt_1 (i := 237) rfl rfl
theorem g_338 : Cond.selects "OrderGauge" yX11_feed yX11_feed ∈ zG := zt_1 (i := 238) rfl rfl
theorem g_339 : Cond.code yX11_feed cX11_feed 6 (some .int) ∈ zG := zt_1 (i := 239) rfl rfl
theorem m_L_13 : zMV "OrderGaugeLaw" 13 MX11_feed 10 5 := ⟨⟨_, _, rfl⟩, g_336, g_337, g_338, g_101, g_339, ⟨by decide, by decide, by decide⟩, by decide⟩
theorem g_340 : Cond.methodLink "OrderGauge" 83 yX0_size ∈ zG := zt_2 (i := 0) rfl rfl
theorem g_341 : Cond.instanceMethod yX0_size ∈ zG := zt_2 (i := 1) rfl rfl
theorem g_342 : Cond.selects "OrderGauge$Bytes" yX0_size yX0_size ∈ zG := zt_2 (i := 2) rfl rfl
theorem g_343 : Cond.code yX0_size cX0_size 1 (some .int) ∈ zG := zt_2 (i := 3) rfl rfl
theorem m_X11_83 : zMV "OrderGauge" 83 MX0_size 0 0 := ⟨⟨_, _, rfl⟩, g_340, g_341, g_342, g_105, g_343, ⟨by decide, by decide, by decide⟩, by decide⟩
theorem g_344 : Cond.methodLink "OrderGauge" 87 yX0_putFour ∈ zG := zt_2 (i := 4) rfl rfl
theorem g_345 : Cond.instanceMethod yX0_putFour ∈ zG := zt_2 (i := 5) rfl rfl
theorem g_346 : Cond.selects "OrderGauge$Bytes" yX0_putFour yX0_putFour ∈ zG := zt_2 (i := 6) rfl rfl
theorem g_347 : Cond.code yX0_putFour cX0_putFour 2 none ∈ zG := zt_2 (i := 7) rfl rfl
theorem m_X11_87 : zMV "OrderGauge" 87 MX0_putFour 0 1 := ⟨⟨_, _, rfl⟩, g_344, g_345, g_346, g_105, g_347, ⟨by decide, by decide, by decide⟩, by decide⟩
theorem g_348 : Cond.methodLink "OrderGauge$Bytes" 25 yX0_put ∈ zG := zt_2 (i := 8) rfl rfl
theorem g_349 : Cond.instanceMethod yX0_put ∈ zG := zt_2 (i := 9) rfl rfl
theorem g_350 : Cond.selects "OrderGauge$Bytes" yX0_put yX0_put ∈ zG := zt_2 (i := 10) rfl rfl
theorem g_351 : Cond.code yX0_put cX0_put 2 none ∈ zG := zt_2 (i := 11) rfl rfl
theorem m_X0_25 : zMV "OrderGauge$Bytes" 25 MX0_put 0 1 := ⟨⟨_, _, rfl⟩, g_348, g_349, g_350, g_105, g_351, ⟨by decide, by decide, by decide⟩, by decide⟩
theorem g_352 : Cond.methodLink "OrderGaugeLaw" 18 yX11_end ∈ zG := zt_2 (i := 12) rfl rfl
theorem g_353 : Cond.instanceMethod yX11_end ∈ zG := zt_2 (i := 13) rfl rfl
theorem g_354 : Cond.selects "OrderGauge" yX11_end yX11_end ∈ zG := zt_2 (i := 14) rfl rfl
theorem g_355 : Cond.code yX11_end cX11_end 2 (some .int) ∈ zG := zt_2 (i := 15) rfl rfl
theorem m_L_18 : zMV "OrderGaugeLaw" 18 MX11_end 10 1 := ⟨⟨_, _, rfl⟩, g_352, g_353, g_354, g_101, g_355, ⟨by decide, by decide, by decide⟩, by decide⟩
theorem g_356 : Cond.methodLink "OrderGauge" 90 yX0_shorten ∈ zG := zt_2 (i := 16) rfl rfl
theorem g_357 : Cond.instanceMethod yX0_shorten ∈ zG := zt_2 (i := 17) rfl rfl
theorem g_358 : Cond.selects "OrderGauge$Bytes" yX0_shorten yX0_shorten ∈ zG := zt_2 (i := 18) rfl rfl
theorem g_359 : Cond.code yX0_shorten cX0_shorten 2 none ∈ zG := zt_2 (i := 19) rfl rfl
theorem m_X11_90 : zMV "OrderGauge" 90 MX0_shorten 0 1 := ⟨⟨_, _, rfl⟩, g_356, g_357, g_358, g_105, g_359, ⟨by decide, by decide, by decide⟩, by decide⟩
theorem g_360 : Cond.methodLink "OrderGaugeLaw" 23 yX11_told ∈ zG := zt_2 (i := 20) rfl rfl
theorem g_361 : Cond.instanceMethod yX11_told ∈ zG := zt_2 (i := 21) rfl rfl
theorem g_362 : Cond.selects "OrderGauge" yX11_told yX11_told ∈ zG := zt_2 (i := 22) rfl rfl
theorem g_363 : Cond.code yX11_told cX11_told 3 (some .int) ∈ zG := zt_2 (i := 23) rfl rfl
theorem m_L_23 : zMV "OrderGaugeLaw" 23 MX11_told 10 1 := ⟨⟨_, _, rfl⟩, g_360, g_361, g_362, g_101, g_363, ⟨by decide, by decide, by decide⟩, by decide⟩
theorem g_364 : Cond.methodLink "OrderGauge" 93 yX11_isSlot ∈ zG := zt_2 (i := 24) rfl rfl
theorem g_365 : Cond.static yX11_isSlot ∈ zG := zt_2 (i := 25) rfl rfl
theorem g_366 : Cond.code yX11_isSlot cX11_isSlot 1 (some .boolean) ∈ zG := zt_2 (i := 26) rfl rfl
theorem m_X11_93 : zMS "OrderGauge" 93 MX11_isSlot 1 := ⟨g_364, g_365, g_101, g_366, ⟨by decide, by decide, by decide⟩, by decide⟩
theorem g_367 : Cond.methodLink "OrderGauge" 97 yX7_read ∈ zG := zt_2 (i := 27) rfl rfl
theorem g_368 : Cond.instanceMethod yX7_read ∈ zG := zt_2 (i := 28) rfl rfl
theorem g_369 : Cond.selects "OrderGauge$Reader" yX7_read yX7_read ∈ zG := zt_2 (i := 29) rfl rfl
theorem g_370 : Cond.code yX7_read cX7_read 2 (some .boolean) ∈ zG := zt_2 (i := 30) rfl rfl
theorem m_X11_97 : zMV "OrderGauge" 97 MX7_read 7 1 := ⟨⟨_, _, rfl⟩, g_367, g_368, g_369, g_107, g_370, ⟨by decide, by decide, by decide⟩, by decide⟩
theorem g_371 : Cond.methodLink "OrderGauge$Reader" 25 yX7_advance ∈ zG := zt_2 (i := 31) rfl rfl
theorem g_373 : Cond.instanceMethod yX7_advance ∈ zG := zt_2 (i := 33) rfl rfl
theorem g_0 : Cond.selects "OrderGauge$Reader" yX7_advance yX7_advance ∈ zG := zG_mem 0 rfl rfl
theorem g_374 : Cond.code yX7_advance cX7_advance 2 none ∈ zG := zt_2 (i := 34) rfl rfl
theorem m_X7_25 : zMV "OrderGauge$Reader" 25 MX7_advance 7 0 := ⟨⟨_, _, rfl⟩, g_371, g_373, g_0, g_107, g_374, ⟨by decide, by decide, by decide⟩, by decide⟩
theorem g_375 : Cond.methodLink "OrderGauge$Reader" 121 yX0_size ∈ zG := zt_2 (i := 35) rfl rfl
theorem m_X7_121 : zMV "OrderGauge$Reader" 121 MX0_size 0 0 := ⟨⟨_, _, rfl⟩, g_375, g_341, g_342, g_105, g_343, ⟨by decide, by decide, by decide⟩, by decide⟩
theorem g_376 : Cond.methodLink "OrderGauge$Reader" 105 yX0_byteAt ∈ zG := zt_2 (i := 36) rfl rfl
theorem g_377 : Cond.instanceMethod yX0_byteAt ∈ zG := zt_2 (i := 37) rfl rfl
theorem g_378 : Cond.selects "OrderGauge$Bytes" yX0_byteAt yX0_byteAt ∈ zG := zt_2 (i := 38) rfl rfl
theorem g_379 : Cond.code yX0_byteAt cX0_byteAt 2 (some .int) ∈ zG := zt_2 (i := 39) rfl rfl
theorem m_X7_105 : zMV "OrderGauge$Reader" 105 MX0_byteAt 0 1 := ⟨⟨_, _, rfl⟩, g_376, g_377, g_378, g_105, g_379, ⟨by decide, by decide, by decide⟩, by decide⟩
theorem g_380 : Cond.methodLink "OrderGauge$Reader" 122 yX7_isBlank ∈ zG := zt_2 (i := 40) rfl rfl
theorem g_381 : Cond.static yX7_isBlank ∈ zG := zt_2 (i := 41) rfl rfl
theorem g_382 : Cond.code yX7_isBlank cX7_isBlank 1 (some .boolean) ∈ zG := zt_2 (i := 42) rfl rfl
theorem m_X7_122 : zMS "OrderGauge$Reader" 122 MX7_isBlank 1 := ⟨g_380, g_381, g_107, g_382, ⟨by decide, by decide, by decide⟩, by decide⟩
theorem g_383 : Cond.methodLink "OrderGauge$Reader" 125 yX7_runEnd ∈ zG := zt_2 (i := 43) rfl rfl
theorem g_385 : Cond.instanceMethod yX7_runEnd ∈ zG := zt_2 (i := 45) rfl rfl
theorem g_1 : Cond.selects "OrderGauge$Reader" yX7_runEnd yX7_runEnd ∈ zG := zG_mem 1 rfl rfl
theorem g_386 : Cond.code yX7_runEnd cX7_runEnd 4 (some .int) ∈ zG := zt_2 (i := 46) rfl rfl
theorem m_X7_125 : zMV "OrderGauge$Reader" 125 MX7_runEnd 7 2 := ⟨⟨_, _, rfl⟩, g_383, g_385, g_1, g_107, g_386, ⟨by decide, by decide, by decide⟩, by decide⟩
theorem g_387 : Cond.methodLink "OrderGauge$Reader" 28 yX7_readHead ∈ zG := zt_2 (i := 47) rfl rfl
theorem g_389 : Cond.instanceMethod yX7_readHead ∈ zG := zt_2 (i := 49) rfl rfl
theorem g_2 : Cond.selects "OrderGauge$Reader" yX7_readHead yX7_readHead ∈ zG := zG_mem 2 rfl rfl
theorem g_390 : Cond.code yX7_readHead cX7_readHead 3 (some .boolean) ∈ zG := zt_2 (i := 50) rfl rfl
theorem m_X7_28 : zMV "OrderGauge$Reader" 28 MX7_readHead 7 1 := ⟨⟨_, _, rfl⟩, g_387, g_389, g_2, g_107, g_390, ⟨by decide, by decide, by decide⟩, by decide⟩
theorem g_392 : Cond.methodLink "OrderGauge$Reader" 40 yX7_isWord ∈ zG := zt_2 (i := 52) rfl rfl
theorem g_394 : Cond.instanceMethod yX7_isWord ∈ zG := zt_2 (i := 54) rfl rfl
theorem g_3 : Cond.selects "OrderGauge$Reader" yX7_isWord yX7_isWord ∈ zG := zG_mem 3 rfl rfl
theorem g_395 : Cond.code yX7_isWord cX7_isWord 3 (some .boolean) ∈ zG := zt_2 (i := 55) rfl rfl
theorem m_X7_40 : zMV "OrderGauge$Reader" 40 MX7_isWord 7 1 := ⟨⟨_, _, rfl⟩, g_392, g_394, g_3, g_107, g_395, ⟨by decide, by decide, by decide⟩, by decide⟩
theorem g_396 : Cond.methodLink "OrderGauge$Reader" 128 yJ0_length_8abf5 ∈ zG := zt_2 (i := 56) rfl rfl
theorem g_400 : Cond.methodLink "java/lang/String" 335 yJ0_coder_7d493 ∈ zG := zt_2 (i := 60) rfl rfl
theorem g_406 : Cond.methodLink "OrderGauge$Reader" 133 yJ0_charAt_5068e ∈ zG := zt_2 (i := 66) rfl rfl
theorem g_410 : Cond.methodLink "java/lang/String" 492 yJ0_isLatin1_aae02 ∈ zG := zt_2 (i := 70) rfl rfl
theorem g_414 : Cond.methodLink "java/lang/String" 495 yJ1_charAt_3b067 ∈ zG := zt_2 (i := 74) rfl rfl
theorem g_415 : Cond.static yJ1_charAt_3b067 ∈ zG := zt_2 (i := 75) rfl rfl
theorem g_115 : Cond.initialized "java/lang/StringLatin1" ∈ zG := zt_1 (i := 15) rfl rfl
theorem g_416 : Cond.code yJ1_charAt_3b067 cJ1_charAt_3b067 2 (some .char) ∈ zG := zt_2 (i := 76) rfl rfl
theorem m_J0_495 : zMS "java/lang/String" 495 MJ1_charAt_3b067 2 := ⟨g_414, g_415, g_115, g_416, ⟨by decide, by decide, by decide⟩, by decide⟩
theorem g_417 : Cond.methodLink "java/lang/StringLatin1" 9 yJ0_checkIndex_df160 ∈ zG := zt_2 (i := 77) rfl rfl
theorem g_418 : Cond.static yJ0_checkIndex_df160 ∈ zG := zt_2 (i := 78) rfl rfl
theorem g_114 : Cond.initialized "java/lang/String" ∈ zG := zt_1 (i := 14) rfl rfl
theorem g_419 : Cond.code yJ0_checkIndex_df160 cJ0_checkIndex_df160 2 none ∈ zG := zt_2 (i := 79) rfl rfl
theorem m_J1_9 : zMS "java/lang/StringLatin1" 9 MJ0_checkIndex_df160 2 := ⟨g_417, g_418, g_114, g_419, ⟨by decide, by decide, by decide⟩, by decide⟩
theorem g_422 : Cond.methodLink "java/lang/String" 1059 yJ3_checkIndex_8e157 ∈ zG := zt_2 (i := 82) rfl rfl
theorem g_423 : Cond.static yJ3_checkIndex_8e157 ∈ zG := zt_2 (i := 83) rfl rfl
theorem g_116 : Cond.initialized "jdk/internal/util/Preconditions" ∈ zG := zt_1 (i := 16) rfl rfl
theorem g_424 : Cond.code yJ3_checkIndex_8e157 cJ3_checkIndex_8e157 3 (some .int) ∈ zG := zt_2 (i := 84) rfl rfl
theorem m_J0_1059 : zMS "java/lang/String" 1059 MJ3_checkIndex_8e157 3 := ⟨g_422, g_423, g_116, g_424, ⟨by decide, by decide, by decide⟩, by decide⟩
theorem g_425 : Cond.methodLink "java/lang/String" 498 yJ2_charAt_3b067 ∈ zG := zt_2 (i := 85) rfl rfl
theorem g_426 : Cond.static yJ2_charAt_3b067 ∈ zG := zt_2 (i := 86) rfl rfl
theorem g_117 : Cond.initialized "java/lang/StringUTF16" ∈ zG := zt_1 (i := 17) rfl rfl
theorem g_427 : Cond.code yJ2_charAt_3b067 cJ2_charAt_3b067 2 (some .char) ∈ zG := zt_2 (i := 87) rfl rfl
theorem m_J0_498 : zMS "java/lang/String" 498 MJ2_charAt_3b067 2 := ⟨g_425, g_426, g_117, g_427, ⟨by decide, by decide, by decide⟩, by decide⟩
theorem g_428 : Cond.methodLink "java/lang/StringUTF16" 67 yJ2_checkIndex_2214a ∈ zG := zt_2 (i := 88) rfl rfl
theorem g_429 : Cond.static yJ2_checkIndex_2214a ∈ zG := zt_2 (i := 89) rfl rfl
theorem g_430 : Cond.code yJ2_checkIndex_2214a cJ2_checkIndex_2214a 2 none ∈ zG := zt_2 (i := 90) rfl rfl
theorem m_J2_67 : zMS "java/lang/StringUTF16" 67 MJ2_checkIndex_2214a 2 := ⟨g_428, g_429, g_117, g_430, ⟨by decide, by decide, by decide⟩, by decide⟩
theorem g_431 : Cond.methodLink "java/lang/StringUTF16" 48 yJ2_length_9d52b ∈ zG := zt_2 (i := 91) rfl rfl
theorem g_432 : Cond.static yJ2_length_9d52b ∈ zG := zt_2 (i := 92) rfl rfl
theorem g_433 : Cond.code yJ2_length_9d52b cJ2_length_9d52b 1 (some .int) ∈ zG := zt_2 (i := 93) rfl rfl
theorem m_J2_48 : zMS "java/lang/StringUTF16" 48 MJ2_length_9d52b 1 := ⟨g_431, g_432, g_117, g_433, ⟨by decide, by decide, by decide⟩, by decide⟩
theorem g_434 : Cond.methodLink "java/lang/StringUTF16" 414 yJ0_checkIndex_df160 ∈ zG := zt_2 (i := 94) rfl rfl
theorem m_J2_414 : zMS "java/lang/StringUTF16" 414 MJ0_checkIndex_df160 2 := ⟨g_434, g_418, g_114, g_419, ⟨by decide, by decide, by decide⟩, by decide⟩
theorem g_435 : Cond.methodLink "java/lang/StringUTF16" 71 yJ2_getChar_3b067 ∈ zG := zt_2 (i := 95) rfl rfl
theorem g_436 : Cond.static yJ2_getChar_3b067 ∈ zG := zt_2 (i := 96) rfl rfl
theorem g_437 : Cond.code yJ2_getChar_3b067 cJ2_getChar_3b067 2 (some .char) ∈ zG := zt_2 (i := 97) rfl rfl
theorem m_J2_71 : zMS "java/lang/StringUTF16" 71 MJ2_getChar_3b067 2 := ⟨g_435, g_436, g_117, g_437, ⟨by decide, by decide, by decide⟩, by decide⟩
theorem g_444 : Cond.methodLink "OrderGauge$Reader" 44 yX7_refuse ∈ zG := zt_2 (i := 104) rfl rfl
theorem g_446 : Cond.instanceMethod yX7_refuse ∈ zG := zt_2 (i := 106) rfl rfl
theorem g_4 : Cond.selects "OrderGauge$Reader" yX7_refuse yX7_refuse ∈ zG := zG_mem 4 rfl rfl
theorem g_447 : Cond.code yX7_refuse cX7_refuse 2 (some .boolean) ∈ zG := zt_2 (i := 107) rfl rfl
theorem m_X7_44 : zMV "OrderGauge$Reader" 44 MX7_refuse 7 1 := ⟨⟨_, _, rfl⟩, g_444, g_446, g_4, g_107, g_447, ⟨by decide, by decide, by decide⟩, by decide⟩
theorem g_448 : Cond.methodLink "OrderGauge$Reader" 51 yX7_number ∈ zG := zt_2 (i := 108) rfl rfl
theorem g_450 : Cond.instanceMethod yX7_number ∈ zG := zt_2 (i := 110) rfl rfl
theorem g_5 : Cond.selects "OrderGauge$Reader" yX7_number yX7_number ∈ zG := zG_mem 5 rfl rfl
theorem g_451 : Cond.code yX7_number cX7_number 3 (some .int) ∈ zG := zt_2 (i := 111) rfl rfl
theorem m_X7_51 : zMV "OrderGauge$Reader" 51 MX7_number 7 0 := ⟨⟨_, _, rfl⟩, g_448, g_450, g_5, g_107, g_451, ⟨by decide, by decide, by decide⟩, by decide⟩
theorem g_452 : Cond.methodLink "OrderGauge$Reader" 137 yJ9_min_7cf53 ∈ zG := zt_2 (i := 112) rfl rfl
theorem g_455 : Cond.methodLink "OrderGauge$Reader" 55 yX5_begin ∈ zG := zt_2 (i := 115) rfl rfl
theorem g_456 : Cond.instanceMethod yX5_begin ∈ zG := zt_2 (i := 116) rfl rfl
theorem g_457 : Cond.selects "OrderGauge$Order" yX5_begin yX5_begin ∈ zG := zt_2 (i := 117) rfl rfl
theorem g_102 : Cond.initialized "OrderGauge$Order" ∈ zG := zt_1 (i := 2) rfl rfl
theorem g_458 : Cond.code yX5_begin cX5_begin 3 none ∈ zG := zt_2 (i := 118) rfl rfl
theorem m_X7_55 : zMV "OrderGauge$Reader" 55 MX5_begin 5 1 := ⟨⟨_, _, rfl⟩, g_455, g_456, g_457, g_102, g_458, ⟨by decide, by decide, by decide⟩, by decide⟩
theorem g_459 : Cond.methodLink "OrderGauge$Order" 29 yX8_clear ∈ zG := zt_2 (i := 119) rfl rfl
theorem g_460 : Cond.instanceMethod yX8_clear ∈ zG := zt_2 (i := 120) rfl rfl
theorem g_461 : Cond.selects "OrderGauge$Rows" yX8_clear yX8_clear ∈ zG := zt_2 (i := 121) rfl rfl
theorem g_103 : Cond.initialized "OrderGauge$Rows" ∈ zG := zt_1 (i := 3) rfl rfl
theorem g_462 : Cond.code yX8_clear cX8_clear 1 none ∈ zG := zt_2 (i := 122) rfl rfl
theorem m_X5_29 : zMV "OrderGauge$Order" 29 MX8_clear 8 0 := ⟨⟨_, _, rfl⟩, g_459, g_460, g_461, g_103, g_462, ⟨by decide, by decide, by decide⟩, by decide⟩
theorem g_463 : Cond.methodLink "OrderGauge$Reader" 32 yX7_readTwos ∈ zG := zt_2 (i := 123) rfl rfl
theorem g_465 : Cond.instanceMethod yX7_readTwos ∈ zG := zt_2 (i := 125) rfl rfl
theorem g_6 : Cond.selects "OrderGauge$Reader" yX7_readTwos yX7_readTwos ∈ zG := zG_mem 6 rfl rfl
theorem g_466 : Cond.code yX7_readTwos cX7_readTwos 4 (some .boolean) ∈ zG := zt_2 (i := 126) rfl rfl
theorem m_X7_32 : zMV "OrderGauge$Reader" 32 MX7_readTwos 7 1 := ⟨⟨_, _, rfl⟩, g_463, g_465, g_6, g_107, g_466, ⟨by decide, by decide, by decide⟩, by decide⟩
theorem g_467 : Cond.methodLink "OrderGauge$Reader" 61 yX7_isSign ∈ zG := zt_2 (i := 127) rfl rfl
theorem g_469 : Cond.instanceMethod yX7_isSign ∈ zG := zt_2 (i := 129) rfl rfl
theorem g_7 : Cond.selects "OrderGauge$Reader" yX7_isSign yX7_isSign ∈ zG := zG_mem 7 rfl rfl
theorem g_470 : Cond.code yX7_isSign cX7_isSign 2 (some .boolean) ∈ zG := zt_2 (i := 130) rfl rfl
theorem m_X7_61 : zMV "OrderGauge$Reader" 61 MX7_isSign 7 1 := ⟨⟨_, _, rfl⟩, g_467, g_469, g_7, g_107, g_470, ⟨by decide, by decide, by decide⟩, by decide⟩
theorem g_471 : Cond.methodLink "OrderGauge$Reader" 64 yX7_readClimb ∈ zG := zt_2 (i := 131) rfl rfl
theorem g_473 : Cond.instanceMethod yX7_readClimb ∈ zG := zt_2 (i := 133) rfl rfl
theorem g_8 : Cond.selects "OrderGauge$Reader" yX7_readClimb yX7_readClimb ∈ zG := zG_mem 8 rfl rfl
theorem g_474 : Cond.code yX7_readClimb cX7_readClimb 5 (some .boolean) ∈ zG := zt_2 (i := 134) rfl rfl
theorem m_X7_64 : zMV "OrderGauge$Reader" 64 MX7_readClimb 7 1 := ⟨⟨_, _, rfl⟩, g_471, g_473, g_8, g_107, g_474, ⟨by decide, by decide, by decide⟩, by decide⟩
theorem g_475 : Cond.methodLink "OrderGauge$Reader" 71 yX7_thingHere ∈ zG := zt_2 (i := 135) rfl rfl
theorem g_477 : Cond.instanceMethod yX7_thingHere ∈ zG := zt_2 (i := 137) rfl rfl
theorem g_9 : Cond.selects "OrderGauge$Reader" yX7_thingHere yX7_thingHere ∈ zG := zG_mem 9 rfl rfl
theorem g_478 : Cond.code yX7_thingHere cX7_thingHere 3 (some .int) ∈ zG := zt_2 (i := 138) rfl rfl
theorem m_X7_71 : zMV "OrderGauge$Reader" 71 MX7_thingHere 7 1 := ⟨⟨_, _, rfl⟩, g_475, g_477, g_9, g_107, g_478, ⟨by decide, by decide, by decide⟩, by decide⟩
theorem g_479 : Cond.methodLink "OrderGauge$Reader" 111 yX5_has ∈ zG := zt_2 (i := 139) rfl rfl
theorem g_480 : Cond.instanceMethod yX5_has ∈ zG := zt_2 (i := 140) rfl rfl
theorem g_481 : Cond.selects "OrderGauge$Order" yX5_has yX5_has ∈ zG := zt_2 (i := 141) rfl rfl
theorem g_482 : Cond.code yX5_has cX5_has 2 (some .boolean) ∈ zG := zt_2 (i := 142) rfl rfl
theorem m_X7_111 : zMV "OrderGauge$Reader" 111 MX5_has 5 1 := ⟨⟨_, _, rfl⟩, g_479, g_480, g_481, g_102, g_482, ⟨by decide, by decide, by decide⟩, by decide⟩
theorem g_483 : Cond.methodLink "OrderGauge$Reader" 75 yX5_under ∈ zG := zt_2 (i := 143) rfl rfl
theorem g_484 : Cond.instanceMethod yX5_under ∈ zG := zt_2 (i := 144) rfl rfl
theorem g_485 : Cond.selects "OrderGauge$Order" yX5_under yX5_under ∈ zG := zt_2 (i := 145) rfl rfl
theorem g_486 : Cond.code yX5_under cX5_under 3 (some .boolean) ∈ zG := zt_2 (i := 146) rfl rfl
theorem m_X7_75 : zMV "OrderGauge$Reader" 75 MX5_under 5 2 := ⟨⟨_, _, rfl⟩, g_483, g_484, g_485, g_102, g_486, ⟨by decide, by decide, by decide⟩, by decide⟩
theorem g_487 : Cond.methodLink "OrderGauge$Order" 46 yX5_has ∈ zG := zt_2 (i := 147) rfl rfl
theorem m_X5_46 : zMV "OrderGauge$Order" 46 MX5_has 5 1 := ⟨⟨_, _, rfl⟩, g_487, g_480, g_481, g_102, g_482, ⟨by decide, by decide, by decide⟩, by decide⟩
theorem g_488 : Cond.methodLink "OrderGauge$Reader" 79 yX5_link ∈ zG := zt_2 (i := 148) rfl rfl
theorem g_489 : Cond.instanceMethod yX5_link ∈ zG := zt_2 (i := 149) rfl rfl
theorem g_490 : Cond.selects "OrderGauge$Order" yX5_link yX5_link ∈ zG := zt_2 (i := 150) rfl rfl
theorem g_491 : Cond.code yX5_link cX5_link 7 (some .int) ∈ zG := zt_2 (i := 151) rfl rfl
theorem m_X7_79 : zMV "OrderGauge$Reader" 79 MX5_link 5 2 := ⟨⟨_, _, rfl⟩, g_488, g_489, g_490, g_102, g_491, ⟨by decide, by decide, by decide⟩, by decide⟩
theorem g_492 : Cond.methodLink "OrderGauge$Order" 70 yX5_twos ∈ zG := zt_2 (i := 152) rfl rfl
theorem g_493 : Cond.instanceMethod yX5_twos ∈ zG := zt_2 (i := 153) rfl rfl
theorem g_494 : Cond.selects "OrderGauge$Order" yX5_twos yX5_twos ∈ zG := zt_2 (i := 154) rfl rfl
theorem g_495 : Cond.code yX5_twos cX5_twos 3 (some .int) ∈ zG := zt_2 (i := 155) rfl rfl
theorem m_X5_70 : zMV "OrderGauge$Order" 70 MX5_twos 5 0 := ⟨⟨_, _, rfl⟩, g_492, g_493, g_494, g_102, g_495, ⟨by decide, by decide, by decide⟩, by decide⟩
theorem g_496 : Cond.methodLink "OrderGauge$Order" 65 yJ6_bitCount_0f7a4 ∈ zG := zt_2 (i := 156) rfl rfl
theorem g_497 : Cond.static yJ6_bitCount_0f7a4 ∈ zG := zt_2 (i := 157) rfl rfl
theorem g_118 : Cond.initialized "java/lang/Integer" ∈ zG := zt_1 (i := 18) rfl rfl
theorem g_498 : Cond.code yJ6_bitCount_0f7a4 cJ6_bitCount_0f7a4 1 (some .int) ∈ zG := zt_2 (i := 158) rfl rfl
theorem m_X5_65 : zMS "OrderGauge$Order" 65 MJ6_bitCount_0f7a4 1 := ⟨g_496, g_497, g_118, g_498, ⟨by decide, by decide, by decide⟩, by decide⟩
theorem g_502 : Cond.methodLink "OrderGauge$Reader" 67 yX7_passSemicolon ∈ zG := zt_2 (i := 162) rfl rfl
theorem g_504 : Cond.instanceMethod yX7_passSemicolon ∈ zG := zt_2 (i := 164) rfl rfl
theorem g_10 : Cond.selects "OrderGauge$Reader" yX7_passSemicolon yX7_passSemicolon ∈ zG := zG_mem 10 rfl rfl
theorem g_505 : Cond.code yX7_passSemicolon cX7_passSemicolon 1 (some .boolean) ∈ zG := zt_2 (i := 165) rfl rfl
theorem m_X7_67 : zMV "OrderGauge$Reader" 67 MX7_passSemicolon 7 0 := ⟨⟨_, _, rfl⟩, g_502, g_504, g_10, g_107, g_505, ⟨by decide, by decide, by decide⟩, by decide⟩
theorem g_506 : Cond.methodLink "OrderGauge$Reader" 35 yX7_readRows ∈ zG := zt_2 (i := 166) rfl rfl
theorem g_508 : Cond.instanceMethod yX7_readRows ∈ zG := zt_2 (i := 168) rfl rfl
theorem g_11 : Cond.selects "OrderGauge$Reader" yX7_readRows yX7_readRows ∈ zG := zG_mem 11 rfl rfl
theorem g_509 : Cond.code yX7_readRows cX7_readRows 3 (some .boolean) ∈ zG := zt_2 (i := 169) rfl rfl
theorem m_X7_35 : zMV "OrderGauge$Reader" 35 MX7_readRows 7 1 := ⟨⟨_, _, rfl⟩, g_506, g_508, g_11, g_107, g_509, ⟨by decide, by decide, by decide⟩, by decide⟩
theorem g_511 : Cond.methodLink "OrderGauge$Reader" 85 yX5_rows ∈ zG := zt_2 (i := 171) rfl rfl
theorem g_512 : Cond.instanceMethod yX5_rows ∈ zG := zt_2 (i := 172) rfl rfl
theorem g_513 : Cond.selects "OrderGauge$Order" yX5_rows yX5_rows ∈ zG := zt_2 (i := 173) rfl rfl
theorem g_514 : Cond.code yX5_rows cX5_rows 1 (some (.object "OrderGauge$Rows")) ∈ zG := zt_2 (i := 174) rfl rfl
theorem m_X7_85 : zMV "OrderGauge$Reader" 85 MX5_rows 5 0 := ⟨⟨_, _, rfl⟩, g_511, g_512, g_513, g_102, g_514, ⟨by decide, by decide, by decide⟩, by decide⟩
theorem g_515 : Cond.methodLink "OrderGauge$Reader" 89 yX8_size ∈ zG := zt_2 (i := 175) rfl rfl
theorem g_516 : Cond.instanceMethod yX8_size ∈ zG := zt_2 (i := 176) rfl rfl
theorem g_517 : Cond.selects "OrderGauge$Rows" yX8_size yX8_size ∈ zG := zt_2 (i := 177) rfl rfl
theorem g_518 : Cond.code yX8_size cX8_size 1 (some .int) ∈ zG := zt_2 (i := 178) rfl rfl
theorem m_X7_89 : zMV "OrderGauge$Reader" 89 MX8_size 8 0 := ⟨⟨_, _, rfl⟩, g_515, g_516, g_517, g_103, g_518, ⟨by decide, by decide, by decide⟩, by decide⟩
theorem g_519 : Cond.methodLink "OrderGauge$Reader" 94 yX7_isRowOf ∈ zG := zt_2 (i := 179) rfl rfl
theorem g_521 : Cond.instanceMethod yX7_isRowOf ∈ zG := zt_2 (i := 181) rfl rfl
theorem g_12 : Cond.selects "OrderGauge$Reader" yX7_isRowOf yX7_isRowOf ∈ zG := zG_mem 12 rfl rfl
theorem g_522 : Cond.code yX7_isRowOf cX7_isRowOf 5 (some .boolean) ∈ zG := zt_2 (i := 182) rfl rfl
theorem m_X7_94 : zMV "OrderGauge$Reader" 94 MX7_isRowOf 7 1 := ⟨⟨_, _, rfl⟩, g_519, g_521, g_12, g_107, g_522, ⟨by decide, by decide, by decide⟩, by decide⟩
theorem g_523 : Cond.methodLink "OrderGauge$Reader" 104 yX5_size ∈ zG := zt_2 (i := 183) rfl rfl
theorem g_524 : Cond.instanceMethod yX5_size ∈ zG := zt_2 (i := 184) rfl rfl
theorem g_525 : Cond.selects "OrderGauge$Order" yX5_size yX5_size ∈ zG := zt_2 (i := 185) rfl rfl
theorem g_526 : Cond.code yX5_size cX5_size 1 (some .int) ∈ zG := zt_2 (i := 186) rfl rfl
theorem m_X7_104 : zMV "OrderGauge$Reader" 104 MX5_size 5 0 := ⟨⟨_, _, rfl⟩, g_523, g_524, g_525, g_102, g_526, ⟨by decide, by decide, by decide⟩, by decide⟩
theorem g_527 : Cond.methodLink "OrderGauge$Reader" 97 yX7_takeRow ∈ zG := zt_2 (i := 187) rfl rfl
theorem g_529 : Cond.instanceMethod yX7_takeRow ∈ zG := zt_2 (i := 189) rfl rfl
theorem g_13 : Cond.selects "OrderGauge$Reader" yX7_takeRow yX7_takeRow ∈ zG := zG_mem 13 rfl rfl
theorem g_530 : Cond.code yX7_takeRow cX7_takeRow 4 none ∈ zG := zt_2 (i := 190) rfl rfl
theorem m_X7_97 : zMV "OrderGauge$Reader" 97 MX7_takeRow 7 1 := ⟨⟨_, _, rfl⟩, g_527, g_529, g_13, g_107, g_530, ⟨by decide, by decide, by decide⟩, by decide⟩
theorem g_531 : Cond.methodLink "OrderGauge$Reader" 114 yX8_open ∈ zG := zt_2 (i := 191) rfl rfl
theorem g_532 : Cond.instanceMethod yX8_open ∈ zG := zt_2 (i := 192) rfl rfl
theorem g_533 : Cond.selects "OrderGauge$Rows" yX8_open yX8_open ∈ zG := zt_2 (i := 193) rfl rfl
theorem g_534 : Cond.code yX8_open cX8_open 1 (some .int) ∈ zG := zt_2 (i := 194) rfl rfl
theorem m_X7_114 : zMV "OrderGauge$Reader" 114 MX8_open 8 0 := ⟨⟨_, _, rfl⟩, g_531, g_532, g_533, g_103, g_534, ⟨by decide, by decide, by decide⟩, by decide⟩
theorem g_535 : Cond.methodLink "OrderGauge$Reader" 117 yX8_put ∈ zG := zt_2 (i := 195) rfl rfl
theorem g_536 : Cond.instanceMethod yX8_put ∈ zG := zt_2 (i := 196) rfl rfl
theorem g_537 : Cond.selects "OrderGauge$Rows" yX8_put yX8_put ∈ zG := zt_2 (i := 197) rfl rfl
theorem g_538 : Cond.code yX8_put cX8_put 4 none ∈ zG := zt_2 (i := 198) rfl rfl
theorem m_X7_117 : zMV "OrderGauge$Reader" 117 MX8_put 8 3 := ⟨⟨_, _, rfl⟩, g_535, g_536, g_537, g_103, g_538, ⟨by decide, by decide, by decide⟩, by decide⟩
theorem g_539 : Cond.methodLink "OrderGauge$Rows" 19 yX8_isPlace ∈ zG := zt_2 (i := 199) rfl rfl
theorem g_540 : Cond.static yX8_isPlace ∈ zG := zt_2 (i := 200) rfl rfl
theorem g_541 : Cond.code yX8_isPlace cX8_isPlace 2 (some .boolean) ∈ zG := zt_2 (i := 201) rfl rfl
theorem m_X8_19 : zMS "OrderGauge$Rows" 19 MX8_isPlace 2 := ⟨g_539, g_540, g_103, g_541, ⟨by decide, by decide, by decide⟩, by decide⟩
theorem g_542 : Cond.methodLink "OrderGauge" 101 yX11_become ∈ zG := zt_2 (i := 202) rfl rfl
theorem g_544 : Cond.instanceMethod yX11_become ∈ zG := zt_2 (i := 204) rfl rfl
theorem g_14 : Cond.selects "OrderGauge" yX11_become yX11_become ∈ zG := zG_mem 14 rfl rfl
theorem g_545 : Cond.code yX11_become cX11_become 2 none ∈ zG := zt_2 (i := 205) rfl rfl
theorem m_X11_101 : zMV "OrderGauge" 101 MX11_become 10 1 := ⟨⟨_, _, rfl⟩, g_542, g_544, g_14, g_101, g_545, ⟨by decide, by decide, by decide⟩, by decide⟩
theorem g_546 : Cond.methodLink "OrderGauge" 357 yX5_sameAs ∈ zG := zt_2 (i := 206) rfl rfl
theorem g_547 : Cond.instanceMethod yX5_sameAs ∈ zG := zt_2 (i := 207) rfl rfl
theorem g_548 : Cond.selects "OrderGauge$Order" yX5_sameAs yX5_sameAs ∈ zG := zt_2 (i := 208) rfl rfl
theorem g_549 : Cond.code yX5_sameAs cX5_sameAs 3 (some .boolean) ∈ zG := zt_2 (i := 209) rfl rfl
theorem m_X11_357 : zMV "OrderGauge" 357 MX5_sameAs 5 1 := ⟨⟨_, _, rfl⟩, g_546, g_547, g_548, g_102, g_549, ⟨by decide, by decide, by decide⟩, by decide⟩
theorem g_550 : Cond.methodLink "OrderGauge$Order" 42 yX8_sameAs ∈ zG := zt_2 (i := 210) rfl rfl
theorem g_551 : Cond.instanceMethod yX8_sameAs ∈ zG := zt_2 (i := 211) rfl rfl
theorem g_552 : Cond.selects "OrderGauge$Rows" yX8_sameAs yX8_sameAs ∈ zG := zt_2 (i := 212) rfl rfl
theorem g_553 : Cond.code yX8_sameAs cX8_sameAs 4 (some .boolean) ∈ zG := zt_2 (i := 213) rfl rfl
theorem m_X5_42 : zMV "OrderGauge$Order" 42 MX8_sameAs 8 2 := ⟨⟨_, _, rfl⟩, g_550, g_551, g_552, g_103, g_553, ⟨by decide, by decide, by decide⟩, by decide⟩
theorem g_554 : Cond.methodLink "OrderGauge$Rows" 31 yX8_sameRow ∈ zG := zt_2 (i := 214) rfl rfl
theorem g_555 : Cond.instanceMethod yX8_sameRow ∈ zG := zt_2 (i := 215) rfl rfl
theorem g_556 : Cond.selects "OrderGauge$Rows" yX8_sameRow yX8_sameRow ∈ zG := zt_2 (i := 216) rfl rfl
theorem g_557 : Cond.code yX8_sameRow cX8_sameRow 6 (some .boolean) ∈ zG := zt_2 (i := 217) rfl rfl
theorem m_X8_31 : zMV "OrderGauge$Rows" 31 MX8_sameRow 8 4 := ⟨⟨_, _, rfl⟩, g_554, g_555, g_556, g_103, g_557, ⟨by decide, by decide, by decide⟩, by decide⟩
theorem g_558 : Cond.methodLink "OrderGauge$Rows" 23 yX8_thingAt ∈ zG := zt_2 (i := 218) rfl rfl
theorem g_559 : Cond.instanceMethod yX8_thingAt ∈ zG := zt_2 (i := 219) rfl rfl
theorem g_560 : Cond.selects "OrderGauge$Rows" yX8_thingAt yX8_thingAt ∈ zG := zt_2 (i := 220) rfl rfl
theorem g_561 : Cond.code yX8_thingAt cX8_thingAt 3 (some .int) ∈ zG := zt_2 (i := 221) rfl rfl
theorem m_X8_23 : zMV "OrderGauge$Rows" 23 MX8_thingAt 8 2 := ⟨⟨_, _, rfl⟩, g_558, g_559, g_560, g_103, g_561, ⟨by decide, by decide, by decide⟩, by decide⟩
theorem g_562 : Cond.methodLink "OrderGauge" 360 yX6_keep ∈ zG := zt_2 (i := 222) rfl rfl
theorem g_563 : Cond.instanceMethod yX6_keep ∈ zG := zt_2 (i := 223) rfl rfl
theorem g_564 : Cond.selects "OrderGauge$Past" yX6_keep yX6_keep ∈ zG := zt_2 (i := 224) rfl rfl
theorem g_565 : Cond.code yX6_keep cX6_keep 3 none ∈ zG := zt_2 (i := 225) rfl rfl
theorem m_X11_360 : zMV "OrderGauge" 360 MX6_keep 6 2 := ⟨⟨_, _, rfl⟩, g_562, g_563, g_564, g_104, g_565, ⟨by decide, by decide, by decide⟩, by decide⟩
theorem g_566 : Cond.methodLink "OrderGauge$Past" 29 yX5_copyFrom ∈ zG := zt_2 (i := 226) rfl rfl
theorem g_567 : Cond.instanceMethod yX5_copyFrom ∈ zG := zt_2 (i := 227) rfl rfl
theorem g_568 : Cond.selects "OrderGauge$Order" yX5_copyFrom yX5_copyFrom ∈ zG := zt_2 (i := 228) rfl rfl
theorem g_569 : Cond.code yX5_copyFrom cX5_copyFrom 2 none ∈ zG := zt_2 (i := 229) rfl rfl
theorem m_X6_29 : zMV "OrderGauge$Past" 29 MX5_copyFrom 5 1 := ⟨⟨_, _, rfl⟩, g_566, g_567, g_568, g_102, g_569, ⟨by decide, by decide, by decide⟩, by decide⟩
theorem g_570 : Cond.methodLink "OrderGauge$Order" 32 ⟨"java/lang/System", "arraycopy", "(Ljava/lang/Object;ILjava/lang/Object;II)V"⟩ ∈ zG := zt_2 (i := 230) rfl rfl
theorem g_573 : Cond.methodLink "OrderGauge$Order" 38 yX8_copyFrom ∈ zG := zt_2 (i := 233) rfl rfl
theorem g_574 : Cond.instanceMethod yX8_copyFrom ∈ zG := zt_2 (i := 234) rfl rfl
theorem g_575 : Cond.selects "OrderGauge$Rows" yX8_copyFrom yX8_copyFrom ∈ zG := zt_2 (i := 235) rfl rfl
theorem g_576 : Cond.code yX8_copyFrom cX8_copyFrom 2 none ∈ zG := zt_2 (i := 236) rfl rfl
theorem m_X5_38 : zMV "OrderGauge$Order" 38 MX8_copyFrom 8 1 := ⟨⟨_, _, rfl⟩, g_573, g_574, g_575, g_103, g_576, ⟨by decide, by decide, by decide⟩, by decide⟩
theorem g_577 : Cond.methodLink "OrderGauge$Rows" 35 ⟨"java/lang/System", "arraycopy", "(Ljava/lang/Object;ILjava/lang/Object;II)V"⟩ ∈ zG := zt_2 (i := 237) rfl rfl
theorem g_578 : Cond.methodLink "OrderGauge$Past" 33 yJ9_min_7cf53 ∈ zG := zt_2 (i := 238) rfl rfl
theorem g_579 : Cond.methodLink "OrderGauge" 290 yX5_copyFrom ∈ zG := zt_2 (i := 239) rfl rfl
theorem m_X11_290 : zMV "OrderGauge" 290 MX5_copyFrom 5 1 := ⟨⟨_, _, rfl⟩, g_579, g_567, g_568, g_102, g_569, ⟨by decide, by decide, by decide⟩, by decide⟩
theorem g_580 : Cond.methodLink "OrderGauge" 104 yX5_twos ∈ zG := zt_3 (i := 0) rfl rfl
theorem m_X11_104 : zMV "OrderGauge" 104 MX5_twos 5 0 := ⟨⟨_, _, rfl⟩, g_580, g_493, g_494, g_102, g_495, ⟨by decide, by decide, by decide⟩, by decide⟩
theorem g_582 : Cond.methodLink "OrderGaugeLaw" 27 yX11_fault ∈ zG := zt_3 (i := 2) rfl rfl
theorem g_583 : Cond.instanceMethod yX11_fault ∈ zG := zt_3 (i := 3) rfl rfl
theorem g_584 : Cond.selects "OrderGauge" yX11_fault yX11_fault ∈ zG := zt_3 (i := 4) rfl rfl
theorem g_585 : Cond.code yX11_fault cX11_fault 2 (some .int) ∈ zG := zt_3 (i := 5) rfl rfl
theorem m_L_27 : zMV "OrderGaugeLaw" 27 MX11_fault 10 1 := ⟨⟨_, _, rfl⟩, g_582, g_583, g_584, g_101, g_585, ⟨by decide, by decide, by decide⟩, by decide⟩
theorem g_586 : Cond.methodLink "OrderGauge" 107 yX7_faultKind ∈ zG := zt_3 (i := 6) rfl rfl
theorem g_587 : Cond.instanceMethod yX7_faultKind ∈ zG := zt_3 (i := 7) rfl rfl
theorem g_588 : Cond.selects "OrderGauge$Reader" yX7_faultKind yX7_faultKind ∈ zG := zt_3 (i := 8) rfl rfl
theorem g_589 : Cond.code yX7_faultKind cX7_faultKind 1 (some .int) ∈ zG := zt_3 (i := 9) rfl rfl
theorem m_X11_107 : zMV "OrderGauge" 107 MX7_faultKind 7 0 := ⟨⟨_, _, rfl⟩, g_586, g_587, g_588, g_107, g_589, ⟨by decide, by decide, by decide⟩, by decide⟩
theorem g_590 : Cond.methodLink "OrderGauge" 110 yX7_faultPlace ∈ zG := zt_3 (i := 10) rfl rfl
theorem g_591 : Cond.instanceMethod yX7_faultPlace ∈ zG := zt_3 (i := 11) rfl rfl
theorem g_592 : Cond.selects "OrderGauge$Reader" yX7_faultPlace yX7_faultPlace ∈ zG := zt_3 (i := 12) rfl rfl
theorem g_593 : Cond.code yX7_faultPlace cX7_faultPlace 1 (some .int) ∈ zG := zt_3 (i := 13) rfl rfl
theorem m_X11_110 : zMV "OrderGauge" 110 MX7_faultPlace 7 0 := ⟨⟨_, _, rfl⟩, g_590, g_591, g_592, g_107, g_593, ⟨by decide, by decide, by decide⟩, by decide⟩
theorem g_594 : Cond.methodLink "OrderGaugeLaw" 31 yX11_count ∈ zG := zt_3 (i := 14) rfl rfl
theorem g_595 : Cond.instanceMethod yX11_count ∈ zG := zt_3 (i := 15) rfl rfl
theorem g_596 : Cond.selects "OrderGauge" yX11_count yX11_count ∈ zG := zt_3 (i := 16) rfl rfl
theorem g_597 : Cond.code yX11_count cX11_count 2 (some .int) ∈ zG := zt_3 (i := 17) rfl rfl
theorem m_L_31 : zMV "OrderGaugeLaw" 31 MX11_count 10 1 := ⟨⟨_, _, rfl⟩, g_594, g_595, g_596, g_101, g_597, ⟨by decide, by decide, by decide⟩, by decide⟩
theorem g_598 : Cond.methodLink "OrderGauge" 113 yX11_filledSlots ∈ zG := zt_3 (i := 18) rfl rfl
theorem g_600 : Cond.instanceMethod yX11_filledSlots ∈ zG := zt_3 (i := 20) rfl rfl
theorem g_15 : Cond.selects "OrderGauge" yX11_filledSlots yX11_filledSlots ∈ zG := zG_mem 15 rfl rfl
theorem g_601 : Cond.code yX11_filledSlots cX11_filledSlots 3 (some .int) ∈ zG := zt_3 (i := 21) rfl rfl
theorem m_X11_113 : zMV "OrderGauge" 113 MX11_filledSlots 10 0 := ⟨⟨_, _, rfl⟩, g_598, g_600, g_15, g_101, g_601, ⟨by decide, by decide, by decide⟩, by decide⟩
theorem g_602 : Cond.methodLink "OrderGauge" 117 yX11_orderIn ∈ zG := zt_3 (i := 22) rfl rfl
theorem g_604 : Cond.instanceMethod yX11_orderIn ∈ zG := zt_3 (i := 24) rfl rfl
theorem g_16 : Cond.selects "OrderGauge" yX11_orderIn yX11_orderIn ∈ zG := zG_mem 16 rfl rfl
theorem g_605 : Cond.code yX11_orderIn cX11_orderIn 2 (some (.object "OrderGauge$Order")) ∈ zG := zt_3 (i := 25) rfl rfl
theorem m_X11_117 : zMV "OrderGauge" 117 MX11_orderIn 10 1 := ⟨⟨_, _, rfl⟩, g_602, g_604, g_16, g_101, g_605, ⟨by decide, by decide, by decide⟩, by decide⟩
theorem g_606 : Cond.methodLink "OrderGauge" 121 yX5_size ∈ zG := zt_3 (i := 26) rfl rfl
theorem m_X11_121 : zMV "OrderGauge" 121 MX5_size 5 0 := ⟨⟨_, _, rfl⟩, g_606, g_524, g_525, g_102, g_526, ⟨by decide, by decide, by decide⟩, by decide⟩
theorem g_607 : Cond.methodLink "OrderGauge" 116 yX6_size ∈ zG := zt_3 (i := 27) rfl rfl
theorem g_608 : Cond.instanceMethod yX6_size ∈ zG := zt_3 (i := 28) rfl rfl
theorem g_609 : Cond.selects "OrderGauge$Past" yX6_size yX6_size ∈ zG := zt_3 (i := 29) rfl rfl
theorem g_610 : Cond.code yX6_size cX6_size 1 (some .int) ∈ zG := zt_3 (i := 30) rfl rfl
theorem m_X11_116 : zMV "OrderGauge" 116 MX6_size 6 0 := ⟨⟨_, _, rfl⟩, g_607, g_608, g_609, g_104, g_610, ⟨by decide, by decide, by decide⟩, by decide⟩
theorem g_611 : Cond.methodLink "OrderGaugeLaw" 35 yX11_look ∈ zG := zt_3 (i := 31) rfl rfl
theorem g_612 : Cond.instanceMethod yX11_look ∈ zG := zt_3 (i := 32) rfl rfl
theorem g_613 : Cond.selects "OrderGauge" yX11_look yX11_look ∈ zG := zt_3 (i := 33) rfl rfl
theorem g_614 : Cond.code yX11_look cX11_look 4 (some .int) ∈ zG := zt_3 (i := 34) rfl rfl
theorem m_L_35 : zMV "OrderGaugeLaw" 35 MX11_look 10 2 := ⟨⟨_, _, rfl⟩, g_611, g_612, g_613, g_101, g_614, ⟨by decide, by decide, by decide⟩, by decide⟩
theorem g_615 : Cond.methodLink "OrderGauge" 122 yX5_covers ∈ zG := zt_3 (i := 35) rfl rfl
theorem g_616 : Cond.instanceMethod yX5_covers ∈ zG := zt_3 (i := 36) rfl rfl
theorem g_617 : Cond.selects "OrderGauge$Order" yX5_covers yX5_covers ∈ zG := zt_3 (i := 37) rfl rfl
theorem g_618 : Cond.code yX5_covers cX5_covers 3 (some .int) ∈ zG := zt_3 (i := 38) rfl rfl
theorem m_X11_122 : zMV "OrderGauge" 122 MX5_covers 5 0 := ⟨⟨_, _, rfl⟩, g_615, g_616, g_617, g_102, g_618, ⟨by decide, by decide, by decide⟩, by decide⟩
theorem g_619 : Cond.methodLink "OrderGauge$Order" 73 yX5_coveredBy ∈ zG := zt_3 (i := 39) rfl rfl
theorem g_620 : Cond.instanceMethod yX5_coveredBy ∈ zG := zt_3 (i := 40) rfl rfl
theorem g_621 : Cond.selects "OrderGauge$Order" yX5_coveredBy yX5_coveredBy ∈ zG := zt_3 (i := 41) rfl rfl
theorem g_622 : Cond.code yX5_coveredBy cX5_coveredBy 4 (some .int) ∈ zG := zt_3 (i := 42) rfl rfl
theorem m_X5_73 : zMV "OrderGauge$Order" 73 MX5_coveredBy 5 1 := ⟨⟨_, _, rfl⟩, g_619, g_620, g_621, g_102, g_622, ⟨by decide, by decide, by decide⟩, by decide⟩
theorem g_623 : Cond.methodLink "OrderGauge$Order" 54 yX5_belowOf ∈ zG := zt_3 (i := 43) rfl rfl
theorem g_624 : Cond.instanceMethod yX5_belowOf ∈ zG := zt_3 (i := 44) rfl rfl
theorem g_625 : Cond.selects "OrderGauge$Order" yX5_belowOf yX5_belowOf ∈ zG := zt_3 (i := 45) rfl rfl
theorem g_626 : Cond.code yX5_belowOf cX5_belowOf 2 (some .int) ∈ zG := zt_3 (i := 46) rfl rfl
theorem m_X5_54 : zMV "OrderGauge$Order" 54 MX5_belowOf 5 1 := ⟨⟨_, _, rfl⟩, g_623, g_624, g_625, g_102, g_626, ⟨by decide, by decide, by decide⟩, by decide⟩
theorem g_627 : Cond.methodLink "OrderGauge$Order" 58 yX5_under ∈ zG := zt_3 (i := 47) rfl rfl
theorem m_X5_58 : zMV "OrderGauge$Order" 58 MX5_under 5 2 := ⟨⟨_, _, rfl⟩, g_627, g_484, g_485, g_102, g_486, ⟨by decide, by decide, by decide⟩, by decide⟩
theorem g_628 : Cond.methodLink "OrderGauge" 125 yX1_height ∈ zG := zt_3 (i := 48) rfl rfl
theorem g_629 : Cond.instanceMethod yX1_height ∈ zG := zt_3 (i := 49) rfl rfl
theorem g_630 : Cond.selects "OrderGauge$Chains" yX1_height yX1_height ∈ zG := zt_3 (i := 50) rfl rfl
theorem g_108 : Cond.initialized "OrderGauge$Chains" ∈ zG := zt_1 (i := 8) rfl rfl
theorem g_631 : Cond.code yX1_height cX1_height 4 (some .int) ∈ zG := zt_3 (i := 51) rfl rfl
theorem m_X11_125 : zMV "OrderGauge" 125 MX1_height 1 1 := ⟨⟨_, _, rfl⟩, g_628, g_629, g_630, g_108, g_631, ⟨by decide, by decide, by decide⟩, by decide⟩
theorem g_632 : Cond.methodLink "OrderGauge$Chains" 21 yX1_measure ∈ zG := zt_3 (i := 52) rfl rfl
theorem g_634 : Cond.instanceMethod yX1_measure ∈ zG := zt_3 (i := 54) rfl rfl
theorem g_17 : Cond.selects "OrderGauge$Chains" yX1_measure yX1_measure ∈ zG := zG_mem 17 rfl rfl
theorem g_635 : Cond.code yX1_measure cX1_measure 5 none ∈ zG := zt_3 (i := 55) rfl rfl
theorem m_X1_21 : zMV "OrderGauge$Chains" 21 MX1_measure 1 2 := ⟨⟨_, _, rfl⟩, g_632, g_634, g_17, g_108, g_635, ⟨by decide, by decide, by decide⟩, by decide⟩
theorem g_636 : Cond.methodLink "OrderGauge$Chains" 31 yX5_size ∈ zG := zt_3 (i := 56) rfl rfl
theorem m_X1_31 : zMV "OrderGauge$Chains" 31 MX5_size 5 0 := ⟨⟨_, _, rfl⟩, g_636, g_524, g_525, g_102, g_526, ⟨by decide, by decide, by decide⟩, by decide⟩
theorem g_637 : Cond.methodLink "OrderGauge$Chains" 41 yX5_aboveOf ∈ zG := zt_3 (i := 57) rfl rfl
theorem g_638 : Cond.instanceMethod yX5_aboveOf ∈ zG := zt_3 (i := 58) rfl rfl
theorem g_639 : Cond.selects "OrderGauge$Order" yX5_aboveOf yX5_aboveOf ∈ zG := zt_3 (i := 59) rfl rfl
theorem g_640 : Cond.code yX5_aboveOf cX5_aboveOf 2 (some .int) ∈ zG := zt_3 (i := 60) rfl rfl
theorem m_X1_41 : zMV "OrderGauge$Chains" 41 MX5_aboveOf 5 1 := ⟨⟨_, _, rfl⟩, g_637, g_638, g_639, g_102, g_640, ⟨by decide, by decide, by decide⟩, by decide⟩
theorem g_641 : Cond.methodLink "OrderGauge$Chains" 45 yX5_belowOf ∈ zG := zt_3 (i := 61) rfl rfl
theorem m_X1_45 : zMV "OrderGauge$Chains" 45 MX5_belowOf 5 1 := ⟨⟨_, _, rfl⟩, g_641, g_624, g_625, g_102, g_626, ⟨by decide, by decide, by decide⟩, by decide⟩
theorem g_642 : Cond.methodLink "OrderGauge$Chains" 48 yX1_deepest ∈ zG := zt_3 (i := 62) rfl rfl
theorem g_644 : Cond.instanceMethod yX1_deepest ∈ zG := zt_3 (i := 64) rfl rfl
theorem g_18 : Cond.selects "OrderGauge$Chains" yX1_deepest yX1_deepest ∈ zG := zG_mem 18 rfl rfl
theorem g_645 : Cond.code yX1_deepest cX1_deepest 5 (some .int) ∈ zG := zt_3 (i := 65) rfl rfl
theorem m_X1_48 : zMV "OrderGauge$Chains" 48 MX1_deepest 1 2 := ⟨⟨_, _, rfl⟩, g_642, g_644, g_18, g_108, g_645, ⟨by decide, by decide, by decide⟩, by decide⟩
theorem g_646 : Cond.methodLink "OrderGauge$Chains" 35 yJ9_max_7cf53 ∈ zG := zt_3 (i := 66) rfl rfl
theorem g_647 : Cond.methodLink "OrderGauge" 129 yX10_widest ∈ zG := zt_3 (i := 67) rfl rfl
theorem g_648 : Cond.static yX10_widest ∈ zG := zt_3 (i := 68) rfl rfl
theorem g_120 : Cond.initialized "OrderGauge$Shapes" ∈ zG := zt_1 (i := 20) rfl rfl
theorem g_649 : Cond.code yX10_widest cX10_widest 3 (some .int) ∈ zG := zt_3 (i := 69) rfl rfl
theorem m_X11_129 : zMS "OrderGauge" 129 MX10_widest 1 := ⟨g_647, g_648, g_120, g_649, ⟨by decide, by decide, by decide⟩, by decide⟩
theorem g_650 : Cond.methodLink "OrderGauge$Shapes" 7 yX5_all ∈ zG := zt_3 (i := 70) rfl rfl
theorem g_651 : Cond.instanceMethod yX5_all ∈ zG := zt_3 (i := 71) rfl rfl
theorem g_652 : Cond.selects "OrderGauge$Order" yX5_all yX5_all ∈ zG := zt_3 (i := 72) rfl rfl
theorem g_653 : Cond.code yX5_all cX5_all 1 (some .int) ∈ zG := zt_3 (i := 73) rfl rfl
theorem m_X10_7 : zMV "OrderGauge$Shapes" 7 MX5_all 5 0 := ⟨⟨_, _, rfl⟩, g_650, g_651, g_652, g_102, g_653, ⟨by decide, by decide, by decide⟩, by decide⟩
theorem g_654 : Cond.methodLink "OrderGauge$Shapes" 13 yJ6_bitCount_0f7a4 ∈ zG := zt_3 (i := 74) rfl rfl
theorem m_X10_13 : zMS "OrderGauge$Shapes" 13 MJ6_bitCount_0f7a4 1 := ⟨g_654, g_497, g_118, g_498, ⟨by decide, by decide, by decide⟩, by decide⟩
theorem g_655 : Cond.methodLink "OrderGauge$Shapes" 19 yX10_isFreeSet ∈ zG := zt_3 (i := 75) rfl rfl
theorem g_656 : Cond.static yX10_isFreeSet ∈ zG := zt_3 (i := 76) rfl rfl
theorem g_657 : Cond.code yX10_isFreeSet cX10_isFreeSet 3 (some .boolean) ∈ zG := zt_3 (i := 77) rfl rfl
theorem m_X10_19 : zMS "OrderGauge$Shapes" 19 MX10_isFreeSet 2 := ⟨g_655, g_656, g_120, g_657, ⟨by decide, by decide, by decide⟩, by decide⟩
theorem g_658 : Cond.methodLink "OrderGauge$Shapes" 25 yX5_size ∈ zG := zt_3 (i := 78) rfl rfl
theorem m_X10_25 : zMV "OrderGauge$Shapes" 25 MX5_size 5 0 := ⟨⟨_, _, rfl⟩, g_658, g_524, g_525, g_102, g_526, ⟨by decide, by decide, by decide⟩, by decide⟩
theorem g_659 : Cond.methodLink "OrderGauge$Shapes" 28 yX5_belowOf ∈ zG := zt_3 (i := 79) rfl rfl
theorem m_X10_28 : zMV "OrderGauge$Shapes" 28 MX5_belowOf 5 1 := ⟨⟨_, _, rfl⟩, g_659, g_624, g_625, g_102, g_626, ⟨by decide, by decide, by decide⟩, by decide⟩
theorem g_660 : Cond.methodLink "OrderGauge" 134 yJ6_bitCount_0f7a4 ∈ zG := zt_3 (i := 80) rfl rfl
theorem m_X11_134 : zMS "OrderGauge" 134 MJ6_bitCount_0f7a4 1 := ⟨g_660, g_497, g_118, g_498, ⟨by decide, by decide, by decide⟩, by decide⟩
theorem g_661 : Cond.methodLink "OrderGauge" 140 yX5_freeTwos ∈ zG := zt_3 (i := 81) rfl rfl
theorem g_662 : Cond.instanceMethod yX5_freeTwos ∈ zG := zt_3 (i := 82) rfl rfl
theorem g_663 : Cond.selects "OrderGauge$Order" yX5_freeTwos yX5_freeTwos ∈ zG := zt_3 (i := 83) rfl rfl
theorem g_664 : Cond.code yX5_freeTwos cX5_freeTwos 1 (some .int) ∈ zG := zt_3 (i := 84) rfl rfl
theorem m_X11_140 : zMV "OrderGauge" 140 MX5_freeTwos 5 0 := ⟨⟨_, _, rfl⟩, g_661, g_662, g_663, g_102, g_664, ⟨by decide, by decide, by decide⟩, by decide⟩
theorem g_665 : Cond.methodLink "OrderGauge" 143 yX10_ideals ∈ zG := zt_3 (i := 85) rfl rfl
theorem g_666 : Cond.static yX10_ideals ∈ zG := zt_3 (i := 86) rfl rfl
theorem g_667 : Cond.code yX10_ideals cX10_ideals 3 (some .int) ∈ zG := zt_3 (i := 87) rfl rfl
theorem m_X11_143 : zMS "OrderGauge" 143 MX10_ideals 1 := ⟨g_665, g_666, g_120, g_667, ⟨by decide, by decide, by decide⟩, by decide⟩
theorem g_668 : Cond.methodLink "OrderGauge$Shapes" 31 yX5_isIdeal ∈ zG := zt_3 (i := 88) rfl rfl
theorem g_669 : Cond.instanceMethod yX5_isIdeal ∈ zG := zt_3 (i := 89) rfl rfl
theorem g_670 : Cond.selects "OrderGauge$Order" yX5_isIdeal yX5_isIdeal ∈ zG := zt_3 (i := 90) rfl rfl
theorem g_671 : Cond.code yX5_isIdeal cX5_isIdeal 3 (some .boolean) ∈ zG := zt_3 (i := 91) rfl rfl
theorem m_X10_31 : zMV "OrderGauge$Shapes" 31 MX5_isIdeal 5 1 := ⟨⟨_, _, rfl⟩, g_668, g_669, g_670, g_102, g_671, ⟨by decide, by decide, by decide⟩, by decide⟩
theorem g_672 : Cond.methodLink "OrderGauge" 146 yX10_hangingParts ∈ zG := zt_3 (i := 92) rfl rfl
theorem g_673 : Cond.static yX10_hangingParts ∈ zG := zt_3 (i := 93) rfl rfl
theorem g_674 : Cond.code yX10_hangingParts cX10_hangingParts 4 (some .int) ∈ zG := zt_3 (i := 94) rfl rfl
theorem m_X11_146 : zMS "OrderGauge" 146 MX10_hangingParts 1 := ⟨g_672, g_673, g_120, g_674, ⟨by decide, by decide, by decide⟩, by decide⟩
theorem g_675 : Cond.methodLink "OrderGauge$Shapes" 35 yX10_hangingWith ∈ zG := zt_3 (i := 95) rfl rfl
theorem g_676 : Cond.static yX10_hangingWith ∈ zG := zt_3 (i := 96) rfl rfl
theorem g_677 : Cond.code yX10_hangingWith cX10_hangingWith 5 (some .int) ∈ zG := zt_3 (i := 97) rfl rfl
theorem m_X10_35 : zMS "OrderGauge$Shapes" 35 MX10_hangingWith 2 := ⟨g_675, g_676, g_120, g_677, ⟨by decide, by decide, by decide⟩, by decide⟩
theorem g_678 : Cond.methodLink "OrderGauge$Shapes" 39 yX5_aboveOf ∈ zG := zt_3 (i := 98) rfl rfl
theorem m_X10_39 : zMV "OrderGauge$Shapes" 39 MX5_aboveOf 5 1 := ⟨⟨_, _, rfl⟩, g_678, g_638, g_639, g_102, g_640, ⟨by decide, by decide, by decide⟩, by decide⟩
theorem g_679 : Cond.methodLink "OrderGauge" 149 yX5_rows ∈ zG := zt_3 (i := 99) rfl rfl
theorem m_X11_149 : zMV "OrderGauge" 149 MX5_rows 5 0 := ⟨⟨_, _, rfl⟩, g_679, g_512, g_513, g_102, g_514, ⟨by decide, by decide, by decide⟩, by decide⟩
theorem g_680 : Cond.methodLink "OrderGauge" 153 yX8_size ∈ zG := zt_3 (i := 100) rfl rfl
theorem m_X11_153 : zMV "OrderGauge" 153 MX8_size 8 0 := ⟨⟨_, _, rfl⟩, g_680, g_516, g_517, g_103, g_518, ⟨by decide, by decide, by decide⟩, by decide⟩
theorem g_681 : Cond.methodLink "OrderGaugeLaw" 40 yX11_of ∈ zG := zt_3 (i := 101) rfl rfl
theorem g_682 : Cond.instanceMethod yX11_of ∈ zG := zt_3 (i := 102) rfl rfl
theorem g_683 : Cond.selects "OrderGauge" yX11_of yX11_of ∈ zG := zt_3 (i := 103) rfl rfl
theorem g_684 : Cond.code yX11_of cX11_of 5 (some .int) ∈ zG := zt_3 (i := 104) rfl rfl
theorem m_L_40 : zMV "OrderGaugeLaw" 40 MX11_of 10 3 := ⟨⟨_, _, rfl⟩, g_681, g_682, g_683, g_101, g_684, ⟨by decide, by decide, by decide⟩, by decide⟩
theorem g_685 : Cond.methodLink "OrderGauge" 156 yX11_orderWith ∈ zG := zt_3 (i := 105) rfl rfl
theorem g_687 : Cond.instanceMethod yX11_orderWith ∈ zG := zt_3 (i := 107) rfl rfl
theorem g_19 : Cond.selects "OrderGauge" yX11_orderWith yX11_orderWith ∈ zG := zG_mem 19 rfl rfl
theorem g_688 : Cond.code yX11_orderWith cX11_orderWith 4 (some (.object "OrderGauge$Order")) ∈ zG := zt_3 (i := 108) rfl rfl
theorem m_X11_156 : zMV "OrderGauge" 156 MX11_orderWith 10 2 := ⟨⟨_, _, rfl⟩, g_685, g_687, g_19, g_101, g_688, ⟨by decide, by decide, by decide⟩, by decide⟩
theorem g_689 : Cond.methodLink "OrderGauge" 231 yX5_has ∈ zG := zt_3 (i := 109) rfl rfl
theorem m_X11_231 : zMV "OrderGauge" 231 MX5_has 5 1 := ⟨⟨_, _, rfl⟩, g_689, g_480, g_481, g_102, g_482, ⟨by decide, by decide, by decide⟩, by decide⟩
theorem g_690 : Cond.methodLink "OrderGauge" 160 yX5_belowOf ∈ zG := zt_3 (i := 110) rfl rfl
theorem m_X11_160 : zMV "OrderGauge" 160 MX5_belowOf 5 1 := ⟨⟨_, _, rfl⟩, g_690, g_624, g_625, g_102, g_626, ⟨by decide, by decide, by decide⟩, by decide⟩
theorem g_691 : Cond.methodLink "OrderGauge" 163 yX5_aboveOf ∈ zG := zt_3 (i := 111) rfl rfl
theorem m_X11_163 : zMV "OrderGauge" 163 MX5_aboveOf 5 1 := ⟨⟨_, _, rfl⟩, g_691, g_638, g_639, g_102, g_640, ⟨by decide, by decide, by decide⟩, by decide⟩
theorem g_692 : Cond.methodLink "OrderGauge" 166 yX5_freeOf ∈ zG := zt_3 (i := 112) rfl rfl
theorem g_693 : Cond.instanceMethod yX5_freeOf ∈ zG := zt_3 (i := 113) rfl rfl
theorem g_694 : Cond.selects "OrderGauge$Order" yX5_freeOf yX5_freeOf ∈ zG := zt_3 (i := 114) rfl rfl
theorem g_695 : Cond.code yX5_freeOf cX5_freeOf 2 (some .int) ∈ zG := zt_3 (i := 115) rfl rfl
theorem m_X11_166 : zMV "OrderGauge" 166 MX5_freeOf 5 1 := ⟨⟨_, _, rfl⟩, g_692, g_693, g_694, g_102, g_695, ⟨by decide, by decide, by decide⟩, by decide⟩
theorem g_696 : Cond.methodLink "OrderGauge$Order" 50 yX5_all ∈ zG := zt_3 (i := 116) rfl rfl
theorem m_X5_50 : zMV "OrderGauge$Order" 50 MX5_all 5 0 := ⟨⟨_, _, rfl⟩, g_696, g_651, g_652, g_102, g_653, ⟨by decide, by decide, by decide⟩, by decide⟩
theorem g_697 : Cond.methodLink "OrderGauge" 169 yX5_coveredBy ∈ zG := zt_3 (i := 117) rfl rfl
theorem m_X11_169 : zMV "OrderGauge" 169 MX5_coveredBy 5 1 := ⟨⟨_, _, rfl⟩, g_697, g_620, g_621, g_102, g_622, ⟨by decide, by decide, by decide⟩, by decide⟩
theorem g_698 : Cond.methodLink "OrderGauge" 172 yX5_coversOf ∈ zG := zt_3 (i := 118) rfl rfl
theorem g_699 : Cond.instanceMethod yX5_coversOf ∈ zG := zt_3 (i := 119) rfl rfl
theorem g_700 : Cond.selects "OrderGauge$Order" yX5_coversOf yX5_coversOf ∈ zG := zt_3 (i := 120) rfl rfl
theorem g_701 : Cond.code yX5_coversOf cX5_coversOf 4 (some .int) ∈ zG := zt_3 (i := 121) rfl rfl
theorem m_X11_172 : zMV "OrderGauge" 172 MX5_coversOf 5 1 := ⟨⟨_, _, rfl⟩, g_698, g_699, g_700, g_102, g_701, ⟨by decide, by decide, by decide⟩, by decide⟩
theorem g_702 : Cond.methodLink "OrderGauge$Order" 62 yX5_aboveOf ∈ zG := zt_3 (i := 122) rfl rfl
theorem m_X5_62 : zMV "OrderGauge$Order" 62 MX5_aboveOf 5 1 := ⟨⟨_, _, rfl⟩, g_702, g_638, g_639, g_102, g_640, ⟨by decide, by decide, by decide⟩, by decide⟩
theorem g_703 : Cond.methodLink "OrderGaugeLaw" 45 yX11_is ∈ zG := zt_3 (i := 123) rfl rfl
theorem g_704 : Cond.instanceMethod yX11_is ∈ zG := zt_3 (i := 124) rfl rfl
theorem g_705 : Cond.selects "OrderGauge" yX11_is yX11_is ∈ zG := zt_3 (i := 125) rfl rfl
theorem g_706 : Cond.code yX11_is cX11_is 4 (some .int) ∈ zG := zt_3 (i := 126) rfl rfl
theorem m_L_45 : zMV "OrderGaugeLaw" 45 MX11_is 10 2 := ⟨⟨_, _, rfl⟩, g_703, g_704, g_705, g_101, g_706, ⟨by decide, by decide, by decide⟩, by decide⟩
theorem g_707 : Cond.methodLink "OrderGauge" 175 yX11_bit ∈ zG := zt_3 (i := 127) rfl rfl
theorem g_708 : Cond.static yX11_bit ∈ zG := zt_3 (i := 128) rfl rfl
theorem g_709 : Cond.code yX11_bit cX11_bit 1 (some .int) ∈ zG := zt_3 (i := 129) rfl rfl
theorem m_X11_175 : zMS "OrderGauge" 175 MX11_bit 1 := ⟨g_707, g_708, g_101, g_709, ⟨by decide, by decide, by decide⟩, by decide⟩
theorem g_710 : Cond.methodLink "OrderGauge" 179 yX10_hasN ∈ zG := zt_3 (i := 130) rfl rfl
theorem g_711 : Cond.static yX10_hasN ∈ zG := zt_3 (i := 131) rfl rfl
theorem g_712 : Cond.code yX10_hasN cX10_hasN 3 (some .boolean) ∈ zG := zt_3 (i := 132) rfl rfl
theorem m_X11_179 : zMS "OrderGauge" 179 MX10_hasN 1 := ⟨g_710, g_711, g_120, g_712, ⟨by decide, by decide, by decide⟩, by decide⟩
theorem g_713 : Cond.methodLink "OrderGauge$Shapes" 42 yX5_under ∈ zG := zt_3 (i := 133) rfl rfl
theorem m_X10_42 : zMV "OrderGauge$Shapes" 42 MX5_under 5 2 := ⟨⟨_, _, rfl⟩, g_713, g_484, g_485, g_102, g_486, ⟨by decide, by decide, by decide⟩, by decide⟩
theorem g_714 : Cond.methodLink "OrderGauge$Shapes" 46 yX10_isLeftOfN ∈ zG := zt_3 (i := 134) rfl rfl
theorem g_715 : Cond.static yX10_isLeftOfN ∈ zG := zt_3 (i := 135) rfl rfl
theorem g_716 : Cond.code yX10_isLeftOfN cX10_isLeftOfN 6 (some .boolean) ∈ zG := zt_3 (i := 136) rfl rfl
theorem m_X10_46 : zMS "OrderGauge$Shapes" 46 MX10_isLeftOfN 3 := ⟨g_714, g_715, g_120, g_716, ⟨by decide, by decide, by decide⟩, by decide⟩
theorem g_717 : Cond.methodLink "OrderGauge$Shapes" 50 yX5_freeOf ∈ zG := zt_3 (i := 137) rfl rfl
theorem m_X10_50 : zMV "OrderGauge$Shapes" 50 MX5_freeOf 5 1 := ⟨⟨_, _, rfl⟩, g_717, g_693, g_694, g_102, g_695, ⟨by decide, by decide, by decide⟩, by decide⟩
theorem g_718 : Cond.methodLink "OrderGauge" 182 yX10_hasTwoAndTwo ∈ zG := zt_3 (i := 138) rfl rfl
theorem g_719 : Cond.static yX10_hasTwoAndTwo ∈ zG := zt_3 (i := 139) rfl rfl
theorem g_720 : Cond.code yX10_hasTwoAndTwo cX10_hasTwoAndTwo 4 (some .boolean) ∈ zG := zt_3 (i := 140) rfl rfl
theorem m_X11_182 : zMS "OrderGauge" 182 MX10_hasTwoAndTwo 1 := ⟨g_718, g_719, g_120, g_720, ⟨by decide, by decide, by decide⟩, by decide⟩
theorem g_721 : Cond.methodLink "OrderGauge" 185 yX10_hasThreeAndOne ∈ zG := zt_3 (i := 141) rfl rfl
theorem g_722 : Cond.static yX10_hasThreeAndOne ∈ zG := zt_3 (i := 142) rfl rfl
theorem g_723 : Cond.code yX10_hasThreeAndOne cX10_hasThreeAndOne 5 (some .boolean) ∈ zG := zt_3 (i := 143) rfl rfl
theorem m_X11_185 : zMS "OrderGauge" 185 MX10_hasThreeAndOne 1 := ⟨g_721, g_722, g_120, g_723, ⟨by decide, by decide, by decide⟩, by decide⟩
theorem g_724 : Cond.methodLink "OrderGauge" 188 yX10_isLattice ∈ zG := zt_3 (i := 144) rfl rfl
theorem g_725 : Cond.static yX10_isLattice ∈ zG := zt_3 (i := 145) rfl rfl
theorem g_726 : Cond.code yX10_isLattice cX10_isLattice 5 (some .boolean) ∈ zG := zt_3 (i := 146) rfl rfl
theorem m_X11_188 : zMS "OrderGauge" 188 MX10_isLattice 1 := ⟨g_724, g_725, g_120, g_726, ⟨by decide, by decide, by decide⟩, by decide⟩
theorem g_727 : Cond.methodLink "OrderGauge$Shapes" 53 yX10_upFrom ∈ zG := zt_3 (i := 147) rfl rfl
theorem g_728 : Cond.static yX10_upFrom ∈ zG := zt_3 (i := 148) rfl rfl
theorem g_729 : Cond.code yX10_upFrom cX10_upFrom 2 (some .int) ∈ zG := zt_3 (i := 149) rfl rfl
theorem m_X10_53 : zMS "OrderGauge$Shapes" 53 MX10_upFrom 2 := ⟨g_727, g_728, g_120, g_729, ⟨by decide, by decide, by decide⟩, by decide⟩
theorem g_730 : Cond.methodLink "OrderGauge$Shapes" 56 yX10_downFrom ∈ zG := zt_3 (i := 150) rfl rfl
theorem g_731 : Cond.static yX10_downFrom ∈ zG := zt_3 (i := 151) rfl rfl
theorem g_732 : Cond.code yX10_downFrom cX10_downFrom 2 (some .int) ∈ zG := zt_3 (i := 152) rfl rfl
theorem m_X10_56 : zMS "OrderGauge$Shapes" 56 MX10_downFrom 2 := ⟨g_730, g_731, g_120, g_732, ⟨by decide, by decide, by decide⟩, by decide⟩
theorem g_733 : Cond.methodLink "OrderGauge$Shapes" 59 yX10_hasLeast ∈ zG := zt_3 (i := 153) rfl rfl
theorem g_734 : Cond.static yX10_hasLeast ∈ zG := zt_3 (i := 154) rfl rfl
theorem g_735 : Cond.code yX10_hasLeast cX10_hasLeast 3 (some .boolean) ∈ zG := zt_3 (i := 155) rfl rfl
theorem m_X10_59 : zMS "OrderGauge$Shapes" 59 MX10_hasLeast 2 := ⟨g_733, g_734, g_120, g_735, ⟨by decide, by decide, by decide⟩, by decide⟩
theorem g_736 : Cond.methodLink "OrderGauge$Shapes" 62 yX10_hasGreatest ∈ zG := zt_3 (i := 156) rfl rfl
theorem g_737 : Cond.static yX10_hasGreatest ∈ zG := zt_3 (i := 157) rfl rfl
theorem g_738 : Cond.code yX10_hasGreatest cX10_hasGreatest 3 (some .boolean) ∈ zG := zt_3 (i := 158) rfl rfl
theorem m_X10_62 : zMS "OrderGauge$Shapes" 62 MX10_hasGreatest 2 := ⟨g_736, g_737, g_120, g_738, ⟨by decide, by decide, by decide⟩, by decide⟩
theorem g_739 : Cond.methodLink "OrderGauge" 191 yX1_isLevelled ∈ zG := zt_3 (i := 159) rfl rfl
theorem g_740 : Cond.instanceMethod yX1_isLevelled ∈ zG := zt_3 (i := 160) rfl rfl
theorem g_741 : Cond.selects "OrderGauge$Chains" yX1_isLevelled yX1_isLevelled ∈ zG := zt_3 (i := 161) rfl rfl
theorem g_742 : Cond.code yX1_isLevelled cX1_isLevelled 5 (some .boolean) ∈ zG := zt_3 (i := 162) rfl rfl
theorem m_X11_191 : zMV "OrderGauge" 191 MX1_isLevelled 1 1 := ⟨⟨_, _, rfl⟩, g_739, g_740, g_741, g_108, g_742, ⟨by decide, by decide, by decide⟩, by decide⟩
theorem g_743 : Cond.methodLink "OrderGauge$Chains" 63 yX5_coversOf ∈ zG := zt_3 (i := 163) rfl rfl
theorem m_X1_63 : zMV "OrderGauge$Chains" 63 MX5_coversOf 5 1 := ⟨⟨_, _, rfl⟩, g_743, g_699, g_700, g_102, g_701, ⟨by decide, by decide, by decide⟩, by decide⟩
theorem g_744 : Cond.methodLink "OrderGaugeLaw" 49 yX11_chain ∈ zG := zt_3 (i := 164) rfl rfl
theorem g_745 : Cond.instanceMethod yX11_chain ∈ zG := zt_3 (i := 165) rfl rfl
theorem g_746 : Cond.selects "OrderGauge" yX11_chain yX11_chain ∈ zG := zt_3 (i := 166) rfl rfl
theorem g_747 : Cond.code yX11_chain cX11_chain 4 (some .int) ∈ zG := zt_3 (i := 167) rfl rfl
theorem m_L_49 : zMV "OrderGaugeLaw" 49 MX11_chain 10 2 := ⟨⟨_, _, rfl⟩, g_744, g_745, g_746, g_101, g_747, ⟨by decide, by decide, by decide⟩, by decide⟩
theorem g_748 : Cond.methodLink "OrderGauge" 194 yX1_longestAt ∈ zG := zt_3 (i := 168) rfl rfl
theorem g_749 : Cond.instanceMethod yX1_longestAt ∈ zG := zt_3 (i := 169) rfl rfl
theorem g_750 : Cond.selects "OrderGauge$Chains" yX1_longestAt yX1_longestAt ∈ zG := zt_3 (i := 170) rfl rfl
theorem g_751 : Cond.code yX1_longestAt cX1_longestAt 7 (some .int) ∈ zG := zt_3 (i := 171) rfl rfl
theorem m_X11_194 : zMV "OrderGauge" 194 MX1_longestAt 1 2 := ⟨⟨_, _, rfl⟩, g_748, g_749, g_750, g_108, g_751, ⟨by decide, by decide, by decide⟩, by decide⟩
theorem g_752 : Cond.methodLink "OrderGauge$Chains" 52 yX1_height ∈ zG := zt_3 (i := 172) rfl rfl
theorem m_X1_52 : zMV "OrderGauge$Chains" 52 MX1_height 1 1 := ⟨⟨_, _, rfl⟩, g_752, g_629, g_630, g_108, g_631, ⟨by decide, by decide, by decide⟩, by decide⟩
theorem g_753 : Cond.methodLink "OrderGauge$Chains" 56 yX5_all ∈ zG := zt_3 (i := 173) rfl rfl
theorem m_X1_56 : zMV "OrderGauge$Chains" 56 MX5_all 5 0 := ⟨⟨_, _, rfl⟩, g_753, g_651, g_652, g_102, g_653, ⟨by decide, by decide, by decide⟩, by decide⟩
theorem g_754 : Cond.methodLink "OrderGauge$Chains" 59 yX1_leastOfDepth ∈ zG := zt_3 (i := 174) rfl rfl
theorem g_756 : Cond.instanceMethod yX1_leastOfDepth ∈ zG := zt_3 (i := 176) rfl rfl
theorem g_20 : Cond.selects "OrderGauge$Chains" yX1_leastOfDepth yX1_leastOfDepth ∈ zG := zG_mem 20 rfl rfl
theorem g_757 : Cond.code yX1_leastOfDepth cX1_leastOfDepth 5 (some .int) ∈ zG := zt_3 (i := 177) rfl rfl
theorem m_X1_59 : zMV "OrderGauge$Chains" 59 MX1_leastOfDepth 1 3 := ⟨⟨_, _, rfl⟩, g_754, g_756, g_20, g_108, g_757, ⟨by decide, by decide, by decide⟩, by decide⟩
theorem g_758 : Cond.methodLink "OrderGaugeLaw" 53 yX11_anti ∈ zG := zt_3 (i := 178) rfl rfl
theorem g_759 : Cond.instanceMethod yX11_anti ∈ zG := zt_3 (i := 179) rfl rfl
theorem g_760 : Cond.selects "OrderGauge" yX11_anti yX11_anti ∈ zG := zt_3 (i := 180) rfl rfl
theorem g_761 : Cond.code yX11_anti cX11_anti 3 (some .int) ∈ zG := zt_3 (i := 181) rfl rfl
theorem m_L_53 : zMV "OrderGaugeLaw" 53 MX11_anti 10 1 := ⟨⟨_, _, rfl⟩, g_758, g_759, g_760, g_101, g_761, ⟨by decide, by decide, by decide⟩, by decide⟩
theorem g_762 : Cond.methodLink "OrderGaugeLaw" 57 yX11_part ∈ zG := zt_3 (i := 182) rfl rfl
theorem g_763 : Cond.instanceMethod yX11_part ∈ zG := zt_3 (i := 183) rfl rfl
theorem g_764 : Cond.selects "OrderGauge" yX11_part yX11_part ∈ zG := zt_3 (i := 184) rfl rfl
theorem g_765 : Cond.code yX11_part cX11_part 4 (some .int) ∈ zG := zt_3 (i := 185) rfl rfl
theorem m_L_57 : zMV "OrderGaugeLaw" 57 MX11_part 10 2 := ⟨⟨_, _, rfl⟩, g_762, g_763, g_764, g_101, g_765, ⟨by decide, by decide, by decide⟩, by decide⟩
theorem g_766 : Cond.methodLink "OrderGauge" 198 yX1_chainOf ∈ zG := zt_3 (i := 186) rfl rfl
theorem g_767 : Cond.instanceMethod yX1_chainOf ∈ zG := zt_3 (i := 187) rfl rfl
theorem g_768 : Cond.selects "OrderGauge$Chains" yX1_chainOf yX1_chainOf ∈ zG := zt_3 (i := 188) rfl rfl
theorem g_769 : Cond.code yX1_chainOf cX1_chainOf 5 (some .int) ∈ zG := zt_3 (i := 189) rfl rfl
theorem m_X11_198 : zMV "OrderGauge" 198 MX1_chainOf 1 2 := ⟨⟨_, _, rfl⟩, g_766, g_767, g_768, g_108, g_769, ⟨by decide, by decide, by decide⟩, by decide⟩
theorem g_770 : Cond.methodLink "OrderGauge$Chains" 66 yX10_widest ∈ zG := zt_3 (i := 190) rfl rfl
theorem m_X1_66 : zMS "OrderGauge$Chains" 66 MX10_widest 1 := ⟨g_770, g_648, g_120, g_649, ⟨by decide, by decide, by decide⟩, by decide⟩
theorem g_771 : Cond.methodLink "OrderGauge$Chains" 71 yJ6_bitCount_0f7a4 ∈ zG := zt_3 (i := 191) rfl rfl
theorem m_X1_71 : zMS "OrderGauge$Chains" 71 MJ6_bitCount_0f7a4 1 := ⟨g_771, g_497, g_118, g_498, ⟨by decide, by decide, by decide⟩, by decide⟩
theorem g_772 : Cond.methodLink "OrderGauge$Chains" 76 yX1_divide ∈ zG := zt_3 (i := 192) rfl rfl
theorem g_773 : Cond.static yX1_divide ∈ zG := zt_3 (i := 193) rfl rfl
theorem g_774 : Cond.code yX1_divide cX1_divide 7 (some .boolean) ∈ zG := zt_3 (i := 194) rfl rfl
theorem m_X1_76 : zMS "OrderGauge$Chains" 76 MX1_divide 6 := ⟨g_772, g_773, g_108, g_774, ⟨by decide, by decide, by decide⟩, by decide⟩
theorem g_775 : Cond.methodLink "OrderGauge$Chains" 25 yX5_has ∈ zG := zt_3 (i := 195) rfl rfl
theorem m_X1_25 : zMV "OrderGauge$Chains" 25 MX5_has 5 1 := ⟨⟨_, _, rfl⟩, g_775, g_480, g_481, g_102, g_482, ⟨by decide, by decide, by decide⟩, by decide⟩
theorem g_776 : Cond.methodLink "OrderGauge$Chains" 80 yX5_freeOf ∈ zG := zt_3 (i := 196) rfl rfl
theorem m_X1_80 : zMV "OrderGauge$Chains" 80 MX5_freeOf 5 1 := ⟨⟨_, _, rfl⟩, g_776, g_693, g_694, g_102, g_695, ⟨by decide, by decide, by decide⟩, by decide⟩
theorem g_777 : Cond.methodLink "OrderGaugeLaw" 61 yX11_lines ∈ zG := zt_3 (i := 197) rfl rfl
theorem g_778 : Cond.instanceMethod yX11_lines ∈ zG := zt_3 (i := 198) rfl rfl
theorem g_779 : Cond.selects "OrderGauge" yX11_lines yX11_lines ∈ zG := zt_3 (i := 199) rfl rfl
theorem g_780 : Cond.code yX11_lines cX11_lines 3 (some .int) ∈ zG := zt_3 (i := 200) rfl rfl
theorem m_L_61 : zMV "OrderGaugeLaw" 61 MX11_lines 10 1 := ⟨⟨_, _, rfl⟩, g_777, g_778, g_779, g_101, g_780, ⟨by decide, by decide, by decide⟩, by decide⟩
theorem g_781 : Cond.methodLink "OrderGauge" 201 yX11_linesOf ∈ zG := zt_3 (i := 201) rfl rfl
theorem g_783 : Cond.instanceMethod yX11_linesOf ∈ zG := zt_3 (i := 203) rfl rfl
theorem g_21 : Cond.selects "OrderGauge" yX11_linesOf yX11_linesOf ∈ zG := zG_mem 21 rfl rfl
theorem g_784 : Cond.code yX11_linesOf cX11_linesOf 2 (some (.object "OrderGauge$Lines")) ∈ zG := zt_3 (i := 204) rfl rfl
theorem m_X11_201 : zMV "OrderGauge" 201 MX11_linesOf 10 1 := ⟨⟨_, _, rfl⟩, g_781, g_783, g_21, g_101, g_784, ⟨by decide, by decide, by decide⟩, by decide⟩
theorem g_785 : Cond.methodLink "OrderGauge" 354 yX4_fill ∈ zG := zt_3 (i := 205) rfl rfl
theorem g_786 : Cond.instanceMethod yX4_fill ∈ zG := zt_3 (i := 206) rfl rfl
theorem g_787 : Cond.selects "OrderGauge$Lines" yX4_fill yX4_fill ∈ zG := zt_3 (i := 207) rfl rfl
theorem g_109 : Cond.initialized "OrderGauge$Lines" ∈ zG := zt_1 (i := 9) rfl rfl
theorem g_788 : Cond.code yX4_fill cX4_fill 5 none ∈ zG := zt_3 (i := 208) rfl rfl
theorem m_X11_354 : zMV "OrderGauge" 354 MX4_fill 4 1 := ⟨⟨_, _, rfl⟩, g_785, g_786, g_787, g_109, g_788, ⟨by decide, by decide, by decide⟩, by decide⟩
theorem g_789 : Cond.methodLink "OrderGauge$Lines" 18 yX5_all ∈ zG := zt_3 (i := 209) rfl rfl
theorem m_X4_18 : zMV "OrderGauge$Lines" 18 MX5_all 5 0 := ⟨⟨_, _, rfl⟩, g_789, g_651, g_652, g_102, g_653, ⟨by decide, by decide, by decide⟩, by decide⟩
theorem g_790 : Cond.methodLink "OrderGauge$Lines" 24 yX5_size ∈ zG := zt_3 (i := 210) rfl rfl
theorem m_X4_24 : zMV "OrderGauge$Lines" 24 MX5_size 5 0 := ⟨⟨_, _, rfl⟩, g_790, g_524, g_525, g_102, g_526, ⟨by decide, by decide, by decide⟩, by decide⟩
theorem g_791 : Cond.methodLink "OrderGauge$Lines" 27 yX5_canFollow ∈ zG := zt_3 (i := 211) rfl rfl
theorem g_792 : Cond.instanceMethod yX5_canFollow ∈ zG := zt_3 (i := 212) rfl rfl
theorem g_793 : Cond.selects "OrderGauge$Order" yX5_canFollow yX5_canFollow ∈ zG := zt_3 (i := 213) rfl rfl
theorem g_794 : Cond.code yX5_canFollow cX5_canFollow 3 (some .boolean) ∈ zG := zt_3 (i := 214) rfl rfl
theorem m_X4_27 : zMV "OrderGauge$Lines" 27 MX5_canFollow 5 2 := ⟨⟨_, _, rfl⟩, g_791, g_792, g_793, g_102, g_794, ⟨by decide, by decide, by decide⟩, by decide⟩
theorem g_795 : Cond.methodLink "OrderGauge" 205 yX4_total ∈ zG := zt_3 (i := 215) rfl rfl
theorem g_796 : Cond.instanceMethod yX4_total ∈ zG := zt_3 (i := 216) rfl rfl
theorem g_797 : Cond.selects "OrderGauge$Lines" yX4_total yX4_total ∈ zG := zt_3 (i := 217) rfl rfl
theorem g_798 : Cond.code yX4_total cX4_total 1 (some .int) ∈ zG := zt_3 (i := 218) rfl rfl
theorem m_X11_205 : zMV "OrderGauge" 205 MX4_total 4 0 := ⟨⟨_, _, rfl⟩, g_795, g_796, g_797, g_109, g_798, ⟨by decide, by decide, by decide⟩, by decide⟩
theorem g_799 : Cond.methodLink "OrderGaugeLaw" 65 yX11_line ∈ zG := zt_3 (i := 219) rfl rfl
theorem g_800 : Cond.instanceMethod yX11_line ∈ zG := zt_3 (i := 220) rfl rfl
theorem g_801 : Cond.selects "OrderGauge" yX11_line yX11_line ∈ zG := zt_3 (i := 221) rfl rfl
theorem g_802 : Cond.code yX11_line cX11_line 5 (some .int) ∈ zG := zt_3 (i := 222) rfl rfl
theorem m_L_65 : zMV "OrderGaugeLaw" 65 MX11_line 10 3 := ⟨⟨_, _, rfl⟩, g_799, g_800, g_801, g_101, g_802, ⟨by decide, by decide, by decide⟩, by decide⟩
theorem g_803 : Cond.methodLink "OrderGauge" 208 yX4_thingAt ∈ zG := zt_3 (i := 223) rfl rfl
theorem g_804 : Cond.instanceMethod yX4_thingAt ∈ zG := zt_3 (i := 224) rfl rfl
theorem g_805 : Cond.selects "OrderGauge$Lines" yX4_thingAt yX4_thingAt ∈ zG := zt_3 (i := 225) rfl rfl
theorem g_806 : Cond.code yX4_thingAt cX4_thingAt 9 (some .int) ∈ zG := zt_3 (i := 226) rfl rfl
theorem m_X11_208 : zMV "OrderGauge" 208 MX4_thingAt 4 3 := ⟨⟨_, _, rfl⟩, g_803, g_804, g_805, g_109, g_806, ⟨by decide, by decide, by decide⟩, by decide⟩
theorem g_807 : Cond.methodLink "OrderGauge$Lines" 31 yX4_total ∈ zG := zt_3 (i := 227) rfl rfl
theorem m_X4_31 : zMV "OrderGauge$Lines" 31 MX4_total 4 0 := ⟨⟨_, _, rfl⟩, g_807, g_796, g_797, g_109, g_798, ⟨by decide, by decide, by decide⟩, by decide⟩
theorem g_808 : Cond.methodLink "OrderGauge$Lines" 34 yX4_waysWith ∈ zG := zt_3 (i := 228) rfl rfl
theorem g_810 : Cond.instanceMethod yX4_waysWith ∈ zG := zt_3 (i := 230) rfl rfl
theorem g_22 : Cond.selects "OrderGauge$Lines" yX4_waysWith yX4_waysWith ∈ zG := zG_mem 22 rfl rfl
theorem g_811 : Cond.code yX4_waysWith cX4_waysWith 4 (some .int) ∈ zG := zt_3 (i := 231) rfl rfl
theorem m_X4_34 : zMV "OrderGauge$Lines" 34 MX4_waysWith 4 3 := ⟨⟨_, _, rfl⟩, g_808, g_810, g_22, g_109, g_811, ⟨by decide, by decide, by decide⟩, by decide⟩
theorem g_812 : Cond.methodLink "OrderGaugeLaw" 69 yX11_rank ∈ zG := zt_3 (i := 232) rfl rfl
theorem g_813 : Cond.instanceMethod yX11_rank ∈ zG := zt_3 (i := 233) rfl rfl
theorem g_814 : Cond.selects "OrderGauge" yX11_rank yX11_rank ∈ zG := zt_3 (i := 234) rfl rfl
theorem g_815 : Cond.code yX11_rank cX11_rank 4 (some .int) ∈ zG := zt_3 (i := 235) rfl rfl
theorem m_L_69 : zMV "OrderGaugeLaw" 69 MX11_rank 10 2 := ⟨⟨_, _, rfl⟩, g_812, g_813, g_814, g_101, g_815, ⟨by decide, by decide, by decide⟩, by decide⟩
theorem g_816 : Cond.methodLink "OrderGauge" 212 yX11_orderWithRow ∈ zG := zt_3 (i := 236) rfl rfl
theorem g_818 : Cond.instanceMethod yX11_orderWithRow ∈ zG := zt_3 (i := 238) rfl rfl
theorem g_23 : Cond.selects "OrderGauge" yX11_orderWithRow yX11_orderWithRow ∈ zG := zG_mem 23 rfl rfl
theorem g_819 : Cond.code yX11_orderWithRow cX11_orderWithRow 4 (some (.object "OrderGauge$Order")) ∈ zG := zt_3 (i := 239) rfl rfl
theorem m_X11_212 : zMV "OrderGauge" 212 MX11_orderWithRow 10 2 := ⟨⟨_, _, rfl⟩, g_816, g_818, g_23, g_101, g_819, ⟨by decide, by decide, by decide⟩, by decide⟩
theorem g_820 : Cond.methodLink "OrderGauge" 353 yX8_has ∈ zG := zt_4 (i := 0) rfl rfl
theorem g_821 : Cond.instanceMethod yX8_has ∈ zG := zt_4 (i := 1) rfl rfl
theorem g_822 : Cond.selects "OrderGauge$Rows" yX8_has yX8_has ∈ zG := zt_4 (i := 2) rfl rfl
theorem g_823 : Cond.code yX8_has cX8_has 2 (some .boolean) ∈ zG := zt_4 (i := 3) rfl rfl
theorem m_X11_353 : zMV "OrderGauge" 353 MX8_has 8 1 := ⟨⟨_, _, rfl⟩, g_820, g_821, g_822, g_103, g_823, ⟨by decide, by decide, by decide⟩, by decide⟩
theorem g_824 : Cond.methodLink "OrderGauge" 215 yX4_numberOf ∈ zG := zt_4 (i := 4) rfl rfl
theorem g_825 : Cond.instanceMethod yX4_numberOf ∈ zG := zt_4 (i := 5) rfl rfl
theorem g_826 : Cond.selects "OrderGauge$Lines" yX4_numberOf yX4_numberOf ∈ zG := zt_4 (i := 6) rfl rfl
theorem g_827 : Cond.code yX4_numberOf cX4_numberOf 8 (some .int) ∈ zG := zt_4 (i := 7) rfl rfl
theorem m_X11_215 : zMV "OrderGauge" 215 MX4_numberOf 4 2 := ⟨⟨_, _, rfl⟩, g_824, g_825, g_826, g_109, g_827, ⟨by decide, by decide, by decide⟩, by decide⟩
theorem g_828 : Cond.methodLink "OrderGauge$Lines" 38 yX5_rows ∈ zG := zt_4 (i := 8) rfl rfl
theorem m_X4_38 : zMV "OrderGauge$Lines" 38 MX5_rows 5 0 := ⟨⟨_, _, rfl⟩, g_828, g_512, g_513, g_102, g_514, ⟨by decide, by decide, by decide⟩, by decide⟩
theorem g_829 : Cond.methodLink "OrderGauge$Lines" 42 yX8_thingAt ∈ zG := zt_4 (i := 9) rfl rfl
theorem m_X4_42 : zMV "OrderGauge$Lines" 42 MX8_thingAt 8 2 := ⟨⟨_, _, rfl⟩, g_829, g_559, g_560, g_103, g_561, ⟨by decide, by decide, by decide⟩, by decide⟩
theorem g_830 : Cond.methodLink "OrderGaugeLaw" 73 yX11_deep ∈ zG := zt_4 (i := 10) rfl rfl
theorem g_831 : Cond.instanceMethod yX11_deep ∈ zG := zt_4 (i := 11) rfl rfl
theorem g_832 : Cond.selects "OrderGauge" yX11_deep yX11_deep ∈ zG := zt_4 (i := 12) rfl rfl
theorem g_833 : Cond.code yX11_deep cX11_deep 5 (some .int) ∈ zG := zt_4 (i := 13) rfl rfl
theorem m_L_73 : zMV "OrderGaugeLaw" 73 MX11_deep 10 3 := ⟨⟨_, _, rfl⟩, g_830, g_831, g_832, g_101, g_833, ⟨by decide, by decide, by decide⟩, by decide⟩
theorem g_834 : Cond.methodLink "OrderGauge" 218 yX11_isBit ∈ zG := zt_4 (i := 14) rfl rfl
theorem g_835 : Cond.static yX11_isBit ∈ zG := zt_4 (i := 15) rfl rfl
theorem g_836 : Cond.code yX11_isBit cX11_isBit 1 (some .boolean) ∈ zG := zt_4 (i := 16) rfl rfl
theorem m_X11_218 : zMS "OrderGauge" 218 MX11_isBit 1 := ⟨g_834, g_835, g_101, g_836, ⟨by decide, by decide, by decide⟩, by decide⟩
theorem g_837 : Cond.methodLink "OrderGauge" 221 yX1_depth ∈ zG := zt_4 (i := 17) rfl rfl
theorem g_838 : Cond.instanceMethod yX1_depth ∈ zG := zt_4 (i := 18) rfl rfl
theorem g_839 : Cond.selects "OrderGauge$Chains" yX1_depth yX1_depth ∈ zG := zt_4 (i := 19) rfl rfl
theorem g_840 : Cond.code yX1_depth cX1_depth 4 (some .int) ∈ zG := zt_4 (i := 20) rfl rfl
theorem m_X11_221 : zMV "OrderGauge" 221 MX1_depth 1 3 := ⟨⟨_, _, rfl⟩, g_837, g_838, g_839, g_108, g_840, ⟨by decide, by decide, by decide⟩, by decide⟩
theorem g_841 : Cond.methodLink "OrderGaugeLaw" 77 yX11_through ∈ zG := zt_4 (i := 21) rfl rfl
theorem g_842 : Cond.instanceMethod yX11_through ∈ zG := zt_4 (i := 22) rfl rfl
theorem g_843 : Cond.selects "OrderGauge" yX11_through yX11_through ∈ zG := zt_4 (i := 23) rfl rfl
theorem g_844 : Cond.code yX11_through cX11_through 4 (some .int) ∈ zG := zt_4 (i := 24) rfl rfl
theorem m_L_77 : zMV "OrderGaugeLaw" 77 MX11_through 10 2 := ⟨⟨_, _, rfl⟩, g_841, g_842, g_843, g_101, g_844, ⟨by decide, by decide, by decide⟩, by decide⟩
theorem g_845 : Cond.methodLink "OrderGauge" 225 yX5_all ∈ zG := zt_4 (i := 25) rfl rfl
theorem m_X11_225 : zMV "OrderGauge" 225 MX5_all 5 0 := ⟨⟨_, _, rfl⟩, g_845, g_651, g_652, g_102, g_653, ⟨by decide, by decide, by decide⟩, by decide⟩
theorem g_846 : Cond.methodLink "OrderGauge" 228 yX4_thatBeginWith ∈ zG := zt_4 (i := 26) rfl rfl
theorem g_847 : Cond.instanceMethod yX4_thatBeginWith ∈ zG := zt_4 (i := 27) rfl rfl
theorem g_848 : Cond.selects "OrderGauge$Lines" yX4_thatBeginWith yX4_thatBeginWith ∈ zG := zt_4 (i := 28) rfl rfl
theorem g_849 : Cond.code yX4_thatBeginWith cX4_thatBeginWith 2 (some .int) ∈ zG := zt_4 (i := 29) rfl rfl
theorem m_X11_228 : zMV "OrderGauge" 228 MX4_thatBeginWith 4 1 := ⟨⟨_, _, rfl⟩, g_846, g_847, g_848, g_109, g_849, ⟨by decide, by decide, by decide⟩, by decide⟩
theorem g_850 : Cond.methodLink "OrderGaugeLaw" 81 yX11_before ∈ zG := zt_4 (i := 30) rfl rfl
theorem g_851 : Cond.instanceMethod yX11_before ∈ zG := zt_4 (i := 31) rfl rfl
theorem g_852 : Cond.selects "OrderGauge" yX11_before yX11_before ∈ zG := zt_4 (i := 32) rfl rfl
theorem g_853 : Cond.code yX11_before cX11_before 5 (some .int) ∈ zG := zt_4 (i := 33) rfl rfl
theorem m_L_81 : zMV "OrderGaugeLaw" 81 MX11_before 10 3 := ⟨⟨_, _, rfl⟩, g_850, g_851, g_852, g_101, g_853, ⟨by decide, by decide, by decide⟩, by decide⟩
theorem g_854 : Cond.methodLink "OrderGauge" 234 yX4_withFirstAhead ∈ zG := zt_4 (i := 34) rfl rfl
theorem g_855 : Cond.instanceMethod yX4_withFirstAhead ∈ zG := zt_4 (i := 35) rfl rfl
theorem g_856 : Cond.selects "OrderGauge$Lines" yX4_withFirstAhead yX4_withFirstAhead ∈ zG := zt_4 (i := 36) rfl rfl
theorem g_857 : Cond.code yX4_withFirstAhead cX4_withFirstAhead 6 (some .int) ∈ zG := zt_4 (i := 37) rfl rfl
theorem m_X11_234 : zMV "OrderGauge" 234 MX4_withFirstAhead 4 3 := ⟨⟨_, _, rfl⟩, g_854, g_855, g_856, g_109, g_857, ⟨by decide, by decide, by decide⟩, by decide⟩
theorem g_858 : Cond.methodLink "OrderGaugeLaw" 85 yX11_at ∈ zG := zt_4 (i := 38) rfl rfl
theorem g_859 : Cond.instanceMethod yX11_at ∈ zG := zt_4 (i := 39) rfl rfl
theorem g_860 : Cond.selects "OrderGauge" yX11_at yX11_at ∈ zG := zt_4 (i := 40) rfl rfl
theorem g_861 : Cond.code yX11_at cX11_at 5 (some .int) ∈ zG := zt_4 (i := 41) rfl rfl
theorem m_L_85 : zMV "OrderGaugeLaw" 85 MX11_at 10 3 := ⟨⟨_, _, rfl⟩, g_858, g_859, g_860, g_101, g_861, ⟨by decide, by decide, by decide⟩, by decide⟩
theorem g_862 : Cond.methodLink "OrderGauge" 237 yX4_withThingAt ∈ zG := zt_4 (i := 42) rfl rfl
theorem g_863 : Cond.instanceMethod yX4_withThingAt ∈ zG := zt_4 (i := 43) rfl rfl
theorem g_864 : Cond.selects "OrderGauge$Lines" yX4_withThingAt yX4_withThingAt ∈ zG := zt_4 (i := 44) rfl rfl
theorem g_865 : Cond.code yX4_withThingAt cX4_withThingAt 6 (some .int) ∈ zG := zt_4 (i := 45) rfl rfl
theorem m_X11_237 : zMV "OrderGauge" 237 MX4_withThingAt 4 3 := ⟨⟨_, _, rfl⟩, g_862, g_863, g_864, g_109, g_865, ⟨by decide, by decide, by decide⟩, by decide⟩
theorem g_866 : Cond.methodLink "OrderGauge$Lines" 48 yJ6_bitCount_0f7a4 ∈ zG := zt_4 (i := 46) rfl rfl
theorem m_X4_48 : zMS "OrderGauge$Lines" 48 MJ6_bitCount_0f7a4 1 := ⟨g_866, g_497, g_118, g_498, ⟨by decide, by decide, by decide⟩, by decide⟩
theorem g_867 : Cond.methodLink "OrderGaugeLaw" 89 yX11_mean ∈ zG := zt_4 (i := 47) rfl rfl
theorem g_868 : Cond.instanceMethod yX11_mean ∈ zG := zt_4 (i := 48) rfl rfl
theorem g_869 : Cond.selects "OrderGauge" yX11_mean yX11_mean ∈ zG := zt_4 (i := 49) rfl rfl
theorem g_870 : Cond.code yX11_mean cX11_mean 8 (some .int) ∈ zG := zt_4 (i := 50) rfl rfl
theorem m_L_89 : zMV "OrderGaugeLaw" 89 MX11_mean 10 3 := ⟨⟨_, _, rfl⟩, g_867, g_868, g_869, g_101, g_870, ⟨by decide, by decide, by decide⟩, by decide⟩
theorem g_871 : Cond.methodLink "OrderGauge" 240 yX4_placeSum ∈ zG := zt_4 (i := 51) rfl rfl
theorem g_872 : Cond.instanceMethod yX4_placeSum ∈ zG := zt_4 (i := 52) rfl rfl
theorem g_873 : Cond.selects "OrderGauge$Lines" yX4_placeSum yX4_placeSum ∈ zG := zt_4 (i := 53) rfl rfl
theorem g_874 : Cond.code yX4_placeSum cX4_placeSum 5 (some .int) ∈ zG := zt_4 (i := 54) rfl rfl
theorem m_X11_240 : zMV "OrderGauge" 240 MX4_placeSum 4 2 := ⟨⟨_, _, rfl⟩, g_871, g_872, g_873, g_109, g_874, ⟨by decide, by decide, by decide⟩, by decide⟩
theorem g_875 : Cond.methodLink "OrderGauge$Lines" 54 yX4_withThingAt ∈ zG := zt_4 (i := 55) rfl rfl
theorem m_X4_54 : zMV "OrderGauge$Lines" 54 MX4_withThingAt 4 3 := ⟨⟨_, _, rfl⟩, g_875, g_863, g_864, g_109, g_865, ⟨by decide, by decide, by decide⟩, by decide⟩
theorem g_876 : Cond.methodLink "OrderGauge" 243 yX11_commonDivisor ∈ zG := zt_4 (i := 56) rfl rfl
theorem g_877 : Cond.static yX11_commonDivisor ∈ zG := zt_4 (i := 57) rfl rfl
theorem g_878 : Cond.code yX11_commonDivisor cX11_commonDivisor 6 (some .int) ∈ zG := zt_4 (i := 58) rfl rfl
theorem m_X11_243 : zMS "OrderGauge" 243 MX11_commonDivisor 2 := ⟨g_876, g_877, g_101, g_878, ⟨by decide, by decide, by decide⟩, by decide⟩
theorem g_879 : Cond.methodLink "OrderGaugeLaw" 93 yX11_balance ∈ zG := zt_4 (i := 59) rfl rfl
theorem g_880 : Cond.instanceMethod yX11_balance ∈ zG := zt_4 (i := 60) rfl rfl
theorem g_881 : Cond.selects "OrderGauge" yX11_balance yX11_balance ∈ zG := zt_4 (i := 61) rfl rfl
theorem g_882 : Cond.code yX11_balance cX11_balance 5 (some .int) ∈ zG := zt_4 (i := 62) rfl rfl
theorem m_L_93 : zMV "OrderGaugeLaw" 93 MX11_balance 10 2 := ⟨⟨_, _, rfl⟩, g_879, g_880, g_881, g_101, g_882, ⟨by decide, by decide, by decide⟩, by decide⟩
theorem g_883 : Cond.methodLink "OrderGauge" 247 yX4_bestBalanced ∈ zG := zt_4 (i := 63) rfl rfl
theorem g_884 : Cond.instanceMethod yX4_bestBalanced ∈ zG := zt_4 (i := 64) rfl rfl
theorem g_885 : Cond.selects "OrderGauge$Lines" yX4_bestBalanced yX4_bestBalanced ∈ zG := zt_4 (i := 65) rfl rfl
theorem g_886 : Cond.code yX4_bestBalanced cX4_bestBalanced 7 (some .int) ∈ zG := zt_4 (i := 66) rfl rfl
theorem m_X11_247 : zMV "OrderGauge" 247 MX4_bestBalanced 4 1 := ⟨⟨_, _, rfl⟩, g_883, g_884, g_885, g_109, g_886, ⟨by decide, by decide, by decide⟩, by decide⟩
theorem g_887 : Cond.methodLink "OrderGauge$Lines" 57 yX5_freeOf ∈ zG := zt_4 (i := 67) rfl rfl
theorem m_X4_57 : zMV "OrderGauge$Lines" 57 MX5_freeOf 5 1 := ⟨⟨_, _, rfl⟩, g_887, g_693, g_694, g_102, g_695, ⟨by decide, by decide, by decide⟩, by decide⟩
theorem g_888 : Cond.methodLink "OrderGauge$Lines" 60 yX4_withFirstAhead ∈ zG := zt_4 (i := 68) rfl rfl
theorem m_X4_60 : zMV "OrderGauge$Lines" 60 MX4_withFirstAhead 4 3 := ⟨⟨_, _, rfl⟩, g_888, g_855, g_856, g_109, g_857, ⟨by decide, by decide, by decide⟩, by decide⟩
theorem g_889 : Cond.methodLink "OrderGauge$Lines" 63 yJ9_abs_0f7a4 ∈ zG := zt_4 (i := 69) rfl rfl
theorem g_892 : Cond.methodLink "OrderGaugeLaw" 97 yX11_jumps ∈ zG := zt_4 (i := 72) rfl rfl
theorem g_893 : Cond.instanceMethod yX11_jumps ∈ zG := zt_4 (i := 73) rfl rfl
theorem g_894 : Cond.selects "OrderGauge" yX11_jumps yX11_jumps ∈ zG := zt_4 (i := 74) rfl rfl
theorem g_895 : Cond.code yX11_jumps cX11_jumps 4 (some .int) ∈ zG := zt_4 (i := 75) rfl rfl
theorem m_L_97 : zMV "OrderGaugeLaw" 97 MX11_jumps 10 2 := ⟨⟨_, _, rfl⟩, g_892, g_893, g_894, g_101, g_895, ⟨by decide, by decide, by decide⟩, by decide⟩
theorem g_896 : Cond.methodLink "OrderGauge" 250 yX2_extreme ∈ zG := zt_4 (i := 76) rfl rfl
theorem g_897 : Cond.instanceMethod yX2_extreme ∈ zG := zt_4 (i := 77) rfl rfl
theorem g_898 : Cond.selects "OrderGauge$Jumps" yX2_extreme yX2_extreme ∈ zG := zt_4 (i := 78) rfl rfl
theorem g_110 : Cond.initialized "OrderGauge$Jumps" ∈ zG := zt_1 (i := 10) rfl rfl
theorem g_899 : Cond.code yX2_extreme cX2_extreme 3 (some .int) ∈ zG := zt_4 (i := 79) rfl rfl
theorem m_X11_250 : zMV "OrderGauge" 250 MX2_extreme 2 2 := ⟨⟨_, _, rfl⟩, g_896, g_897, g_898, g_110, g_899, ⟨by decide, by decide, by decide⟩, by decide⟩
theorem g_900 : Cond.methodLink "OrderGauge$Jumps" 15 yX2_measure ∈ zG := zt_4 (i := 80) rfl rfl
theorem g_902 : Cond.instanceMethod yX2_measure ∈ zG := zt_4 (i := 82) rfl rfl
theorem g_24 : Cond.selects "OrderGauge$Jumps" yX2_measure yX2_measure ∈ zG := zG_mem 24 rfl rfl
theorem g_903 : Cond.code yX2_measure cX2_measure 6 none ∈ zG := zt_4 (i := 83) rfl rfl
theorem m_X2_15 : zMV "OrderGauge$Jumps" 15 MX2_measure 2 2 := ⟨⟨_, _, rfl⟩, g_900, g_902, g_24, g_110, g_903, ⟨by decide, by decide, by decide⟩, by decide⟩
theorem g_904 : Cond.methodLink "OrderGauge$Jumps" 33 yX5_all ∈ zG := zt_4 (i := 84) rfl rfl
theorem m_X2_33 : zMV "OrderGauge$Jumps" 33 MX5_all 5 0 := ⟨⟨_, _, rfl⟩, g_904, g_651, g_652, g_102, g_653, ⟨by decide, by decide, by decide⟩, by decide⟩
theorem g_905 : Cond.methodLink "OrderGauge$Jumps" 36 yX5_isIdeal ∈ zG := zt_4 (i := 85) rfl rfl
theorem m_X2_36 : zMV "OrderGauge$Jumps" 36 MX5_isIdeal 5 1 := ⟨⟨_, _, rfl⟩, g_905, g_669, g_670, g_102, g_671, ⟨by decide, by decide, by decide⟩, by decide⟩
theorem g_906 : Cond.methodLink "OrderGauge$Jumps" 27 yX5_size ∈ zG := zt_4 (i := 86) rfl rfl
theorem m_X2_27 : zMV "OrderGauge$Jumps" 27 MX5_size 5 0 := ⟨⟨_, _, rfl⟩, g_906, g_524, g_525, g_102, g_526, ⟨by decide, by decide, by decide⟩, by decide⟩
theorem g_907 : Cond.methodLink "OrderGauge$Jumps" 19 yX2_pick ∈ zG := zt_4 (i := 87) rfl rfl
theorem g_909 : Cond.instanceMethod yX2_pick ∈ zG := zt_4 (i := 89) rfl rfl
theorem g_25 : Cond.selects "OrderGauge$Jumps" yX2_pick yX2_pick ∈ zG := zG_mem 25 rfl rfl
theorem g_910 : Cond.code yX2_pick cX2_pick 9 (some .int) ∈ zG := zt_4 (i := 90) rfl rfl
theorem m_X2_19 : zMV "OrderGauge$Jumps" 19 MX2_pick 2 4 := ⟨⟨_, _, rfl⟩, g_907, g_909, g_25, g_110, g_910, ⟨by decide, by decide, by decide⟩, by decide⟩
theorem g_911 : Cond.methodLink "OrderGauge$Jumps" 40 yX5_canFollow ∈ zG := zt_4 (i := 91) rfl rfl
theorem m_X2_40 : zMV "OrderGauge$Jumps" 40 MX5_canFollow 5 2 := ⟨⟨_, _, rfl⟩, g_911, g_792, g_793, g_102, g_794, ⟨by decide, by decide, by decide⟩, by decide⟩
theorem g_912 : Cond.methodLink "OrderGauge$Jumps" 23 yX2_worth ∈ zG := zt_4 (i := 92) rfl rfl
theorem g_914 : Cond.instanceMethod yX2_worth ∈ zG := zt_4 (i := 94) rfl rfl
theorem g_26 : Cond.selects "OrderGauge$Jumps" yX2_worth yX2_worth ∈ zG := zG_mem 26 rfl rfl
theorem g_915 : Cond.code yX2_worth cX2_worth 6 (some .int) ∈ zG := zt_4 (i := 95) rfl rfl
theorem m_X2_23 : zMV "OrderGauge$Jumps" 23 MX2_worth 2 4 := ⟨⟨_, _, rfl⟩, g_912, g_914, g_26, g_110, g_915, ⟨by decide, by decide, by decide⟩, by decide⟩
theorem g_916 : Cond.methodLink "OrderGauge$Jumps" 44 yX5_has ∈ zG := zt_4 (i := 96) rfl rfl
theorem m_X2_44 : zMV "OrderGauge$Jumps" 44 MX5_has 5 1 := ⟨⟨_, _, rfl⟩, g_916, g_480, g_481, g_102, g_482, ⟨by decide, by decide, by decide⟩, by decide⟩
theorem g_917 : Cond.methodLink "OrderGauge$Jumps" 47 yX5_under ∈ zG := zt_4 (i := 97) rfl rfl
theorem m_X2_47 : zMV "OrderGauge$Jumps" 47 MX5_under 5 2 := ⟨⟨_, _, rfl⟩, g_917, g_484, g_485, g_102, g_486, ⟨by decide, by decide, by decide⟩, by decide⟩
theorem g_918 : Cond.methodLink "OrderGaugeLaw" 101 yX11_jumper ∈ zG := zt_4 (i := 98) rfl rfl
theorem g_919 : Cond.instanceMethod yX11_jumper ∈ zG := zt_4 (i := 99) rfl rfl
theorem g_920 : Cond.selects "OrderGauge" yX11_jumper yX11_jumper ∈ zG := zt_4 (i := 100) rfl rfl
theorem g_921 : Cond.code yX11_jumper cX11_jumper 5 (some .int) ∈ zG := zt_4 (i := 101) rfl rfl
theorem m_L_101 : zMV "OrderGaugeLaw" 101 MX11_jumper 10 3 := ⟨⟨_, _, rfl⟩, g_918, g_919, g_920, g_101, g_921, ⟨by decide, by decide, by decide⟩, by decide⟩
theorem g_922 : Cond.methodLink "OrderGauge" 254 yX2_thingAt ∈ zG := zt_4 (i := 102) rfl rfl
theorem g_923 : Cond.instanceMethod yX2_thingAt ∈ zG := zt_4 (i := 103) rfl rfl
theorem g_924 : Cond.selects "OrderGauge$Jumps" yX2_thingAt yX2_thingAt ∈ zG := zt_4 (i := 104) rfl rfl
theorem g_925 : Cond.code yX2_thingAt cX2_thingAt 7 (some .int) ∈ zG := zt_4 (i := 105) rfl rfl
theorem m_X11_254 : zMV "OrderGauge" 254 MX2_thingAt 2 3 := ⟨⟨_, _, rfl⟩, g_922, g_923, g_924, g_110, g_925, ⟨by decide, by decide, by decide⟩, by decide⟩
theorem g_926 : Cond.methodLink "OrderGaugeLaw" 105 yX11_jumpsOf ∈ zG := zt_4 (i := 106) rfl rfl
theorem g_927 : Cond.instanceMethod yX11_jumpsOf ∈ zG := zt_4 (i := 107) rfl rfl
theorem g_928 : Cond.selects "OrderGauge" yX11_jumpsOf yX11_jumpsOf ∈ zG := zt_4 (i := 108) rfl rfl
theorem g_929 : Cond.code yX11_jumpsOf cX11_jumpsOf 4 (some .int) ∈ zG := zt_4 (i := 109) rfl rfl
theorem m_L_105 : zMV "OrderGaugeLaw" 105 MX11_jumpsOf 10 2 := ⟨⟨_, _, rfl⟩, g_926, g_927, g_928, g_101, g_929, ⟨by decide, by decide, by decide⟩, by decide⟩
theorem g_930 : Cond.methodLink "OrderGauge" 257 yX5_jumpsIn ∈ zG := zt_4 (i := 110) rfl rfl
theorem g_931 : Cond.instanceMethod yX5_jumpsIn ∈ zG := zt_4 (i := 111) rfl rfl
theorem g_932 : Cond.selects "OrderGauge$Order" yX5_jumpsIn yX5_jumpsIn ∈ zG := zt_4 (i := 112) rfl rfl
theorem g_933 : Cond.code yX5_jumpsIn cX5_jumpsIn 4 (some .int) ∈ zG := zt_4 (i := 113) rfl rfl
theorem m_X11_257 : zMV "OrderGauge" 257 MX5_jumpsIn 5 1 := ⟨⟨_, _, rfl⟩, g_930, g_931, g_932, g_102, g_933, ⟨by decide, by decide, by decide⟩, by decide⟩
theorem g_934 : Cond.methodLink "OrderGauge$Order" 91 yX8_thingAt ∈ zG := zt_4 (i := 114) rfl rfl
theorem m_X5_91 : zMV "OrderGauge$Order" 91 MX8_thingAt 8 2 := ⟨⟨_, _, rfl⟩, g_934, g_559, g_560, g_103, g_561, ⟨by decide, by decide, by decide⟩, by decide⟩
theorem g_935 : Cond.methodLink "OrderGaugeLaw" 109 yX11_critical ∈ zG := zt_4 (i := 115) rfl rfl
theorem g_936 : Cond.instanceMethod yX11_critical ∈ zG := zt_4 (i := 116) rfl rfl
theorem g_937 : Cond.selects "OrderGauge" yX11_critical yX11_critical ∈ zG := zt_4 (i := 117) rfl rfl
theorem g_938 : Cond.code yX11_critical cX11_critical 4 (some .int) ∈ zG := zt_4 (i := 118) rfl rfl
theorem m_L_109 : zMV "OrderGaugeLaw" 109 MX11_critical 10 2 := ⟨⟨_, _, rfl⟩, g_935, g_936, g_937, g_101, g_938, ⟨by decide, by decide, by decide⟩, by decide⟩
theorem g_939 : Cond.methodLink "OrderGauge" 260 yX9_collect ∈ zG := zt_4 (i := 119) rfl rfl
theorem g_940 : Cond.instanceMethod yX9_collect ∈ zG := zt_4 (i := 120) rfl rfl
theorem g_941 : Cond.selects "OrderGauge$Search" yX9_collect yX9_collect ∈ zG := zt_4 (i := 121) rfl rfl
theorem g_111 : Cond.initialized "OrderGauge$Search" ∈ zG := zt_1 (i := 11) rfl rfl
theorem g_942 : Cond.code yX9_collect cX9_collect 4 none ∈ zG := zt_4 (i := 122) rfl rfl
theorem m_X11_260 : zMV "OrderGauge" 260 MX9_collect 9 1 := ⟨⟨_, _, rfl⟩, g_939, g_940, g_941, g_111, g_942, ⟨by decide, by decide, by decide⟩, by decide⟩
theorem g_943 : Cond.methodLink "OrderGauge$Search" 34 yX5_size ∈ zG := zt_4 (i := 123) rfl rfl
theorem m_X9_34 : zMV "OrderGauge$Search" 34 MX5_size 5 0 := ⟨⟨_, _, rfl⟩, g_943, g_524, g_525, g_102, g_526, ⟨by decide, by decide, by decide⟩, by decide⟩
theorem g_944 : Cond.methodLink "OrderGauge$Search" 39 yX9_isCritical ∈ zG := zt_4 (i := 124) rfl rfl
theorem g_945 : Cond.static yX9_isCritical ∈ zG := zt_4 (i := 125) rfl rfl
theorem g_946 : Cond.code yX9_isCritical cX9_isCritical 3 (some .boolean) ∈ zG := zt_4 (i := 126) rfl rfl
theorem m_X9_39 : zMS "OrderGauge$Search" 39 MX9_isCritical 3 := ⟨g_944, g_945, g_111, g_946, ⟨by decide, by decide, by decide⟩, by decide⟩
theorem g_947 : Cond.methodLink "OrderGauge$Search" 43 yX5_freeOf ∈ zG := zt_4 (i := 127) rfl rfl
theorem m_X9_43 : zMV "OrderGauge$Search" 43 MX5_freeOf 5 1 := ⟨⟨_, _, rfl⟩, g_947, g_693, g_694, g_102, g_695, ⟨by decide, by decide, by decide⟩, by decide⟩
theorem g_948 : Cond.methodLink "OrderGauge$Search" 47 yX5_belowOf ∈ zG := zt_4 (i := 128) rfl rfl
theorem m_X9_47 : zMV "OrderGauge$Search" 47 MX5_belowOf 5 1 := ⟨⟨_, _, rfl⟩, g_948, g_624, g_625, g_102, g_626, ⟨by decide, by decide, by decide⟩, by decide⟩
theorem g_949 : Cond.methodLink "OrderGauge$Search" 50 yX5_aboveOf ∈ zG := zt_4 (i := 129) rfl rfl
theorem m_X9_50 : zMV "OrderGauge$Search" 50 MX5_aboveOf 5 1 := ⟨⟨_, _, rfl⟩, g_949, g_638, g_639, g_102, g_640, ⟨by decide, by decide, by decide⟩, by decide⟩
theorem g_950 : Cond.methodLink "OrderGauge" 264 yX9_size ∈ zG := zt_4 (i := 130) rfl rfl
theorem g_951 : Cond.instanceMethod yX9_size ∈ zG := zt_4 (i := 131) rfl rfl
theorem g_952 : Cond.selects "OrderGauge$Search" yX9_size yX9_size ∈ zG := zt_4 (i := 132) rfl rfl
theorem g_953 : Cond.code yX9_size cX9_size 1 (some .int) ∈ zG := zt_4 (i := 133) rfl rfl
theorem m_X11_264 : zMV "OrderGauge" 264 MX9_size 9 0 := ⟨⟨_, _, rfl⟩, g_950, g_951, g_952, g_111, g_953, ⟨by decide, by decide, by decide⟩, by decide⟩
theorem g_954 : Cond.methodLink "OrderGauge" 265 yX9_twoAt ∈ zG := zt_4 (i := 134) rfl rfl
theorem g_955 : Cond.instanceMethod yX9_twoAt ∈ zG := zt_4 (i := 135) rfl rfl
theorem g_956 : Cond.selects "OrderGauge$Search" yX9_twoAt yX9_twoAt ∈ zG := zt_4 (i := 136) rfl rfl
theorem g_957 : Cond.code yX9_twoAt cX9_twoAt 2 (some .int) ∈ zG := zt_4 (i := 137) rfl rfl
theorem m_X11_265 : zMV "OrderGauge" 265 MX9_twoAt 9 1 := ⟨⟨_, _, rfl⟩, g_954, g_955, g_956, g_111, g_957, ⟨by decide, by decide, by decide⟩, by decide⟩
theorem g_958 : Cond.methodLink "OrderGaugeLaw" 113 yX11_reversed ∈ zG := zt_4 (i := 138) rfl rfl
theorem g_959 : Cond.instanceMethod yX11_reversed ∈ zG := zt_4 (i := 139) rfl rfl
theorem g_960 : Cond.selects "OrderGauge" yX11_reversed yX11_reversed ∈ zG := zt_4 (i := 140) rfl rfl
theorem g_961 : Cond.code yX11_reversed cX11_reversed 4 (some .int) ∈ zG := zt_4 (i := 141) rfl rfl
theorem m_L_113 : zMV "OrderGaugeLaw" 113 MX11_reversed 10 2 := ⟨⟨_, _, rfl⟩, g_958, g_959, g_960, g_101, g_961, ⟨by decide, by decide, by decide⟩, by decide⟩
theorem g_962 : Cond.methodLink "OrderGauge" 268 yX9_turnedBy ∈ zG := zt_4 (i := 142) rfl rfl
theorem g_963 : Cond.instanceMethod yX9_turnedBy ∈ zG := zt_4 (i := 143) rfl rfl
theorem g_964 : Cond.selects "OrderGauge$Search" yX9_turnedBy yX9_turnedBy ∈ zG := zt_4 (i := 144) rfl rfl
theorem g_965 : Cond.code yX9_turnedBy cX9_turnedBy 5 (some .int) ∈ zG := zt_4 (i := 145) rfl rfl
theorem m_X11_268 : zMV "OrderGauge" 268 MX9_turnedBy 9 2 := ⟨⟨_, _, rfl⟩, g_962, g_963, g_964, g_111, g_965, ⟨by decide, by decide, by decide⟩, by decide⟩
theorem g_966 : Cond.methodLink "OrderGauge$Search" 53 yX5_rows ∈ zG := zt_4 (i := 146) rfl rfl
theorem m_X9_53 : zMV "OrderGauge$Search" 53 MX5_rows 5 0 := ⟨⟨_, _, rfl⟩, g_966, g_512, g_513, g_102, g_514, ⟨by decide, by decide, by decide⟩, by decide⟩
theorem g_967 : Cond.methodLink "OrderGauge$Search" 57 yX8_comesAhead ∈ zG := zt_4 (i := 147) rfl rfl
theorem g_968 : Cond.instanceMethod yX8_comesAhead ∈ zG := zt_4 (i := 148) rfl rfl
theorem g_969 : Cond.selects "OrderGauge$Rows" yX8_comesAhead yX8_comesAhead ∈ zG := zt_4 (i := 149) rfl rfl
theorem g_970 : Cond.code yX8_comesAhead cX8_comesAhead 5 (some .boolean) ∈ zG := zt_4 (i := 150) rfl rfl
theorem m_X9_57 : zMV "OrderGauge$Search" 57 MX8_comesAhead 8 4 := ⟨⟨_, _, rfl⟩, g_967, g_968, g_969, g_103, g_970, ⟨by decide, by decide, by decide⟩, by decide⟩
theorem g_971 : Cond.methodLink "OrderGauge$Rows" 27 yX8_placeOf ∈ zG := zt_4 (i := 151) rfl rfl
theorem g_972 : Cond.instanceMethod yX8_placeOf ∈ zG := zt_4 (i := 152) rfl rfl
theorem g_973 : Cond.selects "OrderGauge$Rows" yX8_placeOf yX8_placeOf ∈ zG := zt_4 (i := 153) rfl rfl
theorem g_974 : Cond.code yX8_placeOf cX8_placeOf 5 (some .int) ∈ zG := zt_4 (i := 154) rfl rfl
theorem m_X8_27 : zMV "OrderGauge$Rows" 27 MX8_placeOf 8 3 := ⟨⟨_, _, rfl⟩, g_971, g_972, g_973, g_103, g_974, ⟨by decide, by decide, by decide⟩, by decide⟩
theorem g_975 : Cond.methodLink "OrderGaugeLaw" 117 yX11_rowsAre ∈ zG := zt_4 (i := 155) rfl rfl
theorem g_976 : Cond.instanceMethod yX11_rowsAre ∈ zG := zt_4 (i := 156) rfl rfl
theorem g_977 : Cond.selects "OrderGauge" yX11_rowsAre yX11_rowsAre ∈ zG := zt_4 (i := 157) rfl rfl
theorem g_978 : Cond.code yX11_rowsAre cX11_rowsAre 4 (some .int) ∈ zG := zt_4 (i := 158) rfl rfl
theorem m_L_117 : zMV "OrderGaugeLaw" 117 MX11_rowsAre 10 2 := ⟨⟨_, _, rfl⟩, g_975, g_976, g_977, g_101, g_978, ⟨by decide, by decide, by decide⟩, by decide⟩
theorem g_979 : Cond.methodLink "OrderGauge" 271 yX5_allRowsAreLines ∈ zG := zt_4 (i := 159) rfl rfl
theorem g_980 : Cond.instanceMethod yX5_allRowsAreLines ∈ zG := zt_4 (i := 160) rfl rfl
theorem g_981 : Cond.selects "OrderGauge$Order" yX5_allRowsAreLines yX5_allRowsAreLines ∈ zG := zt_4 (i := 161) rfl rfl
theorem g_982 : Cond.code yX5_allRowsAreLines cX5_allRowsAreLines 5 (some .boolean) ∈ zG := zt_4 (i := 162) rfl rfl
theorem m_X11_271 : zMV "OrderGauge" 271 MX5_allRowsAreLines 5 0 := ⟨⟨_, _, rfl⟩, g_979, g_980, g_981, g_102, g_982, ⟨by decide, by decide, by decide⟩, by decide⟩
theorem g_983 : Cond.methodLink "OrderGauge$Order" 94 yX8_size ∈ zG := zt_4 (i := 163) rfl rfl
theorem m_X5_94 : zMV "OrderGauge$Order" 94 MX8_size 8 0 := ⟨⟨_, _, rfl⟩, g_983, g_516, g_517, g_103, g_518, ⟨by decide, by decide, by decide⟩, by decide⟩
theorem g_984 : Cond.methodLink "OrderGauge$Order" 96 yX5_canFollow ∈ zG := zt_4 (i := 164) rfl rfl
theorem m_X5_96 : zMV "OrderGauge$Order" 96 MX5_canFollow 5 2 := ⟨⟨_, _, rfl⟩, g_984, g_792, g_793, g_102, g_794, ⟨by decide, by decide, by decide⟩, by decide⟩
theorem g_985 : Cond.methodLink "OrderGauge" 275 yX5_rowsRealize ∈ zG := zt_4 (i := 165) rfl rfl
theorem g_986 : Cond.instanceMethod yX5_rowsRealize ∈ zG := zt_4 (i := 166) rfl rfl
theorem g_987 : Cond.selects "OrderGauge$Order" yX5_rowsRealize yX5_rowsRealize ∈ zG := zt_4 (i := 167) rfl rfl
theorem g_988 : Cond.code yX5_rowsRealize cX5_rowsRealize 2 (some .boolean) ∈ zG := zt_4 (i := 168) rfl rfl
theorem m_X11_275 : zMV "OrderGauge" 275 MX5_rowsRealize 5 0 := ⟨⟨_, _, rfl⟩, g_985, g_986, g_987, g_102, g_988, ⟨by decide, by decide, by decide⟩, by decide⟩
theorem g_989 : Cond.methodLink "OrderGauge$Order" 99 yX5_allRowsAreLines ∈ zG := zt_4 (i := 169) rfl rfl
theorem m_X5_99 : zMV "OrderGauge$Order" 99 MX5_allRowsAreLines 5 0 := ⟨⟨_, _, rfl⟩, g_989, g_980, g_981, g_102, g_982, ⟨by decide, by decide, by decide⟩, by decide⟩
theorem g_990 : Cond.methodLink "OrderGauge$Order" 103 yX5_alwaysAheadOf ∈ zG := zt_4 (i := 170) rfl rfl
theorem g_991 : Cond.instanceMethod yX5_alwaysAheadOf ∈ zG := zt_4 (i := 171) rfl rfl
theorem g_992 : Cond.selects "OrderGauge$Order" yX5_alwaysAheadOf yX5_alwaysAheadOf ∈ zG := zt_4 (i := 172) rfl rfl
theorem g_993 : Cond.code yX5_alwaysAheadOf cX5_alwaysAheadOf 5 (some .int) ∈ zG := zt_4 (i := 173) rfl rfl
theorem m_X5_103 : zMV "OrderGauge$Order" 103 MX5_alwaysAheadOf 5 1 := ⟨⟨_, _, rfl⟩, g_990, g_991, g_992, g_102, g_993, ⟨by decide, by decide, by decide⟩, by decide⟩
theorem g_994 : Cond.methodLink "OrderGauge$Order" 109 yX8_comesAhead ∈ zG := zt_4 (i := 174) rfl rfl
theorem m_X5_109 : zMV "OrderGauge$Order" 109 MX8_comesAhead 8 4 := ⟨⟨_, _, rfl⟩, g_994, g_968, g_969, g_103, g_970, ⟨by decide, by decide, by decide⟩, by decide⟩
theorem g_995 : Cond.methodLink "OrderGauge$Order" 106 yX5_freeOf ∈ zG := zt_4 (i := 175) rfl rfl
theorem m_X5_106 : zMV "OrderGauge$Order" 106 MX5_freeOf 5 1 := ⟨⟨_, _, rfl⟩, g_995, g_693, g_694, g_102, g_695, ⟨by decide, by decide, by decide⟩, by decide⟩
theorem g_996 : Cond.methodLink "OrderGauge" 278 yX8_allUnlike ∈ zG := zt_4 (i := 176) rfl rfl
theorem g_997 : Cond.instanceMethod yX8_allUnlike ∈ zG := zt_4 (i := 177) rfl rfl
theorem g_998 : Cond.selects "OrderGauge$Rows" yX8_allUnlike yX8_allUnlike ∈ zG := zt_4 (i := 178) rfl rfl
theorem g_999 : Cond.code yX8_allUnlike cX8_allUnlike 4 (some .boolean) ∈ zG := zt_4 (i := 179) rfl rfl
theorem m_X11_278 : zMV "OrderGauge" 278 MX8_allUnlike 8 1 := ⟨⟨_, _, rfl⟩, g_996, g_997, g_998, g_103, g_999, ⟨by decide, by decide, by decide⟩, by decide⟩
theorem g_1000 : Cond.methodLink "OrderGaugeLaw" 121 yX11_ahead ∈ zG := zt_4 (i := 180) rfl rfl
theorem g_1001 : Cond.instanceMethod yX11_ahead ∈ zG := zt_4 (i := 181) rfl rfl
theorem g_1002 : Cond.selects "OrderGauge" yX11_ahead yX11_ahead ∈ zG := zt_4 (i := 182) rfl rfl
theorem g_1003 : Cond.code yX11_ahead cX11_ahead 4 (some .int) ∈ zG := zt_4 (i := 183) rfl rfl
theorem m_L_121 : zMV "OrderGaugeLaw" 121 MX11_ahead 10 2 := ⟨⟨_, _, rfl⟩, g_1000, g_1001, g_1002, g_101, g_1003, ⟨by decide, by decide, by decide⟩, by decide⟩
theorem g_1004 : Cond.methodLink "OrderGauge" 281 yX5_alwaysAheadOf ∈ zG := zt_4 (i := 184) rfl rfl
theorem m_X11_281 : zMV "OrderGauge" 281 MX5_alwaysAheadOf 5 1 := ⟨⟨_, _, rfl⟩, g_1004, g_991, g_992, g_102, g_993, ⟨by decide, by decide, by decide⟩, by decide⟩
theorem g_1005 : Cond.methodLink "OrderGaugeLaw" 125 yX11_realizes ∈ zG := zt_4 (i := 185) rfl rfl
theorem g_1006 : Cond.instanceMethod yX11_realizes ∈ zG := zt_4 (i := 186) rfl rfl
theorem g_1007 : Cond.selects "OrderGauge" yX11_realizes yX11_realizes ∈ zG := zt_4 (i := 187) rfl rfl
theorem g_1008 : Cond.code yX11_realizes cX11_realizes 6 (some .int) ∈ zG := zt_4 (i := 188) rfl rfl
theorem m_L_125 : zMV "OrderGaugeLaw" 125 MX11_realizes 10 3 := ⟨⟨_, _, rfl⟩, g_1005, g_1006, g_1007, g_101, g_1008, ⟨by decide, by decide, by decide⟩, by decide⟩
theorem g_1009 : Cond.methodLink "OrderGauge" 284 yX11_areTries ∈ zG := zt_4 (i := 189) rfl rfl
theorem g_1010 : Cond.static yX11_areTries ∈ zG := zt_4 (i := 190) rfl rfl
theorem g_1011 : Cond.code yX11_areTries cX11_areTries 1 (some .boolean) ∈ zG := zt_4 (i := 191) rfl rfl
theorem m_X11_284 : zMS "OrderGauge" 284 MX11_areTries 1 := ⟨g_1009, g_1010, g_101, g_1011, ⟨by decide, by decide, by decide⟩, by decide⟩
theorem g_1013 : Cond.methodLink "OrderGauge" 287 yX9_run ∈ zG := zt_4 (i := 193) rfl rfl
theorem g_1014 : Cond.instanceMethod yX9_run ∈ zG := zt_4 (i := 194) rfl rfl
theorem g_1015 : Cond.selects "OrderGauge$Search" yX9_run yX9_run ∈ zG := zt_4 (i := 195) rfl rfl
theorem g_1016 : Cond.code yX9_run cX9_run 8 (some .int) ∈ zG := zt_4 (i := 196) rfl rfl
theorem m_X11_287 : zMV "OrderGauge" 287 MX9_run 9 3 := ⟨⟨_, _, rfl⟩, g_1013, g_1014, g_1015, g_111, g_1016, ⟨by decide, by decide, by decide⟩, by decide⟩
theorem g_1017 : Cond.methodLink "OrderGauge$Search" 63 yX9_collect ∈ zG := zt_4 (i := 197) rfl rfl
theorem m_X9_63 : zMV "OrderGauge$Search" 63 MX9_collect 9 1 := ⟨⟨_, _, rfl⟩, g_1017, g_940, g_941, g_111, g_942, ⟨by decide, by decide, by decide⟩, by decide⟩
theorem g_1018 : Cond.methodLink "OrderGauge$Search" 67 yX9_startPlaces ∈ zG := zt_4 (i := 198) rfl rfl
theorem g_1020 : Cond.instanceMethod yX9_startPlaces ∈ zG := zt_4 (i := 200) rfl rfl
theorem g_27 : Cond.selects "OrderGauge$Search" yX9_startPlaces yX9_startPlaces ∈ zG := zG_mem 27 rfl rfl
theorem g_1021 : Cond.code yX9_startPlaces cX9_startPlaces 4 none ∈ zG := zt_4 (i := 201) rfl rfl
theorem m_X9_67 : zMV "OrderGauge$Search" 67 MX9_startPlaces 9 1 := ⟨⟨_, _, rfl⟩, g_1018, g_1020, g_27, g_111, g_1021, ⟨by decide, by decide, by decide⟩, by decide⟩
theorem g_1022 : Cond.methodLink "OrderGauge$Search" 70 yX9_takeOut ∈ zG := zt_4 (i := 202) rfl rfl
theorem g_1024 : Cond.instanceMethod yX9_takeOut ∈ zG := zt_4 (i := 204) rfl rfl
theorem g_28 : Cond.selects "OrderGauge$Search" yX9_takeOut yX9_takeOut ∈ zG := zG_mem 28 rfl rfl
theorem g_1025 : Cond.code yX9_takeOut cX9_takeOut 4 none ∈ zG := zt_4 (i := 205) rfl rfl
theorem m_X9_70 : zMV "OrderGauge$Search" 70 MX9_takeOut 9 1 := ⟨⟨_, _, rfl⟩, g_1022, g_1024, g_28, g_111, g_1025, ⟨by decide, by decide, by decide⟩, by decide⟩
theorem g_1026 : Cond.methodLink "OrderGauge$Search" 74 yX9_canStand ∈ zG := zt_4 (i := 206) rfl rfl
theorem g_1028 : Cond.instanceMethod yX9_canStand ∈ zG := zt_4 (i := 208) rfl rfl
theorem g_29 : Cond.selects "OrderGauge$Search" yX9_canStand yX9_canStand ∈ zG := zG_mem 29 rfl rfl
theorem g_1029 : Cond.code yX9_canStand cX9_canStand 3 (some .boolean) ∈ zG := zt_4 (i := 209) rfl rfl
theorem m_X9_74 : zMV "OrderGauge$Search" 74 MX9_canStand 9 1 := ⟨⟨_, _, rfl⟩, g_1026, g_1028, g_29, g_111, g_1029, ⟨by decide, by decide, by decide⟩, by decide⟩
theorem g_1030 : Cond.methodLink "OrderGauge$Search" 78 yX9_putIn ∈ zG := zt_4 (i := 210) rfl rfl
theorem g_1032 : Cond.instanceMethod yX9_putIn ∈ zG := zt_4 (i := 212) rfl rfl
theorem g_30 : Cond.selects "OrderGauge$Search" yX9_putIn yX9_putIn ∈ zG := zG_mem 30 rfl rfl
theorem g_1033 : Cond.code yX9_putIn cX9_putIn 6 none ∈ zG := zt_4 (i := 213) rfl rfl
theorem m_X9_78 : zMV "OrderGauge$Search" 78 MX9_putIn 9 2 := ⟨⟨_, _, rfl⟩, g_1030, g_1032, g_30, g_111, g_1033, ⟨by decide, by decide, by decide⟩, by decide⟩
theorem g_1034 : Cond.methodLink "OrderGauge$Search" 82 yJ9_max_7cf53 ∈ zG := zt_4 (i := 214) rfl rfl
theorem g_1035 : Cond.methodLink "OrderGauge" 293 yX9_writeRows ∈ zG := zt_4 (i := 215) rfl rfl
theorem g_1036 : Cond.instanceMethod yX9_writeRows ∈ zG := zt_4 (i := 216) rfl rfl
theorem g_1037 : Cond.selects "OrderGauge$Search" yX9_writeRows yX9_writeRows ∈ zG := zt_4 (i := 217) rfl rfl
theorem g_1038 : Cond.code yX9_writeRows cX9_writeRows 9 none ∈ zG := zt_4 (i := 218) rfl rfl
theorem m_X11_293 : zMV "OrderGauge" 293 MX9_writeRows 9 3 := ⟨⟨_, _, rfl⟩, g_1035, g_1036, g_1037, g_111, g_1038, ⟨by decide, by decide, by decide⟩, by decide⟩
theorem g_1039 : Cond.methodLink "OrderGauge$Search" 88 yX8_clear ∈ zG := zt_4 (i := 219) rfl rfl
theorem m_X9_88 : zMV "OrderGauge$Search" 88 MX8_clear 8 0 := ⟨⟨_, _, rfl⟩, g_1039, g_460, g_461, g_103, g_462, ⟨by decide, by decide, by decide⟩, by decide⟩
theorem g_1040 : Cond.methodLink "OrderGauge$Search" 91 yX8_open ∈ zG := zt_4 (i := 220) rfl rfl
theorem m_X9_91 : zMV "OrderGauge$Search" 91 MX8_open 8 0 := ⟨⟨_, _, rfl⟩, g_1040, g_532, g_533, g_103, g_534, ⟨by decide, by decide, by decide⟩, by decide⟩
theorem g_1041 : Cond.methodLink "OrderGauge$Search" 94 yX5_all ∈ zG := zt_4 (i := 221) rfl rfl
theorem m_X9_94 : zMV "OrderGauge$Search" 94 MX5_all 5 0 := ⟨⟨_, _, rfl⟩, g_1041, g_651, g_652, g_102, g_653, ⟨by decide, by decide, by decide⟩, by decide⟩
theorem g_1042 : Cond.methodLink "OrderGauge$Search" 97 yX9_firstOf ∈ zG := zt_4 (i := 222) rfl rfl
theorem g_1044 : Cond.instanceMethod yX9_firstOf ∈ zG := zt_4 (i := 224) rfl rfl
theorem g_31 : Cond.selects "OrderGauge$Search" yX9_firstOf yX9_firstOf ∈ zG := zG_mem 31 rfl rfl
theorem g_1045 : Cond.code yX9_firstOf cX9_firstOf 6 (some .int) ∈ zG := zt_4 (i := 225) rfl rfl
theorem m_X9_97 : zMV "OrderGauge$Search" 97 MX9_firstOf 9 3 := ⟨⟨_, _, rfl⟩, g_1042, g_1044, g_31, g_111, g_1045, ⟨by decide, by decide, by decide⟩, by decide⟩
theorem g_1046 : Cond.methodLink "OrderGauge$Search" 101 yX8_put ∈ zG := zt_4 (i := 226) rfl rfl
theorem m_X9_101 : zMV "OrderGauge$Search" 101 MX8_put 8 3 := ⟨⟨_, _, rfl⟩, g_1046, g_536, g_537, g_103, g_538, ⟨by decide, by decide, by decide⟩, by decide⟩
theorem g_1047 : Cond.methodLink "OrderGaugeLaw" 129 yX11_dimension ∈ zG := zt_4 (i := 227) rfl rfl
theorem g_1048 : Cond.instanceMethod yX11_dimension ∈ zG := zt_4 (i := 228) rfl rfl
theorem g_1049 : Cond.selects "OrderGauge" yX11_dimension yX11_dimension ∈ zG := zt_4 (i := 229) rfl rfl
theorem g_1050 : Cond.code yX11_dimension cX11_dimension 6 (some .int) ∈ zG := zt_4 (i := 230) rfl rfl
theorem m_L_129 : zMV "OrderGaugeLaw" 129 MX11_dimension 10 2 := ⟨⟨_, _, rfl⟩, g_1047, g_1048, g_1049, g_101, g_1050, ⟨by decide, by decide, by decide⟩, by decide⟩
theorem g_1051 : Cond.methodLink "OrderGaugeLaw" 133 yX11_row ∈ zG := zt_4 (i := 231) rfl rfl
theorem g_1052 : Cond.instanceMethod yX11_row ∈ zG := zt_4 (i := 232) rfl rfl
theorem g_1053 : Cond.selects "OrderGauge" yX11_row yX11_row ∈ zG := zt_4 (i := 233) rfl rfl
theorem g_1054 : Cond.code yX11_row cX11_row 5 (some .int) ∈ zG := zt_4 (i := 234) rfl rfl
theorem m_L_133 : zMV "OrderGaugeLaw" 133 MX11_row 10 3 := ⟨⟨_, _, rfl⟩, g_1051, g_1052, g_1053, g_101, g_1054, ⟨by decide, by decide, by decide⟩, by decide⟩
theorem g_1055 : Cond.methodLink "OrderGauge" 297 yX8_thingAt ∈ zG := zt_4 (i := 235) rfl rfl
theorem m_X11_297 : zMV "OrderGauge" 297 MX8_thingAt 8 2 := ⟨⟨_, _, rfl⟩, g_1055, g_559, g_560, g_103, g_561, ⟨by decide, by decide, by decide⟩, by decide⟩
theorem g_1056 : Cond.methodLink "OrderGaugeLaw" 137 yX11_adds ∈ zG := zt_4 (i := 236) rfl rfl
theorem g_1057 : Cond.instanceMethod yX11_adds ∈ zG := zt_4 (i := 237) rfl rfl
theorem g_1058 : Cond.selects "OrderGauge" yX11_adds yX11_adds ∈ zG := zt_4 (i := 238) rfl rfl
theorem g_1059 : Cond.code yX11_adds cX11_adds 6 (some .int) ∈ zG := zt_4 (i := 239) rfl rfl
theorem m_L_137 : zMV "OrderGaugeLaw" 137 MX11_adds 10 2 := ⟨⟨_, _, rfl⟩, g_1056, g_1057, g_1058, g_101, g_1059, ⟨by decide, by decide, by decide⟩, by decide⟩
theorem g_1060 : Cond.methodLink "OrderGauge" 299 yX8_open ∈ zG := zt_5 (i := 0) rfl rfl
theorem m_X11_299 : zMV "OrderGauge" 299 MX8_open 8 0 := ⟨⟨_, _, rfl⟩, g_1060, g_532, g_533, g_103, g_534, ⟨by decide, by decide, by decide⟩, by decide⟩
theorem g_1061 : Cond.methodLink "OrderGauge" 302 yX8_put ∈ zG := zt_5 (i := 1) rfl rfl
theorem m_X11_302 : zMV "OrderGauge" 302 MX8_put 8 3 := ⟨⟨_, _, rfl⟩, g_1061, g_536, g_537, g_103, g_538, ⟨by decide, by decide, by decide⟩, by decide⟩
theorem g_1062 : Cond.methodLink "OrderGaugeLaw" 141 yX11_takes ∈ zG := zt_5 (i := 2) rfl rfl
theorem g_1063 : Cond.instanceMethod yX11_takes ∈ zG := zt_5 (i := 3) rfl rfl
theorem g_1064 : Cond.selects "OrderGauge" yX11_takes yX11_takes ∈ zG := zt_5 (i := 4) rfl rfl
theorem g_1065 : Cond.code yX11_takes cX11_takes 4 (some .int) ∈ zG := zt_5 (i := 5) rfl rfl
theorem m_L_141 : zMV "OrderGaugeLaw" 141 MX11_takes 10 2 := ⟨⟨_, _, rfl⟩, g_1062, g_1063, g_1064, g_101, g_1065, ⟨by decide, by decide, by decide⟩, by decide⟩
theorem g_1066 : Cond.methodLink "OrderGauge" 306 yX8_remove ∈ zG := zt_5 (i := 6) rfl rfl
theorem g_1067 : Cond.instanceMethod yX8_remove ∈ zG := zt_5 (i := 7) rfl rfl
theorem g_1068 : Cond.selects "OrderGauge$Rows" yX8_remove yX8_remove ∈ zG := zt_5 (i := 8) rfl rfl
theorem g_1069 : Cond.code yX8_remove cX8_remove 4 none ∈ zG := zt_5 (i := 9) rfl rfl
theorem m_X11_306 : zMV "OrderGauge" 306 MX8_remove 8 1 := ⟨⟨_, _, rfl⟩, g_1066, g_1067, g_1068, g_103, g_1069, ⟨by decide, by decide, by decide⟩, by decide⟩
theorem g_1070 : Cond.methodLink "OrderGauge$Rows" 41 yX8_has ∈ zG := zt_5 (i := 10) rfl rfl
theorem m_X8_41 : zMV "OrderGauge$Rows" 41 MX8_has 8 1 := ⟨⟨_, _, rfl⟩, g_1070, g_821, g_822, g_103, g_823, ⟨by decide, by decide, by decide⟩, by decide⟩
theorem g_1071 : Cond.methodLink "OrderGauge$Rows" 45 yX8_put ∈ zG := zt_5 (i := 11) rfl rfl
theorem m_X8_45 : zMV "OrderGauge$Rows" 45 MX8_put 8 3 := ⟨⟨_, _, rfl⟩, g_1071, g_536, g_537, g_103, g_538, ⟨by decide, by decide, by decide⟩, by decide⟩
theorem g_1072 : Cond.methodLink "OrderGaugeLaw" 145 yX11_puts ∈ zG := zt_5 (i := 12) rfl rfl
theorem g_1073 : Cond.instanceMethod yX11_puts ∈ zG := zt_5 (i := 13) rfl rfl
theorem g_1074 : Cond.selects "OrderGauge" yX11_puts yX11_puts ∈ zG := zt_5 (i := 14) rfl rfl
theorem g_1075 : Cond.code yX11_puts cX11_puts 6 (some .int) ∈ zG := zt_5 (i := 15) rfl rfl
theorem m_L_145 : zMV "OrderGaugeLaw" 145 MX11_puts 10 3 := ⟨⟨_, _, rfl⟩, g_1072, g_1073, g_1074, g_101, g_1075, ⟨by decide, by decide, by decide⟩, by decide⟩
theorem g_1076 : Cond.methodLink "OrderGauge" 309 yX5_under ∈ zG := zt_5 (i := 16) rfl rfl
theorem m_X11_309 : zMV "OrderGauge" 309 MX5_under 5 2 := ⟨⟨_, _, rfl⟩, g_1076, g_484, g_485, g_102, g_486, ⟨by decide, by decide, by decide⟩, by decide⟩
theorem g_1077 : Cond.methodLink "OrderGauge" 313 yX5_link ∈ zG := zt_5 (i := 17) rfl rfl
theorem m_X11_313 : zMV "OrderGauge" 313 MX5_link 5 2 := ⟨⟨_, _, rfl⟩, g_1077, g_489, g_490, g_102, g_491, ⟨by decide, by decide, by decide⟩, by decide⟩
theorem g_1078 : Cond.methodLink "OrderGaugeLaw" 149 yX11_cuts ∈ zG := zt_5 (i := 18) rfl rfl
theorem g_1079 : Cond.instanceMethod yX11_cuts ∈ zG := zt_5 (i := 19) rfl rfl
theorem g_1080 : Cond.selects "OrderGauge" yX11_cuts yX11_cuts ∈ zG := zt_5 (i := 20) rfl rfl
theorem g_1081 : Cond.code yX11_cuts cX11_cuts 5 (some .int) ∈ zG := zt_5 (i := 21) rfl rfl
theorem m_L_149 : zMV "OrderGaugeLaw" 149 MX11_cuts 10 3 := ⟨⟨_, _, rfl⟩, g_1078, g_1079, g_1080, g_101, g_1081, ⟨by decide, by decide, by decide⟩, by decide⟩
theorem g_1082 : Cond.methodLink "OrderGauge" 316 yX5_unlink ∈ zG := zt_5 (i := 22) rfl rfl
theorem g_1083 : Cond.instanceMethod yX5_unlink ∈ zG := zt_5 (i := 23) rfl rfl
theorem g_1084 : Cond.selects "OrderGauge$Order" yX5_unlink yX5_unlink ∈ zG := zt_5 (i := 24) rfl rfl
theorem g_1085 : Cond.code yX5_unlink cX5_unlink 3 none ∈ zG := zt_5 (i := 25) rfl rfl
theorem m_X11_316 : zMV "OrderGauge" 316 MX5_unlink 5 2 := ⟨⟨_, _, rfl⟩, g_1082, g_1083, g_1084, g_102, g_1085, ⟨by decide, by decide, by decide⟩, by decide⟩
theorem g_1086 : Cond.methodLink "OrderGaugeLaw" 153 yX11_flip ∈ zG := zt_5 (i := 26) rfl rfl
theorem g_1087 : Cond.instanceMethod yX11_flip ∈ zG := zt_5 (i := 27) rfl rfl
theorem g_1088 : Cond.selects "OrderGauge" yX11_flip yX11_flip ∈ zG := zt_5 (i := 28) rfl rfl
theorem g_1089 : Cond.code yX11_flip cX11_flip 3 (some .int) ∈ zG := zt_5 (i := 29) rfl rfl
theorem m_L_153 : zMV "OrderGaugeLaw" 153 MX11_flip 10 1 := ⟨⟨_, _, rfl⟩, g_1086, g_1087, g_1088, g_101, g_1089, ⟨by decide, by decide, by decide⟩, by decide⟩
theorem g_1090 : Cond.methodLink "OrderGauge" 320 yX5_turnOver ∈ zG := zt_5 (i := 30) rfl rfl
theorem g_1091 : Cond.instanceMethod yX5_turnOver ∈ zG := zt_5 (i := 31) rfl rfl
theorem g_1092 : Cond.selects "OrderGauge$Order" yX5_turnOver yX5_turnOver ∈ zG := zt_5 (i := 32) rfl rfl
theorem g_1093 : Cond.code yX5_turnOver cX5_turnOver 3 none ∈ zG := zt_5 (i := 33) rfl rfl
theorem m_X11_320 : zMV "OrderGauge" 320 MX5_turnOver 5 0 := ⟨⟨_, _, rfl⟩, g_1090, g_1091, g_1092, g_102, g_1093, ⟨by decide, by decide, by decide⟩, by decide⟩
theorem g_1094 : Cond.methodLink "OrderGauge$Order" 76 yX8_turnOver ∈ zG := zt_5 (i := 34) rfl rfl
theorem g_1095 : Cond.instanceMethod yX8_turnOver ∈ zG := zt_5 (i := 35) rfl rfl
theorem g_1096 : Cond.selects "OrderGauge$Rows" yX8_turnOver yX8_turnOver ∈ zG := zt_5 (i := 36) rfl rfl
theorem g_1097 : Cond.code yX8_turnOver cX8_turnOver 6 none ∈ zG := zt_5 (i := 37) rfl rfl
theorem m_X5_76 : zMV "OrderGauge$Order" 76 MX8_turnOver 8 1 := ⟨⟨_, _, rfl⟩, g_1094, g_1095, g_1096, g_103, g_1097, ⟨by decide, by decide, by decide⟩, by decide⟩
theorem g_1098 : Cond.methodLink "OrderGaugeLaw" 157 yX11_without ∈ zG := zt_5 (i := 38) rfl rfl
theorem g_1099 : Cond.instanceMethod yX11_without ∈ zG := zt_5 (i := 39) rfl rfl
theorem g_1100 : Cond.selects "OrderGauge" yX11_without yX11_without ∈ zG := zt_5 (i := 40) rfl rfl
theorem g_1101 : Cond.code yX11_without cX11_without 4 (some .int) ∈ zG := zt_5 (i := 41) rfl rfl
theorem m_L_157 : zMV "OrderGaugeLaw" 157 MX11_without 10 2 := ⟨⟨_, _, rfl⟩, g_1098, g_1099, g_1100, g_101, g_1101, ⟨by decide, by decide, by decide⟩, by decide⟩
theorem g_1102 : Cond.methodLink "OrderGauge" 323 yX5_leaveOut ∈ zG := zt_5 (i := 42) rfl rfl
theorem g_1103 : Cond.instanceMethod yX5_leaveOut ∈ zG := zt_5 (i := 43) rfl rfl
theorem g_1104 : Cond.selects "OrderGauge$Order" yX5_leaveOut yX5_leaveOut ∈ zG := zt_5 (i := 44) rfl rfl
theorem g_1105 : Cond.code yX5_leaveOut cX5_leaveOut 4 none ∈ zG := zt_5 (i := 45) rfl rfl
theorem m_X11_323 : zMV "OrderGauge" 323 MX5_leaveOut 5 1 := ⟨⟨_, _, rfl⟩, g_1102, g_1103, g_1104, g_102, g_1105, ⟨by decide, by decide, by decide⟩, by decide⟩
theorem g_1106 : Cond.methodLink "OrderGauge$Order" 80 yX8_leaveOut ∈ zG := zt_5 (i := 46) rfl rfl
theorem g_1107 : Cond.instanceMethod yX8_leaveOut ∈ zG := zt_5 (i := 47) rfl rfl
theorem g_1108 : Cond.selects "OrderGauge$Rows" yX8_leaveOut yX8_leaveOut ∈ zG := zt_5 (i := 48) rfl rfl
theorem g_1109 : Cond.code yX8_leaveOut cX8_leaveOut 7 none ∈ zG := zt_5 (i := 49) rfl rfl
theorem m_X5_80 : zMV "OrderGauge$Order" 80 MX8_leaveOut 8 2 := ⟨⟨_, _, rfl⟩, g_1106, g_1107, g_1108, g_103, g_1109, ⟨by decide, by decide, by decide⟩, by decide⟩
theorem g_1110 : Cond.methodLink "OrderGauge$Order" 84 yX5_closeGap ∈ zG := zt_5 (i := 50) rfl rfl
theorem g_1111 : Cond.static yX5_closeGap ∈ zG := zt_5 (i := 51) rfl rfl
theorem g_1112 : Cond.code yX5_closeGap cX5_closeGap 3 (some .int) ∈ zG := zt_5 (i := 52) rfl rfl
theorem m_X5_84 : zMS "OrderGauge$Order" 84 MX5_closeGap 2 := ⟨g_1110, g_1111, g_102, g_1112, ⟨by decide, by decide, by decide⟩, by decide⟩
theorem g_1113 : Cond.methodLink "OrderGaugeLaw" 161 yX11_joins ∈ zG := zt_5 (i := 53) rfl rfl
theorem g_1114 : Cond.instanceMethod yX11_joins ∈ zG := zt_5 (i := 54) rfl rfl
theorem g_1115 : Cond.selects "OrderGauge" yX11_joins yX11_joins ∈ zG := zt_5 (i := 55) rfl rfl
theorem g_1116 : Cond.code yX11_joins cX11_joins 7 (some .int) ∈ zG := zt_5 (i := 56) rfl rfl
theorem m_L_161 : zMV "OrderGaugeLaw" 161 MX11_joins 10 4 := ⟨⟨_, _, rfl⟩, g_1113, g_1114, g_1115, g_101, g_1116, ⟨by decide, by decide, by decide⟩, by decide⟩
theorem g_1117 : Cond.methodLink "OrderGauge" 326 yX5_unite ∈ zG := zt_5 (i := 57) rfl rfl
theorem g_1118 : Cond.instanceMethod yX5_unite ∈ zG := zt_5 (i := 58) rfl rfl
theorem g_1119 : Cond.selects "OrderGauge$Order" yX5_unite yX5_unite ∈ zG := zt_5 (i := 59) rfl rfl
theorem g_1120 : Cond.code yX5_unite cX5_unite 6 none ∈ zG := zt_5 (i := 60) rfl rfl
theorem m_X11_326 : zMV "OrderGauge" 326 MX5_unite 5 3 := ⟨⟨_, _, rfl⟩, g_1117, g_1118, g_1119, g_102, g_1120, ⟨by decide, by decide, by decide⟩, by decide⟩
theorem g_1121 : Cond.methodLink "OrderGauge$Order" 88 yX5_begin ∈ zG := zt_5 (i := 61) rfl rfl
theorem m_X5_88 : zMV "OrderGauge$Order" 88 MX5_begin 5 1 := ⟨⟨_, _, rfl⟩, g_1121, g_456, g_457, g_102, g_458, ⟨by decide, by decide, by decide⟩, by decide⟩
theorem g_1122 : Cond.methodLink "OrderGaugeLaw" 166 yX11_alike ∈ zG := zt_5 (i := 62) rfl rfl
theorem g_1123 : Cond.instanceMethod yX11_alike ∈ zG := zt_5 (i := 63) rfl rfl
theorem g_1124 : Cond.selects "OrderGauge" yX11_alike yX11_alike ∈ zG := zt_5 (i := 64) rfl rfl
theorem g_1125 : Cond.code yX11_alike cX11_alike 5 (some .int) ∈ zG := zt_5 (i := 65) rfl rfl
theorem m_L_166 : zMV "OrderGaugeLaw" 166 MX11_alike 10 2 := ⟨⟨_, _, rfl⟩, g_1122, g_1123, g_1124, g_101, g_1125, ⟨by decide, by decide, by decide⟩, by decide⟩
theorem g_1126 : Cond.methodLink "OrderGauge" 330 yX3_between ∈ zG := zt_5 (i := 66) rfl rfl
theorem g_1127 : Cond.instanceMethod yX3_between ∈ zG := zt_5 (i := 67) rfl rfl
theorem g_1128 : Cond.selects "OrderGauge$Likeness" yX3_between yX3_between ∈ zG := zt_5 (i := 68) rfl rfl
theorem g_112 : Cond.initialized "OrderGauge$Likeness" ∈ zG := zt_1 (i := 12) rfl rfl
theorem g_1129 : Cond.code yX3_between cX3_between 3 (some .boolean) ∈ zG := zt_5 (i := 69) rfl rfl
theorem m_X11_330 : zMV "OrderGauge" 330 MX3_between 3 2 := ⟨⟨_, _, rfl⟩, g_1126, g_1127, g_1128, g_112, g_1129, ⟨by decide, by decide, by decide⟩, by decide⟩
theorem g_1130 : Cond.methodLink "OrderGauge$Likeness" 15 yX5_size ∈ zG := zt_5 (i := 70) rfl rfl
theorem m_X3_15 : zMV "OrderGauge$Likeness" 15 MX5_size 5 0 := ⟨⟨_, _, rfl⟩, g_1130, g_524, g_525, g_102, g_526, ⟨by decide, by decide, by decide⟩, by decide⟩
theorem g_1131 : Cond.methodLink "OrderGauge$Likeness" 21 yX3_extend ∈ zG := zt_5 (i := 71) rfl rfl
theorem g_1132 : Cond.static yX3_extend ∈ zG := zt_5 (i := 72) rfl rfl
theorem g_1133 : Cond.code yX3_extend cX3_extend 6 (some .boolean) ∈ zG := zt_5 (i := 73) rfl rfl
theorem m_X3_21 : zMS "OrderGauge$Likeness" 21 MX3_extend 5 := ⟨g_1131, g_1132, g_112, g_1133, ⟨by decide, by decide, by decide⟩, by decide⟩
theorem g_1134 : Cond.methodLink "OrderGauge$Likeness" 32 yX5_has ∈ zG := zt_5 (i := 74) rfl rfl
theorem m_X3_32 : zMV "OrderGauge$Likeness" 32 MX5_has 5 1 := ⟨⟨_, _, rfl⟩, g_1134, g_480, g_481, g_102, g_482, ⟨by decide, by decide, by decide⟩, by decide⟩
theorem g_1135 : Cond.methodLink "OrderGauge$Likeness" 25 yX3_isName ∈ zG := zt_5 (i := 75) rfl rfl
theorem g_1136 : Cond.static yX3_isName ∈ zG := zt_5 (i := 76) rfl rfl
theorem g_1137 : Cond.code yX3_isName cX3_isName 6 (some .boolean) ∈ zG := zt_5 (i := 77) rfl rfl
theorem m_X3_25 : zMS "OrderGauge$Likeness" 25 MX3_isName 5 := ⟨g_1135, g_1136, g_112, g_1137, ⟨by decide, by decide, by decide⟩, by decide⟩
theorem g_1138 : Cond.methodLink "OrderGauge$Likeness" 36 yX5_belowOf ∈ zG := zt_5 (i := 78) rfl rfl
theorem m_X3_36 : zMV "OrderGauge$Likeness" 36 MX5_belowOf 5 1 := ⟨⟨_, _, rfl⟩, g_1138, g_624, g_625, g_102, g_626, ⟨by decide, by decide, by decide⟩, by decide⟩
theorem g_1139 : Cond.methodLink "OrderGauge$Likeness" 40 yJ6_bitCount_0f7a4 ∈ zG := zt_5 (i := 79) rfl rfl
theorem m_X3_40 : zMS "OrderGauge$Likeness" 40 MJ6_bitCount_0f7a4 1 := ⟨g_1139, g_497, g_118, g_498, ⟨by decide, by decide, by decide⟩, by decide⟩
theorem g_1140 : Cond.methodLink "OrderGauge$Likeness" 45 yX5_aboveOf ∈ zG := zt_5 (i := 80) rfl rfl
theorem m_X3_45 : zMV "OrderGauge$Likeness" 45 MX5_aboveOf 5 1 := ⟨⟨_, _, rfl⟩, g_1140, g_638, g_639, g_102, g_640, ⟨by decide, by decide, by decide⟩, by decide⟩
theorem g_1141 : Cond.methodLink "OrderGauge$Likeness" 48 yX5_under ∈ zG := zt_5 (i := 81) rfl rfl
theorem m_X3_48 : zMV "OrderGauge$Likeness" 48 MX5_under 5 2 := ⟨⟨_, _, rfl⟩, g_1141, g_484, g_485, g_102, g_486, ⟨by decide, by decide, by decide⟩, by decide⟩
theorem g_1142 : Cond.methodLink "OrderGaugeLaw" 170 yX11_selves ∈ zG := zt_5 (i := 82) rfl rfl
theorem g_1143 : Cond.instanceMethod yX11_selves ∈ zG := zt_5 (i := 83) rfl rfl
theorem g_1144 : Cond.selects "OrderGauge" yX11_selves yX11_selves ∈ zG := zt_5 (i := 84) rfl rfl
theorem g_1145 : Cond.code yX11_selves cX11_selves 3 (some .int) ∈ zG := zt_5 (i := 85) rfl rfl
theorem m_L_170 : zMV "OrderGaugeLaw" 170 MX11_selves 10 1 := ⟨⟨_, _, rfl⟩, g_1142, g_1143, g_1144, g_101, g_1145, ⟨by decide, by decide, by decide⟩, by decide⟩
theorem g_1146 : Cond.methodLink "OrderGauge" 334 yX3_waysOf ∈ zG := zt_5 (i := 86) rfl rfl
theorem g_1147 : Cond.instanceMethod yX3_waysOf ∈ zG := zt_5 (i := 87) rfl rfl
theorem g_1148 : Cond.selects "OrderGauge$Likeness" yX3_waysOf yX3_waysOf ∈ zG := zt_5 (i := 88) rfl rfl
theorem g_1149 : Cond.code yX3_waysOf cX3_waysOf 7 (some .int) ∈ zG := zt_5 (i := 89) rfl rfl
theorem m_X11_334 : zMV "OrderGauge" 334 MX3_waysOf 3 1 := ⟨⟨_, _, rfl⟩, g_1146, g_1147, g_1148, g_112, g_1149, ⟨by decide, by decide, by decide⟩, by decide⟩
theorem g_1151 : Cond.methodLink "OrderGaugeLaw" 174 yX11_drops ∈ zG := zt_5 (i := 91) rfl rfl
theorem g_1152 : Cond.instanceMethod yX11_drops ∈ zG := zt_5 (i := 92) rfl rfl
theorem g_1153 : Cond.selects "OrderGauge" yX11_drops yX11_drops ∈ zG := zt_5 (i := 93) rfl rfl
theorem g_1154 : Cond.code yX11_drops cX11_drops 3 (some .int) ∈ zG := zt_5 (i := 94) rfl rfl
theorem m_L_174 : zMV "OrderGaugeLaw" 174 MX11_drops 10 1 := ⟨⟨_, _, rfl⟩, g_1151, g_1152, g_1153, g_101, g_1154, ⟨by decide, by decide, by decide⟩, by decide⟩
theorem g_1155 : Cond.methodLink "OrderGauge" 337 yX5_begin ∈ zG := zt_5 (i := 95) rfl rfl
theorem m_X11_337 : zMV "OrderGauge" 337 MX5_begin 5 1 := ⟨⟨_, _, rfl⟩, g_1155, g_456, g_457, g_102, g_458, ⟨by decide, by decide, by decide⟩, by decide⟩
theorem g_1156 : Cond.methodLink "OrderGaugeLaw" 178 yX11_undo ∈ zG := zt_5 (i := 96) rfl rfl
theorem g_1157 : Cond.instanceMethod yX11_undo ∈ zG := zt_5 (i := 97) rfl rfl
theorem g_1158 : Cond.selects "OrderGauge" yX11_undo yX11_undo ∈ zG := zt_5 (i := 98) rfl rfl
theorem g_1159 : Cond.code yX11_undo cX11_undo 2 (some .int) ∈ zG := zt_5 (i := 99) rfl rfl
theorem m_L_178 : zMV "OrderGaugeLaw" 178 MX11_undo 10 0 := ⟨⟨_, _, rfl⟩, g_1156, g_1157, g_1158, g_101, g_1159, ⟨by decide, by decide, by decide⟩, by decide⟩
theorem g_1160 : Cond.methodLink "OrderGauge" 340 yX6_latestSlot ∈ zG := zt_5 (i := 100) rfl rfl
theorem g_1161 : Cond.instanceMethod yX6_latestSlot ∈ zG := zt_5 (i := 101) rfl rfl
theorem g_1162 : Cond.selects "OrderGauge$Past" yX6_latestSlot yX6_latestSlot ∈ zG := zt_5 (i := 102) rfl rfl
theorem g_1163 : Cond.code yX6_latestSlot cX6_latestSlot 1 (some .int) ∈ zG := zt_5 (i := 103) rfl rfl
theorem m_X11_340 : zMV "OrderGauge" 340 MX6_latestSlot 6 0 := ⟨⟨_, _, rfl⟩, g_1160, g_1161, g_1162, g_104, g_1163, ⟨by decide, by decide, by decide⟩, by decide⟩
theorem g_1164 : Cond.methodLink "OrderGauge$Past" 39 yX6_latest ∈ zG := zt_5 (i := 104) rfl rfl
theorem g_1166 : Cond.instanceMethod yX6_latest ∈ zG := zt_5 (i := 106) rfl rfl
theorem g_32 : Cond.selects "OrderGauge$Past" yX6_latest yX6_latest ∈ zG := zG_mem 32 rfl rfl
theorem g_1167 : Cond.code yX6_latest cX6_latest 1 (some .int) ∈ zG := zt_5 (i := 107) rfl rfl
theorem m_X6_39 : zMV "OrderGauge$Past" 39 MX6_latest 6 0 := ⟨⟨_, _, rfl⟩, g_1164, g_1166, g_32, g_104, g_1167, ⟨by decide, by decide, by decide⟩, by decide⟩
theorem g_1168 : Cond.methodLink "OrderGauge" 343 yX6_giveBack ∈ zG := zt_5 (i := 108) rfl rfl
theorem g_1169 : Cond.instanceMethod yX6_giveBack ∈ zG := zt_5 (i := 109) rfl rfl
theorem g_1170 : Cond.selects "OrderGauge$Past" yX6_giveBack yX6_giveBack ∈ zG := zt_5 (i := 110) rfl rfl
theorem g_1171 : Cond.code yX6_giveBack cX6_giveBack 2 none ∈ zG := zt_5 (i := 111) rfl rfl
theorem m_X11_343 : zMV "OrderGauge" 343 MX6_giveBack 6 1 := ⟨⟨_, _, rfl⟩, g_1168, g_1169, g_1170, g_104, g_1171, ⟨by decide, by decide, by decide⟩, by decide⟩
theorem g_1172 : Cond.methodLink "OrderGaugeLaw" 183 yX11_tell ∈ zG := zt_5 (i := 112) rfl rfl
theorem g_1173 : Cond.instanceMethod yX11_tell ∈ zG := zt_5 (i := 113) rfl rfl
theorem g_1174 : Cond.selects "OrderGauge" yX11_tell yX11_tell ∈ zG := zt_5 (i := 114) rfl rfl
theorem g_1175 : Cond.code yX11_tell cX11_tell 3 (some .int) ∈ zG := zt_5 (i := 115) rfl rfl
theorem m_L_183 : zMV "OrderGaugeLaw" 183 MX11_tell 10 1 := ⟨⟨_, _, rfl⟩, g_1172, g_1173, g_1174, g_101, g_1175, ⟨by decide, by decide, by decide⟩, by decide⟩
theorem g_1176 : Cond.methodLink "OrderGauge" 346 yX5_writeTo ∈ zG := zt_5 (i := 116) rfl rfl
theorem g_1177 : Cond.instanceMethod yX5_writeTo ∈ zG := zt_5 (i := 117) rfl rfl
theorem g_1178 : Cond.selects "OrderGauge$Order" yX5_writeTo yX5_writeTo ∈ zG := zt_5 (i := 118) rfl rfl
theorem g_1179 : Cond.code yX5_writeTo cX5_writeTo 6 none ∈ zG := zt_5 (i := 119) rfl rfl
theorem m_X11_346 : zMV "OrderGauge" 346 MX5_writeTo 5 1 := ⟨⟨_, _, rfl⟩, g_1176, g_1177, g_1178, g_102, g_1179, ⟨by decide, by decide, by decide⟩, by decide⟩
theorem g_1181 : Cond.methodLink "OrderGauge$Order" 115 yX0_putWord ∈ zG := zt_5 (i := 121) rfl rfl
theorem g_1182 : Cond.instanceMethod yX0_putWord ∈ zG := zt_5 (i := 122) rfl rfl
theorem g_1183 : Cond.selects "OrderGauge$Bytes" yX0_putWord yX0_putWord ∈ zG := zt_5 (i := 123) rfl rfl
theorem g_1184 : Cond.code yX0_putWord cX0_putWord 3 none ∈ zG := zt_5 (i := 124) rfl rfl
theorem m_X5_115 : zMV "OrderGauge$Order" 115 MX0_putWord 0 1 := ⟨⟨_, _, rfl⟩, g_1181, g_1182, g_1183, g_105, g_1184, ⟨by decide, by decide, by decide⟩, by decide⟩
theorem g_1185 : Cond.methodLink "OrderGauge$Bytes" 29 yJ0_length_8abf5 ∈ zG := zt_5 (i := 125) rfl rfl
theorem g_1186 : Cond.methodLink "OrderGauge$Bytes" 35 yJ0_charAt_5068e ∈ zG := zt_5 (i := 126) rfl rfl
theorem g_1187 : Cond.methodLink "OrderGauge$Order" 121 yX0_putDigit ∈ zG := zt_5 (i := 127) rfl rfl
theorem g_1188 : Cond.instanceMethod yX0_putDigit ∈ zG := zt_5 (i := 128) rfl rfl
theorem g_1189 : Cond.selects "OrderGauge$Bytes" yX0_putDigit yX0_putDigit ∈ zG := zt_5 (i := 129) rfl rfl
theorem g_1190 : Cond.code yX0_putDigit cX0_putDigit 2 none ∈ zG := zt_5 (i := 130) rfl rfl
theorem m_X5_121 : zMV "OrderGauge$Order" 121 MX0_putDigit 0 1 := ⟨⟨_, _, rfl⟩, g_1187, g_1188, g_1189, g_105, g_1190, ⟨by decide, by decide, by decide⟩, by decide⟩
theorem g_1191 : Cond.methodLink "OrderGauge$Order" 124 yX5_coversOf ∈ zG := zt_5 (i := 131) rfl rfl
theorem m_X5_124 : zMV "OrderGauge$Order" 124 MX5_coversOf 5 1 := ⟨⟨_, _, rfl⟩, g_1191, g_699, g_700, g_102, g_701, ⟨by decide, by decide, by decide⟩, by decide⟩
theorem g_1192 : Cond.methodLink "OrderGauge$Order" 127 yX0_put ∈ zG := zt_5 (i := 132) rfl rfl
theorem m_X5_127 : zMV "OrderGauge$Order" 127 MX0_put 0 1 := ⟨⟨_, _, rfl⟩, g_1192, g_349, g_350, g_105, g_351, ⟨by decide, by decide, by decide⟩, by decide⟩
theorem g_1193 : Cond.methodLink "OrderGauge$Order" 130 yX5_writeRows ∈ zG := zt_5 (i := 133) rfl rfl
theorem g_1195 : Cond.instanceMethod yX5_writeRows ∈ zG := zt_5 (i := 135) rfl rfl
theorem g_33 : Cond.selects "OrderGauge$Order" yX5_writeRows yX5_writeRows ∈ zG := zG_mem 33 rfl rfl
theorem g_1196 : Cond.code yX5_writeRows cX5_writeRows 4 none ∈ zG := zt_5 (i := 136) rfl rfl
theorem m_X5_130 : zMV "OrderGauge$Order" 130 MX5_writeRows 5 1 := ⟨⟨_, _, rfl⟩, g_1193, g_1195, g_33, g_102, g_1196, ⟨by decide, by decide, by decide⟩, by decide⟩
theorem g_1198 : Cond.methodLink "OrderGaugeLaw" 187 yX11_octet ∈ zG := zt_5 (i := 138) rfl rfl
theorem g_1199 : Cond.instanceMethod yX11_octet ∈ zG := zt_5 (i := 139) rfl rfl
theorem g_1200 : Cond.selects "OrderGauge" yX11_octet yX11_octet ∈ zG := zt_5 (i := 140) rfl rfl
theorem g_1201 : Cond.code yX11_octet cX11_octet 2 (some .int) ∈ zG := zt_5 (i := 141) rfl rfl
theorem m_L_187 : zMV "OrderGaugeLaw" 187 MX11_octet 10 1 := ⟨⟨_, _, rfl⟩, g_1198, g_1199, g_1200, g_101, g_1201, ⟨by decide, by decide, by decide⟩, by decide⟩
theorem g_1202 : Cond.methodLink "OrderGauge" 349 yX0_byteAt ∈ zG := zt_5 (i := 142) rfl rfl
theorem m_X11_349 : zMV "OrderGauge" 349 MX0_byteAt 0 1 := ⟨⟨_, _, rfl⟩, g_1202, g_377, g_378, g_105, g_379, ⟨by decide, by decide, by decide⟩, by decide⟩
theorem g_1205 : Cond.methodLink "OrderGaugeLaw" 12 yX12_init ∈ zG := zt_5 (i := 145) rfl rfl
theorem g_1206 : Cond.instanceMethod yX12_init ∈ zG := zt_5 (i := 146) rfl rfl
theorem g_113 : Cond.initialized "OrderGaugeModel" ∈ zG := zt_1 (i := 13) rfl rfl
theorem g_1207 : Cond.code yX12_init cX12_init 1 none ∈ zG := zt_5 (i := 147) rfl rfl
theorem m_L_12 : zMI "OrderGaugeLaw" 12 MX12_init 0 := ⟨Or.inl g_1205, rfl, rfl, g_1206, g_113, g_1207, ⟨by decide, by decide, by decide⟩, by decide⟩
theorem g_1208 : Cond.methodLink "OrderGaugeModel" 1 objectInit ∈ zG := zt_5 (i := 148) rfl rfl
theorem g_1297 : Cond.methodLink "OrderGaugeLaw" 182 yX12_undo ∈ zG := zt_5 (i := 237) rfl rfl
theorem g_1298 : Cond.instanceMethod yX12_undo ∈ zG := zt_5 (i := 238) rfl rfl
theorem g_1299 : Cond.selects "OrderGaugeModel" yX12_undo yX12_undo ∈ zG := zt_5 (i := 239) rfl rfl
theorem g_1300 : Cond.code yX12_undo cX12_undo 2 (some .int) ∈ zG := zt_6 (i := 0) rfl rfl
theorem m_L_182 : zMV "OrderGaugeLaw" 182 MX12_undo 11 0 := ⟨⟨_, _, rfl⟩, g_1297, g_1298, g_1299, g_113, g_1300, ⟨by decide, by decide, by decide⟩, by decide⟩
theorem g_1301 : Cond.methodLink "OrderGaugeLaw" 177 yX12_drops ∈ zG := zt_6 (i := 1) rfl rfl
theorem g_1302 : Cond.instanceMethod yX12_drops ∈ zG := zt_6 (i := 2) rfl rfl
theorem g_1303 : Cond.selects "OrderGaugeModel" yX12_drops yX12_drops ∈ zG := zt_6 (i := 3) rfl rfl
theorem g_1304 : Cond.code yX12_drops cX12_drops 2 (some .int) ∈ zG := zt_6 (i := 4) rfl rfl
theorem m_L_177 : zMV "OrderGaugeLaw" 177 MX12_drops 11 1 := ⟨⟨_, _, rfl⟩, g_1301, g_1302, g_1303, g_113, g_1304, ⟨by decide, by decide, by decide⟩, by decide⟩
theorem g_1305 : Cond.methodLink "OrderGaugeModel" 72 yX12_isSlot ∈ zG := zt_6 (i := 5) rfl rfl
theorem g_1306 : Cond.static yX12_isSlot ∈ zG := zt_6 (i := 6) rfl rfl
theorem g_1307 : Cond.code yX12_isSlot cX12_isSlot 1 (some .boolean) ∈ zG := zt_6 (i := 7) rfl rfl
theorem m_X12_72 : zMS "OrderGaugeModel" 72 MX12_isSlot 1 := ⟨g_1305, g_1306, g_113, g_1307, ⟨by decide, by decide, by decide⟩, by decide⟩
theorem g_1309 : Cond.methodLink "OrderGaugeModel" 64 yX12_in ∈ zG := zt_6 (i := 9) rfl rfl
theorem g_1310 : Cond.static yX12_in ∈ zG := zt_6 (i := 10) rfl rfl
theorem g_1311 : Cond.code yX12_in cX12_in 6 (some .boolean) ∈ zG := zt_6 (i := 11) rfl rfl
theorem m_X12_64 : zMS "OrderGaugeModel" 64 MX12_in 3 := ⟨g_1309, g_1310, g_113, g_1311, ⟨by decide, by decide, by decide⟩, by decide⟩
theorem g_1312 : Cond.methodLink "OrderGaugeModel" 80 yX12_isOrder ∈ zG := zt_6 (i := 12) rfl rfl
theorem g_1314 : Cond.instanceMethod yX12_isOrder ∈ zG := zt_6 (i := 14) rfl rfl
theorem g_34 : Cond.selects "OrderGaugeModel" yX12_isOrder yX12_isOrder ∈ zG := zG_mem 34 rfl rfl
theorem g_1315 : Cond.code yX12_isOrder cX12_isOrder 2 (some .boolean) ∈ zG := zt_6 (i := 15) rfl rfl
theorem m_X12_80 : zMV "OrderGaugeModel" 80 MX12_isOrder 11 1 := ⟨⟨_, _, rfl⟩, g_1312, g_1314, g_34, g_113, g_1315, ⟨by decide, by decide, by decide⟩, by decide⟩
theorem g_1316 : Cond.methodLink "OrderGaugeModel" 76 yX12_many ∈ zG := zt_6 (i := 16) rfl rfl
theorem g_1318 : Cond.instanceMethod yX12_many ∈ zG := zt_6 (i := 18) rfl rfl
theorem g_35 : Cond.selects "OrderGaugeModel" yX12_many yX12_many ∈ zG := zG_mem 35 rfl rfl
theorem g_1319 : Cond.code yX12_many cX12_many 2 (some .int) ∈ zG := zt_6 (i := 19) rfl rfl
theorem m_X12_76 : zMV "OrderGaugeModel" 76 MX12_many 11 1 := ⟨⟨_, _, rfl⟩, g_1316, g_1318, g_35, g_113, g_1319, ⟨by decide, by decide, by decide⟩, by decide⟩
theorem g_1320 : Cond.methodLink "OrderGaugeModel" 68 yX12_of ∈ zG := zt_6 (i := 20) rfl rfl
theorem g_1322 : Cond.instanceMethod yX12_of ∈ zG := zt_6 (i := 22) rfl rfl
theorem g_36 : Cond.selects "OrderGaugeModel" yX12_of yX12_of ∈ zG := zG_mem 36 rfl rfl
theorem g_1323 : Cond.code yX12_of cX12_of 3 (some .int) ∈ zG := zt_6 (i := 23) rfl rfl
theorem m_X12_68 : zMV "OrderGaugeModel" 68 MX12_of 11 2 := ⟨⟨_, _, rfl⟩, g_1320, g_1322, g_36, g_113, g_1323, ⟨by decide, by decide, by decide⟩, by decide⟩
theorem g_1324 : Cond.methodLink "OrderGaugeModel" 113 yX12_remembers ∈ zG := zt_6 (i := 24) rfl rfl
theorem g_1326 : Cond.instanceMethod yX12_remembers ∈ zG := zt_6 (i := 26) rfl rfl
theorem g_37 : Cond.selects "OrderGaugeModel" yX12_remembers yX12_remembers ∈ zG := zG_mem 37 rfl rfl
theorem g_1327 : Cond.code yX12_remembers cX12_remembers 2 none ∈ zG := zt_6 (i := 27) rfl rfl
theorem m_X12_113 : zMV "OrderGaugeModel" 113 MX12_remembers 11 0 := ⟨⟨_, _, rfl⟩, g_1324, g_1326, g_37, g_113, g_1327, ⟨by decide, by decide, by decide⟩, by decide⟩
theorem g_1328 : Cond.methodLink "OrderGaugeModel" 116 yX12_empties ∈ zG := zt_6 (i := 28) rfl rfl
theorem g_1330 : Cond.instanceMethod yX12_empties ∈ zG := zt_6 (i := 30) rfl rfl
theorem g_38 : Cond.selects "OrderGaugeModel" yX12_empties yX12_empties ∈ zG := zG_mem 38 rfl rfl
theorem g_1331 : Cond.code yX12_empties cX12_empties 3 none ∈ zG := zt_6 (i := 31) rfl rfl
theorem m_X12_116 : zMV "OrderGaugeModel" 116 MX12_empties 11 1 := ⟨⟨_, _, rfl⟩, g_1328, g_1330, g_38, g_113, g_1331, ⟨by decide, by decide, by decide⟩, by decide⟩
theorem g_1332 : Cond.methodLink "OrderGaugeModel" 109 yX12_lays ∈ zG := zt_6 (i := 32) rfl rfl
theorem g_1334 : Cond.instanceMethod yX12_lays ∈ zG := zt_6 (i := 34) rfl rfl
theorem g_39 : Cond.selects "OrderGaugeModel" yX12_lays yX12_lays ∈ zG := zG_mem 39 rfl rfl
theorem g_1335 : Cond.code yX12_lays cX12_lays 4 none ∈ zG := zt_6 (i := 35) rfl rfl
theorem m_X12_109 : zMV "OrderGaugeModel" 109 MX12_lays 11 3 := ⟨⟨_, _, rfl⟩, g_1332, g_1334, g_39, g_113, g_1335, ⟨by decide, by decide, by decide⟩, by decide⟩
theorem g_1336 : Cond.methodLink "OrderGaugeModel" 106 yX12_keeps ∈ zG := zt_6 (i := 36) rfl rfl
theorem g_1338 : Cond.instanceMethod yX12_keeps ∈ zG := zt_6 (i := 38) rfl rfl
theorem g_40 : Cond.selects "OrderGaugeModel" yX12_keeps yX12_keeps ∈ zG := zG_mem 40 rfl rfl
theorem g_1339 : Cond.code yX12_keeps cX12_keeps 3 (some .int) ∈ zG := zt_6 (i := 39) rfl rfl
theorem m_X12_106 : zMV "OrderGaugeModel" 106 MX12_keeps 11 1 := ⟨⟨_, _, rfl⟩, g_1336, g_1338, g_40, g_113, g_1339, ⟨by decide, by decide, by decide⟩, by decide⟩
theorem g_1340 : Cond.methodLink "OrderGaugeLaw" 17 yX12_feed ∈ zG := zt_6 (i := 40) rfl rfl
theorem g_1341 : Cond.instanceMethod yX12_feed ∈ zG := zt_6 (i := 41) rfl rfl
theorem g_1342 : Cond.selects "OrderGaugeModel" yX12_feed yX12_feed ∈ zG := zt_6 (i := 42) rfl rfl
theorem g_1343 : Cond.code yX12_feed cX12_feed 8 (some .int) ∈ zG := zt_6 (i := 43) rfl rfl
theorem m_L_17 : zMV "OrderGaugeLaw" 17 MX12_feed 11 5 := ⟨⟨_, _, rfl⟩, g_1340, g_1341, g_1342, g_113, g_1343, ⟨by decide, by decide, by decide⟩, by decide⟩
theorem g_1344 : Cond.methodLink "OrderGaugeLaw" 22 yX12_end ∈ zG := zt_6 (i := 44) rfl rfl
theorem g_1345 : Cond.instanceMethod yX12_end ∈ zG := zt_6 (i := 45) rfl rfl
theorem g_1346 : Cond.selects "OrderGaugeModel" yX12_end yX12_end ∈ zG := zt_6 (i := 46) rfl rfl
theorem g_1347 : Cond.code yX12_end cX12_end 2 (some .int) ∈ zG := zt_6 (i := 47) rfl rfl
theorem m_L_22 : zMV "OrderGaugeLaw" 22 MX12_end 11 1 := ⟨⟨_, _, rfl⟩, g_1344, g_1345, g_1346, g_113, g_1347, ⟨by decide, by decide, by decide⟩, by decide⟩
theorem g_1348 : Cond.methodLink "OrderGaugeLaw" 26 yX12_told ∈ zG := zt_6 (i := 48) rfl rfl
theorem g_1349 : Cond.instanceMethod yX12_told ∈ zG := zt_6 (i := 49) rfl rfl
theorem g_1350 : Cond.selects "OrderGaugeModel" yX12_told yX12_told ∈ zG := zt_6 (i := 50) rfl rfl
theorem g_1351 : Cond.code yX12_told cX12_told 3 (some .int) ∈ zG := zt_6 (i := 51) rfl rfl
theorem m_L_26 : zMV "OrderGaugeLaw" 26 MX12_told 11 1 := ⟨⟨_, _, rfl⟩, g_1348, g_1349, g_1350, g_113, g_1351, ⟨by decide, by decide, by decide⟩, by decide⟩
theorem g_1352 : Cond.methodLink "OrderGaugeModel" 150 yX12_next ∈ zG := zt_6 (i := 52) rfl rfl
theorem g_1354 : Cond.instanceMethod yX12_next ∈ zG := zt_6 (i := 54) rfl rfl
theorem g_41 : Cond.selects "OrderGaugeModel" yX12_next yX12_next ∈ zG := zG_mem 41 rfl rfl
theorem g_1355 : Cond.code yX12_next cX12_next 1 none ∈ zG := zt_6 (i := 55) rfl rfl
theorem m_X12_150 : zMV "OrderGaugeModel" 150 MX12_next 11 0 := ⟨⟨_, _, rfl⟩, g_1352, g_1354, g_41, g_113, g_1355, ⟨by decide, by decide, by decide⟩, by decide⟩
theorem g_1356 : Cond.methodLink "OrderGaugeModel" 126 yX12_isAt ∈ zG := zt_6 (i := 56) rfl rfl
theorem g_1358 : Cond.instanceMethod yX12_isAt ∈ zG := zt_6 (i := 58) rfl rfl
theorem g_42 : Cond.selects "OrderGaugeModel" yX12_isAt yX12_isAt ∈ zG := zG_mem 42 rfl rfl
theorem g_1359 : Cond.code yX12_isAt cX12_isAt 3 (some .boolean) ∈ zG := zt_6 (i := 59) rfl rfl
theorem m_X12_126 : zMV "OrderGaugeModel" 126 MX12_isAt 11 2 := ⟨⟨_, _, rfl⟩, g_1356, g_1358, g_42, g_113, g_1359, ⟨by decide, by decide, by decide⟩, by decide⟩
theorem g_1360 : Cond.methodLink "OrderGaugeModel" 138 yJ9_min_7cf53 ∈ zG := zt_6 (i := 60) rfl rfl
theorem g_1361 : Cond.methodLink "OrderGaugeModel" 196 yX12_readsOrder ∈ zG := zt_6 (i := 61) rfl rfl
theorem g_1363 : Cond.instanceMethod yX12_readsOrder ∈ zG := zt_6 (i := 63) rfl rfl
theorem g_43 : Cond.selects "OrderGaugeModel" yX12_readsOrder yX12_readsOrder ∈ zG := zG_mem 43 rfl rfl
theorem g_1364 : Cond.code yX12_readsOrder cX12_readsOrder 3 none ∈ zG := zt_6 (i := 64) rfl rfl
theorem m_X12_196 : zMV "OrderGaugeModel" 196 MX12_readsOrder 11 1 := ⟨⟨_, _, rfl⟩, g_1361, g_1363, g_43, g_113, g_1364, ⟨by decide, by decide, by decide⟩, by decide⟩
theorem g_1366 : Cond.methodLink "OrderGaugeModel" 184 yX12_isWord ∈ zG := zt_6 (i := 66) rfl rfl
theorem g_1368 : Cond.instanceMethod yX12_isWord ∈ zG := zt_6 (i := 68) rfl rfl
theorem g_44 : Cond.selects "OrderGaugeModel" yX12_isWord yX12_isWord ∈ zG := zG_mem 44 rfl rfl
theorem g_1369 : Cond.code yX12_isWord cX12_isWord 4 (some .boolean) ∈ zG := zt_6 (i := 69) rfl rfl
theorem m_X12_184 : zMV "OrderGaugeModel" 184 MX12_isWord 11 1 := ⟨⟨_, _, rfl⟩, g_1366, g_1368, g_44, g_113, g_1369, ⟨by decide, by decide, by decide⟩, by decide⟩
theorem g_1370 : Cond.methodLink "OrderGaugeModel" 153 yJ0_length_8abf5 ∈ zG := zt_6 (i := 70) rfl rfl
theorem g_1371 : Cond.methodLink "OrderGaugeModel" 159 yJ0_charAt_5068e ∈ zG := zt_6 (i := 71) rfl rfl
theorem g_1372 : Cond.methodLink "OrderGaugeModel" 175 yX12_must ∈ zG := zt_6 (i := 72) rfl rfl
theorem g_1374 : Cond.instanceMethod yX12_must ∈ zG := zt_6 (i := 74) rfl rfl
theorem g_45 : Cond.selects "OrderGaugeModel" yX12_must yX12_must ∈ zG := zG_mem 45 rfl rfl
theorem g_1375 : Cond.code yX12_must cX12_must 2 none ∈ zG := zt_6 (i := 75) rfl rfl
theorem m_X12_175 : zMV "OrderGaugeModel" 175 MX12_must 11 1 := ⟨⟨_, _, rfl⟩, g_1372, g_1374, g_45, g_113, g_1375, ⟨by decide, by decide, by decide⟩, by decide⟩
theorem g_1376 : Cond.methodLink "OrderGaugeModel" 163 yX12_faults ∈ zG := zt_6 (i := 76) rfl rfl
theorem g_1378 : Cond.instanceMethod yX12_faults ∈ zG := zt_6 (i := 78) rfl rfl
theorem g_46 : Cond.selects "OrderGaugeModel" yX12_faults yX12_faults ∈ zG := zG_mem 46 rfl rfl
theorem g_1379 : Cond.code yX12_faults cX12_faults 2 none ∈ zG := zt_6 (i := 79) rfl rfl
theorem m_X12_163 : zMV "OrderGaugeModel" 163 MX12_faults 11 1 := ⟨⟨_, _, rfl⟩, g_1376, g_1378, g_46, g_113, g_1379, ⟨by decide, by decide, by decide⟩, by decide⟩
theorem g_1380 : Cond.methodLink "OrderGaugeModel" 166 yX12_passes ∈ zG := zt_6 (i := 80) rfl rfl
theorem g_1382 : Cond.instanceMethod yX12_passes ∈ zG := zt_6 (i := 82) rfl rfl
theorem g_47 : Cond.selects "OrderGaugeModel" yX12_passes yX12_passes ∈ zG := zG_mem 47 rfl rfl
theorem g_1383 : Cond.code yX12_passes cX12_passes 1 none ∈ zG := zt_6 (i := 83) rfl rfl
theorem m_X12_166 : zMV "OrderGaugeModel" 166 MX12_passes 11 0 := ⟨⟨_, _, rfl⟩, g_1380, g_1382, g_47, g_113, g_1383, ⟨by decide, by decide, by decide⟩, by decide⟩
theorem g_1384 : Cond.methodLink "OrderGaugeModel" 169 yX12_here ∈ zG := zt_6 (i := 84) rfl rfl
theorem g_1386 : Cond.instanceMethod yX12_here ∈ zG := zt_6 (i := 86) rfl rfl
theorem g_48 : Cond.selects "OrderGaugeModel" yX12_here yX12_here ∈ zG := zG_mem 48 rfl rfl
theorem g_1387 : Cond.code yX12_here cX12_here 3 (some .int) ∈ zG := zt_6 (i := 87) rfl rfl
theorem m_X12_169 : zMV "OrderGaugeModel" 169 MX12_here 11 2 := ⟨⟨_, _, rfl⟩, g_1384, g_1386, g_48, g_113, g_1387, ⟨by decide, by decide, by decide⟩, by decide⟩
theorem g_1388 : Cond.methodLink "OrderGaugeModel" 172 yX12_isSign ∈ zG := zt_6 (i := 88) rfl rfl
theorem g_1390 : Cond.instanceMethod yX12_isSign ∈ zG := zt_6 (i := 90) rfl rfl
theorem g_49 : Cond.selects "OrderGaugeModel" yX12_isSign yX12_isSign ∈ zG := zG_mem 49 rfl rfl
theorem g_1391 : Cond.code yX12_isSign cX12_isSign 2 (some .boolean) ∈ zG := zt_6 (i := 91) rfl rfl
theorem m_X12_172 : zMV "OrderGaugeModel" 172 MX12_isSign 11 1 := ⟨⟨_, _, rfl⟩, g_1388, g_1390, g_49, g_113, g_1391, ⟨by decide, by decide, by decide⟩, by decide⟩
theorem g_1392 : Cond.methodLink "OrderGaugeModel" 188 yX12_readsChain ∈ zG := zt_6 (i := 92) rfl rfl
theorem g_1394 : Cond.instanceMethod yX12_readsChain ∈ zG := zt_6 (i := 94) rfl rfl
theorem g_50 : Cond.selects "OrderGaugeModel" yX12_readsChain yX12_readsChain ∈ zG := zG_mem 50 rfl rfl
theorem g_1395 : Cond.code yX12_readsChain cX12_readsChain 5 none ∈ zG := zt_6 (i := 95) rfl rfl
theorem m_X12_188 : zMV "OrderGaugeModel" 188 MX12_readsChain 11 1 := ⟨⟨_, _, rfl⟩, g_1392, g_1394, g_50, g_113, g_1395, ⟨by decide, by decide, by decide⟩, by decide⟩
theorem g_1396 : Cond.methodLink "OrderGaugeModel" 93 yX12_isBelow ∈ zG := zt_6 (i := 96) rfl rfl
theorem g_1398 : Cond.instanceMethod yX12_isBelow ∈ zG := zt_6 (i := 98) rfl rfl
theorem g_51 : Cond.selects "OrderGaugeModel" yX12_isBelow yX12_isBelow ∈ zG := zG_mem 51 rfl rfl
theorem g_1399 : Cond.code yX12_isBelow cX12_isBelow 4 (some .boolean) ∈ zG := zt_6 (i := 99) rfl rfl
theorem m_X12_93 : zMV "OrderGaugeModel" 93 MX12_isBelow 11 3 := ⟨⟨_, _, rfl⟩, g_1396, g_1398, g_51, g_113, g_1399, ⟨by decide, by decide, by decide⟩, by decide⟩
theorem g_1400 : Cond.methodLink "OrderGaugeModel" 86 yX12_under ∈ zG := zt_6 (i := 100) rfl rfl
theorem g_1402 : Cond.instanceMethod yX12_under ∈ zG := zt_6 (i := 102) rfl rfl
theorem g_52 : Cond.selects "OrderGaugeModel" yX12_under yX12_under ∈ zG := zG_mem 52 rfl rfl
theorem g_1403 : Cond.code yX12_under cX12_under 3 (some .int) ∈ zG := zt_6 (i := 103) rfl rfl
theorem m_X12_86 : zMV "OrderGaugeModel" 86 MX12_under 11 2 := ⟨⟨_, _, rfl⟩, g_1400, g_1402, g_52, g_113, g_1403, ⟨by decide, by decide, by decide⟩, by decide⟩
theorem g_1404 : Cond.methodLink "OrderGaugeModel" 89 yX12_has ∈ zG := zt_6 (i := 104) rfl rfl
theorem g_1405 : Cond.static yX12_has ∈ zG := zt_6 (i := 105) rfl rfl
theorem g_1406 : Cond.code yX12_has cX12_has 2 (some .boolean) ∈ zG := zt_6 (i := 106) rfl rfl
theorem m_X12_89 : zMS "OrderGaugeModel" 89 MX12_has 2 := ⟨g_1404, g_1405, g_113, g_1406, ⟨by decide, by decide, by decide⟩, by decide⟩
theorem g_1407 : Cond.methodLink "OrderGaugeModel" 179 yX12_lies ∈ zG := zt_6 (i := 107) rfl rfl
theorem g_1409 : Cond.instanceMethod yX12_lies ∈ zG := zt_6 (i := 109) rfl rfl
theorem g_53 : Cond.selects "OrderGaugeModel" yX12_lies yX12_lies ∈ zG := zG_mem 53 rfl rfl
theorem g_1410 : Cond.code yX12_lies cX12_lies 7 none ∈ zG := zt_6 (i := 110) rfl rfl
theorem m_X12_179 : zMV "OrderGaugeModel" 179 MX12_lies 11 3 := ⟨⟨_, _, rfl⟩, g_1407, g_1409, g_53, g_113, g_1410, ⟨by decide, by decide, by decide⟩, by decide⟩
theorem g_1411 : Cond.methodLink "OrderGaugeModel" 97 yX12_over ∈ zG := zt_6 (i := 111) rfl rfl
theorem g_1413 : Cond.instanceMethod yX12_over ∈ zG := zt_6 (i := 113) rfl rfl
theorem g_54 : Cond.selects "OrderGaugeModel" yX12_over yX12_over ∈ zG := zG_mem 54 rfl rfl
theorem g_1414 : Cond.code yX12_over cX12_over 5 (some .int) ∈ zG := zt_6 (i := 114) rfl rfl
theorem m_X12_97 : zMV "OrderGaugeModel" 97 MX12_over 11 2 := ⟨⟨_, _, rfl⟩, g_1411, g_1413, g_54, g_113, g_1414, ⟨by decide, by decide, by decide⟩, by decide⟩
theorem g_1416 : Cond.methodLink "OrderGaugeModel" 193 yX12_readsRow ∈ zG := zt_6 (i := 116) rfl rfl
theorem g_1418 : Cond.instanceMethod yX12_readsRow ∈ zG := zt_6 (i := 118) rfl rfl
theorem g_55 : Cond.selects "OrderGaugeModel" yX12_readsRow yX12_readsRow ∈ zG := zG_mem 55 rfl rfl
theorem g_1419 : Cond.code yX12_readsRow cX12_readsRow 6 none ∈ zG := zt_6 (i := 119) rfl rfl
theorem m_X12_193 : zMV "OrderGaugeModel" 193 MX12_readsRow 11 1 := ⟨⟨_, _, rfl⟩, g_1416, g_1418, g_55, g_113, g_1419, ⟨by decide, by decide, by decide⟩, by decide⟩
theorem g_1420 : Cond.methodLink "OrderGaugeModel" 83 yX12_rows ∈ zG := zt_6 (i := 120) rfl rfl
theorem g_1422 : Cond.instanceMethod yX12_rows ∈ zG := zt_6 (i := 122) rfl rfl
theorem g_56 : Cond.selects "OrderGaugeModel" yX12_rows yX12_rows ∈ zG := zG_mem 56 rfl rfl
theorem g_1423 : Cond.code yX12_rows cX12_rows 2 (some .int) ∈ zG := zt_6 (i := 123) rfl rfl
theorem m_X12_83 : zMV "OrderGaugeModel" 83 MX12_rows 11 1 := ⟨⟨_, _, rfl⟩, g_1420, g_1422, g_56, g_113, g_1423, ⟨by decide, by decide, by decide⟩, by decide⟩
theorem g_1424 : Cond.methodLink "OrderGaugeModel" 199 yX12_belowMany ∈ zG := zt_6 (i := 124) rfl rfl
theorem g_1426 : Cond.instanceMethod yX12_belowMany ∈ zG := zt_6 (i := 126) rfl rfl
theorem g_57 : Cond.selects "OrderGaugeModel" yX12_belowMany yX12_belowMany ∈ zG := zG_mem 57 rfl rfl
theorem g_1427 : Cond.code yX12_belowMany cX12_belowMany 4 (some .int) ∈ zG := zt_6 (i := 127) rfl rfl
theorem m_X12_199 : zMV "OrderGaugeModel" 199 MX12_belowMany 11 1 := ⟨⟨_, _, rfl⟩, g_1424, g_1426, g_57, g_113, g_1427, ⟨by decide, by decide, by decide⟩, by decide⟩
theorem g_1428 : Cond.methodLink "OrderGaugeModel" 100 yX12_ones ∈ zG := zt_6 (i := 128) rfl rfl
theorem g_1429 : Cond.static yX12_ones ∈ zG := zt_6 (i := 129) rfl rfl
theorem g_1430 : Cond.code yX12_ones cX12_ones 3 (some .int) ∈ zG := zt_6 (i := 130) rfl rfl
theorem m_X12_100 : zMS "OrderGaugeModel" 100 MX12_ones 1 := ⟨g_1428, g_1429, g_113, g_1430, ⟨by decide, by decide, by decide⟩, by decide⟩
theorem g_1431 : Cond.methodLink "OrderGaugeModel" 202 yX12_done ∈ zG := zt_6 (i := 131) rfl rfl
theorem g_1433 : Cond.instanceMethod yX12_done ∈ zG := zt_6 (i := 133) rfl rfl
theorem g_58 : Cond.selects "OrderGaugeModel" yX12_done yX12_done ∈ zG := zG_mem 58 rfl rfl
theorem g_1434 : Cond.code yX12_done cX12_done 3 (some .int) ∈ zG := zt_6 (i := 134) rfl rfl
theorem m_X12_202 : zMV "OrderGaugeModel" 202 MX12_done 11 1 := ⟨⟨_, _, rfl⟩, g_1431, g_1433, g_58, g_113, g_1434, ⟨by decide, by decide, by decide⟩, by decide⟩
theorem g_1435 : Cond.methodLink "OrderGaugeLaw" 30 yX12_fault ∈ zG := zt_6 (i := 135) rfl rfl
theorem g_1436 : Cond.instanceMethod yX12_fault ∈ zG := zt_6 (i := 136) rfl rfl
theorem g_1437 : Cond.selects "OrderGaugeModel" yX12_fault yX12_fault ∈ zG := zt_6 (i := 137) rfl rfl
theorem g_1438 : Cond.code yX12_fault cX12_fault 2 (some .int) ∈ zG := zt_6 (i := 138) rfl rfl
theorem m_L_30 : zMV "OrderGaugeLaw" 30 MX12_fault 11 1 := ⟨⟨_, _, rfl⟩, g_1435, g_1436, g_1437, g_113, g_1438, ⟨by decide, by decide, by decide⟩, by decide⟩
theorem g_1439 : Cond.methodLink "OrderGaugeLaw" 34 yX12_count ∈ zG := zt_6 (i := 139) rfl rfl
theorem g_1440 : Cond.instanceMethod yX12_count ∈ zG := zt_6 (i := 140) rfl rfl
theorem g_1441 : Cond.selects "OrderGaugeModel" yX12_count yX12_count ∈ zG := zt_6 (i := 141) rfl rfl
theorem g_1442 : Cond.code yX12_count cX12_count 4 (some .int) ∈ zG := zt_6 (i := 142) rfl rfl
theorem m_L_34 : zMV "OrderGaugeLaw" 34 MX12_count 11 1 := ⟨⟨_, _, rfl⟩, g_1439, g_1440, g_1441, g_113, g_1442, ⟨by decide, by decide, by decide⟩, by decide⟩
theorem g_1443 : Cond.methodLink "OrderGaugeLaw" 76 yX12_deep ∈ zG := zt_6 (i := 143) rfl rfl
theorem g_1444 : Cond.instanceMethod yX12_deep ∈ zG := zt_6 (i := 144) rfl rfl
theorem g_1445 : Cond.selects "OrderGaugeModel" yX12_deep yX12_deep ∈ zG := zt_6 (i := 145) rfl rfl
theorem g_1446 : Cond.code yX12_deep cX12_deep 4 (some .int) ∈ zG := zt_6 (i := 146) rfl rfl
theorem m_L_76 : zMV "OrderGaugeLaw" 76 MX12_deep 11 3 := ⟨⟨_, _, rfl⟩, g_1443, g_1444, g_1445, g_113, g_1446, ⟨by decide, by decide, by decide⟩, by decide⟩
theorem g_1447 : Cond.methodLink "OrderGaugeModel" 215 yX12_isThing ∈ zG := zt_6 (i := 147) rfl rfl
theorem g_1449 : Cond.instanceMethod yX12_isThing ∈ zG := zt_6 (i := 149) rfl rfl
theorem g_59 : Cond.selects "OrderGaugeModel" yX12_isThing yX12_isThing ∈ zG := zG_mem 59 rfl rfl
theorem g_1450 : Cond.code yX12_isThing cX12_isThing 3 (some .boolean) ∈ zG := zt_6 (i := 150) rfl rfl
theorem m_X12_215 : zMV "OrderGaugeModel" 215 MX12_isThing 11 2 := ⟨⟨_, _, rfl⟩, g_1447, g_1449, g_59, g_113, g_1450, ⟨by decide, by decide, by decide⟩, by decide⟩
theorem g_1451 : Cond.methodLink "OrderGaugeModel" 208 yX12_deepOf ∈ zG := zt_6 (i := 151) rfl rfl
theorem g_1453 : Cond.instanceMethod yX12_deepOf ∈ zG := zt_6 (i := 153) rfl rfl
theorem g_60 : Cond.selects "OrderGaugeModel" yX12_deepOf yX12_deepOf ∈ zG := zG_mem 60 rfl rfl
theorem g_1454 : Cond.code yX12_deepOf cX12_deepOf 7 (some .int) ∈ zG := zt_6 (i := 154) rfl rfl
theorem m_X12_208 : zMV "OrderGaugeModel" 208 MX12_deepOf 11 3 := ⟨⟨_, _, rfl⟩, g_1451, g_1453, g_60, g_113, g_1454, ⟨by decide, by decide, by decide⟩, by decide⟩
theorem g_1455 : Cond.methodLink "OrderGaugeModel" 212 yJ9_max_7cf53 ∈ zG := zt_6 (i := 155) rfl rfl
theorem g_1456 : Cond.methodLink "OrderGaugeLaw" 52 yX12_chain ∈ zG := zt_6 (i := 156) rfl rfl
theorem g_1457 : Cond.instanceMethod yX12_chain ∈ zG := zt_6 (i := 157) rfl rfl
theorem g_1458 : Cond.selects "OrderGaugeModel" yX12_chain yX12_chain ∈ zG := zt_6 (i := 158) rfl rfl
theorem g_1459 : Cond.code yX12_chain cX12_chain 7 (some .int) ∈ zG := zt_6 (i := 159) rfl rfl
theorem m_L_52 : zMV "OrderGaugeLaw" 52 MX12_chain 11 2 := ⟨⟨_, _, rfl⟩, g_1456, g_1457, g_1458, g_113, g_1459, ⟨by decide, by decide, by decide⟩, by decide⟩
theorem g_1460 : Cond.methodLink "OrderGaugeModel" 218 yX12_height ∈ zG := zt_6 (i := 160) rfl rfl
theorem g_1462 : Cond.instanceMethod yX12_height ∈ zG := zt_6 (i := 162) rfl rfl
theorem g_61 : Cond.selects "OrderGaugeModel" yX12_height yX12_height ∈ zG := zG_mem 61 rfl rfl
theorem g_1463 : Cond.code yX12_height cX12_height 4 (some .int) ∈ zG := zt_6 (i := 163) rfl rfl
theorem m_X12_218 : zMV "OrderGaugeModel" 218 MX12_height 11 1 := ⟨⟨_, _, rfl⟩, g_1460, g_1462, g_61, g_113, g_1463, ⟨by decide, by decide, by decide⟩, by decide⟩
theorem g_1464 : Cond.methodLink "OrderGaugeLaw" 56 yX12_anti ∈ zG := zt_6 (i := 164) rfl rfl
theorem g_1465 : Cond.instanceMethod yX12_anti ∈ zG := zt_6 (i := 165) rfl rfl
theorem g_1466 : Cond.selects "OrderGaugeModel" yX12_anti yX12_anti ∈ zG := zt_6 (i := 166) rfl rfl
theorem g_1467 : Cond.code yX12_anti cX12_anti 2 (some .int) ∈ zG := zt_6 (i := 167) rfl rfl
theorem m_L_56 : zMV "OrderGaugeLaw" 56 MX12_anti 11 1 := ⟨⟨_, _, rfl⟩, g_1464, g_1465, g_1466, g_113, g_1467, ⟨by decide, by decide, by decide⟩, by decide⟩
theorem g_1468 : Cond.methodLink "OrderGaugeModel" 224 yX12_antiOf ∈ zG := zt_6 (i := 168) rfl rfl
theorem g_1470 : Cond.instanceMethod yX12_antiOf ∈ zG := zt_6 (i := 170) rfl rfl
theorem g_62 : Cond.selects "OrderGaugeModel" yX12_antiOf yX12_antiOf ∈ zG := zG_mem 62 rfl rfl
theorem g_1471 : Cond.code yX12_antiOf cX12_antiOf 4 (some .int) ∈ zG := zt_6 (i := 171) rfl rfl
theorem m_X12_224 : zMV "OrderGaugeModel" 224 MX12_antiOf 11 1 := ⟨⟨_, _, rfl⟩, g_1468, g_1470, g_62, g_113, g_1471, ⟨by decide, by decide, by decide⟩, by decide⟩
theorem g_1472 : Cond.methodLink "OrderGaugeModel" 221 yX12_isAnti ∈ zG := zt_6 (i := 172) rfl rfl
theorem g_1474 : Cond.instanceMethod yX12_isAnti ∈ zG := zt_6 (i := 174) rfl rfl
theorem g_63 : Cond.selects "OrderGaugeModel" yX12_isAnti yX12_isAnti ∈ zG := zG_mem 63 rfl rfl
theorem g_1475 : Cond.code yX12_isAnti cX12_isAnti 4 (some .boolean) ∈ zG := zt_6 (i := 175) rfl rfl
theorem m_X12_221 : zMV "OrderGaugeModel" 221 MX12_isAnti 11 2 := ⟨⟨_, _, rfl⟩, g_1472, g_1474, g_63, g_113, g_1475, ⟨by decide, by decide, by decide⟩, by decide⟩
theorem g_1476 : Cond.methodLink "OrderGaugeLaw" 60 yX12_part ∈ zG := zt_6 (i := 176) rfl rfl
theorem g_1477 : Cond.instanceMethod yX12_part ∈ zG := zt_6 (i := 177) rfl rfl
theorem g_1478 : Cond.selects "OrderGaugeModel" yX12_part yX12_part ∈ zG := zt_6 (i := 178) rfl rfl
theorem g_1479 : Cond.code yX12_part cX12_part 4 (some .int) ∈ zG := zt_6 (i := 179) rfl rfl
theorem m_L_60 : zMV "OrderGaugeLaw" 60 MX12_part 11 2 := ⟨⟨_, _, rfl⟩, g_1476, g_1477, g_1478, g_113, g_1479, ⟨by decide, by decide, by decide⟩, by decide⟩
theorem g_1480 : Cond.methodLink "OrderGaugeModel" 230 yX12_parts ∈ zG := zt_6 (i := 180) rfl rfl
theorem g_1482 : Cond.instanceMethod yX12_parts ∈ zG := zt_6 (i := 182) rfl rfl
theorem g_64 : Cond.selects "OrderGaugeModel" yX12_parts yX12_parts ∈ zG := zG_mem 64 rfl rfl
theorem g_1483 : Cond.code yX12_parts cX12_parts 8 (some .boolean) ∈ zG := zt_6 (i := 183) rfl rfl
theorem m_X12_230 : zMV "OrderGaugeModel" 230 MX12_parts 11 4 := ⟨⟨_, _, rfl⟩, g_1480, g_1482, g_64, g_113, g_1483, ⟨by decide, by decide, by decide⟩, by decide⟩
theorem g_1484 : Cond.methodLink "OrderGaugeModel" 227 yX12_areFree ∈ zG := zt_6 (i := 184) rfl rfl
theorem g_1486 : Cond.instanceMethod yX12_areFree ∈ zG := zt_6 (i := 186) rfl rfl
theorem g_65 : Cond.selects "OrderGaugeModel" yX12_areFree yX12_areFree ∈ zG := zG_mem 65 rfl rfl
theorem g_1487 : Cond.code yX12_areFree cX12_areFree 4 (some .boolean) ∈ zG := zt_6 (i := 187) rfl rfl
theorem m_X12_227 : zMV "OrderGaugeModel" 227 MX12_areFree 11 3 := ⟨⟨_, _, rfl⟩, g_1484, g_1486, g_65, g_113, g_1487, ⟨by decide, by decide, by decide⟩, by decide⟩
theorem g_1488 : Cond.methodLink "OrderGaugeLaw" 39 yX12_look ∈ zG := zt_6 (i := 188) rfl rfl
theorem g_1489 : Cond.instanceMethod yX12_look ∈ zG := zt_6 (i := 189) rfl rfl
theorem g_1490 : Cond.selects "OrderGaugeModel" yX12_look yX12_look ∈ zG := zt_6 (i := 190) rfl rfl
theorem g_1491 : Cond.code yX12_look cX12_look 8 (some .int) ∈ zG := zt_6 (i := 191) rfl rfl
theorem m_L_39 : zMV "OrderGaugeLaw" 39 MX12_look 11 2 := ⟨⟨_, _, rfl⟩, g_1488, g_1489, g_1490, g_113, g_1491, ⟨by decide, by decide, by decide⟩, by decide⟩
theorem g_1493 : Cond.methodLink "OrderGaugeModel" 236 yX12_isCover ∈ zG := zt_6 (i := 193) rfl rfl
theorem g_1495 : Cond.instanceMethod yX12_isCover ∈ zG := zt_6 (i := 195) rfl rfl
theorem g_66 : Cond.selects "OrderGaugeModel" yX12_isCover yX12_isCover ∈ zG := zG_mem 66 rfl rfl
theorem g_1496 : Cond.code yX12_isCover cX12_isCover 4 (some .boolean) ∈ zG := zt_6 (i := 196) rfl rfl
theorem m_X12_236 : zMV "OrderGaugeModel" 236 MX12_isCover 11 3 := ⟨⟨_, _, rfl⟩, g_1493, g_1495, g_66, g_113, g_1496, ⟨by decide, by decide, by decide⟩, by decide⟩
theorem g_1497 : Cond.methodLink "OrderGaugeModel" 239 yX12_isIdeal ∈ zG := zt_6 (i := 197) rfl rfl
theorem g_1499 : Cond.instanceMethod yX12_isIdeal ∈ zG := zt_6 (i := 199) rfl rfl
theorem g_67 : Cond.selects "OrderGaugeModel" yX12_isIdeal yX12_isIdeal ∈ zG := zG_mem 67 rfl rfl
theorem g_1500 : Cond.code yX12_isIdeal cX12_isIdeal 4 (some .boolean) ∈ zG := zt_6 (i := 200) rfl rfl
theorem m_X12_239 : zMV "OrderGaugeModel" 239 MX12_isIdeal 11 2 := ⟨⟨_, _, rfl⟩, g_1497, g_1499, g_67, g_113, g_1500, ⟨by decide, by decide, by decide⟩, by decide⟩
theorem g_1501 : Cond.methodLink "OrderGaugeModel" 242 yX12_hangs ∈ zG := zt_6 (i := 201) rfl rfl
theorem g_1503 : Cond.instanceMethod yX12_hangs ∈ zG := zt_6 (i := 203) rfl rfl
theorem g_68 : Cond.selects "OrderGaugeModel" yX12_hangs yX12_hangs ∈ zG := zG_mem 68 rfl rfl
theorem g_1504 : Cond.code yX12_hangs cX12_hangs 8 (some .int) ∈ zG := zt_6 (i := 204) rfl rfl
theorem m_X12_242 : zMV "OrderGaugeModel" 242 MX12_hangs 11 1 := ⟨⟨_, _, rfl⟩, g_1501, g_1503, g_68, g_113, g_1504, ⟨by decide, by decide, by decide⟩, by decide⟩
theorem g_1505 : Cond.methodLink "OrderGaugeLaw" 44 yX12_of_ ∈ zG := zt_6 (i := 205) rfl rfl
theorem g_1506 : Cond.instanceMethod yX12_of_ ∈ zG := zt_6 (i := 206) rfl rfl
theorem g_1507 : Cond.selects "OrderGaugeModel" yX12_of_ yX12_of_ ∈ zG := zt_6 (i := 207) rfl rfl
theorem g_1508 : Cond.code yX12_of_ cX12_of_ 8 (some .int) ∈ zG := zt_6 (i := 208) rfl rfl
theorem m_L_44 : zMV "OrderGaugeLaw" 44 MX12_of_ 11 3 := ⟨⟨_, _, rfl⟩, g_1505, g_1506, g_1507, g_113, g_1508, ⟨by decide, by decide, by decide⟩, by decide⟩
theorem g_1510 : Cond.methodLink "OrderGaugeLaw" 48 yX12_is ∈ zG := zt_6 (i := 210) rfl rfl
theorem g_1511 : Cond.instanceMethod yX12_is ∈ zG := zt_6 (i := 211) rfl rfl
theorem g_1512 : Cond.selects "OrderGaugeModel" yX12_is yX12_is ∈ zG := zt_6 (i := 212) rfl rfl
theorem g_1513 : Cond.code yX12_is cX12_is 3 (some .int) ∈ zG := zt_6 (i := 213) rfl rfl
theorem m_L_48 : zMV "OrderGaugeLaw" 48 MX12_is 11 2 := ⟨⟨_, _, rfl⟩, g_1510, g_1511, g_1512, g_113, g_1513, ⟨by decide, by decide, by decide⟩, by decide⟩
theorem g_1515 : Cond.methodLink "OrderGaugeModel" 279 yX12_isSo ∈ zG := zt_6 (i := 215) rfl rfl
theorem g_1517 : Cond.instanceMethod yX12_isSo ∈ zG := zt_6 (i := 217) rfl rfl
theorem g_69 : Cond.selects "OrderGaugeModel" yX12_isSo yX12_isSo ∈ zG := zG_mem 69 rfl rfl
theorem g_1518 : Cond.code yX12_isSo cX12_isSo 3 (some .boolean) ∈ zG := zt_6 (i := 218) rfl rfl
theorem m_X12_279 : zMV "OrderGaugeModel" 279 MX12_isSo 11 2 := ⟨⟨_, _, rfl⟩, g_1515, g_1517, g_69, g_113, g_1518, ⟨by decide, by decide, by decide⟩, by decide⟩
theorem g_1519 : Cond.methodLink "OrderGaugeModel" 265 yX12_look ∈ zG := zt_6 (i := 219) rfl rfl
theorem m_X12_265 : zMV "OrderGaugeModel" 265 MX12_look 11 2 := ⟨⟨_, _, rfl⟩, g_1519, g_1489, g_1490, g_113, g_1491, ⟨by decide, by decide, by decide⟩, by decide⟩
theorem g_1520 : Cond.methodLink "OrderGaugeModel" 268 yX12_isWithout ∈ zG := zt_6 (i := 220) rfl rfl
theorem g_1522 : Cond.instanceMethod yX12_isWithout ∈ zG := zt_6 (i := 222) rfl rfl
theorem g_70 : Cond.selects "OrderGaugeModel" yX12_isWithout yX12_isWithout ∈ zG := zG_mem 70 rfl rfl
theorem g_1523 : Cond.code yX12_isWithout cX12_isWithout 5 (some .boolean) ∈ zG := zt_6 (i := 223) rfl rfl
theorem m_X12_268 : zMV "OrderGaugeModel" 268 MX12_isWithout 11 2 := ⟨⟨_, _, rfl⟩, g_1520, g_1522, g_70, g_113, g_1523, ⟨by decide, by decide, by decide⟩, by decide⟩
theorem g_1524 : Cond.methodLink "OrderGaugeModel" 257 yX12_isOfKind ∈ zG := zt_6 (i := 224) rfl rfl
theorem g_1526 : Cond.instanceMethod yX12_isOfKind ∈ zG := zt_6 (i := 226) rfl rfl
theorem g_71 : Cond.selects "OrderGaugeModel" yX12_isOfKind yX12_isOfKind ∈ zG := zG_mem 71 rfl rfl
theorem g_1527 : Cond.code yX12_isOfKind cX12_isOfKind 7 (some .boolean) ∈ zG := zt_6 (i := 227) rfl rfl
theorem m_X12_257 : zMV "OrderGaugeModel" 257 MX12_isOfKind 11 6 := ⟨⟨_, _, rfl⟩, g_1524, g_1526, g_71, g_113, g_1527, ⟨by decide, by decide, by decide⟩, by decide⟩
theorem g_1528 : Cond.methodLink "OrderGaugeModel" 247 yX12_isN ∈ zG := zt_6 (i := 228) rfl rfl
theorem g_1530 : Cond.instanceMethod yX12_isN ∈ zG := zt_6 (i := 230) rfl rfl
theorem g_72 : Cond.selects "OrderGaugeModel" yX12_isN yX12_isN ∈ zG := zG_mem 72 rfl rfl
theorem g_1531 : Cond.code yX12_isN cX12_isN 6 (some .boolean) ∈ zG := zt_6 (i := 231) rfl rfl
theorem m_X12_247 : zMV "OrderGaugeModel" 247 MX12_isN 11 5 := ⟨⟨_, _, rfl⟩, g_1528, g_1530, g_72, g_113, g_1531, ⟨by decide, by decide, by decide⟩, by decide⟩
theorem g_1532 : Cond.methodLink "OrderGaugeModel" 251 yX12_isTwoAndTwo ∈ zG := zt_6 (i := 232) rfl rfl
theorem g_1534 : Cond.instanceMethod yX12_isTwoAndTwo ∈ zG := zt_6 (i := 234) rfl rfl
theorem g_73 : Cond.selects "OrderGaugeModel" yX12_isTwoAndTwo yX12_isTwoAndTwo ∈ zG := zG_mem 73 rfl rfl
theorem g_1535 : Cond.code yX12_isTwoAndTwo cX12_isTwoAndTwo 6 (some .boolean) ∈ zG := zt_6 (i := 235) rfl rfl
theorem m_X12_251 : zMV "OrderGaugeModel" 251 MX12_isTwoAndTwo 11 5 := ⟨⟨_, _, rfl⟩, g_1532, g_1534, g_73, g_113, g_1535, ⟨by decide, by decide, by decide⟩, by decide⟩
theorem g_1536 : Cond.methodLink "OrderGaugeModel" 254 yX12_isThreeAndOne ∈ zG := zt_6 (i := 236) rfl rfl
theorem g_1538 : Cond.instanceMethod yX12_isThreeAndOne ∈ zG := zt_6 (i := 238) rfl rfl
theorem g_74 : Cond.selects "OrderGaugeModel" yX12_isThreeAndOne yX12_isThreeAndOne ∈ zG := zG_mem 74 rfl rfl
theorem g_1539 : Cond.code yX12_isThreeAndOne cX12_isThreeAndOne 6 (some .boolean) ∈ zG := zt_6 (i := 239) rfl rfl
theorem m_X12_254 : zMV "OrderGaugeModel" 254 MX12_isThreeAndOne 11 5 := ⟨⟨_, _, rfl⟩, g_1536, g_1538, g_74, g_113, g_1539, ⟨by decide, by decide, by decide⟩, by decide⟩
theorem g_1540 : Cond.methodLink "OrderGaugeModel" 271 yX12_isLattice ∈ zG := zt_7 (i := 0) rfl rfl
theorem g_1542 : Cond.instanceMethod yX12_isLattice ∈ zG := zt_7 (i := 2) rfl rfl
theorem g_75 : Cond.selects "OrderGaugeModel" yX12_isLattice yX12_isLattice ∈ zG := zG_mem 75 rfl rfl
theorem g_1543 : Cond.code yX12_isLattice cX12_isLattice 6 (some .boolean) ∈ zG := zt_7 (i := 3) rfl rfl
theorem m_X12_271 : zMV "OrderGaugeModel" 271 MX12_isLattice 11 1 := ⟨⟨_, _, rfl⟩, g_1540, g_1542, g_75, g_113, g_1543, ⟨by decide, by decide, by decide⟩, by decide⟩
theorem g_1544 : Cond.methodLink "OrderGaugeModel" 261 yX12_hasEnd ∈ zG := zt_7 (i := 4) rfl rfl
theorem g_1546 : Cond.instanceMethod yX12_hasEnd ∈ zG := zt_7 (i := 6) rfl rfl
theorem g_76 : Cond.selects "OrderGaugeModel" yX12_hasEnd yX12_hasEnd ∈ zG := zG_mem 76 rfl rfl
theorem g_1547 : Cond.code yX12_hasEnd cX12_hasEnd 6 (some .boolean) ∈ zG := zt_7 (i := 7) rfl rfl
theorem m_X12_261 : zMV "OrderGaugeModel" 261 MX12_hasEnd 11 3 := ⟨⟨_, _, rfl⟩, g_1544, g_1546, g_76, g_113, g_1547, ⟨by decide, by decide, by decide⟩, by decide⟩
theorem g_1548 : Cond.methodLink "OrderGaugeModel" 274 yX12_isLevelled ∈ zG := zt_7 (i := 8) rfl rfl
theorem g_1550 : Cond.instanceMethod yX12_isLevelled ∈ zG := zt_7 (i := 10) rfl rfl
theorem g_77 : Cond.selects "OrderGaugeModel" yX12_isLevelled yX12_isLevelled ∈ zG := zG_mem 77 rfl rfl
theorem g_1551 : Cond.code yX12_isLevelled cX12_isLevelled 4 (some .boolean) ∈ zG := zt_7 (i := 11) rfl rfl
theorem m_X12_274 : zMV "OrderGaugeModel" 274 MX12_isLevelled 11 1 := ⟨⟨_, _, rfl⟩, g_1548, g_1550, g_77, g_113, g_1551, ⟨by decide, by decide, by decide⟩, by decide⟩
theorem g_1552 : Cond.methodLink "OrderGaugeLaw" 64 yX12_lines ∈ zG := zt_7 (i := 12) rfl rfl
theorem g_1553 : Cond.instanceMethod yX12_lines ∈ zG := zt_7 (i := 13) rfl rfl
theorem g_1554 : Cond.selects "OrderGaugeModel" yX12_lines yX12_lines ∈ zG := zt_7 (i := 14) rfl rfl
theorem g_1555 : Cond.code yX12_lines cX12_lines 2 (some .int) ∈ zG := zt_7 (i := 15) rfl rfl
theorem m_L_64 : zMV "OrderGaugeLaw" 64 MX12_lines 11 1 := ⟨⟨_, _, rfl⟩, g_1552, g_1553, g_1554, g_113, g_1555, ⟨by decide, by decide, by decide⟩, by decide⟩
theorem g_1556 : Cond.methodLink "OrderGaugeModel" 285 yX12_laysLines ∈ zG := zt_7 (i := 16) rfl rfl
theorem g_1558 : Cond.instanceMethod yX12_laysLines ∈ zG := zt_7 (i := 18) rfl rfl
theorem g_78 : Cond.selects "OrderGaugeModel" yX12_laysLines yX12_laysLines ∈ zG := zG_mem 78 rfl rfl
theorem g_1559 : Cond.code yX12_laysLines cX12_laysLines 5 none ∈ zG := zt_7 (i := 19) rfl rfl
theorem m_X12_285 : zMV "OrderGaugeModel" 285 MX12_laysLines 11 1 := ⟨⟨_, _, rfl⟩, g_1556, g_1558, g_78, g_113, g_1559, ⟨by decide, by decide, by decide⟩, by decide⟩
theorem g_1560 : Cond.methodLink "OrderGaugeLaw" 68 yX12_line ∈ zG := zt_7 (i := 20) rfl rfl
theorem g_1561 : Cond.instanceMethod yX12_line ∈ zG := zt_7 (i := 21) rfl rfl
theorem g_1562 : Cond.selects "OrderGaugeModel" yX12_line yX12_line ∈ zG := zt_7 (i := 22) rfl rfl
theorem g_1563 : Cond.code yX12_line cX12_line 4 (some .int) ∈ zG := zt_7 (i := 23) rfl rfl
theorem m_L_68 : zMV "OrderGaugeLaw" 68 MX12_line 11 3 := ⟨⟨_, _, rfl⟩, g_1560, g_1561, g_1562, g_113, g_1563, ⟨by decide, by decide, by decide⟩, by decide⟩
theorem g_1564 : Cond.methodLink "OrderGaugeModel" 288 yX12_laysLine ∈ zG := zt_7 (i := 24) rfl rfl
theorem g_1566 : Cond.instanceMethod yX12_laysLine ∈ zG := zt_7 (i := 26) rfl rfl
theorem g_79 : Cond.selects "OrderGaugeModel" yX12_laysLine yX12_laysLine ∈ zG := zG_mem 79 rfl rfl
theorem g_1567 : Cond.code yX12_laysLine cX12_laysLine 10 (some .boolean) ∈ zG := zt_7 (i := 27) rfl rfl
theorem m_X12_288 : zMV "OrderGaugeModel" 288 MX12_laysLine 11 2 := ⟨⟨_, _, rfl⟩, g_1564, g_1566, g_79, g_113, g_1567, ⟨by decide, by decide, by decide⟩, by decide⟩
theorem g_1568 : Cond.methodLink "OrderGaugeLaw" 72 yX12_rank ∈ zG := zt_7 (i := 28) rfl rfl
theorem g_1569 : Cond.instanceMethod yX12_rank ∈ zG := zt_7 (i := 29) rfl rfl
theorem g_1570 : Cond.selects "OrderGaugeModel" yX12_rank yX12_rank ∈ zG := zt_7 (i := 30) rfl rfl
theorem g_1571 : Cond.code yX12_rank cX12_rank 7 (some .int) ∈ zG := zt_7 (i := 31) rfl rfl
theorem m_L_72 : zMV "OrderGaugeLaw" 72 MX12_rank 11 2 := ⟨⟨_, _, rfl⟩, g_1568, g_1569, g_1570, g_113, g_1571, ⟨by decide, by decide, by decide⟩, by decide⟩
theorem g_1572 : Cond.methodLink "OrderGaugeModel" 295 yX12_isRow ∈ zG := zt_7 (i := 32) rfl rfl
theorem g_1574 : Cond.instanceMethod yX12_isRow ∈ zG := zt_7 (i := 34) rfl rfl
theorem g_80 : Cond.selects "OrderGaugeModel" yX12_isRow yX12_isRow ∈ zG := zG_mem 80 rfl rfl
theorem g_1575 : Cond.code yX12_isRow cX12_isRow 3 (some .boolean) ∈ zG := zt_7 (i := 35) rfl rfl
theorem m_X12_295 : zMV "OrderGaugeModel" 295 MX12_isRow 11 2 := ⟨⟨_, _, rfl⟩, g_1572, g_1574, g_80, g_113, g_1575, ⟨by decide, by decide, by decide⟩, by decide⟩
theorem g_1576 : Cond.methodLink "OrderGaugeModel" 298 yX12_isLine ∈ zG := zt_7 (i := 36) rfl rfl
theorem g_1578 : Cond.instanceMethod yX12_isLine ∈ zG := zt_7 (i := 38) rfl rfl
theorem g_81 : Cond.selects "OrderGaugeModel" yX12_isLine yX12_isLine ∈ zG := zG_mem 81 rfl rfl
theorem g_1579 : Cond.code yX12_isLine cX12_isLine 6 (some .boolean) ∈ zG := zt_7 (i := 39) rfl rfl
theorem m_X12_298 : zMV "OrderGaugeModel" 298 MX12_isLine 11 2 := ⟨⟨_, _, rfl⟩, g_1576, g_1578, g_81, g_113, g_1579, ⟨by decide, by decide, by decide⟩, by decide⟩
theorem g_1580 : Cond.methodLink "OrderGaugeModel" 291 yX12_rowAt ∈ zG := zt_7 (i := 40) rfl rfl
theorem g_1582 : Cond.instanceMethod yX12_rowAt ∈ zG := zt_7 (i := 42) rfl rfl
theorem g_82 : Cond.selects "OrderGaugeModel" yX12_rowAt yX12_rowAt ∈ zG := zG_mem 82 rfl rfl
theorem g_1583 : Cond.code yX12_rowAt cX12_rowAt 4 (some .int) ∈ zG := zt_7 (i := 43) rfl rfl
theorem m_X12_291 : zMV "OrderGaugeModel" 291 MX12_rowAt 11 3 := ⟨⟨_, _, rfl⟩, g_1580, g_1582, g_82, g_113, g_1583, ⟨by decide, by decide, by decide⟩, by decide⟩
theorem g_1584 : Cond.methodLink "OrderGaugeLaw" 80 yX12_through ∈ zG := zt_7 (i := 44) rfl rfl
theorem g_1585 : Cond.instanceMethod yX12_through ∈ zG := zt_7 (i := 45) rfl rfl
theorem g_1586 : Cond.selects "OrderGaugeModel" yX12_through yX12_through ∈ zG := zt_7 (i := 46) rfl rfl
theorem g_1587 : Cond.code yX12_through cX12_through 3 (some .int) ∈ zG := zt_7 (i := 47) rfl rfl
theorem m_L_80 : zMV "OrderGaugeLaw" 80 MX12_through 11 2 := ⟨⟨_, _, rfl⟩, g_1584, g_1585, g_1586, g_113, g_1587, ⟨by decide, by decide, by decide⟩, by decide⟩
theorem g_1588 : Cond.methodLink "OrderGaugeLaw" 84 yX12_before ∈ zG := zt_7 (i := 48) rfl rfl
theorem g_1589 : Cond.instanceMethod yX12_before ∈ zG := zt_7 (i := 49) rfl rfl
theorem g_1590 : Cond.selects "OrderGaugeModel" yX12_before yX12_before ∈ zG := zt_7 (i := 50) rfl rfl
theorem g_1591 : Cond.code yX12_before cX12_before 4 (some .int) ∈ zG := zt_7 (i := 51) rfl rfl
theorem m_L_84 : zMV "OrderGaugeLaw" 84 MX12_before 11 3 := ⟨⟨_, _, rfl⟩, g_1588, g_1589, g_1590, g_113, g_1591, ⟨by decide, by decide, by decide⟩, by decide⟩
theorem g_1592 : Cond.methodLink "OrderGaugeModel" 301 yX12_beforeOf ∈ zG := zt_7 (i := 52) rfl rfl
theorem g_1594 : Cond.instanceMethod yX12_beforeOf ∈ zG := zt_7 (i := 54) rfl rfl
theorem g_83 : Cond.selects "OrderGaugeModel" yX12_beforeOf yX12_beforeOf ∈ zG := zG_mem 83 rfl rfl
theorem g_1595 : Cond.code yX12_beforeOf cX12_beforeOf 7 (some .int) ∈ zG := zt_7 (i := 55) rfl rfl
theorem m_X12_301 : zMV "OrderGaugeModel" 301 MX12_beforeOf 11 3 := ⟨⟨_, _, rfl⟩, g_1592, g_1594, g_83, g_113, g_1595, ⟨by decide, by decide, by decide⟩, by decide⟩
theorem g_1596 : Cond.methodLink "OrderGaugeLaw" 88 yX12_at ∈ zG := zt_7 (i := 56) rfl rfl
theorem g_1597 : Cond.instanceMethod yX12_at ∈ zG := zt_7 (i := 57) rfl rfl
theorem g_1598 : Cond.selects "OrderGaugeModel" yX12_at yX12_at ∈ zG := zt_7 (i := 58) rfl rfl
theorem g_1599 : Cond.code yX12_at cX12_at 4 (some .int) ∈ zG := zt_7 (i := 59) rfl rfl
theorem m_L_88 : zMV "OrderGaugeLaw" 88 MX12_at 11 3 := ⟨⟨_, _, rfl⟩, g_1596, g_1597, g_1598, g_113, g_1599, ⟨by decide, by decide, by decide⟩, by decide⟩
theorem g_1600 : Cond.methodLink "OrderGaugeModel" 304 yX12_atOf ∈ zG := zt_7 (i := 60) rfl rfl
theorem g_1602 : Cond.instanceMethod yX12_atOf ∈ zG := zt_7 (i := 62) rfl rfl
theorem g_84 : Cond.selects "OrderGaugeModel" yX12_atOf yX12_atOf ∈ zG := zG_mem 84 rfl rfl
theorem g_1603 : Cond.code yX12_atOf cX12_atOf 7 (some .int) ∈ zG := zt_7 (i := 63) rfl rfl
theorem m_X12_304 : zMV "OrderGaugeModel" 304 MX12_atOf 11 3 := ⟨⟨_, _, rfl⟩, g_1600, g_1602, g_84, g_113, g_1603, ⟨by decide, by decide, by decide⟩, by decide⟩
theorem g_1604 : Cond.methodLink "OrderGaugeLaw" 92 yX12_mean ∈ zG := zt_7 (i := 64) rfl rfl
theorem g_1605 : Cond.instanceMethod yX12_mean ∈ zG := zt_7 (i := 65) rfl rfl
theorem g_1606 : Cond.selects "OrderGaugeModel" yX12_mean yX12_mean ∈ zG := zt_7 (i := 66) rfl rfl
theorem g_1607 : Cond.code yX12_mean cX12_mean 6 (some .int) ∈ zG := zt_7 (i := 67) rfl rfl
theorem m_L_92 : zMV "OrderGaugeLaw" 92 MX12_mean 11 3 := ⟨⟨_, _, rfl⟩, g_1604, g_1605, g_1606, g_113, g_1607, ⟨by decide, by decide, by decide⟩, by decide⟩
theorem g_1608 : Cond.methodLink "OrderGaugeModel" 307 yX12_common ∈ zG := zt_7 (i := 68) rfl rfl
theorem g_1609 : Cond.static yX12_common ∈ zG := zt_7 (i := 69) rfl rfl
theorem g_1610 : Cond.code yX12_common cX12_common 2 (some .int) ∈ zG := zt_7 (i := 70) rfl rfl
theorem m_X12_307 : zMS "OrderGaugeModel" 307 MX12_common 2 := ⟨g_1608, g_1609, g_113, g_1610, ⟨by decide, by decide, by decide⟩, by decide⟩
theorem g_1611 : Cond.methodLink "OrderGaugeLaw" 96 yX12_balance ∈ zG := zt_7 (i := 71) rfl rfl
theorem g_1612 : Cond.instanceMethod yX12_balance ∈ zG := zt_7 (i := 72) rfl rfl
theorem g_1613 : Cond.selects "OrderGaugeModel" yX12_balance yX12_balance ∈ zG := zt_7 (i := 73) rfl rfl
theorem g_1614 : Cond.code yX12_balance cX12_balance 8 (some .int) ∈ zG := zt_7 (i := 74) rfl rfl
theorem m_L_96 : zMV "OrderGaugeLaw" 96 MX12_balance 11 2 := ⟨⟨_, _, rfl⟩, g_1611, g_1612, g_1613, g_113, g_1614, ⟨by decide, by decide, by decide⟩, by decide⟩
theorem g_1615 : Cond.methodLink "OrderGaugeModel" 310 yJ9_abs_0f7a4 ∈ zG := zt_7 (i := 75) rfl rfl
theorem g_1616 : Cond.methodLink "OrderGaugeLaw" 100 yX12_jumps ∈ zG := zt_7 (i := 76) rfl rfl
theorem g_1617 : Cond.instanceMethod yX12_jumps ∈ zG := zt_7 (i := 77) rfl rfl
theorem g_1618 : Cond.selects "OrderGaugeModel" yX12_jumps yX12_jumps ∈ zG := zt_7 (i := 78) rfl rfl
theorem g_1619 : Cond.code yX12_jumps cX12_jumps 3 (some .int) ∈ zG := zt_7 (i := 79) rfl rfl
theorem m_L_100 : zMV "OrderGaugeLaw" 100 MX12_jumps 11 2 := ⟨⟨_, _, rfl⟩, g_1616, g_1617, g_1618, g_113, g_1619, ⟨by decide, by decide, by decide⟩, by decide⟩
theorem g_1620 : Cond.methodLink "OrderGaugeModel" 317 yX12_laysJumper ∈ zG := zt_7 (i := 80) rfl rfl
theorem g_1622 : Cond.instanceMethod yX12_laysJumper ∈ zG := zt_7 (i := 82) rfl rfl
theorem g_85 : Cond.selects "OrderGaugeModel" yX12_laysJumper yX12_laysJumper ∈ zG := zG_mem 85 rfl rfl
theorem g_1623 : Cond.code yX12_laysJumper cX12_laysJumper 9 (some .int) ∈ zG := zt_7 (i := 83) rfl rfl
theorem m_X12_317 : zMV "OrderGaugeModel" 317 MX12_laysJumper 11 2 := ⟨⟨_, _, rfl⟩, g_1620, g_1622, g_85, g_113, g_1623, ⟨by decide, by decide, by decide⟩, by decide⟩
theorem g_1624 : Cond.methodLink "OrderGaugeModel" 313 yX12_laysLeaps ∈ zG := zt_7 (i := 84) rfl rfl
theorem g_1626 : Cond.instanceMethod yX12_laysLeaps ∈ zG := zt_7 (i := 86) rfl rfl
theorem g_86 : Cond.selects "OrderGaugeModel" yX12_laysLeaps yX12_laysLeaps ∈ zG := zG_mem 86 rfl rfl
theorem g_1627 : Cond.code yX12_laysLeaps cX12_laysLeaps 9 none ∈ zG := zt_7 (i := 87) rfl rfl
theorem m_X12_313 : zMV "OrderGaugeModel" 313 MX12_laysLeaps 11 2 := ⟨⟨_, _, rfl⟩, g_1624, g_1626, g_86, g_113, g_1627, ⟨by decide, by decide, by decide⟩, by decide⟩
theorem g_1628 : Cond.methodLink "OrderGaugeLaw" 104 yX12_jumper ∈ zG := zt_7 (i := 88) rfl rfl
theorem g_1629 : Cond.instanceMethod yX12_jumper ∈ zG := zt_7 (i := 89) rfl rfl
theorem g_1630 : Cond.selects "OrderGaugeModel" yX12_jumper yX12_jumper ∈ zG := zt_7 (i := 90) rfl rfl
theorem g_1631 : Cond.code yX12_jumper cX12_jumper 5 (some .int) ∈ zG := zt_7 (i := 91) rfl rfl
theorem m_L_104 : zMV "OrderGaugeLaw" 104 MX12_jumper 11 3 := ⟨⟨_, _, rfl⟩, g_1628, g_1629, g_1630, g_113, g_1631, ⟨by decide, by decide, by decide⟩, by decide⟩
theorem g_1632 : Cond.methodLink "OrderGaugeLaw" 108 yX12_jumpsOf ∈ zG := zt_7 (i := 92) rfl rfl
theorem g_1633 : Cond.instanceMethod yX12_jumpsOf ∈ zG := zt_7 (i := 93) rfl rfl
theorem g_1634 : Cond.selects "OrderGaugeModel" yX12_jumpsOf yX12_jumpsOf ∈ zG := zt_7 (i := 94) rfl rfl
theorem g_1635 : Cond.code yX12_jumpsOf cX12_jumpsOf 5 (some .int) ∈ zG := zt_7 (i := 95) rfl rfl
theorem m_L_108 : zMV "OrderGaugeLaw" 108 MX12_jumpsOf 11 2 := ⟨⟨_, _, rfl⟩, g_1632, g_1633, g_1634, g_113, g_1635, ⟨by decide, by decide, by decide⟩, by decide⟩
theorem g_1636 : Cond.methodLink "OrderGaugeLaw" 112 yX12_critical ∈ zG := zt_7 (i := 96) rfl rfl
theorem g_1637 : Cond.instanceMethod yX12_critical ∈ zG := zt_7 (i := 97) rfl rfl
theorem g_1638 : Cond.selects "OrderGaugeModel" yX12_critical yX12_critical ∈ zG := zt_7 (i := 98) rfl rfl
theorem g_1639 : Cond.code yX12_critical cX12_critical 3 (some .int) ∈ zG := zt_7 (i := 99) rfl rfl
theorem m_L_112 : zMV "OrderGaugeLaw" 112 MX12_critical 11 2 := ⟨⟨_, _, rfl⟩, g_1636, g_1637, g_1638, g_113, g_1639, ⟨by decide, by decide, by decide⟩, by decide⟩
theorem g_1640 : Cond.methodLink "OrderGaugeModel" 324 yX12_laysTwos ∈ zG := zt_7 (i := 100) rfl rfl
theorem g_1642 : Cond.instanceMethod yX12_laysTwos ∈ zG := zt_7 (i := 102) rfl rfl
theorem g_87 : Cond.selects "OrderGaugeModel" yX12_laysTwos yX12_laysTwos ∈ zG := zG_mem 87 rfl rfl
theorem g_1643 : Cond.code yX12_laysTwos cX12_laysTwos 4 none ∈ zG := zt_7 (i := 103) rfl rfl
theorem m_X12_324 : zMV "OrderGaugeModel" 324 MX12_laysTwos 11 1 := ⟨⟨_, _, rfl⟩, g_1640, g_1642, g_87, g_113, g_1643, ⟨by decide, by decide, by decide⟩, by decide⟩
theorem g_1644 : Cond.methodLink "OrderGaugeLaw" 116 yX12_reversed ∈ zG := zt_7 (i := 104) rfl rfl
theorem g_1645 : Cond.instanceMethod yX12_reversed ∈ zG := zt_7 (i := 105) rfl rfl
theorem g_1646 : Cond.selects "OrderGaugeModel" yX12_reversed yX12_reversed ∈ zG := zt_7 (i := 106) rfl rfl
theorem g_1647 : Cond.code yX12_reversed cX12_reversed 5 (some .int) ∈ zG := zt_7 (i := 107) rfl rfl
theorem m_L_116 : zMV "OrderGaugeLaw" 116 MX12_reversed 11 2 := ⟨⟨_, _, rfl⟩, g_1644, g_1645, g_1646, g_113, g_1647, ⟨by decide, by decide, by decide⟩, by decide⟩
theorem g_1648 : Cond.methodLink "OrderGaugeModel" 327 yX12_placeIn ∈ zG := zt_7 (i := 108) rfl rfl
theorem g_1650 : Cond.instanceMethod yX12_placeIn ∈ zG := zt_7 (i := 110) rfl rfl
theorem g_88 : Cond.selects "OrderGaugeModel" yX12_placeIn yX12_placeIn ∈ zG := zG_mem 88 rfl rfl
theorem g_1651 : Cond.code yX12_placeIn cX12_placeIn 5 (some .int) ∈ zG := zt_7 (i := 111) rfl rfl
theorem m_X12_327 : zMV "OrderGaugeModel" 327 MX12_placeIn 11 3 := ⟨⟨_, _, rfl⟩, g_1648, g_1650, g_88, g_113, g_1651, ⟨by decide, by decide, by decide⟩, by decide⟩
theorem g_1652 : Cond.methodLink "OrderGaugeLaw" 124 yX12_ahead ∈ zG := zt_7 (i := 112) rfl rfl
theorem g_1653 : Cond.instanceMethod yX12_ahead ∈ zG := zt_7 (i := 113) rfl rfl
theorem g_1654 : Cond.selects "OrderGaugeModel" yX12_ahead yX12_ahead ∈ zG := zt_7 (i := 114) rfl rfl
theorem g_1655 : Cond.code yX12_ahead cX12_ahead 3 (some .int) ∈ zG := zt_7 (i := 115) rfl rfl
theorem m_L_124 : zMV "OrderGaugeLaw" 124 MX12_ahead 11 2 := ⟨⟨_, _, rfl⟩, g_1652, g_1653, g_1654, g_113, g_1655, ⟨by decide, by decide, by decide⟩, by decide⟩
theorem g_1656 : Cond.methodLink "OrderGaugeModel" 330 yX12_aheadOf ∈ zG := zt_7 (i := 116) rfl rfl
theorem g_1658 : Cond.instanceMethod yX12_aheadOf ∈ zG := zt_7 (i := 118) rfl rfl
theorem g_89 : Cond.selects "OrderGaugeModel" yX12_aheadOf yX12_aheadOf ∈ zG := zG_mem 89 rfl rfl
theorem g_1659 : Cond.code yX12_aheadOf cX12_aheadOf 6 (some .int) ∈ zG := zt_7 (i := 119) rfl rfl
theorem m_X12_330 : zMV "OrderGaugeModel" 330 MX12_aheadOf 11 2 := ⟨⟨_, _, rfl⟩, g_1656, g_1658, g_89, g_113, g_1659, ⟨by decide, by decide, by decide⟩, by decide⟩
theorem g_1660 : Cond.methodLink "OrderGaugeLaw" 120 yX12_rowsAre ∈ zG := zt_7 (i := 120) rfl rfl
theorem g_1661 : Cond.instanceMethod yX12_rowsAre ∈ zG := zt_7 (i := 121) rfl rfl
theorem g_1662 : Cond.selects "OrderGaugeModel" yX12_rowsAre yX12_rowsAre ∈ zG := zt_7 (i := 122) rfl rfl
theorem g_1663 : Cond.code yX12_rowsAre cX12_rowsAre 4 (some .int) ∈ zG := zt_7 (i := 123) rfl rfl
theorem m_L_120 : zMV "OrderGaugeLaw" 120 MX12_rowsAre 11 2 := ⟨⟨_, _, rfl⟩, g_1660, g_1661, g_1662, g_113, g_1663, ⟨by decide, by decide, by decide⟩, by decide⟩
theorem g_1664 : Cond.methodLink "OrderGaugeModel" 333 yX12_areLines ∈ zG := zt_7 (i := 124) rfl rfl
theorem g_1666 : Cond.instanceMethod yX12_areLines ∈ zG := zt_7 (i := 126) rfl rfl
theorem g_90 : Cond.selects "OrderGaugeModel" yX12_areLines yX12_areLines ∈ zG := zG_mem 90 rfl rfl
theorem g_1667 : Cond.code yX12_areLines cX12_areLines 3 (some .boolean) ∈ zG := zt_7 (i := 127) rfl rfl
theorem m_X12_333 : zMV "OrderGaugeModel" 333 MX12_areLines 11 1 := ⟨⟨_, _, rfl⟩, g_1664, g_1666, g_90, g_113, g_1667, ⟨by decide, by decide, by decide⟩, by decide⟩
theorem g_1668 : Cond.methodLink "OrderGaugeModel" 336 yX12_isRealizer ∈ zG := zt_7 (i := 128) rfl rfl
theorem g_1670 : Cond.instanceMethod yX12_isRealizer ∈ zG := zt_7 (i := 130) rfl rfl
theorem g_91 : Cond.selects "OrderGaugeModel" yX12_isRealizer yX12_isRealizer ∈ zG := zG_mem 91 rfl rfl
theorem g_1671 : Cond.code yX12_isRealizer cX12_isRealizer 4 (some .boolean) ∈ zG := zt_7 (i := 131) rfl rfl
theorem m_X12_336 : zMV "OrderGaugeModel" 336 MX12_isRealizer 11 1 := ⟨⟨_, _, rfl⟩, g_1668, g_1670, g_91, g_113, g_1671, ⟨by decide, by decide, by decide⟩, by decide⟩
theorem g_1672 : Cond.methodLink "OrderGaugeModel" 339 yX12_areUnlike ∈ zG := zt_7 (i := 132) rfl rfl
theorem g_1674 : Cond.instanceMethod yX12_areUnlike ∈ zG := zt_7 (i := 134) rfl rfl
theorem g_92 : Cond.selects "OrderGaugeModel" yX12_areUnlike yX12_areUnlike ∈ zG := zG_mem 92 rfl rfl
theorem g_1675 : Cond.code yX12_areUnlike cX12_areUnlike 6 (some .boolean) ∈ zG := zt_7 (i := 135) rfl rfl
theorem m_X12_339 : zMV "OrderGaugeModel" 339 MX12_areUnlike 11 1 := ⟨⟨_, _, rfl⟩, g_1672, g_1674, g_92, g_113, g_1675, ⟨by decide, by decide, by decide⟩, by decide⟩
theorem g_1676 : Cond.methodLink "OrderGaugeLaw" 128 yX12_realizes ∈ zG := zt_7 (i := 136) rfl rfl
theorem g_1677 : Cond.instanceMethod yX12_realizes ∈ zG := zt_7 (i := 137) rfl rfl
theorem g_1678 : Cond.selects "OrderGaugeModel" yX12_realizes yX12_realizes ∈ zG := zt_7 (i := 138) rfl rfl
theorem g_1679 : Cond.code yX12_realizes cX12_realizes 8 (some .int) ∈ zG := zt_7 (i := 139) rfl rfl
theorem m_L_128 : zMV "OrderGaugeLaw" 128 MX12_realizes 11 3 := ⟨⟨_, _, rfl⟩, g_1676, g_1677, g_1678, g_113, g_1679, ⟨by decide, by decide, by decide⟩, by decide⟩
theorem g_1681 : Cond.methodLink "OrderGaugeModel" 358 yX12_sought ∈ zG := zt_7 (i := 141) rfl rfl
theorem g_1683 : Cond.instanceMethod yX12_sought ∈ zG := zt_7 (i := 143) rfl rfl
theorem g_93 : Cond.selects "OrderGaugeModel" yX12_sought yX12_sought ∈ zG := zG_mem 93 rfl rfl
theorem g_1684 : Cond.code yX12_sought cX12_sought 4 (some .int) ∈ zG := zt_7 (i := 144) rfl rfl
theorem m_X12_358 : zMV "OrderGaugeModel" 358 MX12_sought 11 3 := ⟨⟨_, _, rfl⟩, g_1681, g_1683, g_93, g_113, g_1684, ⟨by decide, by decide, by decide⟩, by decide⟩
theorem g_1685 : Cond.methodLink "OrderGaugeModel" 352 yX12_searches ∈ zG := zt_7 (i := 145) rfl rfl
theorem g_1687 : Cond.instanceMethod yX12_searches ∈ zG := zt_7 (i := 147) rfl rfl
theorem g_94 : Cond.selects "OrderGaugeModel" yX12_searches yX12_searches ∈ zG := zG_mem 94 rfl rfl
theorem g_1688 : Cond.code yX12_searches cX12_searches 8 (some .int) ∈ zG := zt_7 (i := 148) rfl rfl
theorem m_X12_352 : zMV "OrderGaugeModel" 352 MX12_searches 11 5 := ⟨⟨_, _, rfl⟩, g_1685, g_1687, g_94, g_113, g_1688, ⟨by decide, by decide, by decide⟩, by decide⟩
theorem g_1689 : Cond.methodLink "OrderGaugeModel" 345 yX12_laysPlace ∈ zG := zt_7 (i := 149) rfl rfl
theorem g_1691 : Cond.instanceMethod yX12_laysPlace ∈ zG := zt_7 (i := 151) rfl rfl
theorem g_95 : Cond.selects "OrderGaugeModel" yX12_laysPlace yX12_laysPlace ∈ zG := zG_mem 95 rfl rfl
theorem g_1692 : Cond.code yX12_laysPlace cX12_laysPlace 6 none ∈ zG := zt_7 (i := 152) rfl rfl
theorem m_X12_345 : zMV "OrderGaugeModel" 345 MX12_laysPlace 11 4 := ⟨⟨_, _, rfl⟩, g_1689, g_1691, g_95, g_113, g_1692, ⟨by decide, by decide, by decide⟩, by decide⟩
theorem g_1693 : Cond.methodLink "OrderGaugeModel" 349 yX12_laysRow ∈ zG := zt_7 (i := 153) rfl rfl
theorem g_1695 : Cond.instanceMethod yX12_laysRow ∈ zG := zt_7 (i := 155) rfl rfl
theorem g_96 : Cond.selects "OrderGaugeModel" yX12_laysRow yX12_laysRow ∈ zG := zG_mem 96 rfl rfl
theorem g_1696 : Cond.code yX12_laysRow cX12_laysRow 6 (some .boolean) ∈ zG := zt_7 (i := 156) rfl rfl
theorem m_X12_349 : zMV "OrderGaugeModel" 349 MX12_laysRow 11 2 := ⟨⟨_, _, rfl⟩, g_1693, g_1695, g_96, g_113, g_1696, ⟨by decide, by decide, by decide⟩, by decide⟩
theorem g_1697 : Cond.methodLink "OrderGaugeLaw" 132 yX12_dimension ∈ zG := zt_7 (i := 157) rfl rfl
theorem g_1698 : Cond.instanceMethod yX12_dimension ∈ zG := zt_7 (i := 158) rfl rfl
theorem g_1699 : Cond.selects "OrderGaugeModel" yX12_dimension yX12_dimension ∈ zG := zt_7 (i := 159) rfl rfl
theorem g_1700 : Cond.code yX12_dimension cX12_dimension 5 (some .int) ∈ zG := zt_7 (i := 160) rfl rfl
theorem m_L_132 : zMV "OrderGaugeLaw" 132 MX12_dimension 11 2 := ⟨⟨_, _, rfl⟩, g_1697, g_1698, g_1699, g_113, g_1700, ⟨by decide, by decide, by decide⟩, by decide⟩
theorem g_1701 : Cond.methodLink "OrderGaugeLaw" 136 yX12_row ∈ zG := zt_7 (i := 161) rfl rfl
theorem g_1702 : Cond.instanceMethod yX12_row ∈ zG := zt_7 (i := 162) rfl rfl
theorem g_1703 : Cond.selects "OrderGaugeModel" yX12_row yX12_row ∈ zG := zt_7 (i := 163) rfl rfl
theorem g_1704 : Cond.code yX12_row cX12_row 4 (some .int) ∈ zG := zt_7 (i := 164) rfl rfl
theorem m_L_136 : zMV "OrderGaugeLaw" 136 MX12_row 11 3 := ⟨⟨_, _, rfl⟩, g_1701, g_1702, g_1703, g_113, g_1704, ⟨by decide, by decide, by decide⟩, by decide⟩
theorem g_1705 : Cond.methodLink "OrderGaugeLaw" 140 yX12_adds ∈ zG := zt_7 (i := 165) rfl rfl
theorem g_1706 : Cond.instanceMethod yX12_adds ∈ zG := zt_7 (i := 166) rfl rfl
theorem g_1707 : Cond.selects "OrderGaugeModel" yX12_adds yX12_adds ∈ zG := zt_7 (i := 167) rfl rfl
theorem g_1708 : Cond.code yX12_adds cX12_adds 4 (some .int) ∈ zG := zt_7 (i := 168) rfl rfl
theorem m_L_140 : zMV "OrderGaugeLaw" 140 MX12_adds 11 2 := ⟨⟨_, _, rfl⟩, g_1705, g_1706, g_1707, g_113, g_1708, ⟨by decide, by decide, by decide⟩, by decide⟩
theorem g_1709 : Cond.methodLink "OrderGaugeLaw" 144 yX12_takes ∈ zG := zt_7 (i := 169) rfl rfl
theorem g_1710 : Cond.instanceMethod yX12_takes ∈ zG := zt_7 (i := 170) rfl rfl
theorem g_1711 : Cond.selects "OrderGaugeModel" yX12_takes yX12_takes ∈ zG := zt_7 (i := 171) rfl rfl
theorem g_1712 : Cond.code yX12_takes cX12_takes 5 (some .int) ∈ zG := zt_7 (i := 172) rfl rfl
theorem m_L_144 : zMV "OrderGaugeLaw" 144 MX12_takes 11 2 := ⟨⟨_, _, rfl⟩, g_1709, g_1710, g_1711, g_113, g_1712, ⟨by decide, by decide, by decide⟩, by decide⟩
theorem g_1713 : Cond.methodLink "OrderGaugeLaw" 148 yX12_puts ∈ zG := zt_7 (i := 173) rfl rfl
theorem g_1714 : Cond.instanceMethod yX12_puts ∈ zG := zt_7 (i := 174) rfl rfl
theorem g_1715 : Cond.selects "OrderGaugeModel" yX12_puts yX12_puts ∈ zG := zt_7 (i := 175) rfl rfl
theorem g_1716 : Cond.code yX12_puts cX12_puts 5 (some .int) ∈ zG := zt_7 (i := 176) rfl rfl
theorem m_L_148 : zMV "OrderGaugeLaw" 148 MX12_puts 11 3 := ⟨⟨_, _, rfl⟩, g_1713, g_1714, g_1715, g_113, g_1716, ⟨by decide, by decide, by decide⟩, by decide⟩
theorem g_1717 : Cond.methodLink "OrderGaugeLaw" 152 yX12_cuts ∈ zG := zt_7 (i := 177) rfl rfl
theorem g_1718 : Cond.instanceMethod yX12_cuts ∈ zG := zt_7 (i := 178) rfl rfl
theorem g_1719 : Cond.selects "OrderGaugeModel" yX12_cuts yX12_cuts ∈ zG := zt_7 (i := 179) rfl rfl
theorem g_1720 : Cond.code yX12_cuts cX12_cuts 4 (some .int) ∈ zG := zt_7 (i := 180) rfl rfl
theorem m_L_152 : zMV "OrderGaugeLaw" 152 MX12_cuts 11 3 := ⟨⟨_, _, rfl⟩, g_1717, g_1718, g_1719, g_113, g_1720, ⟨by decide, by decide, by decide⟩, by decide⟩
theorem g_1721 : Cond.methodLink "OrderGaugeLaw" 156 yX12_flip ∈ zG := zt_7 (i := 181) rfl rfl
theorem g_1722 : Cond.instanceMethod yX12_flip ∈ zG := zt_7 (i := 182) rfl rfl
theorem g_1723 : Cond.selects "OrderGaugeModel" yX12_flip yX12_flip ∈ zG := zt_7 (i := 183) rfl rfl
theorem g_1724 : Cond.code yX12_flip cX12_flip 4 (some .int) ∈ zG := zt_7 (i := 184) rfl rfl
theorem m_L_156 : zMV "OrderGaugeLaw" 156 MX12_flip 11 1 := ⟨⟨_, _, rfl⟩, g_1721, g_1722, g_1723, g_113, g_1724, ⟨by decide, by decide, by decide⟩, by decide⟩
theorem g_1725 : Cond.methodLink "OrderGaugeLaw" 160 yX12_without ∈ zG := zt_7 (i := 185) rfl rfl
theorem g_1726 : Cond.instanceMethod yX12_without ∈ zG := zt_7 (i := 186) rfl rfl
theorem g_1727 : Cond.selects "OrderGaugeModel" yX12_without yX12_without ∈ zG := zt_7 (i := 187) rfl rfl
theorem g_1728 : Cond.code yX12_without cX12_without 8 (some .int) ∈ zG := zt_7 (i := 188) rfl rfl
theorem m_L_160 : zMV "OrderGaugeLaw" 160 MX12_without 11 2 := ⟨⟨_, _, rfl⟩, g_1725, g_1726, g_1727, g_113, g_1728, ⟨by decide, by decide, by decide⟩, by decide⟩
theorem g_1729 : Cond.methodLink "OrderGaugeModel" 361 yX12_without1 ∈ zG := zt_7 (i := 189) rfl rfl
theorem g_1730 : Cond.static yX12_without1 ∈ zG := zt_7 (i := 190) rfl rfl
theorem g_1731 : Cond.code yX12_without1 cX12_without1 3 (some .int) ∈ zG := zt_7 (i := 191) rfl rfl
theorem m_X12_361 : zMS "OrderGaugeModel" 361 MX12_without1 2 := ⟨g_1729, g_1730, g_113, g_1731, ⟨by decide, by decide, by decide⟩, by decide⟩
theorem g_1732 : Cond.methodLink "OrderGaugeLaw" 165 yX12_joins ∈ zG := zt_7 (i := 192) rfl rfl
theorem g_1733 : Cond.instanceMethod yX12_joins ∈ zG := zt_7 (i := 193) rfl rfl
theorem g_1734 : Cond.selects "OrderGaugeModel" yX12_joins yX12_joins ∈ zG := zt_7 (i := 194) rfl rfl
theorem g_1735 : Cond.code yX12_joins cX12_joins 8 (some .int) ∈ zG := zt_7 (i := 195) rfl rfl
theorem m_L_165 : zMV "OrderGaugeLaw" 165 MX12_joins 11 4 := ⟨⟨_, _, rfl⟩, g_1732, g_1733, g_1734, g_113, g_1735, ⟨by decide, by decide, by decide⟩, by decide⟩
theorem g_1736 : Cond.methodLink "OrderGaugeLaw" 169 yX12_alike ∈ zG := zt_7 (i := 196) rfl rfl
theorem g_1737 : Cond.instanceMethod yX12_alike ∈ zG := zt_7 (i := 197) rfl rfl
theorem g_1738 : Cond.selects "OrderGaugeModel" yX12_alike yX12_alike ∈ zG := zt_7 (i := 198) rfl rfl
theorem g_1739 : Cond.code yX12_alike cX12_alike 3 (some .int) ∈ zG := zt_7 (i := 199) rfl rfl
theorem m_L_169 : zMV "OrderGaugeLaw" 169 MX12_alike 11 2 := ⟨⟨_, _, rfl⟩, g_1736, g_1737, g_1738, g_113, g_1739, ⟨by decide, by decide, by decide⟩, by decide⟩
theorem g_1740 : Cond.methodLink "OrderGaugeModel" 364 yX12_names ∈ zG := zt_7 (i := 200) rfl rfl
theorem g_1742 : Cond.instanceMethod yX12_names ∈ zG := zt_7 (i := 202) rfl rfl
theorem g_97 : Cond.selects "OrderGaugeModel" yX12_names yX12_names ∈ zG := zG_mem 97 rfl rfl
theorem g_1743 : Cond.code yX12_names cX12_names 10 (some .int) ∈ zG := zt_7 (i := 203) rfl rfl
theorem m_X12_364 : zMV "OrderGaugeModel" 364 MX12_names 11 5 := ⟨⟨_, _, rfl⟩, g_1740, g_1742, g_97, g_113, g_1743, ⟨by decide, by decide, by decide⟩, by decide⟩
theorem g_1744 : Cond.methodLink "OrderGaugeLaw" 173 yX12_selves ∈ zG := zt_7 (i := 204) rfl rfl
theorem g_1745 : Cond.instanceMethod yX12_selves ∈ zG := zt_7 (i := 205) rfl rfl
theorem g_1746 : Cond.selects "OrderGaugeModel" yX12_selves yX12_selves ∈ zG := zt_7 (i := 206) rfl rfl
theorem g_1747 : Cond.code yX12_selves cX12_selves 2 (some .int) ∈ zG := zt_7 (i := 207) rfl rfl
theorem m_L_173 : zMV "OrderGaugeLaw" 173 MX12_selves 11 1 := ⟨⟨_, _, rfl⟩, g_1744, g_1745, g_1746, g_113, g_1747, ⟨by decide, by decide, by decide⟩, by decide⟩
theorem g_1748 : Cond.methodLink "OrderGaugeLaw" 186 yX12_tell ∈ zG := zt_7 (i := 208) rfl rfl
theorem g_1749 : Cond.instanceMethod yX12_tell ∈ zG := zt_7 (i := 209) rfl rfl
theorem g_1750 : Cond.selects "OrderGaugeModel" yX12_tell yX12_tell ∈ zG := zt_7 (i := 210) rfl rfl
theorem g_1751 : Cond.code yX12_tell cX12_tell 5 (some .int) ∈ zG := zt_7 (i := 211) rfl rfl
theorem m_L_186 : zMV "OrderGaugeLaw" 186 MX12_tell 11 1 := ⟨⟨_, _, rfl⟩, g_1748, g_1749, g_1750, g_113, g_1751, ⟨by decide, by decide, by decide⟩, by decide⟩
theorem g_1753 : Cond.methodLink "OrderGaugeModel" 370 yX12_says ∈ zG := zt_7 (i := 213) rfl rfl
theorem g_1755 : Cond.instanceMethod yX12_says ∈ zG := zt_7 (i := 215) rfl rfl
theorem g_98 : Cond.selects "OrderGaugeModel" yX12_says yX12_says ∈ zG := zG_mem 98 rfl rfl
theorem g_1756 : Cond.code yX12_says cX12_says 3 none ∈ zG := zt_7 (i := 216) rfl rfl
theorem m_X12_370 : zMV "OrderGaugeModel" 370 MX12_says 11 1 := ⟨⟨_, _, rfl⟩, g_1753, g_1755, g_98, g_113, g_1756, ⟨by decide, by decide, by decide⟩, by decide⟩
theorem g_1757 : Cond.methodLink "OrderGaugeModel" 374 yX12_saysDigit ∈ zG := zt_7 (i := 217) rfl rfl
theorem g_1759 : Cond.instanceMethod yX12_saysDigit ∈ zG := zt_7 (i := 219) rfl rfl
theorem g_99 : Cond.selects "OrderGaugeModel" yX12_saysDigit yX12_saysDigit ∈ zG := zG_mem 99 rfl rfl
theorem g_1760 : Cond.code yX12_saysDigit cX12_saysDigit 2 none ∈ zG := zt_7 (i := 220) rfl rfl
theorem m_X12_374 : zMV "OrderGaugeModel" 374 MX12_saysDigit 11 1 := ⟨⟨_, _, rfl⟩, g_1757, g_1759, g_99, g_113, g_1760, ⟨by decide, by decide, by decide⟩, by decide⟩
theorem g_1766 : Cond.methodLink "OrderGaugeLaw" 190 yX12_octet ∈ zG := zt_7 (i := 226) rfl rfl
theorem g_1767 : Cond.instanceMethod yX12_octet ∈ zG := zt_7 (i := 227) rfl rfl
theorem g_1768 : Cond.selects "OrderGaugeModel" yX12_octet yX12_octet ∈ zG := zt_7 (i := 228) rfl rfl
theorem g_1769 : Cond.code yX12_octet cX12_octet 2 (some .int) ∈ zG := zt_7 (i := 229) rfl rfl
theorem m_L_190 : zMV "OrderGaugeLaw" 190 MX12_octet 11 1 := ⟨⟨_, _, rfl⟩, g_1766, g_1767, g_1768, g_113, g_1769, ⟨by decide, by decide, by decide⟩, by decide⟩
theorem g_133 : Cond.instanceMethod yX5_init ∈ zG := zt_1 (i := 33) rfl rfl
theorem g_134 : Cond.code yX5_init cX5_init 1 none ∈ zG := zt_1 (i := 34) rfl rfl
theorem m_X11_15 : zMI "OrderGauge" 15 MX5_init 0 := ⟨Or.inr (List.mem_of_getElem? (i := 0) rfl), rfl, rfl, g_133, g_102, g_134, ⟨by decide, by decide, by decide⟩, by decide⟩
theorem g_139 : Cond.instanceMethod yX8_init ∈ zG := zt_1 (i := 39) rfl rfl
theorem g_140 : Cond.code yX8_init cX8_init 1 none ∈ zG := zt_1 (i := 40) rfl rfl
theorem m_X5_20 : zMI "OrderGauge$Order" 20 MX8_init 0 := ⟨Or.inr (List.mem_of_getElem? (i := 1) rfl), rfl, rfl, g_139, g_103, g_140, ⟨by decide, by decide, by decide⟩, by decide⟩
theorem m_X6_21 : zMI "OrderGauge$Past" 21 MX5_init 0 := ⟨Or.inr (List.mem_of_getElem? (i := 2) rfl), rfl, rfl, g_133, g_102, g_134, ⟨by decide, by decide, by decide⟩, by decide⟩
theorem g_228 : Cond.instanceMethod yX1_init ∈ zG := zt_1 (i := 128) rfl rfl
theorem g_229 : Cond.code yX1_init cX1_init 1 none ∈ zG := zt_1 (i := 129) rfl rfl
theorem m_X11_50 : zMI "OrderGauge" 50 MX1_init 0 := ⟨Or.inr (List.mem_of_getElem? (i := 3) rfl), rfl, rfl, g_228, g_108, g_229, ⟨by decide, by decide, by decide⟩, by decide⟩
theorem g_244 : Cond.instanceMethod yX4_init ∈ zG := zt_1 (i := 144) rfl rfl
theorem g_245 : Cond.code yX4_init cX4_init 1 none ∈ zG := zt_1 (i := 145) rfl rfl
theorem m_X11_57 : zMI "OrderGauge" 57 MX4_init 0 := ⟨Or.inr (List.mem_of_getElem? (i := 4) rfl), rfl, rfl, g_244, g_109, g_245, ⟨by decide, by decide, by decide⟩, by decide⟩
theorem g_257 : Cond.instanceMethod yX2_init ∈ zG := zt_1 (i := 157) rfl rfl
theorem g_258 : Cond.code yX2_init cX2_init 1 none ∈ zG := zt_1 (i := 158) rfl rfl
theorem m_X11_64 : zMI "OrderGauge" 64 MX2_init 0 := ⟨Or.inr (List.mem_of_getElem? (i := 5) rfl), rfl, rfl, g_257, g_110, g_258, ⟨by decide, by decide, by decide⟩, by decide⟩
theorem g_267 : Cond.instanceMethod yX9_init ∈ zG := zt_1 (i := 167) rfl rfl
theorem g_268 : Cond.code yX9_init cX9_init 1 none ∈ zG := zt_1 (i := 168) rfl rfl
theorem m_X11_71 : zMI "OrderGauge" 71 MX9_init 0 := ⟨Or.inr (List.mem_of_getElem? (i := 6) rfl), rfl, rfl, g_267, g_111, g_268, ⟨by decide, by decide, by decide⟩, by decide⟩
theorem g_295 : Cond.instanceMethod yX3_init ∈ zG := zt_1 (i := 195) rfl rfl
theorem g_296 : Cond.code yX3_init cX3_init 1 none ∈ zG := zt_1 (i := 196) rfl rfl
theorem m_X11_78 : zMI "OrderGauge" 78 MX3_init 0 := ⟨Or.inr (List.mem_of_getElem? (i := 7) rfl), rfl, rfl, g_295, g_112, g_296, ⟨by decide, by decide, by decide⟩, by decide⟩
theorem m_X3_28 : zMSN "OrderGauge$Likeness" 28 MX11_bit 1 := ⟨List.mem_of_getElem? (i := 8) rfl, g_708, g_101, g_709, ⟨by decide, by decide, by decide⟩, by decide⟩
theorem g_121 : Cond.classLink "OrderGaugeLaw" 7 "OrderGauge" ∈ zG := zt_1 (i := 21) rfl rfl
theorem g_122 : Cond.instantiable "OrderGauge" 11 ∈ zG := zt_1 (i := 22) rfl rfl
theorem n_L_7 : zNW "OrderGaugeLaw" 7 10 11 [.null, .null, .null, .null, .null, .null, .null, .null, .null, .null, .null] := ⟨RX11, TX11, tyX11, rfl, in_X11, tyX11_ok, g_121, g_122, g_101, fun X j hj => by
  match j, hj with
  | 0, _ => rfl
  | 1, _ => rfl
  | 2, _ => rfl
  | 3, _ => rfl
  | 4, _ => rfl
  | 5, _ => rfl
  | 6, _ => rfl
  | 7, _ => rfl
  | 8, _ => rfl
  | 9, _ => rfl
  | 10, _ => rfl
  | k + 11, h => exact absurd h (by omega)⟩
theorem g_129 : Cond.classLink "OrderGauge" 9 "OrderGauge$Order" ∈ zG := zt_1 (i := 29) rfl rfl
theorem g_131 : Cond.instantiable "OrderGauge$Order" 4 ∈ zG := zt_1 (i := 31) rfl rfl
theorem n_X11_9 : zNW "OrderGauge" 9 5 4 [.null, .null, .null, .int 0] := ⟨RX5, TX5, tyX5, rfl, in_X5, tyX5_ok, g_129, g_131, g_102, fun X j hj => by
  match j, hj with
  | 0, _ => rfl
  | 1, _ => rfl
  | 2, _ => rfl
  | 3, _ => rfl
  | k + 4, h => exact absurd h (by omega)⟩
theorem g_136 : Cond.classLink "OrderGauge$Order" 18 "OrderGauge$Rows" ∈ zG := zt_1 (i := 36) rfl rfl
theorem g_137 : Cond.instantiable "OrderGauge$Rows" 2 ∈ zG := zt_1 (i := 37) rfl rfl
theorem n_X5_18 : zNW "OrderGauge$Order" 18 8 2 [.null, .int 0] := ⟨RX8, TX8, tyX8, rfl, in_X8, tyX8_ok, g_136, g_137, g_103, fun X j hj => by
  match j, hj with
  | 0, _ => rfl
  | 1, _ => rfl
  | k + 2, h => exact absurd h (by omega)⟩
theorem g_163 : Cond.classLink "OrderGauge" 20 "OrderGauge$Past" ∈ zG := zt_1 (i := 63) rfl rfl
theorem g_164 : Cond.instantiable "OrderGauge$Past" 4 ∈ zG := zt_1 (i := 64) rfl rfl
theorem n_X11_20 : zNW "OrderGauge" 20 6 4 [.null, .null, .int 0, .int 0] := ⟨RX6, TX6, tyX6, rfl, in_X6, tyX6_ok, g_163, g_164, g_104, fun X j hj => by
  match j, hj with
  | 0, _ => rfl
  | 1, _ => rfl
  | 2, _ => rfl
  | 3, _ => rfl
  | k + 4, h => exact absurd h (by omega)⟩
theorem g_169 : Cond.classLink "OrderGauge$Past" 9 "OrderGauge$Order" ∈ zG := zt_1 (i := 69) rfl rfl
theorem n_X6_9 : zNW "OrderGauge$Past" 9 5 4 [.null, .null, .null, .int 0] := ⟨RX5, TX5, tyX5, rfl, in_X5, tyX5_ok, g_169, g_131, g_102, fun X j hj => by
  match j, hj with
  | 0, _ => rfl
  | 1, _ => rfl
  | 2, _ => rfl
  | 3, _ => rfl
  | k + 4, h => exact absurd h (by omega)⟩
theorem g_184 : Cond.classLink "OrderGauge" 27 "OrderGauge$Bytes" ∈ zG := zt_1 (i := 84) rfl rfl
theorem g_185 : Cond.instantiable "OrderGauge$Bytes" 2 ∈ zG := zt_1 (i := 85) rfl rfl
theorem n_X11_27 : zNW "OrderGauge" 27 0 2 [.null, .int 0] := ⟨RX0, TX0, tyX0, rfl, in_X0, tyX0_ok, g_184, g_185, g_105, fun X j hj => by
  match j, hj with
  | 0, _ => rfl
  | 1, _ => rfl
  | k + 2, h => exact absurd h (by omega)⟩
theorem g_200 : Cond.classLink "OrderGauge" 39 "OrderGauge$Reader" ∈ zG := zt_1 (i := 100) rfl rfl
theorem g_201 : Cond.instantiable "OrderGauge$Reader" 6 ∈ zG := zt_1 (i := 101) rfl rfl
theorem n_X11_39 : zNW "OrderGauge" 39 7 6 [.null, .int 0, .int 0, .int 0, .int 0, .int 0] := ⟨RX7, TX7, tyX7, rfl, in_X7, tyX7_ok, g_200, g_201, g_107, fun X j hj => by
  match j, hj with
  | 0, _ => rfl
  | 1, _ => rfl
  | 2, _ => rfl
  | 3, _ => rfl
  | 4, _ => rfl
  | 5, _ => rfl
  | k + 6, h => exact absurd h (by omega)⟩
theorem g_225 : Cond.classLink "OrderGauge" 48 "OrderGauge$Chains" ∈ zG := zt_1 (i := 125) rfl rfl
theorem g_226 : Cond.instantiable "OrderGauge$Chains" 3 ∈ zG := zt_1 (i := 126) rfl rfl
theorem n_X11_48 : zNW "OrderGauge" 48 1 3 [.null, .null, .null] := ⟨RX1, TX1, tyX1, rfl, in_X1, tyX1_ok, g_225, g_226, g_108, fun X j hj => by
  match j, hj with
  | 0, _ => rfl
  | 1, _ => rfl
  | 2, _ => rfl
  | k + 3, h => exact absurd h (by omega)⟩
theorem g_241 : Cond.classLink "OrderGauge" 55 "OrderGauge$Lines" ∈ zG := zt_1 (i := 141) rfl rfl
theorem g_242 : Cond.instantiable "OrderGauge$Lines" 2 ∈ zG := zt_1 (i := 142) rfl rfl
theorem n_X11_55 : zNW "OrderGauge" 55 4 2 [.null, .null] := ⟨RX4, TX4, tyX4, rfl, in_X4, tyX4_ok, g_241, g_242, g_109, fun X j hj => by
  match j, hj with
  | 0, _ => rfl
  | 1, _ => rfl
  | k + 2, h => exact absurd h (by omega)⟩
theorem g_254 : Cond.classLink "OrderGauge" 62 "OrderGauge$Jumps" ∈ zG := zt_1 (i := 154) rfl rfl
theorem g_255 : Cond.instantiable "OrderGauge$Jumps" 1 ∈ zG := zt_1 (i := 155) rfl rfl
theorem n_X11_62 : zNW "OrderGauge" 62 2 1 [.null] := ⟨RX2, TX2, tyX2, rfl, in_X2, tyX2_ok, g_254, g_255, g_110, fun X j hj => by
  match j, hj with
  | 0, _ => rfl
  | k + 1, h => exact absurd h (by omega)⟩
theorem g_264 : Cond.classLink "OrderGauge" 69 "OrderGauge$Search" ∈ zG := zt_1 (i := 164) rfl rfl
theorem g_265 : Cond.instantiable "OrderGauge$Search" 7 ∈ zG := zt_1 (i := 165) rfl rfl
theorem n_X11_69 : zNW "OrderGauge" 69 9 7 [.null, .null, .null, .null, .null, .null, .int 0] := ⟨RX9, TX9, tyX9, rfl, in_X9, tyX9_ok, g_264, g_265, g_111, fun X j hj => by
  match j, hj with
  | 0, _ => rfl
  | 1, _ => rfl
  | 2, _ => rfl
  | 3, _ => rfl
  | 4, _ => rfl
  | 5, _ => rfl
  | 6, _ => rfl
  | k + 7, h => exact absurd h (by omega)⟩
theorem g_292 : Cond.classLink "OrderGauge" 76 "OrderGauge$Likeness" ∈ zG := zt_1 (i := 192) rfl rfl
theorem g_293 : Cond.instantiable "OrderGauge$Likeness" 1 ∈ zG := zt_1 (i := 193) rfl rfl
theorem n_X11_76 : zNW "OrderGauge" 76 3 1 [.null] := ⟨RX3, TX3, tyX3, rfl, in_X3, tyX3_ok, g_292, g_293, g_112, fun X j hj => by
  match j, hj with
  | 0, _ => rfl
  | k + 1, h => exact absurd h (by omega)⟩
theorem g_1203 : Cond.classLink "OrderGaugeLaw" 10 "OrderGaugeModel" ∈ zG := zt_5 (i := 143) rfl rfl
theorem g_1204 : Cond.instantiable "OrderGaugeModel" 29 ∈ zG := zt_5 (i := 144) rfl rfl
theorem n_L_10 : zNW "OrderGaugeLaw" 10 11 29 [.null, .null, .null, .int 0, .null, .int 0, .int 0, .int 0, .int 0, .int 0, .int 0, .int 0, .int 0, .null, .null, .null, .int 0, .null, .null, .null, .null, .int 0, .null, .int 0, .null, .null, .null, .null, .int 0] := ⟨RX12, TX12, tyX12, rfl, in_X12, tyX12_ok, g_1203, g_1204, g_113, fun X j hj => by
  match j, hj with
  | 0, _ => rfl
  | 1, _ => rfl
  | 2, _ => rfl
  | 3, _ => rfl
  | 4, _ => rfl
  | 5, _ => rfl
  | 6, _ => rfl
  | 7, _ => rfl
  | 8, _ => rfl
  | 9, _ => rfl
  | 10, _ => rfl
  | 11, _ => rfl
  | 12, _ => rfl
  | 13, _ => rfl
  | 14, _ => rfl
  | 15, _ => rfl
  | 16, _ => rfl
  | 17, _ => rfl
  | 18, _ => rfl
  | 19, _ => rfl
  | 20, _ => rfl
  | 21, _ => rfl
  | 22, _ => rfl
  | 23, _ => rfl
  | 24, _ => rfl
  | 25, _ => rfl
  | 26, _ => rfl
  | 27, _ => rfl
  | 28, _ => rfl
  | k + 29, h => exact absurd h (by omega)⟩
theorem g_499 : Cond.constant "java/lang/Integer" 265 1431655765 ∈ zG := zt_2 (i := 159) rfl rfl
theorem g_500 : Cond.constant "java/lang/Integer" 266 858993459 ∈ zG := zt_2 (i := 160) rfl rfl
theorem g_501 : Cond.constant "java/lang/Integer" 267 252645135 ∈ zG := zt_2 (i := 161) rfl rfl
theorem g_1012 : Cond.constant "OrderGauge" 352 100000 ∈ zG := zt_4 (i := 192) rfl rfl
theorem g_1308 : Cond.constantLong "OrderGaugeModel" 62 2 ∈ zG := zt_6 (i := 8) rfl rfl
theorem g_1492 : Cond.constantLong "OrderGaugeModel" 234 8 ∈ zG := zt_6 (i := 192) rfl rfl
theorem g_1509 : Cond.constantLong "OrderGaugeModel" 245 4 ∈ zG := zt_6 (i := 209) rfl rfl
theorem g_1514 : Cond.constantLong "OrderGaugeModel" 277 6 ∈ zG := zt_6 (i := 214) rfl rfl
theorem g_1680 : Cond.constantLong "OrderGaugeModel" 356 100000 ∈ zG := zt_7 (i := 140) rfl rfl
theorem g_127 : Cond.instanceMethod objectInit ∈ zG := zt_1 (i := 27) rfl rfl
theorem g_128 : Cond.code objectInit ⟨#[0xb1]⟩ 1 none ∈ zG := zt_1 (i := 28) rfl rfl
theorem g_106 : Cond.initialized "java/lang/Math" ∈ zG := zt_1 (i := 6) rfl rfl
theorem g_119 : Cond.initialized "java/lang/System" ∈ zG := zt_1 (i := 19) rfl rfl
theorem g_572 : Cond.native ⟨"java/lang/System", "arraycopy", "(Ljava/lang/Object;ILjava/lang/Object;II)V"⟩ ∈ zG := zt_2 (i := 232) rfl rfl
theorem g_571 : Cond.static ⟨"java/lang/System", "arraycopy", "(Ljava/lang/Object;ILjava/lang/Object;II)V"⟩ ∈ zG := zt_2 (i := 231) rfl rfl
theorem g_149 : Cond.arrayClass .int ∈ zG := zt_1 (i := 49) rfl rfl
theorem g_191 : Cond.static yJ9_max_7cf53 ∈ zG := zt_1 (i := 91) rfl rfl
theorem g_192 : Cond.code yJ9_max_7cf53 cJ9_max_7cf53 2 (some .int) ∈ zG := zt_1 (i := 92) rfl rfl
theorem g_453 : Cond.static yJ9_min_7cf53 ∈ zG := zt_2 (i := 113) rfl rfl
theorem g_454 : Cond.code yJ9_min_7cf53 cJ9_min_7cf53 2 (some .int) ∈ zG := zt_2 (i := 114) rfl rfl
theorem g_890 : Cond.static yJ9_abs_0f7a4 ∈ zG := zt_4 (i := 70) rfl rfl
theorem g_891 : Cond.code yJ9_abs_0f7a4 cJ9_abs_0f7a4 1 (some .int) ∈ zG := zt_4 (i := 71) rfl rfl
