/-! THE METHODS -/
def zmds : List zMd := [
  (yJ6_bitCount_0f7a4, cJ6_bitCount_0f7a4, 1, some .int, 1, 1),
  (yJ7_fill_53178, cJ7_fill_53178, 4, none, 2, 1),
  (yJ0_indexOf_0f7a4, cJ0_indexOf_0f7a4, 2, some .int, 1, 0),
  (yJ0_indexOf_7cf53, cJ0_indexOf_7cf53, 3, some .int, 2, 0),
  (yJ0_isLatin1_aae02, cJ0_isLatin1_aae02, 1, some .boolean, 0, 0),
  (yJ0_length_8abf5, cJ0_length_8abf5, 1, some .int, 0, 0),
  (yJ0_coder_7d493, cJ0_coder_7d493, 1, some .byte, 0, 0),
  (yJ1_indexOf_4cfef, cJ1_indexOf_4cfef, 4, some .int, 4, 1),
  (yJ1_canEncode_9a6ad, cJ1_canEncode_9a6ad, 1, some .boolean, 1, 1),
  (yJ1_indexOfChar_4cfef, cJ1_indexOfChar_4cfef, 6, some .int, 4, 1),
  (yX0_init, cX0_init, 2, none, 0, 2),
  (yX0_add, cX0_add, 4, some .int, 3, 0),
  (yX0_join, cX0_join, 5, none, 3, 0),
  (yX0_apart, cX0_apart, 3, some .int, 2, 0),
  (yX0_untrueAt, cX0_untrueAt, 2, some .int, 1, 0),
  (yX1_init, cX1_init, 2, none, 1, 2),
  (yX1_addPerson, cX1_addPerson, 4, some .int, 3, 0),
  (yX1_beginOf, cX1_beginOf, 2, some .int, 1, 0),
  (yX1_goalOf, cX1_goalOf, 2, some .int, 1, 0),
  (yX1_carriedBy, cX1_carriedBy, 2, some .int, 1, 0),
  (yX1_tellThing, cX1_tellThing, 5, none, 4, 0),
  (yX1_freshen, cX1_freshen, 3, none, 1, 0),
  (yX1_bringing, cX1_bringing, 5, some .int, 2, 0),
  (yX1_send, cX1_send, 6, none, 1, 0),
  (yX1_bestSender, cX1_bestSender, 7, some .int, 2, 0),
  (yX1_weigh, cX1_weigh, 4, some .int, 3, 0),
  (yX1_senderOf, cX1_senderOf, 2, some .int, 1, 0),
  (yX1_sentOf, cX1_sentOf, 4, some .int, 1, 0),
  (yX1_costOfSent, cX1_costOfSent, 4, some .int, 1, 0),
  (yX2_init, cX2_init, 1, none, 0, 2),
  (yX2_clear, cX2_clear, 1, none, 0, 0),
  (yX2_isFull, cX2_isFull, 1, some .boolean, 0, 0),
  (yX2_beginClause, cX2_beginClause, 2, none, 1, 0),
  (yX2_beginCondition, cX2_beginCondition, 1, none, 0, 0),
  (yX2_endClause, cX2_endClause, 1, none, 0, 0),
  (yX2_emit, cX2_emit, 3, none, 2, 0),
  (yX2_link, cX2_link, 3, some .int, 2, 0),
  (yX2_land, cX2_land, 2, none, 1, 0),
  (yX2_price, cX2_price, 7, some .int, 1, 0),
  (yX2_reckon, cX2_reckon, 9, some .int, 3, 0),
  (yX2_joined, cX2_joined, 4, some .int, 3, 0),
  (yX3_init, cX3_init, 4, none, 3, 2),
  (yX3_measure, cX3_measure, 3, none, 0, 0),
  (yX3_spotOf, cX3_spotOf, 2, some .int, 1, 0),
  (yX3_costsOfSet, cX3_costsOfSet, 4, some .int, 1, 0),
  (yX3_costs, cX3_costs, 8, some .int, 3, 0),
  (yX3_settle, cX3_settle, 10, some .int, 1, 0),
  (yX3_open, cX3_open, 5, some .boolean, 2, 0),
  (yX3_moveAll, cX3_moveAll, 6, some .int, 1, 0),
  (yX3_likedSpot, cX3_likedSpot, 8, some .int, 2, 0),
  (yX3_comersTo, cX3_comersTo, 5, some .int, 2, 0),
  (yX3_nearestTo, cX3_nearestTo, 7, some .int, 2, 0),
  (yX4_init, cX4_init, 4, none, 3, 2),
  (yX4_planned, cX4_planned, 2, some .int, 1, 0),
  (yX4_plan, cX4_plan, 5, none, 1, 0),
  (yX4_costsWith, cX4_costsWith, 11, some .int, 3, 0),
  (yX5_init, cX5_init, 1, none, 0, 2),
  (yX5_read, cX5_read, 4, some .int, 2, 0),
  (yX5_exchange, cX5_exchange, 3, some (.object "HillErrands$Law"), 1, 0),
  (yX5_sign, cX5_sign, 1, some .int, 0, 0),
  (yX5_fail, cX5_fail, 2, none, 1, 0),
  (yX5_take, cX5_take, 2, none, 1, 0),
  (yX5_clause, cX5_clause, 2, none, 0, 0),
  (yX5_condition, cX5_condition, 3, none, 1, 0),
  (yX5_part, cX5_part, 3, none, 1, 0),
  (yX5_piece, cX5_piece, 3, none, 1, 0),
  (yX5_comparison, cX5_comparison, 3, none, 1, 0),
  (yX5_sum, cX5_sum, 3, none, 1, 0),
  (yX5_term, cX5_term, 3, none, 1, 0),
  (yX5_factor, cX5_factor, 3, none, 1, 0),
  (yX5_number, cX5_number, 3, none, 0, 0),
  (yX5_letter, cX5_letter, 3, none, 1, 0),
  (yX5_isDigit, cX5_isDigit, 1, some .boolean, 1, 1),
  (yX6_init, cX6_init, 2, none, 1, 2),
  (yX6_tell, cX6_tell, 5, none, 4, 0),
  (yX6_worthOf, cX6_worthOf, 4, some .int, 1, 0),
  (yX6_loadOf, cX6_loadOf, 4, some .int, 1, 0),
  (yX6_freshen, cX6_freshen, 3, none, 1, 0),
  (yX6_readOrder, cX6_readOrder, 6, some .boolean, 2, 0),
  (yX6_costInOrder, cX6_costInOrder, 8, some .int, 2, 0),
  (yX6_separate, cX6_separate, 5, some .int, 2, 0),
  (yX6_finish, cX6_finish, 6, some .int, 2, 0),
  (yX6_through, cX6_through, 5, some .int, 4, 0),
  (yX6_firstBest, cX6_firstBest, 9, some .int, 4, 0),
  (yX6_inBestOrder, cX6_inBestOrder, 8, some .int, 3, 0),
  (yX6_spread, cX6_spread, 3, none, 1, 0),
  (yX6_spreadFrom, cX6_spreadFrom, 7, none, 1, 0),
  (yX6_closed, cX6_closed, 7, some .int, 2, 0),
  (yX6_setOfDay, cX6_setOfDay, 10, some .int, 2, 0),
  (yX7_init, cX7_init, 1, none, 0, 2),
  (yX7_size, cX7_size, 1, some .int, 0, 0),
  (yX7_hasRoom, cX7_hasRoom, 2, some .boolean, 1, 0),
  (yX7_append, cX7_append, 3, none, 1, 0),
  (yX7_byteAt, cX7_byteAt, 2, some .int, 1, 0),
  (yX7_numberAt, cX7_numberAt, 4, some .int, 1, 0),
  (yX7_clear, cX7_clear, 1, none, 0, 0),
  (yX8_init, cX8_init, 1, none, 0, 2),
  (yX8_isPlace, cX8_isPlace, 2, some .boolean, 1, 0),
  (yX8_heightOf, cX8_heightOf, 2, some .int, 1, 0),
  (yX8_isSlope, cX8_isSlope, 3, some .boolean, 2, 0),
  (yX8_addPlace, cX8_addPlace, 2, some .int, 1, 0),
  (yX8_addStair, cX8_addStair, 4, some .int, 3, 0),
  (yX8_firstOf, cX8_firstOf, 2, some .int, 1, 0),
  (yX8_secondOf, cX8_secondOf, 2, some .int, 1, 0),
  (yX8_currentSeason, cX8_currentSeason, 1, some .int, 0, 0),
  (yX8_turnTo, cX8_turnTo, 2, none, 1, 0),
  (yX8_mark, cX8_mark, 1, none, 0, 0),
  (yX8_fallBack, cX8_fallBack, 1, some .boolean, 0, 0),
  (yX8_currentLaw, cX8_currentLaw, 1, some (.object "HillErrands$Law"), 0, 0),
  (yX8_setLaw, cX8_setLaw, 2, none, 1, 0),
  (yX8_clauses, cX8_clauses, 1, some .int, 0, 0),
  (yX8_loadMatters, cX8_loadMatters, 1, some .boolean, 0, 0),
  (yX8_wantedAt, cX8_wantedAt, 2, some .int, 1, 0),
  (yX8_setWanted, cX8_setWanted, 3, none, 2, 0),
  (yX8_wantedTogether, cX8_wantedTogether, 3, some .int, 0, 0),
  (yX8_along, cX8_along, 4, some .int, 3, 0),
  (yX8_alongNew, cX8_alongNew, 4, some .int, 3, 0),
  (yX8_putPlaces, cX8_putPlaces, 3, none, 2, 0),
  (yX8_putStair, cX8_putStair, 4, none, 3, 0),
  (yX9_init, cX9_init, 2, none, 1, 2),
  (yX9_freshen, cX9_freshen, 4, none, 1, 0),
  (yX9_cost, cX9_cost, 5, some .int, 3, 0),
  (yX9_trip, cX9_trip, 3, some .int, 2, 0),
  (yX9_walk, cX9_walk, 6, some .int, 3, 0),
  (yX9_onWalk, cX9_onWalk, 2, some .int, 1, 0),
  (yX9_following, cX9_following, 7, some .int, 3, 0),
  (yX9_slotOf, cX9_slotOf, 2, some .int, 1, 0),
  (yX9_keyOf, cX9_keyOf, 5, some .int, 3, 0),
  (yX9_lay, cX9_lay, 6, none, 2, 0),
  (yX9_lower, cX9_lower, 3, none, 3, 1),
  (yX9_shorten, cX9_shorten, 8, none, 1, 0),
  (yX10_init, cX10_init, 4, none, 3, 2),
  (yX10_lacking, cX10_lacking, 1, some .int, 0, 0),
  (yX10_drySet, cX10_drySet, 1, some .int, 0, 0),
  (yX10_lookFrom, cX10_lookFrom, 5, none, 1, 0),
  (yX10_findBringers, cX10_findBringers, 7, none, 1, 0),
  (yX10_servedAloneBy, cX10_servedAloneBy, 4, some .int, 1, 0),
  (yX10_wantedBy, cX10_wantedBy, 4, some .int, 1, 0),
  (yX10_carriedBy, cX10_carriedBy, 4, some .int, 1, 0),
  (yX11_init, cX11_init, 4, none, 0, 2),
  (yX11_place, cX11_place, 2, some .int, 1, 0),
  (yX11_stair, cX11_stair, 4, some .int, 3, 0),
  (yX11_season, cX11_season, 2, some .boolean, 1, 0),
  (yX11_feed, cX11_feed, 6, some .int, 5, 0),
  (yX11_law, cX11_law, 3, some .int, 1, 0),
  (yX11_going, cX11_going, 4, some .int, 3, 0),
  (yX11_way, cX11_way, 7, some .int, 4, 0),
  (yX11_errand, cX11_errand, 5, some .boolean, 4, 0),
  (yX11_round, cX11_round, 4, some .int, 2, 0),
  (yX11_best, cX11_best, 6, some .int, 3, 0),
  (yX11_day, cX11_day, 5, some .int, 3, 0),
  (yX11_person, cX11_person, 4, some .int, 3, 0),
  (yX11_thing, cX11_thing, 5, some .boolean, 4, 0),
  (yX11_brought, cX11_brought, 3, some .int, 2, 0),
  (yX11_sent, cX11_sent, 4, some .int, 2, 0),
  (yX11_wants, cX11_wants, 3, some .boolean, 2, 0),
  (yX11_water, cX11_water, 3, some .int, 2, 0),
  (yX11_shops, cX11_shops, 3, some .int, 1, 0),
  (yX11_shop, cX11_shop, 4, some .int, 2, 0),
  (yX11_themselves, cX11_themselves, 7, some .int, 3, 0),
  (yX11_oneMore, cX11_oneMore, 3, some .int, 2, 0),
  (yX11_meet, cX11_meet, 7, some .int, 3, 0),
  (yX11_fare, cX11_fare, 4, some .int, 3, 0),
  (yX11_ends, cX11_ends, 3, some .int, 2, 0),
  (yX11_falseFares, cX11_falseFares, 2, some .int, 1, 0),
  (yX11_seed, cX11_seed, 2, some .boolean, 1, 0),
  (yX11_draw, cX11_draw, 5, some .int, 3, 0),
  (yX11_keep, cX11_keep, 1, some .int, 0, 0),
  (yX11_undo, cX11_undo, 1, some .boolean, 0, 0),
  (yX11_check, cX11_check, 4, some .int, 2, 0),
  (yX11_count, cX11_count, 2, some .int, 1, 0),
  (yX11_within, cX11_within, 2, some .boolean, 2, 1),
  (yX11_isSetOf, cX11_isSetOf, 2, some .boolean, 2, 1),
  (yX11_orNoWay, cX11_orNoWay, 1, some .int, 1, 1),
  (yX11_drawSet, cX11_drawSet, 4, some .int, 1, 0),
  (yX11_firstWrong, cX11_firstWrong, 4, some .int, 2, 0),
  (yX11_meetingPlace, cX11_meetingPlace, 8, some .int, 3, 0),
  (yX11_meetingCost, cX11_meetingCost, 7, some .int, 4, 0),
  (yX12_init, cX12_init, 1, none, 0, 2),
  (yX12_in, cX12_in, 3, some .boolean, 3, 1),
  (yX12_sum, cX12_sum, 2, some .int, 2, 1),
  (yX12_least, cX12_least, 2, some .int, 2, 1),
  (yX12_bits, cX12_bits, 3, some .int, 1, 1),
  (yX12_isPlace, cX12_isPlace, 2, some .boolean, 1, 0),
  (yX12_place, cX12_place, 2, some .int, 1, 0),
  (yX12_builds, cX12_builds, 4, none, 3, 0),
  (yX12_stair, cX12_stair, 4, some .int, 3, 0),
  (yX12_season, cX12_season, 2, some .boolean, 1, 0),
  (yX12_types, cX12_types, 3, none, 1, 0),
  (yX12_feed, cX12_feed, 6, some .int, 5, 0),
  (yX12_here, cX12_here, 1, some .int, 0, 0),
  (yX12_isDigit, cX12_isDigit, 1, some .boolean, 0, 0),
  (yX12_wrongAt, cX12_wrongAt, 3, some .boolean, 2, 0),
  (yX12_takes, cX12_takes, 2, some .boolean, 1, 0),
  (yX12_readsNumber, cX12_readsNumber, 2, some .boolean, 0, 0),
  (yX12_notes, cX12_notes, 3, none, 2, 0),
  (yX12_opens, cX12_opens, 2, some .boolean, 1, 0),
  (yX12_top, cX12_top, 1, some .int, 0, 0),
  (yX12_factOf, cX12_factOf, 1, some .int, 1, 1),
  (yX12_sumSign, cX12_sumSign, 1, some .int, 1, 1),
  (yX12_closesSums, cX12_closesSums, 2, none, 1, 0),
  (yX12_readsFactor, cX12_readsFactor, 2, some .boolean, 0, 0),
  (yX12_hasOpenSum, cX12_hasOpenSum, 3, some .boolean, 1, 0),
  (yX12_readsSum, cX12_readsSum, 3, some .boolean, 0, 0),
  (yX12_endsPiece, cX12_endsPiece, 1, none, 0, 0),
  (yX12_lands, cX12_lands, 3, none, 1, 0),
  (yX12_jumps, cX12_jumps, 2, none, 1, 0),
  (yX12_readsCompared, cX12_readsCompared, 2, some .boolean, 0, 0),
  (yX12_readsCondition, cX12_readsCondition, 1, some .boolean, 0, 0),
  (yX12_readsClause, cX12_readsClause, 2, some .boolean, 0, 0),
  (yX12_law, cX12_law, 4, some .int, 1, 0),
  (yX12_reckon, cX12_reckon, 3, some .int, 3, 1),
  (yX12_comesTo, cX12_comesTo, 8, some .int, 2, 0),
  (yX12_goes, cX12_goes, 10, some .int, 3, 0),
  (yX12_isLoad, cX12_isLoad, 1, some .boolean, 1, 1),
  (yX12_going, cX12_going, 5, some .int, 3, 0),
  (yX12_begins, cX12_begins, 2, none, 0, 0),
  (yX12_step, cX12_step, 6, none, 4, 0),
  (yX12_lays, cX12_lays, 6, none, 1, 0),
  (yX12_wayAt, cX12_wayAt, 4, some .int, 3, 0),
  (yX12_costOf, cX12_costOf, 5, some .int, 3, 0),
  (yX12_nextOn, cX12_nextOn, 5, some .int, 3, 0),
  (yX12_laysRow, cX12_laysRow, 4, none, 3, 0),
  (yX12_way, cX12_way, 6, some .int, 4, 0),
  (yX12_errand, cX12_errand, 5, some .boolean, 4, 0),
  (yX12_loadOf, cX12_loadOf, 4, some .int, 1, 0),
  (yX12_round, cX12_round, 8, some .int, 2, 0),
  (yX12_placeOf, cX12_placeOf, 3, some .int, 2, 0),
  (yX12_restBy, cX12_restBy, 6, some .int, 5, 0),
  (yX12_laysRest, cX12_laysRest, 7, none, 2, 0),
  (yX12_roundOf, cX12_roundOf, 3, some .int, 2, 0),
  (yX12_separate, cX12_separate, 5, some .int, 2, 0),
  (yX12_areErrands, cX12_areErrands, 2, some .boolean, 1, 0),
  (yX12_best, cX12_best, 9, some .int, 3, 0),
  (yX12_worthAll, cX12_worthAll, 4, some .int, 1, 0),
  (yX12_day, cX12_day, 8, some .int, 3, 0),
  (yX12_isPerson, cX12_isPerson, 2, some .boolean, 1, 0),
  (yX12_isThing, cX12_isThing, 2, some .boolean, 1, 0),
  (yX12_person, cX12_person, 4, some .int, 3, 0),
  (yX12_thing, cX12_thing, 5, some .boolean, 4, 0),
  (yX12_takesBy, cX12_takesBy, 5, some .int, 2, 0),
  (yX12_brought, cX12_brought, 4, some .int, 2, 0),
  (yX12_sentBy, cX12_sentBy, 5, some .int, 4, 0),
  (yX12_laysSent, cX12_laysSent, 6, none, 1, 0),
  (yX12_bringer, cX12_bringer, 6, some .int, 2, 0),
  (yX12_sent, cX12_sent, 7, some .int, 2, 0),
  (yX12_wants, cX12_wants, 3, some .boolean, 2, 0),
  (yX12_laysBrings, cX12_laysBrings, 5, none, 1, 0),
  (yX12_carriedBy, cX12_carriedBy, 4, some .int, 1, 0),
  (yX12_laysDry, cX12_laysDry, 7, none, 0, 0),
  (yX12_water, cX12_water, 5, some .int, 2, 0),
  (yX12_bothWays, cX12_bothWays, 3, some .int, 2, 0),
  (yX12_shopsCost, cX12_shopsCost, 6, some .int, 1, 0),
  (yX12_shops, cX12_shops, 2, some .int, 1, 0),
  (yX12_shop, cX12_shop, 11, some .int, 2, 0),
  (yX12_shopFor, cX12_shopFor, 5, some .int, 1, 0),
  (yX12_comeTo, cX12_comeTo, 4, some .int, 1, 0),
  (yX12_moves, cX12_moves, 7, some .boolean, 1, 0),
  (yX12_themselves, cX12_themselves, 8, some .int, 3, 0),
  (yX12_costsAll, cX12_costsAll, 4, some .int, 0, 0),
  (yX12_oneMore, cX12_oneMore, 9, some .int, 2, 0),
  (yX12_meetBy, cX12_meetBy, 7, some .int, 4, 0),
  (yX12_meet, cX12_meet, 8, some .int, 3, 0),
  (yX12_fare, cX12_fare, 4, some .int, 3, 0),
  (yX12_joins, cX12_joins, 7, none, 1, 0),
  (yX12_laysFares, cX12_laysFares, 2, none, 0, 0),
  (yX12_ends, cX12_ends, 3, some .int, 2, 0),
  (yX12_falseFares, cX12_falseFares, 4, some .int, 1, 0),
  (yX12_seed, cX12_seed, 2, some .boolean, 1, 0),
  (yX12_draw, cX12_draw, 6, some .int, 3, 0),
  (yX12_keep, cX12_keep, 1, some .int, 0, 0),
  (yX12_undo, cX12_undo, 1, some .boolean, 0, 0),
  (yX12_tapeNumber, cX12_tapeNumber, 4, some .int, 1, 0),
  (yX12_check, cX12_check, 5, some .int, 2, 0),
  (yX12_count, cX12_count, 2, some .int, 1, 0)]
def zmd (g : Nat) : zMd := zmds.getD g (yL_law, code, 0, none, 0, 0)
def zMokB (md : zMd) (b c d e : Nat) : Bool :=
  zw b (.initialized md.1.cls) && plainName md.1.cls && decide (md.1.cls ≠ "java/lang/invoke/MethodHandle") && decide (md.1.cls ≠ "java/lang/invoke/VarHandle") &&
  decide ((parseMethodDescriptor md.1.desc).map (fun d => d.parameters.length) = some md.2.2.2.2.1) && decide (md.2.2.1 ≤ 40) &&
  (decide (md.2.2.2.2.2 ≠ 0) || (zw c (.instanceMethod md.1) && zw d (.selects md.1.cls md.1 md.1))) &&
  (decide (md.2.2.2.2.2 ≠ 1) || zw e (.static md.1)) &&
  (decide (md.2.2.2.2.2 ≠ 2) || (zw c (.instanceMethod md.1) && decide (md.1.name = "<init>") && decide (md.2.2.2.1 = none)))
theorem zMok_of {md : zMd} {a b c d e : Nat} (h1 : (zch a)[b]? = some (.code md.1 md.2.1 md.2.2.1 md.2.2.2.1)) {b2 : Nat} (h : zMokB md b2 c d e = true) : zMok md := by
  simp only [zMokB, Bool.and_eq_true, Bool.or_eq_true, decide_eq_true_eq] at h
  obtain ⟨⟨⟨⟨⟨⟨⟨⟨h2, h3⟩, h4⟩, h5⟩, h6⟩, h7⟩, h8⟩, h9⟩, h10⟩ := h
  refine ⟨zTb_in (zch_in _ (List.mem_of_getElem? h1)) rfl, zw_in h2, h3, h4, h5, h6, h7, fun q => ?_, fun q => ?_, fun q => ?_⟩
  · rcases h8 with h | h
    · exact absurd q h
    · exact ⟨zw_in h.1, zw_in h.2⟩
  · rcases h9 with h | h
    · exact absurd q h
    · exact zw_in h
  · rcases h10 with h | h
    · exact absurd q h
    · exact ⟨zw_in h.1.1, h.1.2, h.2⟩
set_option maxRecDepth 100000 in
theorem zo_0 : zMok (zmd 0) := zMok_of (a := 4) (b := 60) (b2 := 1020) (c := 0) (d := 0) (e := 4059) rfl (by decide +kernel)
set_option maxRecDepth 100000 in
theorem zo_1 : zMok (zmd 1) := zMok_of (a := 4) (b := 104) (b2 := 1021) (c := 0) (d := 0) (e := 4103) rfl (by decide +kernel)
set_option maxRecDepth 100000 in
theorem zo_2 : zMok (zmd 2) := zMok_of (a := 3) (b := 43) (b2 := 1015) (c := 3041) (d := 3042) (e := 0) rfl (by decide +kernel)
set_option maxRecDepth 100000 in
theorem zo_3 : zMok (zmd 3) := zMok_of (a := 3) (b := 47) (b2 := 1015) (c := 3045) (d := 3046) (e := 0) rfl (by decide +kernel)
set_option maxRecDepth 100000 in
theorem zo_4 : zMok (zmd 4) := zMok_of (a := 3) (b := 51) (b2 := 1015) (c := 3049) (d := 3050) (e := 0) rfl (by decide +kernel)
set_option maxRecDepth 100000 in
theorem zo_5 : zMok (zmd 5) := zMok_of (a := 3) (b := 57) (b2 := 1015) (c := 3055) (d := 3056) (e := 0) rfl (by decide +kernel)
set_option maxRecDepth 100000 in
theorem zo_6 : zMok (zmd 6) := zMok_of (a := 3) (b := 61) (b2 := 1015) (c := 3059) (d := 3060) (e := 0) rfl (by decide +kernel)
set_option maxRecDepth 100000 in
theorem zo_7 : zMok (zmd 7) := zMok_of (a := 3) (b := 64) (b2 := 1016) (c := 0) (d := 0) (e := 3063) rfl (by decide +kernel)
set_option maxRecDepth 100000 in
theorem zo_8 : zMok (zmd 8) := zMok_of (a := 3) (b := 67) (b2 := 1016) (c := 0) (d := 0) (e := 3066) rfl (by decide +kernel)
set_option maxRecDepth 100000 in
theorem zo_9 : zMok (zmd 9) := zMok_of (a := 3) (b := 74) (b2 := 1016) (c := 0) (d := 0) (e := 3073) rfl (by decide +kernel)
set_option maxRecDepth 100000 in
theorem zo_10 : zMok (zmd 10) := zMok_of (a := 2) (b := 102) (b2 := 1012) (c := 2101) (d := 0) (e := 0) rfl (by decide +kernel)
set_option maxRecDepth 100000 in
theorem zo_11 : zMok (zmd 11) := zMok_of (a := 5) (b := 121) (b2 := 1012) (c := 5119) (d := 5120) (e := 0) rfl (by decide +kernel)
set_option maxRecDepth 100000 in
theorem zo_12 : zMok (zmd 12) := zMok_of (a := 5) (b := 125) (b2 := 1012) (c := 5124) (d := 38) (e := 0) rfl (by decide +kernel)
set_option maxRecDepth 100000 in
theorem zo_13 : zMok (zmd 13) := zMok_of (a := 5) (b := 133) (b2 := 1012) (c := 5131) (d := 5132) (e := 0) rfl (by decide +kernel)
set_option maxRecDepth 100000 in
theorem zo_14 : zMok (zmd 14) := zMok_of (a := 5) (b := 141) (b2 := 1012) (c := 5139) (d := 5140) (e := 0) rfl (by decide +kernel)
set_option maxRecDepth 100000 in
theorem zo_15 : zMok (zmd 15) := zMok_of (a := 1) (b := 156) (b2 := 1005) (c := 1155) (d := 0) (e := 0) rfl (by decide +kernel)
set_option maxRecDepth 100000 in
theorem zo_16 : zMok (zmd 16) := zMok_of (a := 4) (b := 131) (b2 := 1005) (c := 4129) (d := 4130) (e := 0) rfl (by decide +kernel)
set_option maxRecDepth 100000 in
theorem zo_17 : zMok (zmd 17) := zMok_of (a := 4) (b := 215) (b2 := 1005) (c := 4213) (d := 4214) (e := 0) rfl (by decide +kernel)
set_option maxRecDepth 100000 in
theorem zo_18 : zMok (zmd 18) := zMok_of (a := 4) (b := 219) (b2 := 1005) (c := 4217) (d := 4218) (e := 0) rfl (by decide +kernel)
set_option maxRecDepth 100000 in
theorem zo_19 : zMok (zmd 19) := zMok_of (a := 5) (b := 1) (b2 := 1005) (c := 4239) (d := 5000) (e := 0) rfl (by decide +kernel)
set_option maxRecDepth 100000 in
theorem zo_20 : zMok (zmd 20) := zMok_of (a := 4) (b := 139) (b2 := 1005) (c := 4137) (d := 4138) (e := 0) rfl (by decide +kernel)
set_option maxRecDepth 100000 in
theorem zo_21 : zMok (zmd 21) := zMok_of (a := 4) (b := 148) (b2 := 1005) (c := 4146) (d := 4147) (e := 0) rfl (by decide +kernel)
set_option maxRecDepth 100000 in
theorem zo_22 : zMok (zmd 22) := zMok_of (a := 4) (b := 153) (b2 := 1005) (c := 4151) (d := 4152) (e := 0) rfl (by decide +kernel)
set_option maxRecDepth 100000 in
theorem zo_23 : zMok (zmd 23) := zMok_of (a := 4) (b := 164) (b2 := 1005) (c := 4162) (d := 4163) (e := 0) rfl (by decide +kernel)
set_option maxRecDepth 100000 in
theorem zo_24 : zMok (zmd 24) := zMok_of (a := 4) (b := 169) (b2 := 1005) (c := 4168) (d := 26) (e := 0) rfl (by decide +kernel)
set_option maxRecDepth 100000 in
theorem zo_25 : zMok (zmd 25) := zMok_of (a := 4) (b := 173) (b2 := 1005) (c := 4172) (d := 27) (e := 0) rfl (by decide +kernel)
set_option maxRecDepth 100000 in
theorem zo_26 : zMok (zmd 26) := zMok_of (a := 4) (b := 178) (b2 := 1005) (c := 4176) (d := 4177) (e := 0) rfl (by decide +kernel)
set_option maxRecDepth 100000 in
theorem zo_27 : zMok (zmd 27) := zMok_of (a := 4) (b := 182) (b2 := 1005) (c := 4180) (d := 4181) (e := 0) rfl (by decide +kernel)
set_option maxRecDepth 100000 in
theorem zo_28 : zMok (zmd 28) := zMok_of (a := 4) (b := 186) (b2 := 1005) (c := 4184) (d := 4185) (e := 0) rfl (by decide +kernel)
set_option maxRecDepth 100000 in
theorem zo_29 : zMok (zmd 29) := zMok_of (a := 1) (b := 40) (b2 := 1003) (c := 1039) (d := 0) (e := 0) rfl (by decide +kernel)
set_option maxRecDepth 100000 in
theorem zo_30 : zMok (zmd 30) := zMok_of (a := 2) (b := 226) (b2 := 1003) (c := 2224) (d := 2225) (e := 0) rfl (by decide +kernel)
set_option maxRecDepth 100000 in
theorem zo_31 : zMok (zmd 31) := zMok_of (a := 3) (b := 2) (b2 := 1003) (c := 3000) (d := 3001) (e := 0) rfl (by decide +kernel)
set_option maxRecDepth 100000 in
theorem zo_32 : zMok (zmd 32) := zMok_of (a := 3) (b := 6) (b2 := 1003) (c := 3004) (d := 3005) (e := 0) rfl (by decide +kernel)
set_option maxRecDepth 100000 in
theorem zo_33 : zMok (zmd 33) := zMok_of (a := 3) (b := 127) (b2 := 1003) (c := 3125) (d := 3126) (e := 0) rfl (by decide +kernel)
set_option maxRecDepth 100000 in
theorem zo_34 : zMok (zmd 34) := zMok_of (a := 3) (b := 157) (b2 := 1003) (c := 3155) (d := 3156) (e := 0) rfl (by decide +kernel)
set_option maxRecDepth 100000 in
theorem zo_35 : zMok (zmd 35) := zMok_of (a := 3) (b := 34) (b2 := 1003) (c := 3032) (d := 3033) (e := 0) rfl (by decide +kernel)
set_option maxRecDepth 100000 in
theorem zo_36 : zMok (zmd 36) := zMok_of (a := 3) (b := 147) (b2 := 1003) (c := 3145) (d := 3146) (e := 0) rfl (by decide +kernel)
set_option maxRecDepth 100000 in
theorem zo_37 : zMok (zmd 37) := zMok_of (a := 3) (b := 151) (b2 := 1003) (c := 3149) (d := 3150) (e := 0) rfl (by decide +kernel)
set_option maxRecDepth 100000 in
theorem zo_38 : zMok (zmd 38) := zMok_of (a := 3) (b := 195) (b2 := 1003) (c := 3193) (d := 3194) (e := 0) rfl (by decide +kernel)
set_option maxRecDepth 100000 in
theorem zo_39 : zMok (zmd 39) := zMok_of (a := 3) (b := 199) (b2 := 1003) (c := 3198) (d := 15) (e := 0) rfl (by decide +kernel)
set_option maxRecDepth 100000 in
theorem zo_40 : zMok (zmd 40) := zMok_of (a := 3) (b := 203) (b2 := 1003) (c := 3202) (d := 16) (e := 0) rfl (by decide +kernel)
set_option maxRecDepth 100000 in
theorem zo_41 : zMok (zmd 41) := zMok_of (a := 2) (b := 55) (b2 := 1010) (c := 2054) (d := 0) (e := 0) rfl (by decide +kernel)
set_option maxRecDepth 100000 in
theorem zo_42 : zMok (zmd 42) := zMok_of (a := 5) (b := 17) (b2 := 1010) (c := 5015) (d := 5016) (e := 0) rfl (by decide +kernel)
set_option maxRecDepth 100000 in
theorem zo_43 : zMok (zmd 43) := zMok_of (a := 5) (b := 46) (b2 := 1010) (c := 5044) (d := 5045) (e := 0) rfl (by decide +kernel)
set_option maxRecDepth 100000 in
theorem zo_44 : zMok (zmd 44) := zMok_of (a := 5) (b := 28) (b2 := 1010) (c := 5026) (d := 5027) (e := 0) rfl (by decide +kernel)
set_option maxRecDepth 100000 in
theorem zo_45 : zMok (zmd 45) := zMok_of (a := 5) (b := 32) (b2 := 1010) (c := 5031) (d := 32) (e := 0) rfl (by decide +kernel)
set_option maxRecDepth 100000 in
theorem zo_46 : zMok (zmd 46) := zMok_of (a := 5) (b := 42) (b2 := 1010) (c := 5040) (d := 5041) (e := 0) rfl (by decide +kernel)
set_option maxRecDepth 100000 in
theorem zo_47 : zMok (zmd 47) := zMok_of (a := 5) (b := 54) (b2 := 1010) (c := 5052) (d := 5053) (e := 0) rfl (by decide +kernel)
set_option maxRecDepth 100000 in
theorem zo_48 : zMok (zmd 48) := zMok_of (a := 5) (b := 59) (b2 := 1010) (c := 5057) (d := 5058) (e := 0) rfl (by decide +kernel)
set_option maxRecDepth 100000 in
theorem zo_49 : zMok (zmd 49) := zMok_of (a := 5) (b := 63) (b2 := 1010) (c := 5062) (d := 33) (e := 0) rfl (by decide +kernel)
set_option maxRecDepth 100000 in
theorem zo_50 : zMok (zmd 50) := zMok_of (a := 5) (b := 67) (b2 := 1010) (c := 5065) (d := 5066) (e := 0) rfl (by decide +kernel)
set_option maxRecDepth 100000 in
theorem zo_51 : zMok (zmd 51) := zMok_of (a := 5) (b := 71) (b2 := 1010) (c := 5070) (d := 34) (e := 0) rfl (by decide +kernel)
set_option maxRecDepth 100000 in
theorem zo_52 : zMok (zmd 52) := zMok_of (a := 2) (b := 77) (b2 := 1011) (c := 2076) (d := 0) (e := 0) rfl (by decide +kernel)
set_option maxRecDepth 100000 in
theorem zo_53 : zMok (zmd 53) := zMok_of (a := 5) (b := 99) (b2 := 1011) (c := 5097) (d := 5098) (e := 0) rfl (by decide +kernel)
set_option maxRecDepth 100000 in
theorem zo_54 : zMok (zmd 54) := zMok_of (a := 5) (b := 80) (b2 := 1011) (c := 5078) (d := 5079) (e := 0) rfl (by decide +kernel)
set_option maxRecDepth 100000 in
theorem zo_55 : zMok (zmd 55) := zMok_of (a := 5) (b := 87) (b2 := 1011) (c := 5086) (d := 35) (e := 0) rfl (by decide +kernel)
set_option maxRecDepth 100000 in
theorem zo_56 : zMok (zmd 56) := zMok_of (a := 1) (b := 217) (b2 := 1007) (c := 1216) (d := 0) (e := 0) rfl (by decide +kernel)
set_option maxRecDepth 100000 in
theorem zo_57 : zMok (zmd 57) := zMok_of (a := 2) (b := 215) (b2 := 1007) (c := 2213) (d := 2214) (e := 0) rfl (by decide +kernel)
set_option maxRecDepth 100000 in
theorem zo_58 : zMok (zmd 58) := zMok_of (a := 3) (b := 169) (b2 := 1007) (c := 3167) (d := 3168) (e := 0) rfl (by decide +kernel)
set_option maxRecDepth 100000 in
theorem zo_59 : zMok (zmd 59) := zMok_of (a := 2) (b := 234) (b2 := 1007) (c := 2233) (d := 1) (e := 0) rfl (by decide +kernel)
set_option maxRecDepth 100000 in
theorem zo_60 : zMok (zmd 60) := zMok_of (a := 2) (b := 238) (b2 := 1007) (c := 2237) (d := 2) (e := 0) rfl (by decide +kernel)
set_option maxRecDepth 100000 in
theorem zo_61 : zMok (zmd 61) := zMok_of (a := 3) (b := 23) (b2 := 1007) (c := 3022) (d := 6) (e := 0) rfl (by decide +kernel)
set_option maxRecDepth 100000 in
theorem zo_62 : zMok (zmd 62) := zMok_of (a := 2) (b := 230) (b2 := 1007) (c := 2229) (d := 0) (e := 0) rfl (by decide +kernel)
set_option maxRecDepth 100000 in
theorem zo_63 : zMok (zmd 63) := zMok_of (a := 3) (b := 131) (b2 := 1007) (c := 3130) (d := 9) (e := 0) rfl (by decide +kernel)
set_option maxRecDepth 100000 in
theorem zo_64 : zMok (zmd 64) := zMok_of (a := 3) (b := 135) (b2 := 1007) (c := 3134) (d := 10) (e := 0) rfl (by decide +kernel)
set_option maxRecDepth 100000 in
theorem zo_65 : zMok (zmd 65) := zMok_of (a := 3) (b := 139) (b2 := 1007) (c := 3138) (d := 11) (e := 0) rfl (by decide +kernel)
set_option maxRecDepth 100000 in
theorem zo_66 : zMok (zmd 66) := zMok_of (a := 3) (b := 143) (b2 := 1007) (c := 3142) (d := 12) (e := 0) rfl (by decide +kernel)
set_option maxRecDepth 100000 in
theorem zo_67 : zMok (zmd 67) := zMok_of (a := 3) (b := 11) (b2 := 1007) (c := 3010) (d := 3) (e := 0) rfl (by decide +kernel)
set_option maxRecDepth 100000 in
theorem zo_68 : zMok (zmd 68) := zMok_of (a := 3) (b := 15) (b2 := 1007) (c := 3014) (d := 4) (e := 0) rfl (by decide +kernel)
set_option maxRecDepth 100000 in
theorem zo_69 : zMok (zmd 69) := zMok_of (a := 3) (b := 19) (b2 := 1007) (c := 3018) (d := 5) (e := 0) rfl (by decide +kernel)
set_option maxRecDepth 100000 in
theorem zo_70 : zMok (zmd 70) := zMok_of (a := 3) (b := 30) (b2 := 1007) (c := 3029) (d := 7) (e := 0) rfl (by decide +kernel)
set_option maxRecDepth 100000 in
theorem zo_71 : zMok (zmd 71) := zMok_of (a := 3) (b := 38) (b2 := 1007) (c := 3037) (d := 8) (e := 0) rfl (by decide +kernel)
set_option maxRecDepth 100000 in
theorem zo_72 : zMok (zmd 72) := zMok_of (a := 3) (b := 26) (b2 := 1007) (c := 0) (d := 0) (e := 3025) rfl (by decide +kernel)
set_option maxRecDepth 100000 in
theorem zo_73 : zMok (zmd 73) := zMok_of (a := 2) (b := 1) (b2 := 1008) (c := 2000) (d := 0) (e := 0) rfl (by decide +kernel)
set_option maxRecDepth 100000 in
theorem zo_74 : zMok (zmd 74) := zMok_of (a := 4) (b := 32) (b2 := 1008) (c := 4030) (d := 4031) (e := 0) rfl (by decide +kernel)
set_option maxRecDepth 100000 in
theorem zo_75 : zMok (zmd 75) := zMok_of (a := 4) (b := 121) (b2 := 1008) (c := 4119) (d := 4120) (e := 0) rfl (by decide +kernel)
set_option maxRecDepth 100000 in
theorem zo_76 : zMok (zmd 76) := zMok_of (a := 4) (b := 71) (b2 := 1008) (c := 4070) (d := 22) (e := 0) rfl (by decide +kernel)
set_option maxRecDepth 100000 in
theorem zo_77 : zMok (zmd 77) := zMok_of (a := 4) (b := 67) (b2 := 1008) (c := 4065) (d := 4066) (e := 0) rfl (by decide +kernel)
set_option maxRecDepth 100000 in
theorem zo_78 : zMok (zmd 78) := zMok_of (a := 4) (b := 40) (b2 := 1008) (c := 4038) (d := 4039) (e := 0) rfl (by decide +kernel)
set_option maxRecDepth 100000 in
theorem zo_79 : zMok (zmd 79) := zMok_of (a := 4) (b := 45) (b2 := 1008) (c := 4043) (d := 4044) (e := 0) rfl (by decide +kernel)
set_option maxRecDepth 100000 in
theorem zo_80 : zMok (zmd 80) := zMok_of (a := 4) (b := 75) (b2 := 1008) (c := 4073) (d := 4074) (e := 0) rfl (by decide +kernel)
set_option maxRecDepth 100000 in
theorem zo_81 : zMok (zmd 81) := zMok_of (a := 4) (b := 79) (b2 := 1008) (c := 4077) (d := 4078) (e := 0) rfl (by decide +kernel)
set_option maxRecDepth 100000 in
theorem zo_82 : zMok (zmd 82) := zMok_of (a := 4) (b := 88) (b2 := 1008) (c := 4087) (d := 24) (e := 0) rfl (by decide +kernel)
set_option maxRecDepth 100000 in
theorem zo_83 : zMok (zmd 83) := zMok_of (a := 4) (b := 83) (b2 := 1008) (c := 4082) (d := 23) (e := 0) rfl (by decide +kernel)
set_option maxRecDepth 100000 in
theorem zo_84 : zMok (zmd 84) := zMok_of (a := 4) (b := 92) (b2 := 1008) (c := 4090) (d := 4091) (e := 0) rfl (by decide +kernel)
set_option maxRecDepth 100000 in
theorem zo_85 : zMok (zmd 85) := zMok_of (a := 4) (b := 101) (b2 := 1008) (c := 4099) (d := 4100) (e := 0) rfl (by decide +kernel)
set_option maxRecDepth 100000 in
theorem zo_86 : zMok (zmd 86) := zMok_of (a := 4) (b := 108) (b2 := 1008) (c := 4107) (d := 25) (e := 0) rfl (by decide +kernel)
set_option maxRecDepth 100000 in
theorem zo_87 : zMok (zmd 87) := zMok_of (a := 4) (b := 117) (b2 := 1008) (c := 4115) (d := 4116) (e := 0) rfl (by decide +kernel)
set_option maxRecDepth 100000 in
theorem zo_88 : zMok (zmd 88) := zMok_of (a := 4) (b := 113) (b2 := 1008) (c := 4111) (d := 4112) (e := 0) rfl (by decide +kernel)
set_option maxRecDepth 100000 in
theorem zo_89 : zMok (zmd 89) := zMok_of (a := 1) (b := 204) (b2 := 1006) (c := 1203) (d := 0) (e := 0) rfl (by decide +kernel)
set_option maxRecDepth 100000 in
theorem zo_90 : zMok (zmd 90) := zMok_of (a := 2) (b := 207) (b2 := 1006) (c := 2205) (d := 2206) (e := 0) rfl (by decide +kernel)
set_option maxRecDepth 100000 in
theorem zo_91 : zMok (zmd 91) := zMok_of (a := 2) (b := 198) (b2 := 1006) (c := 2196) (d := 2197) (e := 0) rfl (by decide +kernel)
set_option maxRecDepth 100000 in
theorem zo_92 : zMok (zmd 92) := zMok_of (a := 2) (b := 202) (b2 := 1006) (c := 2200) (d := 2201) (e := 0) rfl (by decide +kernel)
set_option maxRecDepth 100000 in
theorem zo_93 : zMok (zmd 93) := zMok_of (a := 2) (b := 222) (b2 := 1006) (c := 2220) (d := 2221) (e := 0) rfl (by decide +kernel)
set_option maxRecDepth 100000 in
theorem zo_94 : zMok (zmd 94) := zMok_of (a := 5) (b := 182) (b2 := 1006) (c := 5180) (d := 5181) (e := 0) rfl (by decide +kernel)
set_option maxRecDepth 100000 in
theorem zo_95 : zMok (zmd 95) := zMok_of (a := 3) (b := 161) (b2 := 1006) (c := 3159) (d := 3160) (e := 0) rfl (by decide +kernel)
set_option maxRecDepth 100000 in
theorem zo_96 : zMok (zmd 96) := zMok_of (a := 1) (b := 34) (b2 := 1002) (c := 1033) (d := 0) (e := 0) rfl (by decide +kernel)
set_option maxRecDepth 100000 in
theorem zo_97 : zMok (zmd 97) := zMok_of (a := 2) (b := 174) (b2 := 1002) (c := 2172) (d := 2173) (e := 0) rfl (by decide +kernel)
set_option maxRecDepth 100000 in
theorem zo_98 : zMok (zmd 98) := zMok_of (a := 5) (b := 191) (b2 := 1002) (c := 5189) (d := 5190) (e := 0) rfl (by decide +kernel)
set_option maxRecDepth 100000 in
theorem zo_99 : zMok (zmd 99) := zMok_of (a := 2) (b := 178) (b2 := 1002) (c := 2176) (d := 2177) (e := 0) rfl (by decide +kernel)
set_option maxRecDepth 100000 in
theorem zo_100 : zMok (zmd 100) := zMok_of (a := 2) (b := 166) (b2 := 1002) (c := 2164) (d := 2165) (e := 0) rfl (by decide +kernel)
set_option maxRecDepth 100000 in
theorem zo_101 : zMok (zmd 101) := zMok_of (a := 2) (b := 182) (b2 := 1002) (c := 2180) (d := 2181) (e := 0) rfl (by decide +kernel)
set_option maxRecDepth 100000 in
theorem zo_102 : zMok (zmd 102) := zMok_of (a := 3) (b := 230) (b2 := 1002) (c := 3228) (d := 3229) (e := 0) rfl (by decide +kernel)
set_option maxRecDepth 100000 in
theorem zo_103 : zMok (zmd 103) := zMok_of (a := 3) (b := 234) (b2 := 1002) (c := 3232) (d := 3233) (e := 0) rfl (by decide +kernel)
set_option maxRecDepth 100000 in
theorem zo_104 : zMok (zmd 104) := zMok_of (a := 5) (b := 200) (b2 := 1002) (c := 5198) (d := 5199) (e := 0) rfl (by decide +kernel)
set_option maxRecDepth 100000 in
theorem zo_105 : zMok (zmd 105) := zMok_of (a := 2) (b := 190) (b2 := 1002) (c := 2188) (d := 2189) (e := 0) rfl (by decide +kernel)
set_option maxRecDepth 100000 in
theorem zo_106 : zMok (zmd 106) := zMok_of (a := 5) (b := 162) (b2 := 1002) (c := 5160) (d := 5161) (e := 0) rfl (by decide +kernel)
set_option maxRecDepth 100000 in
theorem zo_107 : zMok (zmd 107) := zMok_of (a := 5) (b := 170) (b2 := 1002) (c := 5168) (d := 5169) (e := 0) rfl (by decide +kernel)
set_option maxRecDepth 100000 in
theorem zo_108 : zMok (zmd 108) := zMok_of (a := 3) (b := 165) (b2 := 1002) (c := 3163) (d := 3164) (e := 0) rfl (by decide +kernel)
set_option maxRecDepth 100000 in
theorem zo_109 : zMok (zmd 109) := zMok_of (a := 3) (b := 173) (b2 := 1002) (c := 3171) (d := 3172) (e := 0) rfl (by decide +kernel)
set_option maxRecDepth 100000 in
theorem zo_110 : zMok (zmd 110) := zMok_of (a := 5) (b := 196) (b2 := 1002) (c := 5194) (d := 5195) (e := 0) rfl (by decide +kernel)
set_option maxRecDepth 100000 in
theorem zo_111 : zMok (zmd 111) := zMok_of (a := 3) (b := 221) (b2 := 1002) (c := 3219) (d := 3220) (e := 0) rfl (by decide +kernel)
set_option maxRecDepth 100000 in
theorem zo_112 : zMok (zmd 112) := zMok_of (a := 4) (b := 229) (b2 := 1002) (c := 4227) (d := 4228) (e := 0) rfl (by decide +kernel)
set_option maxRecDepth 100000 in
theorem zo_113 : zMok (zmd 113) := zMok_of (a := 4) (b := 194) (b2 := 1002) (c := 4192) (d := 4193) (e := 0) rfl (by decide +kernel)
set_option maxRecDepth 100000 in
theorem zo_114 : zMok (zmd 114) := zMok_of (a := 4) (b := 202) (b2 := 1002) (c := 4200) (d := 4201) (e := 0) rfl (by decide +kernel)
set_option maxRecDepth 100000 in
theorem zo_115 : zMok (zmd 115) := zMok_of (a := 3) (b := 182) (b2 := 1002) (c := 3180) (d := 3181) (e := 0) rfl (by decide +kernel)
set_option maxRecDepth 100000 in
theorem zo_116 : zMok (zmd 116) := zMok_of (a := 5) (b := 91) (b2 := 1002) (c := 5089) (d := 5090) (e := 0) rfl (by decide +kernel)
set_option maxRecDepth 100000 in
theorem zo_117 : zMok (zmd 117) := zMok_of (a := 3) (b := 186) (b2 := 1002) (c := 3185) (d := 13) (e := 0) rfl (by decide +kernel)
set_option maxRecDepth 100000 in
theorem zo_118 : zMok (zmd 118) := zMok_of (a := 3) (b := 191) (b2 := 1002) (c := 3190) (d := 14) (e := 0) rfl (by decide +kernel)
set_option maxRecDepth 100000 in
theorem zo_119 : zMok (zmd 119) := zMok_of (a := 1) (b := 132) (b2 := 1004) (c := 1131) (d := 0) (e := 0) rfl (by decide +kernel)
set_option maxRecDepth 100000 in
theorem zo_120 : zMok (zmd 120) := zMok_of (a := 3) (b := 213) (b2 := 1004) (c := 3211) (d := 3212) (e := 0) rfl (by decide +kernel)
set_option maxRecDepth 100000 in
theorem zo_121 : zMok (zmd 121) := zMok_of (a := 4) (b := 7) (b2 := 1004) (c := 4005) (d := 4006) (e := 0) rfl (by decide +kernel)
set_option maxRecDepth 100000 in
theorem zo_122 : zMok (zmd 122) := zMok_of (a := 5) (b := 23) (b2 := 1004) (c := 5021) (d := 5022) (e := 0) rfl (by decide +kernel)
set_option maxRecDepth 100000 in
theorem zo_123 : zMok (zmd 123) := zMok_of (a := 4) (b := 16) (b2 := 1004) (c := 4014) (d := 4015) (e := 0) rfl (by decide +kernel)
set_option maxRecDepth 100000 in
theorem zo_124 : zMok (zmd 124) := zMok_of (a := 4) (b := 24) (b2 := 1004) (c := 4022) (d := 4023) (e := 0) rfl (by decide +kernel)
set_option maxRecDepth 100000 in
theorem zo_125 : zMok (zmd 125) := zMok_of (a := 4) (b := 20) (b2 := 1004) (c := 4019) (d := 21) (e := 0) rfl (by decide +kernel)
set_option maxRecDepth 100000 in
theorem zo_126 : zMok (zmd 126) := zMok_of (a := 3) (b := 217) (b2 := 1004) (c := 3216) (d := 17) (e := 0) rfl (by decide +kernel)
set_option maxRecDepth 100000 in
theorem zo_127 : zMok (zmd 127) := zMok_of (a := 4) (b := 11) (b2 := 1004) (c := 4010) (d := 20) (e := 0) rfl (by decide +kernel)
set_option maxRecDepth 100000 in
theorem zo_128 : zMok (zmd 128) := zMok_of (a := 3) (b := 225) (b2 := 1004) (c := 3224) (d := 18) (e := 0) rfl (by decide +kernel)
set_option maxRecDepth 100000 in
theorem zo_129 : zMok (zmd 129) := zMok_of (a := 3) (b := 238) (b2 := 1004) (c := 0) (d := 0) (e := 3237) rfl (by decide +kernel)
set_option maxRecDepth 100000 in
theorem zo_130 : zMok (zmd 130) := zMok_of (a := 4) (b := 3) (b2 := 1004) (c := 4002) (d := 19) (e := 0) rfl (by decide +kernel)
set_option maxRecDepth 100000 in
theorem zo_131 : zMok (zmd 131) := zMok_of (a := 2) (b := 30) (b2 := 1009) (c := 2029) (d := 0) (e := 0) rfl (by decide +kernel)
set_option maxRecDepth 100000 in
theorem zo_132 : zMok (zmd 132) := zMok_of (a := 5) (b := 5) (b2 := 1009) (c := 5003) (d := 5004) (e := 0) rfl (by decide +kernel)
set_option maxRecDepth 100000 in
theorem zo_133 : zMok (zmd 133) := zMok_of (a := 5) (b := 9) (b2 := 1009) (c := 5007) (d := 5008) (e := 0) rfl (by decide +kernel)
set_option maxRecDepth 100000 in
theorem zo_134 : zMok (zmd 134) := zMok_of (a := 4) (b := 206) (b2 := 1009) (c := 4204) (d := 4205) (e := 0) rfl (by decide +kernel)
set_option maxRecDepth 100000 in
theorem zo_135 : zMok (zmd 135) := zMok_of (a := 4) (b := 211) (b2 := 1009) (c := 4210) (d := 28) (e := 0) rfl (by decide +kernel)
set_option maxRecDepth 100000 in
theorem zo_136 : zMok (zmd 136) := zMok_of (a := 4) (b := 225) (b2 := 1009) (c := 4224) (d := 29) (e := 0) rfl (by decide +kernel)
set_option maxRecDepth 100000 in
theorem zo_137 : zMok (zmd 137) := zMok_of (a := 4) (b := 233) (b2 := 1009) (c := 4232) (d := 30) (e := 0) rfl (by decide +kernel)
set_option maxRecDepth 100000 in
theorem zo_138 : zMok (zmd 138) := zMok_of (a := 4) (b := 237) (b2 := 1009) (c := 4236) (d := 31) (e := 0) rfl (by decide +kernel)
set_option maxRecDepth 100000 in
theorem zo_139 : zMok (zmd 139) := zMok_of (a := 1) (b := 26) (b2 := 1001) (c := 1025) (d := 0) (e := 0) rfl (by decide +kernel)
set_option maxRecDepth 100000 in
theorem zo_140 : zMok (zmd 140) := zMok_of (a := 2) (b := 159) (b2 := 1001) (c := 2157) (d := 2158) (e := 0) rfl (by decide +kernel)
set_option maxRecDepth 100000 in
theorem zo_141 : zMok (zmd 141) := zMok_of (a := 2) (b := 170) (b2 := 1001) (c := 2168) (d := 2169) (e := 0) rfl (by decide +kernel)
set_option maxRecDepth 100000 in
theorem zo_142 : zMok (zmd 142) := zMok_of (a := 2) (b := 186) (b2 := 1001) (c := 2184) (d := 2185) (e := 0) rfl (by decide +kernel)
set_option maxRecDepth 100000 in
theorem zo_143 : zMok (zmd 143) := zMok_of (a := 2) (b := 194) (b2 := 1001) (c := 2192) (d := 2193) (e := 0) rfl (by decide +kernel)
set_option maxRecDepth 100000 in
theorem zo_144 : zMok (zmd 144) := zMok_of (a := 2) (b := 211) (b2 := 1001) (c := 2209) (d := 2210) (e := 0) rfl (by decide +kernel)
set_option maxRecDepth 100000 in
theorem zo_145 : zMok (zmd 145) := zMok_of (a := 3) (b := 178) (b2 := 1001) (c := 3176) (d := 3177) (e := 0) rfl (by decide +kernel)
set_option maxRecDepth 100000 in
theorem zo_146 : zMok (zmd 146) := zMok_of (a := 3) (b := 209) (b2 := 1001) (c := 3207) (d := 3208) (e := 0) rfl (by decide +kernel)
set_option maxRecDepth 100000 in
theorem zo_147 : zMok (zmd 147) := zMok_of (a := 4) (b := 28) (b2 := 1001) (c := 4026) (d := 4027) (e := 0) rfl (by decide +kernel)
set_option maxRecDepth 100000 in
theorem zo_148 : zMok (zmd 148) := zMok_of (a := 4) (b := 36) (b2 := 1001) (c := 4034) (d := 4035) (e := 0) rfl (by decide +kernel)
set_option maxRecDepth 100000 in
theorem zo_149 : zMok (zmd 149) := zMok_of (a := 4) (b := 54) (b2 := 1001) (c := 4052) (d := 4053) (e := 0) rfl (by decide +kernel)
set_option maxRecDepth 100000 in
theorem zo_150 : zMok (zmd 150) := zMok_of (a := 4) (b := 96) (b2 := 1001) (c := 4094) (d := 4095) (e := 0) rfl (by decide +kernel)
set_option maxRecDepth 100000 in
theorem zo_151 : zMok (zmd 151) := zMok_of (a := 4) (b := 127) (b2 := 1001) (c := 4125) (d := 4126) (e := 0) rfl (by decide +kernel)
set_option maxRecDepth 100000 in
theorem zo_152 : zMok (zmd 152) := zMok_of (a := 4) (b := 135) (b2 := 1001) (c := 4133) (d := 4134) (e := 0) rfl (by decide +kernel)
set_option maxRecDepth 100000 in
theorem zo_153 : zMok (zmd 153) := zMok_of (a := 4) (b := 143) (b2 := 1001) (c := 4141) (d := 4142) (e := 0) rfl (by decide +kernel)
set_option maxRecDepth 100000 in
theorem zo_154 : zMok (zmd 154) := zMok_of (a := 4) (b := 160) (b2 := 1001) (c := 4158) (d := 4159) (e := 0) rfl (by decide +kernel)
set_option maxRecDepth 100000 in
theorem zo_155 : zMok (zmd 155) := zMok_of (a := 4) (b := 190) (b2 := 1001) (c := 4188) (d := 4189) (e := 0) rfl (by decide +kernel)
set_option maxRecDepth 100000 in
theorem zo_156 : zMok (zmd 156) := zMok_of (a := 4) (b := 198) (b2 := 1001) (c := 4196) (d := 4197) (e := 0) rfl (by decide +kernel)
set_option maxRecDepth 100000 in
theorem zo_157 : zMok (zmd 157) := zMok_of (a := 5) (b := 13) (b2 := 1001) (c := 5011) (d := 5012) (e := 0) rfl (by decide +kernel)
set_option maxRecDepth 100000 in
theorem zo_158 : zMok (zmd 158) := zMok_of (a := 5) (b := 38) (b2 := 1001) (c := 5036) (d := 5037) (e := 0) rfl (by decide +kernel)
set_option maxRecDepth 100000 in
theorem zo_159 : zMok (zmd 159) := zMok_of (a := 5) (b := 50) (b2 := 1001) (c := 5048) (d := 5049) (e := 0) rfl (by decide +kernel)
set_option maxRecDepth 100000 in
theorem zo_160 : zMok (zmd 160) := zMok_of (a := 5) (b := 76) (b2 := 1001) (c := 5074) (d := 5075) (e := 0) rfl (by decide +kernel)
set_option maxRecDepth 100000 in
theorem zo_161 : zMok (zmd 161) := zMok_of (a := 5) (b := 103) (b2 := 1001) (c := 5101) (d := 5102) (e := 0) rfl (by decide +kernel)
set_option maxRecDepth 100000 in
theorem zo_162 : zMok (zmd 162) := zMok_of (a := 5) (b := 117) (b2 := 1001) (c := 5115) (d := 5116) (e := 0) rfl (by decide +kernel)
set_option maxRecDepth 100000 in
theorem zo_163 : zMok (zmd 163) := zMok_of (a := 5) (b := 129) (b2 := 1001) (c := 5127) (d := 5128) (e := 0) rfl (by decide +kernel)
set_option maxRecDepth 100000 in
theorem zo_164 : zMok (zmd 164) := zMok_of (a := 5) (b := 137) (b2 := 1001) (c := 5135) (d := 5136) (e := 0) rfl (by decide +kernel)
set_option maxRecDepth 100000 in
theorem zo_165 : zMok (zmd 165) := zMok_of (a := 5) (b := 145) (b2 := 1001) (c := 5143) (d := 5144) (e := 0) rfl (by decide +kernel)
set_option maxRecDepth 100000 in
theorem zo_166 : zMok (zmd 166) := zMok_of (a := 5) (b := 150) (b2 := 1001) (c := 5148) (d := 5149) (e := 0) rfl (by decide +kernel)
set_option maxRecDepth 100000 in
theorem zo_167 : zMok (zmd 167) := zMok_of (a := 5) (b := 158) (b2 := 1001) (c := 5156) (d := 5157) (e := 0) rfl (by decide +kernel)
set_option maxRecDepth 100000 in
theorem zo_168 : zMok (zmd 168) := zMok_of (a := 5) (b := 166) (b2 := 1001) (c := 5164) (d := 5165) (e := 0) rfl (by decide +kernel)
set_option maxRecDepth 100000 in
theorem zo_169 : zMok (zmd 169) := zMok_of (a := 5) (b := 174) (b2 := 1001) (c := 5172) (d := 5173) (e := 0) rfl (by decide +kernel)
set_option maxRecDepth 100000 in
theorem zo_170 : zMok (zmd 170) := zMok_of (a := 5) (b := 187) (b2 := 1001) (c := 5185) (d := 5186) (e := 0) rfl (by decide +kernel)
set_option maxRecDepth 100000 in
theorem zo_171 : zMok (zmd 171) := zMok_of (a := 2) (b := 162) (b2 := 1001) (c := 0) (d := 0) (e := 2161) rfl (by decide +kernel)
set_option maxRecDepth 100000 in
theorem zo_172 : zMok (zmd 172) := zMok_of (a := 4) (b := 57) (b2 := 1001) (c := 0) (d := 0) (e := 4056) rfl (by decide +kernel)
set_option maxRecDepth 100000 in
theorem zo_173 : zMok (zmd 173) := zMok_of (a := 4) (b := 50) (b2 := 1001) (c := 0) (d := 0) (e := 4049) rfl (by decide +kernel)
set_option maxRecDepth 100000 in
theorem zo_174 : zMok (zmd 174) := zMok_of (a := 5) (b := 154) (b2 := 1001) (c := 5153) (d := 39) (e := 0) rfl (by decide +kernel)
set_option maxRecDepth 100000 in
theorem zo_175 : zMok (zmd 175) := zMok_of (a := 5) (b := 178) (b2 := 1001) (c := 5177) (d := 40) (e := 0) rfl (by decide +kernel)
set_option maxRecDepth 100000 in
theorem zo_176 : zMok (zmd 176) := zMok_of (a := 5) (b := 107) (b2 := 1001) (c := 5106) (d := 36) (e := 0) rfl (by decide +kernel)
set_option maxRecDepth 100000 in
theorem zo_177 : zMok (zmd 177) := zMok_of (a := 5) (b := 111) (b2 := 1001) (c := 5110) (d := 37) (e := 0) rfl (by decide +kernel)
set_option maxRecDepth 100000 in
theorem zo_178 : zMok (zmd 178) := zMok_of (a := 5) (b := 205) (b2 := 1013) (c := 5204) (d := 0) (e := 0) rfl (by decide +kernel)
set_option maxRecDepth 100000 in
theorem zo_179 : zMok (zmd 179) := zMok_of (a := 6) (b := 183) (b2 := 1013) (c := 0) (d := 0) (e := 6182) rfl (by decide +kernel)
set_option maxRecDepth 100000 in
theorem zo_180 : zMok (zmd 180) := zMok_of (a := 7) (b := 95) (b2 := 1013) (c := 0) (d := 0) (e := 7094) rfl (by decide +kernel)
set_option maxRecDepth 100000 in
theorem zo_181 : zMok (zmd 181) := zMok_of (a := 7) (b := 92) (b2 := 1013) (c := 0) (d := 0) (e := 7091) rfl (by decide +kernel)
set_option maxRecDepth 100000 in
theorem zo_182 : zMok (zmd 182) := zMok_of (a := 7) (b := 126) (b2 := 1013) (c := 0) (d := 0) (e := 7125) rfl (by decide +kernel)
set_option maxRecDepth 100000 in
theorem zo_183 : zMok (zmd 183) := zMok_of (a := 6) (b := 191) (b2 := 1013) (c := 6190) (d := 41) (e := 0) rfl (by decide +kernel)
set_option maxRecDepth 100000 in
theorem zo_184 : zMok (zmd 184) := zMok_of (a := 6) (b := 180) (b2 := 1013) (c := 6178) (d := 6179) (e := 0) rfl (by decide +kernel)
set_option maxRecDepth 100000 in
theorem zo_185 : zMok (zmd 185) := zMok_of (a := 6) (b := 195) (b2 := 1013) (c := 6194) (d := 42) (e := 0) rfl (by decide +kernel)
set_option maxRecDepth 100000 in
theorem zo_186 : zMok (zmd 186) := zMok_of (a := 6) (b := 187) (b2 := 1013) (c := 6185) (d := 6186) (e := 0) rfl (by decide +kernel)
set_option maxRecDepth 100000 in
theorem zo_187 : zMok (zmd 187) := zMok_of (a := 6) (b := 199) (b2 := 1013) (c := 6197) (d := 6198) (e := 0) rfl (by decide +kernel)
set_option maxRecDepth 100000 in
theorem zo_188 : zMok (zmd 188) := zMok_of (a := 6) (b := 207) (b2 := 1013) (c := 6206) (d := 43) (e := 0) rfl (by decide +kernel)
set_option maxRecDepth 100000 in
theorem zo_189 : zMok (zmd 189) := zMok_of (a := 6) (b := 203) (b2 := 1013) (c := 6201) (d := 6202) (e := 0) rfl (by decide +kernel)
set_option maxRecDepth 100000 in
theorem zo_190 : zMok (zmd 190) := zMok_of (a := 6) (b := 219) (b2 := 1013) (c := 6218) (d := 45) (e := 0) rfl (by decide +kernel)
set_option maxRecDepth 100000 in
theorem zo_191 : zMok (zmd 191) := zMok_of (a := 7) (b := 0) (b2 := 1013) (c := 6239) (d := 50) (e := 0) rfl (by decide +kernel)
set_option maxRecDepth 100000 in
theorem zo_192 : zMok (zmd 192) := zMok_of (a := 6) (b := 223) (b2 := 1013) (c := 6222) (d := 46) (e := 0) rfl (by decide +kernel)
set_option maxRecDepth 100000 in
theorem zo_193 : zMok (zmd 193) := zMok_of (a := 7) (b := 50) (b2 := 1013) (c := 7049) (d := 61) (e := 0) rfl (by decide +kernel)
set_option maxRecDepth 100000 in
theorem zo_194 : zMok (zmd 194) := zMok_of (a := 7) (b := 4) (b2 := 1013) (c := 7003) (d := 51) (e := 0) rfl (by decide +kernel)
set_option maxRecDepth 100000 in
theorem zo_195 : zMok (zmd 195) := zMok_of (a := 7) (b := 8) (b2 := 1013) (c := 7007) (d := 52) (e := 0) rfl (by decide +kernel)
set_option maxRecDepth 100000 in
theorem zo_196 : zMok (zmd 196) := zMok_of (a := 6) (b := 235) (b2 := 1013) (c := 6234) (d := 49) (e := 0) rfl (by decide +kernel)
set_option maxRecDepth 100000 in
theorem zo_197 : zMok (zmd 197) := zMok_of (a := 7) (b := 22) (b2 := 1013) (c := 7021) (d := 54) (e := 0) rfl (by decide +kernel)
set_option maxRecDepth 100000 in
theorem zo_198 : zMok (zmd 198) := zMok_of (a := 7) (b := 11) (b2 := 1013) (c := 0) (d := 0) (e := 7010) rfl (by decide +kernel)
set_option maxRecDepth 100000 in
theorem zo_199 : zMok (zmd 199) := zMok_of (a := 7) (b := 14) (b2 := 1013) (c := 0) (d := 0) (e := 7013) rfl (by decide +kernel)
set_option maxRecDepth 100000 in
theorem zo_200 : zMok (zmd 200) := zMok_of (a := 7) (b := 18) (b2 := 1013) (c := 7017) (d := 53) (e := 0) rfl (by decide +kernel)
set_option maxRecDepth 100000 in
theorem zo_201 : zMok (zmd 201) := zMok_of (a := 6) (b := 231) (b2 := 1013) (c := 6230) (d := 48) (e := 0) rfl (by decide +kernel)
set_option maxRecDepth 100000 in
theorem zo_202 : zMok (zmd 202) := zMok_of (a := 7) (b := 26) (b2 := 1013) (c := 7025) (d := 55) (e := 0) rfl (by decide +kernel)
set_option maxRecDepth 100000 in
theorem zo_203 : zMok (zmd 203) := zMok_of (a := 6) (b := 227) (b2 := 1013) (c := 6226) (d := 47) (e := 0) rfl (by decide +kernel)
set_option maxRecDepth 100000 in
theorem zo_204 : zMok (zmd 204) := zMok_of (a := 7) (b := 38) (b2 := 1013) (c := 7037) (d := 58) (e := 0) rfl (by decide +kernel)
set_option maxRecDepth 100000 in
theorem zo_205 : zMok (zmd 205) := zMok_of (a := 7) (b := 42) (b2 := 1013) (c := 7041) (d := 59) (e := 0) rfl (by decide +kernel)
set_option maxRecDepth 100000 in
theorem zo_206 : zMok (zmd 206) := zMok_of (a := 7) (b := 46) (b2 := 1013) (c := 7045) (d := 60) (e := 0) rfl (by decide +kernel)
set_option maxRecDepth 100000 in
theorem zo_207 : zMok (zmd 207) := zMok_of (a := 7) (b := 34) (b2 := 1013) (c := 7033) (d := 57) (e := 0) rfl (by decide +kernel)
set_option maxRecDepth 100000 in
theorem zo_208 : zMok (zmd 208) := zMok_of (a := 7) (b := 30) (b2 := 1013) (c := 7029) (d := 56) (e := 0) rfl (by decide +kernel)
set_option maxRecDepth 100000 in
theorem zo_209 : zMok (zmd 209) := zMok_of (a := 6) (b := 215) (b2 := 1013) (c := 6214) (d := 44) (e := 0) rfl (by decide +kernel)
set_option maxRecDepth 100000 in
theorem zo_210 : zMok (zmd 210) := zMok_of (a := 6) (b := 211) (b2 := 1013) (c := 6209) (d := 6210) (e := 0) rfl (by decide +kernel)
set_option maxRecDepth 100000 in
theorem zo_211 : zMok (zmd 211) := zMok_of (a := 7) (b := 69) (b2 := 1013) (c := 0) (d := 0) (e := 7068) rfl (by decide +kernel)
set_option maxRecDepth 100000 in
theorem zo_212 : zMok (zmd 212) := zMok_of (a := 7) (b := 66) (b2 := 1013) (c := 7065) (d := 63) (e := 0) rfl (by decide +kernel)
set_option maxRecDepth 100000 in
theorem zo_213 : zMok (zmd 213) := zMok_of (a := 7) (b := 61) (b2 := 1013) (c := 7060) (d := 62) (e := 0) rfl (by decide +kernel)
set_option maxRecDepth 100000 in
theorem zo_214 : zMok (zmd 214) := zMok_of (a := 7) (b := 57) (b2 := 1013) (c := 0) (d := 0) (e := 7056) rfl (by decide +kernel)
set_option maxRecDepth 100000 in
theorem zo_215 : zMok (zmd 215) := zMok_of (a := 7) (b := 54) (b2 := 1013) (c := 7052) (d := 7053) (e := 0) rfl (by decide +kernel)
set_option maxRecDepth 100000 in
theorem zo_216 : zMok (zmd 216) := zMok_of (a := 7) (b := 77) (b2 := 1013) (c := 7076) (d := 64) (e := 0) rfl (by decide +kernel)
set_option maxRecDepth 100000 in
theorem zo_217 : zMok (zmd 217) := zMok_of (a := 7) (b := 89) (b2 := 1013) (c := 7088) (d := 67) (e := 0) rfl (by decide +kernel)
set_option maxRecDepth 100000 in
theorem zo_218 : zMok (zmd 218) := zMok_of (a := 7) (b := 85) (b2 := 1013) (c := 7084) (d := 66) (e := 0) rfl (by decide +kernel)
set_option maxRecDepth 100000 in
theorem zo_219 : zMok (zmd 219) := zMok_of (a := 7) (b := 81) (b2 := 1013) (c := 7080) (d := 65) (e := 0) rfl (by decide +kernel)
set_option maxRecDepth 100000 in
theorem zo_220 : zMok (zmd 220) := zMok_of (a := 7) (b := 115) (b2 := 1013) (c := 7114) (d := 70) (e := 0) rfl (by decide +kernel)
set_option maxRecDepth 100000 in
theorem zo_221 : zMok (zmd 221) := zMok_of (a := 7) (b := 103) (b2 := 1013) (c := 7102) (d := 69) (e := 0) rfl (by decide +kernel)
set_option maxRecDepth 100000 in
theorem zo_222 : zMok (zmd 222) := zMok_of (a := 7) (b := 99) (b2 := 1013) (c := 7098) (d := 68) (e := 0) rfl (by decide +kernel)
set_option maxRecDepth 100000 in
theorem zo_223 : zMok (zmd 223) := zMok_of (a := 7) (b := 73) (b2 := 1013) (c := 7071) (d := 7072) (e := 0) rfl (by decide +kernel)
set_option maxRecDepth 100000 in
theorem zo_224 : zMok (zmd 224) := zMok_of (a := 7) (b := 107) (b2 := 1013) (c := 7105) (d := 7106) (e := 0) rfl (by decide +kernel)
set_option maxRecDepth 100000 in
theorem zo_225 : zMok (zmd 225) := zMok_of (a := 7) (b := 146) (b2 := 1013) (c := 7145) (d := 76) (e := 0) rfl (by decide +kernel)
set_option maxRecDepth 100000 in
theorem zo_226 : zMok (zmd 226) := zMok_of (a := 7) (b := 111) (b2 := 1013) (c := 7109) (d := 7110) (e := 0) rfl (by decide +kernel)
set_option maxRecDepth 100000 in
theorem zo_227 : zMok (zmd 227) := zMok_of (a := 7) (b := 142) (b2 := 1013) (c := 7141) (d := 75) (e := 0) rfl (by decide +kernel)
set_option maxRecDepth 100000 in
theorem zo_228 : zMok (zmd 228) := zMok_of (a := 7) (b := 150) (b2 := 1013) (c := 7149) (d := 77) (e := 0) rfl (by decide +kernel)
set_option maxRecDepth 100000 in
theorem zo_229 : zMok (zmd 229) := zMok_of (a := 7) (b := 138) (b2 := 1013) (c := 7137) (d := 74) (e := 0) rfl (by decide +kernel)
set_option maxRecDepth 100000 in
theorem zo_230 : zMok (zmd 230) := zMok_of (a := 7) (b := 134) (b2 := 1013) (c := 7133) (d := 73) (e := 0) rfl (by decide +kernel)
set_option maxRecDepth 100000 in
theorem zo_231 : zMok (zmd 231) := zMok_of (a := 7) (b := 130) (b2 := 1013) (c := 7129) (d := 72) (e := 0) rfl (by decide +kernel)
set_option maxRecDepth 100000 in
theorem zo_232 : zMok (zmd 232) := zMok_of (a := 7) (b := 123) (b2 := 1013) (c := 7122) (d := 71) (e := 0) rfl (by decide +kernel)
set_option maxRecDepth 100000 in
theorem zo_233 : zMok (zmd 233) := zMok_of (a := 7) (b := 119) (b2 := 1013) (c := 7117) (d := 7118) (e := 0) rfl (by decide +kernel)
set_option maxRecDepth 100000 in
theorem zo_234 : zMok (zmd 234) := zMok_of (a := 7) (b := 159) (b2 := 1013) (c := 7158) (d := 78) (e := 0) rfl (by decide +kernel)
set_option maxRecDepth 100000 in
theorem zo_235 : zMok (zmd 235) := zMok_of (a := 7) (b := 154) (b2 := 1013) (c := 7152) (d := 7153) (e := 0) rfl (by decide +kernel)
set_option maxRecDepth 100000 in
theorem zo_236 : zMok (zmd 236) := zMok_of (a := 7) (b := 175) (b2 := 1013) (c := 7174) (d := 79) (e := 0) rfl (by decide +kernel)
set_option maxRecDepth 100000 in
theorem zo_237 : zMok (zmd 237) := zMok_of (a := 7) (b := 179) (b2 := 1013) (c := 7178) (d := 80) (e := 0) rfl (by decide +kernel)
set_option maxRecDepth 100000 in
theorem zo_238 : zMok (zmd 238) := zMok_of (a := 7) (b := 163) (b2 := 1013) (c := 7161) (d := 7162) (e := 0) rfl (by decide +kernel)
set_option maxRecDepth 100000 in
theorem zo_239 : zMok (zmd 239) := zMok_of (a := 7) (b := 167) (b2 := 1013) (c := 7165) (d := 7166) (e := 0) rfl (by decide +kernel)
set_option maxRecDepth 100000 in
theorem zo_240 : zMok (zmd 240) := zMok_of (a := 7) (b := 184) (b2 := 1013) (c := 7183) (d := 81) (e := 0) rfl (by decide +kernel)
set_option maxRecDepth 100000 in
theorem zo_241 : zMok (zmd 241) := zMok_of (a := 7) (b := 171) (b2 := 1013) (c := 7169) (d := 7170) (e := 0) rfl (by decide +kernel)
set_option maxRecDepth 100000 in
theorem zo_242 : zMok (zmd 242) := zMok_of (a := 7) (b := 197) (b2 := 1013) (c := 7196) (d := 83) (e := 0) rfl (by decide +kernel)
set_option maxRecDepth 100000 in
theorem zo_243 : zMok (zmd 243) := zMok_of (a := 7) (b := 193) (b2 := 1013) (c := 7192) (d := 82) (e := 0) rfl (by decide +kernel)
set_option maxRecDepth 100000 in
theorem zo_244 : zMok (zmd 244) := zMok_of (a := 7) (b := 203) (b2 := 1013) (c := 7202) (d := 84) (e := 0) rfl (by decide +kernel)
set_option maxRecDepth 100000 in
theorem zo_245 : zMok (zmd 245) := zMok_of (a := 7) (b := 189) (b2 := 1013) (c := 7187) (d := 7188) (e := 0) rfl (by decide +kernel)
set_option maxRecDepth 100000 in
theorem zo_246 : zMok (zmd 246) := zMok_of (a := 7) (b := 207) (b2 := 1013) (c := 7205) (d := 7206) (e := 0) rfl (by decide +kernel)
set_option maxRecDepth 100000 in
theorem zo_247 : zMok (zmd 247) := zMok_of (a := 7) (b := 215) (b2 := 1013) (c := 7214) (d := 85) (e := 0) rfl (by decide +kernel)
set_option maxRecDepth 100000 in
theorem zo_248 : zMok (zmd 248) := zMok_of (a := 7) (b := 223) (b2 := 1013) (c := 7222) (d := 87) (e := 0) rfl (by decide +kernel)
set_option maxRecDepth 100000 in
theorem zo_249 : zMok (zmd 249) := zMok_of (a := 7) (b := 219) (b2 := 1013) (c := 7218) (d := 86) (e := 0) rfl (by decide +kernel)
set_option maxRecDepth 100000 in
theorem zo_250 : zMok (zmd 250) := zMok_of (a := 7) (b := 211) (b2 := 1013) (c := 7209) (d := 7210) (e := 0) rfl (by decide +kernel)
set_option maxRecDepth 100000 in
theorem zo_251 : zMok (zmd 251) := zMok_of (a := 7) (b := 235) (b2 := 1013) (c := 7234) (d := 89) (e := 0) rfl (by decide +kernel)
set_option maxRecDepth 100000 in
theorem zo_252 : zMok (zmd 252) := zMok_of (a := 7) (b := 231) (b2 := 1013) (c := 7230) (d := 88) (e := 0) rfl (by decide +kernel)
set_option maxRecDepth 100000 in
theorem zo_253 : zMok (zmd 253) := zMok_of (a := 7) (b := 227) (b2 := 1013) (c := 7225) (d := 7226) (e := 0) rfl (by decide +kernel)
set_option maxRecDepth 100000 in
theorem zo_254 : zMok (zmd 254) := zMok_of (a := 7) (b := 239) (b2 := 1013) (c := 7237) (d := 7238) (e := 0) rfl (by decide +kernel)
set_option maxRecDepth 100000 in
theorem zo_255 : zMok (zmd 255) := zMok_of (a := 8) (b := 15) (b2 := 1013) (c := 8014) (d := 92) (e := 0) rfl (by decide +kernel)
set_option maxRecDepth 100000 in
theorem zo_256 : zMok (zmd 256) := zMok_of (a := 8) (b := 11) (b2 := 1013) (c := 8010) (d := 91) (e := 0) rfl (by decide +kernel)
set_option maxRecDepth 100000 in
theorem zo_257 : zMok (zmd 257) := zMok_of (a := 8) (b := 7) (b2 := 1013) (c := 8006) (d := 90) (e := 0) rfl (by decide +kernel)
set_option maxRecDepth 100000 in
theorem zo_258 : zMok (zmd 258) := zMok_of (a := 8) (b := 3) (b2 := 1013) (c := 8001) (d := 8002) (e := 0) rfl (by decide +kernel)
set_option maxRecDepth 100000 in
theorem zo_259 : zMok (zmd 259) := zMok_of (a := 8) (b := 23) (b2 := 1013) (c := 8022) (d := 93) (e := 0) rfl (by decide +kernel)
set_option maxRecDepth 100000 in
theorem zo_260 : zMok (zmd 260) := zMok_of (a := 8) (b := 19) (b2 := 1013) (c := 8017) (d := 8018) (e := 0) rfl (by decide +kernel)
set_option maxRecDepth 100000 in
theorem zo_261 : zMok (zmd 261) := zMok_of (a := 8) (b := 31) (b2 := 1013) (c := 8030) (d := 94) (e := 0) rfl (by decide +kernel)
set_option maxRecDepth 100000 in
theorem zo_262 : zMok (zmd 262) := zMok_of (a := 8) (b := 27) (b2 := 1013) (c := 8025) (d := 8026) (e := 0) rfl (by decide +kernel)
set_option maxRecDepth 100000 in
theorem zo_263 : zMok (zmd 263) := zMok_of (a := 8) (b := 35) (b2 := 1013) (c := 8033) (d := 8034) (e := 0) rfl (by decide +kernel)
set_option maxRecDepth 100000 in
theorem zo_264 : zMok (zmd 264) := zMok_of (a := 8) (b := 47) (b2 := 1013) (c := 8046) (d := 96) (e := 0) rfl (by decide +kernel)
set_option maxRecDepth 100000 in
theorem zo_265 : zMok (zmd 265) := zMok_of (a := 8) (b := 43) (b2 := 1013) (c := 8042) (d := 95) (e := 0) rfl (by decide +kernel)
set_option maxRecDepth 100000 in
theorem zo_266 : zMok (zmd 266) := zMok_of (a := 8) (b := 39) (b2 := 1013) (c := 8037) (d := 8038) (e := 0) rfl (by decide +kernel)
set_option maxRecDepth 100000 in
theorem zo_267 : zMok (zmd 267) := zMok_of (a := 8) (b := 51) (b2 := 1013) (c := 8049) (d := 8050) (e := 0) rfl (by decide +kernel)
set_option maxRecDepth 100000 in
theorem zo_268 : zMok (zmd 268) := zMok_of (a := 8) (b := 55) (b2 := 1013) (c := 8053) (d := 8054) (e := 0) rfl (by decide +kernel)
set_option maxRecDepth 100000 in
theorem zo_269 : zMok (zmd 269) := zMok_of (a := 8) (b := 60) (b2 := 1013) (c := 8058) (d := 8059) (e := 0) rfl (by decide +kernel)
set_option maxRecDepth 100000 in
theorem zo_270 : zMok (zmd 270) := zMok_of (a := 8) (b := 65) (b2 := 1013) (c := 8063) (d := 8064) (e := 0) rfl (by decide +kernel)
set_option maxRecDepth 100000 in
theorem zo_271 : zMok (zmd 271) := zMok_of (a := 8) (b := 69) (b2 := 1013) (c := 8067) (d := 8068) (e := 0) rfl (by decide +kernel)
set_option maxRecDepth 100000 in
theorem zo_272 : zMok (zmd 272) := zMok_of (a := 8) (b := 77) (b2 := 1013) (c := 8076) (d := 97) (e := 0) rfl (by decide +kernel)
set_option maxRecDepth 100000 in
theorem zo_273 : zMok (zmd 273) := zMok_of (a := 8) (b := 73) (b2 := 1013) (c := 8071) (d := 8072) (e := 0) rfl (by decide +kernel)
set_option maxRecDepth 100000 in
theorem zo_274 : zMok (zmd 274) := zMok_of (a := 8) (b := 81) (b2 := 1013) (c := 8079) (d := 8080) (e := 0) rfl (by decide +kernel)
