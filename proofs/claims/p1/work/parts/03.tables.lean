/-! the tables: classes, methods, links, by number (written by wip/whole/gen03.py) -/
def CN : Nat → String := fun k => match k with
  | 0 => "CopperBoard$Checks"
  | 1 => "CopperBoard$Chooser"
  | 2 => "CopperBoard$Grid"
  | 3 => "CopperBoard$Nets"
  | 4 => "CopperBoard$Planes"
  | 5 => "CopperBoard$Presser"
  | 6 => "CopperBoard$Room"
  | 7 => "CopperBoard$Router"
  | 8 => "CopperBoard$Tape"
  | 9 => "CopperBoard$Trail"
  | 10 => "CopperBoard$Trial"
  | 11 => "CopperBoard"
  | 12 => "CopperBoardModel"
  | 13 => "CopperBoardLaw"
  | 14 => "java/lang/Integer"
  | 15 => "java/lang/Math"
  | _ => "java/util/Arrays"
abbrev cls : List vw_C := [(RX0, TX0, 9), (RX1, TX1, 4), (RX2, TX2, 9), (RX3, TX3, 15), (RX4, TX4, 5), (RX5, TX5, 6), (RX6, TX6, 10), (RX7, TX7, 15), (RX8, TX8, 6), (RX9, TX9, 6), (RX10, TX10, 11), (RX11, TX11, 11), (RX12, TX12, 54)]
def k_ty : Nat → Nat → FieldType := fun k => match k with
  | 0 => tyX0
  | 1 => tyX1
  | 2 => tyX2
  | 3 => tyX3
  | 4 => tyX4
  | 5 => tyX5
  | 6 => tyX6
  | 7 => tyX7
  | 8 => tyX8
  | 9 => tyX9
  | 10 => tyX10
  | 11 => tyX11
  | _ => tyX12
def k_nf : Nat → Nat := fun k => match k with
  | 0 => 9
  | 1 => 4
  | 2 => 9
  | 3 => 15
  | 4 => 5
  | 5 => 6
  | 6 => 10
  | 7 => 15
  | 8 => 6
  | 9 => 6
  | 10 => 11
  | 11 => 11
  | _ => 54
def MTL_0 : List (MethodName × ByteArray × Nat × Option FieldType) := [(yX0_init, cX0_init, 3, none),
  (yX0_shiftVias, cX0_shiftVias, 6, none),
  (yX0_judgeVia, cX0_judgeVia, 6, none),
  (yX0_worstShift, cX0_worstShift, 8, some .int),
  (yX0_joinAll, cX0_joinAll, 2, none),
  (yX0_joinFrom, cX0_joinFrom, 8, some .int),
  (yX0_allMovesAt, cX0_allMovesAt, 4, some .int),
  (yX0_joinedPairs, cX0_joinedPairs, 4, some .int),
  (yX0_areJoined, cX0_areJoined, 3, some .boolean),
  (yX0_openParts, cX0_openParts, 4, some .int),
  (yX0_isNewPart, cX0_isNewPart, 4, some .boolean),
  (yX0_reachable, cX0_reachable, 5, some .int),
  (yX0_copperBeside, cX0_copperBeside, 5, some .int),
  (yX0_delayOf, cX0_delayOf, 5, some .int),
  (yX0_isBeside, cX0_isBeside, 4, some .boolean),
  (yX0_cellsBeside, cX0_cellsBeside, 5, some .int),
  (yX0_turnsAway, cX0_turnsAway, 8, some .int),
  (yX1_init, cX1_init, 5, none),
  (yX1_cutOf, cX1_cutOf, 8, some .int),
  (yX1_isWall, cX1_isWall, 4, some .boolean),
  (yX1_setOf, cX1_setOf, 1, some .int),
  (yX1_othersWithTraces, cX1_othersWithTraces, 4, some .int),
  (yX1_fewestBars, cX1_fewestBars, 7, some .int),
  (yX1_whyVias, cX1_whyVias, 2, some .int),
  (yX1_fewestByRows, cX1_fewestByRows, 7, some .int),
  (yX1_layFlat, cX1_layFlat, 3, some .boolean),
  (yX1_moveLate, cX1_moveLate, 9, some .int),
  (yX1_layWith, cX1_layWith, 5, some .boolean),
  (yX2_init, cX2_init, 8, none),
  (yX2_cellAt, cX2_cellAt, 4, some .int),
  (yX2_allLayers, cX2_allLayers, 1, some .int),
  (yX3_init, cX3_init, 2, none),
  (yX3_addSort, cX3_addSort, 2, some .int),
  (yX3_addNet, cX3_addNet, 2, some .int),
  (yX3_setting, cX3_setting, 3, some .int),
  (yX3_hasPin, cX3_hasPin, 4, some .boolean),
  (yX3_pinCell, cX3_pinCell, 3, some .int),
  (yX3_addPin, cX3_addPin, 4, some .int),
  (yX3_movePin, cX3_movePin, 4, none),
  (yX3_close, cX3_close, 8, none)]
def MTL_1 : List (MethodName × ByteArray × Nat × Option FieldType) := [(yX3_addWire, cX3_addWire, 7, none),
  (yX3_addTrace, cX3_addTrace, 4, some .int),
  (yX3_join, cX3_join, 7, some .int),
  (yX3_dropTrace, cX3_dropTrace, 5, none),
  (yX3_removeTraces, cX3_removeTraces, 3, none),
  (yX3_removeAllTraces, cX3_removeAllTraces, 1, none),
  (yX3_removeWires, cX3_removeWires, 2, none),
  (yX3_settle, cX3_settle, 3, none),
  (yX3_hasTraces, cX3_hasTraces, 2, some .boolean),
  (yX3_hasWires, cX3_hasWires, 2, some .boolean),
  (yX3_hasHoles, cX3_hasHoles, 2, some .boolean),
  (yX3_anyMove, cX3_anyMove, 5, some .boolean),
  (yX3_copperAt, cX3_copperAt, 2, some .int),
  (yX3_movesAt, cX3_movesAt, 3, some .int),
  (yX3_lengthOf, cX3_lengthOf, 4, some .int),
  (yX3_viasOf, cX3_viasOf, 4, some .int),
  (yX3_cellsOf, cX3_cellsOf, 4, some .int),
  (yX3_saveTraces, cX3_saveTraces, 1, none),
  (yX3_restoreTraces, cX3_restoreTraces, 1, none),
  (yX3_isAsSaved, cX3_isAsSaved, 2, some .boolean),
  (yX4_init, cX4_init, 4, none),
  (yX4_figure, cX4_figure, 6, some .int),
  (yX4_partPlane, cX4_partPlane, 4, none),
  (yX4_hasOwn, cX4_hasOwn, 3, some .boolean),
  (yX4_necks, cX4_necks, 5, some .int),
  (yX4_spokesAt, cX4_spokesAt, 6, some .int),
  (yX4_withoutReturn, cX4_withoutReturn, 8, some .int),
  (yX5_init, cX5_init, 5, none),
  (yX5_layInOrder, cX5_layInOrder, 4, some .int),
  (yX5_pressAll, cX5_pressAll, 4, some .int),
  (yX5_layTurn, cX5_layTurn, 5, some .boolean),
  (yX5_warmCrowded, cX5_warmCrowded, 4, some .boolean),
  (yX5_orderFigure, cX5_orderFigure, 3, some .int),
  (yX5_pressFigure, cX5_pressFigure, 5, some .int),
  (yX5_withPins, cX5_withPins, 3, some .int),
  (yX5_wholeFigure, cX5_wholeFigure, 4, some .int),
  (yX6_init, cX6_init, 3, none),
  (yX6_look, cX6_look, 8, none),
  (yX6_partOthers, cX6_partOthers, 4, none),
  (yX6_spreadAll, cX6_spreadAll, 5, none)]
def MTL_2 : List (MethodName × ByteArray × Nat × Option FieldType) := [(yX6_spread, cX6_spread, 11, none),
  (yX6_mark, cX6_mark, 5, none),
  (yX6_markPlane, cX6_markPlane, 4, none),
  (yX6_isClear, cX6_isClear, 3, some .boolean),
  (yX6_flood, cX6_flood, 3, some .int),
  (yX6_floodMore, cX6_floodMore, 7, some .int),
  (yX6_lowestUnreachedPin, cX6_lowestUnreachedPin, 3, some .int),
  (yX6_joinsAllPins, cX6_joinsAllPins, 3, some .boolean),
  (yX7_init, cX7_init, 4, none),
  (yX7_layNet, cX7_layNet, 2, some .int),
  (yX7_tryCost, cX7_tryCost, 4, some .int),
  (yX7_layRows, cX7_layRows, 7, some .int),
  (yX7_markJoined, cX7_markJoined, 7, none),
  (yX7_search, cX7_search, 6, some .boolean),
  (yX7_comeFrom, cX7_comeFrom, 8, none),
  (yX7_bendFrom, cX7_bendFrom, 3, some .int),
  (yX7_offer, cX7_offer, 4, none),
  (yX7_takeLeast, cX7_takeLeast, 5, some .int),
  (yX7_walk, cX7_walk, 7, none),
  (yX7_laneBehind, cX7_laneBehind, 3, some .int),
  (yX7_firstMove, cX7_firstMove, 8, some .int),
  (yX8_init, cX8_init, 2, none),
  (yX8_bytesIn, cX8_bytesIn, 3, some .int),
  (yX8_take, cX8_take, 4, none),
  (yX8_scan, cX8_scan, 2, some .int),
  (yX8_readSetting, cX8_readSetting, 2, some .boolean),
  (yX8_kindHere, cX8_kindHere, 2, some .int),
  (yX8_digitHere, cX8_digitHere, 1, some .int),
  (yX8_skipBlanks, cX8_skipBlanks, 1, none),
  (yX8_readNumber, cX8_readNumber, 4, some .boolean),
  (yX8_readLayers, cX8_readLayers, 4, some .boolean),
  (yX9_init, cX9_init, 4, none),
  (yX9_canFollow, cX9_canFollow, 2, some .boolean),
  (yX9_follow, cX9_follow, 7, none),
  (yX9_bendOut, cX9_bendOut, 6, some .int),
  (yX9_goBeside, cX9_goBeside, 8, some .boolean),
  (yX9_isOpen, cX9_isOpen, 3, some .boolean),
  (yX9_longestBeside, cX9_longestBeside, 6, some .int),
  (yX9_touches, cX9_touches, 5, some .boolean),
  (yX10_init, cX10_init, 6, none)]
def MTL_3 : List (MethodName × ByteArray × Nat × Option FieldType) := [(yX10_tryWholly, cX10_tryWholly, 3, some .int),
  (yX10_openCells, cX10_openCells, 5, some .int),
  (yX10_findWays, cX10_findWays, 5, some .boolean),
  (yX10_extend, cX10_extend, 12, some .boolean),
  (yX10_laterCanJoin, cX10_laterCanJoin, 6, some .boolean),
  (yX10_openAt, cX10_openAt, 6, some .int),
  (yX10_widened, cX10_widened, 5, some .int),
  (yX10_oneMove, cX10_oneMove, 3, some .int),
  (yX10_canReach, cX10_canReach, 7, some .boolean),
  (yX11_init, cX11_init, 4, none),
  (yX11_feed, cX11_feed, 7, some .int),
  (yX11_end, cX11_end, 2, some .boolean),
  (yX11_fault, cX11_fault, 1, some .int),
  (yX11_sort, cX11_sort, 1, some .int),
  (yX11_told, cX11_told, 3, some .int),
  (yX11_net, cX11_net, 2, some .int),
  (yX11_pin, cX11_pin, 6, some .int),
  (yX11_keep, cX11_keep, 7, some .boolean),
  (yX11_wire, cX11_wire, 10, some .boolean),
  (yX11_hole, cX11_hole, 6, some .boolean),
  (yX11_copper, cX11_copper, 5, some .int),
  (yX11_free, cX11_free, 6, some .int),
  (yX11_lay, cX11_lay, 2, some .int),
  (yX11_cost, cX11_cost, 3, some .int),
  (yX11_rip, cX11_rip, 2, some .boolean),
  (yX11_rank, cX11_rank, 3, some .boolean),
  (yX11_order, cX11_order, 1, some .int),
  (yX11_press, cX11_press, 4, some .int),
  (yX11_cut, cX11_cut, 3, some .int),
  (yX11_bars, cX11_bars, 2, some .int),
  (yX11_together, cX11_together, 2, some .int),
  (yX11_about, cX11_about, 3, some .int),
  (yX11_stretch, cX11_stretch, 3, some .int),
  (yX11_span, cX11_span, 3, some .int),
  (yX11_equal, cX11_equal, 7, some .int),
  (yX11_plane, cX11_plane, 4, some .int),
  (yX11_spokes, cX11_spokes, 3, some .int),
  (yX11_back, cX11_back, 4, some .int),
  (yX11_wander, cX11_wander, 4, some .int),
  (yX11_worst, cX11_worst, 3, some .int)]
def MTL_4 : List (MethodName × ByteArray × Nat × Option FieldType) := [(yX11_late, cX11_late, 7, some .int),
  (yX11_netlist, cX11_netlist, 2, some .int),
  (yX11_test, cX11_test, 2, some .int),
  (yX11_slow, cX11_slow, 3, some .boolean),
  (yX11_delay, cX11_delay, 2, some .int),
  (yX11_pair, cX11_pair, 4, some .int),
  (yX11_beside, cX11_beside, 5, some .int),
  (yX11_why, cX11_why, 2, some .int),
  (yX11_steady, cX11_steady, 2, some .boolean),
  (yX11_panel, cX11_panel, 7, some .int),
  (yX11_unwire, cX11_unwire, 2, some .boolean),
  (yX11_count, cX11_count, 2, some .int),
  (yX11_within, cX11_within, 3, some .int),
  (yX11_isNet, cX11_isNet, 2, some .boolean),
  (yX11_isLayer, cX11_isLayer, 2, some .boolean),
  (yX11_areNets, cX11_areNets, 2, some .boolean),
  (yX11_arePressing, cX11_arePressing, 2, some .boolean),
  (yX11_fitting, cX11_fitting, 4, some .int),
  (yX11_splitSheet, cX11_splitSheet, 13, some .int),
  (yX12_in, cX12_in, 3, some .boolean),
  (yX12_within, cX12_within, 3, some .int),
  (yX12_init, cX12_init, 4, none),
  (yX12_thrown, cX12_thrown, 1, some .int),
  (yX12_byteOf, cX12_byteOf, 7, some .int),
  (yX12_feed, cX12_feed, 9, some .int),
  (yX12_end, cX12_end, 2, some .boolean),
  (yX12_here, cX12_here, 1, some .int),
  (yX12_look, cX12_look, 1, some .int),
  (yX12_bad, cX12_bad, 1, none),
  (yX12_isDigit, cX12_isDigit, 1, some .boolean),
  (yX12_number, cX12_number, 4, some .int),
  (yX12_letterAt, cX12_letterAt, 2, some .int),
  (yX12_setting, cX12_setting, 4, none),
  (yX12_readLayers, cX12_readLayers, 4, none),
  (yX12_readSort, cX12_readSort, 2, some .int),
  (yX12_fault, cX12_fault, 1, some .int),
  (yX12_sort, cX12_sort, 1, some .int),
  (yX12_told, cX12_told, 3, some .int),
  (yX12_isNet, cX12_isNet, 2, some .boolean),
  (yX12_isCell, cX12_isCell, 4, some .boolean)]
def MTL_5 : List (MethodName × ByteArray × Nat × Option FieldType) := [(yX12_cell, cX12_cell, 3, some .int),
  (yX12_xOf, cX12_xOf, 1, some .int),
  (yX12_yOf, cX12_yOf, 1, some .int),
  (yX12_layerOf, cX12_layerOf, 1, some .int),
  (yX12_moved, cX12_moved, 6, some .int),
  (yX12_net, cX12_net, 2, some .int),
  (yX12_pinOn, cX12_pinOn, 4, some .int),
  (yX12_pin, cX12_pin, 5, some .int),
  (yX12_keep, cX12_keep, 9, some .boolean),
  (yX12_hasWire, cX12_hasWire, 5, some .boolean),
  (yX12_addWire, cX12_addWire, 6, none),
  (yX12_wire, cX12_wire, 10, some .boolean),
  (yX12_hole, cX12_hole, 5, some .boolean),
  (yX12_has, cX12_has, 3, some .boolean),
  (yX12_copper, cX12_copper, 6, some .int),
  (yX12_counts, cX12_counts, 4, some .boolean),
  (yX12_apart, cX12_apart, 3, some .int),
  (yX12_isNear, cX12_isNear, 6, some .boolean),
  (yX12_isFree, cX12_isFree, 5, some .boolean),
  (yX12_free, cX12_free, 5, some .int),
  (yX12_paint, cX12_paint, 3, none),
  (yX12_takeOff, cX12_takeOff, 3, none),
  (yX12_putBack, cX12_putBack, 3, none),
  (yX12_addTrace, cX12_addTrace, 4, none),
  (yX12_takeAllOff, cX12_takeAllOff, 3, none),
  (yX12_ripAll, cX12_ripAll, 2, none),
  (yX12_putAllBack, cX12_putAllBack, 3, none),
  (yX12_joins, cX12_joins, 4, some .boolean),
  (yX12_join, cX12_join, 5, none),
  (yX12_costOf, cX12_costOf, 7, some .int),
  (yX12_bestFrom, cX12_bestFrom, 8, some .int),
  (yX12_relax, cX12_relax, 6, some .boolean),
  (yX12_weigh, cX12_weigh, 5, none),
  (yX12_leads, cX12_leads, 7, some .boolean),
  (yX12_go, cX12_go, 8, some .int),
  (yX12_layNet, cX12_layNet, 5, some .int),
  (yX12_plainly, cX12_plainly, 3, none),
  (yX12_lay, cX12_lay, 2, some .int),
  (yX12_tried, cX12_tried, 3, some .int),
  (yX12_cost, cX12_cost, 4, some .int)]
def MTL_6 : List (MethodName × ByteArray × Nat × Option FieldType) := [(yX12_rip, cX12_rip, 2, some .boolean),
  (yX12_rank, cX12_rank, 3, some .boolean),
  (yX12_order, cX12_order, 4, some .int),
  (yX12_hasTrace, cX12_hasTrace, 3, some .boolean),
  (yX12_isTraceNear, cX12_isTraceNear, 6, some .boolean),
  (yX12_tracesNear, cX12_tracesNear, 5, some .int),
  (yX12_isInside, cX12_isInside, 2, some .boolean),
  (yX12_turn, cX12_turn, 4, some .boolean),
  (yX12_crowd, cX12_crowd, 5, some .int),
  (yX12_press, cX12_press, 6, some .int),
  (yX12_reach, cX12_reach, 4, none),
  (yX12_isBeside, cX12_isBeside, 4, some .boolean),
  (yX12_isWall, cX12_isWall, 2, some .boolean),
  (yX12_cutOf, cX12_cutOf, 8, some .int),
  (yX12_cut, cX12_cut, 4, some .int),
  (yX12_isAhead, cX12_isAhead, 4, some .boolean),
  (yX12_bars, cX12_bars, 4, some .int),
  (yX12_goOn, cX12_goOn, 10, some .boolean),
  (yX12_isPlainFrom, cX12_isPlainFrom, 6, some .boolean),
  (yX12_findAll, cX12_findAll, 4, some .boolean),
  (yX12_together, cX12_together, 3, some .int),
  (yX12_lengthOf, cX12_lengthOf, 4, some .int),
  (yX12_about, cX12_about, 5, some .int),
  (yX12_isStretched, cX12_isStretched, 2, some .boolean),
  (yX12_wayFrom, cX12_wayFrom, 4, some .int),
  (yX12_isRoom, cX12_isRoom, 3, some .boolean),
  (yX12_bulge, cX12_bulge, 7, some .boolean),
  (yX12_stretched, cX12_stretched, 7, some .int),
  (yX12_stretch, cX12_stretch, 3, some .int),
  (yX12_span, cX12_span, 3, some .int),
  (yX12_equal, cX12_equal, 6, some .int),
  (yX12_spread, cX12_spread, 5, none),
  (yX12_parts, cX12_parts, 10, some .int),
  (yX12_mingle, cX12_mingle, 7, some .boolean),
  (yX12_plane, cX12_plane, 7, some .int),
  (yX12_spokes, cX12_spokes, 7, some .int),
  (yX12_back, cX12_back, 7, some .int),
  (yX12_strike, cX12_strike, 10, none),
  (yX12_isFirstThere, cX12_isFirstThere, 8, some .boolean),
  (yX12_findWander, cX12_findWander, 5, none)]
def MTL_7 : List (MethodName × ByteArray × Nat × Option FieldType) := [(yX12_wander, cX12_wander, 4, some .int),
  (yX12_worst, cX12_worst, 8, some .int),
  (yX12_layWith, cX12_layWith, 4, some .boolean),
  (yX12_ripSome, cX12_ripSome, 3, none),
  (yX12_movePin, cX12_movePin, 7, none),
  (yX12_late, cX12_late, 10, some .int),
  (yX12_find, cX12_find, 3, some .int),
  (yX12_unite, cX12_unite, 3, none),
  (yX12_uniteAll, cX12_uniteAll, 4, none),
  (yX12_areShort, cX12_areShort, 5, some .boolean),
  (yX12_netlist, cX12_netlist, 7, some .int),
  (yX12_isAlone, cX12_isAlone, 7, some .boolean),
  (yX12_test, cX12_test, 6, some .int),
  (yX12_slow, cX12_slow, 3, some .boolean),
  (yX12_delayed, cX12_delayed, 3, some .int),
  (yX12_delayOf, cX12_delayOf, 4, some .int),
  (yX12_delay, cX12_delay, 2, some .int),
  (yX12_isBy, cX12_isBy, 5, some .boolean),
  (yX12_pair, cX12_pair, 4, some .int),
  (yX12_byAll, cX12_byAll, 5, some .int),
  (yX12_longest, cX12_longest, 6, some .int),
  (yX12_away, cX12_away, 7, some .int),
  (yX12_keepNow, cX12_keepNow, 3, none),
  (yX12_bringNow, cX12_bringNow, 3, none),
  (yX12_lengths, cX12_lengths, 4, some .int),
  (yX12_beside, cX12_beside, 5, some .int),
  (yX12_besideOrder, cX12_besideOrder, 5, some .int),
  (yX12_besidePress, cX12_besidePress, 5, some .int),
  (yX12_why, cX12_why, 4, some .int),
  (yX12_wasThere, cX12_wasThere, 8, some .boolean),
  (yX12_steady, cX12_steady, 4, some .boolean),
  (yX12_room, cX12_room, 3, some .int),
  (yX12_panel, cX12_panel, 15, some .int),
  (yX12_unwire, cX12_unwire, 3, some .boolean),
  (yX12_count, cX12_count, 2, some .int),
  (yJ6_numberOfTrailingZeros_0f7a4, cJ6_numberOfTrailingZeros_0f7a4, 2, some .int),
  (yJ6_bitCount_0f7a4, cJ6_bitCount_0f7a4, 1, some .int),
  (yJ6_reverse_0f7a4, cJ6_reverse_0f7a4, 1, some .int),
  (yJ6_reverseBytes_0f7a4, cJ6_reverseBytes_0f7a4, 1, some .int),
  (yJ9_abs_0f7a4, cJ9_abs_0f7a4, 1, some .int)]
def MTL_8 : List (MethodName × ByteArray × Nat × Option FieldType) := [(yJ9_max_7cf53, cJ9_max_7cf53, 2, some .int),
  (yJ9_min_7cf53, cJ9_min_7cf53, 2, some .int),
  (yJ7_rangeCheck_23922, cJ7_rangeCheck_23922, 3, none),
  (yJ7_fill_53178, cJ7_fill_53178, 4, none),
  (yJ7_fill_fda19, cJ7_fill_fda19, 5, none),
  (yL_cell, cL_cell, 2, some .int)]
def MTL : List (MethodName × ByteArray × Nat × Option FieldType) := MTL_0 ++ MTL_1 ++ MTL_2 ++ MTL_3 ++ MTL_4 ++ MTL_5 ++ MTL_6 ++ MTL_7 ++ MTL_8
def MT (n : Nat) : MethodName × ByteArray × Nat × Option FieldType := MTL.getD n (yL_law, code, 0, none)
def TT : List Cond := lw_tbl.filter goodWord
theorem TT_good {w : Cond} (h : w ∈ TT) : goodWord w = true := (List.mem_filter.mp h).2
theorem TT_in {w : Cond} (h : w ∈ TT) : w ∈ lw_tbl := (List.mem_filter.mp h).1
def k_at (p : Nat) (w : Cond) : Bool := decide (lw_tbl[p]? = some w) && goodWord w
theorem k_at_in {p : Nat} {w : Cond} (h : k_at p w = true) : w ∈ TT := by
  simp only [k_at, Bool.and_eq_true, decide_eq_true_eq] at h
  exact List.mem_filter.mpr ⟨List.mem_of_getElem? h.1, h.2⟩
def k_MR_0 : List (Nat × Nat × Nat × Nat × Nat × Nat) := [(0, 571, 151, 1, 570, 9999), (1, 1231, 151, 1, 1229, 1230), (2, 1237, 151, 1, 1236, 42), (3, 1246, 151, 1, 1244, 1245), (4, 1279, 151, 1, 1277, 1278), (5, 1283, 151, 1, 1282, 45), (6, 1287, 151, 1, 1286, 46), (7, 1291, 151, 1, 1289, 1290), (8, 1295, 151, 1, 1294, 47), (9, 1299, 151, 1, 1297, 1298), (10, 1303, 151, 1, 1302, 48), (11, 1312, 151, 1, 1310, 1311), (12, 1317, 151, 1, 1315, 1316), (13, 1329, 151, 1, 1327, 1328), (14, 1341, 151, 1, 1340, 49), (15, 1337, 151, 1, 1335, 1336), (16, 1354, 151, 1, 1352, 1353), (17, 490, 148, 1, 489, 9999), (18, 1018, 148, 1, 1016, 1017), (19, 1027, 148, 1, 1026, 24), (20, 1045, 148, 0, 1044, 9999), (21, 1041, 148, 1, 1040, 25), (22, 1036, 148, 1, 1034, 1035), (23, 1386, 148, 1, 1384, 1385), (24, 1394, 148, 1, 1393, 53), (25, 1399, 148, 1, 1398, 54), (26, 1255, 148, 1, 1253, 1254), (27, 1268, 148, 1, 1267, 44), (28, 183, 141, 1, 182, 9999), (29, 747, 141, 1, 745, 746), (30, 771, 141, 1, 769, 770), (31, 285, 144, 1, 284, 9999), (32, 728, 144, 1, 726, 727), (33, 739, 144, 1, 737, 738), (34, 821, 144, 1, 819, 820), (35, 755, 144, 1, 753, 754), (36, 759, 144, 1, 757, 758), (37, 763, 144, 1, 761, 762), (38, 1260, 144, 1, 1258, 1259), (39, 775, 144, 1, 773, 774), (40, 786, 144, 1, 784, 785), (41, 931, 144, 1, 929, 930), (42, 790, 144, 1, 789, 7), (43, 1164, 144, 1, 1162, 1163), (44, 871, 144, 1, 869, 870), (45, 976, 144, 1, 974, 975), (46, 1428, 144, 1, 1426, 1427), (47, 1264, 144, 1, 1263, 43), (48, 955, 144, 1, 953, 954), (49, 1069, 144, 1, 1067, 1068), (50, 1390, 144, 1, 1388, 1389), (51, 959, 144, 1, 958, 21), (52, 804, 144, 1, 802, 803), (53, 892, 144, 1, 890, 891), (54, 1114, 144, 1, 1112, 1113), (55, 1119, 144, 1, 1117, 1118), (56, 1123, 144, 1, 1121, 1122), (57, 943, 144, 1, 941, 942), (58, 947, 144, 1, 945, 946), (59, 1408, 144, 1, 1406, 1407)]
def k_MR_1 : List (Nat × Nat × Nat × Nat × Nat × Nat) := [(60, 549, 150, 1, 548, 9999), (61, 1186, 150, 1, 1184, 1185), (62, 1195, 150, 1, 1194, 39), (63, 1201, 150, 1, 1200, 40), (64, 1205, 150, 1, 1204, 41), (65, 1214, 150, 1, 1212, 1213), (66, 1222, 150, 1, 1220, 1221), (67, 465, 147, 1, 464, 9999), (68, 972, 147, 1, 970, 971), (69, 990, 147, 1, 988, 989), (70, 995, 147, 1, 994, 22), (71, 1009, 147, 1, 1008, 23), (72, 1362, 147, 1, 1360, 1361), (73, 1377, 147, 1, 1375, 1376), (74, 1367, 147, 1, 1366, 51), (75, 1371, 147, 1, 1370, 52), (76, 363, 145, 1, 362, 9999), (77, 812, 145, 1, 810, 811), (78, 817, 145, 1, 816, 8), (79, 827, 145, 1, 826, 9), (80, 831, 145, 1, 830, 10), (81, 836, 145, 1, 834, 835), (82, 1191, 145, 1, 1189, 1190), (83, 840, 145, 1, 839, 11), (84, 859, 145, 1, 857, 858), (85, 863, 145, 1, 861, 862), (86, 867, 145, 1, 865, 866), (87, 854, 145, 1, 852, 853), (88, 412, 146, 1, 411, 9999), (89, 848, 146, 1, 846, 847), (90, 939, 146, 1, 937, 938), (91, 881, 146, 1, 879, 880), (92, 886, 146, 1, 885, 12), (93, 896, 146, 1, 895, 13), (94, 910, 146, 1, 909, 16), (95, 915, 146, 1, 914, 17), (96, 902, 146, 1, 901, 14), (97, 906, 146, 1, 905, 15), (98, 919, 146, 1, 918, 18), (99, 927, 146, 1, 926, 20), (100, 923, 146, 1, 922, 19), (101, 258, 143, 1, 257, 9999), (102, 672, 143, 0, 671, 9999), (103, 676, 143, 1, 674, 675), (104, 688, 143, 1, 686, 687), (105, 694, 143, 1, 693, 0), (106, 702, 143, 1, 701, 2), (107, 712, 143, 1, 711, 4), (108, 698, 143, 1, 697, 1), (109, 716, 143, 1, 715, 5), (110, 708, 143, 1, 707, 3), (111, 611, 153, 1, 610, 9999), (112, 1132, 153, 1, 1130, 1131), (113, 1144, 153, 1, 1143, 35), (114, 1138, 153, 1, 1136, 1137), (115, 1155, 153, 1, 1154, 36), (116, 1159, 153, 1, 1158, 37), (117, 1345, 153, 1, 1343, 1344), (118, 1349, 153, 1, 1348, 50), (119, 509, 149, 1, 508, 9999)]
def k_MR_2 : List (Nat × Nat × Nat × Nat × Nat × Nat) := [(120, 1064, 149, 1, 1062, 1063), (121, 1073, 149, 1, 1072, 27), (122, 1102, 149, 1, 1101, 33), (123, 1106, 149, 1, 1105, 34), (124, 1079, 149, 1, 1078, 28), (125, 1084, 149, 1, 1083, 29), (126, 1090, 149, 1, 1089, 30), (127, 1098, 149, 1, 1097, 32), (128, 1094, 149, 1, 1093, 31), (129, 166, 140, 1, 165, 9999), (130, 669, 140, 1, 667, 668), (131, 680, 140, 1, 678, 679), (132, 684, 140, 1, 682, 683), (133, 724, 140, 1, 722, 723), (134, 1443, 140, 1, 1441, 1442), (135, 735, 140, 1, 733, 734), (136, 743, 140, 1, 741, 742), (137, 767, 140, 1, 765, 766), (138, 779, 140, 1, 777, 778), (139, 796, 140, 1, 794, 795), (140, 800, 140, 1, 798, 799), (141, 808, 140, 1, 806, 807), (142, 844, 140, 1, 842, 843), (143, 935, 140, 1, 933, 934), (144, 951, 140, 1, 949, 950), (145, 964, 140, 1, 962, 963), (146, 968, 140, 1, 966, 967), (147, 982, 140, 1, 980, 981), (148, 1014, 140, 1, 1012, 1013), (149, 1032, 140, 1, 1030, 1031), (150, 1056, 140, 1, 1054, 1055), (151, 1110, 140, 1, 1108, 1109), (152, 1128, 140, 1, 1126, 1127), (153, 1169, 140, 1, 1167, 1168), (154, 1174, 140, 1, 1172, 1173), (155, 1178, 140, 1, 1176, 1177), (156, 1209, 140, 1, 1207, 1208), (157, 1218, 140, 1, 1216, 1217), (158, 1227, 140, 1, 1225, 1226), (159, 1242, 140, 1, 1240, 1241), (160, 1251, 140, 1, 1249, 1250), (161, 1275, 140, 1, 1273, 1274), (162, 1308, 140, 1, 1306, 1307), (163, 1321, 140, 1, 1319, 1320), (164, 1325, 140, 1, 1323, 1324), (165, 1333, 140, 1, 1331, 1332), (166, 1358, 140, 1, 1356, 1357), (167, 1382, 140, 1, 1380, 1381), (168, 1404, 140, 1, 1402, 1403), (169, 1412, 140, 1, 1410, 1411), (170, 1423, 140, 1, 1421, 1422), (171, 1432, 140, 1, 1430, 1431), (172, 174, 140, 0, 173, 9999), (173, 751, 140, 1, 750, 6), (174, 1182, 140, 1, 1181, 38), (175, 1060, 140, 1, 1059, 26), (176, 985, 140, 0, 984, 9999), (177, 1419, 140, 0, 1418, 9999), (178, 1416, 140, 1, 1415, 55), (179, 1737, 154, 0, 1736, 9999)]
def k_MR_3 : List (Nat × Nat × Nat × Nat × Nat × Nat) := [(180, 1518, 154, 0, 1517, 9999), (181, 1514, 154, 1, 1513, 9999), (182, 1688, 154, 1, 1686, 1687), (183, 1695, 154, 0, 1694, 9999), (184, 1692, 154, 1, 1690, 1691), (185, 1699, 154, 1, 1697, 1698), (186, 1719, 154, 1, 1718, 60), (187, 1715, 154, 1, 1714, 59), (188, 1727, 154, 1, 1726, 62), (189, 1734, 154, 0, 1733, 9999), (190, 1731, 154, 1, 1730, 63), (191, 1723, 154, 1, 1722, 61), (192, 1711, 154, 1, 1710, 58), (193, 1741, 154, 1, 1740, 64), (194, 1707, 154, 1, 1706, 57), (195, 1703, 154, 1, 1701, 1702), (196, 1745, 154, 1, 1743, 1744), (197, 1749, 154, 1, 1747, 1748), (198, 1761, 154, 1, 1760, 65), (199, 1765, 154, 1, 1764, 66), (200, 1768, 154, 0, 1767, 9999), (201, 1787, 154, 0, 1786, 9999), (202, 1790, 154, 0, 1789, 9999), (203, 1793, 154, 0, 1792, 9999), (204, 1784, 154, 1, 1783, 68), (205, 1753, 154, 1, 1751, 1752), (206, 1772, 154, 1, 1771, 67), (207, 1757, 154, 1, 1755, 1756), (208, 1776, 154, 1, 1774, 1775), (209, 1801, 154, 1, 1800, 70), (210, 1797, 154, 1, 1796, 69), (211, 1780, 154, 1, 1778, 1779), (212, 1805, 154, 1, 1803, 1804), (213, 1813, 154, 1, 1812, 71), (214, 1809, 154, 1, 1807, 1808), (215, 1825, 154, 1, 1824, 73), (216, 1829, 154, 1, 1828, 74), (217, 1833, 154, 1, 1832, 75), (218, 1821, 154, 1, 1820, 72), (219, 1817, 154, 1, 1815, 1816), (220, 1853, 154, 1, 1852, 79), (221, 1849, 154, 1, 1848, 78), (222, 1894, 154, 1, 1893, 89), (223, 1890, 154, 1, 1889, 88), (224, 1926, 154, 1, 1925, 92), (225, 1918, 154, 1, 1917, 91), (226, 1954, 154, 1, 1953, 99), (227, 1861, 154, 1, 1860, 81), (228, 1857, 154, 1, 1856, 80), (229, 1882, 154, 1, 1881, 86), (230, 1878, 154, 1, 1877, 85), (231, 1874, 154, 1, 1873, 84), (232, 1869, 154, 1, 1868, 83), (233, 1886, 154, 1, 1885, 87), (234, 1865, 154, 1, 1864, 82), (235, 1845, 154, 1, 1844, 77), (236, 1841, 154, 1, 1840, 76), (237, 1837, 154, 1, 1835, 1836), (238, 1902, 154, 1, 1901, 90), (239, 1898, 154, 1, 1896, 1897)]
def k_MR_4 : List (Nat × Nat × Nat × Nat × Nat × Nat) := [(240, 1906, 154, 1, 1904, 1905), (241, 1910, 154, 1, 1908, 1909), (242, 1914, 154, 1, 1912, 1913), (243, 1946, 154, 1, 1945, 97), (244, 1942, 154, 1, 1941, 96), (245, 1938, 154, 1, 1937, 95), (246, 1934, 154, 1, 1933, 94), (247, 1930, 154, 1, 1929, 93), (248, 1950, 154, 1, 1949, 98), (249, 1922, 154, 1, 1920, 1921), (250, 1962, 154, 1, 1961, 100), (251, 1966, 154, 1, 1965, 101), (252, 1974, 154, 1, 1973, 103), (253, 1970, 154, 1, 1969, 102), (254, 1958, 154, 1, 1956, 1957), (255, 1981, 154, 0, 1980, 9999), (256, 1978, 154, 1, 1976, 1977), (257, 1995, 154, 1, 1994, 105), (258, 1999, 154, 1, 1998, 106), (259, 1990, 154, 1, 1989, 104), (260, 1986, 154, 1, 1984, 1985), (261, 2007, 154, 1, 2006, 107), (262, 2003, 154, 1, 2001, 2002), (263, 2015, 154, 1, 2014, 108), (264, 2023, 154, 1, 2022, 110), (265, 2031, 154, 1, 2030, 112), (266, 2027, 154, 1, 2026, 111), (267, 2019, 154, 1, 2018, 109), (268, 2011, 154, 1, 2009, 2010), (269, 2035, 154, 1, 2033, 2034), (270, 2039, 154, 1, 2037, 2038), (271, 2047, 154, 1, 2046, 113), (272, 2051, 154, 1, 2050, 114), (273, 2055, 154, 1, 2054, 115), (274, 2043, 154, 1, 2041, 2042), (275, 2059, 154, 1, 2057, 2058), (276, 2063, 154, 1, 2061, 2062), (277, 2075, 154, 1, 2074, 117), (278, 2079, 154, 1, 2078, 118), (279, 2071, 154, 1, 2070, 116), (280, 2067, 154, 1, 2065, 2066), (281, 2083, 154, 1, 2081, 2082), (282, 2095, 154, 1, 2094, 120), (283, 2099, 154, 1, 2098, 121), (284, 2091, 154, 1, 2090, 119), (285, 2087, 154, 1, 2085, 2086), (286, 2115, 154, 1, 2114, 124), (287, 2111, 154, 1, 2110, 123), (288, 2107, 154, 1, 2106, 122), (289, 2119, 154, 1, 2118, 125), (290, 2103, 154, 1, 2101, 2102), (291, 2127, 154, 1, 2126, 126), (292, 2123, 154, 1, 2121, 2122), (293, 2131, 154, 1, 2129, 2130), (294, 2143, 154, 1, 2142, 128), (295, 2139, 154, 1, 2138, 127), (296, 2135, 154, 1, 2133, 2134), (297, 2155, 154, 1, 2154, 130), (298, 2147, 154, 1, 2145, 2146), (299, 2151, 154, 1, 2150, 129)]
def k_MR_5 : List (Nat × Nat × Nat × Nat × Nat × Nat) := [(300, 2159, 154, 1, 2158, 131), (301, 2163, 154, 1, 2162, 132), (302, 2171, 154, 1, 2170, 133), (303, 2189, 154, 1, 2188, 137), (304, 2180, 154, 1, 2179, 135), (305, 2167, 154, 1, 2165, 2166), (306, 2175, 154, 1, 2174, 134), (307, 2184, 154, 1, 2183, 136), (308, 2193, 154, 1, 2191, 2192), (309, 2201, 154, 1, 2200, 138), (310, 2197, 154, 1, 2195, 2196), (311, 2208, 154, 0, 2207, 9999), (312, 2205, 154, 1, 2203, 2204), (313, 2212, 154, 1, 2210, 2211), (314, 2216, 154, 1, 2214, 2215), (315, 1148, 161, 0, 1147, 9999), (316, 1001, 161, 0, 1000, 9999), (317, 1048, 161, 0, 1047, 9999), (318, 1051, 161, 0, 1050, 9999), (319, 782, 142, 0, 781, 9999), (320, 180, 142, 0, 179, 9999), (321, 177, 142, 0, 176, 9999), (322, 877, 152, 0, 876, 9999), (323, 575, 152, 0, 574, 9999), (324, 874, 152, 0, 873, 9999), (325, 1435, 139, 0, 1434, 9999)]
def k_MR : List (Nat × Nat × Nat × Nat × Nat × Nat) := k_MR_0 ++ (k_MR_1 ++ (k_MR_2 ++ (k_MR_3 ++ (k_MR_4 ++ (k_MR_5)))))
def k_mchk (q : Nat × Nat × Nat × Nat × Nat × Nat) : Bool := match q with
  | (n, pc, pi, kd, pk, ps) => k_at pi (.initialized (MT n).1.cls) && (Nat.ble (MT n).2.2.1 21 && (decide ((MT n).1.cls ≠ "java/lang/invoke/MethodHandle" ∧ (MT n).1.cls ≠ "java/lang/invoke/VarHandle") && (match kd with
    | 0 => k_at pk (.static (MT n).1)
    | _ => k_at pk (.instanceMethod (MT n).1) && (match Nat.beq ps 9999 with
      | true => true
      | false => k_at ps (.selects (MT n).1.cls (MT n).1 (MT n).1)))))
def k_cdw (q : Nat × Nat × Nat × Nat × Nat × Nat) : Prop := lw_tbl[q.2.1]? = some (.code (MT q.1).1 (MT q.1).2.1 (MT q.1).2.2.1 (MT q.1).2.2.2)
theorem k_MR_ok0 : k_MR_0.all k_mchk = true := by decide +kernel
theorem k_MR_ok1 : k_MR_1.all k_mchk = true := by decide +kernel
theorem k_MR_ok2 : k_MR_2.all k_mchk = true := by decide +kernel
theorem k_MR_ok3 : k_MR_3.all k_mchk = true := by decide +kernel
theorem k_MR_ok4 : k_MR_4.all k_mchk = true := by decide +kernel
theorem k_MR_ok5 : k_MR_5.all k_mchk = true := by decide +kernel
theorem k_MR_ok : ∀ q ∈ k_MR, k_mchk q = true := by
  intro q h
  simp only [k_MR, List.mem_append] at h
  rcases h with h | h
  · exact List.all_eq_true.mp k_MR_ok0 q h
  rcases h with h | h
  · exact List.all_eq_true.mp k_MR_ok1 q h
  rcases h with h | h
  · exact List.all_eq_true.mp k_MR_ok2 q h
  rcases h with h | h
  · exact List.all_eq_true.mp k_MR_ok3 q h
  rcases h with h | h
  · exact List.all_eq_true.mp k_MR_ok4 q h
  exact List.all_eq_true.mp k_MR_ok5 q h
def k_FR_0 : List (Nat × Nat × Nat × Nat × Nat × Nat) := [(2, 9, 2, 0, 0, 185), (10, 48, 2, 0, 0, 186), (6, 95, 2, 0, 0, 187), (3, 81, 2, 0, 0, 188), (11, 336, 2, 0, 0, 189), (2, 15, 2, 1, 0, 190), (10, 60, 2, 1, 0, 191), (6, 101, 2, 1, 0, 192), (11, 342, 2, 1, 0, 193), (2, 18, 2, 2, 0, 194), (0, 19, 2, 2, 0, 195), (11, 24, 2, 2, 0, 196), (2, 21, 2, 3, 0, 197), (4, 65, 2, 3, 0, 198), (6, 110, 2, 3, 0, 199), (3, 78, 2, 3, 0, 200), (10, 134, 2, 3, 0, 201), (0, 112, 2, 3, 0, 202), (7, 25, 2, 4, 0, 203), (9, 23, 2, 4, 0, 204), (6, 23, 2, 4, 0, 205), (5, 27, 2, 4, 0, 206), (2, 24, 2, 4, 0, 207), (0, 35, 2, 4, 0, 208), (10, 33, 2, 4, 0, 209), (3, 31, 2, 4, 0, 210), (4, 33, 2, 4, 0, 211), (1, 50, 2, 4, 0, 212), (2, 27, 2, 5, 1, 213), (0, 79, 2, 5, 1, 214), (1, 79, 2, 5, 1, 215), (9, 63, 2, 5, 1, 216), (7, 124, 2, 5, 1, 217), (4, 85, 2, 5, 1, 218), (6, 123, 2, 5, 1, 219), (3, 88, 2, 5, 1, 220), (2, 31, 2, 6, 1, 221), (10, 42, 2, 6, 1, 222), (0, 62, 2, 6, 1, 223), (6, 92, 2, 6, 1, 224), (2, 34, 2, 7, 1, 225), (10, 54, 2, 7, 1, 226), (0, 65, 2, 7, 1, 227), (6, 104, 2, 7, 1, 228), (2, 37, 2, 8, 1, 229), (0, 68, 2, 8, 1, 230), (1, 63, 2, 8, 1, 231), (6, 107, 2, 8, 1, 232), (4, 82, 2, 8, 1, 233), (8, 18, 8, 0, 0, 260), (8, 9, 8, 1, 1, 261), (8, 15, 8, 2, 1, 262), (11, 123, 8, 2, 1, 263), (11, 110, 8, 3, 0, 264), (8, 22, 8, 3, 0, 265), (8, 25, 8, 4, 0, 266), (8, 28, 8, 5, 0, 267), (3, 27, 3, 0, 1, 287), (3, 9, 3, 1, 1, 288), (11, 138, 3, 1, 1, 289)]
def k_FR_1 : List (Nat × Nat × Nat × Nat × Nat × Nat) := [(3, 15, 3, 2, 1, 290), (3, 18, 3, 3, 1, 291), (5, 48, 3, 3, 1, 292), (11, 206, 3, 3, 1, 293), (3, 21, 3, 4, 1, 294), (7, 50, 3, 4, 1, 295), (9, 35, 3, 4, 1, 296), (5, 51, 3, 4, 1, 297), (10, 75, 3, 4, 1, 298), (11, 157, 3, 4, 1, 299), (0, 102, 3, 4, 1, 300), (6, 126, 3, 4, 1, 301), (3, 24, 3, 5, 1, 302), (3, 37, 3, 6, 1, 303), (1, 67, 3, 6, 1, 304), (6, 117, 3, 6, 1, 305), (0, 120, 3, 6, 1, 306), (3, 40, 3, 7, 1, 307), (6, 66, 3, 7, 1, 308), (3, 43, 3, 8, 1, 309), (6, 69, 3, 8, 1, 310), (1, 87, 3, 8, 1, 311), (5, 102, 3, 8, 1, 312), (3, 46, 3, 9, 1, 313), (3, 49, 3, 10, 1, 314), (9, 54, 3, 10, 1, 315), (0, 130, 3, 10, 1, 316), (3, 52, 3, 11, 1, 317), (3, 55, 3, 12, 1, 318), (3, 58, 3, 13, 0, 319), (11, 120, 3, 13, 0, 320), (0, 53, 3, 14, 0, 321), (5, 45, 3, 14, 0, 322), (10, 72, 3, 14, 0, 323), (3, 67, 3, 14, 0, 324), (6, 80, 3, 14, 0, 325), (11, 141, 3, 14, 0, 326), (1, 134, 3, 14, 0, 327), (6, 15, 6, 0, 1, 365), (6, 19, 6, 1, 1, 366), (6, 29, 6, 2, 1, 367), (1, 70, 6, 2, 1, 368), (6, 32, 6, 3, 1, 369), (1, 73, 6, 3, 1, 370), (5, 90, 6, 3, 1, 371), (6, 35, 6, 4, 1, 372), (4, 76, 6, 4, 1, 373), (6, 38, 6, 5, 1, 374), (4, 39, 6, 5, 1, 375), (10, 103, 6, 5, 1, 376), (9, 101, 6, 5, 1, 377), (7, 147, 6, 5, 1, 378), (11, 190, 6, 5, 1, 379), (6, 41, 6, 6, 1, 380), (1, 76, 6, 6, 1, 381), (4, 56, 6, 6, 1, 382), (6, 44, 6, 7, 1, 383), (4, 79, 6, 7, 1, 384), (6, 9, 6, 8, 1, 385), (6, 47, 6, 9, 0, 386)]
def k_FR_2 : List (Nat × Nat × Nat × Nat × Nat × Nat) := [(7, 11, 7, 0, 1, 414), (7, 17, 7, 1, 1, 415), (7, 21, 7, 2, 1, 416), (7, 31, 7, 3, 1, 417), (5, 87, 7, 3, 1, 418), (7, 35, 7, 4, 1, 419), (7, 38, 7, 5, 1, 420), (7, 41, 7, 6, 1, 421), (7, 44, 7, 7, 1, 422), (7, 47, 7, 8, 1, 423), (7, 131, 7, 9, 0, 424), (7, 86, 7, 10, 0, 425), (7, 89, 7, 11, 0, 426), (7, 92, 7, 12, 0, 427), (7, 95, 7, 13, 0, 428), (7, 98, 7, 14, 0, 429), (5, 9, 5, 0, 1, 467), (5, 15, 5, 1, 1, 468), (5, 19, 5, 2, 1, 469), (5, 23, 5, 3, 1, 470), (5, 33, 5, 4, 1, 471), (5, 37, 5, 5, 1, 472), (1, 9, 1, 0, 1, 492), (1, 15, 1, 1, 1, 493), (1, 19, 1, 2, 1, 494), (1, 23, 1, 3, 1, 495), (10, 21, 10, 0, 1, 511), (10, 25, 10, 1, 1, 512), (10, 29, 10, 2, 1, 513), (10, 11, 10, 3, 1, 514), (10, 15, 10, 4, 1, 515), (10, 18, 10, 5, 1, 516), (10, 69, 10, 6, 0, 517), (10, 39, 10, 7, 0, 518), (10, 45, 10, 8, 0, 519), (10, 51, 10, 9, 0, 520), (10, 57, 10, 10, 0, 521), (4, 9, 4, 0, 1, 551), (4, 15, 4, 1, 1, 552), (4, 19, 4, 2, 1, 553), (4, 46, 4, 3, 0, 554), (4, 49, 4, 4, 0, 555), (0, 9, 0, 0, 1, 576), (0, 15, 0, 1, 1, 577), (0, 25, 0, 2, 1, 578), (11, 304, 0, 2, 1, 579), (0, 47, 0, 3, 0, 580), (11, 280, 0, 3, 0, 581), (0, 50, 0, 4, 0, 582), (11, 283, 0, 4, 0, 583), (0, 38, 0, 5, 1, 584), (0, 41, 0, 6, 1, 585), (0, 44, 0, 7, 1, 586), (0, 89, 0, 8, 0, 587), (9, 9, 9, 0, 1, 613), (9, 15, 9, 1, 1, 614), (9, 19, 9, 2, 1, 615), (9, 29, 9, 3, 1, 616), (9, 32, 9, 4, 1, 617), (9, 51, 9, 5, 0, 618)]
def k_FR_3 : List (Nat × Nat × Nat × Nat × Nat × Nat) := [(11, 18, 11, 0, 1, 632), (11, 31, 11, 1, 1, 633), (11, 40, 11, 2, 1, 634), (11, 49, 11, 3, 1, 635), (11, 58, 11, 4, 1, 636), (11, 67, 11, 5, 1, 637), (11, 74, 11, 6, 1, 638), (11, 81, 11, 7, 1, 639), (11, 88, 11, 8, 1, 640), (11, 95, 11, 9, 1, 641), (11, 102, 11, 10, 1, 642), (12, 145, 12, 0, 0, 1521), (12, 135, 12, 1, 0, 1522), (12, 139, 12, 2, 0, 1523), (12, 142, 12, 3, 0, 1524), (12, 18, 12, 4, 1, 1525), (12, 152, 12, 5, 0, 1526), (12, 155, 12, 6, 0, 1527), (12, 162, 12, 7, 0, 1528), (12, 22, 12, 8, 1, 1529), (12, 25, 12, 9, 1, 1530), (12, 28, 12, 10, 1, 1531), (12, 31, 12, 11, 1, 1532), (12, 34, 12, 12, 1, 1533), (12, 199, 12, 13, 0, 1534), (12, 183, 12, 14, 0, 1535), (12, 37, 12, 15, 1, 1536), (12, 40, 12, 16, 1, 1537), (12, 43, 12, 17, 1, 1538), (12, 46, 12, 18, 1, 1539), (12, 49, 12, 19, 1, 1540), (12, 52, 12, 20, 1, 1541), (12, 55, 12, 21, 1, 1542), (12, 58, 12, 22, 1, 1543), (12, 61, 12, 23, 1, 1544), (12, 64, 12, 24, 1, 1545), (12, 67, 12, 25, 1, 1546), (12, 202, 12, 26, 0, 1547), (12, 71, 12, 27, 1, 1548), (12, 240, 12, 28, 0, 1549), (12, 247, 12, 29, 0, 1550), (12, 243, 12, 30, 2, 1551), (12, 74, 12, 31, 1, 1552), (12, 77, 12, 32, 1, 1553), (12, 263, 12, 33, 0, 1554), (12, 80, 12, 34, 1, 1555), (12, 83, 12, 35, 1, 1556), (12, 86, 12, 36, 1, 1557), (12, 89, 12, 37, 1, 1558), (12, 92, 12, 38, 1, 1559), (12, 95, 12, 39, 1, 1560), (12, 98, 12, 40, 1, 1561), (12, 273, 12, 41, 2, 1562), (12, 101, 12, 42, 1, 1563), (12, 104, 12, 43, 1, 1564), (12, 107, 12, 44, 1, 1565), (12, 110, 12, 45, 1, 1566), (12, 113, 12, 46, 1, 1567), (12, 409, 12, 47, 0, 1568), (12, 406, 12, 48, 0, 1569)]
def k_FR_4 : List (Nat × Nat × Nat × Nat × Nat × Nat) := [(12, 116, 12, 49, 1, 1570), (12, 119, 12, 50, 1, 1571), (12, 122, 12, 51, 1, 1572), (12, 125, 12, 52, 1, 1573), (12, 128, 12, 53, 1, 1574)]
def k_FR : List (Nat × Nat × Nat × Nat × Nat × Nat) := k_FR_0 ++ (k_FR_1 ++ (k_FR_2 ++ (k_FR_3 ++ (k_FR_4))))
def k_tc : FieldType → Nat
  | .int => 0
  | .boolean => 2
  | _ => 1
def k_TX (ci : Nat) : u_T := match cls[ci]? with
  | some q => q.2.1
  | none => TX0
def k_fchk (q : Nat × Nat × Nat × Nat × Nat × Nat) : Bool := match q with
  | (o, i, ci, k, t, p) => Nat.ble ci 12 && (Nat.blt k (k_nf ci) && (Nat.beq (k_tc (k_ty ci k)) t && k_at p (.fieldLink (CN o) i (k_TX ci k).1 (k_TX ci k).2.1 (k_TX ci k).2.2.1)))
theorem k_FR_ok0 : k_FR_0.all k_fchk = true := by decide +kernel
theorem k_FR_ok1 : k_FR_1.all k_fchk = true := by decide +kernel
theorem k_FR_ok2 : k_FR_2.all k_fchk = true := by decide +kernel
theorem k_FR_ok3 : k_FR_3.all k_fchk = true := by decide +kernel
theorem k_FR_ok4 : k_FR_4.all k_fchk = true := by decide +kernel
theorem k_FR_ok : ∀ q ∈ k_FR, k_fchk q = true := by
  intro q h
  simp only [k_FR, List.mem_append] at h
  rcases h with h | h
  · exact List.all_eq_true.mp k_FR_ok0 q h
  rcases h with h | h
  · exact List.all_eq_true.mp k_FR_ok1 q h
  rcases h with h | h
  · exact List.all_eq_true.mp k_FR_ok2 q h
  rcases h with h | h
  · exact List.all_eq_true.mp k_FR_ok3 q h
  exact List.all_eq_true.mp k_FR_ok4 q h
def k_LR_0 : List (Nat × Nat × Nat × Nat × Nat) := [(13, 21, 129, 3, 164), (11, 9, 172, 3, 172), (11, 255, 321, 2, 175), (11, 258, 320, 2, 178), (11, 15, 28, 3, 181), (11, 28, 101, 1, 256), (11, 37, 31, 1, 283), (11, 46, 76, 2, 361), (11, 55, 88, 3, 410), (11, 64, 67, 4, 463), (11, 73, 17, 4, 488), (11, 80, 119, 3, 507), (11, 87, 60, 3, 547), (11, 94, 0, 2, 569), (0, 29, 323, 2, 573), (11, 101, 111, 3, 609), (13, 27, 130, 5, 666), (11, 106, 102, 1, 670), (11, 113, 103, 1, 673), (13, 32, 131, 1, 677), (13, 37, 132, 0, 681), (11, 116, 104, 0, 685), (8, 34, 105, 0, 691), (8, 38, 108, 0, 695), (8, 41, 106, 0, 699), (8, 45, 110, 0, 705), (8, 56, 107, 0, 709), (8, 48, 109, 1, 713), (13, 42, 133, 0, 721), (11, 127, 32, 1, 725), (13, 53, 135, 1, 732), (11, 144, 33, 1, 736), (13, 58, 136, 4, 740), (11, 147, 29, 3, 744), (11, 150, 173, 1, 748), (11, 154, 35, 1, 752), (3, 70, 36, 2, 756), (11, 160, 37, 2, 760), (13, 63, 137, 5, 764), (11, 164, 30, 0, 768), (11, 167, 39, 5, 772), (13, 68, 138, 6, 776), (11, 171, 319, 1, 780), (11, 176, 40, 4, 783), (3, 84, 42, 5, 787), (13, 73, 139, 4, 793), (13, 78, 140, 3, 797), (11, 180, 52, 1, 801), (13, 83, 141, 4, 805), (11, 183, 77, 2, 809), (6, 50, 323, 2, 813), (6, 56, 78, 1, 814), (6, 76, 34, 2, 818), (6, 83, 320, 2, 822), (6, 60, 52, 1, 823), (6, 72, 79, 3, 824), (6, 88, 80, 4, 828), (6, 98, 321, 2, 832), (11, 187, 81, 1, 833), (6, 113, 83, 2, 837)]
def k_LR_1 : List (Nat × Nat × Nat × Nat × Nat) := [(13, 87, 142, 1, 841), (11, 193, 89, 1, 845), (7, 55, 77, 2, 849), (7, 61, 81, 1, 850), (7, 65, 87, 2, 851), (6, 129, 36, 2, 855), (6, 132, 84, 2, 856), (6, 120, 85, 2, 860), (6, 135, 86, 1, 864), (7, 69, 44, 1, 868), (3, 94, 324, 4, 872), (16, 13, 322, 3, 875), (7, 72, 91, 2, 878), (7, 82, 34, 2, 882), (7, 101, 92, 1, 883), (7, 115, 323, 2, 887), (7, 104, 36, 2, 888), (7, 121, 53, 2, 889), (7, 107, 93, 1, 893), (7, 128, 324, 4, 898), (7, 134, 96, 2, 899), (7, 137, 97, 0, 903), (7, 141, 94, 1, 907), (7, 150, 95, 2, 912), (7, 111, 98, 2, 916), (7, 153, 100, 2, 920), (7, 156, 99, 2, 924), (7, 159, 41, 3, 928), (13, 91, 143, 2, 932), (11, 196, 90, 2, 936), (7, 76, 57, 0, 940), (7, 79, 58, 0, 944), (13, 96, 144, 1, 948), (11, 200, 48, 1, 952), (3, 103, 51, 3, 956), (11, 203, 44, 1, 960), (13, 100, 145, 2, 961), (13, 105, 146, 0, 965), (11, 209, 68, 0, 969), (5, 40, 45, 0, 973), (3, 100, 323, 2, 977), (5, 54, 89, 1, 978), (13, 109, 147, 2, 979), (11, 212, 176, 2, 983), (11, 216, 57, 0, 986), (11, 219, 69, 2, 987), (5, 60, 323, 2, 991), (5, 66, 70, 1, 992), (5, 74, 44, 1, 996), (5, 78, 77, 2, 997), (5, 84, 81, 1, 998), (5, 93, 316, 1, 999), (5, 98, 91, 2, 1005), (5, 70, 71, 0, 1006), (11, 222, 58, 0, 1010), (13, 113, 148, 2, 1011), (11, 225, 18, 2, 1015), (1, 27, 77, 2, 1019), (1, 33, 81, 1, 1020), (1, 37, 36, 2, 1021)]
def k_LR_2 : List (Nat × Nat × Nat × Nat × Nat) := [(1, 43, 84, 2, 1022), (1, 46, 86, 1, 1023), (1, 56, 19, 1, 1024), (1, 60, 34, 2, 1028), (13, 117, 149, 1, 1029), (11, 228, 22, 2, 1033), (1, 90, 87, 2, 1037), (1, 94, 21, 1, 1038), (1, 97, 316, 1, 1042), (1, 100, 20, 1, 1043), (1, 82, 317, 1, 1046), (14, 268, 318, 1, 1049), (13, 121, 150, 1, 1053), (11, 231, 175, 1, 1057), (11, 234, 120, 1, 1061), (10, 63, 316, 1, 1065), (10, 78, 49, 1, 1066), (10, 82, 121, 2, 1070), (10, 93, 77, 2, 1074), (10, 99, 81, 1, 1075), (10, 86, 124, 2, 1076), (10, 109, 36, 2, 1080), (10, 106, 125, 2, 1081), (10, 123, 34, 2, 1085), (10, 126, 320, 2, 1086), (10, 131, 126, 2, 1087), (10, 119, 128, 3, 1091), (10, 116, 127, 1, 1095), (10, 90, 122, 2, 1099), (10, 112, 123, 4, 1103), (13, 125, 151, 2, 1107), (11, 237, 54, 1, 1111), (3, 107, 316, 1, 1115), (11, 240, 55, 1, 1116), (11, 243, 56, 1, 1120), (3, 113, 52, 1, 1124), (13, 129, 152, 2, 1125), (11, 246, 112, 1, 1129), (9, 40, 49, 1, 1133), (9, 44, 48, 1, 1134), (11, 249, 114, 2, 1135), (9, 69, 77, 2, 1139), (9, 75, 81, 1, 1140), (9, 79, 113, 1, 1141), (9, 47, 36, 2, 1145), (9, 57, 315, 1, 1146), (9, 82, 54, 1, 1151), (9, 85, 115, 4, 1152), (9, 89, 116, 2, 1156), (9, 104, 52, 1, 1160), (9, 93, 43, 3, 1161), (9, 97, 41, 3, 1165), (13, 133, 153, 1, 1166), (13, 137, 154, 2, 1171), (13, 141, 155, 3, 1175), (11, 261, 174, 1, 1179), (11, 264, 61, 3, 1183), (4, 23, 77, 2, 1187), (4, 29, 82, 1, 1188), (4, 43, 62, 1, 1192)]
def k_LR_3 : List (Nat × Nat × Nat × Nat × Nat) := [(4, 59, 323, 2, 1196), (4, 68, 85, 2, 1197), (4, 72, 63, 1, 1198), (4, 52, 64, 1, 1202), (13, 145, 156, 2, 1206), (11, 267, 36, 2, 1210), (11, 270, 65, 2, 1211), (13, 149, 157, 3, 1215), (11, 273, 66, 3, 1219), (4, 88, 52, 1, 1223), (13, 153, 158, 3, 1224), (11, 276, 1, 2, 1228), (0, 58, 53, 2, 1232), (0, 71, 29, 3, 1233), (0, 75, 2, 2, 1234), (0, 82, 52, 1, 1238), (13, 157, 159, 2, 1239), (11, 286, 3, 2, 1243), (0, 86, 1, 2, 1247), (13, 161, 160, 5, 1248), (11, 289, 26, 3, 1252), (1, 112, 57, 0, 1256), (1, 130, 38, 3, 1257), (3, 74, 47, 1, 1261), (1, 137, 27, 2, 1265), (1, 118, 58, 0, 1269), (1, 121, 44, 1, 1270), (1, 140, 89, 1, 1271), (13, 165, 161, 1, 1272), (11, 292, 4, 0, 1276), (0, 92, 5, 1, 1280), (0, 95, 6, 1, 1284), (11, 295, 7, 0, 1288), (0, 98, 8, 1, 1292), (11, 298, 9, 0, 1296), (0, 105, 10, 2, 1300), (0, 109, 36, 2, 1304), (13, 169, 162, 1, 1305), (11, 301, 11, 1, 1309), (0, 115, 316, 1, 1313), (0, 123, 12, 1, 1314), (13, 173, 163, 2, 1318), (13, 177, 164, 1, 1322), (11, 307, 13, 1, 1326), (13, 181, 165, 3, 1330), (11, 310, 15, 2, 1334), (0, 126, 14, 3, 1338), (11, 313, 117, 2, 1342), (9, 107, 118, 2, 1346), (9, 110, 320, 2, 1350), (11, 316, 16, 2, 1351), (13, 185, 166, 3, 1355), (11, 319, 72, 1, 1359), (5, 105, 68, 0, 1363), (5, 109, 74, 0, 1364), (5, 112, 75, 1, 1368), (5, 120, 54, 1, 1372), (5, 123, 55, 1, 1373), (11, 322, 73, 3, 1374), (5, 116, 69, 2, 1378)]
def k_LR_4 : List (Nat × Nat × Nat × Nat × Nat) := [(13, 189, 167, 1, 1379), (11, 325, 23, 1, 1383), (1, 103, 50, 1, 1387), (1, 106, 24, 1, 1391), (1, 109, 22, 2, 1395), (1, 115, 25, 2, 1396), (1, 124, 91, 2, 1400), (13, 193, 168, 0, 1401), (11, 328, 59, 0, 1405), (13, 198, 169, 4, 1409), (11, 332, 178, 4, 1413), (11, 339, 177, 3, 1417), (13, 202, 170, 1, 1420), (11, 345, 49, 1, 1424), (11, 348, 46, 1, 1425), (13, 206, 171, 1, 1429), (13, 15, 325, 2, 1433), (13, 7, 134, 2, 1440), (13, 26, 181, 3, 1512), (12, 131, 180, 3, 1516), (12, 3, 321, 2, 1519), (12, 9, 320, 2, 1520), (13, 50, 182, 0, 1685), (13, 31, 184, 5, 1689), (12, 148, 183, 6, 1693), (13, 36, 185, 1, 1696), (13, 41, 195, 0, 1700), (12, 196, 194, 1, 1704), (12, 193, 192, 1, 1708), (12, 165, 187, 0, 1712), (12, 158, 186, 0, 1716), (12, 179, 191, 1, 1720), (12, 172, 188, 0, 1724), (12, 186, 190, 2, 1728), (12, 168, 189, 1, 1732), (12, 175, 179, 3, 1735), (12, 189, 193, 1, 1738), (13, 45, 196, 0, 1742), (13, 49, 197, 2, 1746), (13, 57, 205, 1, 1750), (13, 62, 207, 4, 1754), (12, 220, 198, 1, 1758), (12, 214, 199, 3, 1762), (12, 217, 200, 3, 1766), (12, 223, 206, 1, 1769), (13, 67, 208, 5, 1773), (13, 72, 211, 6, 1777), (12, 229, 204, 2, 1781), (12, 205, 201, 1, 1785), (12, 208, 202, 1, 1788), (12, 211, 203, 1, 1791), (12, 232, 210, 3, 1794), (12, 226, 209, 3, 1798), (13, 77, 212, 4, 1802), (13, 82, 214, 3, 1806), (12, 236, 213, 2, 1810), (13, 86, 219, 4, 1814), (12, 259, 218, 3, 1818), (12, 250, 215, 2, 1822), (12, 253, 216, 2, 1826)]
def k_LR_5 : List (Nat × Nat × Nat × Nat × Nat) := [(12, 256, 217, 3, 1830), (13, 90, 237, 1, 1834), (12, 309, 236, 1, 1838), (12, 313, 235, 1, 1842), (12, 296, 221, 1, 1846), (12, 266, 220, 1, 1850), (12, 299, 228, 2, 1854), (12, 269, 227, 2, 1858), (12, 303, 234, 2, 1862), (12, 286, 232, 1, 1866), (12, 283, 231, 2, 1871), (12, 280, 230, 3, 1875), (12, 276, 229, 4, 1879), (12, 289, 233, 4, 1883), (12, 293, 223, 3, 1887), (12, 306, 222, 1, 1891), (13, 95, 239, 2, 1895), (12, 316, 238, 1, 1899), (13, 99, 240, 1, 1903), (13, 104, 241, 2, 1907), (13, 108, 242, 0, 1911), (12, 319, 225, 0, 1915), (13, 112, 249, 2, 1919), (12, 334, 224, 0, 1923), (12, 337, 247, 1, 1927), (12, 328, 246, 1, 1931), (12, 331, 245, 2, 1935), (12, 325, 244, 3, 1939), (12, 322, 243, 2, 1943), (12, 340, 248, 0, 1947), (12, 343, 226, 0, 1951), (13, 116, 254, 2, 1955), (12, 352, 250, 1, 1959), (12, 346, 251, 1, 1963), (12, 355, 253, 2, 1967), (12, 349, 252, 1, 1971), (13, 120, 256, 1, 1975), (12, 363, 255, 2, 1979), (12, 358, 316, 1, 1982), (13, 124, 260, 1, 1983), (12, 366, 259, 2, 1987), (12, 375, 315, 1, 1991), (12, 372, 257, 4, 1992), (12, 369, 258, 3, 1996), (13, 128, 262, 2, 2000), (12, 378, 261, 1, 2004), (13, 132, 268, 2, 2008), (12, 390, 263, 1, 2012), (12, 393, 267, 2, 2016), (12, 384, 264, 2, 2020), (12, 387, 266, 4, 2024), (12, 381, 265, 2, 2028), (13, 136, 269, 1, 2032), (13, 140, 270, 2, 2036), (13, 144, 274, 3, 2040), (12, 399, 271, 2, 2044), (12, 402, 272, 4, 2048), (12, 396, 273, 2, 2052), (13, 148, 275, 2, 2056), (13, 152, 276, 3, 2060)]
def k_LR_6 : List (Nat × Nat × Nat × Nat × Nat) := [(13, 156, 280, 3, 2064), (12, 419, 279, 2, 2068), (12, 412, 277, 5, 2072), (12, 416, 278, 2, 2076), (13, 160, 281, 2, 2080), (13, 164, 285, 5, 2084), (12, 425, 284, 3, 2088), (12, 428, 282, 2, 2092), (12, 422, 283, 1, 2096), (13, 168, 290, 1, 2100), (12, 437, 288, 0, 2104), (12, 434, 287, 2, 2108), (12, 431, 286, 1, 2112), (12, 440, 289, 2, 2116), (13, 172, 292, 1, 2120), (12, 443, 291, 2, 2124), (13, 176, 293, 2, 2128), (13, 180, 296, 1, 2132), (12, 449, 295, 1, 2136), (12, 446, 294, 2, 2140), (13, 184, 298, 3, 2144), (12, 452, 299, 2, 2148), (12, 461, 297, 2, 2152), (12, 455, 300, 2, 2156), (12, 458, 301, 2, 2160), (13, 188, 305, 3, 2164), (12, 464, 302, 0, 2168), (12, 467, 306, 1, 2172), (12, 476, 242, 0, 2176), (12, 479, 304, 1, 2177), (12, 470, 307, 3, 2181), (12, 483, 249, 2, 2185), (12, 473, 303, 0, 2186), (13, 192, 308, 1, 2190), (13, 197, 310, 0, 2194), (12, 486, 309, 2, 2198), (13, 201, 312, 4, 2202), (12, 489, 311, 3, 2206), (13, 205, 313, 1, 2209), (13, 209, 314, 1, 2213)]
def k_LR : List (Nat × Nat × Nat × Nat × Nat) := k_LR_0 ++ (k_LR_1 ++ (k_LR_2 ++ (k_LR_3 ++ (k_LR_4 ++ (k_LR_5 ++ (k_LR_6))))))
def k_lchk (q : Nat × Nat × Nat × Nat × Nat) : Bool := match q with
  | (o, i, n, na, p) => k_at p (.methodLink (CN o) i (MT n).1) && (decide ((parseMethodDescriptor (MT n).1.desc).map (fun d => d.parameters.length) = some na) && k_MR.any (fun r => Nat.beq r.1 n))
theorem k_LR_ok0 : k_LR_0.all k_lchk = true := by decide +kernel
theorem k_LR_ok1 : k_LR_1.all k_lchk = true := by decide +kernel
theorem k_LR_ok2 : k_LR_2.all k_lchk = true := by decide +kernel
theorem k_LR_ok3 : k_LR_3.all k_lchk = true := by decide +kernel
theorem k_LR_ok4 : k_LR_4.all k_lchk = true := by decide +kernel
theorem k_LR_ok5 : k_LR_5.all k_lchk = true := by decide +kernel
theorem k_LR_ok6 : k_LR_6.all k_lchk = true := by decide +kernel
theorem k_LR_ok : ∀ q ∈ k_LR, k_lchk q = true := by
  intro q h
  simp only [k_LR, List.mem_append] at h
  rcases h with h | h
  · exact List.all_eq_true.mp k_LR_ok0 q h
  rcases h with h | h
  · exact List.all_eq_true.mp k_LR_ok1 q h
  rcases h with h | h
  · exact List.all_eq_true.mp k_LR_ok2 q h
  rcases h with h | h
  · exact List.all_eq_true.mp k_LR_ok3 q h
  rcases h with h | h
  · exact List.all_eq_true.mp k_LR_ok4 q h
  rcases h with h | h
  · exact List.all_eq_true.mp k_LR_ok5 q h
  exact List.all_eq_true.mp k_LR_ok6 q h
def k_KR : List (Nat × Nat × Nat × Nat) := [(7, 127, 2147483647, 897), (14, 265, 1431655765, 1002), (14, 266, 858993459, 1003), (14, 267, 252645135, 1004), (14, 274, 65280, 1052), (14, 264, 65536, 1149), (11, 254, 2147483647, 1170), (12, 272, 1000000000, 1870)]
def k_kchk (q : Nat × Nat × Nat × Nat) : Bool := match q with
  | (o, i, v, p) => k_at p (.constant (CN o) i (Int32.ofInt (v : Int))) && Nat.ble v 2147483647
theorem k_KR_ok : ∀ q ∈ k_KR, k_kchk q = true := List.all_eq_true.mp (by decide +kernel)
def k_CR : List (Nat × Nat × Nat) := [(3, 61, 729)]
def k_cchk (q : Nat × Nat × Nat) : Bool := match q with
  | (o, i, p) => k_at p (.methodLink (CN o) i arraycopyName)
theorem k_CR_ok : ∀ q ∈ k_CR, k_cchk q = true := List.all_eq_true.mp (by decide +kernel)
theorem k_copy_ok : Cond.native arraycopyName ∈ TT ∧ Cond.static arraycopyName ∈ TT ∧ Cond.initialized "java/lang/System" ∈ TT := ⟨k_at_in (p := 731) (by decide +kernel), k_at_in (p := 730) (by decide +kernel), k_at_in (p := 155) (by decide +kernel)⟩
def k_NW : List Cond := [.fieldLinkNest "CopperBoard$Nets" 91 "CopperBoard" "OPPOSITE" "[I" "CopperBoard", .fieldLinkNest "CopperBoard$Router" 144 "CopperBoard" "OPPOSITE" "[I" "CopperBoard", .fieldLinkNest "CopperBoard$Trail" 66 "CopperBoard" "OPPOSITE" "[I" "CopperBoard"]
theorem k_NW_in : ∀ w ∈ k_NW, w ∈ lw_tbl := by
  intro w h
  simp only [k_NW, List.mem_cons, List.not_mem_nil, or_false] at h
  rcases h with rfl | rfl | rfl
  · exact List.mem_of_getElem? (i := 791) (by decide +kernel)
  · exact List.mem_of_getElem? (i := 911) (by decide +kernel)
  · exact List.mem_of_getElem? (i := 1150) (by decide +kernel)
def k_SR : List (Nat × Nat × Nat × Nat × Nat) := [(8, 31, 4, 0, 689), (8, 52, 1, 0, 703), (8, 59, 2, 0, 717), (8, 62, 3, 0, 719), (3, 91, 0, 1, 0), (7, 144, 0, 1, 1), (9, 66, 0, 1, 2)]
def k_SN : List (String × String × String) := [("CopperBoard", "OPPOSITE", "[I"), ("CopperBoard$Tape", "LETTERS", "[C"), ("CopperBoard$Tape", "LEAST", "[I"), ("CopperBoard$Tape", "MOST", "[I"), ("CopperBoard$Tape", "USUAL", "[I")]
def k_schk (q : Nat × Nat × Nat × Nat × Nat) : Bool := match q with
  | (o, i, j, ne, p) => match k_SN[j]? with
    | some z => match ne with
      | 0 => k_at p (.fieldLink (CN o) i z.1 z.2.1 z.2.2)
      | _ => decide (k_NW[p]? = some (.fieldLinkNest (CN o) i z.1 z.2.1 z.2.2 "CopperBoard"))
    | none => false
theorem k_SR_ok : ∀ q ∈ k_SR, k_schk q = true := List.all_eq_true.mp (by decide +kernel)
theorem k_cw0 : ((u_ws RX0 TX0 9).zip [588, 590, 592, 594, 596, 598, 600, 602, 604]).all (fun q => k_at q.2 q.1) = true := by decide +kernel
theorem k_cw1 : ((u_ws RX1 TX1 4).zip [496, 498, 500, 502]).all (fun q => k_at q.2 q.1) = true := by decide +kernel
theorem k_cw2 : ((u_ws RX2 TX2 9).zip [234, 236, 238, 240, 242, 244, 246, 248, 250]).all (fun q => k_at q.2 q.1) = true := by decide +kernel
theorem k_cw3 : ((u_ws RX3 TX3 15).zip [328, 330, 332, 334, 336, 338, 340, 342, 344, 346, 348, 350, 352, 354, 356]).all (fun q => k_at q.2 q.1) = true := by decide +kernel
theorem k_cw4 : ((u_ws RX4 TX4 5).zip [556, 558, 560, 562, 564]).all (fun q => k_at q.2 q.1) = true := by decide +kernel
theorem k_cw5 : ((u_ws RX5 TX5 6).zip [473, 475, 477, 479, 481, 483]).all (fun q => k_at q.2 q.1) = true := by decide +kernel
theorem k_cw6 : ((u_ws RX6 TX6 10).zip [387, 389, 391, 393, 395, 397, 399, 401, 403, 405]).all (fun q => k_at q.2 q.1) = true := by decide +kernel
theorem k_cw7 : ((u_ws RX7 TX7 15).zip [430, 432, 434, 436, 438, 440, 442, 444, 446, 448, 450, 452, 454, 456, 458]).all (fun q => k_at q.2 q.1) = true := by decide +kernel
theorem k_cw8 : ((u_ws RX8 TX8 6).zip [268, 270, 272, 274, 276, 278]).all (fun q => k_at q.2 q.1) = true := by decide +kernel
theorem k_cw9 : ((u_ws RX9 TX9 6).zip [619, 621, 623, 625, 627, 629]).all (fun q => k_at q.2 q.1) = true := by decide +kernel
theorem k_cw10 : ((u_ws RX10 TX10 11).zip [522, 524, 526, 528, 530, 532, 534, 536, 538, 540, 542]).all (fun q => k_at q.2 q.1) = true := by decide +kernel
theorem k_cw11 : ((u_ws RX11 TX11 11).zip [643, 645, 647, 649, 651, 653, 655, 657, 659, 661, 663]).all (fun q => k_at q.2 q.1) = true := by decide +kernel
theorem k_cw12 : ((u_ws RX12 TX12 54).zip [1575, 1577, 1579, 1581, 1583, 1585, 1587, 1589, 1591, 1593, 1595, 1597, 1599, 1601, 1603, 1605, 1607, 1609, 1611, 1613, 1615, 1617, 1619, 1621, 1623, 1625, 1627, 1629, 1631, 1633, 1635, 1637, 1639, 1641, 1643, 1645, 1647, 1649, 1651, 1653, 1655, 1657, 1659, 1661, 1663, 1665, 1667, 1669, 1671, 1673, 1675, 1677, 1679, 1681]).all (fun q => k_at q.2 q.1) = true := by decide +kernel
theorem k_cw_of {ws : List Cond} {ps : List Nat} (h : (ws.zip ps).all (fun q => k_at q.2 q.1) = true) (hl : ws.length = ps.length) : ∀ w ∈ ws, w ∈ TT := by
  intro w hw
  obtain ⟨i, hi⟩ := List.getElem?_of_mem hw
  have hlt : i < ps.length := by rw [← hl]; exact (List.getElem?_eq_some_iff.mp hi).1
  have hz : (ws.zip ps)[i]? = some (w, ps[i]) := by rw [List.getElem?_zip_eq_some]; exact ⟨hi, List.getElem?_eq_getElem hlt⟩
  exact k_at_in (List.all_eq_true.mp h _ (List.mem_of_getElem? hz))
theorem k_cls {ci : Nat} {q : vw_C} (h : cls[ci]? = some q) : ci ≤ 12 ∧ q.2.2 = k_nf ci ∧ q.2.1 = k_TX ci ∧ (∀ w ∈ u_ws q.1 q.2.1 q.2.2, w ∈ TT) ∧ (∀ k, k < q.2.2 → parseFieldDescriptor (q.2.1 k).2.2.1 = some (k_ty ci k)) ∧ (∀ a, a < q.2.2 → ∀ b, b < q.2.2 → a ≠ b → (q.2.1 a).2.1 ≠ (q.2.1 b).2.1) := by
  match ci, h with
  | 0, h => cases h; exact ⟨by decide, rfl, rfl, k_cw_of k_cw0 rfl, tyX0_ok, nmX0⟩
  | 1, h => cases h; exact ⟨by decide, rfl, rfl, k_cw_of k_cw1 rfl, tyX1_ok, nmX1⟩
  | 2, h => cases h; exact ⟨by decide, rfl, rfl, k_cw_of k_cw2 rfl, tyX2_ok, nmX2⟩
  | 3, h => cases h; exact ⟨by decide, rfl, rfl, k_cw_of k_cw3 rfl, tyX3_ok, nmX3⟩
  | 4, h => cases h; exact ⟨by decide, rfl, rfl, k_cw_of k_cw4 rfl, tyX4_ok, nmX4⟩
  | 5, h => cases h; exact ⟨by decide, rfl, rfl, k_cw_of k_cw5 rfl, tyX5_ok, nmX5⟩
  | 6, h => cases h; exact ⟨by decide, rfl, rfl, k_cw_of k_cw6 rfl, tyX6_ok, nmX6⟩
  | 7, h => cases h; exact ⟨by decide, rfl, rfl, k_cw_of k_cw7 rfl, tyX7_ok, nmX7⟩
  | 8, h => cases h; exact ⟨by decide, rfl, rfl, k_cw_of k_cw8 rfl, tyX8_ok, nmX8⟩
  | 9, h => cases h; exact ⟨by decide, rfl, rfl, k_cw_of k_cw9 rfl, tyX9_ok, nmX9⟩
  | 10, h => cases h; exact ⟨by decide, rfl, rfl, k_cw_of k_cw10 rfl, tyX10_ok, nmX10⟩
  | 11, h => cases h; exact ⟨by decide, rfl, rfl, k_cw_of k_cw11 rfl, tyX11_ok, nmX11⟩
  | 12, h => cases h; exact ⟨by decide, rfl, rfl, k_cw_of k_cw12 rfl, tyX12_ok, nmX12⟩
  | n + 13, h => simp [cls] at h
