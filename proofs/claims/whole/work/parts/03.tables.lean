/-! the tables: classes, methods, links, by number (written by wip/whole/gen03.py) -/
def CN : Nat → String := fun k => match k with
  | 0 => "CopperBoard$Checks"
  | 1 => "CopperBoard$Chooser"
  | 2 => "CopperBoard$Grid"
  | 3 => "CopperBoard$Nets"
  | 4 => "CopperBoard$Planes"
  | 5 => "CopperBoard$Presser"
  | 6 => "CopperBoard$Room"
  | 7 => "CopperBoard$Router"
  | 8 => "CopperBoard$Tape"
  | 9 => "CopperBoard$Trail"
  | 10 => "CopperBoard$Trial"
  | 11 => "CopperBoard"
  | 12 => "CopperBoardModel"
  | 13 => "CopperBoardLaw"
  | 14 => "java/lang/Integer"
  | 15 => "java/lang/Math"
  | _ => "java/util/Arrays"
abbrev cls : List vw_C := [(RX0, TX0, 9), (RX1, TX1, 4), (RX2, TX2, 9), (RX3, TX3, 15), (RX4, TX4, 5), (RX5, TX5, 6), (RX6, TX6, 10), (RX7, TX7, 15), (RX8, TX8, 6), (RX9, TX9, 6), (RX10, TX10, 11), (RX11, TX11, 11), (RX12, TX12, 54)]
def k_ty : Nat → Nat → FieldType := fun k => match k with
  | 0 => tyX0
  | 1 => tyX1
  | 2 => tyX2
  | 3 => tyX3
  | 4 => tyX4
  | 5 => tyX5
  | 6 => tyX6
  | 7 => tyX7
  | 8 => tyX8
  | 9 => tyX9
  | 10 => tyX10
  | 11 => tyX11
  | _ => tyX12
def k_nf : Nat → Nat := fun k => match k with
  | 0 => 9
  | 1 => 4
  | 2 => 9
  | 3 => 15
  | 4 => 5
  | 5 => 6
  | 6 => 10
  | 7 => 15
  | 8 => 6
  | 9 => 6
  | 10 => 11
  | 11 => 11
  | _ => 54
def MTL_0 : List (MethodName × ByteArray × Nat × Option FieldType) := [(yX0_init, cX0_init, 3, none),
  (yX0_shiftVias, cX0_shiftVias, 6, none),
  (yX0_judgeVia, cX0_judgeVia, 6, none),
  (yX0_worstShift, cX0_worstShift, 8, some .int),
  (yX0_joinAll, cX0_joinAll, 2, none),
  (yX0_joinFrom, cX0_joinFrom, 8, some .int),
  (yX0_allMovesAt, cX0_allMovesAt, 4, some .int),
  (yX0_joinedPairs, cX0_joinedPairs, 4, some .int),
  (yX0_areJoined, cX0_areJoined, 3, some .boolean),
  (yX0_openParts, cX0_openParts, 4, some .int),
  (yX0_isNewPart, cX0_isNewPart, 4, some .boolean),
  (yX0_reachable, cX0_reachable, 5, some .int),
  (yX0_copperBeside, cX0_copperBeside, 5, some .int),
  (yX0_delayOf, cX0_delayOf, 5, some .int),
  (yX0_isBeside, cX0_isBeside, 4, some .boolean),
  (yX0_cellsBeside, cX0_cellsBeside, 5, some .int),
  (yX0_turnsAway, cX0_turnsAway, 8, some .int),
  (yX1_init, cX1_init, 5, none),
  (yX1_cutOf, cX1_cutOf, 8, some .int),
  (yX1_isWall, cX1_isWall, 4, some .boolean),
  (yX1_setAt, cX1_setAt, 5, some .int),
  (yX1_othersWithTraces, cX1_othersWithTraces, 4, some .int),
  (yX1_fewestBars, cX1_fewestBars, 7, some .int),
  (yX1_whyVias, cX1_whyVias, 2, some .int),
  (yX1_fewestByRows, cX1_fewestByRows, 7, some .int),
  (yX1_layFlat, cX1_layFlat, 3, some .boolean),
  (yX1_moveLate, cX1_moveLate, 9, some .int),
  (yX1_layWith, cX1_layWith, 5, some .boolean),
  (yX2_init, cX2_init, 8, none),
  (yX2_cellAt, cX2_cellAt, 4, some .int),
  (yX2_allLayers, cX2_allLayers, 1, some .int),
  (yX3_init, cX3_init, 2, none),
  (yX3_addSort, cX3_addSort, 2, some .int),
  (yX3_addNet, cX3_addNet, 2, some .int),
  (yX3_setting, cX3_setting, 3, some .int),
  (yX3_hasPin, cX3_hasPin, 4, some .boolean),
  (yX3_pinCell, cX3_pinCell, 3, some .int),
  (yX3_addPin, cX3_addPin, 4, some .int),
  (yX3_movePin, cX3_movePin, 4, none),
  (yX3_close, cX3_close, 8, none)]
def MTL_1 : List (MethodName × ByteArray × Nat × Option FieldType) := [(yX3_addWire, cX3_addWire, 7, none),
  (yX3_addTrace, cX3_addTrace, 4, some .int),
  (yX3_join, cX3_join, 7, some .int),
  (yX3_dropTrace, cX3_dropTrace, 5, none),
  (yX3_removeTraces, cX3_removeTraces, 3, none),
  (yX3_removeAllTraces, cX3_removeAllTraces, 1, none),
  (yX3_removeWires, cX3_removeWires, 2, none),
  (yX3_settle, cX3_settle, 3, none),
  (yX3_hasTraces, cX3_hasTraces, 2, some .boolean),
  (yX3_hasWires, cX3_hasWires, 2, some .boolean),
  (yX3_hasHoles, cX3_hasHoles, 2, some .boolean),
  (yX3_anyMove, cX3_anyMove, 5, some .boolean),
  (yX3_copperAt, cX3_copperAt, 2, some .int),
  (yX3_movesAt, cX3_movesAt, 3, some .int),
  (yX3_lengthOf, cX3_lengthOf, 4, some .int),
  (yX3_viasOf, cX3_viasOf, 4, some .int),
  (yX3_cellsOf, cX3_cellsOf, 4, some .int),
  (yX3_saveTraces, cX3_saveTraces, 1, none),
  (yX3_restoreTraces, cX3_restoreTraces, 1, none),
  (yX3_isAsSaved, cX3_isAsSaved, 2, some .boolean),
  (yX4_init, cX4_init, 4, none),
  (yX4_figure, cX4_figure, 6, some .int),
  (yX4_partPlane, cX4_partPlane, 4, none),
  (yX4_hasOwn, cX4_hasOwn, 3, some .boolean),
  (yX4_necks, cX4_necks, 5, some .int),
  (yX4_spokesAt, cX4_spokesAt, 6, some .int),
  (yX4_withoutReturn, cX4_withoutReturn, 8, some .int),
  (yX5_init, cX5_init, 5, none),
  (yX5_layInOrder, cX5_layInOrder, 4, some .int),
  (yX5_pressAll, cX5_pressAll, 4, some .int),
  (yX5_layTurn, cX5_layTurn, 5, some .boolean),
  (yX5_warmCrowded, cX5_warmCrowded, 4, some .boolean),
  (yX5_orderFigure, cX5_orderFigure, 3, some .int),
  (yX5_pressFigure, cX5_pressFigure, 5, some .int),
  (yX5_withPins, cX5_withPins, 3, some .int),
  (yX5_wholeFigure, cX5_wholeFigure, 4, some .int),
  (yX6_init, cX6_init, 3, none),
  (yX6_look, cX6_look, 8, none),
  (yX6_partOthers, cX6_partOthers, 4, none),
  (yX6_spreadAll, cX6_spreadAll, 5, none)]
def MTL_2 : List (MethodName × ByteArray × Nat × Option FieldType) := [(yX6_spread, cX6_spread, 11, none),
  (yX6_mark, cX6_mark, 5, none),
  (yX6_markPlane, cX6_markPlane, 4, none),
  (yX6_isClear, cX6_isClear, 3, some .boolean),
  (yX6_flood, cX6_flood, 3, some .int),
  (yX6_floodMore, cX6_floodMore, 7, some .int),
  (yX6_lowestUnreachedPin, cX6_lowestUnreachedPin, 3, some .int),
  (yX6_joinsAllPins, cX6_joinsAllPins, 3, some .boolean),
  (yX7_init, cX7_init, 4, none),
  (yX7_layNet, cX7_layNet, 2, some .int),
  (yX7_tryCost, cX7_tryCost, 4, some .int),
  (yX7_layRows, cX7_layRows, 7, some .int),
  (yX7_markJoined, cX7_markJoined, 7, none),
  (yX7_search, cX7_search, 6, some .boolean),
  (yX7_comeFrom, cX7_comeFrom, 8, none),
  (yX7_bendFrom, cX7_bendFrom, 3, some .int),
  (yX7_offer, cX7_offer, 4, none),
  (yX7_takeLeast, cX7_takeLeast, 5, some .int),
  (yX7_walk, cX7_walk, 7, none),
  (yX7_laneBehind, cX7_laneBehind, 3, some .int),
  (yX7_firstMove, cX7_firstMove, 8, some .int),
  (yX8_init, cX8_init, 2, none),
  (yX8_bytesIn, cX8_bytesIn, 3, some .int),
  (yX8_take, cX8_take, 4, none),
  (yX8_scan, cX8_scan, 2, some .int),
  (yX8_readSetting, cX8_readSetting, 2, some .boolean),
  (yX8_kindHere, cX8_kindHere, 2, some .int),
  (yX8_digitHere, cX8_digitHere, 1, some .int),
  (yX8_skipBlanks, cX8_skipBlanks, 1, none),
  (yX8_readNumber, cX8_readNumber, 4, some .boolean),
  (yX8_readLayers, cX8_readLayers, 4, some .boolean),
  (yX9_init, cX9_init, 4, none),
  (yX9_canFollow, cX9_canFollow, 2, some .boolean),
  (yX9_follow, cX9_follow, 7, none),
  (yX9_bendOut, cX9_bendOut, 6, some .int),
  (yX9_goBeside, cX9_goBeside, 8, some .boolean),
  (yX9_isOpen, cX9_isOpen, 3, some .boolean),
  (yX9_longestBeside, cX9_longestBeside, 6, some .int),
  (yX9_touches, cX9_touches, 5, some .boolean),
  (yX10_init, cX10_init, 6, none)]
def MTL_3 : List (MethodName × ByteArray × Nat × Option FieldType) := [(yX10_tryWholly, cX10_tryWholly, 3, some .int),
  (yX10_openCells, cX10_openCells, 5, some .int),
  (yX10_findWays, cX10_findWays, 5, some .boolean),
  (yX10_extend, cX10_extend, 12, some .boolean),
  (yX10_laterCanJoin, cX10_laterCanJoin, 6, some .boolean),
  (yX10_openAt, cX10_openAt, 6, some .int),
  (yX10_widened, cX10_widened, 5, some .int),
  (yX10_oneMove, cX10_oneMove, 3, some .int),
  (yX10_canReach, cX10_canReach, 7, some .boolean),
  (yX11_init, cX11_init, 4, none),
  (yX11_feed, cX11_feed, 7, some .int),
  (yX11_end, cX11_end, 2, some .boolean),
  (yX11_fault, cX11_fault, 1, some .int),
  (yX11_sort, cX11_sort, 1, some .int),
  (yX11_told, cX11_told, 3, some .int),
  (yX11_net, cX11_net, 2, some .int),
  (yX11_pin, cX11_pin, 6, some .int),
  (yX11_keep, cX11_keep, 7, some .boolean),
  (yX11_wire, cX11_wire, 10, some .boolean),
  (yX11_hole, cX11_hole, 6, some .boolean),
  (yX11_copper, cX11_copper, 5, some .int),
  (yX11_free, cX11_free, 6, some .int),
  (yX11_lay, cX11_lay, 2, some .int),
  (yX11_cost, cX11_cost, 3, some .int),
  (yX11_rip, cX11_rip, 2, some .boolean),
  (yX11_rank, cX11_rank, 3, some .boolean),
  (yX11_order, cX11_order, 1, some .int),
  (yX11_press, cX11_press, 4, some .int),
  (yX11_cut, cX11_cut, 3, some .int),
  (yX11_bars, cX11_bars, 2, some .int),
  (yX11_together, cX11_together, 2, some .int),
  (yX11_about, cX11_about, 3, some .int),
  (yX11_stretch, cX11_stretch, 3, some .int),
  (yX11_span, cX11_span, 3, some .int),
  (yX11_equal, cX11_equal, 7, some .int),
  (yX11_plane, cX11_plane, 4, some .int),
  (yX11_spokes, cX11_spokes, 3, some .int),
  (yX11_back, cX11_back, 4, some .int),
  (yX11_wander, cX11_wander, 4, some .int),
  (yX11_worst, cX11_worst, 3, some .int)]
def MTL_4 : List (MethodName × ByteArray × Nat × Option FieldType) := [(yX11_late, cX11_late, 7, some .int),
  (yX11_netlist, cX11_netlist, 2, some .int),
  (yX11_test, cX11_test, 2, some .int),
  (yX11_slow, cX11_slow, 3, some .boolean),
  (yX11_delay, cX11_delay, 2, some .int),
  (yX11_pair, cX11_pair, 4, some .int),
  (yX11_beside, cX11_beside, 5, some .int),
  (yX11_why, cX11_why, 2, some .int),
  (yX11_steady, cX11_steady, 2, some .boolean),
  (yX11_panel, cX11_panel, 7, some .int),
  (yX11_unwire, cX11_unwire, 2, some .boolean),
  (yX11_count, cX11_count, 2, some .int),
  (yX11_within, cX11_within, 3, some .int),
  (yX11_isNet, cX11_isNet, 2, some .boolean),
  (yX11_isLayer, cX11_isLayer, 2, some .boolean),
  (yX11_areNets, cX11_areNets, 2, some .boolean),
  (yX11_arePressing, cX11_arePressing, 2, some .boolean),
  (yX11_fitting, cX11_fitting, 4, some .int),
  (yX11_splitSheet, cX11_splitSheet, 13, some .int),
  (yX12_in, cX12_in, 3, some .boolean),
  (yX12_within, cX12_within, 3, some .int),
  (yX12_init, cX12_init, 4, none),
  (yX12_thrown, cX12_thrown, 1, some .int),
  (yX12_byteOf, cX12_byteOf, 7, some .int),
  (yX12_feed, cX12_feed, 9, some .int),
  (yX12_end, cX12_end, 2, some .boolean),
  (yX12_here, cX12_here, 1, some .int),
  (yX12_look, cX12_look, 1, some .int),
  (yX12_bad, cX12_bad, 1, none),
  (yX12_isDigit, cX12_isDigit, 1, some .boolean),
  (yX12_number, cX12_number, 4, some .int),
  (yX12_letterAt, cX12_letterAt, 2, some .int),
  (yX12_setting, cX12_setting, 4, none),
  (yX12_readLayers, cX12_readLayers, 4, none),
  (yX12_readSort, cX12_readSort, 2, some .int),
  (yX12_fault, cX12_fault, 1, some .int),
  (yX12_sort, cX12_sort, 1, some .int),
  (yX12_told, cX12_told, 3, some .int),
  (yX12_isNet, cX12_isNet, 2, some .boolean),
  (yX12_isCell, cX12_isCell, 4, some .boolean)]
def MTL_5 : List (MethodName × ByteArray × Nat × Option FieldType) := [(yX12_cell, cX12_cell, 3, some .int),
  (yX12_xOf, cX12_xOf, 1, some .int),
  (yX12_yOf, cX12_yOf, 1, some .int),
  (yX12_layerOf, cX12_layerOf, 1, some .int),
  (yX12_moved, cX12_moved, 6, some .int),
  (yX12_net, cX12_net, 2, some .int),
  (yX12_pinOn, cX12_pinOn, 4, some .int),
  (yX12_pin, cX12_pin, 5, some .int),
  (yX12_keep, cX12_keep, 9, some .boolean),
  (yX12_hasWire, cX12_hasWire, 5, some .boolean),
  (yX12_addWire, cX12_addWire, 6, none),
  (yX12_wire, cX12_wire, 10, some .boolean),
  (yX12_hole, cX12_hole, 5, some .boolean),
  (yX12_has, cX12_has, 3, some .boolean),
  (yX12_copper, cX12_copper, 6, some .int),
  (yX12_counts, cX12_counts, 4, some .boolean),
  (yX12_apart, cX12_apart, 3, some .int),
  (yX12_isNear, cX12_isNear, 6, some .boolean),
  (yX12_isFree, cX12_isFree, 5, some .boolean),
  (yX12_free, cX12_free, 5, some .int),
  (yX12_paint, cX12_paint, 3, none),
  (yX12_takeOff, cX12_takeOff, 3, none),
  (yX12_putBack, cX12_putBack, 3, none),
  (yX12_addTrace, cX12_addTrace, 4, none),
  (yX12_takeAllOff, cX12_takeAllOff, 3, none),
  (yX12_ripAll, cX12_ripAll, 2, none),
  (yX12_putAllBack, cX12_putAllBack, 3, none),
  (yX12_joins, cX12_joins, 4, some .boolean),
  (yX12_join, cX12_join, 5, none),
  (yX12_costOf, cX12_costOf, 7, some .int),
  (yX12_bestFrom, cX12_bestFrom, 8, some .int),
  (yX12_relax, cX12_relax, 6, some .boolean),
  (yX12_weigh, cX12_weigh, 5, none),
  (yX12_leads, cX12_leads, 7, some .boolean),
  (yX12_go, cX12_go, 8, some .int),
  (yX12_layNet, cX12_layNet, 5, some .int),
  (yX12_plainly, cX12_plainly, 3, none),
  (yX12_lay, cX12_lay, 2, some .int),
  (yX12_tried, cX12_tried, 3, some .int),
  (yX12_cost, cX12_cost, 4, some .int)]
def MTL_6 : List (MethodName × ByteArray × Nat × Option FieldType) := [(yX12_rip, cX12_rip, 2, some .boolean),
  (yX12_rank, cX12_rank, 3, some .boolean),
  (yX12_order, cX12_order, 4, some .int),
  (yX12_hasTrace, cX12_hasTrace, 3, some .boolean),
  (yX12_isTraceNear, cX12_isTraceNear, 6, some .boolean),
  (yX12_tracesNear, cX12_tracesNear, 5, some .int),
  (yX12_isInside, cX12_isInside, 2, some .boolean),
  (yX12_turn, cX12_turn, 4, some .boolean),
  (yX12_crowd, cX12_crowd, 5, some .int),
  (yX12_press, cX12_press, 6, some .int),
  (yX12_reach, cX12_reach, 4, none),
  (yX12_isBeside, cX12_isBeside, 4, some .boolean),
  (yX12_isWall, cX12_isWall, 2, some .boolean),
  (yX12_cutOf, cX12_cutOf, 8, some .int),
  (yX12_cut, cX12_cut, 4, some .int),
  (yX12_isAhead, cX12_isAhead, 4, some .boolean),
  (yX12_bars, cX12_bars, 4, some .int),
  (yX12_goOn, cX12_goOn, 10, some .boolean),
  (yX12_isPlainFrom, cX12_isPlainFrom, 6, some .boolean),
  (yX12_findAll, cX12_findAll, 4, some .boolean),
  (yX12_together, cX12_together, 3, some .int),
  (yX12_lengthOf, cX12_lengthOf, 4, some .int),
  (yX12_about, cX12_about, 5, some .int),
  (yX12_isStretched, cX12_isStretched, 2, some .boolean),
  (yX12_wayFrom, cX12_wayFrom, 4, some .int),
  (yX12_isRoom, cX12_isRoom, 3, some .boolean),
  (yX12_bulge, cX12_bulge, 7, some .boolean),
  (yX12_stretched, cX12_stretched, 7, some .int),
  (yX12_stretch, cX12_stretch, 3, some .int),
  (yX12_span, cX12_span, 3, some .int),
  (yX12_equal, cX12_equal, 6, some .int),
  (yX12_spread, cX12_spread, 5, none),
  (yX12_parts, cX12_parts, 10, some .int),
  (yX12_mingle, cX12_mingle, 7, some .boolean),
  (yX12_plane, cX12_plane, 7, some .int),
  (yX12_spokes, cX12_spokes, 7, some .int),
  (yX12_back, cX12_back, 7, some .int),
  (yX12_strike, cX12_strike, 10, none),
  (yX12_isFirstThere, cX12_isFirstThere, 8, some .boolean),
  (yX12_findWander, cX12_findWander, 5, none)]
def MTL_7 : List (MethodName × ByteArray × Nat × Option FieldType) := [(yX12_wander, cX12_wander, 4, some .int),
  (yX12_worst, cX12_worst, 8, some .int),
  (yX12_layWith, cX12_layWith, 4, some .boolean),
  (yX12_ripSome, cX12_ripSome, 3, none),
  (yX12_movePin, cX12_movePin, 7, none),
  (yX12_late, cX12_late, 10, some .int),
  (yX12_find, cX12_find, 3, some .int),
  (yX12_unite, cX12_unite, 3, none),
  (yX12_uniteAll, cX12_uniteAll, 4, none),
  (yX12_areShort, cX12_areShort, 5, some .boolean),
  (yX12_netlist, cX12_netlist, 7, some .int),
  (yX12_isAlone, cX12_isAlone, 7, some .boolean),
  (yX12_test, cX12_test, 6, some .int),
  (yX12_slow, cX12_slow, 3, some .boolean),
  (yX12_delayed, cX12_delayed, 3, some .int),
  (yX12_delayOf, cX12_delayOf, 4, some .int),
  (yX12_delay, cX12_delay, 2, some .int),
  (yX12_isBy, cX12_isBy, 5, some .boolean),
  (yX12_pair, cX12_pair, 4, some .int),
  (yX12_byAll, cX12_byAll, 5, some .int),
  (yX12_longest, cX12_longest, 6, some .int),
  (yX12_away, cX12_away, 7, some .int),
  (yX12_keepNow, cX12_keepNow, 3, none),
  (yX12_bringNow, cX12_bringNow, 3, none),
  (yX12_lengths, cX12_lengths, 4, some .int),
  (yX12_beside, cX12_beside, 5, some .int),
  (yX12_besideOrder, cX12_besideOrder, 5, some .int),
  (yX12_besidePress, cX12_besidePress, 5, some .int),
  (yX12_why, cX12_why, 4, some .int),
  (yX12_wasThere, cX12_wasThere, 8, some .boolean),
  (yX12_steady, cX12_steady, 4, some .boolean),
  (yX12_room, cX12_room, 3, some .int),
  (yX12_panel, cX12_panel, 15, some .int),
  (yX12_unwire, cX12_unwire, 3, some .boolean),
  (yX12_count, cX12_count, 2, some .int),
  (yJ6_numberOfTrailingZeros_0f7a4, cJ6_numberOfTrailingZeros_0f7a4, 2, some .int),
  (yJ6_bitCount_0f7a4, cJ6_bitCount_0f7a4, 1, some .int),
  (yX1_joinsWithout, cX1_joinsWithout, 4, some .boolean),
  (yJ9_abs_0f7a4, cJ9_abs_0f7a4, 1, some .int),
  (yJ9_max_7cf53, cJ9_max_7cf53, 2, some .int)]
def MTL_8 : List (MethodName × ByteArray × Nat × Option FieldType) := [(yJ9_min_7cf53, cJ9_min_7cf53, 2, some .int),
  (yJ7_rangeCheck_23922, cJ7_rangeCheck_23922, 3, none),
  (yJ7_fill_53178, cJ7_fill_53178, 4, none),
  (yJ7_fill_fda19, cJ7_fill_fda19, 5, none),
  (yL_cell, cL_cell, 2, some .int)]
def MTL : List (MethodName × ByteArray × Nat × Option FieldType) := MTL_0 ++ MTL_1 ++ MTL_2 ++ MTL_3 ++ MTL_4 ++ MTL_5 ++ MTL_6 ++ MTL_7 ++ MTL_8
def MT (n : Nat) : MethodName × ByteArray × Nat × Option FieldType := MTL.getD n (yL_law, code, 0, none)
def TT : List Cond := lw_tbl.filter goodWord
theorem TT_good {w : Cond} (h : w ∈ TT) : goodWord w = true := (List.mem_filter.mp h).2
theorem TT_in {w : Cond} (h : w ∈ TT) : w ∈ lw_tbl := (List.mem_filter.mp h).1
def k_at (p : Nat) (w : Cond) : Bool := decide (lw_tbl[p]? = some w) && goodWord w
theorem k_at_in {p : Nat} {w : Cond} (h : k_at p w = true) : w ∈ TT := by
  simp only [k_at, Bool.and_eq_true, decide_eq_true_eq] at h
  exact List.mem_filter.mpr ⟨List.mem_of_getElem? h.1, h.2⟩
def k_MR_0 : List (Nat × Nat × Nat × Nat × Nat × Nat) := [(0, 571, 152, 1, 570, 9999), (1, 1224, 152, 1, 1222, 1223), (2, 1230, 152, 1, 1229, 43), (3, 1239, 152, 1, 1237, 1238), (4, 1272, 152, 1, 1270, 1271), (5, 1276, 152, 1, 1275, 46), (6, 1280, 152, 1, 1279, 47), (7, 1284, 152, 1, 1282, 1283), (8, 1288, 152, 1, 1287, 48), (9, 1292, 152, 1, 1290, 1291), (10, 1296, 152, 1, 1295, 49), (11, 1305, 152, 1, 1303, 1304), (12, 1310, 152, 1, 1308, 1309), (13, 1322, 152, 1, 1320, 1321), (14, 1334, 152, 1, 1333, 50), (15, 1330, 152, 1, 1328, 1329), (16, 1347, 152, 1, 1345, 1346), (17, 490, 149, 1, 489, 9999), (18, 1018, 149, 1, 1016, 1017), (19, 1027, 149, 1, 1026, 24), (20, 1045, 149, 0, 1044, 9999), (21, 1041, 149, 1, 1040, 25), (22, 1036, 149, 1, 1034, 1035), (23, 1379, 149, 1, 1377, 1378), (24, 1387, 149, 1, 1386, 54), (25, 1392, 149, 1, 1391, 55), (26, 1248, 149, 1, 1246, 1247), (27, 1261, 149, 1, 1260, 45), (28, 183, 142, 1, 182, 9999), (29, 747, 142, 1, 745, 746), (30, 771, 142, 1, 769, 770), (31, 285, 145, 1, 284, 9999), (32, 728, 145, 1, 726, 727), (33, 739, 145, 1, 737, 738), (34, 821, 145, 1, 819, 820), (35, 755, 145, 1, 753, 754), (36, 759, 145, 1, 757, 758), (37, 763, 145, 1, 761, 762), (38, 1253, 145, 1, 1251, 1252), (39, 775, 145, 1, 773, 774), (40, 786, 145, 1, 784, 785), (41, 931, 145, 1, 929, 930), (42, 790, 145, 1, 789, 7), (43, 1157, 145, 1, 1155, 1156), (44, 871, 145, 1, 869, 870), (45, 976, 145, 1, 974, 975), (46, 1421, 145, 1, 1419, 1420), (47, 1257, 145, 1, 1256, 44), (48, 955, 145, 1, 953, 954), (49, 1066, 145, 1, 1064, 1065), (50, 1383, 145, 1, 1381, 1382), (51, 959, 145, 1, 958, 21), (52, 804, 145, 1, 802, 803), (53, 892, 145, 1, 890, 891), (54, 1111, 145, 1, 1109, 1110), (55, 1116, 145, 1, 1114, 1115), (56, 1120, 145, 1, 1118, 1119), (57, 943, 145, 1, 941, 942), (58, 947, 145, 1, 945, 946), (59, 1401, 145, 1, 1399, 1400)]
def k_MR_1 : List (Nat × Nat × Nat × Nat × Nat × Nat) := [(60, 549, 151, 1, 548, 9999), (61, 1179, 151, 1, 1177, 1178), (62, 1188, 151, 1, 1187, 40), (63, 1194, 151, 1, 1193, 41), (64, 1198, 151, 1, 1197, 42), (65, 1207, 151, 1, 1205, 1206), (66, 1215, 151, 1, 1213, 1214), (67, 465, 148, 1, 464, 9999), (68, 972, 148, 1, 970, 971), (69, 990, 148, 1, 988, 989), (70, 995, 148, 1, 994, 22), (71, 1009, 148, 1, 1008, 23), (72, 1355, 148, 1, 1353, 1354), (73, 1370, 148, 1, 1368, 1369), (74, 1360, 148, 1, 1359, 52), (75, 1364, 148, 1, 1363, 53), (76, 363, 146, 1, 362, 9999), (77, 812, 146, 1, 810, 811), (78, 817, 146, 1, 816, 8), (79, 827, 146, 1, 826, 9), (80, 831, 146, 1, 830, 10), (81, 836, 146, 1, 834, 835), (82, 1184, 146, 1, 1182, 1183), (83, 840, 146, 1, 839, 11), (84, 859, 146, 1, 857, 858), (85, 863, 146, 1, 861, 862), (86, 867, 146, 1, 865, 866), (87, 854, 146, 1, 852, 853), (88, 412, 147, 1, 411, 9999), (89, 848, 147, 1, 846, 847), (90, 939, 147, 1, 937, 938), (91, 881, 147, 1, 879, 880), (92, 886, 147, 1, 885, 12), (93, 896, 147, 1, 895, 13), (94, 910, 147, 1, 909, 16), (95, 915, 147, 1, 914, 17), (96, 902, 147, 1, 901, 14), (97, 906, 147, 1, 905, 15), (98, 919, 147, 1, 918, 18), (99, 927, 147, 1, 926, 20), (100, 923, 147, 1, 922, 19), (101, 258, 144, 1, 257, 9999), (102, 672, 144, 0, 671, 9999), (103, 676, 144, 1, 674, 675), (104, 688, 144, 1, 686, 687), (105, 694, 144, 1, 693, 0), (106, 702, 144, 1, 701, 2), (107, 712, 144, 1, 711, 4), (108, 698, 144, 1, 697, 1), (109, 716, 144, 1, 715, 5), (110, 708, 144, 1, 707, 3), (111, 611, 154, 1, 610, 9999), (112, 1129, 154, 1, 1127, 1128), (113, 1141, 154, 1, 1140, 36), (114, 1135, 154, 1, 1133, 1134), (115, 1148, 154, 1, 1147, 37), (116, 1152, 154, 1, 1151, 38), (117, 1338, 154, 1, 1336, 1337), (118, 1342, 154, 1, 1341, 51), (119, 509, 150, 1, 508, 9999)]
def k_MR_2 : List (Nat × Nat × Nat × Nat × Nat × Nat) := [(120, 1061, 150, 1, 1059, 1060), (121, 1070, 150, 1, 1069, 28), (122, 1099, 150, 1, 1098, 34), (123, 1103, 150, 1, 1102, 35), (124, 1076, 150, 1, 1075, 29), (125, 1081, 150, 1, 1080, 30), (126, 1087, 150, 1, 1086, 31), (127, 1095, 150, 1, 1094, 33), (128, 1091, 150, 1, 1090, 32), (129, 166, 141, 1, 165, 9999), (130, 669, 141, 1, 667, 668), (131, 680, 141, 1, 678, 679), (132, 684, 141, 1, 682, 683), (133, 724, 141, 1, 722, 723), (134, 1436, 141, 1, 1434, 1435), (135, 735, 141, 1, 733, 734), (136, 743, 141, 1, 741, 742), (137, 767, 141, 1, 765, 766), (138, 779, 141, 1, 777, 778), (139, 796, 141, 1, 794, 795), (140, 800, 141, 1, 798, 799), (141, 808, 141, 1, 806, 807), (142, 844, 141, 1, 842, 843), (143, 935, 141, 1, 933, 934), (144, 951, 141, 1, 949, 950), (145, 964, 141, 1, 962, 963), (146, 968, 141, 1, 966, 967), (147, 982, 141, 1, 980, 981), (148, 1014, 141, 1, 1012, 1013), (149, 1032, 141, 1, 1030, 1031), (150, 1053, 141, 1, 1051, 1052), (151, 1107, 141, 1, 1105, 1106), (152, 1125, 141, 1, 1123, 1124), (153, 1162, 141, 1, 1160, 1161), (154, 1167, 141, 1, 1165, 1166), (155, 1171, 141, 1, 1169, 1170), (156, 1202, 141, 1, 1200, 1201), (157, 1211, 141, 1, 1209, 1210), (158, 1220, 141, 1, 1218, 1219), (159, 1235, 141, 1, 1233, 1234), (160, 1244, 141, 1, 1242, 1243), (161, 1268, 141, 1, 1266, 1267), (162, 1301, 141, 1, 1299, 1300), (163, 1314, 141, 1, 1312, 1313), (164, 1318, 141, 1, 1316, 1317), (165, 1326, 141, 1, 1324, 1325), (166, 1351, 141, 1, 1349, 1350), (167, 1375, 141, 1, 1373, 1374), (168, 1397, 141, 1, 1395, 1396), (169, 1405, 141, 1, 1403, 1404), (170, 1416, 141, 1, 1414, 1415), (171, 1425, 141, 1, 1423, 1424), (172, 174, 141, 0, 173, 9999), (173, 751, 141, 1, 750, 6), (174, 1175, 141, 1, 1174, 39), (175, 1057, 141, 1, 1056, 27), (176, 985, 141, 0, 984, 9999), (177, 1412, 141, 0, 1411, 9999), (178, 1409, 141, 1, 1408, 56), (179, 1730, 155, 0, 1729, 9999)]
def k_MR_3 : List (Nat × Nat × Nat × Nat × Nat × Nat) := [(180, 1511, 155, 0, 1510, 9999), (181, 1507, 155, 1, 1506, 9999), (182, 1681, 155, 1, 1679, 1680), (183, 1688, 155, 0, 1687, 9999), (184, 1685, 155, 1, 1683, 1684), (185, 1692, 155, 1, 1690, 1691), (186, 1712, 155, 1, 1711, 61), (187, 1708, 155, 1, 1707, 60), (188, 1720, 155, 1, 1719, 63), (189, 1727, 155, 0, 1726, 9999), (190, 1724, 155, 1, 1723, 64), (191, 1716, 155, 1, 1715, 62), (192, 1704, 155, 1, 1703, 59), (193, 1734, 155, 1, 1733, 65), (194, 1700, 155, 1, 1699, 58), (195, 1696, 155, 1, 1694, 1695), (196, 1738, 155, 1, 1736, 1737), (197, 1742, 155, 1, 1740, 1741), (198, 1754, 155, 1, 1753, 66), (199, 1758, 155, 1, 1757, 67), (200, 1761, 155, 0, 1760, 9999), (201, 1780, 155, 0, 1779, 9999), (202, 1783, 155, 0, 1782, 9999), (203, 1786, 155, 0, 1785, 9999), (204, 1777, 155, 1, 1776, 69), (205, 1746, 155, 1, 1744, 1745), (206, 1765, 155, 1, 1764, 68), (207, 1750, 155, 1, 1748, 1749), (208, 1769, 155, 1, 1767, 1768), (209, 1794, 155, 1, 1793, 71), (210, 1790, 155, 1, 1789, 70), (211, 1773, 155, 1, 1771, 1772), (212, 1798, 155, 1, 1796, 1797), (213, 1806, 155, 1, 1805, 72), (214, 1802, 155, 1, 1800, 1801), (215, 1818, 155, 1, 1817, 74), (216, 1822, 155, 1, 1821, 75), (217, 1826, 155, 1, 1825, 76), (218, 1814, 155, 1, 1813, 73), (219, 1810, 155, 1, 1808, 1809), (220, 1846, 155, 1, 1845, 80), (221, 1842, 155, 1, 1841, 79), (222, 1887, 155, 1, 1886, 90), (223, 1883, 155, 1, 1882, 89), (224, 1919, 155, 1, 1918, 93), (225, 1911, 155, 1, 1910, 92), (226, 1947, 155, 1, 1946, 100), (227, 1854, 155, 1, 1853, 82), (228, 1850, 155, 1, 1849, 81), (229, 1875, 155, 1, 1874, 87), (230, 1871, 155, 1, 1870, 86), (231, 1867, 155, 1, 1866, 85), (232, 1862, 155, 1, 1861, 84), (233, 1879, 155, 1, 1878, 88), (234, 1858, 155, 1, 1857, 83), (235, 1838, 155, 1, 1837, 78), (236, 1834, 155, 1, 1833, 77), (237, 1830, 155, 1, 1828, 1829), (238, 1895, 155, 1, 1894, 91), (239, 1891, 155, 1, 1889, 1890)]
def k_MR_4 : List (Nat × Nat × Nat × Nat × Nat × Nat) := [(240, 1899, 155, 1, 1897, 1898), (241, 1903, 155, 1, 1901, 1902), (242, 1907, 155, 1, 1905, 1906), (243, 1939, 155, 1, 1938, 98), (244, 1935, 155, 1, 1934, 97), (245, 1931, 155, 1, 1930, 96), (246, 1927, 155, 1, 1926, 95), (247, 1923, 155, 1, 1922, 94), (248, 1943, 155, 1, 1942, 99), (249, 1915, 155, 1, 1913, 1914), (250, 1955, 155, 1, 1954, 101), (251, 1959, 155, 1, 1958, 102), (252, 1967, 155, 1, 1966, 104), (253, 1963, 155, 1, 1962, 103), (254, 1951, 155, 1, 1949, 1950), (255, 1974, 155, 0, 1973, 9999), (256, 1971, 155, 1, 1969, 1970), (257, 1991, 155, 1, 1990, 106), (258, 1995, 155, 1, 1994, 107), (259, 1983, 155, 1, 1982, 105), (260, 1979, 155, 1, 1977, 1978), (261, 2003, 155, 1, 2002, 108), (262, 1999, 155, 1, 1997, 1998), (263, 2011, 155, 1, 2010, 109), (264, 2019, 155, 1, 2018, 111), (265, 2027, 155, 1, 2026, 113), (266, 2023, 155, 1, 2022, 112), (267, 2015, 155, 1, 2014, 110), (268, 2007, 155, 1, 2005, 2006), (269, 2031, 155, 1, 2029, 2030), (270, 2035, 155, 1, 2033, 2034), (271, 2043, 155, 1, 2042, 114), (272, 2047, 155, 1, 2046, 115), (273, 2051, 155, 1, 2050, 116), (274, 2039, 155, 1, 2037, 2038), (275, 2055, 155, 1, 2053, 2054), (276, 2059, 155, 1, 2057, 2058), (277, 2071, 155, 1, 2070, 118), (278, 2075, 155, 1, 2074, 119), (279, 2067, 155, 1, 2066, 117), (280, 2063, 155, 1, 2061, 2062), (281, 2079, 155, 1, 2077, 2078), (282, 2091, 155, 1, 2090, 121), (283, 2095, 155, 1, 2094, 122), (284, 2087, 155, 1, 2086, 120), (285, 2083, 155, 1, 2081, 2082), (286, 2111, 155, 1, 2110, 125), (287, 2107, 155, 1, 2106, 124), (288, 2103, 155, 1, 2102, 123), (289, 2115, 155, 1, 2114, 126), (290, 2099, 155, 1, 2097, 2098), (291, 2123, 155, 1, 2122, 127), (292, 2119, 155, 1, 2117, 2118), (293, 2127, 155, 1, 2125, 2126), (294, 2139, 155, 1, 2138, 129), (295, 2135, 155, 1, 2134, 128), (296, 2131, 155, 1, 2129, 2130), (297, 2151, 155, 1, 2150, 131), (298, 2143, 155, 1, 2141, 2142), (299, 2147, 155, 1, 2146, 130)]
def k_MR_5 : List (Nat × Nat × Nat × Nat × Nat × Nat) := [(300, 2155, 155, 1, 2154, 132), (301, 2159, 155, 1, 2158, 133), (302, 2167, 155, 1, 2166, 134), (303, 2185, 155, 1, 2184, 138), (304, 2176, 155, 1, 2175, 136), (305, 2163, 155, 1, 2161, 2162), (306, 2171, 155, 1, 2170, 135), (307, 2180, 155, 1, 2179, 137), (308, 2189, 155, 1, 2187, 2188), (309, 2197, 155, 1, 2196, 139), (310, 2193, 155, 1, 2191, 2192), (311, 2204, 155, 0, 2203, 9999), (312, 2201, 155, 1, 2199, 2200), (313, 2208, 155, 1, 2206, 2207), (314, 2212, 155, 1, 2210, 2211), (315, 1986, 161, 0, 1985, 9999), (316, 1001, 161, 0, 1000, 9999), (317, 1049, 149, 1, 1048, 26), (318, 782, 143, 0, 781, 9999), (319, 180, 143, 0, 179, 9999), (320, 177, 143, 0, 176, 9999), (321, 877, 153, 0, 876, 9999), (322, 575, 153, 0, 574, 9999), (323, 874, 153, 0, 873, 9999), (324, 1428, 140, 0, 1427, 9999)]
def k_MR : List (Nat × Nat × Nat × Nat × Nat × Nat) := k_MR_0 ++ (k_MR_1 ++ (k_MR_2 ++ (k_MR_3 ++ (k_MR_4 ++ (k_MR_5)))))
def k_mchk (q : Nat × Nat × Nat × Nat × Nat × Nat) : Bool := match q with
  | (n, pc, pi, kd, pk, ps) => k_at pi (.initialized (MT n).1.cls) && (Nat.ble (MT n).2.2.1 21 && (decide ((MT n).1.cls ≠ "java/lang/invoke/MethodHandle" ∧ (MT n).1.cls ≠ "java/lang/invoke/VarHandle") && (match kd with
    | 0 => k_at pk (.static (MT n).1)
    | _ => k_at pk (.instanceMethod (MT n).1) && (match Nat.beq ps 9999 with
      | true => true
      | false => k_at ps (.selects (MT n).1.cls (MT n).1 (MT n).1)))))
def k_cdw (q : Nat × Nat × Nat × Nat × Nat × Nat) : Prop := lw_tbl[q.2.1]? = some (.code (MT q.1).1 (MT q.1).2.1 (MT q.1).2.2.1 (MT q.1).2.2.2)
theorem k_MR_ok0 : k_MR_0.all k_mchk = true := by decide +kernel
theorem k_MR_ok1 : k_MR_1.all k_mchk = true := by decide +kernel
theorem k_MR_ok2 : k_MR_2.all k_mchk = true := by decide +kernel
theorem k_MR_ok3 : k_MR_3.all k_mchk = true := by decide +kernel
theorem k_MR_ok4 : k_MR_4.all k_mchk = true := by decide +kernel
theorem k_MR_ok5 : k_MR_5.all k_mchk = true := by decide +kernel
theorem k_MR_ok : ∀ q ∈ k_MR, k_mchk q = true := by
  intro q h
  simp only [k_MR, List.mem_append] at h
  rcases h with h | h
  · exact List.all_eq_true.mp k_MR_ok0 q h
  rcases h with h | h
  · exact List.all_eq_true.mp k_MR_ok1 q h
  rcases h with h | h
  · exact List.all_eq_true.mp k_MR_ok2 q h
  rcases h with h | h
  · exact List.all_eq_true.mp k_MR_ok3 q h
  rcases h with h | h
  · exact List.all_eq_true.mp k_MR_ok4 q h
  exact List.all_eq_true.mp k_MR_ok5 q h
def k_FR_0 : List (Nat × Nat × Nat × Nat × Nat × Nat) := [(2, 9, 2, 0, 0, 185), (10, 48, 2, 0, 0, 186), (6, 95, 2, 0, 0, 187), (3, 81, 2, 0, 0, 188), (11, 334, 2, 0, 0, 189), (2, 15, 2, 1, 0, 190), (10, 60, 2, 1, 0, 191), (6, 101, 2, 1, 0, 192), (11, 340, 2, 1, 0, 193), (2, 18, 2, 2, 0, 194), (0, 19, 2, 2, 0, 195), (11, 24, 2, 2, 0, 196), (2, 21, 2, 3, 0, 197), (4, 65, 2, 3, 0, 198), (6, 110, 2, 3, 0, 199), (3, 78, 2, 3, 0, 200), (10, 134, 2, 3, 0, 201), (0, 112, 2, 3, 0, 202), (7, 23, 2, 4, 0, 203), (9, 23, 2, 4, 0, 204), (6, 23, 2, 4, 0, 205), (5, 27, 2, 4, 0, 206), (2, 24, 2, 4, 0, 207), (0, 35, 2, 4, 0, 208), (10, 33, 2, 4, 0, 209), (3, 31, 2, 4, 0, 210), (4, 33, 2, 4, 0, 211), (1, 50, 2, 4, 0, 212), (2, 27, 2, 5, 1, 213), (0, 79, 2, 5, 1, 214), (1, 79, 2, 5, 1, 215), (9, 57, 2, 5, 1, 216), (7, 122, 2, 5, 1, 217), (4, 85, 2, 5, 1, 218), (6, 123, 2, 5, 1, 219), (3, 88, 2, 5, 1, 220), (2, 31, 2, 6, 1, 221), (10, 42, 2, 6, 1, 222), (0, 62, 2, 6, 1, 223), (6, 92, 2, 6, 1, 224), (2, 34, 2, 7, 1, 225), (10, 54, 2, 7, 1, 226), (0, 65, 2, 7, 1, 227), (6, 104, 2, 7, 1, 228), (2, 37, 2, 8, 1, 229), (0, 68, 2, 8, 1, 230), (1, 63, 2, 8, 1, 231), (6, 107, 2, 8, 1, 232), (4, 82, 2, 8, 1, 233), (8, 18, 8, 0, 0, 260), (8, 9, 8, 1, 1, 261), (8, 15, 8, 2, 1, 262), (11, 123, 8, 2, 1, 263), (11, 110, 8, 3, 0, 264), (8, 22, 8, 3, 0, 265), (8, 25, 8, 4, 0, 266), (8, 28, 8, 5, 0, 267), (3, 27, 3, 0, 1, 287), (3, 9, 3, 1, 1, 288), (11, 138, 3, 1, 1, 289)]
def k_FR_1 : List (Nat × Nat × Nat × Nat × Nat × Nat) := [(3, 15, 3, 2, 1, 290), (3, 18, 3, 3, 1, 291), (5, 48, 3, 3, 1, 292), (11, 206, 3, 3, 1, 293), (3, 21, 3, 4, 1, 294), (7, 48, 3, 4, 1, 295), (9, 35, 3, 4, 1, 296), (5, 51, 3, 4, 1, 297), (10, 75, 3, 4, 1, 298), (11, 157, 3, 4, 1, 299), (0, 102, 3, 4, 1, 300), (6, 126, 3, 4, 1, 301), (3, 24, 3, 5, 1, 302), (3, 37, 3, 6, 1, 303), (1, 67, 3, 6, 1, 304), (6, 117, 3, 6, 1, 305), (0, 120, 3, 6, 1, 306), (3, 40, 3, 7, 1, 307), (6, 66, 3, 7, 1, 308), (3, 43, 3, 8, 1, 309), (6, 69, 3, 8, 1, 310), (1, 87, 3, 8, 1, 311), (5, 102, 3, 8, 1, 312), (3, 46, 3, 9, 1, 313), (3, 49, 3, 10, 1, 314), (9, 54, 3, 10, 1, 315), (0, 130, 3, 10, 1, 316), (3, 52, 3, 11, 1, 317), (3, 55, 3, 12, 1, 318), (3, 58, 3, 13, 0, 319), (11, 120, 3, 13, 0, 320), (0, 53, 3, 14, 0, 321), (5, 45, 3, 14, 0, 322), (10, 72, 3, 14, 0, 323), (3, 67, 3, 14, 0, 324), (6, 80, 3, 14, 0, 325), (11, 141, 3, 14, 0, 326), (1, 136, 3, 14, 0, 327), (6, 15, 6, 0, 1, 365), (6, 19, 6, 1, 1, 366), (6, 29, 6, 2, 1, 367), (1, 70, 6, 2, 1, 368), (6, 32, 6, 3, 1, 369), (1, 73, 6, 3, 1, 370), (5, 90, 6, 3, 1, 371), (6, 35, 6, 4, 1, 372), (4, 76, 6, 4, 1, 373), (6, 38, 6, 5, 1, 374), (4, 39, 6, 5, 1, 375), (10, 103, 6, 5, 1, 376), (9, 96, 6, 5, 1, 377), (7, 145, 6, 5, 1, 378), (11, 190, 6, 5, 1, 379), (6, 41, 6, 6, 1, 380), (1, 76, 6, 6, 1, 381), (4, 56, 6, 6, 1, 382), (6, 44, 6, 7, 1, 383), (4, 79, 6, 7, 1, 384), (6, 9, 6, 8, 1, 385), (6, 47, 6, 9, 0, 386)]
def k_FR_2 : List (Nat × Nat × Nat × Nat × Nat × Nat) := [(7, 9, 7, 0, 1, 414), (7, 15, 7, 1, 1, 415), (7, 19, 7, 2, 1, 416), (7, 29, 7, 3, 1, 417), (5, 87, 7, 3, 1, 418), (7, 33, 7, 4, 1, 419), (7, 36, 7, 5, 1, 420), (7, 39, 7, 6, 1, 421), (7, 42, 7, 7, 1, 422), (7, 45, 7, 8, 1, 423), (7, 129, 7, 9, 0, 424), (7, 84, 7, 10, 0, 425), (7, 87, 7, 11, 0, 426), (7, 90, 7, 12, 0, 427), (7, 93, 7, 13, 0, 428), (7, 96, 7, 14, 0, 429), (5, 9, 5, 0, 1, 467), (5, 15, 5, 1, 1, 468), (5, 19, 5, 2, 1, 469), (5, 23, 5, 3, 1, 470), (5, 33, 5, 4, 1, 471), (5, 37, 5, 5, 1, 472), (1, 9, 1, 0, 1, 492), (1, 15, 1, 1, 1, 493), (1, 19, 1, 2, 1, 494), (1, 23, 1, 3, 1, 495), (10, 21, 10, 0, 1, 511), (10, 25, 10, 1, 1, 512), (10, 29, 10, 2, 1, 513), (10, 11, 10, 3, 1, 514), (10, 15, 10, 4, 1, 515), (10, 18, 10, 5, 1, 516), (10, 69, 10, 6, 0, 517), (10, 39, 10, 7, 0, 518), (10, 45, 10, 8, 0, 519), (10, 51, 10, 9, 0, 520), (10, 57, 10, 10, 0, 521), (4, 9, 4, 0, 1, 551), (4, 15, 4, 1, 1, 552), (4, 19, 4, 2, 1, 553), (4, 46, 4, 3, 0, 554), (4, 49, 4, 4, 0, 555), (0, 9, 0, 0, 1, 576), (0, 15, 0, 1, 1, 577), (0, 25, 0, 2, 1, 578), (11, 302, 0, 2, 1, 579), (0, 47, 0, 3, 0, 580), (11, 278, 0, 3, 0, 581), (0, 50, 0, 4, 0, 582), (11, 281, 0, 4, 0, 583), (0, 38, 0, 5, 1, 584), (0, 41, 0, 6, 1, 585), (0, 44, 0, 7, 1, 586), (0, 89, 0, 8, 0, 587), (9, 9, 9, 0, 1, 613), (9, 15, 9, 1, 1, 614), (9, 19, 9, 2, 1, 615), (9, 29, 9, 3, 1, 616), (9, 32, 9, 4, 1, 617), (9, 51, 9, 5, 0, 618)]
def k_FR_3 : List (Nat × Nat × Nat × Nat × Nat × Nat) := [(11, 18, 11, 0, 1, 632), (11, 31, 11, 1, 1, 633), (11, 40, 11, 2, 1, 634), (11, 49, 11, 3, 1, 635), (11, 58, 11, 4, 1, 636), (11, 67, 11, 5, 1, 637), (11, 74, 11, 6, 1, 638), (11, 81, 11, 7, 1, 639), (11, 88, 11, 8, 1, 640), (11, 95, 11, 9, 1, 641), (11, 102, 11, 10, 1, 642), (12, 145, 12, 0, 0, 1514), (12, 135, 12, 1, 0, 1515), (12, 139, 12, 2, 0, 1516), (12, 142, 12, 3, 0, 1517), (12, 18, 12, 4, 1, 1518), (12, 152, 12, 5, 0, 1519), (12, 155, 12, 6, 0, 1520), (12, 162, 12, 7, 0, 1521), (12, 22, 12, 8, 1, 1522), (12, 25, 12, 9, 1, 1523), (12, 28, 12, 10, 1, 1524), (12, 31, 12, 11, 1, 1525), (12, 34, 12, 12, 1, 1526), (12, 199, 12, 13, 0, 1527), (12, 183, 12, 14, 0, 1528), (12, 37, 12, 15, 1, 1529), (12, 40, 12, 16, 1, 1530), (12, 43, 12, 17, 1, 1531), (12, 46, 12, 18, 1, 1532), (12, 49, 12, 19, 1, 1533), (12, 52, 12, 20, 1, 1534), (12, 55, 12, 21, 1, 1535), (12, 58, 12, 22, 1, 1536), (12, 61, 12, 23, 1, 1537), (12, 64, 12, 24, 1, 1538), (12, 67, 12, 25, 1, 1539), (12, 202, 12, 26, 0, 1540), (12, 71, 12, 27, 1, 1541), (12, 240, 12, 28, 0, 1542), (12, 247, 12, 29, 0, 1543), (12, 243, 12, 30, 2, 1544), (12, 74, 12, 31, 1, 1545), (12, 77, 12, 32, 1, 1546), (12, 263, 12, 33, 0, 1547), (12, 80, 12, 34, 1, 1548), (12, 83, 12, 35, 1, 1549), (12, 86, 12, 36, 1, 1550), (12, 89, 12, 37, 1, 1551), (12, 92, 12, 38, 1, 1552), (12, 95, 12, 39, 1, 1553), (12, 98, 12, 40, 1, 1554), (12, 273, 12, 41, 2, 1555), (12, 101, 12, 42, 1, 1556), (12, 104, 12, 43, 1, 1557), (12, 107, 12, 44, 1, 1558), (12, 110, 12, 45, 1, 1559), (12, 113, 12, 46, 1, 1560), (12, 409, 12, 47, 0, 1561), (12, 406, 12, 48, 0, 1562)]
def k_FR_4 : List (Nat × Nat × Nat × Nat × Nat × Nat) := [(12, 116, 12, 49, 1, 1563), (12, 119, 12, 50, 1, 1564), (12, 122, 12, 51, 1, 1565), (12, 125, 12, 52, 1, 1566), (12, 128, 12, 53, 1, 1567)]
def k_FR : List (Nat × Nat × Nat × Nat × Nat × Nat) := k_FR_0 ++ (k_FR_1 ++ (k_FR_2 ++ (k_FR_3 ++ (k_FR_4))))
def k_tc : FieldType → Nat
  | .int => 0
  | .boolean => 2
  | _ => 1
def k_TX (ci : Nat) : u_T := match cls[ci]? with
  | some q => q.2.1
  | none => TX0
def k_fchk (q : Nat × Nat × Nat × Nat × Nat × Nat) : Bool := match q with
  | (o, i, ci, k, t, p) => Nat.ble ci 12 && (Nat.blt k (k_nf ci) && (Nat.beq (k_tc (k_ty ci k)) t && k_at p (.fieldLink (CN o) i (k_TX ci k).1 (k_TX ci k).2.1 (k_TX ci k).2.2.1)))
theorem k_FR_ok0 : k_FR_0.all k_fchk = true := by decide +kernel
theorem k_FR_ok1 : k_FR_1.all k_fchk = true := by decide +kernel
theorem k_FR_ok2 : k_FR_2.all k_fchk = true := by decide +kernel
theorem k_FR_ok3 : k_FR_3.all k_fchk = true := by decide +kernel
theorem k_FR_ok4 : k_FR_4.all k_fchk = true := by decide +kernel
theorem k_FR_ok : ∀ q ∈ k_FR, k_fchk q = true := by
  intro q h
  simp only [k_FR, List.mem_append] at h
  rcases h with h | h
  · exact List.all_eq_true.mp k_FR_ok0 q h
  rcases h with h | h
  · exact List.all_eq_true.mp k_FR_ok1 q h
  rcases h with h | h
  · exact List.all_eq_true.mp k_FR_ok2 q h
  rcases h with h | h
  · exact List.all_eq_true.mp k_FR_ok3 q h
  exact List.all_eq_true.mp k_FR_ok4 q h
def k_LR_0 : List (Nat × Nat × Nat × Nat × Nat) := [(13, 21, 129, 3, 164), (11, 9, 172, 3, 172), (11, 253, 320, 2, 175), (11, 256, 319, 2, 178), (11, 15, 28, 3, 181), (11, 28, 101, 1, 256), (11, 37, 31, 1, 283), (11, 46, 76, 2, 361), (11, 55, 88, 3, 410), (11, 64, 67, 4, 463), (11, 73, 17, 4, 488), (11, 80, 119, 3, 507), (11, 87, 60, 3, 547), (11, 94, 0, 2, 569), (0, 29, 322, 2, 573), (11, 101, 111, 3, 609), (13, 27, 130, 5, 666), (11, 106, 102, 1, 670), (11, 113, 103, 1, 673), (13, 32, 131, 1, 677), (13, 37, 132, 0, 681), (11, 116, 104, 0, 685), (8, 34, 105, 0, 691), (8, 38, 108, 0, 695), (8, 41, 106, 0, 699), (8, 45, 110, 0, 705), (8, 56, 107, 0, 709), (8, 48, 109, 1, 713), (13, 42, 133, 0, 721), (11, 127, 32, 1, 725), (13, 53, 135, 1, 732), (11, 144, 33, 1, 736), (13, 58, 136, 4, 740), (11, 147, 29, 3, 744), (11, 150, 173, 1, 748), (11, 154, 35, 1, 752), (3, 70, 36, 2, 756), (11, 160, 37, 2, 760), (13, 63, 137, 5, 764), (11, 164, 30, 0, 768), (11, 167, 39, 5, 772), (13, 68, 138, 6, 776), (11, 171, 318, 1, 780), (11, 176, 40, 4, 783), (3, 84, 42, 5, 787), (13, 73, 139, 4, 793), (13, 78, 140, 3, 797), (11, 180, 52, 1, 801), (13, 83, 141, 4, 805), (11, 183, 77, 2, 809), (6, 50, 322, 2, 813), (6, 56, 78, 1, 814), (6, 76, 34, 2, 818), (6, 83, 319, 2, 822), (6, 60, 52, 1, 823), (6, 72, 79, 3, 824), (6, 88, 80, 4, 828), (6, 98, 320, 2, 832), (11, 187, 81, 1, 833), (6, 113, 83, 2, 837)]
def k_LR_1 : List (Nat × Nat × Nat × Nat × Nat) := [(13, 87, 142, 1, 841), (11, 193, 89, 1, 845), (7, 53, 77, 2, 849), (7, 59, 81, 1, 850), (7, 63, 87, 2, 851), (6, 129, 36, 2, 855), (6, 132, 84, 2, 856), (6, 120, 85, 2, 860), (6, 135, 86, 1, 864), (7, 67, 44, 1, 868), (3, 94, 323, 4, 872), (16, 13, 321, 3, 875), (7, 70, 91, 2, 878), (7, 80, 34, 2, 882), (7, 99, 92, 1, 883), (7, 113, 322, 2, 887), (7, 102, 36, 2, 888), (7, 119, 53, 2, 889), (7, 105, 93, 1, 893), (7, 126, 323, 4, 898), (7, 132, 96, 2, 899), (7, 135, 97, 0, 903), (7, 139, 94, 1, 907), (7, 148, 95, 2, 912), (7, 109, 98, 2, 916), (7, 151, 100, 2, 920), (7, 154, 99, 2, 924), (7, 157, 41, 3, 928), (13, 91, 143, 2, 932), (11, 196, 90, 2, 936), (7, 74, 57, 0, 940), (7, 77, 58, 0, 944), (13, 96, 144, 1, 948), (11, 200, 48, 1, 952), (3, 103, 51, 3, 956), (11, 203, 44, 1, 960), (13, 100, 145, 2, 961), (13, 105, 146, 0, 965), (11, 209, 68, 0, 969), (5, 40, 45, 0, 973), (3, 100, 322, 2, 977), (5, 54, 89, 1, 978), (13, 109, 147, 2, 979), (11, 212, 176, 2, 983), (11, 216, 57, 0, 986), (11, 219, 69, 2, 987), (5, 60, 322, 2, 991), (5, 66, 70, 1, 992), (5, 74, 44, 1, 996), (5, 78, 77, 2, 997), (5, 84, 81, 1, 998), (5, 93, 316, 1, 999), (5, 98, 91, 2, 1005), (5, 70, 71, 0, 1006), (11, 222, 58, 0, 1010), (13, 113, 148, 2, 1011), (11, 225, 18, 2, 1015), (1, 27, 77, 2, 1019), (1, 33, 81, 1, 1020), (1, 37, 36, 2, 1021)]
def k_LR_2 : List (Nat × Nat × Nat × Nat × Nat) := [(1, 43, 84, 2, 1022), (1, 46, 86, 1, 1023), (1, 56, 19, 1, 1024), (1, 60, 34, 2, 1028), (13, 117, 149, 1, 1029), (11, 228, 22, 2, 1033), (1, 90, 87, 2, 1037), (1, 94, 21, 1, 1038), (1, 82, 316, 1, 1042), (1, 97, 20, 3, 1043), (1, 101, 317, 3, 1046), (13, 121, 150, 1, 1050), (11, 231, 175, 1, 1054), (11, 234, 120, 1, 1058), (10, 63, 316, 1, 1062), (10, 78, 49, 1, 1063), (10, 82, 121, 2, 1067), (10, 93, 77, 2, 1071), (10, 99, 81, 1, 1072), (10, 86, 124, 2, 1073), (10, 109, 36, 2, 1077), (10, 106, 125, 2, 1078), (10, 123, 34, 2, 1082), (10, 126, 319, 2, 1083), (10, 131, 126, 2, 1084), (10, 119, 128, 3, 1088), (10, 116, 127, 1, 1092), (10, 90, 122, 2, 1096), (10, 112, 123, 4, 1100), (13, 125, 151, 2, 1104), (11, 237, 54, 1, 1108), (3, 107, 316, 1, 1112), (11, 240, 55, 1, 1113), (11, 243, 56, 1, 1117), (3, 113, 52, 1, 1121), (13, 129, 152, 2, 1122), (11, 246, 112, 1, 1126), (9, 40, 49, 1, 1130), (9, 44, 48, 1, 1131), (11, 249, 114, 2, 1132), (9, 63, 77, 2, 1136), (9, 69, 81, 1, 1137), (9, 73, 113, 1, 1138), (9, 47, 36, 2, 1142), (9, 76, 54, 1, 1144), (9, 80, 115, 4, 1145), (9, 84, 116, 2, 1149), (9, 99, 52, 1, 1153), (9, 88, 43, 3, 1154), (9, 92, 41, 3, 1158), (13, 133, 153, 1, 1159), (13, 137, 154, 2, 1164), (13, 141, 155, 3, 1168), (11, 259, 174, 1, 1172), (11, 262, 61, 3, 1176), (4, 23, 77, 2, 1180), (4, 29, 82, 1, 1181), (4, 43, 62, 1, 1185), (4, 59, 322, 2, 1189), (4, 68, 85, 2, 1190)]
def k_LR_3 : List (Nat × Nat × Nat × Nat × Nat) := [(4, 72, 63, 1, 1191), (4, 52, 64, 1, 1195), (13, 145, 156, 2, 1199), (11, 265, 36, 2, 1203), (11, 268, 65, 2, 1204), (13, 149, 157, 3, 1208), (11, 271, 66, 3, 1212), (4, 88, 52, 1, 1216), (13, 153, 158, 3, 1217), (11, 274, 1, 2, 1221), (0, 58, 53, 2, 1225), (0, 71, 29, 3, 1226), (0, 75, 2, 2, 1227), (0, 82, 52, 1, 1231), (13, 157, 159, 2, 1232), (11, 284, 3, 2, 1236), (0, 86, 1, 2, 1240), (13, 161, 160, 5, 1241), (11, 287, 26, 3, 1245), (1, 114, 57, 0, 1249), (1, 132, 38, 3, 1250), (3, 74, 47, 1, 1254), (1, 139, 27, 2, 1258), (1, 120, 58, 0, 1262), (1, 123, 44, 1, 1263), (1, 142, 89, 1, 1264), (13, 165, 161, 1, 1265), (11, 290, 4, 0, 1269), (0, 92, 5, 1, 1273), (0, 95, 6, 1, 1277), (11, 293, 7, 0, 1281), (0, 98, 8, 1, 1285), (11, 296, 9, 0, 1289), (0, 105, 10, 2, 1293), (0, 109, 36, 2, 1297), (13, 169, 162, 1, 1298), (11, 299, 11, 1, 1302), (0, 115, 316, 1, 1306), (0, 123, 12, 1, 1307), (13, 173, 163, 2, 1311), (13, 177, 164, 1, 1315), (11, 305, 13, 1, 1319), (13, 181, 165, 3, 1323), (11, 308, 15, 2, 1327), (0, 126, 14, 3, 1331), (11, 311, 117, 2, 1335), (9, 102, 118, 2, 1339), (9, 105, 319, 2, 1343), (11, 314, 16, 2, 1344), (13, 185, 166, 3, 1348), (11, 317, 72, 1, 1352), (5, 105, 68, 0, 1356), (5, 109, 74, 0, 1357), (5, 112, 75, 1, 1361), (5, 120, 54, 1, 1365), (5, 123, 55, 1, 1366), (11, 320, 73, 3, 1367), (5, 116, 69, 2, 1371), (13, 189, 167, 1, 1372), (11, 323, 23, 1, 1376)]
def k_LR_4 : List (Nat × Nat × Nat × Nat × Nat) := [(1, 105, 50, 1, 1380), (1, 108, 24, 1, 1384), (1, 111, 22, 2, 1388), (1, 117, 25, 2, 1389), (1, 126, 91, 2, 1393), (13, 193, 168, 0, 1394), (11, 326, 59, 0, 1398), (13, 198, 169, 4, 1402), (11, 330, 178, 4, 1406), (11, 337, 177, 3, 1410), (13, 202, 170, 1, 1413), (11, 343, 49, 1, 1417), (11, 346, 46, 1, 1418), (13, 206, 171, 1, 1422), (13, 15, 324, 2, 1426), (13, 7, 134, 2, 1433), (13, 26, 181, 3, 1505), (12, 131, 180, 3, 1509), (12, 3, 320, 2, 1512), (12, 9, 319, 2, 1513), (13, 50, 182, 0, 1678), (13, 31, 184, 5, 1682), (12, 148, 183, 6, 1686), (13, 36, 185, 1, 1689), (13, 41, 195, 0, 1693), (12, 196, 194, 1, 1697), (12, 193, 192, 1, 1701), (12, 165, 187, 0, 1705), (12, 158, 186, 0, 1709), (12, 179, 191, 1, 1713), (12, 172, 188, 0, 1717), (12, 186, 190, 2, 1721), (12, 168, 189, 1, 1725), (12, 175, 179, 3, 1728), (12, 189, 193, 1, 1731), (13, 45, 196, 0, 1735), (13, 49, 197, 2, 1739), (13, 57, 205, 1, 1743), (13, 62, 207, 4, 1747), (12, 220, 198, 1, 1751), (12, 214, 199, 3, 1755), (12, 217, 200, 3, 1759), (12, 223, 206, 1, 1762), (13, 67, 208, 5, 1766), (13, 72, 211, 6, 1770), (12, 229, 204, 2, 1774), (12, 205, 201, 1, 1778), (12, 208, 202, 1, 1781), (12, 211, 203, 1, 1784), (12, 232, 210, 3, 1787), (12, 226, 209, 3, 1791), (13, 77, 212, 4, 1795), (13, 82, 214, 3, 1799), (12, 236, 213, 2, 1803), (13, 86, 219, 4, 1807), (12, 259, 218, 3, 1811), (12, 250, 215, 2, 1815), (12, 253, 216, 2, 1819), (12, 256, 217, 3, 1823), (13, 90, 237, 1, 1827)]
def k_LR_5 : List (Nat × Nat × Nat × Nat × Nat) := [(12, 309, 236, 1, 1831), (12, 313, 235, 1, 1835), (12, 296, 221, 1, 1839), (12, 266, 220, 1, 1843), (12, 299, 228, 2, 1847), (12, 269, 227, 2, 1851), (12, 303, 234, 2, 1855), (12, 286, 232, 1, 1859), (12, 283, 231, 2, 1864), (12, 280, 230, 3, 1868), (12, 276, 229, 4, 1872), (12, 289, 233, 4, 1876), (12, 293, 223, 3, 1880), (12, 306, 222, 1, 1884), (13, 95, 239, 2, 1888), (12, 316, 238, 1, 1892), (13, 99, 240, 1, 1896), (13, 104, 241, 2, 1900), (13, 108, 242, 0, 1904), (12, 319, 225, 0, 1908), (13, 112, 249, 2, 1912), (12, 334, 224, 0, 1916), (12, 337, 247, 1, 1920), (12, 328, 246, 1, 1924), (12, 331, 245, 2, 1928), (12, 325, 244, 3, 1932), (12, 322, 243, 2, 1936), (12, 340, 248, 0, 1940), (12, 343, 226, 0, 1944), (13, 116, 254, 2, 1948), (12, 352, 250, 1, 1952), (12, 346, 251, 1, 1956), (12, 355, 253, 2, 1960), (12, 349, 252, 1, 1964), (13, 120, 256, 1, 1968), (12, 363, 255, 2, 1972), (12, 358, 316, 1, 1975), (13, 124, 260, 1, 1976), (12, 366, 259, 2, 1980), (12, 375, 315, 1, 1984), (12, 372, 257, 4, 1988), (12, 369, 258, 3, 1992), (13, 128, 262, 2, 1996), (12, 378, 261, 1, 2000), (13, 132, 268, 2, 2004), (12, 390, 263, 1, 2008), (12, 393, 267, 2, 2012), (12, 384, 264, 2, 2016), (12, 387, 266, 4, 2020), (12, 381, 265, 2, 2024), (13, 136, 269, 1, 2028), (13, 140, 270, 2, 2032), (13, 144, 274, 3, 2036), (12, 399, 271, 2, 2040), (12, 402, 272, 4, 2044), (12, 396, 273, 2, 2048), (13, 148, 275, 2, 2052), (13, 152, 276, 3, 2056), (13, 156, 280, 3, 2060), (12, 419, 279, 2, 2064)]
def k_LR_6 : List (Nat × Nat × Nat × Nat × Nat) := [(12, 412, 277, 5, 2068), (12, 416, 278, 2, 2072), (13, 160, 281, 2, 2076), (13, 164, 285, 5, 2080), (12, 425, 284, 3, 2084), (12, 428, 282, 2, 2088), (12, 422, 283, 1, 2092), (13, 168, 290, 1, 2096), (12, 437, 288, 0, 2100), (12, 434, 287, 2, 2104), (12, 431, 286, 1, 2108), (12, 440, 289, 2, 2112), (13, 172, 292, 1, 2116), (12, 443, 291, 2, 2120), (13, 176, 293, 2, 2124), (13, 180, 296, 1, 2128), (12, 449, 295, 1, 2132), (12, 446, 294, 2, 2136), (13, 184, 298, 3, 2140), (12, 452, 299, 2, 2144), (12, 461, 297, 2, 2148), (12, 455, 300, 2, 2152), (12, 458, 301, 2, 2156), (13, 188, 305, 3, 2160), (12, 464, 302, 0, 2164), (12, 467, 306, 1, 2168), (12, 476, 242, 0, 2172), (12, 479, 304, 1, 2173), (12, 470, 307, 3, 2177), (12, 483, 249, 2, 2181), (12, 473, 303, 0, 2182), (13, 192, 308, 1, 2186), (13, 197, 310, 0, 2190), (12, 486, 309, 2, 2194), (13, 201, 312, 4, 2198), (12, 489, 311, 3, 2202), (13, 205, 313, 1, 2205), (13, 209, 314, 1, 2209)]
def k_LR : List (Nat × Nat × Nat × Nat × Nat) := k_LR_0 ++ (k_LR_1 ++ (k_LR_2 ++ (k_LR_3 ++ (k_LR_4 ++ (k_LR_5 ++ (k_LR_6))))))
def k_lchk (q : Nat × Nat × Nat × Nat × Nat) : Bool := match q with
  | (o, i, n, na, p) => k_at p (.methodLink (CN o) i (MT n).1) && (decide ((parseMethodDescriptor (MT n).1.desc).map (fun d => d.parameters.length) = some na) && k_MR.any (fun r => Nat.beq r.1 n))
theorem k_LR_ok0 : k_LR_0.all k_lchk = true := by decide +kernel
theorem k_LR_ok1 : k_LR_1.all k_lchk = true := by decide +kernel
theorem k_LR_ok2 : k_LR_2.all k_lchk = true := by decide +kernel
theorem k_LR_ok3 : k_LR_3.all k_lchk = true := by decide +kernel
theorem k_LR_ok4 : k_LR_4.all k_lchk = true := by decide +kernel
theorem k_LR_ok5 : k_LR_5.all k_lchk = true := by decide +kernel
theorem k_LR_ok6 : k_LR_6.all k_lchk = true := by decide +kernel
theorem k_LR_ok : ∀ q ∈ k_LR, k_lchk q = true := by
  intro q h
  simp only [k_LR, List.mem_append] at h
  rcases h with h | h
  · exact List.all_eq_true.mp k_LR_ok0 q h
  rcases h with h | h
  · exact List.all_eq_true.mp k_LR_ok1 q h
  rcases h with h | h
  · exact List.all_eq_true.mp k_LR_ok2 q h
  rcases h with h | h
  · exact List.all_eq_true.mp k_LR_ok3 q h
  rcases h with h | h
  · exact List.all_eq_true.mp k_LR_ok4 q h
  rcases h with h | h
  · exact List.all_eq_true.mp k_LR_ok5 q h
  exact List.all_eq_true.mp k_LR_ok6 q h
def k_KR : List (Nat × Nat × Nat × Nat) := [(7, 125, 2147483647, 897), (14, 265, 1431655765, 1002), (14, 266, 858993459, 1003), (14, 267, 252645135, 1004), (11, 252, 2147483647, 1163), (12, 272, 1000000000, 1863), (14, 264, 65536, 1987)]
def k_kchk (q : Nat × Nat × Nat × Nat) : Bool := match q with
  | (o, i, v, p) => k_at p (.constant (CN o) i (Int32.ofInt (v : Int))) && Nat.ble v 2147483647
theorem k_KR_ok : ∀ q ∈ k_KR, k_kchk q = true := List.all_eq_true.mp (by decide +kernel)
def k_CR : List (Nat × Nat × Nat) := [(3, 61, 729)]
def k_cchk (q : Nat × Nat × Nat) : Bool := match q with
  | (o, i, p) => k_at p (.methodLink (CN o) i arraycopyName)
theorem k_CR_ok : ∀ q ∈ k_CR, k_cchk q = true := List.all_eq_true.mp (by decide +kernel)
theorem k_copy_ok : Cond.native arraycopyName ∈ TT ∧ Cond.static arraycopyName ∈ TT ∧ Cond.initialized "java/lang/System" ∈ TT := ⟨k_at_in (p := 731) (by decide +kernel), k_at_in (p := 730) (by decide +kernel), k_at_in (p := 156) (by decide +kernel)⟩
def k_NW : List Cond := [.fieldLinkNest "CopperBoard$Nets" 91 "CopperBoard" "OPPOSITE" "[I" "CopperBoard", .fieldLinkNest "CopperBoard$Router" 142 "CopperBoard" "OPPOSITE" "[I" "CopperBoard", .fieldLinkNest "CopperBoard$Trail" 60 "CopperBoard" "OPPOSITE" "[I" "CopperBoard"]
theorem k_NW_in : ∀ w ∈ k_NW, w ∈ lw_tbl := by
  intro w h
  simp only [k_NW, List.mem_cons, List.not_mem_nil, or_false] at h
  rcases h with rfl | rfl | rfl
  · exact List.mem_of_getElem? (i := 791) (by decide +kernel)
  · exact List.mem_of_getElem? (i := 911) (by decide +kernel)
  · exact List.mem_of_getElem? (i := 1143) (by decide +kernel)
def k_SR : List (Nat × Nat × Nat × Nat × Nat) := [(8, 31, 4, 0, 689), (8, 52, 1, 0, 703), (8, 59, 2, 0, 717), (8, 62, 3, 0, 719), (3, 91, 0, 1, 0), (7, 142, 0, 1, 1), (9, 60, 0, 1, 2)]
def k_SN : List (String × String × String) := [("CopperBoard", "OPPOSITE", "[I"), ("CopperBoard$Tape", "LETTERS", "[C"), ("CopperBoard$Tape", "LEAST", "[I"), ("CopperBoard$Tape", "MOST", "[I"), ("CopperBoard$Tape", "USUAL", "[I")]
def k_schk (q : Nat × Nat × Nat × Nat × Nat) : Bool := match q with
  | (o, i, j, ne, p) => match k_SN[j]? with
    | some z => match ne with
      | 0 => k_at p (.fieldLink (CN o) i z.1 z.2.1 z.2.2)
      | _ => decide (k_NW[p]? = some (.fieldLinkNest (CN o) i z.1 z.2.1 z.2.2 "CopperBoard"))
    | none => false
theorem k_SR_ok : ∀ q ∈ k_SR, k_schk q = true := List.all_eq_true.mp (by decide +kernel)
theorem k_cw0 : ((u_ws RX0 TX0 9).zip [588, 590, 592, 594, 596, 598, 600, 602, 604]).all (fun q => k_at q.2 q.1) = true := by decide +kernel
theorem k_cw1 : ((u_ws RX1 TX1 4).zip [496, 498, 500, 502]).all (fun q => k_at q.2 q.1) = true := by decide +kernel
theorem k_cw2 : ((u_ws RX2 TX2 9).zip [234, 236, 238, 240, 242, 244, 246, 248, 250]).all (fun q => k_at q.2 q.1) = true := by decide +kernel
theorem k_cw3 : ((u_ws RX3 TX3 15).zip [328, 330, 332, 334, 336, 338, 340, 342, 344, 346, 348, 350, 352, 354, 356]).all (fun q => k_at q.2 q.1) = true := by decide +kernel
theorem k_cw4 : ((u_ws RX4 TX4 5).zip [556, 558, 560, 562, 564]).all (fun q => k_at q.2 q.1) = true := by decide +kernel
theorem k_cw5 : ((u_ws RX5 TX5 6).zip [473, 475, 477, 479, 481, 483]).all (fun q => k_at q.2 q.1) = true := by decide +kernel
theorem k_cw6 : ((u_ws RX6 TX6 10).zip [387, 389, 391, 393, 395, 397, 399, 401, 403, 405]).all (fun q => k_at q.2 q.1) = true := by decide +kernel
theorem k_cw7 : ((u_ws RX7 TX7 15).zip [430, 432, 434, 436, 438, 440, 442, 444, 446, 448, 450, 452, 454, 456, 458]).all (fun q => k_at q.2 q.1) = true := by decide +kernel
theorem k_cw8 : ((u_ws RX8 TX8 6).zip [268, 270, 272, 274, 276, 278]).all (fun q => k_at q.2 q.1) = true := by decide +kernel
theorem k_cw9 : ((u_ws RX9 TX9 6).zip [619, 621, 623, 625, 627, 629]).all (fun q => k_at q.2 q.1) = true := by decide +kernel
theorem k_cw10 : ((u_ws RX10 TX10 11).zip [522, 524, 526, 528, 530, 532, 534, 536, 538, 540, 542]).all (fun q => k_at q.2 q.1) = true := by decide +kernel
theorem k_cw11 : ((u_ws RX11 TX11 11).zip [643, 645, 647, 649, 651, 653, 655, 657, 659, 661, 663]).all (fun q => k_at q.2 q.1) = true := by decide +kernel
theorem k_cw12 : ((u_ws RX12 TX12 54).zip [1568, 1570, 1572, 1574, 1576, 1578, 1580, 1582, 1584, 1586, 1588, 1590, 1592, 1594, 1596, 1598, 1600, 1602, 1604, 1606, 1608, 1610, 1612, 1614, 1616, 1618, 1620, 1622, 1624, 1626, 1628, 1630, 1632, 1634, 1636, 1638, 1640, 1642, 1644, 1646, 1648, 1650, 1652, 1654, 1656, 1658, 1660, 1662, 1664, 1666, 1668, 1670, 1672, 1674]).all (fun q => k_at q.2 q.1) = true := by decide +kernel
theorem k_cw_of {ws : List Cond} {ps : List Nat} (h : (ws.zip ps).all (fun q => k_at q.2 q.1) = true) (hl : ws.length = ps.length) : ∀ w ∈ ws, w ∈ TT := by
  intro w hw
  obtain ⟨i, hi⟩ := List.getElem?_of_mem hw
  have hlt : i < ps.length := by rw [← hl]; exact (List.getElem?_eq_some_iff.mp hi).1
  have hz : (ws.zip ps)[i]? = some (w, ps[i]) := by rw [List.getElem?_zip_eq_some]; exact ⟨hi, List.getElem?_eq_getElem hlt⟩
  exact k_at_in (List.all_eq_true.mp h _ (List.mem_of_getElem? hz))
theorem k_cls {ci : Nat} {q : vw_C} (h : cls[ci]? = some q) : ci ≤ 12 ∧ q.2.2 = k_nf ci ∧ q.2.1 = k_TX ci ∧ (∀ w ∈ u_ws q.1 q.2.1 q.2.2, w ∈ TT) ∧ (∀ k, k < q.2.2 → parseFieldDescriptor (q.2.1 k).2.2.1 = some (k_ty ci k)) ∧ (∀ a, a < q.2.2 → ∀ b, b < q.2.2 → a ≠ b → (q.2.1 a).2.1 ≠ (q.2.1 b).2.1) := by
  match ci, h with
  | 0, h => cases h; exact ⟨by decide, rfl, rfl, k_cw_of k_cw0 rfl, tyX0_ok, nmX0⟩
  | 1, h => cases h; exact ⟨by decide, rfl, rfl, k_cw_of k_cw1 rfl, tyX1_ok, nmX1⟩
  | 2, h => cases h; exact ⟨by decide, rfl, rfl, k_cw_of k_cw2 rfl, tyX2_ok, nmX2⟩
  | 3, h => cases h; exact ⟨by decide, rfl, rfl, k_cw_of k_cw3 rfl, tyX3_ok, nmX3⟩
  | 4, h => cases h; exact ⟨by decide, rfl, rfl, k_cw_of k_cw4 rfl, tyX4_ok, nmX4⟩
  | 5, h => cases h; exact ⟨by decide, rfl, rfl, k_cw_of k_cw5 rfl, tyX5_ok, nmX5⟩
  | 6, h => cases h; exact ⟨by decide, rfl, rfl, k_cw_of k_cw6 rfl, tyX6_ok, nmX6⟩
  | 7, h => cases h; exact ⟨by decide, rfl, rfl, k_cw_of k_cw7 rfl, tyX7_ok, nmX7⟩
  | 8, h => cases h; exact ⟨by decide, rfl, rfl, k_cw_of k_cw8 rfl, tyX8_ok, nmX8⟩
  | 9, h => cases h; exact ⟨by decide, rfl, rfl, k_cw_of k_cw9 rfl, tyX9_ok, nmX9⟩
  | 10, h => cases h; exact ⟨by decide, rfl, rfl, k_cw_of k_cw10 rfl, tyX10_ok, nmX10⟩
  | 11, h => cases h; exact ⟨by decide, rfl, rfl, k_cw_of k_cw11 rfl, tyX11_ok, nmX11⟩
  | 12, h => cases h; exact ⟨by decide, rfl, rfl, k_cw_of k_cw12 rfl, tyX12_ok, nmX12⟩
  | n + 13, h => simp [cls] at h
