set_option maxRecDepth 20000 in
theorem ggX1_wipe_J7_fill_53178 : GoodIn wsX1_wipe wsJ7_fill_53178 := goodIn_r _ [5] (by decide +kernel) (by decide +kernel)
set_option maxRecDepth 20000 in
theorem gX1_wipe_J7_fill_53178 : GoodIn wsX1_wipe (va_wsS RX1 16 yJ7_fill_53178 wsJ7_fill_53178) := goodIn_app (goodIn_of _ (by decide +kernel)) ggX1_wipe_J7_fill_53178
set_option maxRecDepth 20000 in
theorem ggX3_addPlace_X3_measure : GoodIn wsX3_addPlace wsX3_measure := goodIn_r _ [6, 1, 7, 8, 9, 10, 11, 12, 13, 14, 15, 5, 16, 17, 18, 19, 20, 21, 22, 23, 24, 25, 26, 27, 28, 29, 30, 31, 32, 33, 34, 35, 36, 37, 38, 39, 40, 41] (by decide +kernel) (by decide +kernel)
set_option maxRecDepth 20000 in
theorem gX3_addPlace_X3_measure : GoodIn wsX3_addPlace (wsV RX3 36 RX3 yX3_measure wsX3_measure) := goodIn_app (goodIn_of _ (by decide +kernel)) ggX3_addPlace_X3_measure
set_option maxRecDepth 20000 in
theorem ggX3_addRoad_X3_measure : GoodIn wsX3_addRoad wsX3_measure := goodIn_r _ [9, 10, 11, 12, 13, 14, 15, 16, 17, 18, 19, 8, 20, 21, 1, 2, 3, 4, 22, 23, 24, 25, 26, 27, 28, 29, 30, 31, 32, 33, 34, 35, 36, 37, 38, 39, 40, 41] (by decide +kernel) (by decide +kernel)
set_option maxRecDepth 20000 in
theorem gX3_addRoad_X3_measure : GoodIn wsX3_addRoad (wsV RX3 36 RX3 yX3_measure wsX3_measure) := goodIn_app (goodIn_of _ (by decide +kernel)) ggX3_addRoad_X3_measure
set_option maxRecDepth 20000 in
theorem ggX3_dropRoad_X3_measure : GoodIn wsX3_dropRoad wsX3_measure := goodIn_r _ [6, 7, 8, 9, 10, 11, 12, 13, 14, 15, 16, 5, 17, 18, 1, 19, 20, 21, 22, 23, 24, 25, 26, 27, 28, 29, 30, 31, 32, 33, 34, 35, 36, 37, 38, 39, 40, 41] (by decide +kernel) (by decide +kernel)
set_option maxRecDepth 20000 in
theorem gX3_dropRoad_X3_measure : GoodIn wsX3_dropRoad (wsV RX3 36 RX3 yX3_measure wsX3_measure) := goodIn_app (goodIn_of _ (by decide +kernel)) ggX3_dropRoad_X3_measure
set_option maxRecDepth 20000 in
theorem ggX3_measure_X3_measureRoads : GoodIn wsX3_measure wsX3_measureRoads := goodIn_r _ [12, 1, 2, 13, 14, 15, 16, 17, 18, 19, 20, 21, 22, 23, 24, 25, 30, 31, 32, 33, 34, 35, 36, 37] (by decide +kernel) (by decide +kernel)
set_option maxRecDepth 20000 in
theorem gX3_measure_X3_measureRoads : GoodIn wsX3_measure (wsV RX3 43 RX3 yX3_measureRoads wsX3_measureRoads) := goodIn_app (goodIn_of _ (by decide +kernel)) ggX3_measure_X3_measureRoads
set_option maxRecDepth 20000 in
theorem ggX3_measure_X3_shortenBy : GoodIn wsX3_measure wsX3_shortenBy := goodIn_r _ [29, 3, 13, 1, 30, 31, 32, 33, 34, 35, 36, 37] (by decide +kernel) (by decide +kernel)
set_option maxRecDepth 20000 in
theorem gX3_measure_X3_shortenBy : GoodIn wsX3_measure (wsV RX3 52 RX3 yX3_shortenBy wsX3_shortenBy) := goodIn_app (goodIn_of _ (by decide +kernel)) ggX3_measure_X3_shortenBy
set_option maxRecDepth 20000 in
theorem ggX3_measureRoads_J7_fill_53178 : GoodIn wsX3_measureRoads wsJ7_fill_53178 := goodIn_r _ [15] (by decide +kernel) (by decide +kernel)
set_option maxRecDepth 20000 in
theorem gX3_measureRoads_J7_fill_53178 : GoodIn wsX3_measureRoads (va_wsS RX3 56 yJ7_fill_53178 wsJ7_fill_53178) := goodIn_app (goodIn_of _ (by decide +kernel)) ggX3_measureRoads_J7_fill_53178
set_option maxRecDepth 20000 in
theorem ggX4_init_X5_init : GoodIn wsX4_init wsX5_init := goodIn_r _ [9, 10, 2, 3, 11, 12, 13, 14, 15, 16, 17, 18, 19, 20, 21, 22, 23, 24, 25, 26] (by decide +kernel) (by decide +kernel)
set_option maxRecDepth 20000 in
theorem gX4_init_X5_init_n11 : GoodIn wsX4_init (wsX5_init) := ggX4_init_X5_init
set_option maxRecDepth 20000 in
theorem ggX4_cheapest_X5_empty : GoodIn wsX4_cheapest wsX5_empty := goodIn_r _ [10, 11, 12, 13, 79, 80, 81, 82, 83, 84, 85, 86, 87] (by decide +kernel) (by decide +kernel)
set_option maxRecDepth 20000 in
theorem gX4_cheapest_X5_empty : GoodIn wsX4_cheapest (wsV RX4 18 RX5 yX5_empty wsX5_empty) := goodIn_app (goodIn_of _ (by decide +kernel)) ggX4_cheapest_X5_empty
set_option maxRecDepth 20000 in
theorem ggX4_cheapest_X4_joinSource : GoodIn wsX4_cheapest wsX4_joinSource := goodIn_r _ [18, 1, 19, 20, 21, 9, 22, 11, 23, 24, 25, 26, 27, 28, 29, 30, 70, 79, 80, 81, 82, 83, 84, 85, 86, 87] (by decide +kernel) (by decide +kernel)
set_option maxRecDepth 20000 in
theorem gX4_cheapest_X4_joinSource : GoodIn wsX4_cheapest (wsV RX4 27 RX4 yX4_joinSource wsX4_joinSource) := goodIn_app (goodIn_of _ (by decide +kernel)) ggX4_cheapest_X4_joinSource
set_option maxRecDepth 20000 in
theorem ggX4_cheapest_X5_join : GoodIn wsX4_cheapest wsX5_join := goodIn_r _ [22, 11, 23, 24, 25, 9, 26, 27, 28, 29, 30, 79, 80, 81, 82, 83, 84, 85, 86, 87] (by decide +kernel) (by decide +kernel)
set_option maxRecDepth 20000 in
theorem gX4_cheapest_X5_join : GoodIn wsX4_cheapest (wsV RX4 36 RX5 yX5_join wsX5_join) := goodIn_app (goodIn_of _ (by decide +kernel)) ggX4_cheapest_X5_join
set_option maxRecDepth 20000 in
theorem ggX4_cheapest_X4_joinSink : GoodIn wsX4_cheapest wsX4_joinSink := goodIn_r _ [34, 1, 19, 20, 21, 9, 22, 11, 23, 24, 25, 26, 27, 28, 29, 30, 70, 79, 80, 81, 82, 83, 84, 85, 86, 87] (by decide +kernel) (by decide +kernel)
set_option maxRecDepth 20000 in
theorem gX4_cheapest_X4_joinSink : GoodIn wsX4_cheapest (wsV RX4 40 RX4 yX4_joinSink wsX4_joinSink) := goodIn_app (goodIn_of _ (by decide +kernel)) ggX4_cheapest_X4_joinSink
set_option maxRecDepth 20000 in
theorem ggX4_cheapest_X4_staying : GoodIn wsX4_cheapest wsX4_staying := goodIn_r _ [37, 38, 39, 40, 41] (by decide +kernel) (by decide +kernel)
set_option maxRecDepth 20000 in
theorem gX4_cheapest_X4_staying : GoodIn wsX4_cheapest (va_wsS RX4 44 yX4_staying wsX4_staying) := goodIn_app (goodIn_of _ (by decide +kernel)) ggX4_cheapest_X4_staying
set_option maxRecDepth 20000 in
theorem ggX4_cheapest_X5_push : GoodIn wsX4_cheapest wsX5_push := goodIn_r _ [45, 12, 46, 47, 48, 9, 49, 50, 51, 52, 53, 54, 55, 56, 57, 58, 59, 60, 11, 27, 29, 30, 28, 61, 62, 63, 64, 65, 66, 67, 68, 69, 39, 40, 41, 13, 79, 80, 81, 82, 83, 84, 85, 86, 87] (by decide +kernel) (by decide +kernel)
set_option maxRecDepth 20000 in
theorem gX4_cheapest_X5_push : GoodIn wsX4_cheapest (wsV RX4 47 RX5 yX5_push wsX5_push) := goodIn_app (goodIn_of _ (by decide +kernel)) ggX4_cheapest_X5_push
set_option maxRecDepth 20000 in
theorem ggX4_cheapestThroughGates_X5_empty : GoodIn wsX4_cheapestThroughGates wsX5_empty := goodIn_r _ [12, 13, 14, 15, 77, 78, 79, 80, 81, 82, 83, 84, 85] (by decide +kernel) (by decide +kernel)
set_option maxRecDepth 20000 in
theorem gX4_cheapestThroughGates_X5_empty : GoodIn wsX4_cheapestThroughGates (wsV RX4 18 RX5 yX5_empty wsX5_empty) := goodIn_app (goodIn_of _ (by decide +kernel)) ggX4_cheapestThroughGates_X5_empty
set_option maxRecDepth 20000 in
theorem ggX4_cheapestThroughGates_X4_joinSource : GoodIn wsX4_cheapestThroughGates wsX4_joinSource := goodIn_r _ [20, 1, 21, 22, 23, 11, 24, 13, 25, 26, 27, 28, 29, 30, 31, 32, 68, 77, 78, 79, 80, 81, 82, 83, 84, 85] (by decide +kernel) (by decide +kernel)
set_option maxRecDepth 20000 in
theorem gX4_cheapestThroughGates_X4_joinSource : GoodIn wsX4_cheapestThroughGates (wsV RX4 27 RX4 yX4_joinSource wsX4_joinSource) := goodIn_app (goodIn_of _ (by decide +kernel)) ggX4_cheapestThroughGates_X4_joinSource
set_option maxRecDepth 20000 in
theorem ggX4_cheapestThroughGates_X5_join : GoodIn wsX4_cheapestThroughGates wsX5_join := goodIn_r _ [24, 13, 25, 26, 27, 11, 28, 29, 30, 31, 32, 77, 78, 79, 80, 81, 82, 83, 84, 85] (by decide +kernel) (by decide +kernel)
set_option maxRecDepth 20000 in
theorem gX4_cheapestThroughGates_X5_join : GoodIn wsX4_cheapestThroughGates (wsV RX4 36 RX5 yX5_join wsX5_join) := goodIn_app (goodIn_of _ (by decide +kernel)) ggX4_cheapestThroughGates_X5_join
set_option maxRecDepth 20000 in
theorem ggX4_cheapestThroughGates_X4_joinSink : GoodIn wsX4_cheapestThroughGates wsX4_joinSink := goodIn_r _ [36, 1, 21, 22, 23, 11, 24, 13, 25, 26, 27, 28, 29, 30, 31, 32, 68, 77, 78, 79, 80, 81, 82, 83, 84, 85] (by decide +kernel) (by decide +kernel)
set_option maxRecDepth 20000 in
theorem gX4_cheapestThroughGates_X4_joinSink : GoodIn wsX4_cheapestThroughGates (wsV RX4 40 RX4 yX4_joinSink wsX4_joinSink) := goodIn_app (goodIn_of _ (by decide +kernel)) ggX4_cheapestThroughGates_X4_joinSink
set_option maxRecDepth 20000 in
theorem ggX4_cheapestThroughGates_X5_push : GoodIn wsX4_cheapestThroughGates wsX5_push := goodIn_r _ [40, 14, 41, 42, 43, 11, 44, 45, 46, 47, 48, 49, 50, 51, 52, 53, 54, 55, 13, 29, 31, 32, 30, 56, 57, 58, 59, 60, 61, 62, 63, 64, 65, 66, 67, 15, 77, 78, 79, 80, 81, 82, 83, 84, 85] (by decide +kernel) (by decide +kernel)
set_option maxRecDepth 20000 in
theorem gX4_cheapestThroughGates_X5_push : GoodIn wsX4_cheapestThroughGates (wsV RX4 47 RX5 yX5_push wsX5_push) := goodIn_app (goodIn_of _ (by decide +kernel)) ggX4_cheapestThroughGates_X5_push
set_option maxRecDepth 20000 in
theorem ggX4_joinSource_X5_join : GoodIn wsX4_joinSource wsX5_join := goodIn_r _ [6, 7, 8, 9, 10, 5, 11, 12, 13, 14, 15, 17, 18, 19, 20, 21, 22, 23, 24, 25] (by decide +kernel) (by decide +kernel)
set_option maxRecDepth 20000 in
theorem gX4_joinSource_X5_join : GoodIn wsX4_joinSource (wsV RX4 36 RX5 yX5_join wsX5_join) := goodIn_app (goodIn_of _ (by decide +kernel)) ggX4_joinSource_X5_join
set_option maxRecDepth 20000 in
theorem ggX4_joinSink_X5_join : GoodIn wsX4_joinSink wsX5_join := goodIn_r _ [6, 7, 8, 9, 10, 5, 11, 12, 13, 14, 15, 17, 18, 19, 20, 21, 22, 23, 24, 25] (by decide +kernel) (by decide +kernel)
set_option maxRecDepth 20000 in
theorem gX4_joinSink_X5_join : GoodIn wsX4_joinSink (wsV RX4 36 RX5 yX5_join wsX5_join) := goodIn_app (goodIn_of _ (by decide +kernel)) ggX4_joinSink_X5_join
set_option maxRecDepth 20000 in
theorem ggX5_join_X5_addArc : GoodIn wsX5_join wsX5_addArc := goodIn_r _ [6, 7, 1, 8, 9, 10, 11, 12, 13, 14, 15, 16, 17, 18, 19] (by decide +kernel) (by decide +kernel)
set_option maxRecDepth 20000 in
theorem gX5_join_X5_addArc : GoodIn wsX5_join (wsV RX5 40 RX5 yX5_addArc wsX5_addArc) := goodIn_app (goodIn_of _ (by decide +kernel)) ggX5_join_X5_addArc
set_option maxRecDepth 20000 in
theorem ggX5_push_X5_search : GoodIn wsX5_push wsX5_search := goodIn_r _ [6, 7, 8, 9, 10, 11, 12, 13, 14, 15, 16, 5, 17, 18, 19, 20, 21, 22, 23, 24, 25, 26, 36, 37, 38, 39, 40, 41, 42, 43, 44] (by decide +kernel) (by decide +kernel)
set_option maxRecDepth 20000 in
theorem gX5_push_X5_search : GoodIn wsX5_push (wsV RX5 44 RX5 yX5_search wsX5_search) := goodIn_app (goodIn_of _ (by decide +kernel)) ggX5_push_X5_search
set_option maxRecDepth 20000 in
theorem ggX5_push_X5_carry : GoodIn wsX5_push wsX5_carry := goodIn_r _ [30, 9, 20, 31, 32, 33, 34, 19, 1, 35, 7, 36, 37, 38, 39, 40, 41, 42, 43, 44] (by decide +kernel) (by decide +kernel)
set_option maxRecDepth 20000 in
theorem gX5_push_X5_carry : GoodIn wsX5_push (wsV RX5 48 RX5 yX5_carry wsX5_carry) := goodIn_app (goodIn_of _ (by decide +kernel)) ggX5_push_X5_carry
set_option maxRecDepth 20000 in
theorem ggX5_search_J7_fill_53178 : GoodIn wsX5_search wsJ7_fill_53178 := goodIn_r _ [7] (by decide +kernel) (by decide +kernel)
set_option maxRecDepth 20000 in
theorem gX5_search_J7_fill_53178 : GoodIn wsX5_search (va_wsS RX5 53 yJ7_fill_53178 wsJ7_fill_53178) := goodIn_app (goodIn_of _ (by decide +kernel)) ggX5_search_J7_fill_53178
set_option maxRecDepth 20000 in
theorem ggX5_search_X5_relax : GoodIn wsX5_search wsX5_relax := goodIn_r _ [12, 13, 1, 14, 15, 2, 16, 17, 3, 22, 23, 24, 25, 26, 27, 28, 29, 30] (by decide +kernel) (by decide +kernel)
set_option maxRecDepth 20000 in
theorem gX5_search_X5_relax : GoodIn wsX5_search (wsV RX5 59 RX5 yX5_relax wsX5_relax) := goodIn_app (goodIn_of _ (by decide +kernel)) ggX5_search_X5_relax
set_option maxRecDepth 20000 in
theorem ggX5_search_X5_isReached : GoodIn wsX5_search wsX5_isReached := goodIn_r _ [21, 1, 2, 22, 23, 24, 25, 26, 27, 28, 29, 30] (by decide +kernel) (by decide +kernel)
set_option maxRecDepth 20000 in
theorem gX5_search_X5_isReached : GoodIn wsX5_search (wsV RX5 62 RX5 yX5_isReached wsX5_isReached) := goodIn_app (goodIn_of _ (by decide +kernel)) ggX5_search_X5_isReached
set_option maxRecDepth 20000 in
theorem ggX6_make_X4_cheapest : GoodIn wsX6_make wsX4_cheapest := goodIn_r _ [7, 8, 9, 10, 11, 12, 13, 14, 15, 16, 17, 18, 19, 20, 21, 22, 23, 6, 24, 25, 26, 27, 28, 29, 30, 31, 32, 33, 34, 35, 36, 37, 38, 39, 40, 41, 42, 43, 44, 45, 46, 47, 48, 49, 50, 51, 52, 53, 54, 55, 56, 57, 58, 59, 60, 61, 62, 63, 64, 65, 66, 67, 68, 69, 70, 71, 72, 73, 74, 75, 136, 128, 129, 130, 131, 132, 133, 134, 135, 137, 138, 139, 140, 141, 142, 143, 144, 145] (by decide +kernel) (by decide +kernel)
set_option maxRecDepth 20000 in
theorem gX6_make_X4_cheapest : GoodIn wsX6_make (wsV RX6 29 RX4 yX4_cheapest wsX4_cheapest) := goodIn_app (goodIn_of _ (by decide +kernel)) ggX6_make_X4_cheapest
set_option maxRecDepth 20000 in
theorem ggX6_make_X6_takeGoods : GoodIn wsX6_make wsX6_takeGoods := goodIn_r _ [80, 81, 82, 45, 46, 47, 83, 84, 85, 86, 87, 60, 61, 62, 146, 147, 148, 149, 150, 137, 138, 139, 140, 141, 142, 143, 144, 145] (by decide +kernel) (by decide +kernel)
set_option maxRecDepth 20000 in
theorem gX6_make_X6_takeGoods : GoodIn wsX6_make (wsV RX6 45 RX6 yX6_takeGoods wsX6_takeGoods) := goodIn_app (goodIn_of _ (by decide +kernel)) ggX6_make_X6_takeGoods
set_option maxRecDepth 20000 in
theorem ggX6_make_X6_raiseHeights : GoodIn wsX6_make wsX6_raiseHeights := goodIn_r _ [91, 1, 92, 93, 94, 95, 96, 79, 97, 81, 128, 129, 130, 131, 132, 133, 134, 135, 146, 147, 148, 149, 150] (by decide +kernel) (by decide +kernel)
set_option maxRecDepth 20000 in
theorem gX6_make_X6_raiseHeights : GoodIn wsX6_make (wsV RX6 49 RX6 yX6_raiseHeights wsX6_raiseHeights) := goodIn_app (goodIn_of _ (by decide +kernel)) ggX6_make_X6_raiseHeights
set_option maxRecDepth 20000 in
theorem ggX6_make_X6_putFirst : GoodIn wsX6_make wsX6_putFirst := goodIn_r _ [101, 1, 102, 103, 104, 79, 105, 92, 93, 106, 107, 108, 109, 110, 111, 112, 113, 114, 115, 81, 87, 60, 61, 62, 116, 117, 118, 119, 120, 121, 122, 123, 124, 125, 126, 127, 82, 45, 46, 47, 128, 129, 130, 131, 132, 133, 134, 135, 146, 147, 148, 149, 150] (by decide +kernel) (by decide +kernel)
set_option maxRecDepth 20000 in
theorem gX6_make_X6_putFirst : GoodIn wsX6_make (wsV RX6 53 RX6 yX6_putFirst wsX6_putFirst) := goodIn_app (goodIn_of _ (by decide +kernel)) ggX6_make_X6_putFirst
set_option maxRecDepth 20000 in
theorem ggX6_takeGoods_J7_fill_53178 : GoodIn wsX6_takeGoods wsJ7_fill_53178 := goodIn_r _ [13] (by decide +kernel) (by decide +kernel)
set_option maxRecDepth 20000 in
theorem gX6_takeGoods_J7_fill_53178 : GoodIn wsX6_takeGoods (va_wsS RX6 59 yJ7_fill_53178 wsJ7_fill_53178) := goodIn_app (goodIn_of _ (by decide +kernel)) ggX6_takeGoods_J7_fill_53178
set_option maxRecDepth 20000 in
theorem ggX6_raiseHeights_X6_lowerHeights : GoodIn wsX6_raiseHeights wsX6_lowerHeights := goodIn_r _ [8, 1, 3, 2, 9, 10, 11, 12, 13, 14, 15, 16, 17, 18, 19, 20, 21, 22] (by decide +kernel) (by decide +kernel)
set_option maxRecDepth 20000 in
theorem gX6_raiseHeights_X6_lowerHeights : GoodIn wsX6_raiseHeights (wsV RX6 85 RX6 yX6_lowerHeights wsX6_lowerHeights) := goodIn_app (goodIn_of _ (by decide +kernel)) ggX6_raiseHeights_X6_lowerHeights
set_option maxRecDepth 20000 in
theorem ggX6_putFirst_X6_isTight : GoodIn wsX6_putFirst wsX6_isTight := goodIn_r _ [6, 7, 8, 48, 49, 50, 51, 52, 40, 41, 42, 43, 44, 45, 46, 47] (by decide +kernel) (by decide +kernel)
set_option maxRecDepth 20000 in
theorem gX6_putFirst_X6_isTight : GoodIn wsX6_putFirst (wsV RX6 89 RX6 yX6_isTight wsX6_isTight) := goodIn_app (goodIn_of _ (by decide +kernel)) ggX6_putFirst_X6_isTight
set_option maxRecDepth 20000 in
theorem ggX6_putFirst_X6_cell : GoodIn wsX6_putFirst wsX6_cell := goodIn_r _ [11] (by decide +kernel) (by decide +kernel)
set_option maxRecDepth 20000 in
theorem gX6_putFirst_X6_cell : GoodIn wsX6_putFirst (va_wsS RX6 93 yX6_cell wsX6_cell) := goodIn_app (goodIn_of _ (by decide +kernel)) ggX6_putFirst_X6_cell
set_option maxRecDepth 20000 in
theorem ggX6_putFirst_X6_findRing : GoodIn wsX6_putFirst wsX6_findRing := goodIn_r _ [15, 16, 17, 18, 1, 19, 20, 21, 22, 23, 9, 10, 5, 11, 24, 25, 26, 27, 2, 3, 4, 6, 7, 8, 48, 49, 50, 51, 52, 40, 41, 42, 43, 44, 45, 46, 47] (by decide +kernel) (by decide +kernel)
set_option maxRecDepth 20000 in
theorem gX6_putFirst_X6_findRing : GoodIn wsX6_putFirst (wsV RX6 96 RX6 yX6_findRing wsX6_findRing) := goodIn_app (goodIn_of _ (by decide +kernel)) ggX6_putFirst_X6_findRing
set_option maxRecDepth 20000 in
theorem ggX6_putFirst_X6_turnRing : GoodIn wsX6_putFirst wsX6_turnRing := goodIn_r _ [31, 16, 19, 17, 32, 33, 34, 5, 35, 36, 37, 38, 39, 48, 49, 50, 51, 52] (by decide +kernel) (by decide +kernel)
set_option maxRecDepth 20000 in
theorem gX6_putFirst_X6_turnRing : GoodIn wsX6_putFirst (wsV RX6 100 RX6 yX6_turnRing wsX6_turnRing) := goodIn_app (goodIn_of _ (by decide +kernel)) ggX6_putFirst_X6_turnRing
set_option maxRecDepth 20000 in
theorem ggX6_hasOther_X6_isTight : GoodIn wsX6_hasOther wsX6_isTight := goodIn_r _ [6, 7, 8, 36, 37, 38, 39, 40, 28, 29, 30, 31, 32, 33, 34, 35] (by decide +kernel) (by decide +kernel)
set_option maxRecDepth 20000 in
theorem gX6_hasOther_X6_isTight : GoodIn wsX6_hasOther (wsV RX6 89 RX6 yX6_isTight wsX6_isTight) := goodIn_app (goodIn_of _ (by decide +kernel)) ggX6_hasOther_X6_isTight
set_option maxRecDepth 20000 in
theorem ggX6_hasOther_X6_findRing : GoodIn wsX6_hasOther wsX6_findRing := goodIn_r _ [12, 13, 14, 15, 1, 16, 17, 18, 19, 20, 21, 22, 5, 23, 24, 25, 26, 27, 2, 3, 4, 6, 7, 8, 36, 37, 38, 39, 40, 28, 29, 30, 31, 32, 33, 34, 35] (by decide +kernel) (by decide +kernel)
set_option maxRecDepth 20000 in
theorem gX6_hasOther_X6_findRing : GoodIn wsX6_hasOther (wsV RX6 96 RX6 yX6_findRing wsX6_findRing) := goodIn_app (goodIn_of _ (by decide +kernel)) ggX6_hasOther_X6_findRing
set_option maxRecDepth 20000 in
theorem ggX6_findRing_J7_fill_53178 : GoodIn wsX6_findRing wsJ7_fill_53178 := goodIn_r _ [9] (by decide +kernel) (by decide +kernel)
set_option maxRecDepth 20000 in
theorem gX6_findRing_J7_fill_53178 : GoodIn wsX6_findRing (va_wsS RX6 59 yJ7_fill_53178 wsJ7_fill_53178) := goodIn_app (goodIn_of _ (by decide +kernel)) ggX6_findRing_J7_fill_53178
set_option maxRecDepth 20000 in
theorem ggX6_findRing_X6_cell : GoodIn wsX6_findRing wsX6_cell := goodIn_r _ [13] (by decide +kernel) (by decide +kernel)
set_option maxRecDepth 20000 in
theorem gX6_findRing_X6_cell : GoodIn wsX6_findRing (va_wsS RX6 93 yX6_cell wsX6_cell) := goodIn_app (goodIn_of _ (by decide +kernel)) ggX6_findRing_X6_cell
set_option maxRecDepth 20000 in
theorem ggX6_findRing_X6_reachColumns : GoodIn wsX6_findRing wsX6_reachColumns := goodIn_r _ [17, 4, 2, 3, 10, 11, 12, 13, 18, 19, 20, 21, 22, 23, 29, 30, 31, 32, 33, 34, 35, 36, 24, 25, 26, 27, 28] (by decide +kernel) (by decide +kernel)
set_option maxRecDepth 20000 in
theorem gX6_findRing_X6_reachColumns : GoodIn wsX6_findRing (wsV RX6 104 RX6 yX6_reachColumns wsX6_reachColumns) := goodIn_app (goodIn_of _ (by decide +kernel)) ggX6_findRing_X6_reachColumns
set_option maxRecDepth 20000 in
theorem ggX6_reachColumns_X6_cell : GoodIn wsX6_reachColumns wsX6_cell := goodIn_r _ [7] (by decide +kernel) (by decide +kernel)
set_option maxRecDepth 20000 in
theorem gX6_reachColumns_X6_cell : GoodIn wsX6_reachColumns (va_wsS RX6 93 yX6_cell wsX6_cell) := goodIn_app (goodIn_of _ (by decide +kernel)) ggX6_reachColumns_X6_cell
set_option maxRecDepth 20000 in
theorem ggX6_reachColumns_X6_isTight : GoodIn wsX6_reachColumns wsX6_isTight := goodIn_r _ [11, 12, 13, 22, 23, 24, 25, 26, 14, 15, 16, 17, 18, 19, 20, 21] (by decide +kernel) (by decide +kernel)
set_option maxRecDepth 20000 in
theorem gX6_reachColumns_X6_isTight : GoodIn wsX6_reachColumns (wsV RX6 89 RX6 yX6_isTight wsX6_isTight) := goodIn_app (goodIn_of _ (by decide +kernel)) ggX6_reachColumns_X6_isTight
set_option maxRecDepth 20000 in
theorem ggX6_turnRing_X6_ringAmount : GoodIn wsX6_turnRing wsX6_ringAmount := goodIn_r _ [8, 1, 2, 9, 10, 11, 12, 3, 13, 14, 15, 16, 17] (by decide +kernel) (by decide +kernel)
set_option maxRecDepth 20000 in
theorem gX6_turnRing_X6_ringAmount : GoodIn wsX6_turnRing (wsV RX6 108 RX6 yX6_ringAmount wsX6_ringAmount) := goodIn_app (goodIn_of _ (by decide +kernel)) ggX6_turnRing_X6_ringAmount
set_option maxRecDepth 20000 in
theorem ggX6_carried_X3_placeBehind : GoodIn wsX6_carried wsX3_placeBehind := goodIn_r _ [7, 8, 9, 10, 11, 16, 17, 18, 19, 20, 21, 22, 23] (by decide +kernel) (by decide +kernel)
set_option maxRecDepth 20000 in
theorem gX6_carried_X3_placeBehind : GoodIn wsX6_carried (wsV RX6 111 RX3 yX3_placeBehind wsX3_placeBehind) := goodIn_app (goodIn_of _ (by decide +kernel)) ggX6_carried_X3_placeBehind
set_option maxRecDepth 20000 in
theorem ggX6_carried_X6_passes : GoodIn wsX6_carried wsX6_passes := goodIn_r _ [15, 3, 4, 5, 6, 7, 8, 9, 10, 11, 16, 17, 18, 19, 20, 21, 22, 23] (by decide +kernel) (by decide +kernel)
set_option maxRecDepth 20000 in
theorem gX6_carried_X6_passes : GoodIn wsX6_carried (va_wsS RX6 114 yX6_passes wsX6_passes) := goodIn_app (goodIn_of _ (by decide +kernel)) ggX6_carried_X6_passes
set_option maxRecDepth 20000 in
theorem ggX6_passes_X3_placeBehind : GoodIn wsX6_passes wsX3_placeBehind := goodIn_r _ [5, 6, 7, 8, 9, 10, 11, 12, 13, 14, 15, 16, 17] (by decide +kernel) (by decide +kernel)
set_option maxRecDepth 20000 in
theorem gX6_passes_X3_placeBehind : GoodIn wsX6_passes (wsV RX6 111 RX3 yX3_placeBehind wsX3_placeBehind) := goodIn_app (goodIn_of _ (by decide +kernel)) ggX6_passes_X3_placeBehind
set_option maxRecDepth 20000 in
theorem ggX7_init_X5_init : GoodIn wsX7_init wsX5_init := goodIn_r _ [11, 12, 2, 3, 4, 13, 14, 15, 16, 17, 18, 22, 23, 24, 25, 26, 27, 28, 29, 30] (by decide +kernel) (by decide +kernel)
set_option maxRecDepth 20000 in
theorem gX7_init_X5_init_n17 : GoodIn wsX7_init (wsX5_init) := ggX7_init_X5_init
set_option maxRecDepth 20000 in
theorem ggX7_make_X7_joinEnds : GoodIn wsX7_make wsX7_joinEnds := goodIn_r _ [10, 4, 11, 12, 13, 14, 15, 16, 17, 18, 19, 20, 21, 22, 23, 24, 25, 26, 27, 28, 29, 30, 86, 87, 88, 89, 90, 91, 92, 93, 94, 95, 96, 97] (by decide +kernel) (by decide +kernel)
set_option maxRecDepth 20000 in
theorem gX7_make_X7_joinEnds : GoodIn wsX7_make (wsV RX7 28 RX7 yX7_joinEnds wsX7_joinEnds) := goodIn_app (goodIn_of _ (by decide +kernel)) ggX7_make_X7_joinEnds
set_option maxRecDepth 20000 in
theorem ggX7_make_J7_fill_53178 : GoodIn wsX7_make wsJ7_fill_53178 := goodIn_r _ [34] (by decide +kernel) (by decide +kernel)
set_option maxRecDepth 20000 in
theorem gX7_make_J7_fill_53178 : GoodIn wsX7_make (va_wsS RX7 32 yJ7_fill_53178 wsJ7_fill_53178) := goodIn_app (goodIn_of _ (by decide +kernel)) ggX7_make_J7_fill_53178
set_option maxRecDepth 20000 in
theorem ggX7_make_X7_joinDistance : GoodIn wsX7_make wsX7_joinDistance := goodIn_r _ [38, 1, 39, 3, 4, 40, 19, 20, 21, 14, 22, 16, 23, 24, 25, 26, 27, 28, 29, 30, 78, 79, 80, 81, 82, 83, 84, 85, 86, 87, 88, 89, 90, 91, 92, 93, 94, 95, 96, 97] (by decide +kernel) (by decide +kernel)
set_option maxRecDepth 20000 in
theorem gX7_make_X7_joinDistance : GoodIn wsX7_make (wsV RX7 41 RX7 yX7_joinDistance wsX7_joinDistance) := goodIn_app (goodIn_of _ (by decide +kernel)) ggX7_make_X7_joinDistance
set_option maxRecDepth 20000 in
theorem ggX7_make_X5_push : GoodIn wsX7_make wsX5_push := goodIn_r _ [44, 17, 45, 46, 47, 14, 48, 49, 50, 51, 52, 32, 33, 34, 53, 54, 55, 56, 16, 27, 29, 30, 28, 57, 58, 59, 60, 61, 62, 63, 64, 65, 66, 67, 68, 18, 89, 90, 91, 92, 93, 94, 95, 96, 97] (by decide +kernel) (by decide +kernel)
set_option maxRecDepth 20000 in
theorem gX7_make_X5_push : GoodIn wsX7_make (wsV RX7 45 RX5 yX5_push wsX5_push) := goodIn_app (goodIn_of _ (by decide +kernel)) ggX7_make_X5_push
set_option maxRecDepth 20000 in
theorem ggX7_make_X7_noteStuck : GoodIn wsX7_make wsX7_noteStuck := goodIn_r _ [72, 2, 4, 73, 58, 59, 14, 60, 49, 50, 86, 87, 88, 89, 90, 91, 92, 93, 94, 95, 96, 97] (by decide +kernel) (by decide +kernel)
set_option maxRecDepth 20000 in
theorem gX7_make_X7_noteStuck : GoodIn wsX7_make (wsV RX7 52 RX7 yX7_noteStuck wsX7_noteStuck) := goodIn_app (goodIn_of _ (by decide +kernel)) ggX7_make_X7_noteStuck
set_option maxRecDepth 20000 in
theorem ggX7_make_X7_distanceAbove : GoodIn wsX7_make wsX7_distanceAbove := goodIn_r _ [76, 40, 1, 39, 77, 66, 67, 68, 78, 79, 80, 81, 82, 83, 84, 85] (by decide +kernel) (by decide +kernel)
set_option maxRecDepth 20000 in
theorem gX7_make_X7_distanceAbove : GoodIn wsX7_make (va_wsS RX7 55 yX7_distanceAbove wsX7_distanceAbove) := goodIn_app (goodIn_of _ (by decide +kernel)) ggX7_make_X7_distanceAbove
set_option maxRecDepth 20000 in
theorem ggX7_joinEnds_X5_empty : GoodIn wsX7_joinEnds wsX5_empty := goodIn_r _ [6, 7, 8, 9, 25, 26, 27, 28, 29, 30, 31, 32, 33] (by decide +kernel) (by decide +kernel)
set_option maxRecDepth 20000 in
theorem gX7_joinEnds_X5_empty : GoodIn wsX7_joinEnds (wsV RX7 59 RX5 yX5_empty wsX5_empty) := goodIn_app (goodIn_of _ (by decide +kernel)) ggX7_joinEnds_X5_empty
set_option maxRecDepth 20000 in
theorem ggX7_joinEnds_X5_join : GoodIn wsX7_joinEnds wsX5_join := goodIn_r _ [13, 7, 14, 15, 16, 5, 17, 18, 19, 20, 21, 25, 26, 27, 28, 29, 30, 31, 32, 33] (by decide +kernel) (by decide +kernel)
set_option maxRecDepth 20000 in
theorem gX7_joinEnds_X5_join : GoodIn wsX7_joinEnds (wsV RX7 62 RX5 yX5_join wsX5_join) := goodIn_app (goodIn_of _ (by decide +kernel)) ggX7_joinEnds_X5_join
set_option maxRecDepth 20000 in
theorem ggX7_joinDistance_X5_join : GoodIn wsX7_joinDistance wsX5_join := goodIn_r _ [10, 11, 12, 13, 14, 9, 15, 16, 17, 18, 19, 31, 32, 33, 34, 35, 36, 37, 38, 39] (by decide +kernel) (by decide +kernel)
set_option maxRecDepth 20000 in
theorem gX7_joinDistance_X5_join : GoodIn wsX7_joinDistance (wsV RX7 62 RX5 yX5_join wsX5_join) := goodIn_app (goodIn_of _ (by decide +kernel)) ggX7_joinDistance_X5_join
set_option maxRecDepth 20000 in
theorem ggX7_noteStuck_X5_isReached : GoodIn wsX7_noteStuck wsX5_isReached := goodIn_r _ [7, 8, 9, 13, 14, 15, 16, 17, 18, 19, 20, 21] (by decide +kernel) (by decide +kernel)
set_option maxRecDepth 20000 in
theorem gX7_noteStuck_X5_isReached : GoodIn wsX7_noteStuck (wsV RX7 71 RX5 yX5_isReached wsX5_isReached) := goodIn_app (goodIn_of _ (by decide +kernel)) ggX7_noteStuck_X5_isReached
set_option maxRecDepth 20000 in
theorem ggX8_init_X3_init : GoodIn wsX8_init wsX3_init := goodIn_r _ [39, 40, 2, 3, 41, 42, 43, 44, 45, 46, 47, 48, 97, 98, 99, 100, 101, 102, 103, 104] (by decide +kernel) (by decide +kernel)
set_option maxRecDepth 20000 in
theorem gX8_init_X3_init : GoodIn wsX8_init (wsX3_init) := ggX8_init_X3_init
set_option maxRecDepth 20000 in
theorem ggX8_init_X2_init : GoodIn wsX8_init wsX2_init := goodIn_r _ [50, 51, 2, 3, 52, 41, 53, 117, 118] (by decide +kernel) (by decide +kernel)
set_option maxRecDepth 20000 in
theorem gX8_init_X2_init_n18 : GoodIn wsX8_init (wsX2_init) := ggX8_init_X2_init
set_option maxRecDepth 20000 in
theorem ggX8_init_X0_init : GoodIn wsX8_init wsX0_init := goodIn_r _ [55, 56, 2, 3, 41, 57, 58, 59, 60, 119, 120, 121, 122, 123, 124] (by decide +kernel) (by decide +kernel)
set_option maxRecDepth 20000 in
theorem gX8_init_X0_init_n25 : GoodIn wsX8_init (wsX0_init) := ggX8_init_X0_init
set_option maxRecDepth 20000 in
theorem ggX8_init_X1_init : GoodIn wsX8_init wsX1_init := goodIn_r _ [62, 63, 2, 3, 64, 41, 65, 125] (by decide +kernel) (by decide +kernel)
set_option maxRecDepth 20000 in
theorem gX8_init_X1_init_n32 : GoodIn wsX8_init (wsX1_init) := ggX8_init_X1_init
set_option maxRecDepth 20000 in
theorem ggX8_init_X4_init : GoodIn wsX8_init wsX4_init := goodIn_r _ [67, 68, 2, 3, 69, 70, 71, 72, 73, 74, 75, 41, 76, 77, 78, 79, 80, 81, 135, 136, 137, 138, 139, 140, 141, 142, 143, 126] (by decide +kernel) (by decide +kernel)
set_option maxRecDepth 20000 in
theorem gX8_init_X4_init_n39 : GoodIn wsX8_init (wsX4_init) := ggX8_init_X4_init
set_option maxRecDepth 20000 in
theorem ggX8_init_X6_init : GoodIn wsX8_init wsX6_init := goodIn_r _ [83, 84, 2, 3, 85, 41, 86, 87, 88, 89, 90, 127, 128, 129, 130, 131] (by decide +kernel) (by decide +kernel)
set_option maxRecDepth 20000 in
theorem gX8_init_X6_init_n46 : GoodIn wsX8_init (wsX6_init) := ggX8_init_X6_init
set_option maxRecDepth 20000 in
theorem ggX8_init_X7_init : GoodIn wsX8_init wsX7_init := goodIn_r _ [92, 93, 2, 3, 41, 94, 95, 70, 71, 96, 73, 74, 75, 76, 77, 78, 79, 80, 81, 132, 133, 134, 135, 136, 137, 138, 139, 140, 141, 142, 143] (by decide +kernel) (by decide +kernel)
set_option maxRecDepth 20000 in
theorem gX8_init_X7_init_n53 : GoodIn wsX8_init (wsX7_init) := ggX8_init_X7_init
set_option maxRecDepth 20000 in
theorem ggX8_place_X3_addPlace : GoodIn wsX8_place wsX3_addPlace := goodIn_r _ [7, 8, 9, 10, 11, 6, 12, 13, 14, 15, 16, 17, 18, 19, 20, 21, 22, 23, 24, 25, 26, 27, 28, 29, 30, 31, 32, 33, 34, 35, 36, 37, 38, 39, 75, 76, 77, 78, 79, 80, 81, 82] (by decide +kernel) (by decide +kernel)
set_option maxRecDepth 20000 in
theorem gX8_place_X3_addPlace : GoodIn wsX8_place (wsV RX8 77 RX3 yX3_addPlace wsX3_addPlace) := goodIn_app (goodIn_of _ (by decide +kernel)) ggX8_place_X3_addPlace
set_option maxRecDepth 20000 in
theorem ggX8_place_X8_noteChange : GoodIn wsX8_place wsX8_noteChange := goodIn_r _ [44, 45, 46, 47, 48, 49, 50, 51, 52, 53, 54, 55, 56, 57, 58, 59, 43, 60, 61, 62, 63, 64, 65, 66, 67, 68, 69, 70, 71, 72, 73, 74, 83, 84, 85, 86, 87, 88] (by decide +kernel) (by decide +kernel)
set_option maxRecDepth 20000 in
theorem gX8_place_X8_noteChange : GoodIn wsX8_place (wsV RX8 81 RX8 yX8_noteChange wsX8_noteChange) := goodIn_app (goodIn_of _ (by decide +kernel)) ggX8_place_X8_noteChange
set_option maxRecDepth 20000 in
theorem ggX8_road_X3_has : GoodIn wsX8_road wsX3_has := goodIn_r _ [7, 8, 79, 80, 81, 82, 83, 84, 85, 86] (by decide +kernel) (by decide +kernel)
set_option maxRecDepth 20000 in
theorem gX8_road_X3_has : GoodIn wsX8_road (wsV RX8 85 RX3 yX3_has wsX3_has) := goodIn_app (goodIn_of _ (by decide +kernel)) ggX8_road_X3_has
set_option maxRecDepth 20000 in
theorem ggX8_road_X3_addRoad : GoodIn wsX8_road wsX3_addRoad := goodIn_r _ [12, 13, 14, 15, 16, 17, 18, 19, 6, 20, 8, 21, 22, 23, 24, 25, 26, 27, 28, 29, 30, 31, 32, 33, 34, 35, 36, 37, 38, 39, 40, 41, 42, 43, 79, 80, 81, 82, 83, 84, 85, 86] (by decide +kernel) (by decide +kernel)
set_option maxRecDepth 20000 in
theorem gX8_road_X3_addRoad : GoodIn wsX8_road (wsV RX8 92 RX3 yX3_addRoad wsX3_addRoad) := goodIn_app (goodIn_of _ (by decide +kernel)) ggX8_road_X3_addRoad
set_option maxRecDepth 20000 in
theorem ggX8_road_X8_noteChange : GoodIn wsX8_road wsX8_noteChange := goodIn_r _ [48, 49, 50, 51, 52, 53, 54, 55, 56, 57, 58, 59, 60, 61, 62, 63, 47, 64, 65, 66, 67, 68, 69, 70, 71, 72, 73, 74, 75, 76, 77, 78, 87, 88, 89, 90, 91, 92] (by decide +kernel) (by decide +kernel)
set_option maxRecDepth 20000 in
theorem gX8_road_X8_noteChange : GoodIn wsX8_road (wsV RX8 81 RX8 yX8_noteChange wsX8_noteChange) := goodIn_app (goodIn_of _ (by decide +kernel)) ggX8_road_X8_noteChange
set_option maxRecDepth 20000 in
theorem ggX8_heap_X8_noteChange : GoodIn wsX8_heap wsX8_noteChange := goodIn_r _ [7, 8, 9, 10, 11, 12, 13, 14, 15, 16, 17, 18, 19, 20, 21, 22, 6, 23, 24, 25, 26, 27, 28, 29, 30, 31, 32, 33, 34, 35, 36, 37, 40, 41, 42, 43, 44, 45] (by decide +kernel) (by decide +kernel)
set_option maxRecDepth 20000 in
theorem gX8_heap_X8_noteChange : GoodIn wsX8_heap (wsV RX8 81 RX8 yX8_noteChange wsX8_noteChange) := goodIn_app (goodIn_of _ (by decide +kernel)) ggX8_heap_X8_noteChange
set_option maxRecDepth 20000 in
theorem ggX8_set_X2_has : GoodIn wsX8_set wsX2_has := goodIn_r _ [8, 9, 51, 52] (by decide +kernel) (by decide +kernel)
set_option maxRecDepth 20000 in
theorem gX8_set_X2_has : GoodIn wsX8_set (wsV RX8 99 RX2 yX2_has wsX2_has) := goodIn_app (goodIn_of _ (by decide +kernel)) ggX8_set_X2_has
set_option maxRecDepth 20000 in
theorem ggX8_set_X3_has : GoodIn wsX8_set wsX3_has := goodIn_r _ [14, 15, 53, 54, 55, 56, 57, 58, 59, 60] (by decide +kernel) (by decide +kernel)
set_option maxRecDepth 20000 in
theorem gX8_set_X3_has : GoodIn wsX8_set (wsV RX8 85 RX3 yX3_has wsX3_has) := goodIn_app (goodIn_of _ (by decide +kernel)) ggX8_set_X3_has
set_option maxRecDepth 20000 in
theorem ggX8_set_X8_noteChange : GoodIn wsX8_set wsX8_noteChange := goodIn_r _ [20, 21, 22, 23, 24, 25, 26, 27, 28, 29, 30, 31, 32, 33, 34, 35, 19, 36, 37, 38, 39, 40, 41, 42, 43, 44, 45, 46, 47, 48, 49, 50, 61, 62, 63, 64, 65, 66] (by decide +kernel) (by decide +kernel)
set_option maxRecDepth 20000 in
theorem gX8_set_X8_noteChange : GoodIn wsX8_set (wsV RX8 81 RX8 yX8_noteChange wsX8_noteChange) := goodIn_app (goodIn_of _ (by decide +kernel)) ggX8_set_X8_noteChange
set_option maxRecDepth 20000 in
theorem ggX8_gate_X3_has : GoodIn wsX8_gate wsX3_has := goodIn_r _ [8, 9, 45, 46, 47, 48, 49, 50, 51, 52] (by decide +kernel) (by decide +kernel)
set_option maxRecDepth 20000 in
theorem gX8_gate_X3_has : GoodIn wsX8_gate (wsV RX8 85 RX3 yX3_has wsX3_has) := goodIn_app (goodIn_of _ (by decide +kernel)) ggX8_gate_X3_has
set_option maxRecDepth 20000 in
theorem ggX8_gate_X8_noteChange : GoodIn wsX8_gate wsX8_noteChange := goodIn_r _ [14, 15, 16, 17, 18, 19, 20, 21, 22, 23, 24, 25, 26, 27, 28, 29, 13, 30, 31, 32, 33, 34, 35, 36, 37, 38, 39, 40, 41, 42, 43, 44, 53, 54, 55, 56, 57, 58] (by decide +kernel) (by decide +kernel)
set_option maxRecDepth 20000 in
theorem gX8_gate_X8_noteChange : GoodIn wsX8_gate (wsV RX8 81 RX8 yX8_noteChange wsX8_noteChange) := goodIn_app (goodIn_of _ (by decide +kernel)) ggX8_gate_X8_noteChange
set_option maxRecDepth 20000 in
theorem ggX8_undo_X0_dropLatest : GoodIn wsX8_undo wsX0_dropLatest := goodIn_r _ [7, 8, 9, 90, 91, 92, 93, 94, 95] (by decide +kernel) (by decide +kernel)
set_option maxRecDepth 20000 in
theorem gX8_undo_X0_dropLatest : GoodIn wsX8_undo (wsV RX8 112 RX0 yX0_dropLatest wsX0_dropLatest) := goodIn_app (goodIn_of _ (by decide +kernel)) ggX8_undo_X0_dropLatest
set_option maxRecDepth 20000 in
theorem ggX8_undo_X8_takeBack : GoodIn wsX8_undo wsX8_takeBack := goodIn_r _ [14, 1, 15, 16, 17, 18, 19, 20, 21, 22, 23, 24, 25, 26, 27, 28, 29, 30, 31, 32, 33, 34, 35, 36, 37, 38, 39, 40, 41, 42, 43, 44, 45, 46, 47, 48, 49, 50, 51, 52, 53, 54, 55, 56, 57, 58, 59, 60, 61, 62, 63, 64, 65, 66, 67, 68, 69, 70, 71, 78, 79, 80, 81, 82, 83, 84, 85, 86, 87, 88, 89, 90, 91, 92, 93, 94, 95, 96, 97, 98, 99, 100, 101, 102, 103, 104, 105, 106] (by decide +kernel) (by decide +kernel)
set_option maxRecDepth 20000 in
theorem gX8_undo_X8_takeBack : GoodIn wsX8_undo (wsV RX8 115 RX8 yX8_takeBack wsX8_takeBack) := goodIn_app (goodIn_of _ (by decide +kernel)) ggX8_undo_X8_takeBack
set_option maxRecDepth 20000 in
theorem ggX8_undo_X8_forgetResults : GoodIn wsX8_undo wsX8_forgetResults := goodIn_r _ [75, 76, 77, 78, 79, 80, 81, 82, 83, 84, 85, 86, 87, 88, 89] (by decide +kernel) (by decide +kernel)
set_option maxRecDepth 20000 in
theorem gX8_undo_X8_forgetResults : GoodIn wsX8_undo (wsV RX8 119 RX8 yX8_forgetResults wsX8_forgetResults) := goodIn_app (goodIn_of _ (by decide +kernel)) ggX8_undo_X8_forgetResults
set_option maxRecDepth 20000 in
theorem ggX8_apart_X3_has : GoodIn wsX8_apart wsX3_has := goodIn_r _ [8, 9, 22, 23, 24, 25, 26, 27, 28, 29] (by decide +kernel) (by decide +kernel)
set_option maxRecDepth 20000 in
theorem gX8_apart_X3_has : GoodIn wsX8_apart (wsV RX8 85 RX3 yX3_has wsX3_has) := goodIn_app (goodIn_of _ (by decide +kernel)) ggX8_apart_X3_has
set_option maxRecDepth 20000 in
theorem ggX8_next_X3_has : GoodIn wsX8_next wsX3_has := goodIn_r _ [6, 7, 27, 28, 29, 30, 31, 32, 33, 34] (by decide +kernel) (by decide +kernel)
set_option maxRecDepth 20000 in
theorem gX8_next_X3_has : GoodIn wsX8_next (wsV RX8 85 RX3 yX3_has wsX3_has) := goodIn_app (goodIn_of _ (by decide +kernel)) ggX8_next_X3_has
set_option maxRecDepth 20000 in
theorem ggX8_next_X3_placeBehind : GoodIn wsX8_next wsX3_placeBehind := goodIn_r _ [11, 12, 13, 7, 14, 27, 28, 29, 30, 31, 32, 33, 34] (by decide +kernel) (by decide +kernel)
set_option maxRecDepth 20000 in
theorem gX8_next_X3_placeBehind : GoodIn wsX8_next (wsV RX8 126 RX3 yX3_placeBehind wsX3_placeBehind) := goodIn_app (goodIn_of _ (by decide +kernel)) ggX8_next_X3_placeBehind
set_option maxRecDepth 20000 in
theorem ggX8_amount_X2_has : GoodIn wsX8_amount wsX2_has := goodIn_r _ [8, 9, 28, 29] (by decide +kernel) (by decide +kernel)
set_option maxRecDepth 20000 in
theorem gX8_amount_X2_has : GoodIn wsX8_amount (wsV RX8 99 RX2 yX2_has wsX2_has) := goodIn_app (goodIn_of _ (by decide +kernel)) ggX8_amount_X2_has
set_option maxRecDepth 20000 in
theorem ggX8_amount_X3_has : GoodIn wsX8_amount wsX3_has := goodIn_r _ [14, 15, 30, 31, 32, 33, 34, 35, 36, 37] (by decide +kernel) (by decide +kernel)
set_option maxRecDepth 20000 in
theorem gX8_amount_X3_has : GoodIn wsX8_amount (wsV RX8 85 RX3 yX3_has wsX3_has) := goodIn_app (goodIn_of _ (by decide +kernel)) ggX8_amount_X3_has
set_option maxRecDepth 20000 in
theorem ggX8_sum_X2_has : GoodIn wsX8_sum wsX2_has := goodIn_r _ [6, 7, 25, 26] (by decide +kernel) (by decide +kernel)
set_option maxRecDepth 20000 in
theorem gX8_sum_X2_has : GoodIn wsX8_sum (wsV RX8 99 RX2 yX2_has wsX2_has) := goodIn_app (goodIn_of _ (by decide +kernel)) ggX8_sum_X2_has
set_option maxRecDepth 20000 in
theorem ggX8_sum_X2_total : GoodIn wsX8_sum wsX2_total := goodIn_r _ [11, 12, 25, 26] (by decide +kernel) (by decide +kernel)
set_option maxRecDepth 20000 in
theorem gX8_sum_X2_total : GoodIn wsX8_sum (wsV RX8 130 RX2 yX2_total wsX2_total) := goodIn_app (goodIn_of _ (by decide +kernel)) ggX8_sum_X2_total
set_option maxRecDepth 20000 in
theorem ggX8_least_X8_refusalOfMoving : GoodIn wsX8_least wsX8_refusalOfMoving := goodIn_r _ [5, 6, 7, 8, 9, 10, 11, 12, 13, 14, 15, 16, 17, 18, 19, 20, 21, 22, 23, 24, 25, 26, 106, 107, 108, 109, 110, 111, 112, 113, 114, 115, 116, 117, 118, 119, 120, 121, 122, 123, 124, 125, 126, 127] (by decide +kernel) (by decide +kernel)
set_option maxRecDepth 20000 in
theorem gX8_least_X8_refusalOfMoving : GoodIn wsX8_least (wsV RX8 134 RX8 yX8_refusalOfMoving wsX8_refusalOfMoving) := goodIn_app (goodIn_of _ (by decide +kernel)) ggX8_least_X8_refusalOfMoving
set_option maxRecDepth 20000 in
theorem ggX8_least_X8_leastCost : GoodIn wsX8_least wsX8_leastCost := goodIn_r _ [30, 31, 7, 6, 32, 22, 23, 24, 11, 25, 26, 33, 34, 35, 36, 37, 38, 39, 40, 41, 42, 43, 44, 45, 46, 47, 48, 49, 50, 51, 52, 53, 54, 55, 56, 57, 58, 59, 60, 61, 62, 63, 64, 65, 66, 67, 68, 69, 70, 71, 72, 73, 74, 75, 76, 77, 78, 79, 80, 81, 82, 83, 84, 85, 86, 87, 88, 89, 90, 91, 92, 93, 94, 95, 96, 97, 98, 99, 100, 101, 102, 103, 104, 105, 106, 107, 108, 109, 110, 111, 112, 113, 114, 115, 116, 117, 118, 119, 128, 120, 121, 122, 123, 124, 125, 126, 127, 129, 130, 131, 132, 133, 134, 135, 136, 137] (by decide +kernel) (by decide +kernel)
set_option maxRecDepth 20000 in
theorem gX8_least_X8_leastCost : GoodIn wsX8_least (wsV RX8 137 RX8 yX8_leastCost wsX8_leastCost) := goodIn_app (goodIn_of _ (by decide +kernel)) ggX8_least_X8_leastCost
set_option maxRecDepth 20000 in
theorem ggX8_plan_X8_refusalAtPlaces : GoodIn wsX8_plan wsX8_refusalAtPlaces := goodIn_r _ [7, 8, 9, 10, 11, 12, 13, 14, 15, 16, 17, 6, 18, 19, 20, 21, 22, 23, 24, 25, 26, 27, 28, 29, 30, 31, 32, 33, 34, 35, 36, 176, 177, 178, 179, 180, 181, 182, 183, 184, 185, 186, 187, 193, 194, 195, 196, 197, 198, 199, 200, 201, 202] (by decide +kernel) (by decide +kernel)
set_option maxRecDepth 20000 in
theorem gX8_plan_X8_refusalAtPlaces : GoodIn wsX8_plan (wsV RX8 140 RX8 yX8_refusalAtPlaces wsX8_refusalAtPlaces) := goodIn_app (goodIn_of _ (by decide +kernel)) ggX8_plan_X8_refusalAtPlaces
set_option maxRecDepth 20000 in
theorem ggX8_plan_X8_makePlan : GoodIn wsX8_plan wsX8_makePlan := goodIn_r _ [40, 41, 42, 1, 8, 43, 19, 44, 32, 33, 34, 23, 35, 36, 45, 46, 47, 48, 49, 50, 51, 52, 53, 54, 55, 56, 57, 58, 59, 60, 61, 62, 63, 64, 65, 66, 67, 68, 69, 70, 71, 72, 73, 74, 75, 76, 77, 78, 79, 80, 81, 82, 83, 84, 85, 86, 87, 88, 89, 90, 91, 92, 93, 94, 95, 96, 97, 98, 99, 100, 101, 102, 103, 104, 105, 106, 107, 108, 109, 110, 111, 112, 113, 114, 115, 116, 117, 118, 119, 120, 121, 122, 123, 124, 125, 126, 127, 128, 129, 130, 131, 132, 133, 134, 135, 136, 137, 138, 139, 140, 141, 142, 143, 144, 145, 146, 147, 148, 149, 150, 151, 152, 153, 154, 155, 156, 157, 158, 159, 160, 161, 162, 163, 164, 165, 166, 167, 168, 169, 170, 171, 172, 173, 174, 175, 176, 177, 178, 179, 180, 181, 182, 183, 184, 185, 186, 187, 201, 202, 193, 194, 195, 196, 197, 198, 199, 200, 203, 204, 205, 206, 207, 208, 209, 210, 211, 212, 188, 189, 190, 191, 192] (by decide +kernel) (by decide +kernel)
set_option maxRecDepth 20000 in
theorem gX8_plan_X8_makePlan : GoodIn wsX8_plan (wsV RX8 144 RX8 yX8_makePlan wsX8_makePlan) := goodIn_app (goodIn_of _ (by decide +kernel)) ggX8_plan_X8_makePlan
set_option maxRecDepth 20000 in
theorem ggX8_alone_X8_refusalOfMoving : GoodIn wsX8_alone wsX8_refusalOfMoving := goodIn_r _ [7, 8, 2, 9, 10, 11, 12, 13, 14, 15, 16, 17, 18, 19, 20, 21, 22, 23, 24, 25, 26, 27, 171, 172, 173, 174, 175, 176, 177, 178, 179, 180, 181, 182, 183, 184, 185, 186, 187, 188, 189, 190, 191, 192] (by decide +kernel) (by decide +kernel)
set_option maxRecDepth 20000 in
theorem gX8_alone_X8_refusalOfMoving : GoodIn wsX8_alone (wsV RX8 134 RX8 yX8_refusalOfMoving wsX8_refusalOfMoving) := goodIn_app (goodIn_of _ (by decide +kernel)) ggX8_alone_X8_refusalOfMoving
set_option maxRecDepth 20000 in
theorem ggX8_alone_X8_makePlan : GoodIn wsX8_alone wsX8_makePlan := goodIn_r _ [31, 32, 33, 1, 2, 34, 8, 35, 23, 24, 25, 12, 26, 27, 36, 37, 38, 39, 40, 41, 42, 43, 44, 45, 46, 47, 48, 49, 50, 51, 52, 53, 54, 55, 56, 57, 58, 59, 60, 61, 62, 63, 64, 65, 66, 67, 68, 69, 70, 71, 72, 73, 74, 75, 76, 77, 78, 79, 80, 81, 82, 83, 84, 85, 86, 87, 88, 89, 90, 91, 92, 93, 94, 95, 96, 97, 98, 99, 100, 101, 102, 103, 104, 105, 106, 107, 108, 109, 110, 111, 112, 113, 114, 115, 116, 117, 118, 119, 120, 121, 122, 123, 124, 125, 126, 127, 128, 129, 130, 131, 132, 133, 134, 135, 136, 137, 138, 139, 140, 141, 142, 143, 144, 145, 146, 147, 148, 149, 150, 151, 152, 153, 154, 155, 156, 157, 158, 159, 160, 161, 162, 163, 164, 165, 166, 171, 172, 173, 174, 175, 176, 177, 178, 179, 180, 181, 182, 183, 184, 185, 186, 187, 188, 189, 190, 191, 192, 193, 194, 195, 196, 197, 198, 199, 200, 201, 202, 203, 204, 205, 206, 207] (by decide +kernel) (by decide +kernel)
set_option maxRecDepth 20000 in
theorem gX8_alone_X8_makePlan : GoodIn wsX8_alone (wsV RX8 144 RX8 yX8_makePlan wsX8_makePlan) := goodIn_app (goodIn_of _ (by decide +kernel)) ggX8_alone_X8_makePlan
set_option maxRecDepth 20000 in
theorem ggX8_alone_X6_hasOther : GoodIn wsX8_alone wsX6_hasOther := goodIn_r _ [170, 41, 141, 142, 143, 39, 144, 131, 132, 148, 149, 150, 151, 152, 153, 154, 120, 126, 100, 101, 102, 145, 146, 147, 155, 156, 157, 158, 185, 186, 187, 188, 189, 190, 191, 192, 203, 204, 205, 206, 207] (by decide +kernel) (by decide +kernel)
set_option maxRecDepth 20000 in
theorem gX8_alone_X6_hasOther : GoodIn wsX8_alone (wsV RX8 151 RX6 yX6_hasOther wsX6_hasOther) := goodIn_app (goodIn_of _ (by decide +kernel)) ggX8_alone_X6_hasOther
set_option maxRecDepth 20000 in
theorem ggX8_height_X8_refusalAtPlaces : GoodIn wsX8_height wsX8_refusalAtPlaces := goodIn_r _ [8, 9, 10, 11, 12, 13, 14, 15, 16, 17, 18, 7, 19, 20, 21, 22, 23, 24, 25, 26, 27, 28, 29, 30, 31, 32, 33, 34, 35, 36, 37, 177, 178, 179, 180, 181, 182, 183, 184, 185, 186, 187, 188, 194, 195, 196, 197, 198, 199, 200, 201, 202, 203] (by decide +kernel) (by decide +kernel)
set_option maxRecDepth 20000 in
theorem gX8_height_X8_refusalAtPlaces : GoodIn wsX8_height (wsV RX8 140 RX8 yX8_refusalAtPlaces wsX8_refusalAtPlaces) := goodIn_app (goodIn_of _ (by decide +kernel)) ggX8_height_X8_refusalAtPlaces
set_option maxRecDepth 20000 in
theorem ggX8_height_X8_makePlan : GoodIn wsX8_height wsX8_makePlan := goodIn_r _ [41, 42, 43, 2, 9, 44, 20, 45, 33, 34, 35, 24, 36, 37, 46, 47, 48, 49, 50, 51, 52, 53, 54, 55, 56, 57, 58, 59, 60, 61, 62, 63, 64, 65, 66, 67, 68, 69, 70, 71, 72, 73, 74, 75, 76, 77, 78, 79, 80, 81, 82, 83, 84, 85, 86, 87, 88, 89, 90, 91, 92, 93, 94, 95, 96, 97, 98, 99, 100, 101, 102, 103, 104, 105, 106, 107, 108, 109, 110, 111, 112, 113, 114, 115, 116, 117, 118, 119, 120, 121, 122, 123, 124, 125, 126, 127, 128, 129, 130, 131, 132, 133, 134, 135, 136, 137, 138, 139, 140, 141, 142, 143, 144, 145, 146, 147, 148, 149, 150, 151, 152, 153, 154, 155, 156, 157, 158, 159, 160, 161, 162, 163, 164, 165, 166, 167, 168, 169, 170, 171, 172, 173, 174, 175, 176, 177, 178, 179, 180, 181, 182, 183, 184, 185, 186, 187, 188, 202, 203, 194, 195, 196, 197, 198, 199, 200, 201, 204, 205, 206, 207, 208, 209, 210, 211, 212, 213, 189, 190, 191, 192, 193] (by decide +kernel) (by decide +kernel)
set_option maxRecDepth 20000 in
theorem gX8_height_X8_makePlan : GoodIn wsX8_height (wsV RX8 144 RX8 yX8_makePlan wsX8_makePlan) := goodIn_app (goodIn_of _ (by decide +kernel)) ggX8_height_X8_makePlan
set_option maxRecDepth 20000 in
theorem ggX8_load_X8_refusalAtPlaces : GoodIn wsX8_load wsX8_refusalAtPlaces := goodIn_r _ [7, 2, 8, 9, 10, 11, 12, 13, 14, 15, 16, 6, 17, 18, 19, 20, 21, 22, 23, 24, 25, 26, 27, 28, 29, 30, 31, 32, 33, 34, 35, 187, 188, 189, 190, 191, 192, 193, 194, 195, 196, 197, 198, 199, 200, 201, 202, 203, 204, 205, 206, 207, 208] (by decide +kernel) (by decide +kernel)
set_option maxRecDepth 20000 in
theorem gX8_load_X8_refusalAtPlaces : GoodIn wsX8_load (wsV RX8 140 RX8 yX8_refusalAtPlaces wsX8_refusalAtPlaces) := goodIn_app (goodIn_of _ (by decide +kernel)) ggX8_load_X8_refusalAtPlaces
set_option maxRecDepth 20000 in
theorem ggX8_load_X8_makePlan : GoodIn wsX8_load wsX8_makePlan := goodIn_r _ [39, 40, 41, 1, 2, 42, 18, 43, 31, 32, 33, 22, 34, 35, 44, 45, 46, 47, 48, 49, 50, 51, 52, 53, 54, 55, 56, 57, 58, 59, 60, 61, 62, 63, 64, 65, 66, 67, 68, 69, 70, 71, 72, 73, 74, 75, 76, 77, 78, 79, 80, 81, 82, 83, 84, 85, 86, 87, 88, 89, 90, 91, 92, 93, 94, 95, 96, 97, 98, 99, 100, 101, 102, 103, 104, 105, 106, 107, 108, 109, 110, 111, 112, 113, 114, 115, 116, 117, 118, 119, 120, 121, 122, 123, 124, 125, 126, 127, 128, 129, 130, 131, 132, 133, 134, 135, 136, 137, 138, 139, 140, 141, 142, 143, 144, 145, 146, 147, 148, 149, 150, 151, 152, 153, 154, 155, 156, 157, 158, 159, 160, 161, 162, 163, 164, 165, 166, 167, 168, 169, 170, 171, 172, 173, 174, 187, 188, 189, 190, 191, 192, 193, 194, 195, 196, 197, 198, 207, 208, 199, 200, 201, 202, 203, 204, 205, 206, 209, 210, 211, 212, 213, 214, 215, 216, 217, 218, 219, 220, 221, 222, 223] (by decide +kernel) (by decide +kernel)
set_option maxRecDepth 20000 in
theorem gX8_load_X8_makePlan : GoodIn wsX8_load (wsV RX8 144 RX8 yX8_makePlan wsX8_makePlan) := goodIn_app (goodIn_of _ (by decide +kernel)) ggX8_load_X8_makePlan
set_option maxRecDepth 20000 in
theorem ggX8_load_X6_carried : GoodIn wsX8_load wsX6_carried := goodIn_r _ [178, 49, 128, 179, 180, 181, 11, 182, 29, 30, 13, 183, 184, 185, 47, 186, 199, 200, 201, 202, 203, 204, 205, 206, 219, 220, 221, 222, 223] (by decide +kernel) (by decide +kernel)
set_option maxRecDepth 20000 in
theorem gX8_load_X6_carried : GoodIn wsX8_load (wsV RX8 159 RX6 yX6_carried wsX6_carried) := goodIn_app (goodIn_of _ (by decide +kernel)) ggX8_load_X6_carried
set_option maxRecDepth 20000 in
theorem ggX8_far_X8_refusalOfMoving : GoodIn wsX8_far wsX8_refusalOfMoving := goodIn_r _ [7, 8, 9, 10, 11, 12, 13, 14, 15, 16, 17, 18, 19, 20, 21, 22, 23, 24, 25, 26, 27, 28, 117, 118, 119, 120, 121, 122, 123, 124, 125, 126, 127, 128, 132, 133, 134, 135, 136, 137, 138, 139, 140, 141] (by decide +kernel) (by decide +kernel)
set_option maxRecDepth 20000 in
theorem gX8_far_X8_refusalOfMoving : GoodIn wsX8_far (wsV RX8 134 RX8 yX8_refusalOfMoving wsX8_refusalOfMoving) := goodIn_app (goodIn_of _ (by decide +kernel)) ggX8_far_X8_refusalOfMoving
set_option maxRecDepth 20000 in
theorem ggX8_far_X8_makeReach : GoodIn wsX8_far wsX8_makeReach := goodIn_r _ [32, 33, 34, 1, 9, 8, 35, 24, 25, 26, 13, 27, 28, 36, 37, 38, 39, 40, 41, 42, 43, 44, 45, 46, 47, 48, 49, 50, 51, 52, 53, 54, 55, 56, 57, 58, 59, 60, 61, 62, 63, 64, 65, 66, 67, 68, 69, 70, 71, 72, 73, 74, 75, 76, 77, 78, 79, 80, 81, 82, 83, 84, 85, 86, 87, 88, 89, 90, 91, 92, 93, 94, 95, 96, 97, 98, 99, 100, 101, 102, 103, 104, 105, 106, 107, 108, 109, 110, 111, 112, 113, 114, 115, 116, 117, 118, 119, 120, 121, 122, 123, 124, 125, 126, 127, 128, 132, 133, 134, 135, 136, 137, 138, 139, 140, 141, 129, 130, 131, 142, 143, 144, 145, 146, 147, 148, 149, 150] (by decide +kernel) (by decide +kernel)
set_option maxRecDepth 20000 in
theorem gX8_far_X8_makeReach : GoodIn wsX8_far (wsV RX8 163 RX8 yX8_makeReach wsX8_makeReach) := goodIn_app (goodIn_of _ (by decide +kernel)) ggX8_far_X8_makeReach
set_option maxRecDepth 20000 in
theorem ggX8_shown_X8_refusalAtPlaces : GoodIn wsX8_shown wsX8_refusalAtPlaces := goodIn_r _ [7, 8, 9, 10, 11, 12, 13, 14, 15, 16, 17, 6, 18, 19, 20, 21, 22, 23, 24, 25, 26, 27, 28, 29, 30, 31, 32, 33, 34, 35, 36, 125, 126, 127, 128, 129, 130, 131, 132, 133, 134, 135, 136, 140, 141, 142, 143, 144, 145, 146, 147, 148, 149] (by decide +kernel) (by decide +kernel)
set_option maxRecDepth 20000 in
theorem gX8_shown_X8_refusalAtPlaces : GoodIn wsX8_shown (wsV RX8 140 RX8 yX8_refusalAtPlaces wsX8_refusalAtPlaces) := goodIn_app (goodIn_of _ (by decide +kernel)) ggX8_shown_X8_refusalAtPlaces
set_option maxRecDepth 20000 in
theorem ggX8_shown_X8_makeReach : GoodIn wsX8_shown wsX8_makeReach := goodIn_r _ [40, 41, 42, 1, 8, 19, 43, 32, 33, 34, 23, 35, 36, 44, 45, 46, 47, 48, 49, 50, 51, 52, 53, 54, 55, 56, 57, 58, 59, 60, 61, 62, 63, 64, 65, 66, 67, 68, 69, 70, 71, 72, 73, 74, 75, 76, 77, 78, 79, 80, 81, 82, 83, 84, 85, 86, 87, 88, 89, 90, 91, 92, 93, 94, 95, 96, 97, 98, 99, 100, 101, 102, 103, 104, 105, 106, 107, 108, 109, 110, 111, 112, 113, 114, 115, 116, 117, 118, 119, 120, 121, 122, 123, 124, 125, 126, 127, 128, 129, 130, 131, 132, 133, 134, 135, 136, 148, 149, 140, 141, 142, 143, 144, 145, 146, 147, 137, 138, 139, 150, 151, 152, 153, 154, 155, 156, 157, 158] (by decide +kernel) (by decide +kernel)
set_option maxRecDepth 20000 in
theorem gX8_shown_X8_makeReach : GoodIn wsX8_shown (wsV RX8 163 RX8 yX8_makeReach wsX8_makeReach) := goodIn_app (goodIn_of _ (by decide +kernel)) ggX8_shown_X8_makeReach
set_option maxRecDepth 20000 in
theorem ggX8_some_X2_has : GoodIn wsX8_some wsX2_has := goodIn_r _ [13, 14, 110, 111] (by decide +kernel) (by decide +kernel)
set_option maxRecDepth 20000 in
theorem gX8_some_X2_has : GoodIn wsX8_some (wsV RX8 99 RX2 yX2_has wsX2_has) := goodIn_app (goodIn_of _ (by decide +kernel)) ggX8_some_X2_has
set_option maxRecDepth 20000 in
theorem ggX8_some_X2_total : GoodIn wsX8_some wsX2_total := goodIn_r _ [18, 19, 110, 111] (by decide +kernel) (by decide +kernel)
set_option maxRecDepth 20000 in
theorem gX8_some_X2_total : GoodIn wsX8_some (wsV RX8 130 RX2 yX2_total wsX2_total) := goodIn_app (goodIn_of _ (by decide +kernel)) ggX8_some_X2_total
set_option maxRecDepth 20000 in
theorem ggX8_some_X3_isJoined : GoodIn wsX8_some wsX3_isJoined := goodIn_r _ [24, 25, 26, 27, 112, 113, 114, 115, 116, 117, 118, 119] (by decide +kernel) (by decide +kernel)
set_option maxRecDepth 20000 in
theorem gX8_some_X3_isJoined : GoodIn wsX8_some (wsV RX8 177 RX3 yX3_isJoined wsX3_isJoined) := goodIn_app (goodIn_of _ (by decide +kernel)) ggX8_some_X3_isJoined
set_option maxRecDepth 20000 in
theorem ggX8_some_X4_cheapest : GoodIn wsX8_some wsX4_cheapest := goodIn_r _ [32, 33, 34, 35, 36, 37, 38, 39, 40, 41, 42, 43, 44, 45, 46, 47, 48, 31, 49, 50, 51, 52, 53, 54, 55, 56, 57, 58, 59, 60, 61, 62, 63, 64, 65, 66, 67, 68, 69, 3, 4, 5, 70, 71, 72, 73, 74, 75, 76, 77, 78, 79, 80, 81, 82, 83, 84, 85, 86, 87, 88, 89, 90, 91, 92, 93, 94, 95, 96, 97, 120, 112, 113, 114, 115, 116, 117, 118, 119, 121, 122, 123, 124, 125, 126, 127, 128, 129] (by decide +kernel) (by decide +kernel)
set_option maxRecDepth 20000 in
theorem gX8_some_X4_cheapest : GoodIn wsX8_some (wsV RX8 181 RX4 yX4_cheapest wsX4_cheapest) := goodIn_app (goodIn_of _ (by decide +kernel)) ggX8_some_X4_cheapest
set_option maxRecDepth 20000 in
theorem ggX8_gated_X8_refusalOfMoving : GoodIn wsX8_gated wsX8_refusalOfMoving := goodIn_r _ [9, 3, 2, 10, 11, 12, 13, 14, 15, 16, 17, 18, 19, 20, 21, 22, 23, 24, 25, 26, 27, 28, 100, 101, 102, 103, 104, 105, 106, 107, 108, 109, 110, 111, 112, 113, 114, 115, 116, 117, 118, 119, 120, 121] (by decide +kernel) (by decide +kernel)
set_option maxRecDepth 20000 in
theorem gX8_gated_X8_refusalOfMoving : GoodIn wsX8_gated (wsV RX8 134 RX8 yX8_refusalOfMoving wsX8_refusalOfMoving) := goodIn_app (goodIn_of _ (by decide +kernel)) ggX8_gated_X8_refusalOfMoving
set_option maxRecDepth 20000 in
theorem ggX8_gated_X4_cheapestThroughGates : GoodIn wsX8_gated wsX4_cheapestThroughGates := goodIn_r _ [33, 34, 35, 36, 37, 38, 39, 40, 41, 42, 43, 44, 45, 46, 47, 48, 49, 50, 51, 32, 52, 53, 54, 55, 56, 57, 58, 59, 60, 61, 62, 63, 64, 65, 66, 67, 68, 69, 70, 71, 72, 73, 74, 75, 76, 77, 78, 79, 80, 81, 82, 83, 84, 85, 86, 87, 88, 89, 90, 91, 92, 93, 94, 95, 96, 97, 98, 99, 122, 114, 115, 116, 117, 118, 119, 120, 121, 123, 124, 125, 126, 127, 128, 129, 130, 131] (by decide +kernel) (by decide +kernel)
set_option maxRecDepth 20000 in
theorem gX8_gated_X4_cheapestThroughGates : GoodIn wsX8_gated (wsV RX8 185 RX4 yX4_cheapestThroughGates wsX4_cheapestThroughGates) := goodIn_app (goodIn_of _ (by decide +kernel)) ggX8_gated_X4_cheapestThroughGates
set_option maxRecDepth 20000 in
theorem ggX8_draft_X3_has : GoodIn wsX8_draft wsX3_has := goodIn_r _ [8, 9, 23, 24, 25, 26, 27, 28, 29, 30] (by decide +kernel) (by decide +kernel)
set_option maxRecDepth 20000 in
theorem gX8_draft_X3_has : GoodIn wsX8_draft (wsV RX8 85 RX3 yX3_has wsX3_has) := goodIn_app (goodIn_of _ (by decide +kernel)) ggX8_draft_X3_has
set_option maxRecDepth 20000 in
theorem ggX8_clear_X1_others : GoodIn wsX8_clear wsX1_others := goodIn_r _ [6, 7, 28] (by decide +kernel) (by decide +kernel)
set_option maxRecDepth 20000 in
theorem gX8_clear_X1_others : GoodIn wsX8_clear (wsV RX8 192 RX1 yX1_others wsX1_others) := goodIn_app (goodIn_of _ (by decide +kernel)) ggX8_clear_X1_others
set_option maxRecDepth 20000 in
theorem ggX8_clear_X1_wipe : GoodIn wsX8_clear wsX1_wipe := goodIn_r _ [11, 7, 12, 13, 14, 15, 28] (by decide +kernel) (by decide +kernel)
set_option maxRecDepth 20000 in
theorem gX8_clear_X1_wipe : GoodIn wsX8_clear (wsV RX8 195 RX1 yX1_wipe wsX1_wipe) := goodIn_app (goodIn_of _ (by decide +kernel)) ggX8_clear_X1_wipe
set_option maxRecDepth 20000 in
theorem ggX8_copy_X8_refusalOfMoving : GoodIn wsX8_copy wsX8_refusalOfMoving := goodIn_r _ [11, 12, 1, 13, 14, 15, 16, 17, 18, 19, 20, 21, 22, 23, 24, 25, 26, 27, 28, 29, 30, 31, 177, 178, 179, 180, 181, 182, 183, 184, 185, 186, 187, 188, 203, 204, 189, 190, 191, 192, 193, 194, 195, 196] (by decide +kernel) (by decide +kernel)
set_option maxRecDepth 20000 in
theorem gX8_copy_X8_refusalOfMoving : GoodIn wsX8_copy (wsV RX8 134 RX8 yX8_refusalOfMoving wsX8_refusalOfMoving) := goodIn_app (goodIn_of _ (by decide +kernel)) ggX8_copy_X8_refusalOfMoving
set_option maxRecDepth 20000 in
theorem ggX8_copy_X8_makePlan : GoodIn wsX8_copy wsX8_makePlan := goodIn_r _ [35, 36, 37, 5, 1, 38, 12, 39, 27, 28, 29, 16, 30, 31, 40, 41, 42, 43, 44, 45, 46, 47, 48, 49, 50, 51, 52, 53, 54, 55, 56, 57, 58, 59, 60, 61, 62, 63, 64, 65, 66, 67, 68, 69, 70, 71, 72, 73, 74, 75, 76, 77, 78, 79, 80, 81, 82, 83, 84, 85, 86, 87, 88, 89, 90, 91, 92, 93, 94, 95, 96, 97, 98, 99, 100, 101, 102, 103, 104, 105, 106, 107, 108, 109, 110, 111, 112, 113, 114, 115, 116, 117, 118, 119, 120, 121, 122, 123, 124, 125, 126, 127, 128, 129, 130, 131, 132, 133, 134, 135, 136, 137, 138, 139, 140, 141, 142, 143, 144, 145, 146, 147, 148, 149, 150, 151, 152, 153, 154, 155, 156, 157, 158, 159, 160, 161, 162, 163, 164, 165, 166, 167, 168, 169, 170, 177, 178, 179, 180, 181, 182, 183, 184, 185, 186, 187, 188, 203, 204, 189, 190, 191, 192, 193, 194, 195, 196, 205, 206, 207, 208, 209, 210, 211, 212, 213, 214, 198, 199, 200, 201, 202] (by decide +kernel) (by decide +kernel)
set_option maxRecDepth 20000 in
theorem gX8_copy_X8_makePlan : GoodIn wsX8_copy (wsV RX8 144 RX8 yX8_makePlan wsX8_makePlan) := goodIn_app (goodIn_of _ (by decide +kernel)) ggX8_copy_X8_makePlan
set_option maxRecDepth 20000 in
theorem ggX8_copy_X1_others : GoodIn wsX8_copy wsX1_others := goodIn_r _ [175, 176, 197] (by decide +kernel) (by decide +kernel)
set_option maxRecDepth 20000 in
theorem gX8_copy_X1_others : GoodIn wsX8_copy (wsV RX8 192 RX1 yX1_others wsX1_others) := goodIn_app (goodIn_of _ (by decide +kernel)) ggX8_copy_X1_others
set_option maxRecDepth 20000 in
theorem ggX8_judge_X8_refusalOfMoving : GoodIn wsX8_judge wsX8_refusalOfMoving := goodIn_r _ [11, 4, 2, 12, 13, 14, 15, 16, 17, 18, 19, 20, 21, 22, 23, 24, 25, 26, 27, 28, 29, 30, 125, 126, 127, 128, 129, 130, 131, 132, 133, 134, 135, 136, 145, 146, 137, 138, 139, 140, 141, 142, 143, 144] (by decide +kernel) (by decide +kernel)
set_option maxRecDepth 20000 in
theorem gX8_judge_X8_refusalOfMoving : GoodIn wsX8_judge (wsV RX8 134 RX8 yX8_refusalOfMoving wsX8_refusalOfMoving) := goodIn_app (goodIn_of _ (by decide +kernel)) ggX8_judge_X8_refusalOfMoving
set_option maxRecDepth 20000 in
theorem ggX8_judge_X1_firstWrongFrom : GoodIn wsX8_judge wsX1_firstWrongFrom := goodIn_r _ [35, 36, 147] (by decide +kernel) (by decide +kernel)
set_option maxRecDepth 20000 in
theorem gX8_judge_X1_firstWrongFrom : GoodIn wsX8_judge (wsV RX8 198 RX1 yX1_firstWrongFrom wsX1_firstWrongFrom) := goodIn_app (goodIn_of _ (by decide +kernel)) ggX8_judge_X1_firstWrongFrom
set_option maxRecDepth 20000 in
theorem ggX8_judge_X1_firstWrongTo : GoodIn wsX8_judge wsX1_firstWrongTo := goodIn_r _ [40, 36, 147] (by decide +kernel) (by decide +kernel)
set_option maxRecDepth 20000 in
theorem gX8_judge_X1_firstWrongTo : GoodIn wsX8_judge (wsV RX8 202 RX1 yX1_firstWrongTo wsX1_firstWrongTo) := goodIn_app (goodIn_of _ (by decide +kernel)) ggX8_judge_X1_firstWrongTo
set_option maxRecDepth 20000 in
theorem ggX8_judge_X1_cost : GoodIn wsX8_judge wsX1_cost := goodIn_r _ [44, 45, 36, 46, 137, 138, 139, 140, 141, 142, 143, 144, 147] (by decide +kernel) (by decide +kernel)
set_option maxRecDepth 20000 in
theorem gX8_judge_X1_cost : GoodIn wsX8_judge (wsV RX8 205 RX1 yX1_cost wsX1_cost) := goodIn_app (goodIn_of _ (by decide +kernel)) ggX8_judge_X1_cost
set_option maxRecDepth 20000 in
theorem ggX8_judge_X8_leastCost : GoodIn wsX8_judge wsX8_leastCost := goodIn_r _ [50, 51, 2, 4, 5, 26, 27, 28, 15, 29, 30, 52, 53, 54, 55, 56, 57, 58, 59, 60, 61, 62, 63, 64, 65, 66, 67, 68, 69, 70, 71, 72, 73, 74, 75, 76, 77, 78, 79, 80, 81, 82, 83, 84, 85, 86, 87, 88, 89, 90, 91, 92, 93, 94, 95, 96, 97, 98, 99, 100, 101, 102, 103, 104, 105, 106, 107, 108, 109, 110, 111, 112, 113, 114, 115, 116, 117, 118, 119, 120, 121, 122, 123, 124, 125, 126, 127, 128, 129, 130, 131, 132, 133, 134, 135, 136, 145, 146, 148, 137, 138, 139, 140, 141, 142, 143, 144, 149, 150, 151, 152, 153, 154, 155, 156, 157] (by decide +kernel) (by decide +kernel)
set_option maxRecDepth 20000 in
theorem gX8_judge_X8_leastCost : GoodIn wsX8_judge (wsV RX8 137 RX8 yX8_leastCost wsX8_leastCost) := goodIn_app (goodIn_of _ (by decide +kernel)) ggX8_judge_X8_leastCost
set_option maxRecDepth 20000 in
theorem ggX8_count_X3_gates : GoodIn wsX8_count wsX3_gates := goodIn_r _ [12, 13, 14, 33, 34, 35, 36, 37, 38, 39, 40] (by decide +kernel) (by decide +kernel)
set_option maxRecDepth 20000 in
theorem gX8_count_X3_gates : GoodIn wsX8_count (wsV RX8 209 RX3 yX3_gates wsX3_gates) := goodIn_app (goodIn_of _ (by decide +kernel)) ggX8_count_X3_gates
set_option maxRecDepth 20000 in
theorem ggX8_count_X3_isJoined : GoodIn wsX8_count wsX3_isJoined := goodIn_r _ [18, 13, 19, 20, 33, 34, 35, 36, 37, 38, 39, 40] (by decide +kernel) (by decide +kernel)
set_option maxRecDepth 20000 in
theorem gX8_count_X3_isJoined : GoodIn wsX8_count (wsV RX8 177 RX3 yX3_isJoined wsX3_isJoined) := goodIn_app (goodIn_of _ (by decide +kernel)) ggX8_count_X3_isJoined
set_option maxRecDepth 20000 in
theorem ggX8_refusalOfMoving_X2_has : GoodIn wsX8_refusalOfMoving wsX2_has := goodIn_r _ [7, 8, 34, 35] (by decide +kernel) (by decide +kernel)
set_option maxRecDepth 20000 in
theorem gX8_refusalOfMoving_X2_has : GoodIn wsX8_refusalOfMoving (wsV RX8 99 RX2 yX2_has wsX2_has) := goodIn_app (goodIn_of _ (by decide +kernel)) ggX8_refusalOfMoving_X2_has
set_option maxRecDepth 20000 in
theorem ggX8_refusalOfMoving_X3_isJoined : GoodIn wsX8_refusalOfMoving wsX3_isJoined := goodIn_r _ [13, 14, 15, 16, 36, 37, 38, 39, 40, 41, 42, 43] (by decide +kernel) (by decide +kernel)
set_option maxRecDepth 20000 in
theorem gX8_refusalOfMoving_X3_isJoined : GoodIn wsX8_refusalOfMoving (wsV RX8 177 RX3 yX3_isJoined wsX3_isJoined) := goodIn_app (goodIn_of _ (by decide +kernel)) ggX8_refusalOfMoving_X3_isJoined
set_option maxRecDepth 20000 in
theorem ggX8_refusalOfMoving_X2_total : GoodIn wsX8_refusalOfMoving wsX2_total := goodIn_r _ [20, 21, 34, 35] (by decide +kernel) (by decide +kernel)
set_option maxRecDepth 20000 in
theorem gX8_refusalOfMoving_X2_total : GoodIn wsX8_refusalOfMoving (wsV RX8 130 RX2 yX2_total wsX2_total) := goodIn_app (goodIn_of _ (by decide +kernel)) ggX8_refusalOfMoving_X2_total
set_option maxRecDepth 20000 in
theorem ggX8_refusalAtPlaces_X3_has : GoodIn wsX8_refusalAtPlaces wsX3_has := goodIn_r _ [6, 7, 43, 44, 45, 46, 47, 48, 49, 50] (by decide +kernel) (by decide +kernel)
set_option maxRecDepth 20000 in
theorem gX8_refusalAtPlaces_X3_has : GoodIn wsX8_refusalAtPlaces (wsV RX8 85 RX3 yX3_has wsX3_has) := goodIn_app (goodIn_of _ (by decide +kernel)) ggX8_refusalAtPlaces_X3_has
set_option maxRecDepth 20000 in
theorem ggX8_refusalAtPlaces_X8_refusalOfMoving : GoodIn wsX8_refusalAtPlaces wsX8_refusalOfMoving := goodIn_r _ [12, 13, 1, 14, 15, 16, 17, 18, 19, 20, 21, 22, 5, 23, 7, 24, 25, 26, 27, 28, 29, 30, 31, 32, 33, 34, 35, 36, 37, 38, 39, 40, 41, 42, 51, 52, 43, 44, 45, 46, 47, 48, 49, 50] (by decide +kernel) (by decide +kernel)
set_option maxRecDepth 20000 in
theorem gX8_refusalAtPlaces_X8_refusalOfMoving : GoodIn wsX8_refusalAtPlaces (wsV RX8 134 RX8 yX8_refusalOfMoving wsX8_refusalOfMoving) := goodIn_app (goodIn_of _ (by decide +kernel)) ggX8_refusalAtPlaces_X8_refusalOfMoving
set_option maxRecDepth 20000 in
theorem ggX8_leastCost_X2_total : GoodIn wsX8_leastCost wsX2_total := goodIn_r _ [9, 10, 96, 97] (by decide +kernel) (by decide +kernel)
set_option maxRecDepth 20000 in
theorem gX8_leastCost_X2_total : GoodIn wsX8_leastCost (wsV RX8 130 RX2 yX2_total wsX2_total) := goodIn_app (goodIn_of _ (by decide +kernel)) ggX8_leastCost_X2_total
set_option maxRecDepth 20000 in
theorem ggX8_leastCost_X4_cheapest : GoodIn wsX8_leastCost wsX4_cheapest := goodIn_r _ [15, 16, 17, 18, 19, 20, 21, 22, 23, 24, 25, 26, 27, 28, 29, 30, 31, 14, 32, 33, 34, 35, 36, 37, 38, 39, 40, 41, 42, 43, 44, 45, 46, 47, 48, 49, 50, 51, 52, 53, 54, 55, 56, 57, 58, 59, 60, 61, 62, 63, 64, 65, 66, 67, 68, 69, 70, 71, 72, 73, 74, 75, 76, 77, 78, 79, 80, 81, 82, 83, 98, 99, 100, 101, 102, 103, 104, 105, 106, 107, 108, 109, 110, 111, 112, 113, 114, 115] (by decide +kernel) (by decide +kernel)
set_option maxRecDepth 20000 in
theorem gX8_leastCost_X4_cheapest : GoodIn wsX8_leastCost (wsV RX8 181 RX4 yX4_cheapest wsX4_cheapest) := goodIn_app (goodIn_of _ (by decide +kernel)) ggX8_leastCost_X4_cheapest
set_option maxRecDepth 20000 in
theorem ggX8_makePlan_X2_total : GoodIn wsX8_makePlan wsX2_total := goodIn_r _ [12, 13, 157, 158] (by decide +kernel) (by decide +kernel)
set_option maxRecDepth 20000 in
theorem gX8_makePlan_X2_total : GoodIn wsX8_makePlan (wsV RX8 130 RX2 yX2_total wsX2_total) := goodIn_app (goodIn_of _ (by decide +kernel)) ggX8_makePlan_X2_total
set_option maxRecDepth 20000 in
theorem ggX8_makePlan_X6_make : GoodIn wsX8_makePlan wsX6_make := goodIn_r _ [18, 19, 20, 21, 22, 23, 24, 25, 26, 27, 28, 29, 30, 31, 32, 33, 34, 35, 36, 37, 38, 39, 40, 41, 42, 43, 44, 45, 46, 47, 48, 49, 50, 51, 52, 53, 54, 55, 56, 57, 58, 59, 60, 61, 62, 63, 64, 65, 66, 67, 68, 69, 70, 71, 72, 73, 74, 75, 76, 77, 78, 79, 80, 81, 82, 83, 84, 85, 86, 87, 88, 89, 90, 91, 92, 93, 94, 95, 96, 17, 97, 98, 99, 100, 101, 102, 103, 104, 105, 106, 107, 108, 109, 110, 111, 112, 113, 114, 115, 116, 117, 118, 119, 120, 121, 122, 123, 124, 125, 126, 127, 128, 129, 130, 131, 132, 133, 134, 135, 136, 137, 138, 139, 140, 141, 142, 143, 144, 159, 160, 161, 162, 163, 164, 165, 166, 167, 168, 169, 170, 171, 172, 173, 174, 175, 176, 177, 178, 179, 180, 181] (by decide +kernel) (by decide +kernel)
set_option maxRecDepth 20000 in
theorem gX8_makePlan_X6_make : GoodIn wsX8_makePlan (wsV RX8 212 RX6 yX6_make wsX6_make) := goodIn_app (goodIn_of _ (by decide +kernel)) ggX8_makePlan_X6_make
set_option maxRecDepth 20000 in
theorem ggX8_makeReach_X2_total : GoodIn wsX8_makeReach wsX2_total := goodIn_r _ [11, 12, 106, 107] (by decide +kernel) (by decide +kernel)
set_option maxRecDepth 20000 in
theorem gX8_makeReach_X2_total : GoodIn wsX8_makeReach (wsV RX8 130 RX2 yX2_total wsX2_total) := goodIn_app (goodIn_of _ (by decide +kernel)) ggX8_makeReach_X2_total
set_option maxRecDepth 20000 in
theorem ggX8_makeReach_X7_make : GoodIn wsX8_makeReach wsX7_make := goodIn_r _ [17, 18, 19, 20, 21, 22, 23, 24, 25, 16, 26, 27, 28, 29, 30, 31, 32, 33, 34, 35, 36, 37, 38, 39, 40, 41, 42, 43, 44, 45, 46, 47, 48, 49, 50, 51, 52, 53, 54, 55, 56, 57, 58, 59, 60, 61, 62, 63, 64, 65, 66, 67, 68, 69, 70, 71, 72, 73, 74, 75, 76, 77, 78, 79, 80, 81, 82, 83, 84, 85, 86, 87, 88, 89, 90, 91, 92, 93, 108, 109, 110, 111, 112, 113, 114, 115, 116, 117, 118, 119, 120, 121, 122, 123, 124, 125, 126, 127] (by decide +kernel) (by decide +kernel)
set_option maxRecDepth 20000 in
theorem gX8_makeReach_X7_make : GoodIn wsX8_makeReach (wsV RX8 216 RX7 yX7_make wsX7_make) := goodIn_app (goodIn_of _ (by decide +kernel)) ggX8_makeReach_X7_make
set_option maxRecDepth 20000 in
theorem ggX8_noteChange_X0_keep : GoodIn wsX8_noteChange wsX0_keep := goodIn_r _ [6, 7, 8, 9, 10, 11, 12, 32, 33, 34, 35, 36, 37] (by decide +kernel) (by decide +kernel)
set_option maxRecDepth 20000 in
theorem gX8_noteChange_X0_keep : GoodIn wsX8_noteChange (wsV RX8 219 RX0 yX0_keep wsX0_keep) := goodIn_app (goodIn_of _ (by decide +kernel)) ggX8_noteChange_X0_keep
set_option maxRecDepth 20000 in
theorem ggX8_noteChange_X8_forgetResults : GoodIn wsX8_noteChange wsX8_forgetResults := goodIn_r _ [17, 18, 19, 20, 21, 22, 23, 24, 25, 26, 27, 28, 29, 30, 31] (by decide +kernel) (by decide +kernel)
set_option maxRecDepth 20000 in
theorem gX8_noteChange_X8_forgetResults : GoodIn wsX8_noteChange (wsV RX8 119 RX8 yX8_forgetResults wsX8_forgetResults) := goodIn_app (goodIn_of _ (by decide +kernel)) ggX8_noteChange_X8_forgetResults
set_option maxRecDepth 20000 in
theorem ggX8_takeBack_X3_dropPlace : GoodIn wsX8_takeBack wsX3_dropPlace := goodIn_r _ [16, 17, 79, 80, 81, 82, 83, 84, 85, 86] (by decide +kernel) (by decide +kernel)
set_option maxRecDepth 20000 in
theorem gX8_takeBack_X3_dropPlace : GoodIn wsX8_takeBack (wsV RX8 231 RX3 yX3_dropPlace wsX3_dropPlace) := goodIn_app (goodIn_of _ (by decide +kernel)) ggX8_takeBack_X3_dropPlace
set_option maxRecDepth 20000 in
theorem ggX8_takeBack_X1_wipePlace : GoodIn wsX8_takeBack wsX1_wipePlace := goodIn_r _ [22, 23, 87] (by decide +kernel) (by decide +kernel)
set_option maxRecDepth 20000 in
theorem gX8_takeBack_X1_wipePlace : GoodIn wsX8_takeBack (wsV RX8 234 RX1 yX1_wipePlace wsX1_wipePlace) := goodIn_app (goodIn_of _ (by decide +kernel)) ggX8_takeBack_X1_wipePlace
set_option maxRecDepth 20000 in
theorem ggX8_takeBack_X3_dropRoad : GoodIn wsX8_takeBack wsX3_dropRoad := goodIn_r _ [27, 28, 29, 30, 31, 15, 32, 17, 33, 34, 35, 36, 37, 38, 39, 40, 41, 42, 43, 44, 45, 46, 47, 48, 49, 50, 51, 52, 53, 54, 55, 56, 57, 58, 79, 80, 81, 82, 83, 84, 85, 86] (by decide +kernel) (by decide +kernel)
set_option maxRecDepth 20000 in
theorem gX8_takeBack_X3_dropRoad : GoodIn wsX8_takeBack (wsV RX8 237 RX3 yX3_dropRoad wsX3_dropRoad) := goodIn_app (goodIn_of _ (by decide +kernel)) ggX8_takeBack_X3_dropRoad
set_option maxRecDepth 20000 in
theorem ggX9_isPlace_X9_in : GoodIn wsX9_isPlace wsX9_in := goodIn_r _ [5] (by decide +kernel) (by decide +kernel)
set_option maxRecDepth 20000 in
theorem gX9_isPlace_X9_in : GoodIn wsX9_isPlace (va_wsS RX9 90 yX9_in wsX9_in) := goodIn_app (goodIn_of _ (by decide +kernel)) ggX9_isPlace_X9_in
set_option maxRecDepth 20000 in
theorem ggX9_isHeap_X9_in : GoodIn wsX9_isHeap wsX9_in := goodIn_r _ [5] (by decide +kernel) (by decide +kernel)
set_option maxRecDepth 20000 in
theorem gX9_isHeap_X9_in : GoodIn wsX9_isHeap (va_wsS RX9 90 yX9_in wsX9_in) := goodIn_app (goodIn_of _ (by decide +kernel)) ggX9_isHeap_X9_in
set_option maxRecDepth 20000 in
theorem ggX9_place_X9_keep : GoodIn wsX9_place wsX9_keep := goodIn_r _ [8, 9, 10, 11, 12, 13, 14, 15, 16, 17, 18, 19, 20, 21, 22, 23, 24, 25, 26, 27, 28, 29, 30, 31, 32, 33, 34, 35, 36, 37, 38, 39, 40, 41, 42, 43] (by decide +kernel) (by decide +kernel)
set_option maxRecDepth 20000 in
theorem gX9_place_X9_keep : GoodIn wsX9_place (wsV RX9 100 RX9 yX9_keep wsX9_keep) := goodIn_app (goodIn_of _ (by decide +kernel)) ggX9_place_X9_keep
set_option maxRecDepth 20000 in
theorem ggX9_road_X9_isPlace : GoodIn wsX9_road wsX9_isPlace := goodIn_r _ [9, 10, 11, 12, 8, 13, 22, 23, 24, 25, 26, 27, 28, 29, 30, 31, 32, 33, 34, 35, 36, 37, 38, 39, 40, 41, 42, 43, 44, 45, 46, 47, 48, 49, 50, 51, 52] (by decide +kernel) (by decide +kernel)
set_option maxRecDepth 20000 in
theorem gX9_road_X9_isPlace : GoodIn wsX9_road (wsV RX9 104 RX9 yX9_isPlace wsX9_isPlace) := goodIn_app (goodIn_of _ (by decide +kernel)) ggX9_road_X9_isPlace
set_option maxRecDepth 20000 in
theorem ggX9_road_X9_in : GoodIn wsX9_road wsX9_in := goodIn_r _ [13] (by decide +kernel) (by decide +kernel)
set_option maxRecDepth 20000 in
theorem gX9_road_X9_in : GoodIn wsX9_road (va_wsS RX9 90 yX9_in wsX9_in) := goodIn_app (goodIn_of _ (by decide +kernel)) ggX9_road_X9_in
set_option maxRecDepth 20000 in
theorem ggX9_road_X9_keep : GoodIn wsX9_road wsX9_keep := goodIn_r _ [17, 18, 19, 20, 21, 22, 23, 24, 25, 26, 27, 28, 29, 30, 31, 32, 33, 34, 35, 36, 37, 38, 39, 40, 41, 42, 43, 44, 45, 46, 47, 48, 49, 50, 51, 52] (by decide +kernel) (by decide +kernel)
set_option maxRecDepth 20000 in
theorem gX9_road_X9_keep : GoodIn wsX9_road (wsV RX9 100 RX9 yX9_keep wsX9_keep) := goodIn_app (goodIn_of _ (by decide +kernel)) ggX9_road_X9_keep
set_option maxRecDepth 20000 in
theorem ggX9_heap_X9_keep : GoodIn wsX9_heap wsX9_keep := goodIn_r _ [7, 8, 9, 10, 11, 12, 13, 14, 15, 16, 17, 18, 19, 20, 21, 22, 23, 24, 25, 26, 27, 28, 29, 30, 31, 32, 33, 34, 35, 36, 37, 38, 39, 40, 41, 42] (by decide +kernel) (by decide +kernel)
set_option maxRecDepth 20000 in
theorem gX9_heap_X9_keep : GoodIn wsX9_heap (wsV RX9 100 RX9 yX9_keep wsX9_keep) := goodIn_app (goodIn_of _ (by decide +kernel)) ggX9_heap_X9_keep
set_option maxRecDepth 20000 in
theorem ggX9_set_X9_isHeap : GoodIn wsX9_set wsX9_isHeap := goodIn_r _ [6, 7, 8, 9, 5, 10, 24, 25, 26, 27, 28, 29, 30, 31, 32, 33, 34, 35, 36, 37, 38, 39, 40, 41, 42, 43, 44, 45, 46, 47, 48, 49, 50, 51, 52, 53, 54] (by decide +kernel) (by decide +kernel)
set_option maxRecDepth 20000 in
theorem gX9_set_X9_isHeap : GoodIn wsX9_set (wsV RX9 111 RX9 yX9_isHeap wsX9_isHeap) := goodIn_app (goodIn_of _ (by decide +kernel)) ggX9_set_X9_isHeap
set_option maxRecDepth 20000 in
theorem ggX9_set_X9_isPlace : GoodIn wsX9_set wsX9_isPlace := goodIn_r _ [14, 15, 8, 9, 5, 10, 24, 25, 26, 27, 28, 29, 30, 31, 32, 33, 34, 35, 36, 37, 38, 39, 40, 41, 42, 43, 44, 45, 46, 47, 48, 49, 50, 51, 52, 53, 54] (by decide +kernel) (by decide +kernel)
set_option maxRecDepth 20000 in
theorem gX9_set_X9_isPlace : GoodIn wsX9_set (wsV RX9 104 RX9 yX9_isPlace wsX9_isPlace) := goodIn_app (goodIn_of _ (by decide +kernel)) ggX9_set_X9_isPlace
set_option maxRecDepth 20000 in
theorem ggX9_set_X9_in : GoodIn wsX9_set wsX9_in := goodIn_r _ [10] (by decide +kernel) (by decide +kernel)
set_option maxRecDepth 20000 in
theorem gX9_set_X9_in : GoodIn wsX9_set (va_wsS RX9 90 yX9_in wsX9_in) := goodIn_app (goodIn_of _ (by decide +kernel)) ggX9_set_X9_in
set_option maxRecDepth 20000 in
theorem ggX9_set_X9_keep : GoodIn wsX9_set wsX9_keep := goodIn_r _ [19, 20, 21, 22, 23, 24, 25, 26, 27, 28, 29, 30, 31, 32, 33, 34, 35, 36, 37, 38, 39, 40, 41, 42, 43, 44, 45, 46, 47, 48, 49, 50, 51, 52, 53, 54] (by decide +kernel) (by decide +kernel)
set_option maxRecDepth 20000 in
theorem gX9_set_X9_keep : GoodIn wsX9_set (wsV RX9 100 RX9 yX9_keep wsX9_keep) := goodIn_app (goodIn_of _ (by decide +kernel)) ggX9_set_X9_keep
set_option maxRecDepth 20000 in
theorem ggX9_gate_X9_isPlace : GoodIn wsX9_gate wsX9_isPlace := goodIn_r _ [7, 8, 9, 10, 6, 11, 20, 21, 22, 23, 24, 25, 26, 27, 28, 29, 30, 31, 32, 33, 34, 35, 36, 37, 38, 39, 40, 41, 42, 43, 44, 45, 46, 47, 48, 49, 50] (by decide +kernel) (by decide +kernel)
set_option maxRecDepth 20000 in
theorem gX9_gate_X9_isPlace : GoodIn wsX9_gate (wsV RX9 104 RX9 yX9_isPlace wsX9_isPlace) := goodIn_app (goodIn_of _ (by decide +kernel)) ggX9_gate_X9_isPlace
set_option maxRecDepth 20000 in
theorem ggX9_gate_X9_in : GoodIn wsX9_gate wsX9_in := goodIn_r _ [11] (by decide +kernel) (by decide +kernel)
set_option maxRecDepth 20000 in
theorem gX9_gate_X9_in : GoodIn wsX9_gate (va_wsS RX9 90 yX9_in wsX9_in) := goodIn_app (goodIn_of _ (by decide +kernel)) ggX9_gate_X9_in
set_option maxRecDepth 20000 in
theorem ggX9_gate_X9_keep : GoodIn wsX9_gate wsX9_keep := goodIn_r _ [15, 16, 17, 18, 19, 20, 21, 22, 23, 24, 25, 26, 27, 28, 29, 30, 31, 32, 33, 34, 35, 36, 37, 38, 39, 40, 41, 42, 43, 44, 45, 46, 47, 48, 49, 50] (by decide +kernel) (by decide +kernel)
set_option maxRecDepth 20000 in
theorem gX9_gate_X9_keep : GoodIn wsX9_gate (wsV RX9 100 RX9 yX9_keep wsX9_keep) := goodIn_app (goodIn_of _ (by decide +kernel)) ggX9_gate_X9_keep
set_option maxRecDepth 20000 in
theorem ggX9_isJoined_X9_findFar : GoodIn wsX9_isJoined wsX9_findFar := goodIn_r _ [8, 2, 3, 9, 10, 11, 12, 1, 13, 14, 15, 16, 17, 18, 19, 20, 21, 22, 23, 24, 25, 26, 27, 28, 29, 30, 31, 32, 33, 34, 35, 36, 37, 38, 39, 40, 41, 42, 43] (by decide +kernel) (by decide +kernel)
set_option maxRecDepth 20000 in
theorem gX9_isJoined_X9_findFar : GoodIn wsX9_isJoined (wsV RX9 116 RX9 yX9_findFar wsX9_findFar) := goodIn_app (goodIn_of _ (by decide +kernel)) ggX9_isJoined_X9_findFar
set_option maxRecDepth 20000 in
theorem ggX9_apart_X9_isPlace : GoodIn wsX9_apart wsX9_isPlace := goodIn_r _ [7, 8, 9, 10, 6, 11, 20, 21, 22, 23, 24, 25, 26, 27, 28, 29, 30, 31, 32, 33, 34, 35, 36, 37, 38, 39, 40, 41, 42, 43, 44, 45, 46, 47, 48, 49, 50] (by decide +kernel) (by decide +kernel)
set_option maxRecDepth 20000 in
theorem gX9_apart_X9_isPlace : GoodIn wsX9_apart (wsV RX9 104 RX9 yX9_isPlace wsX9_isPlace) := goodIn_app (goodIn_of _ (by decide +kernel)) ggX9_apart_X9_isPlace
set_option maxRecDepth 20000 in
theorem ggX9_apart_X9_findFar : GoodIn wsX9_apart wsX9_findFar := goodIn_r _ [15, 1, 2, 16, 17, 18, 19, 8, 20, 21, 22, 23, 24, 25, 26, 27, 28, 29, 30, 31, 32, 33, 34, 35, 36, 37, 38, 39, 40, 41, 42, 43, 44, 45, 46, 47, 48, 49, 50] (by decide +kernel) (by decide +kernel)
set_option maxRecDepth 20000 in
theorem gX9_apart_X9_findFar : GoodIn wsX9_apart (wsV RX9 116 RX9 yX9_findFar wsX9_findFar) := goodIn_app (goodIn_of _ (by decide +kernel)) ggX9_apart_X9_findFar
set_option maxRecDepth 20000 in
theorem ggX9_next_X9_isPlace : GoodIn wsX9_next wsX9_isPlace := goodIn_r _ [5, 6, 7, 8, 4, 9, 24, 25, 26, 27, 28, 29, 30, 31, 32, 33, 34, 35, 36, 37, 38, 39, 40, 41, 42, 43, 44, 45, 46, 47, 48, 49, 50, 51, 52, 53, 54] (by decide +kernel) (by decide +kernel)
set_option maxRecDepth 20000 in
theorem gX9_next_X9_isPlace : GoodIn wsX9_next (wsV RX9 104 RX9 yX9_isPlace wsX9_isPlace) := goodIn_app (goodIn_of _ (by decide +kernel)) ggX9_next_X9_isPlace
set_option maxRecDepth 20000 in
theorem ggX9_next_X9_findFar : GoodIn wsX9_next wsX9_findFar := goodIn_r _ [13, 14, 15, 16, 17, 18, 19, 6, 24, 25, 26, 27, 28, 29, 30, 31, 32, 33, 34, 35, 36, 37, 38, 39, 40, 41, 42, 43, 44, 45, 46, 47, 48, 49, 50, 51, 52, 53, 54] (by decide +kernel) (by decide +kernel)
set_option maxRecDepth 20000 in
theorem gX9_next_X9_findFar : GoodIn wsX9_next (wsV RX9 116 RX9 yX9_findFar wsX9_findFar) := goodIn_app (goodIn_of _ (by decide +kernel)) ggX9_next_X9_findFar
set_option maxRecDepth 20000 in
theorem ggX9_next_X9_nextTo : GoodIn wsX9_next wsX9_nextTo := goodIn_r _ [23, 16, 17, 18, 14, 15, 19, 24, 25, 26, 27, 28, 29, 30, 31, 32, 33, 34, 35, 36, 37, 38, 39, 40, 41, 42, 43, 44, 45, 46, 47, 48, 49, 50, 51, 52, 53, 54] (by decide +kernel) (by decide +kernel)
set_option maxRecDepth 20000 in
theorem gX9_next_X9_nextTo : GoodIn wsX9_next (wsV RX9 119 RX9 yX9_nextTo wsX9_nextTo) := goodIn_app (goodIn_of _ (by decide +kernel)) ggX9_next_X9_nextTo
set_option maxRecDepth 20000 in
theorem ggX9_amount_X9_isHeap : GoodIn wsX9_amount wsX9_isHeap := goodIn_r _ [6, 7, 8, 9, 5, 10, 16, 17, 18, 19, 20, 21, 22, 23, 24, 25, 26, 27, 28, 29, 30, 31, 32, 33, 34, 35, 36, 37, 38, 39, 40, 41, 42, 43, 44, 45, 46] (by decide +kernel) (by decide +kernel)
set_option maxRecDepth 20000 in
theorem gX9_amount_X9_isHeap : GoodIn wsX9_amount (wsV RX9 111 RX9 yX9_isHeap wsX9_isHeap) := goodIn_app (goodIn_of _ (by decide +kernel)) ggX9_amount_X9_isHeap
set_option maxRecDepth 20000 in
theorem ggX9_amount_X9_isPlace : GoodIn wsX9_amount wsX9_isPlace := goodIn_r _ [14, 15, 8, 9, 5, 10, 16, 17, 18, 19, 20, 21, 22, 23, 24, 25, 26, 27, 28, 29, 30, 31, 32, 33, 34, 35, 36, 37, 38, 39, 40, 41, 42, 43, 44, 45, 46] (by decide +kernel) (by decide +kernel)
set_option maxRecDepth 20000 in
theorem gX9_amount_X9_isPlace : GoodIn wsX9_amount (wsV RX9 104 RX9 yX9_isPlace wsX9_isPlace) := goodIn_app (goodIn_of _ (by decide +kernel)) ggX9_amount_X9_isPlace
set_option maxRecDepth 20000 in
theorem ggX9_sum_X9_isHeap : GoodIn wsX9_sum wsX9_isHeap := goodIn_r _ [5, 6, 7, 8, 4, 9, 16, 17, 18, 19, 20, 21, 22, 23, 24, 25, 26, 27, 28, 29, 30, 31, 32, 33, 34, 35, 36, 37, 38, 39, 40, 41, 42, 43, 44, 45, 46] (by decide +kernel) (by decide +kernel)
set_option maxRecDepth 20000 in
theorem gX9_sum_X9_isHeap : GoodIn wsX9_sum (wsV RX9 111 RX9 yX9_isHeap wsX9_isHeap) := goodIn_app (goodIn_of _ (by decide +kernel)) ggX9_sum_X9_isHeap
set_option maxRecDepth 20000 in
theorem ggX9_sum_X9_sumOf : GoodIn wsX9_sum wsX9_sumOf := goodIn_r _ [13, 14, 15, 16, 17, 18, 19, 20, 21, 22, 23, 24, 25, 26, 27, 28, 29, 30, 31, 32, 33, 34, 35, 36, 37, 38, 39, 40, 41, 42, 43, 44, 45, 46] (by decide +kernel) (by decide +kernel)
set_option maxRecDepth 20000 in
theorem gX9_sum_X9_sumOf : GoodIn wsX9_sum (wsV RX9 123 RX9 yX9_sumOf wsX9_sumOf) := goodIn_app (goodIn_of _ (by decide +kernel)) ggX9_sum_X9_sumOf
set_option maxRecDepth 20000 in
theorem ggX9_solve_X9_begin : GoodIn wsX9_solve wsX9_begin := goodIn_r _ [6, 1, 7, 8, 9, 10, 27, 28, 29, 30, 31, 32, 33, 34, 35, 36, 37, 38, 39, 40, 41, 42, 43, 44, 45, 46, 47, 48, 49, 50, 51, 52, 53, 54, 55, 56, 57] (by decide +kernel) (by decide +kernel)
set_option maxRecDepth 20000 in
theorem gX9_solve_X9_begin : GoodIn wsX9_solve (wsV RX9 127 RX9 yX9_begin wsX9_begin) := goodIn_app (goodIn_of _ (by decide +kernel)) ggX9_solve_X9_begin
set_option maxRecDepth 20000 in
theorem ggX9_solve_X9_findWay : GoodIn wsX9_solve wsX9_findWay := goodIn_r _ [14, 7, 15, 8, 16, 17, 18, 1, 10, 27, 28, 29, 30, 31, 32, 33, 34, 35, 36, 37, 38, 39, 40, 41, 42, 43, 44, 45, 46, 47, 48, 49, 50, 51, 52, 53, 54, 55, 56, 57] (by decide +kernel) (by decide +kernel)
set_option maxRecDepth 20000 in
theorem gX9_solve_X9_findWay : GoodIn wsX9_solve (wsV RX9 131 RX9 yX9_findWay wsX9_findWay) := goodIn_app (goodIn_of _ (by decide +kernel)) ggX9_solve_X9_findWay
set_option maxRecDepth 20000 in
theorem ggX9_solve_X9_go : GoodIn wsX9_solve wsX9_go := goodIn_r _ [22, 10, 17, 1, 8, 27, 28, 29, 30, 31, 32, 33, 34, 35, 36, 37, 38, 39, 40, 41, 42, 43, 44, 45, 46, 47, 48, 49, 50, 51, 52, 53, 54, 55, 56, 57] (by decide +kernel) (by decide +kernel)
set_option maxRecDepth 20000 in
theorem gX9_solve_X9_go : GoodIn wsX9_solve (wsV RX9 135 RX9 yX9_go wsX9_go) := goodIn_app (goodIn_of _ (by decide +kernel)) ggX9_solve_X9_go
set_option maxRecDepth 20000 in
theorem ggX9_solve_X9_costOf : GoodIn wsX9_solve wsX9_costOf := goodIn_r _ [26, 7, 18, 27, 28, 29, 30, 31, 32, 33, 34, 35, 36, 37, 38, 39, 40, 41, 42, 43, 44, 45, 46, 47, 48, 49, 50, 51, 52, 53, 54, 55, 56, 57] (by decide +kernel) (by decide +kernel)
set_option maxRecDepth 20000 in
theorem gX9_solve_X9_costOf : GoodIn wsX9_solve (wsV RX9 138 RX9 yX9_costOf wsX9_costOf) := goodIn_app (goodIn_of _ (by decide +kernel)) ggX9_solve_X9_costOf
set_option maxRecDepth 20000 in
theorem ggX9_against_X9_isHeap : GoodIn wsX9_against wsX9_isHeap := goodIn_r _ [5, 6, 7, 8, 4, 9, 30, 31, 32, 33, 34, 35, 36, 37, 38, 39, 40, 41, 42, 43, 44, 45, 46, 47, 48, 49, 50, 51, 52, 53, 54, 55, 56, 57, 58, 59, 60] (by decide +kernel) (by decide +kernel)
set_option maxRecDepth 20000 in
theorem gX9_against_X9_isHeap : GoodIn wsX9_against (wsV RX9 111 RX9 yX9_isHeap wsX9_isHeap) := goodIn_app (goodIn_of _ (by decide +kernel)) ggX9_against_X9_isHeap
set_option maxRecDepth 20000 in
theorem ggX9_against_X9_isJoined : GoodIn wsX9_against wsX9_isJoined := goodIn_r _ [13, 14, 15, 16, 17, 18, 19, 4, 20, 21, 22, 23, 24, 30, 31, 32, 33, 34, 35, 36, 37, 38, 39, 40, 41, 42, 43, 44, 45, 46, 47, 48, 49, 50, 51, 52, 53, 54, 55, 56, 57, 58, 59, 60] (by decide +kernel) (by decide +kernel)
set_option maxRecDepth 20000 in
theorem gX9_against_X9_isJoined : GoodIn wsX9_against (wsV RX9 142 RX9 yX9_isJoined wsX9_isJoined) := goodIn_app (goodIn_of _ (by decide +kernel)) ggX9_against_X9_isJoined
set_option maxRecDepth 20000 in
theorem ggX9_against_X9_sumOf : GoodIn wsX9_against wsX9_sumOf := goodIn_r _ [28, 14, 29, 30, 31, 32, 33, 34, 35, 36, 37, 38, 39, 40, 41, 42, 43, 44, 45, 46, 47, 48, 49, 50, 51, 52, 53, 54, 55, 56, 57, 58, 59, 60] (by decide +kernel) (by decide +kernel)
set_option maxRecDepth 20000 in
theorem gX9_against_X9_sumOf : GoodIn wsX9_against (wsV RX9 123 RX9 yX9_sumOf wsX9_sumOf) := goodIn_app (goodIn_of _ (by decide +kernel)) ggX9_against_X9_sumOf
set_option maxRecDepth 20000 in
theorem ggX9_least_X9_against : GoodIn wsX9_least wsX9_against := goodIn_r _ [5, 6, 7, 8, 4, 9, 10, 11, 12, 13, 14, 15, 16, 17, 18, 19, 20, 21, 22, 23, 24, 25, 26, 27, 28, 29, 30, 31, 32, 33, 59, 60, 61, 62, 63, 64, 65, 66, 67, 68, 69, 70, 71, 72, 73, 74, 75, 76, 77, 78, 79, 80, 81, 82, 83, 84, 85, 86, 87, 88, 89] (by decide +kernel) (by decide +kernel)
set_option maxRecDepth 20000 in
theorem gX9_least_X9_against : GoodIn wsX9_least (wsV RX9 146 RX9 yX9_against wsX9_against) := goodIn_app (goodIn_of _ (by decide +kernel)) ggX9_least_X9_against
set_option maxRecDepth 20000 in
theorem ggX9_least_X9_sumOf : GoodIn wsX9_least wsX9_sumOf := goodIn_r _ [32, 18, 33, 59, 60, 61, 62, 63, 64, 65, 66, 67, 68, 69, 70, 71, 72, 73, 74, 75, 76, 77, 78, 79, 80, 81, 82, 83, 84, 85, 86, 87, 88, 89] (by decide +kernel) (by decide +kernel)
set_option maxRecDepth 20000 in
theorem gX9_least_X9_sumOf : GoodIn wsX9_least (wsV RX9 123 RX9 yX9_sumOf wsX9_sumOf) := goodIn_app (goodIn_of _ (by decide +kernel)) ggX9_least_X9_sumOf
set_option maxRecDepth 20000 in
theorem ggX9_least_X9_solve : GoodIn wsX9_least wsX9_solve := goodIn_r _ [37, 38, 39, 40, 41, 4, 42, 18, 43, 33, 44, 45, 46, 47, 48, 49, 20, 50, 19, 51, 52, 53, 54, 55, 56, 57, 58, 59, 60, 61, 62, 63, 64, 65, 66, 67, 68, 69, 70, 71, 72, 73, 74, 75, 76, 77, 78, 79, 80, 81, 82, 83, 84, 85, 86, 87, 88, 89] (by decide +kernel) (by decide +kernel)
set_option maxRecDepth 20000 in
theorem gX9_least_X9_solve : GoodIn wsX9_least (wsV RX9 149 RX9 yX9_solve wsX9_solve) := goodIn_app (goodIn_of _ (by decide +kernel)) ggX9_least_X9_solve
set_option maxRecDepth 20000 in
theorem ggX9_canTurn_X9_isTight : GoodIn wsX9_canTurn wsX9_isTight := goodIn_r _ [11, 12, 13, 14, 15, 16, 17, 18, 19, 20, 21, 22, 23, 24, 25, 26, 27, 28, 29, 30, 31, 32, 33, 34, 35, 36, 37, 38, 39, 40, 41, 42, 43, 44] (by decide +kernel) (by decide +kernel)
set_option maxRecDepth 20000 in
theorem gX9_canTurn_X9_isTight : GoodIn wsX9_canTurn (wsV RX9 153 RX9 yX9_isTight wsX9_isTight) := goodIn_app (goodIn_of _ (by decide +kernel)) ggX9_canTurn_X9_isTight
set_option maxRecDepth 20000 in
theorem ggX9_findPlan_X9_sumOf : GoodIn wsX9_findPlan wsX9_sumOf := goodIn_r _ [7, 1, 8, 59, 60, 61, 62, 63, 64, 65, 66, 67, 68, 69, 70, 71, 72, 73, 74, 75, 76, 77, 78, 79, 80, 81, 82, 83, 84, 85, 86, 87, 88, 89] (by decide +kernel) (by decide +kernel)
set_option maxRecDepth 20000 in
theorem gX9_findPlan_X9_sumOf : GoodIn wsX9_findPlan (wsV RX9 123 RX9 yX9_sumOf wsX9_sumOf) := goodIn_app (goodIn_of _ (by decide +kernel)) ggX9_findPlan_X9_sumOf
set_option maxRecDepth 20000 in
theorem ggX9_findPlan_X9_solve : GoodIn wsX9_findPlan wsX9_solve := goodIn_r _ [12, 13, 14, 15, 16, 6, 17, 1, 18, 8, 19, 20, 21, 22, 23, 24, 25, 26, 27, 28, 29, 30, 31, 32, 33, 34, 35, 59, 60, 61, 62, 63, 64, 65, 66, 67, 68, 69, 70, 71, 72, 73, 74, 75, 76, 77, 78, 79, 80, 81, 82, 83, 84, 85, 86, 87, 88, 89] (by decide +kernel) (by decide +kernel)
set_option maxRecDepth 20000 in
theorem gX9_findPlan_X9_solve : GoodIn wsX9_findPlan (wsV RX9 149 RX9 yX9_solve wsX9_solve) := goodIn_app (goodIn_of _ (by decide +kernel)) ggX9_findPlan_X9_solve
set_option maxRecDepth 20000 in
theorem ggX9_findPlan_X9_findHeights : GoodIn wsX9_findPlan wsX9_findHeights := goodIn_r _ [39, 1, 40, 25, 27, 13, 59, 60, 61, 62, 63, 64, 65, 66, 67, 68, 69, 70, 71, 72, 73, 74, 75, 76, 77, 78, 79, 80, 81, 82, 83, 84, 85, 86, 87, 88, 89] (by decide +kernel) (by decide +kernel)
set_option maxRecDepth 20000 in
theorem gX9_findPlan_X9_findHeights : GoodIn wsX9_findPlan (wsV RX9 157 RX9 yX9_findHeights wsX9_findHeights) := goodIn_app (goodIn_of _ (by decide +kernel)) ggX9_findPlan_X9_findHeights
set_option maxRecDepth 20000 in
theorem ggX9_findPlan_X9_loosen : GoodIn wsX9_findPlan wsX9_loosen := goodIn_r _ [44, 2, 59, 60, 61, 62, 63, 64, 65, 66, 67, 68, 69, 70, 71, 72, 73, 74, 75, 76, 77, 78, 79, 80, 81, 82, 83, 84, 85, 86, 87, 88, 89] (by decide +kernel) (by decide +kernel)
set_option maxRecDepth 20000 in
theorem gX9_findPlan_X9_loosen : GoodIn wsX9_findPlan (wsV RX9 160 RX9 yX9_loosen wsX9_loosen) := goodIn_app (goodIn_of _ (by decide +kernel)) ggX9_findPlan_X9_loosen
set_option maxRecDepth 20000 in
theorem ggX9_findPlan_X9_isTight : GoodIn wsX9_findPlan wsX9_isTight := goodIn_r _ [48, 40, 27, 59, 60, 61, 62, 63, 64, 65, 66, 67, 68, 69, 70, 71, 72, 73, 74, 75, 76, 77, 78, 79, 80, 81, 82, 83, 84, 85, 86, 87, 88, 89] (by decide +kernel) (by decide +kernel)
set_option maxRecDepth 20000 in
theorem gX9_findPlan_X9_isTight : GoodIn wsX9_findPlan (wsV RX9 153 RX9 yX9_isTight wsX9_isTight) := goodIn_app (goodIn_of _ (by decide +kernel)) ggX9_findPlan_X9_isTight
set_option maxRecDepth 20000 in
theorem ggX9_findPlan_X9_canTurn : GoodIn wsX9_findPlan wsX9_canTurn := goodIn_r _ [52, 53, 26, 54, 1, 2, 13, 45, 46, 47, 6, 48, 40, 27, 59, 60, 61, 62, 63, 64, 65, 66, 67, 68, 69, 70, 71, 72, 73, 74, 75, 76, 77, 78, 79, 80, 81, 82, 83, 84, 85, 86, 87, 88, 89] (by decide +kernel) (by decide +kernel)
set_option maxRecDepth 20000 in
theorem gX9_findPlan_X9_canTurn : GoodIn wsX9_findPlan (wsV RX9 163 RX9 yX9_canTurn wsX9_canTurn) := goodIn_app (goodIn_of _ (by decide +kernel)) ggX9_findPlan_X9_canTurn
set_option maxRecDepth 20000 in
theorem ggX9_findPlan_X9_turn : GoodIn wsX9_findPlan wsX9_turn := goodIn_r _ [58, 25, 13, 26, 59, 60, 61, 62, 63, 64, 65, 66, 67, 68, 69, 70, 71, 72, 73, 74, 75, 76, 77, 78, 79, 80, 81, 82, 83, 84, 85, 86, 87, 88, 89] (by decide +kernel) (by decide +kernel)
set_option maxRecDepth 20000 in
theorem gX9_findPlan_X9_turn : GoodIn wsX9_findPlan (wsV RX9 166 RX9 yX9_turn wsX9_turn) := goodIn_app (goodIn_of _ (by decide +kernel)) ggX9_findPlan_X9_turn
set_option maxRecDepth 20000 in
theorem ggX9_plan_X9_isHeap : GoodIn wsX9_plan wsX9_isHeap := goodIn_r _ [6, 7, 8, 9, 5, 10, 91, 92, 93, 94, 95, 96, 97, 98, 99, 100, 101, 102, 103, 104, 105, 106, 107, 108, 109, 110, 111, 112, 113, 114, 115, 116, 117, 118, 119, 120, 121] (by decide +kernel) (by decide +kernel)
set_option maxRecDepth 20000 in
theorem gX9_plan_X9_isHeap : GoodIn wsX9_plan (wsV RX9 111 RX9 yX9_isHeap wsX9_isHeap) := goodIn_app (goodIn_of _ (by decide +kernel)) ggX9_plan_X9_isHeap
set_option maxRecDepth 20000 in
theorem ggX9_plan_X9_isPlace : GoodIn wsX9_plan wsX9_isPlace := goodIn_r _ [14, 15, 8, 9, 5, 10, 91, 92, 93, 94, 95, 96, 97, 98, 99, 100, 101, 102, 103, 104, 105, 106, 107, 108, 109, 110, 111, 112, 113, 114, 115, 116, 117, 118, 119, 120, 121] (by decide +kernel) (by decide +kernel)
set_option maxRecDepth 20000 in
theorem gX9_plan_X9_isPlace : GoodIn wsX9_plan (wsV RX9 104 RX9 yX9_isPlace wsX9_isPlace) := goodIn_app (goodIn_of _ (by decide +kernel)) ggX9_plan_X9_isPlace
set_option maxRecDepth 20000 in
theorem ggX9_plan_X9_against : GoodIn wsX9_plan wsX9_against := goodIn_r _ [19, 2, 3, 4, 5, 6, 7, 8, 9, 10, 20, 21, 22, 23, 15, 24, 25, 26, 27, 28, 29, 30, 31, 32, 33, 34, 35, 36, 37, 38, 91, 92, 93, 94, 95, 96, 97, 98, 99, 100, 101, 102, 103, 104, 105, 106, 107, 108, 109, 110, 111, 112, 113, 114, 115, 116, 117, 118, 119, 120, 121] (by decide +kernel) (by decide +kernel)
set_option maxRecDepth 20000 in
theorem gX9_plan_X9_against : GoodIn wsX9_plan (wsV RX9 146 RX9 yX9_against wsX9_against) := goodIn_app (goodIn_of _ (by decide +kernel)) ggX9_plan_X9_against
set_option maxRecDepth 20000 in
theorem ggX9_plan_X9_findPlan : GoodIn wsX9_plan wsX9_findPlan := goodIn_r _ [42, 15, 43, 34, 35, 36, 5, 37, 38, 44, 45, 46, 47, 1, 48, 49, 50, 51, 52, 53, 54, 55, 56, 57, 58, 25, 59, 24, 60, 61, 62, 63, 64, 65, 66, 67, 68, 69, 70, 71, 72, 73, 74, 75, 76, 77, 78, 79, 80, 81, 82, 83, 84, 85, 86, 87, 88, 89, 90, 91, 92, 93, 94, 95, 96, 97, 98, 99, 100, 101, 102, 103, 104, 105, 106, 107, 108, 109, 110, 111, 112, 113, 114, 115, 116, 117, 118, 119, 120, 121] (by decide +kernel) (by decide +kernel)
set_option maxRecDepth 20000 in
theorem gX9_plan_X9_findPlan : GoodIn wsX9_plan (wsV RX9 169 RX9 yX9_findPlan wsX9_findPlan) := goodIn_app (goodIn_of _ (by decide +kernel)) ggX9_plan_X9_findPlan
set_option maxRecDepth 20000 in
theorem ggX9_alone_X9_against : GoodIn wsX9_alone wsX9_against := goodIn_r _ [6, 7, 8, 9, 5, 10, 11, 12, 13, 14, 15, 16, 17, 18, 1, 19, 20, 21, 22, 23, 24, 25, 26, 27, 28, 29, 30, 31, 32, 33, 87, 88, 89, 90, 91, 92, 93, 94, 95, 96, 97, 98, 99, 100, 101, 102, 103, 104, 105, 106, 107, 108, 109, 110, 111, 112, 113, 114, 115, 116, 117] (by decide +kernel) (by decide +kernel)
set_option maxRecDepth 20000 in
theorem gX9_alone_X9_against : GoodIn wsX9_alone (wsV RX9 146 RX9 yX9_against wsX9_against) := goodIn_app (goodIn_of _ (by decide +kernel)) ggX9_alone_X9_against
set_option maxRecDepth 20000 in
theorem ggX9_alone_X9_findPlan : GoodIn wsX9_alone wsX9_findPlan := goodIn_r _ [37, 1, 38, 29, 30, 31, 5, 32, 33, 39, 40, 41, 42, 43, 44, 45, 46, 47, 48, 49, 50, 51, 52, 53, 54, 20, 55, 19, 56, 57, 58, 59, 60, 61, 62, 63, 64, 65, 66, 67, 68, 69, 70, 71, 72, 73, 74, 75, 76, 77, 78, 79, 80, 81, 82, 83, 84, 85, 86, 87, 88, 89, 90, 91, 92, 93, 94, 95, 96, 97, 98, 99, 100, 101, 102, 103, 104, 105, 106, 107, 108, 109, 110, 111, 112, 113, 114, 115, 116, 117] (by decide +kernel) (by decide +kernel)
set_option maxRecDepth 20000 in
theorem gX9_alone_X9_findPlan : GoodIn wsX9_alone (wsV RX9 169 RX9 yX9_findPlan wsX9_findPlan) := goodIn_app (goodIn_of _ (by decide +kernel)) ggX9_alone_X9_findPlan
set_option maxRecDepth 20000 in
theorem ggX9_alone_X9_loosen : GoodIn wsX9_alone wsX9_loosen := goodIn_r _ [72, 38, 87, 88, 89, 90, 91, 92, 93, 94, 95, 96, 97, 98, 99, 100, 101, 102, 103, 104, 105, 106, 107, 108, 109, 110, 111, 112, 113, 114, 115, 116, 117] (by decide +kernel) (by decide +kernel)
set_option maxRecDepth 20000 in
theorem gX9_alone_X9_loosen : GoodIn wsX9_alone (wsV RX9 160 RX9 yX9_loosen wsX9_loosen) := goodIn_app (goodIn_of _ (by decide +kernel)) ggX9_alone_X9_loosen
set_option maxRecDepth 20000 in
theorem ggX9_alone_X9_isTight : GoodIn wsX9_alone wsX9_isTight := goodIn_r _ [76, 68, 19, 87, 88, 89, 90, 91, 92, 93, 94, 95, 96, 97, 98, 99, 100, 101, 102, 103, 104, 105, 106, 107, 108, 109, 110, 111, 112, 113, 114, 115, 116, 117] (by decide +kernel) (by decide +kernel)
set_option maxRecDepth 20000 in
theorem gX9_alone_X9_isTight : GoodIn wsX9_alone (wsV RX9 153 RX9 yX9_isTight wsX9_isTight) := goodIn_app (goodIn_of _ (by decide +kernel)) ggX9_alone_X9_isTight
set_option maxRecDepth 20000 in
theorem ggX9_alone_X9_canTurn : GoodIn wsX9_alone wsX9_canTurn := goodIn_r _ [80, 81, 55, 82, 1, 38, 43, 73, 74, 75, 5, 76, 68, 19, 87, 88, 89, 90, 91, 92, 93, 94, 95, 96, 97, 98, 99, 100, 101, 102, 103, 104, 105, 106, 107, 108, 109, 110, 111, 112, 113, 114, 115, 116, 117] (by decide +kernel) (by decide +kernel)
set_option maxRecDepth 20000 in
theorem gX9_alone_X9_canTurn : GoodIn wsX9_alone (wsV RX9 163 RX9 yX9_canTurn wsX9_canTurn) := goodIn_app (goodIn_of _ (by decide +kernel)) ggX9_alone_X9_canTurn
set_option maxRecDepth 20000 in
theorem ggX9_height_X9_isPlace : GoodIn wsX9_height wsX9_isPlace := goodIn_r _ [7, 8, 9, 10, 6, 11, 69, 70, 71, 72, 73, 74, 75, 76, 77, 78, 79, 80, 81, 82, 83, 84, 85, 86, 87, 88, 89, 90, 91, 92, 93, 94, 95, 96, 97, 98, 99] (by decide +kernel) (by decide +kernel)
set_option maxRecDepth 20000 in
theorem gX9_height_X9_isPlace : GoodIn wsX9_height (wsV RX9 104 RX9 yX9_isPlace wsX9_isPlace) := goodIn_app (goodIn_of _ (by decide +kernel)) ggX9_height_X9_isPlace
set_option maxRecDepth 20000 in
theorem ggX9_height_X9_against : GoodIn wsX9_height wsX9_against := goodIn_r _ [15, 16, 17, 18, 6, 19, 20, 9, 10, 11, 21, 22, 23, 24, 8, 25, 26, 27, 28, 29, 30, 31, 32, 33, 34, 35, 36, 37, 38, 39, 69, 70, 71, 72, 73, 74, 75, 76, 77, 78, 79, 80, 81, 82, 83, 84, 85, 86, 87, 88, 89, 90, 91, 92, 93, 94, 95, 96, 97, 98, 99] (by decide +kernel) (by decide +kernel)
set_option maxRecDepth 20000 in
theorem gX9_height_X9_against : GoodIn wsX9_height (wsV RX9 146 RX9 yX9_against wsX9_against) := goodIn_app (goodIn_of _ (by decide +kernel)) ggX9_height_X9_against
set_option maxRecDepth 20000 in
theorem ggX9_height_X9_sumOf : GoodIn wsX9_height wsX9_sumOf := goodIn_r _ [38, 8, 39, 69, 70, 71, 72, 73, 74, 75, 76, 77, 78, 79, 80, 81, 82, 83, 84, 85, 86, 87, 88, 89, 90, 91, 92, 93, 94, 95, 96, 97, 98, 99] (by decide +kernel) (by decide +kernel)
set_option maxRecDepth 20000 in
theorem gX9_height_X9_sumOf : GoodIn wsX9_height (wsV RX9 123 RX9 yX9_sumOf wsX9_sumOf) := goodIn_app (goodIn_of _ (by decide +kernel)) ggX9_height_X9_sumOf
set_option maxRecDepth 20000 in
theorem ggX9_height_X9_solve : GoodIn wsX9_height wsX9_solve := goodIn_r _ [43, 44, 45, 46, 47, 6, 48, 8, 49, 39, 50, 51, 52, 53, 54, 55, 26, 56, 25, 57, 58, 59, 60, 61, 62, 63, 64, 69, 70, 71, 72, 73, 74, 75, 76, 77, 78, 79, 80, 81, 82, 83, 84, 85, 86, 87, 88, 89, 90, 91, 92, 93, 94, 95, 96, 97, 98, 99] (by decide +kernel) (by decide +kernel)
set_option maxRecDepth 20000 in
theorem gX9_height_X9_solve : GoodIn wsX9_height (wsV RX9 149 RX9 yX9_solve wsX9_solve) := goodIn_app (goodIn_of _ (by decide +kernel)) ggX9_height_X9_solve
set_option maxRecDepth 20000 in
theorem ggX9_height_X9_findHeights : GoodIn wsX9_height wsX9_findHeights := goodIn_r _ [68, 8, 2, 26, 25, 44, 69, 70, 71, 72, 73, 74, 75, 76, 77, 78, 79, 80, 81, 82, 83, 84, 85, 86, 87, 88, 89, 90, 91, 92, 93, 94, 95, 96, 97, 98, 99] (by decide +kernel) (by decide +kernel)
set_option maxRecDepth 20000 in
theorem gX9_height_X9_findHeights : GoodIn wsX9_height (wsV RX9 157 RX9 yX9_findHeights wsX9_findHeights) := goodIn_app (goodIn_of _ (by decide +kernel)) ggX9_height_X9_findHeights
set_option maxRecDepth 20000 in
theorem ggX9_load_X9_isHeap : GoodIn wsX9_load wsX9_isHeap := goodIn_r _ [7, 8, 9, 10, 6, 11, 95, 96, 97, 98, 99, 100, 101, 102, 103, 104, 105, 106, 107, 108, 109, 110, 111, 112, 113, 114, 115, 116, 117, 118, 119, 120, 121, 122, 123, 124, 125] (by decide +kernel) (by decide +kernel)
set_option maxRecDepth 20000 in
theorem gX9_load_X9_isHeap : GoodIn wsX9_load (wsV RX9 111 RX9 yX9_isHeap wsX9_isHeap) := goodIn_app (goodIn_of _ (by decide +kernel)) ggX9_load_X9_isHeap
set_option maxRecDepth 20000 in
theorem ggX9_load_X9_isPlace : GoodIn wsX9_load wsX9_isPlace := goodIn_r _ [15, 1, 9, 10, 6, 11, 95, 96, 97, 98, 99, 100, 101, 102, 103, 104, 105, 106, 107, 108, 109, 110, 111, 112, 113, 114, 115, 116, 117, 118, 119, 120, 121, 122, 123, 124, 125] (by decide +kernel) (by decide +kernel)
set_option maxRecDepth 20000 in
theorem gX9_load_X9_isPlace : GoodIn wsX9_load (wsV RX9 104 RX9 yX9_isPlace wsX9_isPlace) := goodIn_app (goodIn_of _ (by decide +kernel)) ggX9_load_X9_isPlace
set_option maxRecDepth 20000 in
theorem ggX9_load_X9_against : GoodIn wsX9_load wsX9_against := goodIn_r _ [19, 3, 4, 5, 6, 7, 8, 9, 10, 11, 20, 21, 22, 23, 1, 24, 25, 26, 27, 28, 29, 30, 31, 32, 33, 34, 35, 36, 37, 38, 95, 96, 97, 98, 99, 100, 101, 102, 103, 104, 105, 106, 107, 108, 109, 110, 111, 112, 113, 114, 115, 116, 117, 118, 119, 120, 121, 122, 123, 124, 125] (by decide +kernel) (by decide +kernel)
set_option maxRecDepth 20000 in
theorem gX9_load_X9_against : GoodIn wsX9_load (wsV RX9 146 RX9 yX9_against wsX9_against) := goodIn_app (goodIn_of _ (by decide +kernel)) ggX9_load_X9_against
set_option maxRecDepth 20000 in
theorem ggX9_load_X9_findPlan : GoodIn wsX9_load wsX9_findPlan := goodIn_r _ [42, 1, 43, 34, 35, 36, 6, 37, 38, 44, 45, 46, 47, 2, 48, 49, 50, 51, 52, 53, 54, 55, 56, 57, 58, 25, 59, 24, 60, 61, 62, 63, 64, 65, 66, 67, 68, 69, 70, 71, 72, 73, 74, 75, 76, 77, 78, 79, 80, 81, 82, 83, 84, 85, 86, 87, 88, 89, 90, 95, 96, 97, 98, 99, 100, 101, 102, 103, 104, 105, 106, 107, 108, 109, 110, 111, 112, 113, 114, 115, 116, 117, 118, 119, 120, 121, 122, 123, 124, 125] (by decide +kernel) (by decide +kernel)
set_option maxRecDepth 20000 in
theorem gX9_load_X9_findPlan : GoodIn wsX9_load (wsV RX9 169 RX9 yX9_findPlan wsX9_findPlan) := goodIn_app (goodIn_of _ (by decide +kernel)) ggX9_load_X9_findPlan
set_option maxRecDepth 20000 in
theorem ggX9_load_X9_nextTo : GoodIn wsX9_load wsX9_nextTo := goodIn_r _ [94, 30, 31, 32, 24, 25, 33, 95, 96, 97, 98, 99, 100, 101, 102, 103, 104, 105, 106, 107, 108, 109, 110, 111, 112, 113, 114, 115, 116, 117, 118, 119, 120, 121, 122, 123, 124, 125] (by decide +kernel) (by decide +kernel)
set_option maxRecDepth 20000 in
theorem gX9_load_X9_nextTo : GoodIn wsX9_load (wsV RX9 119 RX9 yX9_nextTo wsX9_nextTo) := goodIn_app (goodIn_of _ (by decide +kernel)) ggX9_load_X9_nextTo
set_option maxRecDepth 20000 in
theorem ggX9_fits_X9_begin : GoodIn wsX9_fits wsX9_begin := goodIn_r _ [8, 9, 2, 3, 10, 11, 24, 25, 26, 27, 28, 29, 30, 31, 32, 33, 34, 35, 36, 37, 38, 39, 40, 41, 42, 43, 44, 45, 46, 47, 48, 49, 50, 51, 52, 53, 54] (by decide +kernel) (by decide +kernel)
set_option maxRecDepth 20000 in
theorem gX9_fits_X9_begin : GoodIn wsX9_fits (wsV RX9 127 RX9 yX9_begin wsX9_begin) := goodIn_app (goodIn_of _ (by decide +kernel)) ggX9_fits_X9_begin
set_option maxRecDepth 20000 in
theorem ggX9_fits_X9_reach : GoodIn wsX9_fits wsX9_reach := goodIn_r _ [15, 2, 16, 3, 17, 18, 19, 9, 11, 24, 25, 26, 27, 28, 29, 30, 31, 32, 33, 34, 35, 36, 37, 38, 39, 40, 41, 42, 43, 44, 45, 46, 47, 48, 49, 50, 51, 52, 53, 54] (by decide +kernel) (by decide +kernel)
set_option maxRecDepth 20000 in
theorem gX9_fits_X9_reach : GoodIn wsX9_fits (wsV RX9 173 RX9 yX9_reach wsX9_reach) := goodIn_app (goodIn_of _ (by decide +kernel)) ggX9_fits_X9_reach
set_option maxRecDepth 20000 in
theorem ggX9_fits_X9_go : GoodIn wsX9_fits wsX9_go := goodIn_r _ [23, 11, 17, 9, 3, 24, 25, 26, 27, 28, 29, 30, 31, 32, 33, 34, 35, 36, 37, 38, 39, 40, 41, 42, 43, 44, 45, 46, 47, 48, 49, 50, 51, 52, 53, 54] (by decide +kernel) (by decide +kernel)
set_option maxRecDepth 20000 in
theorem gX9_fits_X9_go : GoodIn wsX9_fits (wsV RX9 135 RX9 yX9_go wsX9_go) := goodIn_app (goodIn_of _ (by decide +kernel)) ggX9_fits_X9_go
set_option maxRecDepth 20000 in
theorem ggX9_findFarthest_X9_fits : GoodIn wsX9_findFarthest wsX9_fits := goodIn_r _ [8, 1, 2, 9, 10, 11, 12, 7, 13, 14, 15, 16, 17, 18, 19, 20, 21, 22, 23, 3, 24, 25, 26, 27, 28, 29, 30, 31, 32, 33, 34, 35, 36, 37, 38, 39, 40, 41, 42, 43, 44, 45, 46, 47, 48, 49, 50, 51, 52, 53, 54, 55, 56, 57, 58] (by decide +kernel) (by decide +kernel)
set_option maxRecDepth 20000 in
theorem gX9_findFarthest_X9_fits : GoodIn wsX9_findFarthest (wsV RX9 176 RX9 yX9_fits wsX9_fits) := goodIn_app (goodIn_of _ (by decide +kernel)) ggX9_findFarthest_X9_fits
set_option maxRecDepth 20000 in
theorem ggX9_far_X9_against : GoodIn wsX9_far wsX9_against := goodIn_r _ [5, 6, 7, 8, 4, 9, 10, 11, 12, 13, 14, 15, 16, 17, 18, 19, 20, 21, 22, 23, 24, 25, 26, 27, 28, 29, 30, 31, 32, 33, 60, 61, 62, 63, 64, 65, 66, 67, 68, 69, 70, 71, 72, 73, 74, 75, 76, 77, 78, 79, 80, 81, 82, 83, 84, 85, 86, 87, 88, 89, 90] (by decide +kernel) (by decide +kernel)
set_option maxRecDepth 20000 in
theorem gX9_far_X9_against : GoodIn wsX9_far (wsV RX9 146 RX9 yX9_against wsX9_against) := goodIn_app (goodIn_of _ (by decide +kernel)) ggX9_far_X9_against
set_option maxRecDepth 20000 in
theorem ggX9_far_X9_findFarthest : GoodIn wsX9_far wsX9_findFarthest := goodIn_r _ [37, 20, 18, 19, 38, 39, 40, 4, 41, 42, 43, 44, 45, 46, 47, 33, 48, 49, 50, 51, 52, 53, 54, 55, 56, 57, 58, 59, 60, 61, 62, 63, 64, 65, 66, 67, 68, 69, 70, 71, 72, 73, 74, 75, 76, 77, 78, 79, 80, 81, 82, 83, 84, 85, 86, 87, 88, 89, 90] (by decide +kernel) (by decide +kernel)
set_option maxRecDepth 20000 in
theorem gX9_far_X9_findFarthest : GoodIn wsX9_far (wsV RX9 179 RX9 yX9_findFarthest wsX9_findFarthest) := goodIn_app (goodIn_of _ (by decide +kernel)) ggX9_far_X9_findFarthest
set_option maxRecDepth 20000 in
theorem ggX9_shown_X9_isHeap : GoodIn wsX9_shown wsX9_isHeap := goodIn_r _ [6, 7, 8, 9, 5, 10, 64, 65, 66, 67, 68, 69, 70, 71, 72, 73, 74, 75, 76, 77, 78, 79, 80, 81, 82, 83, 84, 85, 86, 87, 88, 89, 90, 91, 92, 93, 94] (by decide +kernel) (by decide +kernel)
set_option maxRecDepth 20000 in
theorem gX9_shown_X9_isHeap : GoodIn wsX9_shown (wsV RX9 111 RX9 yX9_isHeap wsX9_isHeap) := goodIn_app (goodIn_of _ (by decide +kernel)) ggX9_shown_X9_isHeap
set_option maxRecDepth 20000 in
theorem ggX9_shown_X9_isPlace : GoodIn wsX9_shown wsX9_isPlace := goodIn_r _ [14, 15, 8, 9, 5, 10, 64, 65, 66, 67, 68, 69, 70, 71, 72, 73, 74, 75, 76, 77, 78, 79, 80, 81, 82, 83, 84, 85, 86, 87, 88, 89, 90, 91, 92, 93, 94] (by decide +kernel) (by decide +kernel)
set_option maxRecDepth 20000 in
theorem gX9_shown_X9_isPlace : GoodIn wsX9_shown (wsV RX9 104 RX9 yX9_isPlace wsX9_isPlace) := goodIn_app (goodIn_of _ (by decide +kernel)) ggX9_shown_X9_isPlace
set_option maxRecDepth 20000 in
theorem ggX9_shown_X9_against : GoodIn wsX9_shown wsX9_against := goodIn_r _ [19, 2, 3, 4, 5, 6, 7, 8, 9, 10, 20, 21, 22, 23, 15, 24, 25, 26, 27, 28, 29, 30, 31, 32, 33, 34, 35, 36, 37, 38, 64, 65, 66, 67, 68, 69, 70, 71, 72, 73, 74, 75, 76, 77, 78, 79, 80, 81, 82, 83, 84, 85, 86, 87, 88, 89, 90, 91, 92, 93, 94] (by decide +kernel) (by decide +kernel)
set_option maxRecDepth 20000 in
theorem gX9_shown_X9_against : GoodIn wsX9_shown (wsV RX9 146 RX9 yX9_against wsX9_against) := goodIn_app (goodIn_of _ (by decide +kernel)) ggX9_shown_X9_against
set_option maxRecDepth 20000 in
theorem ggX9_shown_X9_findFarthest : GoodIn wsX9_shown wsX9_findFarthest := goodIn_r _ [42, 25, 15, 24, 43, 44, 45, 5, 46, 47, 48, 49, 50, 51, 52, 38, 53, 54, 55, 56, 57, 1, 58, 59, 60, 61, 62, 63, 64, 65, 66, 67, 68, 69, 70, 71, 72, 73, 74, 75, 76, 77, 78, 79, 80, 81, 82, 83, 84, 85, 86, 87, 88, 89, 90, 91, 92, 93, 94] (by decide +kernel) (by decide +kernel)
set_option maxRecDepth 20000 in
theorem gX9_shown_X9_findFarthest : GoodIn wsX9_shown (wsV RX9 179 RX9 yX9_findFarthest wsX9_findFarthest) := goodIn_app (goodIn_of _ (by decide +kernel)) ggX9_shown_X9_findFarthest
set_option maxRecDepth 20000 in
theorem ggX9_shown_X9_fits : GoodIn wsX9_shown wsX9_fits := goodIn_r _ [46, 25, 15, 47, 48, 49, 50, 5, 51, 52, 38, 53, 54, 55, 56, 57, 1, 58, 59, 24, 60, 61, 62, 63, 64, 65, 66, 67, 68, 69, 70, 71, 72, 73, 74, 75, 76, 77, 78, 79, 80, 81, 82, 83, 84, 85, 86, 87, 88, 89, 90, 91, 92, 93, 94] (by decide +kernel) (by decide +kernel)
set_option maxRecDepth 20000 in
theorem gX9_shown_X9_fits : GoodIn wsX9_shown (wsV RX9 176 RX9 yX9_fits wsX9_fits) := goodIn_app (goodIn_of _ (by decide +kernel)) ggX9_shown_X9_fits
set_option maxRecDepth 20000 in
theorem ggX9_some_X9_isHeap : GoodIn wsX9_some wsX9_isHeap := goodIn_r _ [5, 6, 7, 8, 4, 9, 55, 56, 57, 58, 59, 60, 61, 62, 63, 64, 65, 66, 67, 68, 69, 70, 71, 72, 73, 74, 75, 76, 77, 78, 79, 80, 81, 82, 83, 84, 85] (by decide +kernel) (by decide +kernel)
set_option maxRecDepth 20000 in
theorem gX9_some_X9_isHeap : GoodIn wsX9_some (wsV RX9 111 RX9 yX9_isHeap wsX9_isHeap) := goodIn_app (goodIn_of _ (by decide +kernel)) ggX9_some_X9_isHeap
set_option maxRecDepth 20000 in
theorem ggX9_some_X9_sumOf : GoodIn wsX9_some wsX9_sumOf := goodIn_r _ [13, 14, 15, 55, 56, 57, 58, 59, 60, 61, 62, 63, 64, 65, 66, 67, 68, 69, 70, 71, 72, 73, 74, 75, 76, 77, 78, 79, 80, 81, 82, 83, 84, 85] (by decide +kernel) (by decide +kernel)
set_option maxRecDepth 20000 in
theorem gX9_some_X9_sumOf : GoodIn wsX9_some (wsV RX9 123 RX9 yX9_sumOf wsX9_sumOf) := goodIn_app (goodIn_of _ (by decide +kernel)) ggX9_some_X9_sumOf
set_option maxRecDepth 20000 in
theorem ggX9_some_X9_in : GoodIn wsX9_some wsX9_in := goodIn_r _ [9] (by decide +kernel) (by decide +kernel)
set_option maxRecDepth 20000 in
theorem gX9_some_X9_in : GoodIn wsX9_some (va_wsS RX9 90 yX9_in wsX9_in) := goodIn_app (goodIn_of _ (by decide +kernel)) ggX9_some_X9_in
set_option maxRecDepth 20000 in
theorem ggX9_some_X9_isJoined : GoodIn wsX9_some wsX9_isJoined := goodIn_r _ [19, 14, 20, 21, 22, 23, 24, 4, 25, 26, 27, 28, 29, 55, 56, 57, 58, 59, 60, 61, 62, 63, 64, 65, 66, 67, 68, 69, 70, 71, 72, 73, 74, 75, 76, 77, 78, 79, 80, 81, 82, 83, 84, 85] (by decide +kernel) (by decide +kernel)
set_option maxRecDepth 20000 in
theorem gX9_some_X9_isJoined : GoodIn wsX9_some (wsV RX9 142 RX9 yX9_isJoined wsX9_isJoined) := goodIn_app (goodIn_of _ (by decide +kernel)) ggX9_some_X9_isJoined
set_option maxRecDepth 20000 in
theorem ggX9_some_X9_solve : GoodIn wsX9_some wsX9_solve := goodIn_r _ [33, 34, 35, 36, 37, 4, 38, 14, 39, 15, 40, 41, 42, 43, 44, 45, 21, 46, 20, 47, 48, 49, 50, 51, 52, 53, 54, 55, 56, 57, 58, 59, 60, 61, 62, 63, 64, 65, 66, 67, 68, 69, 70, 71, 72, 73, 74, 75, 76, 77, 78, 79, 80, 81, 82, 83, 84, 85] (by decide +kernel) (by decide +kernel)
set_option maxRecDepth 20000 in
theorem gX9_some_X9_solve : GoodIn wsX9_some (wsV RX9 149 RX9 yX9_solve wsX9_solve) := goodIn_app (goodIn_of _ (by decide +kernel)) ggX9_some_X9_solve
set_option maxRecDepth 20000 in
theorem ggX9_gated_X9_against : GoodIn wsX9_gated wsX9_against := goodIn_r _ [15, 16, 17, 18, 14, 19, 20, 21, 22, 23, 24, 25, 26, 27, 2, 28, 5, 29, 30, 31, 32, 6, 7, 8, 9, 33, 34, 35, 36, 3, 54, 55, 56, 57, 58, 59, 60, 61, 62, 63, 64, 65, 66, 67, 68, 69, 70, 71, 72, 73, 74, 75, 76, 77, 78, 79, 80, 81, 82, 83, 84] (by decide +kernel) (by decide +kernel)
set_option maxRecDepth 20000 in
theorem gX9_gated_X9_against : GoodIn wsX9_gated (wsV RX9 146 RX9 yX9_against wsX9_against) := goodIn_app (goodIn_of _ (by decide +kernel)) ggX9_gated_X9_against
set_option maxRecDepth 20000 in
theorem ggX9_gated_X9_arc : GoodIn wsX9_gated wsX9_arc := goodIn_r _ [40, 41, 1, 42, 43, 44, 54, 55, 56, 57, 58, 59, 60, 61, 62, 63, 64, 65, 66, 67, 68, 69, 70, 71, 72, 73, 74, 75, 76, 77, 78, 79, 80, 81, 82, 83, 84] (by decide +kernel) (by decide +kernel)
set_option maxRecDepth 20000 in
theorem gX9_gated_X9_arc : GoodIn wsX9_gated (wsV RX9 185 RX9 yX9_arc wsX9_arc) := goodIn_app (goodIn_of _ (by decide +kernel)) ggX9_gated_X9_arc
set_option maxRecDepth 20000 in
theorem ggX9_gated_X9_hasNetWay : GoodIn wsX9_gated wsX9_hasNetWay := goodIn_r _ [48, 10, 5, 49, 1, 41, 43, 44, 42, 54, 55, 56, 57, 58, 59, 60, 61, 62, 63, 64, 65, 66, 67, 68, 69, 70, 71, 72, 73, 74, 75, 76, 77, 78, 79, 80, 81, 82, 83, 84] (by decide +kernel) (by decide +kernel)
set_option maxRecDepth 20000 in
theorem gX9_gated_X9_hasNetWay : GoodIn wsX9_gated (wsV RX9 189 RX9 yX9_hasNetWay wsX9_hasNetWay) := goodIn_app (goodIn_of _ (by decide +kernel)) ggX9_gated_X9_hasNetWay
set_option maxRecDepth 20000 in
theorem ggX9_gated_X9_goNet : GoodIn wsX9_gated wsX9_goNet := goodIn_r _ [53, 5, 43, 49, 41, 54, 55, 56, 57, 58, 59, 60, 61, 62, 63, 64, 65, 66, 67, 68, 69, 70, 71, 72, 73, 74, 75, 76, 77, 78, 79, 80, 81, 82, 83, 84] (by decide +kernel) (by decide +kernel)
set_option maxRecDepth 20000 in
theorem gX9_gated_X9_goNet : GoodIn wsX9_gated (wsV RX9 192 RX9 yX9_goNet wsX9_goNet) := goodIn_app (goodIn_of _ (by decide +kernel)) ggX9_gated_X9_goNet
set_option maxRecDepth 20000 in
theorem ggX9_draft_X9_isPlace : GoodIn wsX9_draft wsX9_isPlace := goodIn_r _ [6, 7, 8, 9, 5, 10, 11, 12, 13, 14, 15, 16, 17, 18, 19, 20, 21, 22, 23, 24, 25, 26, 27, 28, 29, 30, 31, 32, 33, 34, 35, 36, 37, 38, 39, 40, 41] (by decide +kernel) (by decide +kernel)
set_option maxRecDepth 20000 in
theorem gX9_draft_X9_isPlace : GoodIn wsX9_draft (wsV RX9 104 RX9 yX9_isPlace wsX9_isPlace) := goodIn_app (goodIn_of _ (by decide +kernel)) ggX9_draft_X9_isPlace
set_option maxRecDepth 20000 in
theorem ggX9_draft_X9_in : GoodIn wsX9_draft wsX9_in := goodIn_r _ [10] (by decide +kernel) (by decide +kernel)
set_option maxRecDepth 20000 in
theorem gX9_draft_X9_in : GoodIn wsX9_draft (va_wsS RX9 90 yX9_in wsX9_in) := goodIn_app (goodIn_of _ (by decide +kernel)) ggX9_draft_X9_in
set_option maxRecDepth 20000 in
theorem ggX9_copy_X9_against : GoodIn wsX9_copy wsX9_against := goodIn_r _ [7, 8, 9, 10, 6, 11, 12, 13, 14, 15, 16, 17, 18, 19, 20, 21, 22, 23, 24, 25, 26, 27, 28, 29, 30, 31, 32, 33, 34, 35, 88, 89, 90, 91, 92, 93, 94, 95, 96, 97, 98, 99, 100, 101, 102, 103, 104, 105, 106, 107, 108, 109, 110, 111, 112, 113, 114, 115, 116, 117, 118] (by decide +kernel) (by decide +kernel)
set_option maxRecDepth 20000 in
theorem gX9_copy_X9_against : GoodIn wsX9_copy (wsV RX9 146 RX9 yX9_against wsX9_against) := goodIn_app (goodIn_of _ (by decide +kernel)) ggX9_copy_X9_against
set_option maxRecDepth 20000 in
theorem ggX9_copy_X9_findPlan : GoodIn wsX9_copy wsX9_findPlan := goodIn_r _ [39, 20, 40, 31, 32, 33, 6, 34, 35, 41, 42, 43, 44, 2, 45, 46, 47, 48, 49, 50, 51, 52, 53, 54, 55, 22, 56, 21, 57, 58, 59, 60, 61, 62, 63, 64, 65, 66, 67, 68, 69, 70, 71, 72, 73, 74, 75, 76, 77, 78, 79, 80, 81, 82, 83, 84, 85, 86, 87, 88, 89, 90, 91, 92, 93, 94, 95, 96, 97, 98, 99, 100, 101, 102, 103, 104, 105, 106, 107, 108, 109, 110, 111, 112, 113, 114, 115, 116, 117, 118] (by decide +kernel) (by decide +kernel)
set_option maxRecDepth 20000 in
theorem gX9_copy_X9_findPlan : GoodIn wsX9_copy (wsV RX9 169 RX9 yX9_findPlan wsX9_findPlan) := goodIn_app (goodIn_of _ (by decide +kernel)) ggX9_copy_X9_findPlan
set_option maxRecDepth 20000 in
theorem ggX9_judge_X9_against : GoodIn wsX9_judge wsX9_against := goodIn_r _ [9, 10, 11, 12, 8, 13, 14, 15, 16, 17, 18, 19, 20, 21, 1, 22, 23, 24, 25, 26, 27, 28, 29, 30, 31, 32, 33, 34, 35, 2, 65, 66, 67, 68, 69, 70, 71, 72, 73, 74, 75, 76, 77, 78, 79, 80, 81, 82, 83, 84, 85, 86, 87, 88, 89, 90, 91, 92, 93, 94, 95] (by decide +kernel) (by decide +kernel)
set_option maxRecDepth 20000 in
theorem gX9_judge_X9_against : GoodIn wsX9_judge (wsV RX9 146 RX9 yX9_against wsX9_against) := goodIn_app (goodIn_of _ (by decide +kernel)) ggX9_judge_X9_against
set_option maxRecDepth 20000 in
theorem ggX9_judge_X9_drafted : GoodIn wsX9_judge wsX9_drafted := goodIn_r _ [39, 1, 4, 65, 66, 67, 68, 69, 70, 71, 72, 73, 74, 75, 76, 77, 78, 79, 80, 81, 82, 83, 84, 85, 86, 87, 88, 89, 90, 91, 92, 93, 94, 95] (by decide +kernel) (by decide +kernel)
set_option maxRecDepth 20000 in
theorem gX9_judge_X9_drafted : GoodIn wsX9_judge (wsV RX9 195 RX9 yX9_drafted wsX9_drafted) := goodIn_app (goodIn_of _ (by decide +kernel)) ggX9_judge_X9_drafted
set_option maxRecDepth 20000 in
theorem ggX9_judge_X9_costOf : GoodIn wsX9_judge wsX9_costOf := goodIn_r _ [43, 1, 22, 65, 66, 67, 68, 69, 70, 71, 72, 73, 74, 75, 76, 77, 78, 79, 80, 81, 82, 83, 84, 85, 86, 87, 88, 89, 90, 91, 92, 93, 94, 95] (by decide +kernel) (by decide +kernel)
set_option maxRecDepth 20000 in
theorem gX9_judge_X9_costOf : GoodIn wsX9_judge (wsV RX9 138 RX9 yX9_costOf wsX9_costOf) := goodIn_app (goodIn_of _ (by decide +kernel)) ggX9_judge_X9_costOf
set_option maxRecDepth 20000 in
theorem ggX9_judge_X9_sumOf : GoodIn wsX9_judge wsX9_sumOf := goodIn_r _ [35, 1, 2, 65, 66, 67, 68, 69, 70, 71, 72, 73, 74, 75, 76, 77, 78, 79, 80, 81, 82, 83, 84, 85, 86, 87, 88, 89, 90, 91, 92, 93, 94, 95] (by decide +kernel) (by decide +kernel)
set_option maxRecDepth 20000 in
theorem gX9_judge_X9_sumOf : GoodIn wsX9_judge (wsV RX9 123 RX9 yX9_sumOf wsX9_sumOf) := goodIn_app (goodIn_of _ (by decide +kernel)) ggX9_judge_X9_sumOf
set_option maxRecDepth 20000 in
theorem ggX9_judge_X9_solve : GoodIn wsX9_judge wsX9_solve := goodIn_r _ [47, 48, 49, 50, 51, 8, 52, 1, 53, 2, 54, 55, 56, 57, 58, 59, 23, 60, 22, 61, 62, 63, 64, 40, 41, 42, 43, 65, 66, 67, 68, 69, 70, 71, 72, 73, 74, 75, 76, 77, 78, 79, 80, 81, 82, 83, 84, 85, 86, 87, 88, 89, 90, 91, 92, 93, 94, 95] (by decide +kernel) (by decide +kernel)
set_option maxRecDepth 20000 in
theorem gX9_judge_X9_solve : GoodIn wsX9_judge (wsV RX9 149 RX9 yX9_solve wsX9_solve) := goodIn_app (goodIn_of _ (by decide +kernel)) ggX9_judge_X9_solve
set_option maxRecDepth 20000 in
theorem ggX9_count_X9_isJoined : GoodIn wsX9_count wsX9_isJoined := goodIn_r _ [10, 1, 11, 12, 13, 14, 15, 9, 16, 2, 17, 18, 19, 20, 21, 22, 23, 24, 25, 26, 27, 28, 29, 30, 31, 32, 33, 34, 35, 36, 37, 38, 39, 40, 41, 42, 43, 44, 45, 46, 47, 48, 49, 50] (by decide +kernel) (by decide +kernel)
set_option maxRecDepth 20000 in
theorem gX9_count_X9_isJoined : GoodIn wsX9_count (wsV RX9 142 RX9 yX9_isJoined wsX9_isJoined) := goodIn_app (goodIn_of _ (by decide +kernel)) ggX9_count_X9_isJoined
set_option maxRecDepth 20000 in
theorem ggL_law_X8_init : GoodIn wsL_law wsX8_init := goodIn_r _ [8, 9, 10, 11, 12, 13, 14, 15, 16, 17, 18, 19, 20, 21, 22, 23, 24, 25, 26, 27, 28, 29, 30, 31, 32, 33, 34, 35, 36, 37, 38, 39, 40, 41, 42, 43, 44, 45, 46, 47, 48, 49, 50, 51, 52, 53, 54, 55, 56, 57, 58, 59, 60, 61, 62, 63, 64, 65, 66, 67, 68, 69, 70, 71, 72, 73, 74, 75, 76, 77, 78, 79, 80, 81, 82, 83, 84, 85, 86, 87, 88, 89, 90, 91, 92, 93, 94, 95, 96, 97, 98, 99, 100, 101, 102, 103, 104, 811, 812, 813, 814, 815, 816, 817, 818, 768, 769, 770, 771, 772, 773, 774, 775, 776, 777, 778, 779, 819, 820, 821, 822, 823, 824, 825, 826, 827, 828, 829, 830, 831, 832, 833, 834, 835, 836, 837, 838, 839, 840, 841, 842, 843, 844, 845] (by decide +kernel) (by decide +kernel)
set_option maxRecDepth 20000 in
theorem gL_law_X8_init : GoodIn wsL_law (wsX8_init) := ggL_law_X8_init
set_option maxRecDepth 20000 in
theorem ggL_law_X9_init : GoodIn wsL_law wsX9_init := goodIn_r _ [107, 108, 10, 11, 49, 109, 110, 111, 112, 113, 114, 115, 116, 117, 118, 119, 120, 121, 122, 123, 124, 125, 126, 127, 128, 129, 130, 131, 132, 133, 134, 780, 781, 782, 783, 784, 785, 786, 787, 788, 789, 790, 791, 792, 793, 794, 795, 796, 797, 798, 799, 800, 801, 802, 803, 804, 805, 806, 807, 808, 809, 810] (by decide +kernel) (by decide +kernel)
set_option maxRecDepth 20000 in
theorem gL_law_X9_init : GoodIn wsL_law (wsX9_init) := ggL_law_X9_init
set_option maxRecDepth 20000 in
theorem ggL_law_X8_place : GoodIn wsL_law wsX8_place := goodIn_r _ [138, 15, 139, 140, 141, 142, 14, 143, 144, 145, 146, 147, 148, 55, 56, 149, 150, 151, 152, 153, 154, 155, 156, 157, 158, 50, 51, 52, 159, 160, 161, 162, 163, 164, 165, 166, 167, 168, 169, 170, 171, 172, 173, 2, 174, 23, 175, 176, 177, 22, 178, 179, 180, 65, 66, 67, 68, 181, 182, 183, 184, 40, 42, 768, 769, 770, 771, 772, 773, 774, 775, 776, 777, 778, 779, 811, 812, 813, 814, 815, 816, 817, 818, 821, 822, 823, 824, 825, 826] (by decide +kernel) (by decide +kernel)
set_option maxRecDepth 20000 in
theorem gL_law_X8_place : GoodIn wsL_law (wsV RL 13 RX8 yX8_place wsX8_place) := goodIn_app (goodIn_of _ (by decide +kernel)) ggL_law_X8_place
set_option maxRecDepth 20000 in
theorem ggL_law_X9_place : GoodIn wsL_law wsX9_place := goodIn_r _ [188, 189, 113, 112, 190, 191, 192, 5, 193, 194, 115, 116, 117, 780, 781, 782, 783, 784, 785, 786, 787, 788, 789, 790, 791, 792, 793, 794, 795, 796, 797, 798, 799, 800, 801, 802, 803, 804, 805, 806, 807, 808, 809, 810] (by decide +kernel) (by decide +kernel)
set_option maxRecDepth 20000 in
theorem gL_law_X9_place : GoodIn wsL_law (wsV RL 17 RX9 yX9_place wsX9_place) := goodIn_app (goodIn_of _ (by decide +kernel)) ggL_law_X9_place
set_option maxRecDepth 20000 in
theorem ggL_law_X8_road : GoodIn wsL_law wsX8_road := goodIn_r _ [198, 15, 199, 200, 201, 202, 14, 203, 144, 204, 205, 206, 207, 158, 50, 51, 52, 145, 146, 147, 148, 55, 56, 149, 150, 151, 152, 153, 154, 155, 156, 157, 159, 160, 161, 162, 163, 164, 165, 166, 167, 168, 169, 170, 171, 172, 173, 2, 174, 23, 175, 176, 177, 22, 178, 179, 180, 65, 66, 67, 68, 181, 182, 183, 184, 40, 42, 768, 769, 770, 771, 772, 773, 774, 775, 776, 777, 778, 779, 811, 812, 813, 814, 815, 816, 817, 818, 821, 822, 823, 824, 825, 826] (by decide +kernel) (by decide +kernel)
set_option maxRecDepth 20000 in
theorem gL_law_X8_road : GoodIn wsL_law (wsV RL 18 RX8 yX8_road wsX8_road) := goodIn_app (goodIn_of _ (by decide +kernel)) ggL_law_X8_road
set_option maxRecDepth 20000 in
theorem ggL_law_X9_road : GoodIn wsL_law wsX9_road := goodIn_r _ [211, 212, 109, 110, 111, 213, 214, 215, 5, 216, 189, 217, 218, 219, 190, 191, 192, 193, 194, 115, 116, 117, 780, 781, 782, 783, 784, 785, 786, 787, 788, 789, 790, 791, 792, 793, 794, 795, 796, 797, 798, 799, 800, 801, 802, 803, 804, 805, 806, 807, 808, 809, 810] (by decide +kernel) (by decide +kernel)
set_option maxRecDepth 20000 in
theorem gL_law_X9_road : GoodIn wsL_law (wsV RL 22 RX9 yX9_road wsX9_road) := goodIn_app (goodIn_of _ (by decide +kernel)) ggL_law_X9_road
set_option maxRecDepth 20000 in
theorem ggL_law_X8_heap : GoodIn wsL_law wsX8_heap := goodIn_r _ [223, 19, 224, 171, 172, 173, 2, 174, 23, 175, 176, 177, 22, 178, 179, 180, 65, 66, 67, 68, 181, 182, 183, 184, 40, 42, 768, 769, 770, 771, 772, 773, 774, 775, 776, 777, 778, 779, 819, 820, 821, 822, 823, 824, 825, 826] (by decide +kernel) (by decide +kernel)
set_option maxRecDepth 20000 in
theorem gL_law_X8_heap : GoodIn wsL_law (wsV RL 23 RX8 yX8_heap wsX8_heap) := goodIn_app (goodIn_of _ (by decide +kernel)) ggL_law_X8_heap
set_option maxRecDepth 20000 in
theorem ggL_law_X9_heap : GoodIn wsL_law wsX9_heap := goodIn_r _ [228, 229, 112, 190, 191, 192, 5, 193, 194, 115, 116, 117, 780, 781, 782, 783, 784, 785, 786, 787, 788, 789, 790, 791, 792, 793, 794, 795, 796, 797, 798, 799, 800, 801, 802, 803, 804, 805, 806, 807, 808, 809, 810] (by decide +kernel) (by decide +kernel)
set_option maxRecDepth 20000 in
theorem gL_law_X9_heap : GoodIn wsL_law (wsV RL 26 RX9 yX9_heap wsX9_heap) := goodIn_app (goodIn_of _ (by decide +kernel)) ggL_law_X9_heap
set_option maxRecDepth 20000 in
theorem ggL_law_X8_set : GoodIn wsL_law wsX8_set := goodIn_r _ [233, 19, 15, 234, 235, 236, 237, 18, 238, 239, 200, 201, 202, 14, 203, 144, 171, 172, 173, 2, 174, 23, 175, 176, 177, 22, 178, 179, 180, 65, 66, 67, 68, 181, 182, 183, 184, 40, 42, 768, 769, 770, 771, 772, 773, 774, 775, 776, 777, 778, 779, 819, 820, 811, 812, 813, 814, 815, 816, 817, 818, 821, 822, 823, 824, 825, 826] (by decide +kernel) (by decide +kernel)
set_option maxRecDepth 20000 in
theorem gL_law_X8_set : GoodIn wsL_law (wsV RL 27 RX8 yX8_set wsX8_set) := goodIn_app (goodIn_of _ (by decide +kernel)) ggL_law_X8_set
set_option maxRecDepth 20000 in
theorem ggL_law_X9_set : GoodIn wsL_law wsX9_set := goodIn_r _ [243, 112, 244, 245, 246, 5, 247, 229, 217, 218, 219, 213, 214, 215, 216, 189, 190, 191, 192, 193, 194, 115, 116, 117, 780, 781, 782, 783, 784, 785, 786, 787, 788, 789, 790, 791, 792, 793, 794, 795, 796, 797, 798, 799, 800, 801, 802, 803, 804, 805, 806, 807, 808, 809, 810] (by decide +kernel) (by decide +kernel)
set_option maxRecDepth 20000 in
theorem gL_law_X9_set : GoodIn wsL_law (wsV RL 30 RX9 yX9_set wsX9_set) := goodIn_app (goodIn_of _ (by decide +kernel)) ggL_law_X9_set
set_option maxRecDepth 20000 in
theorem ggL_law_X8_gate : GoodIn wsL_law wsX8_gate := goodIn_r _ [251, 15, 252, 253, 200, 201, 202, 14, 203, 144, 171, 172, 173, 2, 174, 23, 175, 176, 177, 22, 178, 179, 180, 65, 66, 67, 68, 181, 182, 183, 184, 40, 42, 768, 769, 770, 771, 772, 773, 774, 775, 776, 777, 778, 779, 811, 812, 813, 814, 815, 816, 817, 818, 821, 822, 823, 824, 825, 826] (by decide +kernel) (by decide +kernel)
set_option maxRecDepth 20000 in
theorem gL_law_X8_gate : GoodIn wsL_law (wsV RL 31 RX8 yX8_gate wsX8_gate) := goodIn_app (goodIn_of _ (by decide +kernel)) ggL_law_X8_gate
set_option maxRecDepth 20000 in
theorem ggL_law_X9_gate : GoodIn wsL_law wsX9_gate := goodIn_r _ [257, 258, 113, 213, 214, 215, 5, 216, 189, 217, 218, 219, 190, 191, 192, 193, 194, 115, 116, 117, 780, 781, 782, 783, 784, 785, 786, 787, 788, 789, 790, 791, 792, 793, 794, 795, 796, 797, 798, 799, 800, 801, 802, 803, 804, 805, 806, 807, 808, 809, 810] (by decide +kernel) (by decide +kernel)
set_option maxRecDepth 20000 in
theorem gL_law_X9_gate : GoodIn wsL_law (wsV RL 35 RX9 yX9_gate wsX9_gate) := goodIn_app (goodIn_of _ (by decide +kernel)) ggL_law_X9_gate
set_option maxRecDepth 20000 in
theorem ggL_law_X8_undo : GoodIn wsL_law wsX8_undo := goodIn_r _ [262, 23, 263, 264, 265, 266, 22, 267, 180, 179, 268, 269, 270, 2, 271, 272, 273, 274, 15, 27, 19, 224, 234, 275, 253, 276, 277, 278, 14, 279, 144, 280, 281, 282, 26, 283, 73, 284, 285, 286, 287, 158, 145, 146, 147, 148, 55, 56, 149, 150, 151, 152, 153, 154, 155, 156, 157, 50, 51, 52, 159, 160, 161, 162, 163, 164, 165, 166, 167, 168, 169, 170, 181, 182, 183, 184, 40, 42, 768, 769, 770, 771, 772, 773, 774, 775, 776, 777, 778, 779, 821, 822, 823, 824, 825, 826, 819, 820, 811, 812, 813, 814, 815, 816, 817, 818, 827] (by decide +kernel) (by decide +kernel)
set_option maxRecDepth 20000 in
theorem gL_law_X8_undo : GoodIn wsL_law (wsV RL 36 RX8 yX8_undo wsX8_undo) := goodIn_app (goodIn_of _ (by decide +kernel)) ggL_law_X8_undo
set_option maxRecDepth 20000 in
theorem ggL_law_X9_undo : GoodIn wsL_law wsX9_undo := goodIn_r _ [291, 194, 115, 116, 189, 114, 212, 229, 112, 117, 113, 780, 781, 782, 783, 784, 785, 786, 787, 788, 789, 790, 791, 792, 793, 794, 795, 796, 797, 798, 799, 800, 801, 802, 803, 804, 805, 806, 807, 808, 809, 810] (by decide +kernel) (by decide +kernel)
set_option maxRecDepth 20000 in
theorem gL_law_X9_undo : GoodIn wsL_law (wsV RL 39 RX9 yX9_undo wsX9_undo) := goodIn_app (goodIn_of _ (by decide +kernel)) ggL_law_X9_undo
set_option maxRecDepth 20000 in
theorem ggL_law_X8_apart : GoodIn wsL_law wsX8_apart := goodIn_r _ [295, 15, 296, 297, 200, 201, 202, 14, 203, 144, 768, 769, 770, 771, 772, 773, 774, 775, 776, 777, 778, 779, 811, 812, 813, 814, 815, 816, 817, 818] (by decide +kernel) (by decide +kernel)
set_option maxRecDepth 20000 in
theorem gL_law_X8_apart : GoodIn wsL_law (wsV RL 40 RX8 yX8_apart wsX8_apart) := goodIn_app (goodIn_of _ (by decide +kernel)) ggL_law_X8_apart
set_option maxRecDepth 20000 in
theorem ggL_law_X9_apart : GoodIn wsL_law wsX9_apart := goodIn_r _ [301, 118, 302, 213, 214, 215, 5, 216, 189, 217, 218, 219, 303, 304, 305, 306, 212, 109, 110, 111, 780, 781, 782, 783, 784, 785, 786, 787, 788, 789, 790, 791, 792, 793, 794, 795, 796, 797, 798, 799, 800, 801, 802, 803, 804, 805, 806, 807, 808, 809, 810] (by decide +kernel) (by decide +kernel)
set_option maxRecDepth 20000 in
theorem gL_law_X9_apart : GoodIn wsL_law (wsV RL 43 RX9 yX9_apart wsX9_apart) := goodIn_app (goodIn_of _ (by decide +kernel)) ggL_law_X9_apart
set_option maxRecDepth 20000 in
theorem ggL_law_X8_next : GoodIn wsL_law wsX8_next := goodIn_r _ [310, 15, 200, 201, 202, 14, 203, 144, 311, 312, 313, 314, 56, 157, 55, 768, 769, 770, 771, 772, 773, 774, 775, 776, 777, 778, 779, 811, 812, 813, 814, 815, 816, 817, 818] (by decide +kernel) (by decide +kernel)
set_option maxRecDepth 20000 in
theorem gL_law_X8_next : GoodIn wsL_law (wsV RL 44 RX8 yX8_next wsX8_next) := goodIn_app (goodIn_of _ (by decide +kernel)) ggL_law_X8_next
set_option maxRecDepth 20000 in
theorem ggL_law_X9_next : GoodIn wsL_law wsX9_next := goodIn_r _ [318, 213, 214, 215, 5, 216, 189, 217, 218, 219, 303, 304, 305, 306, 118, 302, 212, 109, 110, 111, 319, 320, 321, 322, 780, 781, 782, 783, 784, 785, 786, 787, 788, 789, 790, 791, 792, 793, 794, 795, 796, 797, 798, 799, 800, 801, 802, 803, 804, 805, 806, 807, 808, 809, 810] (by decide +kernel) (by decide +kernel)
set_option maxRecDepth 20000 in
theorem gL_law_X9_next : GoodIn wsL_law (wsV RL 47 RX9 yX9_next wsX9_next) := goodIn_app (goodIn_of _ (by decide +kernel)) ggL_law_X9_next
set_option maxRecDepth 20000 in
theorem ggL_law_X8_amount : GoodIn wsL_law wsX8_amount := goodIn_r _ [326, 19, 15, 234, 235, 236, 237, 18, 238, 239, 200, 201, 202, 14, 203, 144, 768, 769, 770, 771, 772, 773, 774, 775, 776, 777, 778, 779, 819, 820, 811, 812, 813, 814, 815, 816, 817, 818] (by decide +kernel) (by decide +kernel)
set_option maxRecDepth 20000 in
theorem gL_law_X8_amount : GoodIn wsL_law (wsV RL 48 RX8 yX8_amount wsX8_amount) := goodIn_app (goodIn_of _ (by decide +kernel)) ggL_law_X8_amount
set_option maxRecDepth 20000 in
theorem ggL_law_X9_amount : GoodIn wsL_law wsX9_amount := goodIn_r _ [330, 112, 244, 245, 246, 5, 247, 229, 217, 218, 219, 213, 214, 215, 216, 189, 780, 781, 782, 783, 784, 785, 786, 787, 788, 789, 790, 791, 792, 793, 794, 795, 796, 797, 798, 799, 800, 801, 802, 803, 804, 805, 806, 807, 808, 809, 810] (by decide +kernel) (by decide +kernel)
set_option maxRecDepth 20000 in
theorem gL_law_X9_amount : GoodIn wsL_law (wsV RL 51 RX9 yX9_amount wsX9_amount) := goodIn_app (goodIn_of _ (by decide +kernel)) ggL_law_X9_amount
set_option maxRecDepth 20000 in
theorem ggL_law_X8_sum : GoodIn wsL_law wsX8_sum := goodIn_r _ [334, 19, 235, 236, 237, 18, 238, 239, 335, 336, 337, 338, 61, 768, 769, 770, 771, 772, 773, 774, 775, 776, 777, 778, 779, 819, 820] (by decide +kernel) (by decide +kernel)
set_option maxRecDepth 20000 in
theorem gL_law_X8_sum : GoodIn wsL_law (wsV RL 52 RX8 yX8_sum wsX8_sum) := goodIn_app (goodIn_of _ (by decide +kernel)) ggL_law_X8_sum
set_option maxRecDepth 20000 in
theorem ggL_law_X9_sum : GoodIn wsL_law wsX9_sum := goodIn_r _ [342, 244, 245, 246, 5, 247, 229, 217, 218, 219, 343, 344, 345, 346, 189, 112, 780, 781, 782, 783, 784, 785, 786, 787, 788, 789, 790, 791, 792, 793, 794, 795, 796, 797, 798, 799, 800, 801, 802, 803, 804, 805, 806, 807, 808, 809, 810] (by decide +kernel) (by decide +kernel)
set_option maxRecDepth 20000 in
theorem gL_law_X9_sum : GoodIn wsL_law (wsV RL 56 RX9 yX9_sum wsX9_sum) := goodIn_app (goodIn_of _ (by decide +kernel)) ggL_law_X9_sum
set_option maxRecDepth 20000 in
theorem ggL_law_X8_least : GoodIn wsL_law wsX8_least := goodIn_r _ [350, 351, 352, 353, 2, 354, 19, 15, 235, 236, 237, 18, 238, 239, 355, 356, 357, 14, 358, 144, 56, 157, 335, 336, 337, 338, 61, 359, 360, 361, 362, 31, 234, 363, 364, 365, 30, 366, 80, 367, 368, 369, 370, 371, 372, 373, 79, 374, 375, 376, 377, 378, 379, 380, 381, 382, 383, 384, 385, 386, 387, 388, 389, 84, 85, 86, 87, 390, 391, 392, 393, 394, 395, 396, 397, 160, 161, 162, 398, 399, 400, 401, 402, 403, 404, 405, 88, 406, 89, 407, 164, 165, 166, 408, 409, 410, 411, 412, 413, 414, 415, 416, 417, 418, 419, 420, 768, 769, 770, 771, 772, 773, 774, 775, 776, 777, 778, 779, 819, 820, 811, 812, 813, 814, 815, 816, 817, 818, 828, 837, 838, 839, 840, 841, 842, 843, 844, 845] (by decide +kernel) (by decide +kernel)
set_option maxRecDepth 20000 in
theorem gL_law_X8_least : GoodIn wsL_law (wsV RL 57 RX8 yX8_least wsX8_least) := goodIn_app (goodIn_of _ (by decide +kernel)) ggL_law_X8_least
set_option maxRecDepth 20000 in
theorem ggL_law_X9_least : GoodIn wsL_law wsX9_least := goodIn_r _ [424, 425, 426, 427, 5, 428, 244, 245, 246, 247, 229, 217, 218, 219, 429, 430, 431, 432, 189, 118, 302, 303, 304, 305, 306, 212, 109, 110, 111, 343, 344, 345, 346, 112, 433, 434, 435, 436, 119, 437, 438, 439, 440, 120, 121, 441, 442, 443, 444, 123, 124, 445, 446, 447, 448, 449, 450, 451, 452, 780, 781, 782, 783, 784, 785, 786, 787, 788, 789, 790, 791, 792, 793, 794, 795, 796, 797, 798, 799, 800, 801, 802, 803, 804, 805, 806, 807, 808, 809, 810] (by decide +kernel) (by decide +kernel)
set_option maxRecDepth 20000 in
theorem gL_law_X9_least : GoodIn wsL_law (wsV RL 60 RX9 yX9_least wsX9_least) := goodIn_app (goodIn_of _ (by decide +kernel)) ggL_law_X9_least
set_option maxRecDepth 20000 in
theorem ggL_law_X8_plan : GoodIn wsL_law wsX8_plan := goodIn_r _ [456, 35, 457, 458, 459, 460, 2, 461, 15, 200, 201, 202, 14, 203, 144, 351, 352, 353, 354, 19, 235, 236, 237, 18, 238, 239, 355, 356, 357, 358, 56, 157, 335, 336, 337, 338, 61, 462, 463, 464, 465, 40, 41, 31, 234, 466, 467, 468, 34, 469, 470, 471, 472, 364, 365, 30, 366, 80, 367, 368, 369, 370, 371, 372, 373, 79, 374, 375, 376, 377, 378, 379, 380, 381, 382, 383, 384, 385, 386, 387, 388, 389, 84, 85, 86, 87, 390, 391, 392, 393, 394, 395, 396, 397, 160, 161, 162, 398, 399, 400, 401, 402, 403, 404, 405, 88, 406, 89, 407, 164, 165, 166, 408, 409, 410, 411, 412, 413, 414, 415, 416, 417, 418, 419, 420, 473, 474, 475, 476, 94, 477, 478, 479, 480, 481, 482, 483, 484, 485, 486, 95, 487, 488, 489, 490, 491, 492, 493, 494, 495, 496, 497, 498, 499, 500, 501, 502, 503, 504, 505, 506, 96, 97, 98, 507, 508, 509, 510, 511, 512, 513, 514, 515, 516, 517, 518, 768, 769, 770, 771, 772, 773, 774, 775, 776, 777, 778, 779, 829, 830, 831, 832, 833, 811, 812, 813, 814, 815, 816, 817, 818, 819, 820, 828, 837, 838, 839, 840, 841, 842, 843, 844, 845] (by decide +kernel) (by decide +kernel)
set_option maxRecDepth 20000 in
theorem gL_law_X8_plan : GoodIn wsL_law (wsV RL 61 RX8 yX8_plan wsX8_plan) := goodIn_app (goodIn_of _ (by decide +kernel)) ggL_law_X8_plan
set_option maxRecDepth 20000 in
theorem ggL_law_X9_plan : GoodIn wsL_law wsX9_plan := goodIn_r _ [522, 119, 244, 245, 246, 5, 247, 229, 217, 218, 219, 213, 214, 215, 216, 189, 425, 426, 427, 428, 429, 430, 431, 432, 118, 302, 303, 304, 305, 306, 212, 109, 110, 111, 343, 344, 345, 346, 112, 523, 524, 525, 526, 126, 433, 434, 435, 436, 437, 438, 439, 440, 120, 121, 441, 442, 443, 444, 123, 124, 445, 446, 447, 448, 449, 450, 451, 452, 527, 528, 529, 530, 122, 531, 532, 533, 534, 535, 536, 537, 538, 539, 540, 541, 542, 127, 128, 543, 544, 545, 546, 780, 781, 782, 783, 784, 785, 786, 787, 788, 789, 790, 791, 792, 793, 794, 795, 796, 797, 798, 799, 800, 801, 802, 803, 804, 805, 806, 807, 808, 809, 810] (by decide +kernel) (by decide +kernel)
set_option maxRecDepth 20000 in
theorem gL_law_X9_plan : GoodIn wsL_law (wsV RL 65 RX9 yX9_plan wsX9_plan) := goodIn_app (goodIn_of _ (by decide +kernel)) ggL_law_X9_plan
set_option maxRecDepth 20000 in
theorem ggL_law_X8_alone : GoodIn wsL_law wsX8_alone := goodIn_r _ [550, 35, 15, 351, 352, 353, 2, 354, 19, 235, 236, 237, 18, 238, 239, 355, 356, 357, 14, 358, 144, 56, 157, 335, 336, 337, 338, 61, 462, 463, 464, 465, 40, 41, 31, 234, 466, 467, 468, 34, 469, 470, 471, 472, 364, 365, 30, 366, 80, 367, 368, 369, 370, 371, 372, 373, 79, 374, 375, 376, 377, 378, 379, 380, 381, 382, 383, 384, 385, 386, 387, 388, 389, 84, 85, 86, 87, 390, 391, 392, 393, 394, 395, 396, 397, 160, 161, 162, 398, 399, 400, 401, 402, 403, 404, 405, 88, 406, 89, 407, 164, 165, 166, 408, 409, 410, 411, 412, 413, 414, 415, 416, 417, 418, 419, 420, 473, 474, 475, 476, 94, 477, 478, 479, 480, 481, 482, 483, 484, 485, 486, 95, 487, 488, 489, 490, 491, 492, 493, 494, 495, 496, 497, 498, 499, 500, 501, 502, 503, 504, 505, 506, 96, 97, 98, 507, 508, 509, 510, 511, 512, 513, 514, 515, 516, 517, 518, 551, 552, 553, 554, 768, 769, 770, 771, 772, 773, 774, 775, 776, 777, 778, 779, 819, 820, 811, 812, 813, 814, 815, 816, 817, 818, 828, 837, 838, 839, 840, 841, 842, 843, 844, 845, 829, 830, 831, 832, 833] (by decide +kernel) (by decide +kernel)
set_option maxRecDepth 20000 in
theorem gL_law_X8_alone : GoodIn wsL_law (wsV RL 66 RX8 yX8_alone wsX8_alone) := goodIn_app (goodIn_of _ (by decide +kernel)) ggL_law_X8_alone
set_option maxRecDepth 20000 in
theorem ggL_law_X9_alone : GoodIn wsL_law wsX9_alone := goodIn_r _ [558, 189, 425, 426, 427, 5, 428, 244, 245, 246, 247, 229, 217, 218, 219, 429, 430, 431, 432, 118, 302, 303, 304, 305, 306, 212, 109, 110, 111, 343, 344, 345, 346, 112, 523, 524, 525, 526, 126, 433, 434, 435, 436, 119, 437, 438, 439, 440, 120, 121, 441, 442, 443, 444, 123, 124, 445, 446, 447, 448, 449, 450, 451, 452, 527, 528, 529, 530, 122, 531, 532, 533, 534, 535, 536, 537, 538, 539, 540, 541, 542, 127, 128, 543, 544, 545, 546, 780, 781, 782, 783, 784, 785, 786, 787, 788, 789, 790, 791, 792, 793, 794, 795, 796, 797, 798, 799, 800, 801, 802, 803, 804, 805, 806, 807, 808, 809, 810] (by decide +kernel) (by decide +kernel)
set_option maxRecDepth 20000 in
theorem gL_law_X9_alone : GoodIn wsL_law (wsV RL 69 RX9 yX9_alone wsX9_alone) := goodIn_app (goodIn_of _ (by decide +kernel)) ggL_law_X9_alone
set_option maxRecDepth 20000 in
theorem ggL_law_X8_height : GoodIn wsL_law wsX8_height := goodIn_r _ [562, 563, 35, 564, 458, 459, 460, 2, 461, 15, 200, 201, 202, 14, 203, 144, 351, 352, 353, 354, 19, 235, 236, 237, 18, 238, 239, 355, 356, 357, 358, 56, 157, 335, 336, 337, 338, 61, 462, 463, 464, 465, 40, 41, 31, 234, 466, 467, 468, 34, 469, 470, 471, 472, 364, 365, 30, 366, 80, 367, 368, 369, 370, 371, 372, 373, 79, 374, 375, 376, 377, 378, 379, 380, 381, 382, 383, 384, 385, 386, 387, 388, 389, 84, 85, 86, 87, 390, 391, 392, 393, 394, 395, 396, 397, 160, 161, 162, 398, 399, 400, 401, 402, 403, 404, 405, 88, 406, 89, 407, 164, 165, 166, 408, 409, 410, 411, 412, 413, 414, 415, 416, 417, 418, 419, 420, 473, 474, 475, 476, 94, 477, 478, 479, 480, 481, 482, 483, 484, 485, 486, 95, 487, 488, 489, 490, 491, 492, 493, 494, 495, 496, 497, 498, 499, 500, 501, 502, 503, 504, 505, 506, 96, 97, 98, 507, 508, 509, 510, 511, 512, 513, 514, 515, 516, 517, 518, 768, 769, 770, 771, 772, 773, 774, 775, 776, 777, 778, 779, 829, 830, 831, 832, 833, 811, 812, 813, 814, 815, 816, 817, 818, 819, 820, 828, 837, 838, 839, 840, 841, 842, 843, 844, 845] (by decide +kernel) (by decide +kernel)
set_option maxRecDepth 20000 in
theorem gL_law_X8_height : GoodIn wsL_law (wsV RL 70 RX8 yX8_height wsX8_height) := goodIn_app (goodIn_of _ (by decide +kernel)) ggL_law_X8_height
set_option maxRecDepth 20000 in
theorem ggL_law_X9_height : GoodIn wsL_law wsX9_height := goodIn_r _ [568, 569, 122, 213, 214, 215, 5, 216, 189, 217, 218, 219, 425, 426, 427, 428, 244, 245, 246, 247, 229, 429, 430, 431, 432, 118, 302, 303, 304, 305, 306, 212, 109, 110, 111, 343, 344, 345, 346, 112, 433, 434, 435, 436, 119, 437, 438, 439, 440, 120, 121, 441, 442, 443, 444, 123, 124, 445, 446, 447, 448, 449, 450, 451, 452, 527, 528, 529, 530, 780, 781, 782, 783, 784, 785, 786, 787, 788, 789, 790, 791, 792, 793, 794, 795, 796, 797, 798, 799, 800, 801, 802, 803, 804, 805, 806, 807, 808, 809, 810] (by decide +kernel) (by decide +kernel)
set_option maxRecDepth 20000 in
theorem gL_law_X9_height : GoodIn wsL_law (wsV RL 73 RX9 yX9_height wsX9_height) := goodIn_app (goodIn_of _ (by decide +kernel)) ggL_law_X9_height
set_option maxRecDepth 20000 in
theorem ggL_law_X8_load : GoodIn wsL_law wsX8_load := goodIn_r _ [573, 35, 15, 458, 459, 460, 2, 461, 200, 201, 202, 14, 203, 144, 351, 352, 353, 354, 19, 235, 236, 237, 18, 238, 239, 355, 356, 357, 358, 56, 157, 335, 336, 337, 338, 61, 462, 463, 464, 465, 40, 41, 31, 234, 466, 467, 468, 34, 469, 470, 471, 472, 364, 365, 30, 366, 80, 367, 368, 369, 370, 371, 372, 373, 79, 374, 375, 376, 377, 378, 379, 380, 381, 382, 383, 384, 385, 386, 387, 388, 389, 84, 85, 86, 87, 390, 391, 392, 393, 394, 395, 396, 397, 160, 161, 162, 398, 399, 400, 401, 402, 403, 404, 405, 88, 406, 89, 407, 164, 165, 166, 408, 409, 410, 411, 412, 413, 414, 415, 416, 417, 418, 419, 420, 473, 474, 475, 476, 94, 477, 478, 479, 480, 481, 482, 483, 484, 485, 486, 95, 487, 488, 489, 490, 491, 492, 493, 494, 495, 496, 497, 498, 499, 500, 501, 502, 503, 504, 505, 506, 96, 97, 98, 507, 508, 509, 510, 511, 512, 513, 514, 515, 516, 517, 518, 574, 575, 576, 577, 578, 312, 313, 314, 55, 579, 580, 581, 768, 769, 770, 771, 772, 773, 774, 775, 776, 777, 778, 779, 811, 812, 813, 814, 815, 816, 817, 818, 819, 820, 828, 837, 838, 839, 840, 841, 842, 843, 844, 845, 829, 830, 831, 832, 833] (by decide +kernel) (by decide +kernel)
set_option maxRecDepth 20000 in
theorem gL_law_X8_load : GoodIn wsL_law (wsV RL 74 RX8 yX8_load wsX8_load) := goodIn_app (goodIn_of _ (by decide +kernel)) ggL_law_X8_load
set_option maxRecDepth 20000 in
theorem ggL_law_X9_load : GoodIn wsL_law wsX9_load := goodIn_r _ [585, 189, 119, 244, 245, 246, 5, 247, 229, 217, 218, 219, 213, 214, 215, 216, 425, 426, 427, 428, 429, 430, 431, 432, 118, 302, 303, 304, 305, 306, 212, 109, 110, 111, 343, 344, 345, 346, 112, 523, 524, 525, 526, 126, 433, 434, 435, 436, 437, 438, 439, 440, 120, 121, 441, 442, 443, 444, 123, 124, 445, 446, 447, 448, 449, 450, 451, 452, 527, 528, 529, 530, 122, 531, 532, 533, 534, 535, 536, 537, 538, 539, 540, 541, 542, 127, 128, 543, 544, 545, 546, 319, 320, 321, 322, 780, 781, 782, 783, 784, 785, 786, 787, 788, 789, 790, 791, 792, 793, 794, 795, 796, 797, 798, 799, 800, 801, 802, 803, 804, 805, 806, 807, 808, 809, 810] (by decide +kernel) (by decide +kernel)
set_option maxRecDepth 20000 in
theorem gL_law_X9_load : GoodIn wsL_law (wsV RL 77 RX9 yX9_load wsX9_load) := goodIn_app (goodIn_of _ (by decide +kernel)) ggL_law_X9_load
set_option maxRecDepth 20000 in
theorem ggL_law_X8_far : GoodIn wsL_law wsX8_far := goodIn_r _ [589, 39, 590, 351, 352, 353, 2, 354, 19, 15, 235, 236, 237, 18, 238, 239, 355, 356, 357, 14, 358, 144, 56, 157, 335, 336, 337, 338, 61, 591, 592, 593, 594, 42, 43, 234, 595, 596, 597, 38, 598, 599, 102, 600, 104, 601, 602, 603, 604, 605, 606, 372, 373, 79, 374, 375, 376, 377, 607, 383, 384, 385, 386, 387, 388, 389, 84, 85, 86, 87, 608, 164, 165, 166, 609, 610, 611, 612, 613, 614, 615, 399, 400, 401, 402, 403, 404, 405, 88, 406, 89, 407, 408, 409, 410, 411, 412, 413, 414, 415, 416, 417, 418, 419, 420, 160, 161, 162, 616, 617, 618, 619, 620, 621, 622, 623, 624, 768, 769, 770, 771, 772, 773, 774, 775, 776, 777, 778, 779, 834, 835, 836, 819, 820, 811, 812, 813, 814, 815, 816, 817, 818, 837, 838, 839, 840, 841, 842, 843, 844, 845] (by decide +kernel) (by decide +kernel)
set_option maxRecDepth 20000 in
theorem gL_law_X8_far : GoodIn wsL_law (wsV RL 78 RX8 yX8_far wsX8_far) := goodIn_app (goodIn_of _ (by decide +kernel)) ggL_law_X8_far
set_option maxRecDepth 20000 in
theorem ggL_law_X9_far : GoodIn wsL_law wsX9_far := goodIn_r _ [628, 425, 426, 427, 5, 428, 244, 245, 246, 247, 229, 217, 218, 219, 429, 430, 431, 432, 189, 118, 302, 303, 304, 305, 306, 212, 109, 110, 111, 343, 344, 345, 346, 112, 629, 630, 631, 632, 633, 634, 635, 636, 120, 437, 438, 439, 440, 119, 121, 637, 638, 639, 640, 127, 124, 128, 445, 446, 447, 448, 780, 781, 782, 783, 784, 785, 786, 787, 788, 789, 790, 791, 792, 793, 794, 795, 796, 797, 798, 799, 800, 801, 802, 803, 804, 805, 806, 807, 808, 809, 810] (by decide +kernel) (by decide +kernel)
set_option maxRecDepth 20000 in
theorem gL_law_X9_far : GoodIn wsL_law (wsV RL 81 RX9 yX9_far wsX9_far) := goodIn_app (goodIn_of _ (by decide +kernel)) ggL_law_X9_far
set_option maxRecDepth 20000 in
theorem ggL_law_X8_shown : GoodIn wsL_law wsX8_shown := goodIn_r _ [644, 39, 645, 458, 459, 460, 2, 461, 15, 200, 201, 202, 14, 203, 144, 351, 352, 353, 354, 19, 235, 236, 237, 18, 238, 239, 355, 356, 357, 358, 56, 157, 335, 336, 337, 338, 61, 591, 592, 593, 594, 42, 43, 234, 595, 596, 597, 38, 598, 599, 102, 600, 104, 601, 602, 603, 604, 605, 606, 372, 373, 79, 374, 375, 376, 377, 607, 383, 384, 385, 386, 387, 388, 389, 84, 85, 86, 87, 608, 164, 165, 166, 609, 610, 611, 612, 613, 614, 615, 399, 400, 401, 402, 403, 404, 405, 88, 406, 89, 407, 408, 409, 410, 411, 412, 413, 414, 415, 416, 417, 418, 419, 420, 160, 161, 162, 616, 617, 618, 619, 620, 621, 622, 623, 624, 768, 769, 770, 771, 772, 773, 774, 775, 776, 777, 778, 779, 834, 835, 836, 811, 812, 813, 814, 815, 816, 817, 818, 819, 820, 837, 838, 839, 840, 841, 842, 843, 844, 845] (by decide +kernel) (by decide +kernel)
set_option maxRecDepth 20000 in
theorem gL_law_X8_shown : GoodIn wsL_law (wsV RL 82 RX8 yX8_shown wsX8_shown) := goodIn_app (goodIn_of _ (by decide +kernel)) ggL_law_X8_shown
set_option maxRecDepth 20000 in
theorem ggL_law_X9_shown : GoodIn wsL_law wsX9_shown := goodIn_r _ [649, 127, 244, 245, 246, 5, 247, 229, 217, 218, 219, 213, 214, 215, 216, 189, 425, 426, 427, 428, 429, 430, 431, 432, 118, 302, 303, 304, 305, 306, 212, 109, 110, 111, 343, 344, 345, 346, 112, 629, 630, 631, 632, 633, 634, 635, 636, 120, 437, 438, 439, 440, 119, 121, 637, 638, 639, 640, 124, 128, 445, 446, 447, 448, 780, 781, 782, 783, 784, 785, 786, 787, 788, 789, 790, 791, 792, 793, 794, 795, 796, 797, 798, 799, 800, 801, 802, 803, 804, 805, 806, 807, 808, 809, 810] (by decide +kernel) (by decide +kernel)
set_option maxRecDepth 20000 in
theorem gL_law_X9_shown : GoodIn wsL_law (wsV RL 85 RX9 yX9_shown wsX9_shown) := goodIn_app (goodIn_of _ (by decide +kernel)) ggL_law_X9_shown
set_option maxRecDepth 20000 in
theorem ggL_law_X8_some : GoodIn wsL_law wsX8_some := goodIn_r _ [653, 19, 654, 160, 161, 162, 15, 31, 234, 235, 236, 237, 18, 238, 239, 335, 336, 337, 338, 61, 355, 356, 357, 14, 358, 144, 56, 157, 363, 364, 365, 30, 366, 80, 367, 368, 369, 370, 371, 372, 373, 79, 374, 375, 376, 377, 378, 379, 380, 381, 382, 383, 384, 385, 386, 387, 388, 389, 84, 85, 86, 87, 390, 391, 392, 393, 394, 395, 396, 397, 398, 399, 400, 401, 402, 403, 404, 405, 88, 406, 89, 407, 164, 165, 166, 408, 409, 410, 411, 412, 413, 414, 415, 416, 417, 418, 419, 420, 768, 769, 770, 771, 772, 773, 774, 775, 776, 777, 778, 779, 819, 820, 811, 812, 813, 814, 815, 816, 817, 818, 828, 837, 838, 839, 840, 841, 842, 843, 844, 845] (by decide +kernel) (by decide +kernel)
set_option maxRecDepth 20000 in
theorem gL_law_X8_some : GoodIn wsL_law (wsV RL 86 RX8 yX8_some wsX8_some) := goodIn_app (goodIn_of _ (by decide +kernel)) ggL_law_X8_some
set_option maxRecDepth 20000 in
theorem ggL_law_X9_some : GoodIn wsL_law wsX9_some := goodIn_r _ [658, 244, 245, 246, 5, 247, 229, 217, 218, 219, 343, 344, 345, 346, 189, 112, 429, 430, 431, 432, 118, 302, 303, 304, 305, 306, 212, 109, 110, 111, 433, 434, 435, 436, 119, 437, 438, 439, 440, 120, 121, 441, 442, 443, 444, 123, 124, 445, 446, 447, 448, 449, 450, 451, 452, 780, 781, 782, 783, 784, 785, 786, 787, 788, 789, 790, 791, 792, 793, 794, 795, 796, 797, 798, 799, 800, 801, 802, 803, 804, 805, 806, 807, 808, 809, 810] (by decide +kernel) (by decide +kernel)
set_option maxRecDepth 20000 in
theorem gL_law_X9_some : GoodIn wsL_law (wsV RL 89 RX9 yX9_some wsX9_some) := goodIn_app (goodIn_of _ (by decide +kernel)) ggL_law_X9_some
set_option maxRecDepth 20000 in
theorem ggL_law_X8_gated : GoodIn wsL_law wsX8_gated := goodIn_r _ [662, 31, 15, 19, 234, 351, 352, 353, 2, 354, 235, 236, 237, 18, 238, 239, 355, 356, 357, 14, 358, 144, 56, 157, 335, 336, 337, 338, 61, 663, 664, 665, 30, 666, 80, 367, 667, 368, 668, 669, 370, 371, 372, 373, 79, 374, 375, 376, 377, 378, 379, 380, 381, 382, 383, 384, 385, 386, 387, 388, 389, 84, 85, 86, 87, 390, 391, 392, 393, 398, 399, 400, 401, 402, 403, 404, 405, 88, 406, 89, 407, 164, 165, 166, 408, 409, 410, 411, 412, 413, 414, 415, 416, 417, 418, 419, 420, 160, 161, 162, 768, 769, 770, 771, 772, 773, 774, 775, 776, 777, 778, 779, 819, 820, 811, 812, 813, 814, 815, 816, 817, 818, 828, 837, 838, 839, 840, 841, 842, 843, 844, 845] (by decide +kernel) (by decide +kernel)
set_option maxRecDepth 20000 in
theorem gL_law_X8_gated : GoodIn wsL_law (wsV RL 90 RX8 yX8_gated wsX8_gated) := goodIn_app (goodIn_of _ (by decide +kernel)) ggL_law_X8_gated
set_option maxRecDepth 20000 in
theorem ggL_law_X9_gated : GoodIn wsL_law wsX9_gated := goodIn_r _ [673, 674, 189, 112, 113, 302, 212, 109, 110, 111, 133, 425, 426, 427, 5, 428, 244, 245, 246, 247, 229, 217, 218, 219, 429, 430, 431, 432, 118, 303, 304, 305, 306, 343, 344, 345, 346, 675, 676, 677, 678, 129, 130, 131, 132, 679, 680, 681, 682, 134, 683, 684, 685, 686, 780, 781, 782, 783, 784, 785, 786, 787, 788, 789, 790, 791, 792, 793, 794, 795, 796, 797, 798, 799, 800, 801, 802, 803, 804, 805, 806, 807, 808, 809, 810] (by decide +kernel) (by decide +kernel)
set_option maxRecDepth 20000 in
theorem gL_law_X9_gated : GoodIn wsL_law (wsV RL 93 RX9 yX9_gated wsX9_gated) := goodIn_app (goodIn_of _ (by decide +kernel)) ggL_law_X9_gated
set_option maxRecDepth 20000 in
theorem ggL_law_X8_draft : GoodIn wsL_law wsX8_draft := goodIn_r _ [690, 15, 27, 691, 200, 201, 202, 14, 203, 144, 768, 769, 770, 771, 772, 773, 774, 775, 776, 777, 778, 779, 827, 811, 812, 813, 814, 815, 816, 817, 818] (by decide +kernel) (by decide +kernel)
set_option maxRecDepth 20000 in
theorem gL_law_X8_draft : GoodIn wsL_law (wsV RL 94 RX8 yX8_draft wsX8_draft) := goodIn_app (goodIn_of _ (by decide +kernel)) ggL_law_X8_draft
set_option maxRecDepth 20000 in
theorem ggL_law_X9_draft : GoodIn wsL_law wsX9_draft := goodIn_r _ [695, 114, 213, 214, 215, 5, 216, 189, 217, 218, 219, 780, 781, 782, 783, 784, 785, 786, 787, 788, 789, 790, 791, 792, 793, 794, 795, 796, 797, 798, 799, 800, 801, 802, 803, 804, 805, 806, 807, 808, 809, 810] (by decide +kernel) (by decide +kernel)
set_option maxRecDepth 20000 in
theorem gL_law_X9_draft : GoodIn wsL_law (wsV RL 97 RX9 yX9_draft wsX9_draft) := goodIn_app (goodIn_of _ (by decide +kernel)) ggL_law_X9_draft
set_option maxRecDepth 20000 in
theorem ggL_law_X8_clear : GoodIn wsL_law wsX8_clear := goodIn_r _ [699, 27, 700, 701, 702, 26, 703, 73, 704, 705, 706, 707, 708, 164, 165, 166, 768, 769, 770, 771, 772, 773, 774, 775, 776, 777, 778, 779, 827] (by decide +kernel) (by decide +kernel)
set_option maxRecDepth 20000 in
theorem gL_law_X8_clear : GoodIn wsL_law (wsV RL 98 RX8 yX8_clear wsX8_clear) := goodIn_app (goodIn_of _ (by decide +kernel)) ggL_law_X8_clear
set_option maxRecDepth 20000 in
theorem ggL_law_X9_clear : GoodIn wsL_law wsX9_clear := goodIn_r _ [712, 114, 780, 781, 782, 783, 784, 785, 786, 787, 788, 789, 790, 791, 792, 793, 794, 795, 796, 797, 798, 799, 800, 801, 802, 803, 804, 805, 806, 807, 808, 809, 810] (by decide +kernel) (by decide +kernel)
set_option maxRecDepth 20000 in
theorem gL_law_X9_clear : GoodIn wsL_law (wsV RL 101 RX9 yX9_clear wsX9_clear) := goodIn_app (goodIn_of _ (by decide +kernel)) ggL_law_X9_clear
set_option maxRecDepth 20000 in
theorem ggL_law_X8_copy : GoodIn wsL_law wsX8_copy := goodIn_r _ [716, 15, 139, 27, 691, 35, 457, 351, 352, 353, 2, 354, 19, 235, 236, 237, 18, 238, 239, 355, 356, 357, 14, 358, 144, 56, 157, 335, 336, 337, 338, 61, 462, 463, 464, 465, 40, 41, 31, 234, 466, 467, 468, 34, 469, 470, 471, 472, 364, 365, 30, 366, 80, 367, 368, 369, 370, 371, 372, 373, 79, 374, 375, 376, 377, 378, 379, 380, 381, 382, 383, 384, 385, 386, 387, 388, 389, 84, 85, 86, 87, 390, 391, 392, 393, 394, 395, 396, 397, 160, 161, 162, 398, 399, 400, 401, 402, 403, 404, 405, 88, 406, 89, 407, 164, 165, 166, 408, 409, 410, 411, 412, 413, 414, 415, 416, 417, 418, 419, 420, 473, 474, 475, 476, 94, 477, 478, 479, 480, 481, 482, 483, 484, 485, 486, 95, 487, 488, 489, 490, 491, 492, 493, 494, 495, 496, 497, 498, 499, 500, 501, 502, 503, 504, 505, 506, 96, 97, 98, 507, 508, 509, 510, 511, 512, 513, 514, 515, 516, 517, 518, 700, 701, 702, 26, 703, 73, 768, 769, 770, 771, 772, 773, 774, 775, 776, 777, 778, 779, 811, 812, 813, 814, 815, 816, 817, 818, 827, 829, 830, 831, 832, 833, 819, 820, 828, 837, 838, 839, 840, 841, 842, 843, 844, 845] (by decide +kernel) (by decide +kernel)
set_option maxRecDepth 20000 in
theorem gL_law_X8_copy : GoodIn wsL_law (wsV RL 102 RX8 yX8_copy wsX8_copy) := goodIn_app (goodIn_of _ (by decide +kernel)) ggL_law_X8_copy
set_option maxRecDepth 20000 in
theorem ggL_law_X9_copy : GoodIn wsL_law wsX9_copy := goodIn_r _ [720, 114, 119, 425, 426, 427, 5, 428, 244, 245, 246, 247, 229, 217, 218, 219, 429, 430, 431, 432, 189, 118, 302, 303, 304, 305, 306, 212, 109, 110, 111, 343, 344, 345, 346, 112, 523, 524, 525, 526, 126, 433, 434, 435, 436, 437, 438, 439, 440, 120, 121, 441, 442, 443, 444, 123, 124, 445, 446, 447, 448, 449, 450, 451, 452, 527, 528, 529, 530, 122, 531, 532, 533, 534, 535, 536, 537, 538, 539, 540, 541, 542, 127, 128, 543, 544, 545, 546, 780, 781, 782, 783, 784, 785, 786, 787, 788, 789, 790, 791, 792, 793, 794, 795, 796, 797, 798, 799, 800, 801, 802, 803, 804, 805, 806, 807, 808, 809, 810] (by decide +kernel) (by decide +kernel)
set_option maxRecDepth 20000 in
theorem gL_law_X9_copy : GoodIn wsL_law (wsV RL 105 RX9 yX9_copy wsX9_copy) := goodIn_app (goodIn_of _ (by decide +kernel)) ggL_law_X9_copy
set_option maxRecDepth 20000 in
theorem ggL_law_X8_judge : GoodIn wsL_law wsX8_judge := goodIn_r _ [724, 27, 15, 139, 19, 234, 44, 351, 352, 353, 2, 354, 235, 236, 237, 18, 238, 239, 355, 356, 357, 14, 358, 144, 56, 157, 335, 336, 337, 338, 61, 725, 726, 727, 26, 728, 73, 729, 730, 731, 732, 733, 734, 735, 736, 737, 738, 359, 360, 361, 362, 31, 363, 364, 365, 30, 366, 80, 367, 368, 369, 370, 371, 372, 373, 79, 374, 375, 376, 377, 378, 379, 380, 381, 382, 383, 384, 385, 386, 387, 388, 389, 84, 85, 86, 87, 390, 391, 392, 393, 394, 395, 396, 397, 160, 161, 162, 398, 399, 400, 401, 402, 403, 404, 405, 88, 406, 89, 407, 164, 165, 166, 408, 409, 410, 411, 412, 413, 414, 415, 416, 417, 418, 419, 420, 768, 769, 770, 771, 772, 773, 774, 775, 776, 777, 778, 779, 811, 812, 813, 814, 815, 816, 817, 818, 819, 820, 827, 828, 837, 838, 839, 840, 841, 842, 843, 844, 845] (by decide +kernel) (by decide +kernel)
set_option maxRecDepth 20000 in
theorem gL_law_X8_judge : GoodIn wsL_law (wsV RL 106 RX8 yX8_judge wsX8_judge) := goodIn_app (goodIn_of _ (by decide +kernel)) ggL_law_X8_judge
set_option maxRecDepth 20000 in
theorem ggL_law_X9_judge : GoodIn wsL_law wsX9_judge := goodIn_r _ [742, 189, 112, 743, 114, 425, 426, 427, 5, 428, 244, 245, 246, 247, 229, 217, 218, 219, 429, 430, 431, 432, 118, 302, 303, 304, 305, 306, 212, 109, 110, 111, 343, 344, 345, 346, 744, 745, 746, 747, 449, 450, 451, 452, 433, 434, 435, 436, 119, 437, 438, 439, 440, 120, 121, 441, 442, 443, 444, 123, 124, 445, 446, 447, 448, 780, 781, 782, 783, 784, 785, 786, 787, 788, 789, 790, 791, 792, 793, 794, 795, 796, 797, 798, 799, 800, 801, 802, 803, 804, 805, 806, 807, 808, 809, 810] (by decide +kernel) (by decide +kernel)
set_option maxRecDepth 20000 in
theorem gL_law_X9_judge : GoodIn wsL_law (wsV RL 109 RX9 yX9_judge wsX9_judge) := goodIn_app (goodIn_of _ (by decide +kernel)) ggL_law_X9_judge
set_option maxRecDepth 20000 in
theorem ggL_law_X8_beside : GoodIn wsL_law wsX8_beside := goodIn_r _ [751, 44, 768, 769, 770, 771, 772, 773, 774, 775, 776, 777, 778, 779] (by decide +kernel) (by decide +kernel)
set_option maxRecDepth 20000 in
theorem gL_law_X8_beside : GoodIn wsL_law (wsV RL 110 RX8 yX8_beside wsX8_beside) := goodIn_app (goodIn_of _ (by decide +kernel)) ggL_law_X8_beside
set_option maxRecDepth 20000 in
theorem ggL_law_X9_beside : GoodIn wsL_law wsX9_beside := goodIn_r _ [755, 743, 780, 781, 782, 783, 784, 785, 786, 787, 788, 789, 790, 791, 792, 793, 794, 795, 796, 797, 798, 799, 800, 801, 802, 803, 804, 805, 806, 807, 808, 809, 810] (by decide +kernel) (by decide +kernel)
set_option maxRecDepth 20000 in
theorem gL_law_X9_beside : GoodIn wsL_law (wsV RL 113 RX9 yX9_beside wsX9_beside) := goodIn_app (goodIn_of _ (by decide +kernel)) ggL_law_X9_beside
set_option maxRecDepth 20000 in
theorem ggL_law_X8_count : GoodIn wsL_law wsX8_count := goodIn_r _ [759, 15, 139, 199, 19, 224, 23, 263, 760, 761, 762, 14, 763, 144, 53, 355, 356, 357, 358, 56, 157, 768, 769, 770, 771, 772, 773, 774, 775, 776, 777, 778, 779, 811, 812, 813, 814, 815, 816, 817, 818, 819, 820, 821, 822, 823, 824, 825, 826] (by decide +kernel) (by decide +kernel)
set_option maxRecDepth 20000 in
theorem gL_law_X8_count : GoodIn wsL_law (wsV RL 114 RX8 yX8_count wsX8_count) := goodIn_app (goodIn_of _ (by decide +kernel)) ggL_law_X8_count
set_option maxRecDepth 20000 in
theorem ggL_law_X9_count : GoodIn wsL_law wsX9_count := goodIn_r _ [767, 189, 212, 229, 113, 194, 429, 430, 431, 5, 432, 118, 302, 303, 304, 305, 306, 109, 110, 111, 780, 781, 782, 783, 784, 785, 786, 787, 788, 789, 790, 791, 792, 793, 794, 795, 796, 797, 798, 799, 800, 801, 802, 803, 804, 805, 806, 807, 808, 809, 810] (by decide +kernel) (by decide +kernel)
set_option maxRecDepth 20000 in
theorem gL_law_X9_count : GoodIn wsL_law (wsV RL 117 RX9 yX9_count wsX9_count) := goodIn_app (goodIn_of _ (by decide +kernel)) ggL_law_X9_count
