/-! ===== the program, as tables of the small machine ===== -/
def xr_R (c : Nat) : String := match c with
  | 0 => RX0
  | 1 => RX1
  | 2 => RX2
  | 3 => RX3
  | 4 => RX4
  | 5 => RX5
  | 6 => RX6
  | 7 => RX7
  | 8 => RL
  | 9 => RJ9
  | _ => RJ6
def xr_cl : List vw_C := [(RX0, TX0, 3), (RX1, TX1, 2), (RX2, TX2, 3), (RX3, TX3, 11), (RX4, TX4, 5), (RX5, TX5, 13), (RX6, TX6, 10), (RX7, TX7, 32)]
def xr_ty (c : Nat) : Nat → FieldType := match c with
  | 0 => tyX0
  | 1 => tyX1
  | 2 => tyX2
  | 3 => tyX3
  | 4 => tyX4
  | 5 => tyX5
  | 6 => tyX6
  | _ => tyX7
def xr_T (c : Nat) : u_T := match c with
  | 0 => TX0
  | 1 => TX1
  | 2 => TX2
  | 3 => TX3
  | 4 => TX4
  | 5 => TX5
  | 6 => TX6
  | _ => TX7
def xr_num (c : Nat) : Nat := match c with
  | 0 => 3
  | 1 => 2
  | 2 => 3
  | 3 => 11
  | 4 => 5
  | 5 => 13
  | 6 => 10
  | 7 => 32
  | _ => 0
def xr_ref (c k : Nat) : Bool := match xr_ty c k with
  | .int => false
  | _ => true
def xr_fin (c k : Nat) : Bool := (xr_T c k).2.2.2
abbrev me_X0_init : am_M := (0, yX0_init, cX0_init, 1, none, 25, 120)
abbrev me_X0_forget : am_M := (0, yX0_forget, cX0_forget, 1, none, 0, 0)
abbrev me_X0_keep : am_M := (0, yX0_keep, cX0_keep, 6, none, 0, 0)
abbrev me_X0_takeBack : am_M := (0, yX0_takeBack, cX0_takeBack, 3, none, 0, 0)
abbrev me_X1_init : am_M := (1, yX1_init, cX1_init, 1, none, 1, 16)
abbrev me_X1_answerOf : am_M := (1, yX1_answerOf, cX1_answerOf, 6, (some .int), 0, 0)
abbrev me_X1_gives : am_M := (1, yX1_gives, cX1_gives, 7, (some .int), 0, 0)
abbrev me_X1_leave : am_M := (1, yX1_leave, cX1_leave, 2, none, 0, 0)
abbrev me_X2_init : am_M := (2, yX2_init, cX2_init, 2, none, 11, 344)
abbrev me_X2_findingOf : am_M := (2, yX2_findingOf, cX2_findingOf, 4, (some .int), 0, 0)
abbrev me_X2_findingOfMove : am_M := (2, yX2_findingOfMove, cX2_findingOfMove, 6, (some .int), 0, 0)
abbrev me_X2_howMany : am_M := (2, yX2_howMany, cX2_howMany, 3, (some .int), 0, 0)
abbrev me_X2_isMissing : am_M := (2, yX2_isMissing, cX2_isMissing, 2, (some .boolean), 0, 0)
abbrev me_X2_isRow : am_M := (2, yX2_isRow, cX2_isRow, 1, (some .boolean), 0, 0)
abbrev me_X2_lay : am_M := (2, yX2_lay, cX2_lay, 5, none, 0, 0)
abbrev me_X2_lose : am_M := (2, yX2_lose, cX2_lose, 3, (some .int), 0, 0)
abbrev me_X2_move : am_M := (2, yX2_move, cX2_move, 6, none, 0, 0)
abbrev me_X2_put : am_M := (2, yX2_put, cX2_put, 5, (some .int), 0, 0)
abbrev me_X2_spans : am_M := (2, yX2_spans, cX2_spans, 4, (some .boolean), 0, 0)
abbrev me_X3_init : am_M := (3, yX3_init, cX3_init, 1, none, 3, 272)
abbrev me_X3_keepPath : am_M := (3, yX3_keepPath, cX3_keepPath, 4, none, 0, 0)
abbrev me_X3_seek : am_M := (3, yX3_seek, cX3_seek, 5, none, 0, 0)
abbrev me_X3_seekWithin : am_M := (3, yX3_seekWithin, cX3_seekWithin, 6, none, 0, 0)
abbrev me_X3_streetOf : am_M := (3, yX3_streetOf, cX3_streetOf, 2, (some .int), 0, 0)
abbrev me_X3_walk : am_M := (3, yX3_walk, cX3_walk, 11, none, 0, 0)
abbrev me_X3_weigh : am_M := (3, yX3_weigh, cX3_weigh, 8, none, 0, 0)
abbrev me_X3_weightOfEnough : am_M := (3, yX3_weightOfEnough, cX3_weightOfEnough, 7, (some .int), 0, 0)
abbrev me_X4_init : am_M := (4, yX4_init, cX4_init, 1, none, 1, 120)
abbrev me_X4_failsAt : am_M := (4, yX4_failsAt, cX4_failsAt, 3, (some .boolean), 0, 0)
abbrev me_X4_isTold : am_M := (4, yX4_isTold, cX4_isTold, 4, (some .boolean), 0, 0)
abbrev me_X4_kindOf : am_M := (4, yX4_kindOf, cX4_kindOf, 1, (some .int), 0, 0)
abbrev me_X4_letterHere : am_M := (4, yX4_letterHere, cX4_letterHere, 1, (some .int), 0, 0)
abbrev me_X4_numberWithin : am_M := (4, yX4_numberWithin, cX4_numberWithin, 6, (some .int), 0, 0)
abbrev me_X4_put : am_M := (4, yX4_put, cX4_put, 2, (some .int), 0, 0)
abbrev me_X4_readCorners : am_M := (4, yX4_readCorners, cX4_readCorners, 4, (some .boolean), 0, 0)
abbrev me_X4_readEnds : am_M := (4, yX4_readEnds, cX4_readEnds, 6, (some .boolean), 0, 0)
abbrev me_X4_readInto : am_M := (4, yX4_readInto, cX4_readInto, 2, (some .boolean), 0, 0)
abbrev me_X4_readLaw : am_M := (4, yX4_readLaw, cX4_readLaw, 2, (some .boolean), 0, 0)
abbrev me_X4_readStreets : am_M := (4, yX4_readStreets, cX4_readStreets, 3, (some .boolean), 0, 0)
abbrev me_X4_takes : am_M := (4, yX4_takes, cX4_takes, 2, (some .boolean), 0, 0)
abbrev me_X5_init : am_M := (5, yX5_init, cX5_init, 1, none, 5, 34)
abbrev me_X5_become : am_M := (5, yX5_become, cX5_become, 2, none, 0, 0)
abbrev me_X5_clear : am_M := (5, yX5_clear, cX5_clear, 1, none, 0, 0)
abbrev me_X5_costBetween : am_M := (5, yX5_costBetween, cX5_costBetween, 4, (some .int), 0, 0)
abbrev me_X5_costBy : am_M := (5, yX5_costBy, cX5_costBy, 2, (some .int), 0, 0)
abbrev me_X5_goBy : am_M := (5, yX5_goBy, cX5_goBy, 2, none, 0, 0)
abbrev me_X5_goByDraw : am_M := (5, yX5_goByDraw, cX5_goByDraw, 6, none, 0, 0)
abbrev me_X5_hasCorner : am_M := (5, yX5_hasCorner, cX5_hasCorner, 2, (some .boolean), 0, 0)
abbrev me_X5_hasStreet : am_M := (5, yX5_hasStreet, cX5_hasStreet, 2, (some .boolean), 0, 0)
abbrev me_X5_isOpen : am_M := (5, yX5_isOpen, cX5_isOpen, 2, (some .boolean), 0, 0)
abbrev me_X5_leads : am_M := (5, yX5_leads, cX5_leads, 2, (some .boolean), 0, 0)
abbrev me_X5_leadsFrom : am_M := (5, yX5_leadsFrom, cX5_leadsFrom, 3, (some .boolean), 0, 0)
abbrev me_X5_moodBehind : am_M := (5, yX5_moodBehind, cX5_moodBehind, 5, (some .int), 0, 0)
abbrev me_X5_moodBy : am_M := (5, yX5_moodBy, cX5_moodBy, 2, (some .int), 0, 0)
abbrev me_X5_openWays : am_M := (5, yX5_openWays, cX5_openWays, 4, (some .int), 0, 0)
abbrev me_X5_stands : am_M := (5, yX5_stands, cX5_stands, 1, (some .boolean), 0, 0)
abbrev me_X5_turn : am_M := (5, yX5_turn, cX5_turn, 2, none, 0, 0)
abbrev me_X6_init : am_M := (6, yX6_init, cX6_init, 2, none, 71, 1086)
abbrev me_X6_areFitting : am_M := (6, yX6_areFitting, cX6_areFitting, 4, (some .boolean), 0, 0)
abbrev me_X6_as : am_M := (6, yX6_as, cX6_as, 3, (some .int), 0, 0)
abbrev me_X6_ask : am_M := (6, yX6_ask, cX6_ask, 3, (some .int), 0, 0)
abbrev me_X6_cheapest : am_M := (6, yX6_cheapest, cX6_cheapest, 3, (some .int), 0, 0)
abbrev me_X6_commonDivisor : am_M := (6, yX6_commonDivisor, cX6_commonDivisor, 6, (some .int), 0, 0)
abbrev me_X6_copy : am_M := (6, yX6_copy, cX6_copy, 7, (some .int), 0, 0)
abbrev me_X6_corner : am_M := (6, yX6_corner, cX6_corner, 3, (some .int), 0, 0)
abbrev me_X6_count : am_M := (6, yX6_count, cX6_count, 2, (some .int), 0, 0)
abbrev me_X6_dearest : am_M := (6, yX6_dearest, cX6_dearest, 3, (some .int), 0, 0)
abbrev me_X6_drawn : am_M := (6, yX6_drawn, cX6_drawn, 7, (some .int), 0, 0)
abbrev me_X6_drop : am_M := (6, yX6_drop, cX6_drop, 2, (some .int), 0, 0)
abbrev me_X6_fault : am_M := (6, yX6_fault, cX6_fault, 1, (some .int), 0, 0)
abbrev me_X6_feed : am_M := (6, yX6_feed, cX6_feed, 2, (some .int), 0, 0)
abbrev me_X6_findingOfTwo : am_M := (6, yX6_findingOfTwo, cX6_findingOfTwo, 7, (some .int), 0, 0)
abbrev me_X6_fits : am_M := (6, yX6_fits, cX6_fits, 12, (some .int), 0, 0)
abbrev me_X6_fitsOf : am_M := (6, yX6_fitsOf, cX6_fitsOf, 13, (some .int), 0, 0)
abbrev me_X6_found : am_M := (6, yX6_found, cX6_found, 2, (some .int), 0, 0)
abbrev me_X6_gets : am_M := (6, yX6_gets, cX6_gets, 3, (some .int), 0, 0)
abbrev me_X6_image : am_M := (6, yX6_image, cX6_image, 2, (some .int), 0, 0)
abbrev me_X6_isOfKind : am_M := (6, yX6_isOfKind, cX6_isOfKind, 2, (some .boolean), 0, 0)
abbrev me_X6_isSo : am_M := (6, yX6_isSo, cX6_isSo, 8, (some .boolean), 0, 0)
abbrev me_X6_kind : am_M := (6, yX6_kind, cX6_kind, 2, (some .int), 0, 0)
abbrev me_X6_lesson : am_M := (6, yX6_lesson, cX6_lesson, 4, (some .int), 0, 0)
abbrev me_X6_moods : am_M := (6, yX6_moods, cX6_moods, 3, (some .int), 0, 0)
abbrev me_X6_owedFrom : am_M := (6, yX6_owedFrom, cX6_owedFrom, 8, (some .int), 0, 0)
abbrev me_X6_power : am_M := (6, yX6_power, cX6_power, 4, (some .int), 0, 0)
abbrev me_X6_reach : am_M := (6, yX6_reach, cX6_reach, 1, (some .int), 0, 0)
abbrev me_X6_reset : am_M := (6, yX6_reset, cX6_reset, 2, (some .int), 0, 0)
abbrev me_X6_restore : am_M := (6, yX6_restore, cX6_restore, 2, (some .int), 0, 0)
abbrev me_X6_ride : am_M := (6, yX6_ride, cX6_ride, 2, (some .int), 0, 0)
abbrev me_X6_row : am_M := (6, yX6_row, cX6_row, 4, (some .int), 0, 0)
abbrev me_X6_set : am_M := (6, yX6_set, cX6_set, 5, (some .int), 0, 0)
abbrev me_X6_share : am_M := (6, yX6_share, cX6_share, 6, (some .int), 0, 0)
abbrev me_X6_shut : am_M := (6, yX6_shut, cX6_shut, 8, (some .int), 0, 0)
abbrev me_X6_status : am_M := (6, yX6_status, cX6_status, 1, (some .int), 0, 0)
abbrev me_X6_street : am_M := (6, yX6_street, cX6_street, 3, (some .int), 0, 0)
abbrev me_X6_streetsAt : am_M := (6, yX6_streetsAt, cX6_streetsAt, 5, (some .int), 0, 0)
abbrev me_X6_town : am_M := (6, yX6_town, cX6_town, 2, (some .int), 0, 0)
abbrev me_X6_trace : am_M := (6, yX6_trace, cX6_trace, 2, (some .int), 0, 0)
abbrev me_X6_undo : am_M := (6, yX6_undo, cX6_undo, 1, (some .int), 0, 0)
abbrev me_X6_unfound : am_M := (6, yX6_unfound, cX6_unfound, 2, (some .int), 0, 0)
abbrev me_X6_way : am_M := (6, yX6_way, cX6_way, 3, (some .int), 0, 0)
abbrev me_X6_would : am_M := (6, yX6_would, cX6_would, 3, (some .int), 0, 0)
abbrev me_X7_init : am_M := (7, yX7_init, cX7_init, 2, none, 18, 1784)
abbrev me_X7_adds : am_M := (7, yX7_adds, cX7_adds, 4, none, 0, 0)
abbrev me_X7_advances : am_M := (7, yX7_advances, cX7_advances, 2, none, 0, 0)
abbrev me_X7_all : am_M := (7, yX7_all, cX7_all, 9, (some .int), 0, 0)
abbrev me_X7_as : am_M := (7, yX7_as, cX7_as, 5, (some .int), 0, 0)
abbrev me_X7_ask : am_M := (7, yX7_ask, cX7_ask, 4, (some .int), 0, 0)
abbrev me_X7_bar : am_M := (7, yX7_bar, cX7_bar, 6, (some .int), 0, 0)
abbrev me_X7_begins : am_M := (7, yX7_begins, cX7_begins, 1, none, 0, 0)
abbrev me_X7_byteAt : am_M := (7, yX7_byteAt, cX7_byteAt, 2, (some .int), 0, 0)
abbrev me_X7_cheapest : am_M := (7, yX7_cheapest, cX7_cheapest, 3, (some .int), 0, 0)
abbrev me_X7_copies : am_M := (7, yX7_copies, cX7_copies, 5, none, 0, 0)
abbrev me_X7_copy : am_M := (7, yX7_copy, cX7_copy, 7, (some .int), 0, 0)
abbrev me_X7_corner : am_M := (7, yX7_corner, cX7_corner, 3, (some .int), 0, 0)
abbrev me_X7_cost : am_M := (7, yX7_cost, cX7_cost, 5, (some .int), 0, 0)
abbrev me_X7_count : am_M := (7, yX7_count, cX7_count, 4, (some .int), 0, 0)
abbrev me_X7_cut : am_M := (7, yX7_cut, cX7_cut, 2, (some .int), 0, 0)
abbrev me_X7_dearest : am_M := (7, yX7_dearest, cX7_dearest, 4, (some .int), 0, 0)
abbrev me_X7_drawn : am_M := (7, yX7_drawn, cX7_drawn, 8, (some .int), 0, 0)
abbrev me_X7_drop : am_M := (7, yX7_drop, cX7_drop, 2, (some .int), 0, 0)
abbrev me_X7_ends : am_M := (7, yX7_ends, cX7_ends, 5, (some .int), 0, 0)
abbrev me_X7_fault : am_M := (7, yX7_fault, cX7_fault, 1, (some .int), 0, 0)
abbrev me_X7_feed : am_M := (7, yX7_feed, cX7_feed, 2, (some .int), 0, 0)
abbrev me_X7_figure : am_M := (7, yX7_figure, cX7_figure, 3, (some .int), 0, 0)
abbrev me_X7_finds : am_M := (7, yX7_finds, cX7_finds, 5, none, 0, 0)
abbrev me_X7_fits : am_M := (7, yX7_fits, cX7_fits, 8, (some .int), 0, 0)
abbrev me_X7_fitsOf : am_M := (7, yX7_fitsOf, cX7_fitsOf, 10, (some .int), 0, 0)
abbrev me_X7_follows : am_M := (7, yX7_follows, cX7_follows, 3, (some .int), 0, 0)
abbrev me_X7_found : am_M := (7, yX7_found, cX7_found, 2, (some .int), 0, 0)
abbrev me_X7_gets : am_M := (7, yX7_gets, cX7_gets, 4, (some .int), 0, 0)
abbrev me_X7_goes : am_M := (7, yX7_goes, cX7_goes, 3, (some .boolean), 0, 0)
abbrev me_X7_goesOn : am_M := (7, yX7_goesOn, cX7_goesOn, 3, (some .boolean), 0, 0)
abbrev me_X7_goesSo : am_M := (7, yX7_goesSo, cX7_goesSo, 7, (some .boolean), 0, 0)
abbrev me_X7_griefMark : am_M := (7, yX7_griefMark, cX7_griefMark, 2, (some .int), 0, 0)
abbrev me_X7_griefSize : am_M := (7, yX7_griefSize, cX7_griefSize, 4, (some .int), 0, 0)
abbrev me_X7_has : am_M := (7, yX7_has, cX7_has, 2, (some .boolean), 0, 0)
abbrev me_X7_image : am_M := (7, yX7_image, cX7_image, 2, (some .int), 0, 0)
abbrev me_X7_in : am_M := (7, yX7_in, cX7_in, 3, (some .boolean), 0, 0)
abbrev me_X7_isCorner : am_M := (7, yX7_isCorner, cX7_isCorner, 2, (some .boolean), 0, 0)
abbrev me_X7_isMissing : am_M := (7, yX7_isMissing, cX7_isMissing, 2, (some .boolean), 0, 0)
abbrev me_X7_isPart : am_M := (7, yX7_isPart, cX7_isPart, 4, (some .boolean), 0, 0)
abbrev me_X7_isRow : am_M := (7, yX7_isRow, cX7_isRow, 1, (some .boolean), 0, 0)
abbrev me_X7_isStreet : am_M := (7, yX7_isStreet, cX7_isStreet, 2, (some .boolean), 0, 0)
abbrev me_X7_isStreetTold : am_M := (7, yX7_isStreetTold, cX7_isStreetTold, 5, (some .boolean), 0, 0)
abbrev me_X7_isTown : am_M := (7, yX7_isTown, cX7_isTown, 1, (some .boolean), 0, 0)
abbrev me_X7_isWell : am_M := (7, yX7_isWell, cX7_isWell, 1, (some .boolean), 0, 0)
abbrev me_X7_joyMark : am_M := (7, yX7_joyMark, cX7_joyMark, 4, (some .int), 0, 0)
abbrev me_X7_joySize : am_M := (7, yX7_joySize, cX7_joySize, 4, (some .int), 0, 0)
abbrev me_X7_keeps : am_M := (7, yX7_keeps, cX7_keeps, 3, none, 0, 0)
abbrev me_X7_kind : am_M := (7, yX7_kind, cX7_kind, 2, (some .int), 0, 0)
abbrev me_X7_kindIn : am_M := (7, yX7_kindIn, cX7_kindIn, 2, (some .int), 0, 0)
abbrev me_X7_kindOf : am_M := (7, yX7_kindOf, cX7_kindOf, 1, (some .int), 0, 0)
abbrev me_X7_leaves : am_M := (7, yX7_leaves, cX7_leaves, 2, none, 0, 0)
abbrev me_X7_lesson : am_M := (7, yX7_lesson, cX7_lesson, 4, (some .int), 0, 0)
abbrev me_X7_moods : am_M := (7, yX7_moods, cX7_moods, 5, (some .int), 0, 0)
abbrev me_X7_notes : am_M := (7, yX7_notes, cX7_notes, 2, none, 0, 0)
abbrev me_X7_passed : am_M := (7, yX7_passed, cX7_passed, 7, (some .int), 0, 0)
abbrev me_X7_reach : am_M := (7, yX7_reach, cX7_reach, 4, (some .int), 0, 0)
abbrev me_X7_readsCorner : am_M := (7, yX7_readsCorner, cX7_readsCorner, 5, none, 0, 0)
abbrev me_X7_readsStreet : am_M := (7, yX7_readsStreet, cX7_readsStreet, 4, none, 0, 0)
abbrev me_X7_reset : am_M := (7, yX7_reset, cX7_reset, 2, (some .int), 0, 0)
abbrev me_X7_restore : am_M := (7, yX7_restore, cX7_restore, 2, (some .int), 0, 0)
abbrev me_X7_ride : am_M := (7, yX7_ride, cX7_ride, 2, (some .int), 0, 0)
abbrev me_X7_rides : am_M := (7, yX7_rides, cX7_rides, 4, none, 0, 0)
abbrev me_X7_row : am_M := (7, yX7_row, cX7_row, 5, (some .int), 0, 0)
abbrev me_X7_set : am_M := (7, yX7_set, cX7_set, 4, (some .int), 0, 0)
abbrev me_X7_share : am_M := (7, yX7_share, cX7_share, 8, (some .int), 0, 0)
abbrev me_X7_shut : am_M := (7, yX7_shut, cX7_shut, 10, (some .int), 0, 0)
abbrev me_X7_status : am_M := (7, yX7_status, cX7_status, 1, (some .int), 0, 0)
abbrev me_X7_street : am_M := (7, yX7_street, cX7_street, 3, (some .int), 0, 0)
abbrev me_X7_streetAfter : am_M := (7, yX7_streetAfter, cX7_streetAfter, 4, (some .int), 0, 0)
abbrev me_X7_takes : am_M := (7, yX7_takes, cX7_takes, 4, (some .int), 0, 0)
abbrev me_X7_toFigure : am_M := (7, yX7_toFigure, cX7_toFigure, 2, (some .int), 0, 0)
abbrev me_X7_told : am_M := (7, yX7_told, cX7_told, 3, (some .int), 0, 0)
abbrev me_X7_town : am_M := (7, yX7_town, cX7_town, 2, (some .int), 0, 0)
abbrev me_X7_trace : am_M := (7, yX7_trace, cX7_trace, 2, (some .int), 0, 0)
abbrev me_X7_undo : am_M := (7, yX7_undo, cX7_undo, 1, (some .int), 0, 0)
abbrev me_X7_way : am_M := (7, yX7_way, cX7_way, 3, (some .int), 0, 0)
abbrev me_X7_well : am_M := (7, yX7_well, cX7_well, 2, (some .int), 0, 0)
abbrev me_X7_would : am_M := (7, yX7_would, cX7_would, 4, (some .int), 0, 0)
abbrev me_L_law : am_M := (8, yL_law, cL_law, 4, (some .boolean), 600000, 7302250)
abbrev me_J9_abs_0f7a4 : am_M := (9, yJ9_abs_0f7a4, cJ9_abs_0f7a4, 1, (some .int), 0, 0)
abbrev me_J9_max_7cf53 : am_M := (9, yJ9_max_7cf53, cJ9_max_7cf53, 2, (some .int), 0, 0)
abbrev me_J9_min_7cf53 : am_M := (9, yJ9_min_7cf53, cJ9_min_7cf53, 2, (some .int), 0, 0)
abbrev me_J6_bitCount_0f7a4 : am_M := (10, yJ6_bitCount_0f7a4, cJ6_bitCount_0f7a4, 1, (some .int), 0, 0)
/-- owner, entry, class, field; where its word stands -/
def xr_fldT : List (Nat × Nat × Nat × Nat × Nat) := [(0, 11, 0, 0, 210), (0, 16, 0, 1, 211), (0, 20, 0, 2, 212), (0, 23, 5, 9, 161), (0, 28, 5, 10, 166), (0, 31, 5, 11, 169), (0, 34, 5, 12, 172), (0, 37, 5, 1, 132), (1, 9, 1, 0, 272), (1, 15, 1, 1, 274), (1, 19, 5, 0, 127), (1, 38, 5, 2, 136), (1, 41, 5, 1, 131), (2, 9, 2, 0, 83), (2, 15, 2, 1, 84), (2, 20, 2, 2, 85), (3, 9, 3, 0, 227), (3, 15, 3, 1, 228), (3, 18, 3, 2, 229), (3, 22, 3, 3, 230), (3, 26, 3, 4, 231), (3, 35, 3, 5, 232), (3, 38, 3, 7, 234), (3, 41, 3, 8, 236), (3, 44, 3, 9, 238), (3, 47, 3, 10, 240), (3, 50, 5, 9, 159), (3, 55, 5, 10, 163), (3, 62, 3, 6, 233), (3, 83, 5, 6, 151), (3, 90, 5, 4, 143), (3, 93, 5, 12, 173), (4, 9, 4, 0, 101), (4, 15, 4, 1, 102), (4, 24, 4, 4, 108), (4, 37, 5, 6, 150), (4, 40, 5, 8, 157), (4, 51, 5, 7, 154), (4, 54, 5, 10, 165), (4, 69, 5, 0, 128), (4, 72, 5, 1, 133), (4, 75, 5, 2, 137), (4, 78, 5, 5, 147), (4, 89, 5, 3, 140), (4, 92, 5, 4, 144), (4, 95, 4, 3, 107), (4, 98, 4, 2, 105), (5, 9, 5, 0, 126), (5, 15, 5, 1, 130), (5, 18, 5, 2, 135), (5, 21, 5, 3, 139), (5, 24, 5, 4, 142), (5, 33, 5, 5, 146), (5, 37, 5, 6, 149), (5, 40, 5, 7, 153), (5, 43, 5, 8, 156), (5, 46, 5, 9, 160), (5, 49, 5, 10, 164), (5, 52, 5, 11, 168), (5, 55, 5, 12, 171), (6, 10, 6, 0, 281), (6, 19, 6, 1, 282), (6, 26, 6, 2, 283), (6, 30, 6, 3, 284), (6, 33, 6, 4, 285), (6, 40, 6, 5, 286), (6, 47, 6, 6, 287), (6, 54, 6, 7, 288), (6, 58, 6, 8, 289), (6, 62, 6, 9, 290), (6, 102, 4, 1, 103), (6, 112, 4, 2, 104), (6, 116, 4, 3, 106), (6, 126, 5, 6, 152), (6, 136, 5, 12, 174), (6, 139, 5, 9, 162), (6, 142, 5, 10, 167), (6, 145, 5, 11, 170), (6, 159, 5, 1, 134), (6, 173, 5, 8, 158), (6, 176, 0, 2, 213), (6, 182, 5, 2, 138), (6, 185, 5, 3, 141), (6, 192, 5, 4, 145), (6, 213, 3, 7, 235), (6, 214, 3, 8, 237), (6, 220, 3, 9, 239), (6, 223, 3, 10, 241), (6, 233, 5, 7, 155), (6, 240, 5, 0, 129), (6, 288, 1, 1, 275), (6, 291, 1, 0, 273), (6, 297, 5, 5, 148), (6, 301, 2, 2, 86), (7, 7, 7, 0, 739), (7, 13, 7, 1, 740), (7, 16, 7, 2, 741), (7, 19, 7, 3, 742), (7, 22, 7, 5, 744), (7, 25, 7, 13, 752), (7, 28, 7, 14, 753), (7, 31, 7, 15, 754), (7, 34, 7, 16, 755), (7, 37, 7, 18, 757), (7, 40, 7, 19, 758), (7, 44, 7, 21, 760), (7, 47, 7, 22, 761), (7, 50, 7, 23, 762), (7, 53, 7, 24, 763), (7, 56, 7, 25, 764), (7, 59, 7, 26, 765), (7, 62, 7, 30, 769), (7, 66, 7, 4, 743), (7, 97, 7, 6, 745), (7, 101, 7, 9, 748), (7, 104, 7, 10, 749), (7, 110, 7, 12, 751), (7, 113, 7, 11, 750), (7, 116, 7, 8, 747), (7, 123, 7, 7, 746), (7, 160, 7, 17, 756), (7, 197, 7, 20, 759), (7, 204, 7, 27, 766), (7, 207, 7, 28, 767), (7, 210, 7, 29, 768), (7, 251, 7, 31, 770)]
def xr_fld (c k : Nat) : Option (Nat × Nat) := (xr_fldT.find? fun e => e.1 == c && e.2.1 == k).map fun e => (e.2.2.1, e.2.2.2.1)
def xr_cstT : List (Nat × Nat × Int × Nat) := [(3, 78, -1000000, 596), (6, 69, -1000001, 319), (6, 105, -1000003, 381), (6, 115, -1000100, 436), (6, 135, -1000002, 471), (6, 198, -1000000, 556), (6, 271, 999999, 668), (6, 300, -1000010, 324), (7, 65, -1000000, 738), (7, 70, -1000010, 851), (7, 79, -1000001, 846), (7, 100, -1000003, 883), (7, 155, -1000100, 931), (7, 180, -1000002, 953), (7, 240, 999999, 1083), (10, 265, 1431655765, 652), (10, 266, 858993459, 653), (10, 267, 252645135, 654)]
def xr_cst (c k : Nat) : Option Int := (xr_cstT.find? fun e => e.1 == c && e.2.1 == k).map fun e => e.2.2.1
def xr_cslT : List (Nat × Nat × Int × Nat) := [(6, 272, 16807, 669), (6, 274, 2147483647, 670), (7, 241, 16807, 1084), (7, 243, 2147483647, 1085)]
def xr_csl (c k : Nat) : Option Int := (xr_cslT.find? fun e => e.1 == c && e.2.1 == k).map fun e => e.2.2.1
def xr_newT : List (Nat × Nat × Nat × Nat) := [(0, 9, 103, 209), (2, 18, 103, 81), (6, 7, 2, 75), (6, 16, 4, 95), (6, 23, 5, 120), (6, 37, 0, 203), (6, 44, 3, 221), (6, 51, 1, 266), (8, 7, 6, 67), (8, 10, 7, 732)]
def xr_new (c k : Nat) : Option Nat := (xr_newT.find? fun e => e.1 == c && e.2.1 == k).map fun e => e.2.2.1
def xr_gstT : List (Nat × Nat × Nat × Nat) := [(1, 24, 1, 704), (1, 27, 2, 706)]
def xr_gst (c k : Nat) : Option Nat := (xr_gstT.find? fun e => e.1 == c && e.2.1 == k).map fun e => e.2.2.1
/-- owner, entry, kind, method, values taken off the stack; where its words stand -/
def xr_mthT_0 : List (Nat × Nat × Nat × am_M × Nat × List Nat) := [(0, 3, 4, me_L_law, 1, [208]), (0, 41, 0, me_X5_turn, 2, [538, 529, 59, 527, 528]), (1, 3, 4, me_L_law, 1, [271]), (1, 30, 0, me_X1_gives, 5, [708, 711, 62, 710, 18]), (1, 34, 0, me_X1_leave, 2, [712, 715, 62, 714, 19]), (2, 3, 4, me_L_law, 1, [80]), (2, 23, 0, me_X2_isMissing, 2, [341, 344, 57, 342, 343]), (2, 27, 5, me_L_law, 5, [365]), (2, 33, 0, me_X2_spans, 4, [345, 348, 57, 347, 2]), (3, 3, 4, me_L_law, 1, [226]), (3, 29, 7, me_L_law, 5, [575]), (3, 58, 0, me_X3_walk, 7, [576, 579, 61, 578, 12]), (3, 65, 0, me_X3_seek, 5, [644, 574, 61, 572, 573]), (3, 69, 1, me_J6_bitCount_0f7a4, 1, [649, 651, 66, 650, 0]), (3, 75, 3, me_X6_power, 2, [655, 657, 56, 656, 0]), (3, 79, 0, me_X3_weigh, 6, [580, 583, 61, 582, 13]), (3, 86, 0, me_X5_leadsFrom, 3, [589, 465, 59, 463, 464]), (3, 96, 0, me_X5_moodBehind, 4, [590, 491, 59, 489, 490]), (3, 100, 0, me_X5_costBetween, 4, [591, 501, 59, 499, 500]), (3, 103, 0, me_X3_keepPath, 4, [584, 587, 61, 586, 14]), (3, 107, 5, me_L_law, 5, [588]), (4, 3, 4, me_L_law, 1, [100]), (4, 19, 0, me_X5_clear, 1, [394, 397, 59, 395, 396]), (4, 27, 0, me_X4_readLaw, 2, [398, 401, 58, 400, 3]), (4, 31, 0, me_X4_readCorners, 2, [418, 421, 58, 420, 8]), (4, 34, 0, me_X4_readStreets, 2, [425, 428, 58, 427, 9]), (4, 43, 0, me_X4_takes, 2, [402, 405, 58, 404, 4]), (4, 47, 0, me_X4_numberWithin, 3, [414, 417, 58, 416, 7]), (4, 57, 0, me_X4_letterHere, 1, [406, 409, 58, 408, 5]), (4, 61, 1, me_X4_kindOf, 1, [422, 424, 58, 423, 0]), (4, 65, 0, me_X4_failsAt, 3, [410, 413, 58, 412, 6]), (4, 81, 0, me_X4_readEnds, 3, [429, 432, 58, 431, 10]), (4, 85, 1, me_X4_isTold, 3, [433, 435, 58, 434, 0]), (5, 3, 4, me_L_law, 1, [125]), (5, 27, 5, me_L_law, 5, [441]), (5, 58, 0, me_X5_leadsFrom, 3, [462, 465, 59, 463, 464]), (5, 62, 0, me_X5_hasStreet, 2, [466, 457, 59, 455, 456]), (5, 66, 0, me_X5_isOpen, 2, [467, 470, 59, 468, 469]), (5, 69, 7, me_L_law, 5, [492]), (5, 75, 6, me_L_law, 5, [495]), (5, 78, 8, me_L_law, 5, [502]), (5, 82, 0, me_X5_moodBehind, 4, [488, 491, 59, 489, 490]), (5, 86, 0, me_X5_moodBy, 2, [484, 487, 59, 485, 486]), (5, 89, 0, me_X5_costBetween, 4, [498, 501, 59, 499, 500]), (5, 92, 0, me_X5_costBy, 2, [480, 483, 59, 481, 482]), (5, 95, 0, me_X5_leads, 2, [675, 461, 59, 459, 460]), (5, 98, 0, me_X5_goBy, 2, [676, 479, 59, 477, 478]), (6, 1, 4, me_L_law, 1, [72]), (6, 9, 2, me_X2_init, 1, [77, 79, 57, 78, 0]), (6, 18, 2, me_X4_init, 1, [97, 99, 58, 98, 0]), (6, 25, 2, me_X5_init, 1, [122, 124, 59, 123, 0]), (6, 39, 2, me_X0_init, 1, [205, 207, 60, 206, 0]), (6, 46, 2, me_X3_init, 1, [223, 225, 61, 224, 0]), (6, 53, 2, me_X1_init, 1, [268, 270, 62, 269, 0]), (6, 65, 1, me_X2_isRow, 1, [316, 318, 57, 317, 0]), (6, 70, 0, me_X6_found, 2, [320, 323, 56, 322, 0]), (6, 74, 0, me_X2_lay, 4, [325, 328, 57, 326, 327]), (6, 78, 0, me_X6_unfound, 2, [329, 332, 56, 331, 1]), (6, 81, 0, me_X2_findingOf, 4, [337, 340, 57, 338, 339]), (6, 85, 0, me_X2_put, 4, [349, 352, 57, 350, 351])]
def xr_mthT_1 : List (Nat × Nat × Nat × am_M × Nat × List Nat) := [(6, 88, 0, me_X2_findingOfMove, 6, [357, 360, 57, 358, 359]), (6, 92, 0, me_X2_move, 6, [361, 364, 57, 362, 363]), (6, 96, 0, me_X2_isMissing, 2, [372, 344, 57, 342, 343]), (6, 99, 0, me_X2_lose, 2, [373, 376, 57, 374, 375]), (6, 106, 0, me_X4_put, 2, [382, 385, 58, 383, 384]), (6, 108, 0, me_X4_readInto, 2, [390, 393, 58, 391, 392]), (6, 119, 0, me_X5_become, 2, [437, 440, 59, 438, 439]), (6, 123, 0, me_X0_forget, 1, [442, 445, 60, 443, 444]), (6, 129, 0, me_X5_hasStreet, 2, [454, 457, 59, 455, 456]), (6, 132, 0, me_X5_leads, 2, [458, 461, 59, 459, 460]), (6, 148, 0, me_X0_keep, 5, [472, 475, 60, 473, 474]), (6, 152, 0, me_X5_goBy, 2, [476, 479, 59, 477, 478]), (6, 156, 0, me_X5_hasCorner, 2, [509, 512, 59, 510, 511]), (6, 163, 0, me_X5_stands, 1, [517, 520, 59, 518, 519]), (6, 167, 0, me_X5_isOpen, 2, [525, 470, 59, 468, 469]), (6, 170, 0, me_X5_turn, 2, [526, 529, 59, 527, 528]), (6, 179, 0, me_X0_takeBack, 2, [534, 537, 60, 535, 536]), (6, 188, 0, me_X6_streetsAt, 3, [543, 546, 56, 545, 11]), (6, 195, 0, me_X5_moodBehind, 4, [547, 491, 59, 489, 490]), (6, 199, 0, me_X5_moodBy, 2, [557, 487, 59, 485, 486]), (6, 202, 0, me_X5_costBy, 2, [558, 483, 59, 481, 482]), (6, 205, 0, me_X5_openWays, 1, [563, 566, 59, 564, 565]), (6, 209, 0, me_X3_seek, 5, [571, 574, 61, 572, 573]), (6, 217, 0, me_X3_streetOf, 2, [592, 595, 61, 593, 594]), (6, 226, 1, me_X6_areFitting, 4, [613, 615, 56, 614, 0]), (6, 230, 0, me_X6_findingOfTwo, 6, [616, 619, 56, 618, 15]), (6, 236, 0, me_X6_isSo, 6, [620, 623, 56, 622, 16]), (6, 243, 0, me_X6_owedFrom, 5, [632, 635, 56, 634, 17]), (6, 247, 0, me_X3_seekWithin, 4, [640, 643, 61, 641, 642]), (6, 251, 0, me_X3_weightOfEnough, 3, [645, 648, 61, 646, 647]), (6, 255, 1, me_J6_bitCount_0f7a4, 1, [658, 651, 66, 650, 0]), (6, 260, 1, me_X6_power, 2, [659, 657, 56, 656, 0]), (6, 263, 1, me_X6_commonDivisor, 2, [660, 662, 56, 661, 0]), (6, 266, 6, me_L_law, 5, [663]), (6, 276, 0, me_X5_goByDraw, 2, [671, 674, 59, 672, 673]), (6, 280, 1, me_X6_isOfKind, 2, [693, 695, 56, 694, 0]), (6, 284, 0, me_X1_answerOf, 4, [700, 703, 62, 701, 702]), (6, 294, 0, me_X2_howMany, 1, [724, 727, 57, 725, 726]), (7, 1, 4, me_L_law, 1, [737]), (7, 71, 1, me_X7_in, 3, [843, 845, 63, 844, 0]), (7, 75, 1, me_X7_isRow, 1, [840, 842, 63, 841, 0]), (7, 80, 0, me_X7_found, 2, [847, 850, 63, 849, 20]), (7, 84, 0, me_X7_well, 2, [852, 855, 63, 854, 21]), (7, 87, 0, me_X7_isMissing, 2, [860, 863, 63, 862, 22]), (7, 90, 1, me_X7_cut, 2, [864, 866, 63, 865, 0]), (7, 94, 0, me_X7_isPart, 4, [871, 874, 63, 873, 23]), (7, 107, 0, me_X7_byteAt, 2, [892, 895, 63, 894, 25]), (7, 119, 0, me_X7_isWell, 1, [900, 903, 63, 902, 27]), (7, 126, 0, me_X7_advances, 1, [888, 891, 63, 890, 24]), (7, 129, 0, me_X7_takes, 3, [896, 899, 63, 898, 26]), (7, 133, 0, me_X7_figure, 3, [904, 907, 63, 906, 28]), (7, 136, 1, me_X7_kindOf, 1, [912, 914, 63, 913, 0]), (7, 139, 0, me_X7_follows, 3, [908, 911, 63, 910, 29]), (7, 142, 0, me_X7_isStreetTold, 3, [927, 930, 63, 929, 33]), (7, 146, 0, me_X7_toFigure, 2, [923, 926, 63, 925, 32]), (7, 149, 0, me_X7_readsCorner, 1, [915, 918, 63, 917, 30]), (7, 152, 0, me_X7_readsStreet, 1, [919, 922, 63, 921, 31]), (7, 156, 1, me_X7_copies, 4, [932, 934, 63, 933, 0]), (7, 163, 1, me_X7_passed, 4, [964, 966, 63, 965, 0]), (7, 167, 1, me_X7_has, 2, [950, 952, 63, 951, 0])]
def xr_mthT_2 : List (Nat × Nat × Nat × am_M × Nat × List Nat) := [(7, 170, 1, me_X7_cost, 4, [961, 963, 63, 962, 0]), (7, 173, 0, me_X7_isStreet, 2, [943, 946, 63, 945, 34]), (7, 176, 1, me_X7_goes, 3, [947, 949, 63, 948, 0]), (7, 181, 0, me_X7_notes, 1, [954, 957, 63, 956, 35]), (7, 184, 1, me_X7_rides, 2, [958, 960, 63, 959, 0]), (7, 188, 0, me_X7_isCorner, 2, [971, 974, 63, 973, 36]), (7, 191, 0, me_X7_isTown, 1, [979, 982, 63, 981, 37]), (7, 194, 0, me_X7_ends, 3, [995, 998, 63, 997, 38]), (7, 200, 0, me_X7_adds, 2, [1031, 1034, 63, 1033, 43]), (7, 213, 0, me_X7_begins, 1, [1019, 1022, 63, 1021, 40]), (7, 216, 0, me_X7_keeps, 2, [1023, 1026, 63, 1025, 41]), (7, 219, 0, me_X7_goesOn, 2, [1027, 1030, 63, 1029, 42]), (7, 222, 0, me_X7_finds, 3, [1015, 1018, 63, 1017, 39]), (7, 226, 0, me_X7_told, 3, [1035, 1038, 63, 1037, 44]), (7, 229, 0, me_X7_goesSo, 4, [1063, 1066, 63, 1065, 47]), (7, 232, 0, me_X7_bar, 6, [1055, 1058, 63, 1057, 45]), (7, 236, 0, me_X7_all, 7, [1059, 1062, 63, 1061, 46]), (7, 245, 0, me_X7_streetAfter, 2, [1086, 1089, 63, 1088, 48]), (7, 248, 0, me_X7_kindIn, 2, [1102, 1105, 63, 1104, 49]), (7, 254, 0, me_X7_leaves, 2, [1118, 1121, 63, 1120, 51]), (7, 257, 0, me_X7_joyMark, 2, [1126, 1129, 63, 1128, 53]), (7, 260, 0, me_X7_griefSize, 2, [1114, 1117, 63, 1116, 50]), (7, 263, 0, me_X7_joySize, 2, [1122, 1125, 63, 1124, 52]), (7, 266, 0, me_X7_griefMark, 2, [1130, 1133, 63, 1132, 54]), (8, 9, 2, me_X6_init, 1, [69, 71, 56, 70, 0]), (8, 12, 2, me_X7_init, 1, [734, 736, 63, 735, 0]), (8, 13, 0, me_X6_row, 4, [312, 315, 56, 313, 314]), (8, 17, 0, me_X7_row, 4, [836, 839, 63, 837, 838]), (8, 18, 0, me_X6_set, 4, [333, 336, 56, 334, 335]), (8, 21, 0, me_X7_set, 4, [856, 859, 63, 857, 858]), (8, 22, 0, me_X6_copy, 6, [353, 356, 56, 354, 355]), (8, 26, 0, me_X7_copy, 6, [867, 870, 63, 868, 869]), (8, 27, 0, me_X6_drop, 2, [368, 371, 56, 369, 370]), (8, 31, 0, me_X7_drop, 2, [875, 878, 63, 876, 877]), (8, 32, 0, me_X6_feed, 2, [377, 380, 56, 378, 379]), (8, 35, 0, me_X7_feed, 2, [879, 882, 63, 880, 881]), (8, 36, 0, me_X6_town, 1, [386, 389, 56, 387, 388]), (8, 40, 0, me_X7_town, 1, [884, 887, 63, 885, 886]), (8, 41, 0, me_X6_fault, 1, [446, 449, 56, 447, 448]), (8, 44, 0, me_X7_fault, 1, [935, 938, 63, 936, 937]), (8, 45, 0, me_X6_ride, 2, [450, 453, 56, 451, 452]), (8, 48, 0, me_X7_ride, 2, [939, 942, 63, 940, 941]), (8, 49, 0, me_X6_lesson, 3, [505, 508, 56, 506, 507]), (8, 53, 0, me_X7_lesson, 3, [967, 970, 63, 968, 969]), (8, 54, 0, me_X6_reset, 1, [513, 516, 56, 514, 515]), (8, 57, 0, me_X7_reset, 1, [975, 978, 63, 976, 977]), (8, 58, 0, me_X6_street, 3, [521, 524, 56, 522, 523]), (8, 61, 0, me_X7_street, 3, [983, 986, 63, 984, 985]), (8, 62, 0, me_X6_undo, 1, [530, 533, 56, 531, 532]), (8, 65, 0, me_X7_undo, 1, [987, 990, 63, 988, 989]), (8, 66, 0, me_X6_corner, 3, [539, 542, 56, 540, 541]), (8, 69, 0, me_X7_corner, 3, [991, 994, 63, 992, 993]), (8, 70, 0, me_X6_way, 3, [548, 551, 56, 549, 550]), (8, 73, 0, me_X7_way, 3, [999, 1002, 63, 1000, 1001]), (8, 74, 0, me_X6_would, 3, [552, 555, 56, 553, 554]), (8, 77, 0, me_X7_would, 3, [1003, 1006, 63, 1004, 1005]), (8, 78, 0, me_X6_reach, 1, [559, 562, 56, 560, 561]), (8, 81, 0, me_X7_reach, 1, [1007, 1010, 63, 1008, 1009]), (8, 82, 0, me_X6_cheapest, 3, [567, 570, 56, 568, 569]), (8, 85, 0, me_X7_cheapest, 3, [1011, 1014, 63, 1012, 1013])]
def xr_mthT_3 : List (Nat × Nat × Nat × am_M × Nat × List Nat) := [(8, 86, 0, me_X6_dearest, 3, [597, 600, 56, 598, 599]), (8, 89, 0, me_X7_dearest, 3, [1039, 1042, 63, 1040, 1041]), (8, 90, 0, me_X6_moods, 3, [601, 604, 56, 602, 603]), (8, 93, 0, me_X7_moods, 3, [1043, 1046, 63, 1044, 1045]), (8, 94, 0, me_X6_gets, 3, [605, 608, 56, 606, 607]), (8, 97, 0, me_X7_gets, 3, [1047, 1050, 63, 1048, 1049]), (8, 98, 0, me_X6_fits, 7, [609, 612, 56, 610, 611]), (8, 102, 0, me_X7_fits, 7, [1051, 1054, 63, 1052, 1053]), (8, 103, 0, me_X6_fitsOf, 8, [624, 627, 56, 625, 626]), (8, 107, 0, me_X7_fitsOf, 8, [1067, 1070, 63, 1068, 1069]), (8, 108, 0, me_X6_share, 5, [628, 631, 56, 629, 630]), (8, 112, 0, me_X7_share, 5, [1071, 1074, 63, 1072, 1073]), (8, 113, 0, me_X6_shut, 5, [636, 639, 56, 637, 638]), (8, 116, 0, me_X7_shut, 5, [1075, 1078, 63, 1076, 1077]), (8, 117, 0, me_X6_drawn, 4, [664, 667, 56, 665, 666]), (8, 120, 0, me_X7_drawn, 4, [1079, 1082, 63, 1080, 1081]), (8, 121, 0, me_X6_image, 2, [677, 680, 56, 678, 679]), (8, 124, 0, me_X7_image, 2, [1090, 1093, 63, 1091, 1092]), (8, 125, 0, me_X6_restore, 2, [681, 684, 56, 682, 683]), (8, 128, 0, me_X7_restore, 2, [1094, 1097, 63, 1095, 1096]), (8, 129, 0, me_X6_kind, 2, [685, 688, 56, 686, 687]), (8, 132, 0, me_X7_kind, 2, [1098, 1101, 63, 1099, 1100]), (8, 133, 0, me_X6_as, 3, [689, 692, 56, 690, 691]), (8, 136, 0, me_X7_as, 3, [1106, 1109, 63, 1107, 1108]), (8, 137, 0, me_X6_ask, 3, [696, 699, 56, 697, 698]), (8, 140, 0, me_X7_ask, 3, [1110, 1113, 63, 1111, 1112]), (8, 141, 0, me_X6_trace, 2, [716, 719, 56, 717, 718]), (8, 144, 0, me_X7_trace, 2, [1134, 1137, 63, 1135, 1136]), (8, 145, 0, me_X6_count, 2, [720, 723, 56, 721, 722]), (8, 148, 0, me_X7_count, 2, [1138, 1141, 63, 1139, 1140]), (8, 149, 0, me_X6_status, 1, [728, 731, 56, 729, 730]), (8, 152, 0, me_X7_status, 1, [1142, 1145, 63, 1143, 1144])]
def xr_mthT : List (Nat × Nat × Nat × am_M × Nat × List Nat) := xr_mthT_0 ++ xr_mthT_1 ++ xr_mthT_2 ++ xr_mthT_3
def xr_mth (c k : Nat) : Option (Nat × am_M × Nat) := (xr_mthT.find? fun e => e.1 == c && e.2.1 == k).map fun e => (e.2.2.1, e.2.2.2.1, e.2.2.2.2.1)
def xr_wd (i : Nat) (w : Cond) : Bool := goodWord w && decide (lw_tbl[i]? = some w)
/-- the words that every call hands on -/
def xr_wds : List Cond := lw_tbl.filter goodWord
theorem xr_wd_in {i : Nat} {w : Cond} (h : xr_wd i w = true) : w ∈ xr_wds := by
  simp only [xr_wd, Bool.and_eq_true, decide_eq_true_eq] at h
  exact List.mem_filter.mpr ⟨List.mem_of_getElem? h.2, h.1⟩
def xr_fldC (e : Nat × Nat × Nat × Nat × Nat) : Bool := xr_wd e.2.2.2.2 (.fieldLink (xr_R e.1) e.2.1 (xr_T e.2.2.1 e.2.2.2.1).1 (xr_T e.2.2.1 e.2.2.2.1).2.1 (xr_T e.2.2.1 e.2.2.2.1).2.2.1) && decide (e.2.2.1 < 8)
def xr_cstC (e : Nat × Nat × Int × Nat) : Bool := xr_wd e.2.2.2 (.constant (xr_R e.1) e.2.1 (Int32.ofInt e.2.2.1)) && decide (am_ok e.2.2.1)
def xr_cslC (e : Nat × Nat × Int × Nat) : Bool := xr_wd e.2.2.2 (.constantLong (xr_R e.1) e.2.1 (Int64.ofInt e.2.2.1)) && decide (am_okl e.2.2.1)
def xr_newC (e : Nat × Nat × Nat × Nat) : Bool := xr_wd e.2.2.2 (.classLink (xr_R e.1) e.2.1 (if e.2.2.1 = 103 then "[[I" else xr_R e.2.2.1)) && (decide (e.2.2.1 = 103) || decide (e.2.2.1 < 8))
def xr_gstC (e : Nat × Nat × Nat × Nat) : Bool := xr_wd e.2.2.2 (.fieldLink (xr_R e.1) e.2.1 RX1 (if e.2.2.1 = 1 then "SIZE_BODIES" else "MARK_BODIES") "[I") && (decide (e.2.2.1 = 1) || decide (e.2.2.1 = 2))
def xr_mokC (M : am_M) (na _cw ini : Nat) : Bool := xr_wd ini (.initialized M.2.1.cls) && decide (M.2.1.cls = xr_R M.1) && plainName M.2.1.cls && decide (M.2.1.cls ≠ "java/lang/invoke/MethodHandle") && decide (M.2.1.cls ≠ "java/lang/invoke/VarHandle") && decide ((parseMethodDescriptor M.2.1.desc).map (fun d => d.parameters.length) = some na) && decide (M.2.2.2.1 ≤ 40)
def xr_mthC (e : Nat × Nat × Nat × am_M × Nat × List Nat) : Bool := match e with
  | (c, k, 0, M, na, [a1, a2, a3, a4, a5]) => xr_mokC M (na - 1) a2 a3 && xr_wd a1 (.methodLink (xr_R c) k M.2.1) && xr_wd a4 (.instanceMethod M.2.1) && xr_wd a5 (.selects (xr_R M.1) M.2.1 M.2.1) && decide (0 < na)
  | (c, k, 1, M, na, [a1, a2, a3, a4, _]) => xr_mokC M na a2 a3 && xr_wd a1 (.methodLink (xr_R c) k M.2.1) && xr_wd a4 (.static M.2.1)
  | (c, k, 2, M, na, [a1, a2, a3, a4, _]) => xr_mokC M (na - 1) a2 a3 && xr_wd a1 (.methodLink (xr_R c) k M.2.1) && xr_wd a4 (.instanceMethod M.2.1) && decide (M.2.1.name = "<init>") && decide (M.2.2.2.2.1 = none) && decide (0 < na)
  | (c, k, 3, M, na, [a1, a2, a3, a4, _]) => xr_mokC M na a2 a3 && decide (lw_tbl[a1]? = some (.methodLinkNest (xr_R c) k M.2.1 "MoodFare")) && xr_wd a4 (.static M.2.1) && decide (c = 3 ∧ k = 75 ∧ M.2.1 = yX6_power)
  | (c, k, 4, _, _, [a1]) => xr_wd a1 (.methodLink (xr_R c) k objectInit)
  | (c, k, 5, _, _, [a1]) => xr_wd a1 (.methodLink (xr_R c) k arraycopyName)
  | (c, k, 6, _, _, [a1]) => xr_wd a1 (.methodLink (xr_R c) k Lib.Math.max.name)
  | (c, k, 7, _, _, [a1]) => xr_wd a1 (.methodLink (xr_R c) k Lib.Math.min.name)
  | (c, k, 8, _, _, [a1]) => xr_wd a1 (.methodLink (xr_R c) k Lib.Math.abs.name)
  | _ => false
theorem xr_fld_ok : xr_fldT.all xr_fldC = true := by decide +kernel
theorem xr_cst_ok : xr_cstT.all xr_cstC = true := by decide +kernel
theorem xr_csl_ok : xr_cslT.all xr_cslC = true := by decide +kernel
theorem xr_new_ok : xr_newT.all xr_newC = true := by decide +kernel
theorem xr_gst_ok : xr_gstT.all xr_gstC = true := by decide +kernel
theorem xr_mth_ok_0 : xr_mthT_0.all xr_mthC = true := by decide +kernel
theorem xr_mth_ok_1 : xr_mthT_1.all xr_mthC = true := by decide +kernel
theorem xr_mth_ok_2 : xr_mthT_2.all xr_mthC = true := by decide +kernel
theorem xr_mth_ok_3 : xr_mthT_3.all xr_mthC = true := by decide +kernel
theorem xr_mth_ok : ∀ e ∈ xr_mthT, xr_mthC e = true := by
  intro e he
  simp only [xr_mthT, List.mem_append] at he
  rcases he with (((h | h) | h) | h)
  · exact List.all_eq_true.mp xr_mth_ok_0 e h
  · exact List.all_eq_true.mp xr_mth_ok_1 e h
  · exact List.all_eq_true.mp xr_mth_ok_2 e h
  · exact List.all_eq_true.mp xr_mth_ok_3 e h
theorem xr_find {α : Type} {l : List α} {p : α → Bool} {e : α} (h : l.find? p = some e) : e ∈ l ∧ p e = true := ⟨List.mem_of_find?_eq_some h, List.find?_some h⟩
set_option maxRecDepth 100000 in
theorem xr_c_X0_init : Cond.code me_X0_init.2.1 me_X0_init.2.2.1 me_X0_init.2.2.2.1 me_X0_init.2.2.2.2.1 ∈ tables_1_1 := List.mem_of_getElem? (i := 152) rfl
set_option maxRecDepth 100000 in
theorem xr_c_X0_forget : Cond.code me_X0_forget.2.1 me_X0_forget.2.2.1 me_X0_forget.2.2.2.1 me_X0_forget.2.2.2.2.1 ∈ tables_1_2 := List.mem_of_getElem? (i := 150) rfl
set_option maxRecDepth 100000 in
theorem xr_c_X0_keep : Cond.code me_X0_keep.2.1 me_X0_keep.2.2.1 me_X0_keep.2.2.2.1 me_X0_keep.2.2.2.2.1 ∈ tables_1_2 := List.mem_of_getElem? (i := 180) rfl
set_option maxRecDepth 100000 in
theorem xr_c_X0_takeBack : Cond.code me_X0_takeBack.2.1 me_X0_takeBack.2.2.1 me_X0_takeBack.2.2.2.1 me_X0_takeBack.2.2.2.2.1 ∈ tables_1_3 := List.mem_of_getElem? (i := 2) rfl
set_option maxRecDepth 100000 in
theorem xr_c_X1_init : Cond.code me_X1_init.2.1 me_X1_init.2.2.1 me_X1_init.2.2.2.1 me_X1_init.2.2.2.2.1 ∈ tables_1_1 := List.mem_of_getElem? (i := 215) rfl
set_option maxRecDepth 100000 in
theorem xr_c_X1_answerOf : Cond.code me_X1_answerOf.2.1 me_X1_answerOf.2.2.1 me_X1_answerOf.2.2.2.1 me_X1_answerOf.2.2.2.2.1 ∈ tables_1_3 := List.mem_of_getElem? (i := 168) rfl
set_option maxRecDepth 100000 in
theorem xr_c_X1_gives : Cond.code me_X1_gives.2.1 me_X1_gives.2.2.1 me_X1_gives.2.2.2.1 me_X1_gives.2.2.2.2.1 ∈ tables_1_3 := List.mem_of_getElem? (i := 176) rfl
set_option maxRecDepth 100000 in
theorem xr_c_X1_leave : Cond.code me_X1_leave.2.1 me_X1_leave.2.2.1 me_X1_leave.2.2.2.1 me_X1_leave.2.2.2.2.1 ∈ tables_1_3 := List.mem_of_getElem? (i := 180) rfl
set_option maxRecDepth 100000 in
theorem xr_c_X2_init : Cond.code me_X2_init.2.1 me_X2_init.2.2.1 me_X2_init.2.2.2.1 me_X2_init.2.2.2.2.1 ∈ tables_1_1 := List.mem_of_getElem? (i := 24) rfl
set_option maxRecDepth 100000 in
theorem xr_c_X2_findingOf : Cond.code me_X2_findingOf.2.1 me_X2_findingOf.2.2.1 me_X2_findingOf.2.2.2.1 me_X2_findingOf.2.2.2.2.1 ∈ tables_1_2 := List.mem_of_getElem? (i := 45) rfl
set_option maxRecDepth 100000 in
theorem xr_c_X2_findingOfMove : Cond.code me_X2_findingOfMove.2.1 me_X2_findingOfMove.2.2.1 me_X2_findingOfMove.2.2.2.1 me_X2_findingOfMove.2.2.2.2.1 ∈ tables_1_2 := List.mem_of_getElem? (i := 65) rfl
set_option maxRecDepth 100000 in
theorem xr_c_X2_howMany : Cond.code me_X2_howMany.2.1 me_X2_howMany.2.2.1 me_X2_howMany.2.2.2.1 me_X2_howMany.2.2.2.2.1 ∈ tables_1_3 := List.mem_of_getElem? (i := 192) rfl
set_option maxRecDepth 100000 in
theorem xr_c_X2_isMissing : Cond.code me_X2_isMissing.2.1 me_X2_isMissing.2.2.1 me_X2_isMissing.2.2.2.1 me_X2_isMissing.2.2.2.2.1 ∈ tables_1_2 := List.mem_of_getElem? (i := 49) rfl
set_option maxRecDepth 100000 in
theorem xr_c_X2_isRow : Cond.code me_X2_isRow.2.1 me_X2_isRow.2.2.1 me_X2_isRow.2.2.2.1 me_X2_isRow.2.2.2.2.1 ∈ tables_1_2 := List.mem_of_getElem? (i := 23) rfl
set_option maxRecDepth 100000 in
theorem xr_c_X2_lay : Cond.code me_X2_lay.2.1 me_X2_lay.2.2.1 me_X2_lay.2.2.2.1 me_X2_lay.2.2.2.2.1 ∈ tables_1_2 := List.mem_of_getElem? (i := 33) rfl
set_option maxRecDepth 100000 in
theorem xr_c_X2_lose : Cond.code me_X2_lose.2.1 me_X2_lose.2.2.1 me_X2_lose.2.2.2.1 me_X2_lose.2.2.2.2.1 ∈ tables_1_2 := List.mem_of_getElem? (i := 81) rfl
set_option maxRecDepth 100000 in
theorem xr_c_X2_move : Cond.code me_X2_move.2.1 me_X2_move.2.2.1 me_X2_move.2.2.2.1 me_X2_move.2.2.2.2.1 ∈ tables_1_2 := List.mem_of_getElem? (i := 69) rfl
set_option maxRecDepth 100000 in
theorem xr_c_X2_put : Cond.code me_X2_put.2.1 me_X2_put.2.2.1 me_X2_put.2.2.2.1 me_X2_put.2.2.2.2.1 ∈ tables_1_2 := List.mem_of_getElem? (i := 57) rfl
set_option maxRecDepth 100000 in
theorem xr_c_X2_spans : Cond.code me_X2_spans.2.1 me_X2_spans.2.2.1 me_X2_spans.2.2.2.1 me_X2_spans.2.2.2.2.1 ∈ tables_1_2 := List.mem_of_getElem? (i := 53) rfl
set_option maxRecDepth 100000 in
theorem xr_c_X3_init : Cond.code me_X3_init.2.1 me_X3_init.2.2.1 me_X3_init.2.2.2.1 me_X3_init.2.2.2.2.1 ∈ tables_1_1 := List.mem_of_getElem? (i := 170) rfl
set_option maxRecDepth 100000 in
theorem xr_c_X3_keepPath : Cond.code me_X3_keepPath.2.1 me_X3_keepPath.2.2.1 me_X3_keepPath.2.2.2.1 me_X3_keepPath.2.2.2.2.1 ∈ tables_1_3 := List.mem_of_getElem? (i := 52) rfl
set_option maxRecDepth 100000 in
theorem xr_c_X3_seek : Cond.code me_X3_seek.2.1 me_X3_seek.2.2.1 me_X3_seek.2.2.2.1 me_X3_seek.2.2.2.2.1 ∈ tables_1_3 := List.mem_of_getElem? (i := 39) rfl
set_option maxRecDepth 100000 in
theorem xr_c_X3_seekWithin : Cond.code me_X3_seekWithin.2.1 me_X3_seekWithin.2.2.1 me_X3_seekWithin.2.2.2.1 me_X3_seekWithin.2.2.2.2.1 ∈ tables_1_3 := List.mem_of_getElem? (i := 108) rfl
set_option maxRecDepth 100000 in
theorem xr_c_X3_streetOf : Cond.code me_X3_streetOf.2.1 me_X3_streetOf.2.2.1 me_X3_streetOf.2.2.2.1 me_X3_streetOf.2.2.2.2.1 ∈ tables_1_3 := List.mem_of_getElem? (i := 60) rfl
set_option maxRecDepth 100000 in
theorem xr_c_X3_walk : Cond.code me_X3_walk.2.1 me_X3_walk.2.2.1 me_X3_walk.2.2.2.1 me_X3_walk.2.2.2.2.1 ∈ tables_1_3 := List.mem_of_getElem? (i := 44) rfl
set_option maxRecDepth 100000 in
theorem xr_c_X3_weigh : Cond.code me_X3_weigh.2.1 me_X3_weigh.2.2.1 me_X3_weigh.2.2.2.1 me_X3_weigh.2.2.2.2.1 ∈ tables_1_3 := List.mem_of_getElem? (i := 48) rfl
set_option maxRecDepth 100000 in
theorem xr_c_X3_weightOfEnough : Cond.code me_X3_weightOfEnough.2.1 me_X3_weightOfEnough.2.2.1 me_X3_weightOfEnough.2.2.2.1 me_X3_weightOfEnough.2.2.2.2.1 ∈ tables_1_3 := List.mem_of_getElem? (i := 113) rfl
set_option maxRecDepth 100000 in
theorem xr_c_X4_init : Cond.code me_X4_init.2.1 me_X4_init.2.2.1 me_X4_init.2.2.2.1 me_X4_init.2.2.2.2.1 ∈ tables_1_1 := List.mem_of_getElem? (i := 44) rfl
set_option maxRecDepth 100000 in
theorem xr_c_X4_failsAt : Cond.code me_X4_failsAt.2.1 me_X4_failsAt.2.2.1 me_X4_failsAt.2.2.2.1 me_X4_failsAt.2.2.2.2.1 ∈ tables_1_2 := List.mem_of_getElem? (i := 118) rfl
set_option maxRecDepth 100000 in
theorem xr_c_X4_isTold : Cond.code me_X4_isTold.2.1 me_X4_isTold.2.2.1 me_X4_isTold.2.2.2.1 me_X4_isTold.2.2.2.2.1 ∈ tables_1_2 := List.mem_of_getElem? (i := 140) rfl
set_option maxRecDepth 100000 in
theorem xr_c_X4_kindOf : Cond.code me_X4_kindOf.2.1 me_X4_kindOf.2.2.1 me_X4_kindOf.2.2.2.1 me_X4_kindOf.2.2.2.2.1 ∈ tables_1_2 := List.mem_of_getElem? (i := 129) rfl
set_option maxRecDepth 100000 in
theorem xr_c_X4_letterHere : Cond.code me_X4_letterHere.2.1 me_X4_letterHere.2.2.1 me_X4_letterHere.2.2.2.1 me_X4_letterHere.2.2.2.2.1 ∈ tables_1_2 := List.mem_of_getElem? (i := 114) rfl
set_option maxRecDepth 100000 in
theorem xr_c_X4_numberWithin : Cond.code me_X4_numberWithin.2.1 me_X4_numberWithin.2.2.1 me_X4_numberWithin.2.2.2.1 me_X4_numberWithin.2.2.2.2.1 ∈ tables_1_2 := List.mem_of_getElem? (i := 122) rfl
set_option maxRecDepth 100000 in
theorem xr_c_X4_put : Cond.code me_X4_put.2.1 me_X4_put.2.2.1 me_X4_put.2.2.2.1 me_X4_put.2.2.2.2.1 ∈ tables_1_2 := List.mem_of_getElem? (i := 90) rfl
set_option maxRecDepth 100000 in
theorem xr_c_X4_readCorners : Cond.code me_X4_readCorners.2.1 me_X4_readCorners.2.2.1 me_X4_readCorners.2.2.2.1 me_X4_readCorners.2.2.2.2.1 ∈ tables_1_2 := List.mem_of_getElem? (i := 126) rfl
set_option maxRecDepth 100000 in
theorem xr_c_X4_readEnds : Cond.code me_X4_readEnds.2.1 me_X4_readEnds.2.2.1 me_X4_readEnds.2.2.2.1 me_X4_readEnds.2.2.2.2.1 ∈ tables_1_2 := List.mem_of_getElem? (i := 137) rfl
set_option maxRecDepth 100000 in
theorem xr_c_X4_readInto : Cond.code me_X4_readInto.2.1 me_X4_readInto.2.2.1 me_X4_readInto.2.2.2.1 me_X4_readInto.2.2.2.2.1 ∈ tables_1_2 := List.mem_of_getElem? (i := 98) rfl
set_option maxRecDepth 100000 in
theorem xr_c_X4_readLaw : Cond.code me_X4_readLaw.2.1 me_X4_readLaw.2.2.1 me_X4_readLaw.2.2.2.1 me_X4_readLaw.2.2.2.2.1 ∈ tables_1_2 := List.mem_of_getElem? (i := 106) rfl
set_option maxRecDepth 100000 in
theorem xr_c_X4_readStreets : Cond.code me_X4_readStreets.2.1 me_X4_readStreets.2.2.1 me_X4_readStreets.2.2.2.1 me_X4_readStreets.2.2.2.2.1 ∈ tables_1_2 := List.mem_of_getElem? (i := 133) rfl
set_option maxRecDepth 100000 in
theorem xr_c_X4_takes : Cond.code me_X4_takes.2.1 me_X4_takes.2.2.1 me_X4_takes.2.2.2.1 me_X4_takes.2.2.2.2.1 ∈ tables_1_2 := List.mem_of_getElem? (i := 110) rfl
set_option maxRecDepth 100000 in
theorem xr_c_X5_init : Cond.code me_X5_init.2.1 me_X5_init.2.2.1 me_X5_init.2.2.2.1 me_X5_init.2.2.2.2.1 ∈ tables_1_1 := List.mem_of_getElem? (i := 69) rfl
set_option maxRecDepth 100000 in
theorem xr_c_X5_become : Cond.code me_X5_become.2.1 me_X5_become.2.2.1 me_X5_become.2.2.2.1 me_X5_become.2.2.2.2.1 ∈ tables_1_2 := List.mem_of_getElem? (i := 145) rfl
set_option maxRecDepth 100000 in
theorem xr_c_X5_clear : Cond.code me_X5_clear.2.1 me_X5_clear.2.2.1 me_X5_clear.2.2.2.1 me_X5_clear.2.2.2.2.1 ∈ tables_1_2 := List.mem_of_getElem? (i := 102) rfl
set_option maxRecDepth 100000 in
theorem xr_c_X5_costBetween : Cond.code me_X5_costBetween.2.1 me_X5_costBetween.2.2.1 me_X5_costBetween.2.2.2.1 me_X5_costBetween.2.2.2.2.1 ∈ tables_1_2 := List.mem_of_getElem? (i := 206) rfl
set_option maxRecDepth 100000 in
theorem xr_c_X5_costBy : Cond.code me_X5_costBy.2.1 me_X5_costBy.2.2.1 me_X5_costBy.2.2.2.1 me_X5_costBy.2.2.2.2.1 ∈ tables_1_2 := List.mem_of_getElem? (i := 188) rfl
set_option maxRecDepth 100000 in
theorem xr_c_X5_goBy : Cond.code me_X5_goBy.2.1 me_X5_goBy.2.2.1 me_X5_goBy.2.2.2.1 me_X5_goBy.2.2.2.2.1 ∈ tables_1_2 := List.mem_of_getElem? (i := 184) rfl
set_option maxRecDepth 100000 in
theorem xr_c_X5_goByDraw : Cond.code me_X5_goByDraw.2.1 me_X5_goByDraw.2.2.1 me_X5_goByDraw.2.2.2.1 me_X5_goByDraw.2.2.2.2.1 ∈ tables_1_3 := List.mem_of_getElem? (i := 139) rfl
set_option maxRecDepth 100000 in
theorem xr_c_X5_hasCorner : Cond.code me_X5_hasCorner.2.1 me_X5_hasCorner.2.2.1 me_X5_hasCorner.2.2.2.1 me_X5_hasCorner.2.2.2.2.1 ∈ tables_1_2 := List.mem_of_getElem? (i := 217) rfl
set_option maxRecDepth 100000 in
theorem xr_c_X5_hasStreet : Cond.code me_X5_hasStreet.2.1 me_X5_hasStreet.2.2.1 me_X5_hasStreet.2.2.2.1 me_X5_hasStreet.2.2.2.2.1 ∈ tables_1_2 := List.mem_of_getElem? (i := 162) rfl
set_option maxRecDepth 100000 in
theorem xr_c_X5_isOpen : Cond.code me_X5_isOpen.2.1 me_X5_isOpen.2.2.1 me_X5_isOpen.2.2.2.1 me_X5_isOpen.2.2.2.2.1 ∈ tables_1_2 := List.mem_of_getElem? (i := 175) rfl
set_option maxRecDepth 100000 in
theorem xr_c_X5_leads : Cond.code me_X5_leads.2.1 me_X5_leads.2.2.1 me_X5_leads.2.2.2.1 me_X5_leads.2.2.2.2.1 ∈ tables_1_2 := List.mem_of_getElem? (i := 166) rfl
set_option maxRecDepth 100000 in
theorem xr_c_X5_leadsFrom : Cond.code me_X5_leadsFrom.2.1 me_X5_leadsFrom.2.2.1 me_X5_leadsFrom.2.2.2.1 me_X5_leadsFrom.2.2.2.2.1 ∈ tables_1_2 := List.mem_of_getElem? (i := 170) rfl
set_option maxRecDepth 100000 in
theorem xr_c_X5_moodBehind : Cond.code me_X5_moodBehind.2.1 me_X5_moodBehind.2.2.1 me_X5_moodBehind.2.2.2.1 me_X5_moodBehind.2.2.2.2.1 ∈ tables_1_2 := List.mem_of_getElem? (i := 196) rfl
set_option maxRecDepth 100000 in
theorem xr_c_X5_moodBy : Cond.code me_X5_moodBy.2.1 me_X5_moodBy.2.2.1 me_X5_moodBy.2.2.2.1 me_X5_moodBy.2.2.2.2.1 ∈ tables_1_2 := List.mem_of_getElem? (i := 192) rfl
set_option maxRecDepth 100000 in
theorem xr_c_X5_openWays : Cond.code me_X5_openWays.2.1 me_X5_openWays.2.2.1 me_X5_openWays.2.2.2.1 me_X5_openWays.2.2.2.2.1 ∈ tables_1_3 := List.mem_of_getElem? (i := 31) rfl
set_option maxRecDepth 100000 in
theorem xr_c_X5_stands : Cond.code me_X5_stands.2.1 me_X5_stands.2.2.1 me_X5_stands.2.2.2.1 me_X5_stands.2.2.2.2.1 ∈ tables_1_2 := List.mem_of_getElem? (i := 225) rfl
set_option maxRecDepth 100000 in
theorem xr_c_X5_turn : Cond.code me_X5_turn.2.1 me_X5_turn.2.2.1 me_X5_turn.2.2.2.1 me_X5_turn.2.2.2.2.1 ∈ tables_1_2 := List.mem_of_getElem? (i := 234) rfl
set_option maxRecDepth 100000 in
theorem xr_c_X6_init : Cond.code me_X6_init.2.1 me_X6_init.2.2.1 me_X6_init.2.2.2.1 me_X6_init.2.2.2.2.1 ∈ tables_1_1 := List.mem_of_getElem? (i := 16) rfl
set_option maxRecDepth 100000 in
theorem xr_c_X6_areFitting : Cond.code me_X6_areFitting.2.1 me_X6_areFitting.2.2.1 me_X6_areFitting.2.2.2.1 me_X6_areFitting.2.2.2.2.1 ∈ tables_1_3 := List.mem_of_getElem? (i := 80) rfl
set_option maxRecDepth 100000 in
theorem xr_c_X6_as : Cond.code me_X6_as.2.1 me_X6_as.2.2.1 me_X6_as.2.2.2.1 me_X6_as.2.2.2.2.1 ∈ tables_1_3 := List.mem_of_getElem? (i := 157) rfl
set_option maxRecDepth 100000 in
theorem xr_c_X6_ask : Cond.code me_X6_ask.2.1 me_X6_ask.2.2.1 me_X6_ask.2.2.2.1 me_X6_ask.2.2.2.2.1 ∈ tables_1_3 := List.mem_of_getElem? (i := 164) rfl
set_option maxRecDepth 100000 in
theorem xr_c_X6_cheapest : Cond.code me_X6_cheapest.2.1 me_X6_cheapest.2.2.1 me_X6_cheapest.2.2.2.1 me_X6_cheapest.2.2.2.2.1 ∈ tables_1_3 := List.mem_of_getElem? (i := 35) rfl
set_option maxRecDepth 100000 in
theorem xr_c_X6_commonDivisor : Cond.code me_X6_commonDivisor.2.1 me_X6_commonDivisor.2.2.1 me_X6_commonDivisor.2.2.2.1 me_X6_commonDivisor.2.2.2.2.1 ∈ tables_1_3 := List.mem_of_getElem? (i := 127) rfl
set_option maxRecDepth 100000 in
theorem xr_c_X6_copy : Cond.code me_X6_copy.2.1 me_X6_copy.2.2.1 me_X6_copy.2.2.2.1 me_X6_copy.2.2.2.2.1 ∈ tables_1_2 := List.mem_of_getElem? (i := 61) rfl
set_option maxRecDepth 100000 in
theorem xr_c_X6_corner : Cond.code me_X6_corner.2.1 me_X6_corner.2.2.1 me_X6_corner.2.2.2.1 me_X6_corner.2.2.2.2.1 ∈ tables_1_3 := List.mem_of_getElem? (i := 7) rfl
set_option maxRecDepth 100000 in
theorem xr_c_X6_count : Cond.code me_X6_count.2.1 me_X6_count.2.2.1 me_X6_count.2.2.2.1 me_X6_count.2.2.2.2.1 ∈ tables_1_3 := List.mem_of_getElem? (i := 188) rfl
set_option maxRecDepth 100000 in
theorem xr_c_X6_dearest : Cond.code me_X6_dearest.2.1 me_X6_dearest.2.2.1 me_X6_dearest.2.2.2.1 me_X6_dearest.2.2.2.2.1 ∈ tables_1_3 := List.mem_of_getElem? (i := 65) rfl
set_option maxRecDepth 100000 in
theorem xr_c_X6_drawn : Cond.code me_X6_drawn.2.1 me_X6_drawn.2.2.1 me_X6_drawn.2.2.2.1 me_X6_drawn.2.2.2.2.1 ∈ tables_1_3 := List.mem_of_getElem? (i := 132) rfl
set_option maxRecDepth 100000 in
theorem xr_c_X6_drop : Cond.code me_X6_drop.2.1 me_X6_drop.2.2.1 me_X6_drop.2.2.2.1 me_X6_drop.2.2.2.2.1 ∈ tables_1_2 := List.mem_of_getElem? (i := 76) rfl
set_option maxRecDepth 100000 in
theorem xr_c_X6_fault : Cond.code me_X6_fault.2.1 me_X6_fault.2.2.1 me_X6_fault.2.2.2.1 me_X6_fault.2.2.2.2.1 ∈ tables_1_2 := List.mem_of_getElem? (i := 154) rfl
set_option maxRecDepth 100000 in
theorem xr_c_X6_feed : Cond.code me_X6_feed.2.1 me_X6_feed.2.2.1 me_X6_feed.2.2.2.1 me_X6_feed.2.2.2.2.1 ∈ tables_1_2 := List.mem_of_getElem? (i := 85) rfl
set_option maxRecDepth 100000 in
theorem xr_c_X6_findingOfTwo : Cond.code me_X6_findingOfTwo.2.1 me_X6_findingOfTwo.2.2.1 me_X6_findingOfTwo.2.2.2.1 me_X6_findingOfTwo.2.2.2.2.1 ∈ tables_1_3 := List.mem_of_getElem? (i := 84) rfl
set_option maxRecDepth 100000 in
theorem xr_c_X6_fits : Cond.code me_X6_fits.2.1 me_X6_fits.2.2.1 me_X6_fits.2.2.2.1 me_X6_fits.2.2.2.2.1 ∈ tables_1_3 := List.mem_of_getElem? (i := 77) rfl
set_option maxRecDepth 100000 in
theorem xr_c_X6_fitsOf : Cond.code me_X6_fitsOf.2.1 me_X6_fitsOf.2.2.1 me_X6_fitsOf.2.2.2.1 me_X6_fitsOf.2.2.2.2.1 ∈ tables_1_3 := List.mem_of_getElem? (i := 92) rfl
set_option maxRecDepth 100000 in
theorem xr_c_X6_found : Cond.code me_X6_found.2.1 me_X6_found.2.2.1 me_X6_found.2.2.2.1 me_X6_found.2.2.2.2.1 ∈ tables_1_2 := List.mem_of_getElem? (i := 28) rfl
set_option maxRecDepth 100000 in
theorem xr_c_X6_gets : Cond.code me_X6_gets.2.1 me_X6_gets.2.2.1 me_X6_gets.2.2.2.1 me_X6_gets.2.2.2.2.1 ∈ tables_1_3 := List.mem_of_getElem? (i := 73) rfl
set_option maxRecDepth 100000 in
theorem xr_c_X6_image : Cond.code me_X6_image.2.1 me_X6_image.2.2.1 me_X6_image.2.2.2.1 me_X6_image.2.2.2.2.1 ∈ tables_1_3 := List.mem_of_getElem? (i := 145) rfl
set_option maxRecDepth 100000 in
theorem xr_c_X6_isOfKind : Cond.code me_X6_isOfKind.2.1 me_X6_isOfKind.2.2.1 me_X6_isOfKind.2.2.2.1 me_X6_isOfKind.2.2.2.2.1 ∈ tables_1_3 := List.mem_of_getElem? (i := 160) rfl
set_option maxRecDepth 100000 in
theorem xr_c_X6_isSo : Cond.code me_X6_isSo.2.1 me_X6_isSo.2.2.1 me_X6_isSo.2.2.2.1 me_X6_isSo.2.2.2.2.1 ∈ tables_1_3 := List.mem_of_getElem? (i := 88) rfl
set_option maxRecDepth 100000 in
theorem xr_c_X6_kind : Cond.code me_X6_kind.2.1 me_X6_kind.2.2.1 me_X6_kind.2.2.2.1 me_X6_kind.2.2.2.2.1 ∈ tables_1_3 := List.mem_of_getElem? (i := 153) rfl
set_option maxRecDepth 100000 in
theorem xr_c_X6_lesson : Cond.code me_X6_lesson.2.1 me_X6_lesson.2.2.1 me_X6_lesson.2.2.2.1 me_X6_lesson.2.2.2.2.1 ∈ tables_1_2 := List.mem_of_getElem? (i := 213) rfl
set_option maxRecDepth 100000 in
theorem xr_c_X6_moods : Cond.code me_X6_moods.2.1 me_X6_moods.2.2.1 me_X6_moods.2.2.2.1 me_X6_moods.2.2.2.2.1 ∈ tables_1_3 := List.mem_of_getElem? (i := 69) rfl
set_option maxRecDepth 100000 in
theorem xr_c_X6_owedFrom : Cond.code me_X6_owedFrom.2.1 me_X6_owedFrom.2.2.1 me_X6_owedFrom.2.2.2.1 me_X6_owedFrom.2.2.2.2.1 ∈ tables_1_3 := List.mem_of_getElem? (i := 100) rfl
set_option maxRecDepth 100000 in
theorem xr_c_X6_power : Cond.code me_X6_power.2.1 me_X6_power.2.2.1 me_X6_power.2.2.2.1 me_X6_power.2.2.2.2.1 ∈ tables_1_3 := List.mem_of_getElem? (i := 122) rfl
set_option maxRecDepth 100000 in
theorem xr_c_X6_reach : Cond.code me_X6_reach.2.1 me_X6_reach.2.2.1 me_X6_reach.2.2.2.1 me_X6_reach.2.2.2.2.1 ∈ tables_1_3 := List.mem_of_getElem? (i := 27) rfl
set_option maxRecDepth 100000 in
theorem xr_c_X6_reset : Cond.code me_X6_reset.2.1 me_X6_reset.2.2.1 me_X6_reset.2.2.2.1 me_X6_reset.2.2.2.2.1 ∈ tables_1_2 := List.mem_of_getElem? (i := 221) rfl
set_option maxRecDepth 100000 in
theorem xr_c_X6_restore : Cond.code me_X6_restore.2.1 me_X6_restore.2.2.1 me_X6_restore.2.2.2.1 me_X6_restore.2.2.2.2.1 ∈ tables_1_3 := List.mem_of_getElem? (i := 149) rfl
set_option maxRecDepth 100000 in
theorem xr_c_X6_ride : Cond.code me_X6_ride.2.1 me_X6_ride.2.2.1 me_X6_ride.2.2.2.1 me_X6_ride.2.2.2.2.1 ∈ tables_1_2 := List.mem_of_getElem? (i := 158) rfl
set_option maxRecDepth 100000 in
theorem xr_c_X6_row : Cond.code me_X6_row.2.1 me_X6_row.2.2.1 me_X6_row.2.2.2.1 me_X6_row.2.2.2.2.1 ∈ tables_1_2 := List.mem_of_getElem? (i := 20) rfl
set_option maxRecDepth 100000 in
theorem xr_c_X6_set : Cond.code me_X6_set.2.1 me_X6_set.2.2.1 me_X6_set.2.2.2.1 me_X6_set.2.2.2.2.1 ∈ tables_1_2 := List.mem_of_getElem? (i := 41) rfl
set_option maxRecDepth 100000 in
theorem xr_c_X6_share : Cond.code me_X6_share.2.1 me_X6_share.2.2.1 me_X6_share.2.2.2.1 me_X6_share.2.2.2.2.1 ∈ tables_1_3 := List.mem_of_getElem? (i := 96) rfl
set_option maxRecDepth 100000 in
theorem xr_c_X6_shut : Cond.code me_X6_shut.2.1 me_X6_shut.2.2.1 me_X6_shut.2.2.2.1 me_X6_shut.2.2.2.2.1 ∈ tables_1_3 := List.mem_of_getElem? (i := 104) rfl
set_option maxRecDepth 100000 in
theorem xr_c_X6_status : Cond.code me_X6_status.2.1 me_X6_status.2.2.1 me_X6_status.2.2.2.1 me_X6_status.2.2.2.2.1 ∈ tables_1_3 := List.mem_of_getElem? (i := 196) rfl
set_option maxRecDepth 100000 in
theorem xr_c_X6_street : Cond.code me_X6_street.2.1 me_X6_street.2.2.1 me_X6_street.2.2.2.1 me_X6_street.2.2.2.2.1 ∈ tables_1_2 := List.mem_of_getElem? (i := 229) rfl
set_option maxRecDepth 100000 in
theorem xr_c_X6_streetsAt : Cond.code me_X6_streetsAt.2.1 me_X6_streetsAt.2.2.1 me_X6_streetsAt.2.2.2.1 me_X6_streetsAt.2.2.2.2.1 ∈ tables_1_3 := List.mem_of_getElem? (i := 11) rfl
set_option maxRecDepth 100000 in
theorem xr_c_X6_town : Cond.code me_X6_town.2.1 me_X6_town.2.2.1 me_X6_town.2.2.2.1 me_X6_town.2.2.2.2.1 ∈ tables_1_2 := List.mem_of_getElem? (i := 94) rfl
set_option maxRecDepth 100000 in
theorem xr_c_X6_trace : Cond.code me_X6_trace.2.1 me_X6_trace.2.2.1 me_X6_trace.2.2.2.1 me_X6_trace.2.2.2.2.1 ∈ tables_1_3 := List.mem_of_getElem? (i := 184) rfl
set_option maxRecDepth 100000 in
theorem xr_c_X6_undo : Cond.code me_X6_undo.2.1 me_X6_undo.2.2.1 me_X6_undo.2.2.2.1 me_X6_undo.2.2.2.2.1 ∈ tables_1_2 := List.mem_of_getElem? (i := 238) rfl
set_option maxRecDepth 100000 in
theorem xr_c_X6_unfound : Cond.code me_X6_unfound.2.1 me_X6_unfound.2.2.1 me_X6_unfound.2.2.2.1 me_X6_unfound.2.2.2.2.1 ∈ tables_1_2 := List.mem_of_getElem? (i := 37) rfl
set_option maxRecDepth 100000 in
theorem xr_c_X6_way : Cond.code me_X6_way.2.1 me_X6_way.2.2.1 me_X6_way.2.2.2.1 me_X6_way.2.2.2.2.1 ∈ tables_1_3 := List.mem_of_getElem? (i := 16) rfl
set_option maxRecDepth 100000 in
theorem xr_c_X6_would : Cond.code me_X6_would.2.1 me_X6_would.2.2.1 me_X6_would.2.2.2.1 me_X6_would.2.2.2.2.1 ∈ tables_1_3 := List.mem_of_getElem? (i := 20) rfl
set_option maxRecDepth 100000 in
theorem xr_c_X7_init : Cond.code me_X7_init.2.1 me_X7_init.2.2.1 me_X7_init.2.2.2.1 me_X7_init.2.2.2.2.1 ∈ tables_1_3 := List.mem_of_getElem? (i := 201) rfl
set_option maxRecDepth 100000 in
theorem xr_c_X7_adds : Cond.code me_X7_adds.2.1 me_X7_adds.2.2.1 me_X7_adds.2.2.2.1 me_X7_adds.2.2.2.2.1 ∈ tables_1_5 := List.mem_of_getElem? (i := 19) rfl
set_option maxRecDepth 100000 in
theorem xr_c_X7_advances : Cond.code me_X7_advances.2.1 me_X7_advances.2.2.1 me_X7_advances.2.2.2.1 me_X7_advances.2.2.2.2.1 ∈ tables_1_4 := List.mem_of_getElem? (i := 116) rfl
set_option maxRecDepth 100000 in
theorem xr_c_X7_all : Cond.code me_X7_all.2.1 me_X7_all.2.2.1 me_X7_all.2.2.2.1 me_X7_all.2.2.2.2.1 ∈ tables_1_5 := List.mem_of_getElem? (i := 47) rfl
set_option maxRecDepth 100000 in
theorem xr_c_X7_as : Cond.code me_X7_as.2.1 me_X7_as.2.2.1 me_X7_as.2.2.2.1 me_X7_as.2.2.2.2.1 ∈ tables_1_5 := List.mem_of_getElem? (i := 94) rfl
set_option maxRecDepth 100000 in
theorem xr_c_X7_ask : Cond.code me_X7_ask.2.1 me_X7_ask.2.2.1 me_X7_ask.2.2.2.1 me_X7_ask.2.2.2.2.1 ∈ tables_1_5 := List.mem_of_getElem? (i := 98) rfl
set_option maxRecDepth 100000 in
theorem xr_c_X7_bar : Cond.code me_X7_bar.2.1 me_X7_bar.2.2.1 me_X7_bar.2.2.2.1 me_X7_bar.2.2.2.2.1 ∈ tables_1_5 := List.mem_of_getElem? (i := 43) rfl
set_option maxRecDepth 100000 in
theorem xr_c_X7_begins : Cond.code me_X7_begins.2.1 me_X7_begins.2.2.1 me_X7_begins.2.2.2.1 me_X7_begins.2.2.2.2.1 ∈ tables_1_5 := List.mem_of_getElem? (i := 7) rfl
set_option maxRecDepth 100000 in
theorem xr_c_X7_byteAt : Cond.code me_X7_byteAt.2.1 me_X7_byteAt.2.2.1 me_X7_byteAt.2.2.2.1 me_X7_byteAt.2.2.2.2.1 ∈ tables_1_4 := List.mem_of_getElem? (i := 120) rfl
set_option maxRecDepth 100000 in
theorem xr_c_X7_cheapest : Cond.code me_X7_cheapest.2.1 me_X7_cheapest.2.2.1 me_X7_cheapest.2.2.2.1 me_X7_cheapest.2.2.2.2.1 ∈ tables_1_4 := List.mem_of_getElem? (i := 239) rfl
set_option maxRecDepth 100000 in
theorem xr_c_X7_copies : Cond.code me_X7_copies.2.1 me_X7_copies.2.2.1 me_X7_copies.2.2.2.1 me_X7_copies.2.2.2.2.1 ∈ tables_1_4 := List.mem_of_getElem? (i := 159) rfl
set_option maxRecDepth 100000 in
theorem xr_c_X7_copy : Cond.code me_X7_copy.2.1 me_X7_copy.2.2.1 me_X7_copy.2.2.2.1 me_X7_copy.2.2.2.2.1 ∈ tables_1_4 := List.mem_of_getElem? (i := 95) rfl
set_option maxRecDepth 100000 in
theorem xr_c_X7_corner : Cond.code me_X7_corner.2.1 me_X7_corner.2.2.1 me_X7_corner.2.2.2.1 me_X7_corner.2.2.2.2.1 ∈ tables_1_4 := List.mem_of_getElem? (i := 219) rfl
set_option maxRecDepth 100000 in
theorem xr_c_X7_cost : Cond.code me_X7_cost.2.1 me_X7_cost.2.2.1 me_X7_cost.2.2.2.1 me_X7_cost.2.2.2.2.1 ∈ tables_1_4 := List.mem_of_getElem? (i := 188) rfl
set_option maxRecDepth 100000 in
theorem xr_c_X7_count : Cond.code me_X7_count.2.1 me_X7_count.2.2.1 me_X7_count.2.2.2.1 me_X7_count.2.2.2.2.1 ∈ tables_1_5 := List.mem_of_getElem? (i := 126) rfl
set_option maxRecDepth 100000 in
theorem xr_c_X7_cut : Cond.code me_X7_cut.2.1 me_X7_cut.2.2.1 me_X7_cut.2.2.2.1 me_X7_cut.2.2.2.2.1 ∈ tables_1_4 := List.mem_of_getElem? (i := 91) rfl
set_option maxRecDepth 100000 in
theorem xr_c_X7_dearest : Cond.code me_X7_dearest.2.1 me_X7_dearest.2.2.1 me_X7_dearest.2.2.2.1 me_X7_dearest.2.2.2.2.1 ∈ tables_1_5 := List.mem_of_getElem? (i := 27) rfl
set_option maxRecDepth 100000 in
theorem xr_c_X7_drawn : Cond.code me_X7_drawn.2.1 me_X7_drawn.2.2.1 me_X7_drawn.2.2.2.1 me_X7_drawn.2.2.2.2.1 ∈ tables_1_5 := List.mem_of_getElem? (i := 67) rfl
set_option maxRecDepth 100000 in
theorem xr_c_X7_drop : Cond.code me_X7_drop.2.1 me_X7_drop.2.2.1 me_X7_drop.2.2.2.1 me_X7_drop.2.2.2.2.1 ∈ tables_1_4 := List.mem_of_getElem? (i := 103) rfl
set_option maxRecDepth 100000 in
theorem xr_c_X7_ends : Cond.code me_X7_ends.2.1 me_X7_ends.2.2.1 me_X7_ends.2.2.2.1 me_X7_ends.2.2.2.2.1 ∈ tables_1_4 := List.mem_of_getElem? (i := 223) rfl
set_option maxRecDepth 100000 in
theorem xr_c_X7_fault : Cond.code me_X7_fault.2.1 me_X7_fault.2.2.1 me_X7_fault.2.2.2.1 me_X7_fault.2.2.2.2.1 ∈ tables_1_4 := List.mem_of_getElem? (i := 163) rfl
set_option maxRecDepth 100000 in
theorem xr_c_X7_feed : Cond.code me_X7_feed.2.1 me_X7_feed.2.2.1 me_X7_feed.2.2.2.1 me_X7_feed.2.2.2.2.1 ∈ tables_1_4 := List.mem_of_getElem? (i := 107) rfl
set_option maxRecDepth 100000 in
theorem xr_c_X7_figure : Cond.code me_X7_figure.2.1 me_X7_figure.2.2.1 me_X7_figure.2.2.2.1 me_X7_figure.2.2.2.2.1 ∈ tables_1_4 := List.mem_of_getElem? (i := 132) rfl
set_option maxRecDepth 100000 in
theorem xr_c_X7_finds : Cond.code me_X7_finds.2.1 me_X7_finds.2.2.1 me_X7_finds.2.2.2.1 me_X7_finds.2.2.2.2.1 ∈ tables_1_5 := List.mem_of_getElem? (i := 3) rfl
set_option maxRecDepth 100000 in
theorem xr_c_X7_fits : Cond.code me_X7_fits.2.1 me_X7_fits.2.2.1 me_X7_fits.2.2.2.1 me_X7_fits.2.2.2.2.1 ∈ tables_1_5 := List.mem_of_getElem? (i := 39) rfl
set_option maxRecDepth 100000 in
theorem xr_c_X7_fitsOf : Cond.code me_X7_fitsOf.2.1 me_X7_fitsOf.2.2.1 me_X7_fitsOf.2.2.2.1 me_X7_fitsOf.2.2.2.2.1 ∈ tables_1_5 := List.mem_of_getElem? (i := 55) rfl
set_option maxRecDepth 100000 in
theorem xr_c_X7_follows : Cond.code me_X7_follows.2.1 me_X7_follows.2.2.1 me_X7_follows.2.2.2.1 me_X7_follows.2.2.2.2.1 ∈ tables_1_4 := List.mem_of_getElem? (i := 136) rfl
set_option maxRecDepth 100000 in
theorem xr_c_X7_found : Cond.code me_X7_found.2.1 me_X7_found.2.2.1 me_X7_found.2.2.2.1 me_X7_found.2.2.2.2.1 ∈ tables_1_4 := List.mem_of_getElem? (i := 75) rfl
set_option maxRecDepth 100000 in
theorem xr_c_X7_gets : Cond.code me_X7_gets.2.1 me_X7_gets.2.2.1 me_X7_gets.2.2.2.1 me_X7_gets.2.2.2.2.1 ∈ tables_1_5 := List.mem_of_getElem? (i := 35) rfl
set_option maxRecDepth 100000 in
theorem xr_c_X7_goes : Cond.code me_X7_goes.2.1 me_X7_goes.2.2.1 me_X7_goes.2.2.2.1 me_X7_goes.2.2.2.2.1 ∈ tables_1_4 := List.mem_of_getElem? (i := 174) rfl
set_option maxRecDepth 100000 in
theorem xr_c_X7_goesOn : Cond.code me_X7_goesOn.2.1 me_X7_goesOn.2.2.1 me_X7_goesOn.2.2.2.1 me_X7_goesOn.2.2.2.2.1 ∈ tables_1_5 := List.mem_of_getElem? (i := 15) rfl
set_option maxRecDepth 100000 in
theorem xr_c_X7_goesSo : Cond.code me_X7_goesSo.2.1 me_X7_goesSo.2.2.1 me_X7_goesSo.2.2.2.1 me_X7_goesSo.2.2.2.2.1 ∈ tables_1_5 := List.mem_of_getElem? (i := 51) rfl
set_option maxRecDepth 100000 in
theorem xr_c_X7_griefMark : Cond.code me_X7_griefMark.2.1 me_X7_griefMark.2.2.1 me_X7_griefMark.2.2.2.1 me_X7_griefMark.2.2.2.2.1 ∈ tables_1_5 := List.mem_of_getElem? (i := 118) rfl
set_option maxRecDepth 100000 in
theorem xr_c_X7_griefSize : Cond.code me_X7_griefSize.2.1 me_X7_griefSize.2.2.1 me_X7_griefSize.2.2.2.1 me_X7_griefSize.2.2.2.2.1 ∈ tables_1_5 := List.mem_of_getElem? (i := 102) rfl
set_option maxRecDepth 100000 in
theorem xr_c_X7_has : Cond.code me_X7_has.2.1 me_X7_has.2.2.1 me_X7_has.2.2.2.1 me_X7_has.2.2.2.2.1 ∈ tables_1_4 := List.mem_of_getElem? (i := 177) rfl
set_option maxRecDepth 100000 in
theorem xr_c_X7_image : Cond.code me_X7_image.2.1 me_X7_image.2.2.1 me_X7_image.2.2.2.1 me_X7_image.2.2.2.2.1 ∈ tables_1_5 := List.mem_of_getElem? (i := 78) rfl
set_option maxRecDepth 100000 in
theorem xr_c_X7_in : Cond.code me_X7_in.2.1 me_X7_in.2.2.1 me_X7_in.2.2.2.1 me_X7_in.2.2.2.2.1 ∈ tables_1_4 := List.mem_of_getElem? (i := 70) rfl
set_option maxRecDepth 100000 in
theorem xr_c_X7_isCorner : Cond.code me_X7_isCorner.2.1 me_X7_isCorner.2.2.1 me_X7_isCorner.2.2.2.1 me_X7_isCorner.2.2.2.2.1 ∈ tables_1_4 := List.mem_of_getElem? (i := 199) rfl
set_option maxRecDepth 100000 in
theorem xr_c_X7_isMissing : Cond.code me_X7_isMissing.2.1 me_X7_isMissing.2.2.1 me_X7_isMissing.2.2.2.1 me_X7_isMissing.2.2.2.2.1 ∈ tables_1_4 := List.mem_of_getElem? (i := 88) rfl
set_option maxRecDepth 100000 in
theorem xr_c_X7_isPart : Cond.code me_X7_isPart.2.1 me_X7_isPart.2.2.1 me_X7_isPart.2.2.2.1 me_X7_isPart.2.2.2.2.1 ∈ tables_1_4 := List.mem_of_getElem? (i := 99) rfl
set_option maxRecDepth 100000 in
theorem xr_c_X7_isRow : Cond.code me_X7_isRow.2.1 me_X7_isRow.2.2.1 me_X7_isRow.2.2.2.1 me_X7_isRow.2.2.2.2.1 ∈ tables_1_4 := List.mem_of_getElem? (i := 67) rfl
set_option maxRecDepth 100000 in
theorem xr_c_X7_isStreet : Cond.code me_X7_isStreet.2.1 me_X7_isStreet.2.2.1 me_X7_isStreet.2.2.2.1 me_X7_isStreet.2.2.2.2.1 ∈ tables_1_4 := List.mem_of_getElem? (i := 171) rfl
set_option maxRecDepth 100000 in
theorem xr_c_X7_isStreetTold : Cond.code me_X7_isStreetTold.2.1 me_X7_isStreetTold.2.2.1 me_X7_isStreetTold.2.2.2.1 me_X7_isStreetTold.2.2.2.2.1 ∈ tables_1_4 := List.mem_of_getElem? (i := 155) rfl
set_option maxRecDepth 100000 in
theorem xr_c_X7_isTown : Cond.code me_X7_isTown.2.1 me_X7_isTown.2.2.1 me_X7_isTown.2.2.2.1 me_X7_isTown.2.2.2.2.1 ∈ tables_1_4 := List.mem_of_getElem? (i := 207) rfl
set_option maxRecDepth 100000 in
theorem xr_c_X7_isWell : Cond.code me_X7_isWell.2.1 me_X7_isWell.2.2.1 me_X7_isWell.2.2.2.1 me_X7_isWell.2.2.2.2.1 ∈ tables_1_4 := List.mem_of_getElem? (i := 128) rfl
set_option maxRecDepth 100000 in
theorem xr_c_X7_joyMark : Cond.code me_X7_joyMark.2.1 me_X7_joyMark.2.2.1 me_X7_joyMark.2.2.2.1 me_X7_joyMark.2.2.2.2.1 ∈ tables_1_5 := List.mem_of_getElem? (i := 114) rfl
set_option maxRecDepth 100000 in
theorem xr_c_X7_joySize : Cond.code me_X7_joySize.2.1 me_X7_joySize.2.2.1 me_X7_joySize.2.2.2.1 me_X7_joySize.2.2.2.2.1 ∈ tables_1_5 := List.mem_of_getElem? (i := 110) rfl
set_option maxRecDepth 100000 in
theorem xr_c_X7_keeps : Cond.code me_X7_keeps.2.1 me_X7_keeps.2.2.1 me_X7_keeps.2.2.2.1 me_X7_keeps.2.2.2.2.1 ∈ tables_1_5 := List.mem_of_getElem? (i := 11) rfl
set_option maxRecDepth 100000 in
theorem xr_c_X7_kind : Cond.code me_X7_kind.2.1 me_X7_kind.2.2.1 me_X7_kind.2.2.2.1 me_X7_kind.2.2.2.2.1 ∈ tables_1_5 := List.mem_of_getElem? (i := 86) rfl
set_option maxRecDepth 100000 in
theorem xr_c_X7_kindIn : Cond.code me_X7_kindIn.2.1 me_X7_kindIn.2.2.1 me_X7_kindIn.2.2.2.1 me_X7_kindIn.2.2.2.2.1 ∈ tables_1_5 := List.mem_of_getElem? (i := 90) rfl
set_option maxRecDepth 100000 in
theorem xr_c_X7_kindOf : Cond.code me_X7_kindOf.2.1 me_X7_kindOf.2.2.1 me_X7_kindOf.2.2.2.1 me_X7_kindOf.2.2.2.2.1 ∈ tables_1_4 := List.mem_of_getElem? (i := 139) rfl
set_option maxRecDepth 100000 in
theorem xr_c_X7_leaves : Cond.code me_X7_leaves.2.1 me_X7_leaves.2.2.1 me_X7_leaves.2.2.2.1 me_X7_leaves.2.2.2.2.1 ∈ tables_1_5 := List.mem_of_getElem? (i := 106) rfl
set_option maxRecDepth 100000 in
theorem xr_c_X7_lesson : Cond.code me_X7_lesson.2.1 me_X7_lesson.2.2.1 me_X7_lesson.2.2.2.1 me_X7_lesson.2.2.2.2.1 ∈ tables_1_4 := List.mem_of_getElem? (i := 195) rfl
set_option maxRecDepth 100000 in
theorem xr_c_X7_moods : Cond.code me_X7_moods.2.1 me_X7_moods.2.2.1 me_X7_moods.2.2.2.1 me_X7_moods.2.2.2.2.1 ∈ tables_1_5 := List.mem_of_getElem? (i := 31) rfl
set_option maxRecDepth 100000 in
theorem xr_c_X7_notes : Cond.code me_X7_notes.2.1 me_X7_notes.2.2.1 me_X7_notes.2.2.2.1 me_X7_notes.2.2.2.2.1 ∈ tables_1_4 := List.mem_of_getElem? (i := 182) rfl
set_option maxRecDepth 100000 in
theorem xr_c_X7_passed : Cond.code me_X7_passed.2.1 me_X7_passed.2.2.1 me_X7_passed.2.2.2.1 me_X7_passed.2.2.2.2.1 ∈ tables_1_4 := List.mem_of_getElem? (i := 191) rfl
set_option maxRecDepth 100000 in
theorem xr_c_X7_reach : Cond.code me_X7_reach.2.1 me_X7_reach.2.2.1 me_X7_reach.2.2.2.1 me_X7_reach.2.2.2.2.1 ∈ tables_1_4 := List.mem_of_getElem? (i := 235) rfl
set_option maxRecDepth 100000 in
theorem xr_c_X7_readsCorner : Cond.code me_X7_readsCorner.2.1 me_X7_readsCorner.2.2.1 me_X7_readsCorner.2.2.2.1 me_X7_readsCorner.2.2.2.2.1 ∈ tables_1_4 := List.mem_of_getElem? (i := 143) rfl
set_option maxRecDepth 100000 in
theorem xr_c_X7_readsStreet : Cond.code me_X7_readsStreet.2.1 me_X7_readsStreet.2.2.1 me_X7_readsStreet.2.2.2.1 me_X7_readsStreet.2.2.2.2.1 ∈ tables_1_4 := List.mem_of_getElem? (i := 147) rfl
set_option maxRecDepth 100000 in
theorem xr_c_X7_reset : Cond.code me_X7_reset.2.1 me_X7_reset.2.2.1 me_X7_reset.2.2.2.1 me_X7_reset.2.2.2.2.1 ∈ tables_1_4 := List.mem_of_getElem? (i := 203) rfl
set_option maxRecDepth 100000 in
theorem xr_c_X7_restore : Cond.code me_X7_restore.2.1 me_X7_restore.2.2.1 me_X7_restore.2.2.2.1 me_X7_restore.2.2.2.2.1 ∈ tables_1_5 := List.mem_of_getElem? (i := 82) rfl
set_option maxRecDepth 100000 in
theorem xr_c_X7_ride : Cond.code me_X7_ride.2.1 me_X7_ride.2.2.1 me_X7_ride.2.2.2.1 me_X7_ride.2.2.2.2.1 ∈ tables_1_4 := List.mem_of_getElem? (i := 167) rfl
set_option maxRecDepth 100000 in
theorem xr_c_X7_rides : Cond.code me_X7_rides.2.1 me_X7_rides.2.2.1 me_X7_rides.2.2.2.1 me_X7_rides.2.2.2.2.1 ∈ tables_1_4 := List.mem_of_getElem? (i := 185) rfl
set_option maxRecDepth 100000 in
theorem xr_c_X7_row : Cond.code me_X7_row.2.1 me_X7_row.2.2.1 me_X7_row.2.2.2.1 me_X7_row.2.2.2.2.1 ∈ tables_1_4 := List.mem_of_getElem? (i := 64) rfl
set_option maxRecDepth 100000 in
theorem xr_c_X7_set : Cond.code me_X7_set.2.1 me_X7_set.2.2.1 me_X7_set.2.2.2.1 me_X7_set.2.2.2.2.1 ∈ tables_1_4 := List.mem_of_getElem? (i := 84) rfl
set_option maxRecDepth 100000 in
theorem xr_c_X7_share : Cond.code me_X7_share.2.1 me_X7_share.2.2.1 me_X7_share.2.2.2.1 me_X7_share.2.2.2.2.1 ∈ tables_1_5 := List.mem_of_getElem? (i := 59) rfl
set_option maxRecDepth 100000 in
theorem xr_c_X7_shut : Cond.code me_X7_shut.2.1 me_X7_shut.2.2.1 me_X7_shut.2.2.2.1 me_X7_shut.2.2.2.2.1 ∈ tables_1_5 := List.mem_of_getElem? (i := 63) rfl
set_option maxRecDepth 100000 in
theorem xr_c_X7_status : Cond.code me_X7_status.2.1 me_X7_status.2.2.1 me_X7_status.2.2.2.1 me_X7_status.2.2.2.2.1 ∈ tables_1_5 := List.mem_of_getElem? (i := 130) rfl
set_option maxRecDepth 100000 in
theorem xr_c_X7_street : Cond.code me_X7_street.2.1 me_X7_street.2.2.1 me_X7_street.2.2.2.1 me_X7_street.2.2.2.2.1 ∈ tables_1_4 := List.mem_of_getElem? (i := 211) rfl
set_option maxRecDepth 100000 in
theorem xr_c_X7_streetAfter : Cond.code me_X7_streetAfter.2.1 me_X7_streetAfter.2.2.1 me_X7_streetAfter.2.2.2.1 me_X7_streetAfter.2.2.2.2.1 ∈ tables_1_5 := List.mem_of_getElem? (i := 74) rfl
set_option maxRecDepth 100000 in
theorem xr_c_X7_takes : Cond.code me_X7_takes.2.1 me_X7_takes.2.2.1 me_X7_takes.2.2.2.1 me_X7_takes.2.2.2.2.1 ∈ tables_1_4 := List.mem_of_getElem? (i := 124) rfl
set_option maxRecDepth 100000 in
theorem xr_c_X7_toFigure : Cond.code me_X7_toFigure.2.1 me_X7_toFigure.2.2.1 me_X7_toFigure.2.2.2.1 me_X7_toFigure.2.2.2.2.1 ∈ tables_1_4 := List.mem_of_getElem? (i := 151) rfl
set_option maxRecDepth 100000 in
theorem xr_c_X7_told : Cond.code me_X7_told.2.1 me_X7_told.2.2.1 me_X7_told.2.2.2.1 me_X7_told.2.2.2.2.1 ∈ tables_1_5 := List.mem_of_getElem? (i := 23) rfl
set_option maxRecDepth 100000 in
theorem xr_c_X7_town : Cond.code me_X7_town.2.1 me_X7_town.2.2.1 me_X7_town.2.2.2.1 me_X7_town.2.2.2.2.1 ∈ tables_1_4 := List.mem_of_getElem? (i := 112) rfl
set_option maxRecDepth 100000 in
theorem xr_c_X7_trace : Cond.code me_X7_trace.2.1 me_X7_trace.2.2.1 me_X7_trace.2.2.2.1 me_X7_trace.2.2.2.2.1 ∈ tables_1_5 := List.mem_of_getElem? (i := 122) rfl
set_option maxRecDepth 100000 in
theorem xr_c_X7_undo : Cond.code me_X7_undo.2.1 me_X7_undo.2.2.1 me_X7_undo.2.2.2.1 me_X7_undo.2.2.2.2.1 ∈ tables_1_4 := List.mem_of_getElem? (i := 215) rfl
set_option maxRecDepth 100000 in
theorem xr_c_X7_way : Cond.code me_X7_way.2.1 me_X7_way.2.2.1 me_X7_way.2.2.2.1 me_X7_way.2.2.2.2.1 ∈ tables_1_4 := List.mem_of_getElem? (i := 227) rfl
set_option maxRecDepth 100000 in
theorem xr_c_X7_well : Cond.code me_X7_well.2.1 me_X7_well.2.2.1 me_X7_well.2.2.2.1 me_X7_well.2.2.2.2.1 ∈ tables_1_4 := List.mem_of_getElem? (i := 80) rfl
set_option maxRecDepth 100000 in
theorem xr_c_X7_would : Cond.code me_X7_would.2.1 me_X7_would.2.2.1 me_X7_would.2.2.2.1 me_X7_would.2.2.2.2.1 ∈ tables_1_4 := List.mem_of_getElem? (i := 231) rfl
set_option maxRecDepth 100000 in
theorem xr_c_J6_bitCount_0f7a4 : Cond.code me_J6_bitCount_0f7a4.2.1 me_J6_bitCount_0f7a4.2.2.1 me_J6_bitCount_0f7a4.2.2.2.1 me_J6_bitCount_0f7a4.2.2.2.2.1 ∈ tables_1_3 := List.mem_of_getElem? (i := 116) rfl
theorem xr_sub_1 {w : Cond} (h : w ∈ tables_1_1) : w ∈ tables_1 := List.mem_append_left _ h
theorem xr_sub_2 {w : Cond} (h : w ∈ tables_1_2) : w ∈ tables_1 := (List.mem_append_right _ (List.mem_append_left _ h))
theorem xr_sub_3 {w : Cond} (h : w ∈ tables_1_3) : w ∈ tables_1 := (List.mem_append_right _ (List.mem_append_right _ (List.mem_append_left _ h)))
theorem xr_sub_4 {w : Cond} (h : w ∈ tables_1_4) : w ∈ tables_1 := (List.mem_append_right _ (List.mem_append_right _ (List.mem_append_right _ (List.mem_append_left _ h))))
theorem xr_sub_5 {w : Cond} (h : w ∈ tables_1_5) : w ∈ tables_1 := (List.mem_append_right _ (List.mem_append_right _ (List.mem_append_right _ (List.mem_append_right _ h))))
theorem xr_in {w : Cond} (h : w ∈ tables_1) (g : goodWord w = true) : w ∈ xr_wds := List.mem_filter.mpr ⟨List.mem_append_right _ h, g⟩
set_option maxRecDepth 100000 in
theorem xr_code_0 : ∀ e ∈ xr_mthT_0, e.2.2.1 ≤ 3 → Cond.code e.2.2.2.1.2.1 e.2.2.2.1.2.2.1 e.2.2.2.1.2.2.2.1 e.2.2.2.1.2.2.2.2.1 ∈ xr_wds := List.forall_mem_cons.mpr ⟨fun h => absurd h (by decide), List.forall_mem_cons.mpr ⟨fun _ => xr_in (xr_sub_2 xr_c_X5_turn) rfl, List.forall_mem_cons.mpr ⟨fun h => absurd h (by decide), List.forall_mem_cons.mpr ⟨fun _ => xr_in (xr_sub_3 xr_c_X1_gives) rfl, List.forall_mem_cons.mpr ⟨fun _ => xr_in (xr_sub_3 xr_c_X1_leave) rfl, List.forall_mem_cons.mpr ⟨fun h => absurd h (by decide), List.forall_mem_cons.mpr ⟨fun _ => xr_in (xr_sub_2 xr_c_X2_isMissing) rfl, List.forall_mem_cons.mpr ⟨fun h => absurd h (by decide), List.forall_mem_cons.mpr ⟨fun _ => xr_in (xr_sub_2 xr_c_X2_spans) rfl, List.forall_mem_cons.mpr ⟨fun h => absurd h (by decide), List.forall_mem_cons.mpr ⟨fun h => absurd h (by decide), List.forall_mem_cons.mpr ⟨fun _ => xr_in (xr_sub_3 xr_c_X3_walk) rfl, List.forall_mem_cons.mpr ⟨fun _ => xr_in (xr_sub_3 xr_c_X3_seek) rfl, List.forall_mem_cons.mpr ⟨fun _ => xr_in (xr_sub_3 xr_c_J6_bitCount_0f7a4) rfl, List.forall_mem_cons.mpr ⟨fun _ => xr_in (xr_sub_3 xr_c_X6_power) rfl, List.forall_mem_cons.mpr ⟨fun _ => xr_in (xr_sub_3 xr_c_X3_weigh) rfl, List.forall_mem_cons.mpr ⟨fun _ => xr_in (xr_sub_2 xr_c_X5_leadsFrom) rfl, List.forall_mem_cons.mpr ⟨fun _ => xr_in (xr_sub_2 xr_c_X5_moodBehind) rfl, List.forall_mem_cons.mpr ⟨fun _ => xr_in (xr_sub_2 xr_c_X5_costBetween) rfl, List.forall_mem_cons.mpr ⟨fun _ => xr_in (xr_sub_3 xr_c_X3_keepPath) rfl, List.forall_mem_cons.mpr ⟨fun h => absurd h (by decide), List.forall_mem_cons.mpr ⟨fun h => absurd h (by decide), List.forall_mem_cons.mpr ⟨fun _ => xr_in (xr_sub_2 xr_c_X5_clear) rfl, List.forall_mem_cons.mpr ⟨fun _ => xr_in (xr_sub_2 xr_c_X4_readLaw) rfl, List.forall_mem_cons.mpr ⟨fun _ => xr_in (xr_sub_2 xr_c_X4_readCorners) rfl, List.forall_mem_cons.mpr ⟨fun _ => xr_in (xr_sub_2 xr_c_X4_readStreets) rfl, List.forall_mem_cons.mpr ⟨fun _ => xr_in (xr_sub_2 xr_c_X4_takes) rfl, List.forall_mem_cons.mpr ⟨fun _ => xr_in (xr_sub_2 xr_c_X4_numberWithin) rfl, List.forall_mem_cons.mpr ⟨fun _ => xr_in (xr_sub_2 xr_c_X4_letterHere) rfl, List.forall_mem_cons.mpr ⟨fun _ => xr_in (xr_sub_2 xr_c_X4_kindOf) rfl, List.forall_mem_cons.mpr ⟨fun _ => xr_in (xr_sub_2 xr_c_X4_failsAt) rfl, List.forall_mem_cons.mpr ⟨fun _ => xr_in (xr_sub_2 xr_c_X4_readEnds) rfl, List.forall_mem_cons.mpr ⟨fun _ => xr_in (xr_sub_2 xr_c_X4_isTold) rfl, List.forall_mem_cons.mpr ⟨fun h => absurd h (by decide), List.forall_mem_cons.mpr ⟨fun h => absurd h (by decide), List.forall_mem_cons.mpr ⟨fun _ => xr_in (xr_sub_2 xr_c_X5_leadsFrom) rfl, List.forall_mem_cons.mpr ⟨fun _ => xr_in (xr_sub_2 xr_c_X5_hasStreet) rfl, List.forall_mem_cons.mpr ⟨fun _ => xr_in (xr_sub_2 xr_c_X5_isOpen) rfl, List.forall_mem_cons.mpr ⟨fun h => absurd h (by decide), List.forall_mem_cons.mpr ⟨fun h => absurd h (by decide), List.forall_mem_cons.mpr ⟨fun h => absurd h (by decide), List.forall_mem_cons.mpr ⟨fun _ => xr_in (xr_sub_2 xr_c_X5_moodBehind) rfl, List.forall_mem_cons.mpr ⟨fun _ => xr_in (xr_sub_2 xr_c_X5_moodBy) rfl, List.forall_mem_cons.mpr ⟨fun _ => xr_in (xr_sub_2 xr_c_X5_costBetween) rfl, List.forall_mem_cons.mpr ⟨fun _ => xr_in (xr_sub_2 xr_c_X5_costBy) rfl, List.forall_mem_cons.mpr ⟨fun _ => xr_in (xr_sub_2 xr_c_X5_leads) rfl, List.forall_mem_cons.mpr ⟨fun _ => xr_in (xr_sub_2 xr_c_X5_goBy) rfl, List.forall_mem_cons.mpr ⟨fun h => absurd h (by decide), List.forall_mem_cons.mpr ⟨fun _ => xr_in (xr_sub_1 xr_c_X2_init) rfl, List.forall_mem_cons.mpr ⟨fun _ => xr_in (xr_sub_1 xr_c_X4_init) rfl, List.forall_mem_cons.mpr ⟨fun _ => xr_in (xr_sub_1 xr_c_X5_init) rfl, List.forall_mem_cons.mpr ⟨fun _ => xr_in (xr_sub_1 xr_c_X0_init) rfl, List.forall_mem_cons.mpr ⟨fun _ => xr_in (xr_sub_1 xr_c_X3_init) rfl, List.forall_mem_cons.mpr ⟨fun _ => xr_in (xr_sub_1 xr_c_X1_init) rfl, List.forall_mem_cons.mpr ⟨fun _ => xr_in (xr_sub_2 xr_c_X2_isRow) rfl, List.forall_mem_cons.mpr ⟨fun _ => xr_in (xr_sub_2 xr_c_X6_found) rfl, List.forall_mem_cons.mpr ⟨fun _ => xr_in (xr_sub_2 xr_c_X2_lay) rfl, List.forall_mem_cons.mpr ⟨fun _ => xr_in (xr_sub_2 xr_c_X6_unfound) rfl, List.forall_mem_cons.mpr ⟨fun _ => xr_in (xr_sub_2 xr_c_X2_findingOf) rfl, List.forall_mem_cons.mpr ⟨fun _ => xr_in (xr_sub_2 xr_c_X2_put) rfl, fun _ h => absurd h List.not_mem_nil⟩⟩⟩⟩⟩⟩⟩⟩⟩⟩⟩⟩⟩⟩⟩⟩⟩⟩⟩⟩⟩⟩⟩⟩⟩⟩⟩⟩⟩⟩⟩⟩⟩⟩⟩⟩⟩⟩⟩⟩⟩⟩⟩⟩⟩⟩⟩⟩⟩⟩⟩⟩⟩⟩⟩⟩⟩⟩⟩⟩
set_option maxRecDepth 100000 in
theorem xr_code_1 : ∀ e ∈ xr_mthT_1, e.2.2.1 ≤ 3 → Cond.code e.2.2.2.1.2.1 e.2.2.2.1.2.2.1 e.2.2.2.1.2.2.2.1 e.2.2.2.1.2.2.2.2.1 ∈ xr_wds := List.forall_mem_cons.mpr ⟨fun _ => xr_in (xr_sub_2 xr_c_X2_findingOfMove) rfl, List.forall_mem_cons.mpr ⟨fun _ => xr_in (xr_sub_2 xr_c_X2_move) rfl, List.forall_mem_cons.mpr ⟨fun _ => xr_in (xr_sub_2 xr_c_X2_isMissing) rfl, List.forall_mem_cons.mpr ⟨fun _ => xr_in (xr_sub_2 xr_c_X2_lose) rfl, List.forall_mem_cons.mpr ⟨fun _ => xr_in (xr_sub_2 xr_c_X4_put) rfl, List.forall_mem_cons.mpr ⟨fun _ => xr_in (xr_sub_2 xr_c_X4_readInto) rfl, List.forall_mem_cons.mpr ⟨fun _ => xr_in (xr_sub_2 xr_c_X5_become) rfl, List.forall_mem_cons.mpr ⟨fun _ => xr_in (xr_sub_2 xr_c_X0_forget) rfl, List.forall_mem_cons.mpr ⟨fun _ => xr_in (xr_sub_2 xr_c_X5_hasStreet) rfl, List.forall_mem_cons.mpr ⟨fun _ => xr_in (xr_sub_2 xr_c_X5_leads) rfl, List.forall_mem_cons.mpr ⟨fun _ => xr_in (xr_sub_2 xr_c_X0_keep) rfl, List.forall_mem_cons.mpr ⟨fun _ => xr_in (xr_sub_2 xr_c_X5_goBy) rfl, List.forall_mem_cons.mpr ⟨fun _ => xr_in (xr_sub_2 xr_c_X5_hasCorner) rfl, List.forall_mem_cons.mpr ⟨fun _ => xr_in (xr_sub_2 xr_c_X5_stands) rfl, List.forall_mem_cons.mpr ⟨fun _ => xr_in (xr_sub_2 xr_c_X5_isOpen) rfl, List.forall_mem_cons.mpr ⟨fun _ => xr_in (xr_sub_2 xr_c_X5_turn) rfl, List.forall_mem_cons.mpr ⟨fun _ => xr_in (xr_sub_3 xr_c_X0_takeBack) rfl, List.forall_mem_cons.mpr ⟨fun _ => xr_in (xr_sub_3 xr_c_X6_streetsAt) rfl, List.forall_mem_cons.mpr ⟨fun _ => xr_in (xr_sub_2 xr_c_X5_moodBehind) rfl, List.forall_mem_cons.mpr ⟨fun _ => xr_in (xr_sub_2 xr_c_X5_moodBy) rfl, List.forall_mem_cons.mpr ⟨fun _ => xr_in (xr_sub_2 xr_c_X5_costBy) rfl, List.forall_mem_cons.mpr ⟨fun _ => xr_in (xr_sub_3 xr_c_X5_openWays) rfl, List.forall_mem_cons.mpr ⟨fun _ => xr_in (xr_sub_3 xr_c_X3_seek) rfl, List.forall_mem_cons.mpr ⟨fun _ => xr_in (xr_sub_3 xr_c_X3_streetOf) rfl, List.forall_mem_cons.mpr ⟨fun _ => xr_in (xr_sub_3 xr_c_X6_areFitting) rfl, List.forall_mem_cons.mpr ⟨fun _ => xr_in (xr_sub_3 xr_c_X6_findingOfTwo) rfl, List.forall_mem_cons.mpr ⟨fun _ => xr_in (xr_sub_3 xr_c_X6_isSo) rfl, List.forall_mem_cons.mpr ⟨fun _ => xr_in (xr_sub_3 xr_c_X6_owedFrom) rfl, List.forall_mem_cons.mpr ⟨fun _ => xr_in (xr_sub_3 xr_c_X3_seekWithin) rfl, List.forall_mem_cons.mpr ⟨fun _ => xr_in (xr_sub_3 xr_c_X3_weightOfEnough) rfl, List.forall_mem_cons.mpr ⟨fun _ => xr_in (xr_sub_3 xr_c_J6_bitCount_0f7a4) rfl, List.forall_mem_cons.mpr ⟨fun _ => xr_in (xr_sub_3 xr_c_X6_power) rfl, List.forall_mem_cons.mpr ⟨fun _ => xr_in (xr_sub_3 xr_c_X6_commonDivisor) rfl, List.forall_mem_cons.mpr ⟨fun h => absurd h (by decide), List.forall_mem_cons.mpr ⟨fun _ => xr_in (xr_sub_3 xr_c_X5_goByDraw) rfl, List.forall_mem_cons.mpr ⟨fun _ => xr_in (xr_sub_3 xr_c_X6_isOfKind) rfl, List.forall_mem_cons.mpr ⟨fun _ => xr_in (xr_sub_3 xr_c_X1_answerOf) rfl, List.forall_mem_cons.mpr ⟨fun _ => xr_in (xr_sub_3 xr_c_X2_howMany) rfl, List.forall_mem_cons.mpr ⟨fun h => absurd h (by decide), List.forall_mem_cons.mpr ⟨fun _ => xr_in (xr_sub_4 xr_c_X7_in) rfl, List.forall_mem_cons.mpr ⟨fun _ => xr_in (xr_sub_4 xr_c_X7_isRow) rfl, List.forall_mem_cons.mpr ⟨fun _ => xr_in (xr_sub_4 xr_c_X7_found) rfl, List.forall_mem_cons.mpr ⟨fun _ => xr_in (xr_sub_4 xr_c_X7_well) rfl, List.forall_mem_cons.mpr ⟨fun _ => xr_in (xr_sub_4 xr_c_X7_isMissing) rfl, List.forall_mem_cons.mpr ⟨fun _ => xr_in (xr_sub_4 xr_c_X7_cut) rfl, List.forall_mem_cons.mpr ⟨fun _ => xr_in (xr_sub_4 xr_c_X7_isPart) rfl, List.forall_mem_cons.mpr ⟨fun _ => xr_in (xr_sub_4 xr_c_X7_byteAt) rfl, List.forall_mem_cons.mpr ⟨fun _ => xr_in (xr_sub_4 xr_c_X7_isWell) rfl, List.forall_mem_cons.mpr ⟨fun _ => xr_in (xr_sub_4 xr_c_X7_advances) rfl, List.forall_mem_cons.mpr ⟨fun _ => xr_in (xr_sub_4 xr_c_X7_takes) rfl, List.forall_mem_cons.mpr ⟨fun _ => xr_in (xr_sub_4 xr_c_X7_figure) rfl, List.forall_mem_cons.mpr ⟨fun _ => xr_in (xr_sub_4 xr_c_X7_kindOf) rfl, List.forall_mem_cons.mpr ⟨fun _ => xr_in (xr_sub_4 xr_c_X7_follows) rfl, List.forall_mem_cons.mpr ⟨fun _ => xr_in (xr_sub_4 xr_c_X7_isStreetTold) rfl, List.forall_mem_cons.mpr ⟨fun _ => xr_in (xr_sub_4 xr_c_X7_toFigure) rfl, List.forall_mem_cons.mpr ⟨fun _ => xr_in (xr_sub_4 xr_c_X7_readsCorner) rfl, List.forall_mem_cons.mpr ⟨fun _ => xr_in (xr_sub_4 xr_c_X7_readsStreet) rfl, List.forall_mem_cons.mpr ⟨fun _ => xr_in (xr_sub_4 xr_c_X7_copies) rfl, List.forall_mem_cons.mpr ⟨fun _ => xr_in (xr_sub_4 xr_c_X7_passed) rfl, List.forall_mem_cons.mpr ⟨fun _ => xr_in (xr_sub_4 xr_c_X7_has) rfl, fun _ h => absurd h List.not_mem_nil⟩⟩⟩⟩⟩⟩⟩⟩⟩⟩⟩⟩⟩⟩⟩⟩⟩⟩⟩⟩⟩⟩⟩⟩⟩⟩⟩⟩⟩⟩⟩⟩⟩⟩⟩⟩⟩⟩⟩⟩⟩⟩⟩⟩⟩⟩⟩⟩⟩⟩⟩⟩⟩⟩⟩⟩⟩⟩⟩⟩
set_option maxRecDepth 100000 in
theorem xr_code_2 : ∀ e ∈ xr_mthT_2, e.2.2.1 ≤ 3 → Cond.code e.2.2.2.1.2.1 e.2.2.2.1.2.2.1 e.2.2.2.1.2.2.2.1 e.2.2.2.1.2.2.2.2.1 ∈ xr_wds := List.forall_mem_cons.mpr ⟨fun _ => xr_in (xr_sub_4 xr_c_X7_cost) rfl, List.forall_mem_cons.mpr ⟨fun _ => xr_in (xr_sub_4 xr_c_X7_isStreet) rfl, List.forall_mem_cons.mpr ⟨fun _ => xr_in (xr_sub_4 xr_c_X7_goes) rfl, List.forall_mem_cons.mpr ⟨fun _ => xr_in (xr_sub_4 xr_c_X7_notes) rfl, List.forall_mem_cons.mpr ⟨fun _ => xr_in (xr_sub_4 xr_c_X7_rides) rfl, List.forall_mem_cons.mpr ⟨fun _ => xr_in (xr_sub_4 xr_c_X7_isCorner) rfl, List.forall_mem_cons.mpr ⟨fun _ => xr_in (xr_sub_4 xr_c_X7_isTown) rfl, List.forall_mem_cons.mpr ⟨fun _ => xr_in (xr_sub_4 xr_c_X7_ends) rfl, List.forall_mem_cons.mpr ⟨fun _ => xr_in (xr_sub_5 xr_c_X7_adds) rfl, List.forall_mem_cons.mpr ⟨fun _ => xr_in (xr_sub_5 xr_c_X7_begins) rfl, List.forall_mem_cons.mpr ⟨fun _ => xr_in (xr_sub_5 xr_c_X7_keeps) rfl, List.forall_mem_cons.mpr ⟨fun _ => xr_in (xr_sub_5 xr_c_X7_goesOn) rfl, List.forall_mem_cons.mpr ⟨fun _ => xr_in (xr_sub_5 xr_c_X7_finds) rfl, List.forall_mem_cons.mpr ⟨fun _ => xr_in (xr_sub_5 xr_c_X7_told) rfl, List.forall_mem_cons.mpr ⟨fun _ => xr_in (xr_sub_5 xr_c_X7_goesSo) rfl, List.forall_mem_cons.mpr ⟨fun _ => xr_in (xr_sub_5 xr_c_X7_bar) rfl, List.forall_mem_cons.mpr ⟨fun _ => xr_in (xr_sub_5 xr_c_X7_all) rfl, List.forall_mem_cons.mpr ⟨fun _ => xr_in (xr_sub_5 xr_c_X7_streetAfter) rfl, List.forall_mem_cons.mpr ⟨fun _ => xr_in (xr_sub_5 xr_c_X7_kindIn) rfl, List.forall_mem_cons.mpr ⟨fun _ => xr_in (xr_sub_5 xr_c_X7_leaves) rfl, List.forall_mem_cons.mpr ⟨fun _ => xr_in (xr_sub_5 xr_c_X7_joyMark) rfl, List.forall_mem_cons.mpr ⟨fun _ => xr_in (xr_sub_5 xr_c_X7_griefSize) rfl, List.forall_mem_cons.mpr ⟨fun _ => xr_in (xr_sub_5 xr_c_X7_joySize) rfl, List.forall_mem_cons.mpr ⟨fun _ => xr_in (xr_sub_5 xr_c_X7_griefMark) rfl, List.forall_mem_cons.mpr ⟨fun _ => xr_in (xr_sub_1 xr_c_X6_init) rfl, List.forall_mem_cons.mpr ⟨fun _ => xr_in (xr_sub_3 xr_c_X7_init) rfl, List.forall_mem_cons.mpr ⟨fun _ => xr_in (xr_sub_2 xr_c_X6_row) rfl, List.forall_mem_cons.mpr ⟨fun _ => xr_in (xr_sub_4 xr_c_X7_row) rfl, List.forall_mem_cons.mpr ⟨fun _ => xr_in (xr_sub_2 xr_c_X6_set) rfl, List.forall_mem_cons.mpr ⟨fun _ => xr_in (xr_sub_4 xr_c_X7_set) rfl, List.forall_mem_cons.mpr ⟨fun _ => xr_in (xr_sub_2 xr_c_X6_copy) rfl, List.forall_mem_cons.mpr ⟨fun _ => xr_in (xr_sub_4 xr_c_X7_copy) rfl, List.forall_mem_cons.mpr ⟨fun _ => xr_in (xr_sub_2 xr_c_X6_drop) rfl, List.forall_mem_cons.mpr ⟨fun _ => xr_in (xr_sub_4 xr_c_X7_drop) rfl, List.forall_mem_cons.mpr ⟨fun _ => xr_in (xr_sub_2 xr_c_X6_feed) rfl, List.forall_mem_cons.mpr ⟨fun _ => xr_in (xr_sub_4 xr_c_X7_feed) rfl, List.forall_mem_cons.mpr ⟨fun _ => xr_in (xr_sub_2 xr_c_X6_town) rfl, List.forall_mem_cons.mpr ⟨fun _ => xr_in (xr_sub_4 xr_c_X7_town) rfl, List.forall_mem_cons.mpr ⟨fun _ => xr_in (xr_sub_2 xr_c_X6_fault) rfl, List.forall_mem_cons.mpr ⟨fun _ => xr_in (xr_sub_4 xr_c_X7_fault) rfl, List.forall_mem_cons.mpr ⟨fun _ => xr_in (xr_sub_2 xr_c_X6_ride) rfl, List.forall_mem_cons.mpr ⟨fun _ => xr_in (xr_sub_4 xr_c_X7_ride) rfl, List.forall_mem_cons.mpr ⟨fun _ => xr_in (xr_sub_2 xr_c_X6_lesson) rfl, List.forall_mem_cons.mpr ⟨fun _ => xr_in (xr_sub_4 xr_c_X7_lesson) rfl, List.forall_mem_cons.mpr ⟨fun _ => xr_in (xr_sub_2 xr_c_X6_reset) rfl, List.forall_mem_cons.mpr ⟨fun _ => xr_in (xr_sub_4 xr_c_X7_reset) rfl, List.forall_mem_cons.mpr ⟨fun _ => xr_in (xr_sub_2 xr_c_X6_street) rfl, List.forall_mem_cons.mpr ⟨fun _ => xr_in (xr_sub_4 xr_c_X7_street) rfl, List.forall_mem_cons.mpr ⟨fun _ => xr_in (xr_sub_2 xr_c_X6_undo) rfl, List.forall_mem_cons.mpr ⟨fun _ => xr_in (xr_sub_4 xr_c_X7_undo) rfl, List.forall_mem_cons.mpr ⟨fun _ => xr_in (xr_sub_3 xr_c_X6_corner) rfl, List.forall_mem_cons.mpr ⟨fun _ => xr_in (xr_sub_4 xr_c_X7_corner) rfl, List.forall_mem_cons.mpr ⟨fun _ => xr_in (xr_sub_3 xr_c_X6_way) rfl, List.forall_mem_cons.mpr ⟨fun _ => xr_in (xr_sub_4 xr_c_X7_way) rfl, List.forall_mem_cons.mpr ⟨fun _ => xr_in (xr_sub_3 xr_c_X6_would) rfl, List.forall_mem_cons.mpr ⟨fun _ => xr_in (xr_sub_4 xr_c_X7_would) rfl, List.forall_mem_cons.mpr ⟨fun _ => xr_in (xr_sub_3 xr_c_X6_reach) rfl, List.forall_mem_cons.mpr ⟨fun _ => xr_in (xr_sub_4 xr_c_X7_reach) rfl, List.forall_mem_cons.mpr ⟨fun _ => xr_in (xr_sub_3 xr_c_X6_cheapest) rfl, List.forall_mem_cons.mpr ⟨fun _ => xr_in (xr_sub_4 xr_c_X7_cheapest) rfl, fun _ h => absurd h List.not_mem_nil⟩⟩⟩⟩⟩⟩⟩⟩⟩⟩⟩⟩⟩⟩⟩⟩⟩⟩⟩⟩⟩⟩⟩⟩⟩⟩⟩⟩⟩⟩⟩⟩⟩⟩⟩⟩⟩⟩⟩⟩⟩⟩⟩⟩⟩⟩⟩⟩⟩⟩⟩⟩⟩⟩⟩⟩⟩⟩⟩⟩
set_option maxRecDepth 100000 in
theorem xr_code_3 : ∀ e ∈ xr_mthT_3, e.2.2.1 ≤ 3 → Cond.code e.2.2.2.1.2.1 e.2.2.2.1.2.2.1 e.2.2.2.1.2.2.2.1 e.2.2.2.1.2.2.2.2.1 ∈ xr_wds := List.forall_mem_cons.mpr ⟨fun _ => xr_in (xr_sub_3 xr_c_X6_dearest) rfl, List.forall_mem_cons.mpr ⟨fun _ => xr_in (xr_sub_5 xr_c_X7_dearest) rfl, List.forall_mem_cons.mpr ⟨fun _ => xr_in (xr_sub_3 xr_c_X6_moods) rfl, List.forall_mem_cons.mpr ⟨fun _ => xr_in (xr_sub_5 xr_c_X7_moods) rfl, List.forall_mem_cons.mpr ⟨fun _ => xr_in (xr_sub_3 xr_c_X6_gets) rfl, List.forall_mem_cons.mpr ⟨fun _ => xr_in (xr_sub_5 xr_c_X7_gets) rfl, List.forall_mem_cons.mpr ⟨fun _ => xr_in (xr_sub_3 xr_c_X6_fits) rfl, List.forall_mem_cons.mpr ⟨fun _ => xr_in (xr_sub_5 xr_c_X7_fits) rfl, List.forall_mem_cons.mpr ⟨fun _ => xr_in (xr_sub_3 xr_c_X6_fitsOf) rfl, List.forall_mem_cons.mpr ⟨fun _ => xr_in (xr_sub_5 xr_c_X7_fitsOf) rfl, List.forall_mem_cons.mpr ⟨fun _ => xr_in (xr_sub_3 xr_c_X6_share) rfl, List.forall_mem_cons.mpr ⟨fun _ => xr_in (xr_sub_5 xr_c_X7_share) rfl, List.forall_mem_cons.mpr ⟨fun _ => xr_in (xr_sub_3 xr_c_X6_shut) rfl, List.forall_mem_cons.mpr ⟨fun _ => xr_in (xr_sub_5 xr_c_X7_shut) rfl, List.forall_mem_cons.mpr ⟨fun _ => xr_in (xr_sub_3 xr_c_X6_drawn) rfl, List.forall_mem_cons.mpr ⟨fun _ => xr_in (xr_sub_5 xr_c_X7_drawn) rfl, List.forall_mem_cons.mpr ⟨fun _ => xr_in (xr_sub_3 xr_c_X6_image) rfl, List.forall_mem_cons.mpr ⟨fun _ => xr_in (xr_sub_5 xr_c_X7_image) rfl, List.forall_mem_cons.mpr ⟨fun _ => xr_in (xr_sub_3 xr_c_X6_restore) rfl, List.forall_mem_cons.mpr ⟨fun _ => xr_in (xr_sub_5 xr_c_X7_restore) rfl, List.forall_mem_cons.mpr ⟨fun _ => xr_in (xr_sub_3 xr_c_X6_kind) rfl, List.forall_mem_cons.mpr ⟨fun _ => xr_in (xr_sub_5 xr_c_X7_kind) rfl, List.forall_mem_cons.mpr ⟨fun _ => xr_in (xr_sub_3 xr_c_X6_as) rfl, List.forall_mem_cons.mpr ⟨fun _ => xr_in (xr_sub_5 xr_c_X7_as) rfl, List.forall_mem_cons.mpr ⟨fun _ => xr_in (xr_sub_3 xr_c_X6_ask) rfl, List.forall_mem_cons.mpr ⟨fun _ => xr_in (xr_sub_5 xr_c_X7_ask) rfl, List.forall_mem_cons.mpr ⟨fun _ => xr_in (xr_sub_3 xr_c_X6_trace) rfl, List.forall_mem_cons.mpr ⟨fun _ => xr_in (xr_sub_5 xr_c_X7_trace) rfl, List.forall_mem_cons.mpr ⟨fun _ => xr_in (xr_sub_3 xr_c_X6_count) rfl, List.forall_mem_cons.mpr ⟨fun _ => xr_in (xr_sub_5 xr_c_X7_count) rfl, List.forall_mem_cons.mpr ⟨fun _ => xr_in (xr_sub_3 xr_c_X6_status) rfl, List.forall_mem_cons.mpr ⟨fun _ => xr_in (xr_sub_5 xr_c_X7_status) rfl, fun _ h => absurd h List.not_mem_nil⟩⟩⟩⟩⟩⟩⟩⟩⟩⟩⟩⟩⟩⟩⟩⟩⟩⟩⟩⟩⟩⟩⟩⟩⟩⟩⟩⟩⟩⟩⟩⟩
theorem xr_code_ok : ∀ e ∈ xr_mthT, e.2.2.1 ≤ 3 → Cond.code e.2.2.2.1.2.1 e.2.2.2.1.2.2.1 e.2.2.2.1.2.2.2.1 e.2.2.2.1.2.2.2.2.1 ∈ xr_wds := by
  intro e he
  simp only [xr_mthT, List.mem_append] at he
  rcases he with (((h | h) | h) | h)
  · exact xr_code_0 e h
  · exact xr_code_1 e h
  · exact xr_code_2 e h
  · exact xr_code_3 e h
theorem xr_lays : ∀ c, c < 8 → ((u_ws (xr_R c) (xr_T c) (xr_num c)).all fun w => goodWord w && lw_tbl.contains w) = true := by decide +kernel
theorem xr_nm : ∀ c, c < 8 → ∀ a, a < xr_num c → ∀ b, b < xr_num c → a ≠ b → (xr_T c a).2.1 ≠ (xr_T c b).2.1 := by decide +kernel
theorem xr_tyok : ∀ c, c < 8 → ∀ k, k < xr_num c → parseFieldDescriptor (xr_T c k).2.2.1 = some (xr_ty c k) := by decide +kernel
theorem xr_own : ∀ c, c < 8 → ∀ k, k < xr_num c → (xr_T c k).1 = xr_R c := by decide +kernel
theorem xr_clat : ∀ c, c < 8 → xr_cl[c]? = some (xr_R c, xr_T c, xr_num c) := fun c h => by
  match c, h with
  | 0, _ => rfl
  | 1, _ => rfl
  | 2, _ => rfl
  | 3, _ => rfl
  | 4, _ => rfl
  | 5, _ => rfl
  | 6, _ => rfl
  | 7, _ => rfl
theorem xr_inst : ∀ c, c < 8 → goodWord (.instantiable (xr_R c) (xr_num c)) = true ∧ goodWord (.initialized (xr_R c)) = true ∧ Cond.instantiable (xr_R c) (xr_num c) ∈ lw_tbl ∧ Cond.initialized (xr_R c) ∈ lw_tbl := by decide +kernel
theorem xr_misc : ([.arrayClass .int, .arrayClass .boolean, .instanceMethod objectInit, .native arraycopyName, .static arraycopyName, .initialized "java/lang/System", .initialized "java/lang/Math", .static Lib.Math.max.name, .static Lib.Math.min.name, .static Lib.Math.abs.name] : List Cond).all (fun w => goodWord w && lw_tbl.contains w) = true := by decide +kernel
theorem xr_misc2 : ([.arrayOver (.array .int), .arrayOver (.object RX5), .laysStatic RX1 "SIZE_BODIES" "[I", .laysStatic RX1 "MARK_BODIES" "[I"] : List Cond).all (fun w => lw_tbl.contains w) = true := by decide +kernel
set_option maxRecDepth 100000 in
theorem xr_objcode : Cond.code objectInit ⟨#[0xb1]⟩ 1 none ∈ xr_wds := xr_in (xr_sub_1 (List.mem_of_getElem? (i := 19) rfl)) rfl
set_option maxRecDepth 100000 in
theorem xr_mmax : Cond.code Lib.Math.max.name Lib.Math.max.code 2 (some .int) ∈ xr_wds := xr_in (xr_sub_2 (List.mem_of_getElem? (i := 202) rfl)) rfl
set_option maxRecDepth 100000 in
theorem xr_mmin : Cond.code Lib.Math.min.name Lib.Math.min.code 2 (some .int) ∈ xr_wds := xr_in (xr_sub_2 (List.mem_of_getElem? (i := 199) rfl)) rfl
set_option maxRecDepth 100000 in
theorem xr_mabs : Cond.code Lib.Math.abs.name Lib.Math.abs.code 1 (some .int) ∈ xr_wds := xr_in (xr_sub_2 (List.mem_of_getElem? (i := 209) rfl)) rfl
