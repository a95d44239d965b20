set_option maxRecDepth 100000 in
theorem rv_gd_Late_isWithin : rv_good m_Late_isWithin := rv_good_of (by decide +kernel)
set_option maxRecDepth 100000 in
theorem rv_gd_Late_operatorAt : rv_good m_Late_operatorAt := rv_good_of (by decide +kernel)
set_option maxRecDepth 100000 in
theorem rv_gd_Late_sourceAt : rv_good m_Late_sourceAt := rv_good_of (by decide +kernel)
set_option maxRecDepth 100000 in
theorem rv_gd_Late_moveMark : rv_good m_Late_moveMark := rv_good_of (by decide +kernel)
set_option maxRecDepth 100000 in
theorem rv_gd_Late_leastPromise : rv_good m_Late_leastPromise := rv_good_of (by decide +kernel)
set_option maxRecDepth 100000 in
theorem rv_gd_Late_tellAllDue : rv_good m_Late_tellAllDue := rv_good_of (by decide +kernel)
set_option maxRecDepth 100000 in
theorem rv_gd_Late_letClosedGo : rv_good m_Late_letClosedGo := rv_good_of (by decide +kernel)
set_option maxRecDepth 100000 in
theorem rv_gd_Late_tell : rv_good m_Late_tell := rv_good_of (by decide +kernel)
set_option maxRecDepth 100000 in
theorem rv_gd_Late_keepResult : rv_good m_Late_keepResult := rv_good_of (by decide +kernel)
set_option maxRecDepth 100000 in
theorem rv_gd_Late_judge : rv_good m_Late_judge := rv_good_of (by decide +kernel)
set_option maxRecDepth 100000 in
theorem rv_gd_Late_judgeInGaps : rv_good m_Late_judgeInGaps := rv_good_of (by decide +kernel)
set_option maxRecDepth 100000 in
theorem rv_gd_Late_judgeInGrid : rv_good m_Late_judgeInGrid := rv_good_of (by decide +kernel)
set_option maxRecDepth 100000 in
theorem rv_gd_Late_layAside : rv_good m_Late_layAside := rv_good_of (by decide +kernel)
set_option maxRecDepth 100000 in
theorem rv_gd_Late_keepAside : rv_good m_Late_keepAside := rv_good_of (by decide +kernel)
set_option maxRecDepth 100000 in
theorem rv_gd_Late_countNewWindows : rv_good m_Late_countNewWindows := rv_good_of (by decide +kernel)
set_option maxRecDepth 100000 in
theorem rv_gd_Late_useInGrid : rv_good m_Late_useInGrid := rv_good_of (by decide +kernel)
set_option maxRecDepth 100000 in
theorem rv_gd_Late_useInGaps : rv_good m_Late_useInGaps := rv_good_of (by decide +kernel)
set_option maxRecDepth 100000 in
theorem rv_gd_Late_takeBackJoined : rv_good m_Late_takeBackJoined := rv_good_of (by decide +kernel)
set_option maxRecDepth 100000 in
theorem rv_gd_Late_mergeJoined : rv_good m_Late_mergeJoined := rv_good_of (by decide +kernel)
set_option maxRecDepth 100000 in
theorem rv_gd_Late_comeInto : rv_good m_Late_comeInto := rv_good_of (by decide +kernel)
set_option maxRecDepth 100000 in
theorem rv_gd_Model_in : rv_good m_Model_in := rv_good_of (by decide +kernel)
set_option maxRecDepth 100000 in
theorem rv_gd_Model_down : rv_good m_Model_down := rv_good_of (by decide +kernel)
set_option maxRecDepth 100000 in
theorem rv_gd_Model_init : rv_good m_Model_init := rv_good_of (by decide +kernel)
set_option maxRecDepth 100000 in
theorem rv_gd_Model_isOp : rv_good m_Model_isOp := rv_good_of (by decide +kernel)
set_option maxRecDepth 100000 in
theorem rv_gd_Model_isSource : rv_good m_Model_isSource := rv_good_of (by decide +kernel)
set_option maxRecDepth 100000 in
theorem rv_gd_Model_operator : rv_good m_Model_operator := rv_good_of (by decide +kernel)
set_option maxRecDepth 100000 in
theorem rv_gd_Model_source : rv_good m_Model_source := rv_good_of (by decide +kernel)
set_option maxRecDepth 100000 in
theorem rv_gd_Model_result_IIIJIIV : rv_good m_Model_result_IIIJIIV := rv_good_of (by decide +kernel)
set_option maxRecDepth 100000 in
theorem rv_gd_Model_tell : rv_good m_Model_tell := rv_good_of (by decide +kernel)
set_option maxRecDepth 100000 in
theorem rv_gd_Model_takeBack : rv_good m_Model_takeBack := rv_good_of (by decide +kernel)
set_option maxRecDepth 100000 in
theorem rv_gd_Model_remove : rv_good m_Model_remove := rv_good_of (by decide +kernel)
set_option maxRecDepth 100000 in
theorem rv_gd_Model_isAhead : rv_good m_Model_isAhead := rv_good_of (by decide +kernel)
set_option maxRecDepth 100000 in
theorem rv_gd_Model_isClosed : rv_good m_Model_isClosed := rv_good_of (by decide +kernel)
set_option maxRecDepth 100000 in
theorem rv_gd_Model_due : rv_good m_Model_due := rv_good_of (by decide +kernel)
set_option maxRecDepth 100000 in
theorem rv_gd_Model_moves : rv_good m_Model_moves := rv_good_of (by decide +kernel)
set_option maxRecDepth 100000 in
theorem rv_gd_Model_promise : rv_good m_Model_promise := rv_good_of (by decide +kernel)
set_option maxRecDepth 100000 in
theorem rv_gd_Model_end : rv_good m_Model_end := rv_good_of (by decide +kernel)
set_option maxRecDepth 100000 in
theorem rv_gd_Model_found : rv_good m_Model_found := rv_good_of (by decide +kernel)
set_option maxRecDepth 100000 in
theorem rv_gd_Model_made : rv_good m_Model_made := rv_good_of (by decide +kernel)
set_option maxRecDepth 100000 in
theorem rv_gd_Model_into : rv_good m_Model_into := rv_good_of (by decide +kernel)
set_option maxRecDepth 100000 in
theorem rv_gd_Model_follows : rv_good m_Model_follows := rv_good_of (by decide +kernel)
set_option maxRecDepth 100000 in
theorem rv_gd_Model_meets : rv_good m_Model_meets := rv_good_of (by decide +kernel)
set_option maxRecDepth 100000 in
theorem rv_gd_Model_joined : rv_good m_Model_joined := rv_good_of (by decide +kernel)
set_option maxRecDepth 100000 in
theorem rv_gd_Model_beginOf : rv_good m_Model_beginOf := rv_good_of (by decide +kernel)
set_option maxRecDepth 100000 in
theorem rv_gd_Model_putAside : rv_good m_Model_putAside := rv_good_of (by decide +kernel)
set_option maxRecDepth 100000 in
theorem rv_gd_Model_came : rv_good m_Model_came := rv_good_of (by decide +kernel)
set_option maxRecDepth 100000 in
theorem rv_gd_Model_row : rv_good m_Model_row := rv_good_of (by decide +kernel)
set_option maxRecDepth 100000 in
theorem rv_gd_Model_gap : rv_good m_Model_gap := rv_good_of (by decide +kernel)
set_option maxRecDepth 100000 in
theorem rv_gd_Model_result_IIJ : rv_good m_Model_result_IIJ := rv_good_of (by decide +kernel)
set_option maxRecDepth 100000 in
theorem rv_gd_Model_aside : rv_good m_Model_aside := rv_good_of (by decide +kernel)
set_option maxRecDepth 100000 in
theorem rv_gd_Model_take : rv_good m_Model_take := rv_good_of (by decide +kernel)
set_option maxRecDepth 100000 in
theorem rv_gd_Model_bound : rv_good m_Model_bound := rv_good_of (by decide +kernel)
set_option maxRecDepth 100000 in
theorem rv_gd_Model_of : rv_good m_Model_of := rv_good_of (by decide +kernel)
set_option maxRecDepth 100000 in
theorem rv_gd_Model_mark : rv_good m_Model_mark := rv_good_of (by decide +kernel)
set_option maxRecDepth 100000 in
theorem rv_gd_Model_window : rv_good m_Model_window := rv_good_of (by decide +kernel)
set_option maxRecDepth 100000 in
theorem rv_gd_Model_passInto : rv_good m_Model_passInto := rv_good_of (by decide +kernel)
set_option maxRecDepth 100000 in
theorem rv_gd_Model_isTaken : rv_good m_Model_isTaken := rv_good_of (by decide +kernel)
set_option maxRecDepth 100000 in
theorem rv_gd_Model_edge : rv_good m_Model_edge := rv_good_of (by decide +kernel)
set_option maxRecDepth 100000 in
theorem rv_gd_Model_pass : rv_good m_Model_pass := rv_good_of (by decide +kernel)
set_option maxRecDepth 100000 in
theorem rv_gd_Model_passed : rv_good m_Model_passed := rv_good_of (by decide +kernel)
set_option maxRecDepth 100000 in
theorem rv_gd_Model_count : rv_good m_Model_count := rv_good_of (by decide +kernel)
set_option maxRecDepth 100000 in
theorem rv_gd_Math_floorDiv : rv_good m_Math_floorDiv := rv_good_of (by decide +kernel)
set_option maxRecDepth 100000 in
theorem rv_gd_Math_max_III : rv_good m_Math_max_III := rv_good_of (by decide +kernel)
set_option maxRecDepth 100000 in
theorem rv_gd_Math_max_JJJ : rv_good m_Math_max_JJJ := rv_good_of (by decide +kernel)
set_option maxRecDepth 100000 in
theorem rv_gd_Math_min_III : rv_good m_Math_min_III := rv_good_of (by decide +kernel)
set_option maxRecDepth 100000 in
theorem rv_gd_Math_min_JJJ : rv_good m_Math_min_JJJ := rv_good_of (by decide +kernel)
set_option maxRecDepth 100000 in
theorem rv_gd_Law_law : rv_good m_Law_law := rv_good_of (by decide +kernel)
