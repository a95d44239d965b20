set_option maxRecDepth 100000 in
theorem rv_gd_Join_init : rv_good m_Join_init := rv_good_of (by decide +kernel)
set_option maxRecDepth 100000 in
theorem rv_gd_Join_start : rv_good m_Join_start := rv_good_of (by decide +kernel)
set_option maxRecDepth 100000 in
theorem rv_gd_Join_add : rv_good m_Join_add := rv_good_of (by decide +kernel)
set_option maxRecDepth 100000 in
theorem rv_gd_OnePass_init : rv_good m_OnePass_init := rv_good_of (by decide +kernel)
set_option maxRecDepth 100000 in
theorem rv_gd_OnePass_clear : rv_good m_OnePass_clear := rv_good_of (by decide +kernel)
set_option maxRecDepth 100000 in
theorem rv_gd_OnePass_add : rv_good m_OnePass_add := rv_good_of (by decide +kernel)
set_option maxRecDepth 100000 in
theorem rv_gd_OnePass_get : rv_good m_OnePass_get := rv_good_of (by decide +kernel)
set_option maxRecDepth 100000 in
theorem rv_gd_OnePass_addToGaps : rv_good m_OnePass_addToGaps := rv_good_of (by decide +kernel)
set_option maxRecDepth 100000 in
theorem rv_gd_OnePass_addToGrid : rv_good m_OnePass_addToGrid := rv_good_of (by decide +kernel)
set_option maxRecDepth 100000 in
theorem rv_gd_OnePass_find : rv_good m_OnePass_find := rv_good_of (by decide +kernel)
set_option maxRecDepth 100000 in
theorem rv_gd_OnePass_open : rv_good m_OnePass_open := rv_good_of (by decide +kernel)
set_option maxRecDepth 100000 in
theorem rv_gd_OnePass_comeInto : rv_good m_OnePass_comeInto := rv_good_of (by decide +kernel)
set_option maxRecDepth 100000 in
theorem rv_gd_Operator_init : rv_good m_Operator_init := rv_good_of (by decide +kernel)
set_option maxRecDepth 100000 in
theorem rv_gd_Operator_hasReached : rv_good m_Operator_hasReached := rv_good_of (by decide +kernel)
set_option maxRecDepth 100000 in
theorem rv_gd_Operator_closes : rv_good m_Operator_closes := rv_good_of (by decide +kernel)
set_option maxRecDepth 100000 in
theorem rv_gd_Operator_firstBegin : rv_good m_Operator_firstBegin := rv_good_of (by decide +kernel)
set_option maxRecDepth 100000 in
theorem rv_gd_Ring_init : rv_good m_Ring_init := rv_good_of (by decide +kernel)
set_option maxRecDepth 100000 in
theorem rv_gd_Ring_open : rv_good m_Ring_open := rv_good_of (by decide +kernel)
set_option maxRecDepth 100000 in
theorem rv_gd_Ring_set : rv_good m_Ring_set := rv_good_of (by decide +kernel)
set_option maxRecDepth 100000 in
theorem rv_gd_Ring_get : rv_good m_Ring_get := rv_good_of (by decide +kernel)
set_option maxRecDepth 100000 in
theorem rv_gd_Ring_dropEldest : rv_good m_Ring_dropEldest := rv_good_of (by decide +kernel)
set_option maxRecDepth 100000 in
theorem rv_gd_Ring_clear : rv_good m_Ring_clear := rv_good_of (by decide +kernel)
set_option maxRecDepth 100000 in
theorem rv_gd_Row_init : rv_good m_Row_init := rv_good_of (by decide +kernel)
set_option maxRecDepth 100000 in
theorem rv_gd_Row_standsAfter : rv_good m_Row_standsAfter := rv_good_of (by decide +kernel)
set_option maxRecDepth 100000 in
theorem rv_gd_RowLog_init : rv_good m_RowLog_init := rv_good_of (by decide +kernel)
set_option maxRecDepth 100000 in
theorem rv_gd_RowLog_add : rv_good m_RowLog_add := rv_good_of (by decide +kernel)
set_option maxRecDepth 100000 in
theorem rv_gd_RowLog_inOrder : rv_good m_RowLog_inOrder := rv_good_of (by decide +kernel)
set_option maxRecDepth 100000 in
theorem rv_gd_Source_init : rv_good m_Source_init := rv_good_of (by decide +kernel)
set_option maxRecDepth 100000 in
theorem rv_gd_Source_noteRow : rv_good m_Source_noteRow := rv_good_of (by decide +kernel)
set_option maxRecDepth 100000 in
theorem rv_gd_Tally_init : rv_good m_Tally_init := rv_good_of (by decide +kernel)
set_option maxRecDepth 100000 in
theorem rv_gd_Tally_clear : rv_good m_Tally_clear := rv_good_of (by decide +kernel)
set_option maxRecDepth 100000 in
theorem rv_gd_Tally_copy : rv_good m_Tally_copy := rv_good_of (by decide +kernel)
set_option maxRecDepth 100000 in
theorem rv_gd_Tally_add : rv_good m_Tally_add := rv_good_of (by decide +kernel)
set_option maxRecDepth 100000 in
theorem rv_gd_Tally_addAll : rv_good m_Tally_addAll := rv_good_of (by decide +kernel)
set_option maxRecDepth 100000 in
theorem rv_gd_Window_init : rv_good m_Window_init := rv_good_of (by decide +kernel)
set_option maxRecDepth 100000 in
theorem rv_gd_Window_start : rv_good m_Window_start := rv_good_of (by decide +kernel)
set_option maxRecDepth 100000 in
theorem rv_gd_Window_belongsTo : rv_good m_Window_belongsTo := rv_good_of (by decide +kernel)
set_option maxRecDepth 100000 in
theorem rv_gd_Window_standsBefore : rv_good m_Window_standsBefore := rv_good_of (by decide +kernel)
set_option maxRecDepth 100000 in
theorem rv_gd_WindowList_init : rv_good m_WindowList_init := rv_good_of (by decide +kernel)
set_option maxRecDepth 100000 in
theorem rv_gd_WindowList_at : rv_good m_WindowList_at := rv_good_of (by decide +kernel)
set_option maxRecDepth 100000 in
theorem rv_gd_WindowList_find : rv_good m_WindowList_find := rv_good_of (by decide +kernel)
set_option maxRecDepth 100000 in
theorem rv_gd_WindowList_has : rv_good m_WindowList_has := rv_good_of (by decide +kernel)
set_option maxRecDepth 100000 in
theorem rv_gd_WindowList_findOrOpen : rv_good m_WindowList_findOrOpen := rv_good_of (by decide +kernel)
set_option maxRecDepth 100000 in
theorem rv_gd_WindowList_remove : rv_good m_WindowList_remove := rv_good_of (by decide +kernel)
set_option maxRecDepth 100000 in
theorem rv_gd_WindowList_nextDue : rv_good m_WindowList_nextDue := rv_good_of (by decide +kernel)
set_option maxRecDepth 100000 in
theorem rv_gd_WindowList_nextClosed : rv_good m_WindowList_nextClosed := rv_good_of (by decide +kernel)
set_option maxRecDepth 100000 in
theorem rv_gd_WindowList_gather : rv_good m_WindowList_gather := rv_good_of (by decide +kernel)
set_option maxRecDepth 100000 in
theorem rv_gd_WindowList_endsBefore : rv_good m_WindowList_endsBefore := rv_good_of (by decide +kernel)
set_option maxRecDepth 100000 in
theorem rv_gd_WindowList_holds : rv_good m_WindowList_holds := rv_good_of (by decide +kernel)
set_option maxRecDepth 100000 in
theorem rv_gd_WindowList_placeOf : rv_good m_WindowList_placeOf := rv_good_of (by decide +kernel)
set_option maxRecDepth 100000 in
theorem rv_gd_WindowList_open : rv_good m_WindowList_open := rv_good_of (by decide +kernel)
set_option maxRecDepth 100000 in
theorem rv_gd_Late_init : rv_good m_Late_init := rv_good_of (by decide +kernel)
set_option maxRecDepth 100000 in
theorem rv_gd_Late_operator : rv_good m_Late_operator := rv_good_of (by decide +kernel)
set_option maxRecDepth 100000 in
theorem rv_gd_Late_source : rv_good m_Late_source := rv_good_of (by decide +kernel)
set_option maxRecDepth 100000 in
theorem rv_gd_Late_promise : rv_good m_Late_promise := rv_good_of (by decide +kernel)
set_option maxRecDepth 100000 in
theorem rv_gd_Late_end : rv_good m_Late_end := rv_good_of (by decide +kernel)
set_option maxRecDepth 100000 in
theorem rv_gd_Late_row : rv_good m_Late_row := rv_good_of (by decide +kernel)
set_option maxRecDepth 100000 in
theorem rv_gd_Late_result : rv_good m_Late_result := rv_good_of (by decide +kernel)
set_option maxRecDepth 100000 in
theorem rv_gd_Late_aside : rv_good m_Late_aside := rv_good_of (by decide +kernel)
set_option maxRecDepth 100000 in
theorem rv_gd_Late_take : rv_good m_Late_take := rv_good_of (by decide +kernel)
set_option maxRecDepth 100000 in
theorem rv_gd_Late_bound : rv_good m_Late_bound := rv_good_of (by decide +kernel)
set_option maxRecDepth 100000 in
theorem rv_gd_Late_of : rv_good m_Late_of := rv_good_of (by decide +kernel)
set_option maxRecDepth 100000 in
theorem rv_gd_Late_mark : rv_good m_Late_mark := rv_good_of (by decide +kernel)
set_option maxRecDepth 100000 in
theorem rv_gd_Late_window : rv_good m_Late_window := rv_good_of (by decide +kernel)
set_option maxRecDepth 100000 in
theorem rv_gd_Late_pass : rv_good m_Late_pass := rv_good_of (by decide +kernel)
set_option maxRecDepth 100000 in
theorem rv_gd_Late_passed : rv_good m_Late_passed := rv_good_of (by decide +kernel)
set_option maxRecDepth 100000 in
theorem rv_gd_Late_count : rv_good m_Late_count := rv_good_of (by decide +kernel)
