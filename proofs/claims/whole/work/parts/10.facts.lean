/-! WHAT THE TABLES SAY OF THE CLASSES AND METHODS (by places, printed by gen.py) -/
theorem rv_places (ws : List Cond) (ps : List Nat) (hp : ws = ps.filterMap (fun i => lw_tbl[i]?)) (h : ws.all goodWord = true) : ∀ w ∈ ws, w ∈ rv_gl := by
  intro w hw
  have h1 := List.all_eq_true.mp h w hw
  rw [hp] at hw
  obtain ⟨i, -, hi⟩ := List.mem_filterMap.mp hw
  exact List.mem_filter.mpr ⟨List.mem_of_getElem? hi, h1⟩
theorem rv_cmw {w : Cond} {p : Nat} (h : lw_tbl[p]? = some w) (hg : goodWord w = true) : w ∈ rv_gl := List.mem_filter.mpr ⟨List.mem_of_getElem? h, hg⟩
theorem rv_cm_of {N : rv_M} {p : Nat} (h : lw_tbl[p]? = some (Cond.code N.1 (rv_bt N) (rv_ml N) (rv_rt N))) (hg : goodWord (Cond.code N.1 (rv_bt N) (rv_ml N) (rv_rt N)) = true) : rv_cm N := rv_cmw h hg
theorem rv_cf_0 : rv_cfP 0 (RX0, TX0, 5) := ⟨rv_places _ [192, 194, 196, 198, 200] (by decide +kernel) (by decide +kernel), tyX0_ok, nmX0, rv_hasG_mem (p := 177) (by decide +kernel), rv_hasG_mem (p := 56) (by decide +kernel), by decide +kernel, rfl, by decide⟩
theorem rv_cf_1 : rv_cfP 1 (RX1, TX1, 2) := ⟨rv_places _ [242, 244] (by decide +kernel) (by decide +kernel), tyX1_ok, nmX1, rv_hasG_mem (p := 234) (by decide +kernel), rv_hasG_mem (p := 59) (by decide +kernel), by decide +kernel, rfl, by decide⟩
theorem rv_cf_2 : rv_cfP 2 (RX2, TX2, 7) := ⟨rv_places _ [321, 323, 325, 327, 329, 331, 333] (by decide +kernel) (by decide +kernel), tyX2_ok, nmX2, rv_hasG_mem (p := 298) (by decide +kernel), rv_hasG_mem (p := 61) (by decide +kernel), by decide +kernel, rfl, by decide⟩
theorem rv_cf_3 : rv_cfP 3 (RX3, TX3, 6) := ⟨rv_places _ [219, 221, 223, 225, 227, 229] (by decide +kernel) (by decide +kernel), tyX3_ok, nmX3, rv_hasG_mem (p := 204) (by decide +kernel), rv_hasG_mem (p := 57) (by decide +kernel), by decide +kernel, rfl, by decide⟩
theorem rv_cf_4 : rv_cfP 4 (RX4, TX4, 5) := ⟨rv_places _ [555, 557, 559, 561, 563] (by decide +kernel) (by decide +kernel), tyX4_ok, nmX4, rv_hasG_mem (p := 540) (by decide +kernel), rv_hasG_mem (p := 63) (by decide +kernel), by decide +kernel, rfl, by decide⟩
theorem rv_cf_5 : rv_cfP 5 (RX5, TX5, 2) := ⟨rv_places _ [87, 89] (by decide +kernel) (by decide +kernel), tyX5_ok, nmX5, rv_hasG_mem (p := 77) (by decide +kernel), rv_hasG_mem (p := 52) (by decide +kernel), by decide +kernel, rfl, by decide⟩
theorem rv_cf_6 : rv_cfP 6 (RX6, TX6, 9) := ⟨rv_places _ [369, 371, 373, 375, 377, 379, 381, 383, 385] (by decide +kernel) (by decide +kernel), tyX6_ok, nmX6, rv_hasG_mem (p := 345) (by decide +kernel), rv_hasG_mem (p := 62) (by decide +kernel), by decide +kernel, rfl, by decide⟩
theorem rv_cf_7 : rv_cfP 7 (RX7, TX7, 4) := ⟨rv_places _ [119, 121, 123, 125] (by decide +kernel) (by decide +kernel), tyX7_ok, nmX7, rv_hasG_mem (p := 106) (by decide +kernel), rv_hasG_mem (p := 55) (by decide +kernel), by decide +kernel, rfl, by decide⟩
theorem rv_cf_8 : rv_cfP 8 (RX8, TX8, 8) := ⟨rv_places _ [151, 153, 155, 157, 159, 161, 163, 165] (by decide +kernel) (by decide +kernel), tyX8_ok, nmX8, rv_hasG_mem (p := 100) (by decide +kernel), rv_hasG_mem (p := 54) (by decide +kernel), by decide +kernel, rfl, by decide⟩
theorem rv_cf_9 : rv_cfP 9 (RX9, TX9, 2) := ⟨rv_places _ [171, 173] (by decide +kernel) (by decide +kernel), tyX9_ok, nmX9, rv_hasG_mem (p := 93) (by decide +kernel), rv_hasG_mem (p := 53) (by decide +kernel), by decide +kernel, rfl, by decide⟩
theorem rv_cf_10 : rv_cfP 10 (RX10, TX10, 14) := ⟨rv_places _ [261, 263, 265, 267, 269, 271, 273, 275, 277, 279, 281, 283, 285, 287] (by decide +kernel) (by decide +kernel), tyX10_ok, nmX10, rv_hasG_mem (p := 65) (by decide +kernel), rv_hasG_mem (p := 51) (by decide +kernel), by decide +kernel, rfl, by decide⟩
theorem rv_cf_11 : rv_cfP 11 (RX11, TX11, 51) := ⟨rv_places _ [788, 790, 792, 794, 796, 798, 800, 802, 804, 806, 808, 810, 812, 814, 816, 818, 820, 822, 824, 826, 828, 830, 832, 834, 836, 838, 840, 842, 844, 846, 848, 850, 852, 854, 856, 858, 860, 862, 864, 866, 868, 870, 872, 874, 876, 878, 880, 882, 884, 886, 888] (by decide +kernel) (by decide +kernel), tyX11_ok, nmX11, rv_hasG_mem (p := 731) (by decide +kernel), rv_hasG_mem (p := 60) (by decide +kernel), by decide +kernel, rfl, by decide⟩
theorem rv_cf (ci : Nat) (r : vw_C) (h : classes[ci]? = some r) : rv_cfP ci r := by
  match ci, h with
  | 0, h => cases h; exact rv_cf_0
  | 1, h => cases h; exact rv_cf_1
  | 2, h => cases h; exact rv_cf_2
  | 3, h => cases h; exact rv_cf_3
  | 4, h => cases h; exact rv_cf_4
  | 5, h => cases h; exact rv_cf_5
  | 6, h => cases h; exact rv_cf_6
  | 7, h => cases h; exact rv_cf_7
  | 8, h => cases h; exact rv_cf_8
  | 9, h => cases h; exact rv_cf_9
  | 10, h => cases h; exact rv_cf_10
  | 11, h => cases h; exact rv_cf_11
  | n + 12, h => simp [classes] at h
set_option maxRecDepth 100000 in
theorem rv_cm_Join_init : rv_cm m_Join_init := rv_cm_of (p := 180) rfl rfl
set_option maxRecDepth 100000 in
theorem rv_cm_Join_start : rv_cm m_Join_start := rv_cm_of (p := 497) rfl rfl
set_option maxRecDepth 100000 in
theorem rv_cm_Join_add : rv_cm m_Join_add := rv_cm_of (p := 501) rfl rfl
set_option maxRecDepth 100000 in
theorem rv_cm_OnePass_init : rv_cm m_OnePass_init := rv_cm_of (p := 237) rfl rfl
set_option maxRecDepth 100000 in
theorem rv_cm_OnePass_clear : rv_cm m_OnePass_clear := rv_cm_of (p := 680) rfl rfl
set_option maxRecDepth 100000 in
theorem rv_cm_OnePass_add : rv_cm m_OnePass_add := rv_cm_of (p := 688) rfl rfl
set_option maxRecDepth 100000 in
theorem rv_cm_OnePass_get : rv_cm m_OnePass_get := rv_cm_of (p := 696) rfl rfl
set_option maxRecDepth 100000 in
theorem rv_cm_OnePass_addToGaps : rv_cm m_OnePass_addToGaps := rv_cm_of (p := 692) rfl rfl
set_option maxRecDepth 100000 in
theorem rv_cm_OnePass_addToGrid : rv_cm m_OnePass_addToGrid := rv_cm_of (p := 715) rfl rfl
set_option maxRecDepth 100000 in
theorem rv_cm_OnePass_find : rv_cm m_OnePass_find := rv_cm_of (p := 720) rfl rfl
set_option maxRecDepth 100000 in
theorem rv_cm_OnePass_open : rv_cm m_OnePass_open := rv_cm_of (p := 711) rfl rfl
set_option maxRecDepth 100000 in
theorem rv_cm_OnePass_comeInto : rv_cm m_OnePass_comeInto := rv_cm_of (p := 701) rfl rfl
set_option maxRecDepth 100000 in
theorem rv_cm_Operator_init : rv_cm m_Operator_init := rv_cm_of (p := 301) rfl rfl
set_option maxRecDepth 100000 in
theorem rv_cm_Operator_hasReached : rv_cm m_Operator_hasReached := rv_cm_of (p := 419) rfl rfl
set_option maxRecDepth 100000 in
theorem rv_cm_Operator_closes : rv_cm m_Operator_closes := rv_cm_of (p := 463) rfl rfl
set_option maxRecDepth 100000 in
theorem rv_cm_Operator_firstBegin : rv_cm m_Operator_firstBegin := rv_cm_of (p := 520) rfl rfl
set_option maxRecDepth 100000 in
theorem rv_cm_Ring_init : rv_cm m_Ring_init := rv_cm_of (p := 207) rfl rfl
set_option maxRecDepth 100000 in
theorem rv_cm_Ring_open : rv_cm m_Ring_open := rv_cm_of (p := 439) rfl rfl
set_option maxRecDepth 100000 in
theorem rv_cm_Ring_set : rv_cm m_Ring_set := rv_cm_of (p := 447) rfl rfl
set_option maxRecDepth 100000 in
theorem rv_cm_Ring_get : rv_cm m_Ring_get := rv_cm_of (p := 636) rfl rfl
set_option maxRecDepth 100000 in
theorem rv_cm_Ring_dropEldest : rv_cm m_Ring_dropEldest := rv_cm_of (p := 443) rfl rfl
set_option maxRecDepth 100000 in
theorem rv_cm_Ring_clear : rv_cm m_Ring_clear := rv_cm_of (p := 649) rfl rfl
set_option maxRecDepth 100000 in
theorem rv_cm_Row_init : rv_cm m_Row_init := rv_cm_of (p := 543) rfl rfl
set_option maxRecDepth 100000 in
theorem rv_cm_Row_standsAfter : rv_cm m_Row_standsAfter := rv_cm_of (p := 539) rfl rfl
set_option maxRecDepth 100000 in
theorem rv_cm_RowLog_init : rv_cm m_RowLog_init := rv_cm_of (p := 80) rfl rfl
set_option maxRecDepth 100000 in
theorem rv_cm_RowLog_add : rv_cm m_RowLog_add := rv_cm_of (p := 535) rfl rfl
set_option maxRecDepth 100000 in
theorem rv_cm_RowLog_inOrder : rv_cm m_RowLog_inOrder := rv_cm_of (p := 684) rfl rfl
set_option maxRecDepth 100000 in
theorem rv_cm_Source_init : rv_cm m_Source_init := rv_cm_of (p := 348) rfl rfl
set_option maxRecDepth 100000 in
theorem rv_cm_Source_noteRow : rv_cm m_Source_noteRow := rv_cm_of (p := 531) rfl rfl
set_option maxRecDepth 100000 in
theorem rv_cm_Tally_init : rv_cm m_Tally_init := rv_cm_of (p := 109) rfl rfl
set_option maxRecDepth 100000 in
theorem rv_cm_Tally_clear : rv_cm m_Tally_clear := rv_cm_of (p := 602) rfl rfl
set_option maxRecDepth 100000 in
theorem rv_cm_Tally_copy : rv_cm m_Tally_copy := rv_cm_of (p := 451) rfl rfl
set_option maxRecDepth 100000 in
theorem rv_cm_Tally_add : rv_cm m_Tally_add := rv_cm_of (p := 610) rfl rfl
set_option maxRecDepth 100000 in
theorem rv_cm_Tally_addAll : rv_cm m_Tally_addAll := rv_cm_of (p := 624) rfl rfl
set_option maxRecDepth 100000 in
theorem rv_cm_Window_init : rv_cm m_Window_init := rv_cm_of (p := 103) rfl rfl
set_option maxRecDepth 100000 in
theorem rv_cm_Window_start : rv_cm m_Window_start := rv_cm_of (p := 598) rfl rfl
set_option maxRecDepth 100000 in
theorem rv_cm_Window_belongsTo : rv_cm m_Window_belongsTo := rv_cm_of (p := 493) rfl rfl
set_option maxRecDepth 100000 in
theorem rv_cm_Window_standsBefore : rv_cm m_Window_standsBefore := rv_cm_of (p := 489) rfl rfl
set_option maxRecDepth 100000 in
theorem rv_cm_WindowList_init : rv_cm m_WindowList_init := rv_cm_of (p := 96) rfl rfl
set_option maxRecDepth 100000 in
theorem rv_cm_WindowList_at : rv_cm m_WindowList_at := rv_cm_of (p := 427) rfl rfl
set_option maxRecDepth 100000 in
theorem rv_cm_WindowList_find : rv_cm m_WindowList_find := rv_cm_of (p := 670) rfl rfl
set_option maxRecDepth 100000 in
theorem rv_cm_WindowList_has : rv_cm m_WindowList_has := rv_cm_of (p := 578) rfl rfl
set_option maxRecDepth 100000 in
theorem rv_cm_WindowList_findOrOpen : rv_cm m_WindowList_findOrOpen := rv_cm_of (p := 590) rfl rfl
set_option maxRecDepth 100000 in
theorem rv_cm_WindowList_remove : rv_cm m_WindowList_remove := rv_cm_of (p := 467) rfl rfl
set_option maxRecDepth 100000 in
theorem rv_cm_WindowList_nextDue : rv_cm m_WindowList_nextDue := rv_cm_of (p := 415) rfl rfl
set_option maxRecDepth 100000 in
theorem rv_cm_WindowList_nextClosed : rv_cm m_WindowList_nextClosed := rv_cm_of (p := 459) rfl rfl
set_option maxRecDepth 100000 in
theorem rv_cm_WindowList_gather : rv_cm m_WindowList_gather := rv_cm_of (p := 481) rfl rfl
set_option maxRecDepth 100000 in
theorem rv_cm_WindowList_endsBefore : rv_cm m_WindowList_endsBefore := rv_cm_of (p := 423) rfl rfl
set_option maxRecDepth 100000 in
theorem rv_cm_WindowList_holds : rv_cm m_WindowList_holds := rv_cm_of (p := 582) rfl rfl
set_option maxRecDepth 100000 in
theorem rv_cm_WindowList_placeOf : rv_cm m_WindowList_placeOf := rv_cm_of (p := 485) rfl rfl
set_option maxRecDepth 100000 in
theorem rv_cm_WindowList_open : rv_cm m_WindowList_open := rv_cm_of (p := 594) rfl rfl
set_option maxRecDepth 100000 in
theorem rv_cm_Late_init : rv_cm m_Late_init := rv_cm_of (p := 68) rfl rfl
set_option maxRecDepth 100000 in
theorem rv_cm_Late_operator : rv_cm m_Late_operator := rv_cm_of (p := 293) rfl rfl
set_option maxRecDepth 100000 in
theorem rv_cm_Late_source : rv_cm m_Late_source := rv_cm_of (p := 339) rfl rfl
set_option maxRecDepth 100000 in
theorem rv_cm_Late_promise : rv_cm m_Late_promise := rv_cm_of (p := 391) rfl rfl
set_option maxRecDepth 100000 in
theorem rv_cm_Late_end : rv_cm m_Late_end := rv_cm_of (p := 472) rfl rfl
set_option maxRecDepth 100000 in
theorem rv_cm_Late_row : rv_cm m_Late_row := rv_cm_of (p := 476) rfl rfl
set_option maxRecDepth 100000 in
theorem rv_cm_Late_result : rv_cm m_Late_result := rv_cm_of (p := 632) rfl rfl
set_option maxRecDepth 100000 in
theorem rv_cm_Late_aside : rv_cm m_Late_aside := rv_cm_of (p := 641) rfl rfl
set_option maxRecDepth 100000 in
theorem rv_cm_Late_take : rv_cm m_Late_take := rv_cm_of (p := 645) rfl rfl
set_option maxRecDepth 100000 in
theorem rv_cm_Late_bound : rv_cm m_Late_bound := rv_cm_of (p := 653) rfl rfl
set_option maxRecDepth 100000 in
theorem rv_cm_Late_of : rv_cm m_Late_of := rv_cm_of (p := 657) rfl rfl
set_option maxRecDepth 100000 in
theorem rv_cm_Late_mark : rv_cm m_Late_mark := rv_cm_of (p := 662) rfl rfl
set_option maxRecDepth 100000 in
theorem rv_cm_Late_window : rv_cm m_Late_window := rv_cm_of (p := 666) rfl rfl
set_option maxRecDepth 100000 in
theorem rv_cm_Late_pass : rv_cm m_Late_pass := rv_cm_of (p := 676) rfl rfl
set_option maxRecDepth 100000 in
theorem rv_cm_Late_passed : rv_cm m_Late_passed := rv_cm_of (p := 724) rfl rfl
set_option maxRecDepth 100000 in
theorem rv_cm_Late_count : rv_cm m_Late_count := rv_cm_of (p := 729) rfl rfl
set_option maxRecDepth 100000 in
theorem rv_cm_Late_isWithin : rv_cm m_Late_isWithin := rv_cm_of (p := 296) rfl rfl
set_option maxRecDepth 100000 in
theorem rv_cm_Late_operatorAt : rv_cm m_Late_operatorAt := rv_cm_of (p := 343) rfl rfl
set_option maxRecDepth 100000 in
theorem rv_cm_Late_sourceAt : rv_cm m_Late_sourceAt := rv_cm_of (p := 395) rfl rfl
set_option maxRecDepth 100000 in
theorem rv_cm_Late_moveMark : rv_cm m_Late_moveMark := rv_cm_of (p := 400) rfl rfl
set_option maxRecDepth 100000 in
theorem rv_cm_Late_leastPromise : rv_cm m_Late_leastPromise := rv_cm_of (p := 404) rfl rfl
set_option maxRecDepth 100000 in
theorem rv_cm_Late_tellAllDue : rv_cm m_Late_tellAllDue := rv_cm_of (p := 411) rfl rfl
set_option maxRecDepth 100000 in
theorem rv_cm_Late_letClosedGo : rv_cm m_Late_letClosedGo := rv_cm_of (p := 455) rfl rfl
set_option maxRecDepth 100000 in
theorem rv_cm_Late_tell : rv_cm m_Late_tell := rv_cm_of (p := 431) rfl rfl
set_option maxRecDepth 100000 in
theorem rv_cm_Late_keepResult : rv_cm m_Late_keepResult := rv_cm_of (p := 435) rfl rfl
set_option maxRecDepth 100000 in
theorem rv_cm_Late_judge : rv_cm m_Late_judge := rv_cm_of (p := 507) rfl rfl
set_option maxRecDepth 100000 in
theorem rv_cm_Late_judgeInGaps : rv_cm m_Late_judgeInGaps := rv_cm_of (p := 511) rfl rfl
set_option maxRecDepth 100000 in
theorem rv_cm_Late_judgeInGrid : rv_cm m_Late_judgeInGrid := rv_cm_of (p := 516) rfl rfl
set_option maxRecDepth 100000 in
theorem rv_cm_Late_layAside : rv_cm m_Late_layAside := rv_cm_of (p := 527) rfl rfl
set_option maxRecDepth 100000 in
theorem rv_cm_Late_keepAside : rv_cm m_Late_keepAside := rv_cm_of (p := 570) rfl rfl
set_option maxRecDepth 100000 in
theorem rv_cm_Late_countNewWindows : rv_cm m_Late_countNewWindows := rv_cm_of (p := 574) rfl rfl
set_option maxRecDepth 100000 in
theorem rv_cm_Late_useInGrid : rv_cm m_Late_useInGrid := rv_cm_of (p := 628) rfl rfl
set_option maxRecDepth 100000 in
theorem rv_cm_Late_useInGaps : rv_cm m_Late_useInGaps := rv_cm_of (p := 586) rfl rfl
set_option maxRecDepth 100000 in
theorem rv_cm_Late_takeBackJoined : rv_cm m_Late_takeBackJoined := rv_cm_of (p := 616) rfl rfl
set_option maxRecDepth 100000 in
theorem rv_cm_Late_mergeJoined : rv_cm m_Late_mergeJoined := rv_cm_of (p := 620) rfl rfl
set_option maxRecDepth 100000 in
theorem rv_cm_Late_comeInto : rv_cm m_Late_comeInto := rv_cm_of (p := 606) rfl rfl
set_option maxRecDepth 100000 in
theorem rv_cm_Model_in : rv_cm m_Model_in := rv_cm_of (p := 899) rfl rfl
set_option maxRecDepth 100000 in
theorem rv_cm_Model_down : rv_cm m_Model_down := rv_cm_of (p := 974) rfl rfl
set_option maxRecDepth 100000 in
theorem rv_cm_Model_init : rv_cm m_Model_init := rv_cm_of (p := 734) rfl rfl
set_option maxRecDepth 100000 in
theorem rv_cm_Model_isOp : rv_cm m_Model_isOp := rv_cm_of (p := 908) rfl rfl
set_option maxRecDepth 100000 in
theorem rv_cm_Model_isSource : rv_cm m_Model_isSource := rv_cm_of (p := 917) rfl rfl
set_option maxRecDepth 100000 in
theorem rv_cm_Model_operator : rv_cm m_Model_operator := rv_cm_of (p := 896) rfl rfl
set_option maxRecDepth 100000 in
theorem rv_cm_Model_source : rv_cm m_Model_source := rv_cm_of (p := 904) rfl rfl
set_option maxRecDepth 100000 in
theorem rv_cm_Model_result_IIIJIIV : rv_cm m_Model_result_IIIJIIV := rv_cm_of (p := 942) rfl rfl
set_option maxRecDepth 100000 in
theorem rv_cm_Model_tell : rv_cm m_Model_tell := rv_cm_of (p := 938) rfl rfl
set_option maxRecDepth 100000 in
theorem rv_cm_Model_takeBack : rv_cm m_Model_takeBack := rv_cm_of (p := 946) rfl rfl
set_option maxRecDepth 100000 in
theorem rv_cm_Model_remove : rv_cm m_Model_remove := rv_cm_of (p := 950) rfl rfl
set_option maxRecDepth 100000 in
theorem rv_cm_Model_isAhead : rv_cm m_Model_isAhead := rv_cm_of (p := 934) rfl rfl
set_option maxRecDepth 100000 in
theorem rv_cm_Model_isClosed : rv_cm m_Model_isClosed := rv_cm_of (p := 930) rfl rfl
set_option maxRecDepth 100000 in
theorem rv_cm_Model_due : rv_cm m_Model_due := rv_cm_of (p := 926) rfl rfl
set_option maxRecDepth 100000 in
theorem rv_cm_Model_moves : rv_cm m_Model_moves := rv_cm_of (p := 922) rfl rfl
set_option maxRecDepth 100000 in
theorem rv_cm_Model_promise : rv_cm m_Model_promise := rv_cm_of (p := 913) rfl rfl
set_option maxRecDepth 100000 in
theorem rv_cm_Model_end : rv_cm m_Model_end := rv_cm_of (p := 954) rfl rfl
set_option maxRecDepth 100000 in
theorem rv_cm_Model_found : rv_cm m_Model_found := rv_cm_of (p := 978) rfl rfl
set_option maxRecDepth 100000 in
theorem rv_cm_Model_made : rv_cm m_Model_made := rv_cm_of (p := 1002) rfl rfl
set_option maxRecDepth 100000 in
theorem rv_cm_Model_into : rv_cm m_Model_into := rv_cm_of (p := 994) rfl rfl
set_option maxRecDepth 100000 in
theorem rv_cm_Model_follows : rv_cm m_Model_follows := rv_cm_of (p := 998) rfl rfl
set_option maxRecDepth 100000 in
theorem rv_cm_Model_meets : rv_cm m_Model_meets := rv_cm_of (p := 967) rfl rfl
set_option maxRecDepth 100000 in
theorem rv_cm_Model_joined : rv_cm m_Model_joined := rv_cm_of (p := 963) rfl rfl
set_option maxRecDepth 100000 in
theorem rv_cm_Model_beginOf : rv_cm m_Model_beginOf := rv_cm_of (p := 971) rfl rfl
set_option maxRecDepth 100000 in
theorem rv_cm_Model_putAside : rv_cm m_Model_putAside := rv_cm_of (p := 982) rfl rfl
set_option maxRecDepth 100000 in
theorem rv_cm_Model_came : rv_cm m_Model_came := rv_cm_of (p := 986) rfl rfl
set_option maxRecDepth 100000 in
theorem rv_cm_Model_row : rv_cm m_Model_row := rv_cm_of (p := 958) rfl rfl
set_option maxRecDepth 100000 in
theorem rv_cm_Model_gap : rv_cm m_Model_gap := rv_cm_of (p := 990) rfl rfl
set_option maxRecDepth 100000 in
theorem rv_cm_Model_result_IIJ : rv_cm m_Model_result_IIJ := rv_cm_of (p := 1006) rfl rfl
set_option maxRecDepth 100000 in
theorem rv_cm_Model_aside : rv_cm m_Model_aside := rv_cm_of (p := 1011) rfl rfl
set_option maxRecDepth 100000 in
theorem rv_cm_Model_take : rv_cm m_Model_take := rv_cm_of (p := 1015) rfl rfl
set_option maxRecDepth 100000 in
theorem rv_cm_Model_bound : rv_cm m_Model_bound := rv_cm_of (p := 1019) rfl rfl
set_option maxRecDepth 100000 in
theorem rv_cm_Model_of : rv_cm m_Model_of := rv_cm_of (p := 1023) rfl rfl
set_option maxRecDepth 100000 in
theorem rv_cm_Model_mark : rv_cm m_Model_mark := rv_cm_of (p := 1027) rfl rfl
set_option maxRecDepth 100000 in
theorem rv_cm_Model_window : rv_cm m_Model_window := rv_cm_of (p := 1031) rfl rfl
set_option maxRecDepth 100000 in
theorem rv_cm_Model_passInto : rv_cm m_Model_passInto := rv_cm_of (p := 1047) rfl rfl
set_option maxRecDepth 100000 in
theorem rv_cm_Model_isTaken : rv_cm m_Model_isTaken := rv_cm_of (p := 1039) rfl rfl
set_option maxRecDepth 100000 in
theorem rv_cm_Model_edge : rv_cm m_Model_edge := rv_cm_of (p := 1043) rfl rfl
set_option maxRecDepth 100000 in
theorem rv_cm_Model_pass : rv_cm m_Model_pass := rv_cm_of (p := 1035) rfl rfl
set_option maxRecDepth 100000 in
theorem rv_cm_Model_passed : rv_cm m_Model_passed := rv_cm_of (p := 1051) rfl rfl
set_option maxRecDepth 100000 in
theorem rv_cm_Model_count : rv_cm m_Model_count := rv_cm_of (p := 1055) rfl rfl
set_option maxRecDepth 100000 in
theorem rv_cm_Math_floorDiv : rv_cm m_Math_floorDiv := rv_cm_of (p := 523) rfl rfl
set_option maxRecDepth 100000 in
theorem rv_cm_Math_max_III : rv_cm m_Math_max_III := rv_cm_of (p := 211) rfl rfl
set_option maxRecDepth 100000 in
theorem rv_cm_Math_max_JJJ : rv_cm m_Math_max_JJJ := rv_cm_of (p := 707) rfl rfl
set_option maxRecDepth 100000 in
theorem rv_cm_Math_min_III : rv_cm m_Math_min_III := rv_cm_of (p := 407) rfl rfl
set_option maxRecDepth 100000 in
theorem rv_cm_Math_min_JJJ : rv_cm m_Math_min_JJJ := rv_cm_of (p := 704) rfl rfl
theorem rv_cml_0 : ∀ N ∈ [m_Join_init, m_Join_start, m_Join_add, m_OnePass_init, m_OnePass_clear, m_OnePass_add, m_OnePass_get, m_OnePass_addToGaps, m_OnePass_addToGrid, m_OnePass_find, m_OnePass_open, m_OnePass_comeInto, m_Operator_init, m_Operator_hasReached, m_Operator_closes, m_Operator_firstBegin], rv_cm N := List.forall_mem_cons.mpr ⟨rv_cm_Join_init, List.forall_mem_cons.mpr ⟨rv_cm_Join_start, List.forall_mem_cons.mpr ⟨rv_cm_Join_add, List.forall_mem_cons.mpr ⟨rv_cm_OnePass_init, List.forall_mem_cons.mpr ⟨rv_cm_OnePass_clear, List.forall_mem_cons.mpr ⟨rv_cm_OnePass_add, List.forall_mem_cons.mpr ⟨rv_cm_OnePass_get, List.forall_mem_cons.mpr ⟨rv_cm_OnePass_addToGaps, List.forall_mem_cons.mpr ⟨rv_cm_OnePass_addToGrid, List.forall_mem_cons.mpr ⟨rv_cm_OnePass_find, List.forall_mem_cons.mpr ⟨rv_cm_OnePass_open, List.forall_mem_cons.mpr ⟨rv_cm_OnePass_comeInto, List.forall_mem_cons.mpr ⟨rv_cm_Operator_init, List.forall_mem_cons.mpr ⟨rv_cm_Operator_hasReached, List.forall_mem_cons.mpr ⟨rv_cm_Operator_closes, List.forall_mem_cons.mpr ⟨rv_cm_Operator_firstBegin, fun _ h => absurd h List.not_mem_nil⟩⟩⟩⟩⟩⟩⟩⟩⟩⟩⟩⟩⟩⟩⟩⟩
theorem rv_cml_1 : ∀ N ∈ [m_Ring_init, m_Ring_open, m_Ring_set, m_Ring_get, m_Ring_dropEldest, m_Ring_clear, m_Row_init, m_Row_standsAfter, m_RowLog_init, m_RowLog_add, m_RowLog_inOrder, m_Source_init, m_Source_noteRow, m_Tally_init, m_Tally_clear, m_Tally_copy], rv_cm N := List.forall_mem_cons.mpr ⟨rv_cm_Ring_init, List.forall_mem_cons.mpr ⟨rv_cm_Ring_open, List.forall_mem_cons.mpr ⟨rv_cm_Ring_set, List.forall_mem_cons.mpr ⟨rv_cm_Ring_get, List.forall_mem_cons.mpr ⟨rv_cm_Ring_dropEldest, List.forall_mem_cons.mpr ⟨rv_cm_Ring_clear, List.forall_mem_cons.mpr ⟨rv_cm_Row_init, List.forall_mem_cons.mpr ⟨rv_cm_Row_standsAfter, List.forall_mem_cons.mpr ⟨rv_cm_RowLog_init, List.forall_mem_cons.mpr ⟨rv_cm_RowLog_add, List.forall_mem_cons.mpr ⟨rv_cm_RowLog_inOrder, List.forall_mem_cons.mpr ⟨rv_cm_Source_init, List.forall_mem_cons.mpr ⟨rv_cm_Source_noteRow, List.forall_mem_cons.mpr ⟨rv_cm_Tally_init, List.forall_mem_cons.mpr ⟨rv_cm_Tally_clear, List.forall_mem_cons.mpr ⟨rv_cm_Tally_copy, fun _ h => absurd h List.not_mem_nil⟩⟩⟩⟩⟩⟩⟩⟩⟩⟩⟩⟩⟩⟩⟩⟩
theorem rv_cml_2 : ∀ N ∈ [m_Tally_add, m_Tally_addAll, m_Window_init, m_Window_start, m_Window_belongsTo, m_Window_standsBefore, m_WindowList_init, m_WindowList_at, m_WindowList_find, m_WindowList_has, m_WindowList_findOrOpen, m_WindowList_remove, m_WindowList_nextDue, m_WindowList_nextClosed, m_WindowList_gather, m_WindowList_endsBefore], rv_cm N := List.forall_mem_cons.mpr ⟨rv_cm_Tally_add, List.forall_mem_cons.mpr ⟨rv_cm_Tally_addAll, List.forall_mem_cons.mpr ⟨rv_cm_Window_init, List.forall_mem_cons.mpr ⟨rv_cm_Window_start, List.forall_mem_cons.mpr ⟨rv_cm_Window_belongsTo, List.forall_mem_cons.mpr ⟨rv_cm_Window_standsBefore, List.forall_mem_cons.mpr ⟨rv_cm_WindowList_init, List.forall_mem_cons.mpr ⟨rv_cm_WindowList_at, List.forall_mem_cons.mpr ⟨rv_cm_WindowList_find, List.forall_mem_cons.mpr ⟨rv_cm_WindowList_has, List.forall_mem_cons.mpr ⟨rv_cm_WindowList_findOrOpen, List.forall_mem_cons.mpr ⟨rv_cm_WindowList_remove, List.forall_mem_cons.mpr ⟨rv_cm_WindowList_nextDue, List.forall_mem_cons.mpr ⟨rv_cm_WindowList_nextClosed, List.forall_mem_cons.mpr ⟨rv_cm_WindowList_gather, List.forall_mem_cons.mpr ⟨rv_cm_WindowList_endsBefore, fun _ h => absurd h List.not_mem_nil⟩⟩⟩⟩⟩⟩⟩⟩⟩⟩⟩⟩⟩⟩⟩⟩
theorem rv_cml_3 : ∀ N ∈ [m_WindowList_holds, m_WindowList_placeOf, m_WindowList_open, m_Late_init, m_Late_operator, m_Late_source, m_Late_promise, m_Late_end, m_Late_row, m_Late_result, m_Late_aside, m_Late_take, m_Late_bound, m_Late_of, m_Late_mark, m_Late_window], rv_cm N := List.forall_mem_cons.mpr ⟨rv_cm_WindowList_holds, List.forall_mem_cons.mpr ⟨rv_cm_WindowList_placeOf, List.forall_mem_cons.mpr ⟨rv_cm_WindowList_open, List.forall_mem_cons.mpr ⟨rv_cm_Late_init, List.forall_mem_cons.mpr ⟨rv_cm_Late_operator, List.forall_mem_cons.mpr ⟨rv_cm_Late_source, List.forall_mem_cons.mpr ⟨rv_cm_Late_promise, List.forall_mem_cons.mpr ⟨rv_cm_Late_end, List.forall_mem_cons.mpr ⟨rv_cm_Late_row, List.forall_mem_cons.mpr ⟨rv_cm_Late_result, List.forall_mem_cons.mpr ⟨rv_cm_Late_aside, List.forall_mem_cons.mpr ⟨rv_cm_Late_take, List.forall_mem_cons.mpr ⟨rv_cm_Late_bound, List.forall_mem_cons.mpr ⟨rv_cm_Late_of, List.forall_mem_cons.mpr ⟨rv_cm_Late_mark, List.forall_mem_cons.mpr ⟨rv_cm_Late_window, fun _ h => absurd h List.not_mem_nil⟩⟩⟩⟩⟩⟩⟩⟩⟩⟩⟩⟩⟩⟩⟩⟩
theorem rv_cml_4 : ∀ N ∈ [m_Late_pass, m_Late_passed, m_Late_count, m_Late_isWithin, m_Late_operatorAt, m_Late_sourceAt, m_Late_moveMark, m_Late_leastPromise, m_Late_tellAllDue, m_Late_letClosedGo, m_Late_tell, m_Late_keepResult, m_Late_judge, m_Late_judgeInGaps, m_Late_judgeInGrid, m_Late_layAside], rv_cm N := List.forall_mem_cons.mpr ⟨rv_cm_Late_pass, List.forall_mem_cons.mpr ⟨rv_cm_Late_passed, List.forall_mem_cons.mpr ⟨rv_cm_Late_count, List.forall_mem_cons.mpr ⟨rv_cm_Late_isWithin, List.forall_mem_cons.mpr ⟨rv_cm_Late_operatorAt, List.forall_mem_cons.mpr ⟨rv_cm_Late_sourceAt, List.forall_mem_cons.mpr ⟨rv_cm_Late_moveMark, List.forall_mem_cons.mpr ⟨rv_cm_Late_leastPromise, List.forall_mem_cons.mpr ⟨rv_cm_Late_tellAllDue, List.forall_mem_cons.mpr ⟨rv_cm_Late_letClosedGo, List.forall_mem_cons.mpr ⟨rv_cm_Late_tell, List.forall_mem_cons.mpr ⟨rv_cm_Late_keepResult, List.forall_mem_cons.mpr ⟨rv_cm_Late_judge, List.forall_mem_cons.mpr ⟨rv_cm_Late_judgeInGaps, List.forall_mem_cons.mpr ⟨rv_cm_Late_judgeInGrid, List.forall_mem_cons.mpr ⟨rv_cm_Late_layAside, fun _ h => absurd h List.not_mem_nil⟩⟩⟩⟩⟩⟩⟩⟩⟩⟩⟩⟩⟩⟩⟩⟩
theorem rv_cml_5 : ∀ N ∈ [m_Late_keepAside, m_Late_countNewWindows, m_Late_useInGrid, m_Late_useInGaps, m_Late_takeBackJoined, m_Late_mergeJoined, m_Late_comeInto, m_Model_in, m_Model_down, m_Model_init, m_Model_isOp, m_Model_isSource, m_Model_operator, m_Model_source, m_Model_result_IIIJIIV, m_Model_tell], rv_cm N := List.forall_mem_cons.mpr ⟨rv_cm_Late_keepAside, List.forall_mem_cons.mpr ⟨rv_cm_Late_countNewWindows, List.forall_mem_cons.mpr ⟨rv_cm_Late_useInGrid, List.forall_mem_cons.mpr ⟨rv_cm_Late_useInGaps, List.forall_mem_cons.mpr ⟨rv_cm_Late_takeBackJoined, List.forall_mem_cons.mpr ⟨rv_cm_Late_mergeJoined, List.forall_mem_cons.mpr ⟨rv_cm_Late_comeInto, List.forall_mem_cons.mpr ⟨rv_cm_Model_in, List.forall_mem_cons.mpr ⟨rv_cm_Model_down, List.forall_mem_cons.mpr ⟨rv_cm_Model_init, List.forall_mem_cons.mpr ⟨rv_cm_Model_isOp, List.forall_mem_cons.mpr ⟨rv_cm_Model_isSource, List.forall_mem_cons.mpr ⟨rv_cm_Model_operator, List.forall_mem_cons.mpr ⟨rv_cm_Model_source, List.forall_mem_cons.mpr ⟨rv_cm_Model_result_IIIJIIV, List.forall_mem_cons.mpr ⟨rv_cm_Model_tell, fun _ h => absurd h List.not_mem_nil⟩⟩⟩⟩⟩⟩⟩⟩⟩⟩⟩⟩⟩⟩⟩⟩
theorem rv_cml_6 : ∀ N ∈ [m_Model_takeBack, m_Model_remove, m_Model_isAhead, m_Model_isClosed, m_Model_due, m_Model_moves, m_Model_promise, m_Model_end, m_Model_found, m_Model_made, m_Model_into, m_Model_follows, m_Model_meets, m_Model_joined, m_Model_beginOf, m_Model_putAside], rv_cm N := List.forall_mem_cons.mpr ⟨rv_cm_Model_takeBack, List.forall_mem_cons.mpr ⟨rv_cm_Model_remove, List.forall_mem_cons.mpr ⟨rv_cm_Model_isAhead, List.forall_mem_cons.mpr ⟨rv_cm_Model_isClosed, List.forall_mem_cons.mpr ⟨rv_cm_Model_due, List.forall_mem_cons.mpr ⟨rv_cm_Model_moves, List.forall_mem_cons.mpr ⟨rv_cm_Model_promise, List.forall_mem_cons.mpr ⟨rv_cm_Model_end, List.forall_mem_cons.mpr ⟨rv_cm_Model_found, List.forall_mem_cons.mpr ⟨rv_cm_Model_made, List.forall_mem_cons.mpr ⟨rv_cm_Model_into, List.forall_mem_cons.mpr ⟨rv_cm_Model_follows, List.forall_mem_cons.mpr ⟨rv_cm_Model_meets, List.forall_mem_cons.mpr ⟨rv_cm_Model_joined, List.forall_mem_cons.mpr ⟨rv_cm_Model_beginOf, List.forall_mem_cons.mpr ⟨rv_cm_Model_putAside, fun _ h => absurd h List.not_mem_nil⟩⟩⟩⟩⟩⟩⟩⟩⟩⟩⟩⟩⟩⟩⟩⟩
theorem rv_cml_7 : ∀ N ∈ [m_Model_came, m_Model_row, m_Model_gap, m_Model_result_IIJ, m_Model_aside, m_Model_take, m_Model_bound, m_Model_of, m_Model_mark, m_Model_window, m_Model_passInto, m_Model_isTaken, m_Model_edge, m_Model_pass, m_Model_passed, m_Model_count], rv_cm N := List.forall_mem_cons.mpr ⟨rv_cm_Model_came, List.forall_mem_cons.mpr ⟨rv_cm_Model_row, List.forall_mem_cons.mpr ⟨rv_cm_Model_gap, List.forall_mem_cons.mpr ⟨rv_cm_Model_result_IIJ, List.forall_mem_cons.mpr ⟨rv_cm_Model_aside, List.forall_mem_cons.mpr ⟨rv_cm_Model_take, List.forall_mem_cons.mpr ⟨rv_cm_Model_bound, List.forall_mem_cons.mpr ⟨rv_cm_Model_of, List.forall_mem_cons.mpr ⟨rv_cm_Model_mark, List.forall_mem_cons.mpr ⟨rv_cm_Model_window, List.forall_mem_cons.mpr ⟨rv_cm_Model_passInto, List.forall_mem_cons.mpr ⟨rv_cm_Model_isTaken, List.forall_mem_cons.mpr ⟨rv_cm_Model_edge, List.forall_mem_cons.mpr ⟨rv_cm_Model_pass, List.forall_mem_cons.mpr ⟨rv_cm_Model_passed, List.forall_mem_cons.mpr ⟨rv_cm_Model_count, fun _ h => absurd h List.not_mem_nil⟩⟩⟩⟩⟩⟩⟩⟩⟩⟩⟩⟩⟩⟩⟩⟩
theorem rv_cml_8 : ∀ N ∈ [m_Math_floorDiv, m_Math_max_III, m_Math_max_JJJ, m_Math_min_III, m_Math_min_JJJ], rv_cm N := List.forall_mem_cons.mpr ⟨rv_cm_Math_floorDiv, List.forall_mem_cons.mpr ⟨rv_cm_Math_max_III, List.forall_mem_cons.mpr ⟨rv_cm_Math_max_JJJ, List.forall_mem_cons.mpr ⟨rv_cm_Math_min_III, List.forall_mem_cons.mpr ⟨rv_cm_Math_min_JJJ, fun _ h => absurd h List.not_mem_nil⟩⟩⟩⟩⟩
def rv_cal : List rv_M := [m_Join_init, m_Join_start, m_Join_add, m_OnePass_init, m_OnePass_clear, m_OnePass_add, m_OnePass_get, m_OnePass_addToGaps, m_OnePass_addToGrid, m_OnePass_find, m_OnePass_open, m_OnePass_comeInto, m_Operator_init, m_Operator_hasReached, m_Operator_closes, m_Operator_firstBegin] ++ ([m_Ring_init, m_Ring_open, m_Ring_set, m_Ring_get, m_Ring_dropEldest, m_Ring_clear, m_Row_init, m_Row_standsAfter, m_RowLog_init, m_RowLog_add, m_RowLog_inOrder, m_Source_init, m_Source_noteRow, m_Tally_init, m_Tally_clear, m_Tally_copy] ++ ([m_Tally_add, m_Tally_addAll, m_Window_init, m_Window_start, m_Window_belongsTo, m_Window_standsBefore, m_WindowList_init, m_WindowList_at, m_WindowList_find, m_WindowList_has, m_WindowList_findOrOpen, m_WindowList_remove, m_WindowList_nextDue, m_WindowList_nextClosed, m_WindowList_gather, m_WindowList_endsBefore] ++ ([m_WindowList_holds, m_WindowList_placeOf, m_WindowList_open, m_Late_init, m_Late_operator, m_Late_source, m_Late_promise, m_Late_end, m_Late_row, m_Late_result, m_Late_aside, m_Late_take, m_Late_bound, m_Late_of, m_Late_mark, m_Late_window] ++ ([m_Late_pass, m_Late_passed, m_Late_count, m_Late_isWithin, m_Late_operatorAt, m_Late_sourceAt, m_Late_moveMark, m_Late_leastPromise, m_Late_tellAllDue, m_Late_letClosedGo, m_Late_tell, m_Late_keepResult, m_Late_judge, m_Late_judgeInGaps, m_Late_judgeInGrid, m_Late_layAside] ++ ([m_Late_keepAside, m_Late_countNewWindows, m_Late_useInGrid, m_Late_useInGaps, m_Late_takeBackJoined, m_Late_mergeJoined, m_Late_comeInto, m_Model_in, m_Model_down, m_Model_init, m_Model_isOp, m_Model_isSource, m_Model_operator, m_Model_source, m_Model_result_IIIJIIV, m_Model_tell] ++ ([m_Model_takeBack, m_Model_remove, m_Model_isAhead, m_Model_isClosed, m_Model_due, m_Model_moves, m_Model_promise, m_Model_end, m_Model_found, m_Model_made, m_Model_into, m_Model_follows, m_Model_meets, m_Model_joined, m_Model_beginOf, m_Model_putAside] ++ ([m_Model_came, m_Model_row, m_Model_gap, m_Model_result_IIJ, m_Model_aside, m_Model_take, m_Model_bound, m_Model_of, m_Model_mark, m_Model_window, m_Model_passInto, m_Model_isTaken, m_Model_edge, m_Model_pass, m_Model_passed, m_Model_count] ++ ([m_Math_floorDiv, m_Math_max_III, m_Math_max_JJJ, m_Math_min_III, m_Math_min_JJJ]))))))))
theorem rv_cal_cm : ∀ N ∈ rv_cal, rv_cm N := by
  unfold rv_cal
  exact List.forall_mem_append.mpr ⟨rv_cml_0, List.forall_mem_append.mpr ⟨rv_cml_1, List.forall_mem_append.mpr ⟨rv_cml_2, List.forall_mem_append.mpr ⟨rv_cml_3, List.forall_mem_append.mpr ⟨rv_cml_4, List.forall_mem_append.mpr ⟨rv_cml_5, List.forall_mem_append.mpr ⟨rv_cml_6, List.forall_mem_append.mpr ⟨rv_cml_7, rv_cml_8⟩⟩⟩⟩⟩⟩⟩⟩
set_option maxRecDepth 100000 in
theorem rv_all_cal : rv_all = rv_cal ++ [m_Law_law] := rfl
theorem rv_cm_all (a : Nat) (h : a < i_Law_law) : rv_cm (rv_md a) := by
  have hl : rv_cal.length = 133 := rfl
  have h1 : rv_nth rv_all a = rv_cal[a]? := by rw [rv_nth_eq, rv_all_cal, List.getElem?_append_left (by rw [hl]; exact h)]
  have h2 : a < rv_cal.length := by rw [hl]; exact h
  unfold rv_md
  rw [h1, List.getElem?_eq_getElem h2]
  exact rv_cal_cm _ (List.getElem_mem h2)
set_option maxRecDepth 100000 in
theorem rv_objw : rv_obj := ⟨rv_hasG_mem (p := 70) (by decide +kernel), rv_cmw (p := 71) rfl rfl⟩
