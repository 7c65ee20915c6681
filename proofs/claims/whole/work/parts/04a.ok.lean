set_option maxRecDepth 100000 in
theorem ok_Cells_init : OkM 0 := okm_of (by decide +kernel)
set_option maxRecDepth 100000 in
theorem ok_Cells_get1 : OkM 1 := okm_of (by decide +kernel)
set_option maxRecDepth 100000 in
theorem ok_Cells_get2 : OkM 2 := okm_of (by decide +kernel)
set_option maxRecDepth 100000 in
theorem ok_Cells_set2 : OkM 3 := okm_of (by decide +kernel)
set_option maxRecDepth 100000 in
theorem ok_Cells_set3 : OkM 4 := okm_of (by decide +kernel)
set_option maxRecDepth 100000 in
theorem ok_Cells_add : OkM 5 := okm_of (by decide +kernel)
set_option maxRecDepth 100000 in
theorem ok_Cells_fill : OkM 6 := okm_of (by decide +kernel)
set_option maxRecDepth 100000 in
theorem ok_Cells_copyFrom : OkM 7 := okm_of (by decide +kernel)
set_option maxRecDepth 100000 in
theorem ok_Fail_init : OkM 8 := okm_of (by decide +kernel)
set_option maxRecDepth 100000 in
theorem ok_Fail_set : OkM 9 := okm_of (by decide +kernel)
set_option maxRecDepth 100000 in
theorem ok_Fail_part : OkM 10 := okm_of (by decide +kernel)
set_option maxRecDepth 100000 in
theorem ok_Fore_init : OkM 11 := okm_of (by decide +kernel)
set_option maxRecDepth 100000 in
theorem ok_Fore_hiddenSince : OkM 12 := okm_of (by decide +kernel)
set_option maxRecDepth 100000 in
theorem ok_Fore_hiddenFrames : OkM 13 := okm_of (by decide +kernel)
set_option maxRecDepth 100000 in
theorem ok_Fore_framesUntilAllShown : OkM 14 := okm_of (by decide +kernel)
set_option maxRecDepth 100000 in
theorem ok_Fore_allShownWithin : OkM 15 := okm_of (by decide +kernel)
set_option maxRecDepth 100000 in
theorem ok_Fore_findStep : OkM 16 := okm_of (by decide +kernel)
set_option maxRecDepth 100000 in
theorem ok_Fore_noteHiddenByTurns : OkM 17 := okm_of (by decide +kernel)
set_option maxRecDepth 100000 in
theorem ok_Fore_greatestWith : OkM 18 := okm_of (by decide +kernel)
set_option maxRecDepth 100000 in
theorem ok_Fore_framesHidden : OkM 19 := okm_of (by decide +kernel)
set_option maxRecDepth 100000 in
theorem ok_Hist_init : OkM 20 := okm_of (by decide +kernel)
set_option maxRecDepth 100000 in
theorem ok_Hist_newestSlot : OkM 21 := okm_of (by decide +kernel)
set_option maxRecDepth 100000 in
theorem ok_Hist_record : OkM 22 := okm_of (by decide +kernel)
set_option maxRecDepth 100000 in
theorem ok_Hist_restore : OkM 23 := okm_of (by decide +kernel)
set_option maxRecDepth 100000 in
theorem ok_Read_init : OkM 24 := okm_of (by decide +kernel)
set_option maxRecDepth 100000 in
theorem ok_Read_read : OkM 25 := okm_of (by decide +kernel)
set_option maxRecDepth 100000 in
theorem ok_Read_fail : OkM 26 := okm_of (by decide +kernel)
set_option maxRecDepth 100000 in
theorem ok_Read_readNext : OkM 27 := okm_of (by decide +kernel)
set_option maxRecDepth 100000 in
theorem ok_Read_isDigit : OkM 28 := okm_of (by decide +kernel)
set_option maxRecDepth 100000 in
theorem ok_Read_readRepeatedGroup : OkM 29 := okm_of (by decide +kernel)
set_option maxRecDepth 100000 in
theorem ok_Read_openGroup : OkM 30 := okm_of (by decide +kernel)
set_option maxRecDepth 100000 in
theorem ok_Read_closeGroup : OkM 31 := okm_of (by decide +kernel)
set_option maxRecDepth 100000 in
theorem ok_Read_readAct : OkM 32 := okm_of (by decide +kernel)
set_option maxRecDepth 100000 in
theorem ok_Read_numbersOf : OkM 33 := okm_of (by decide +kernel)
set_option maxRecDepth 100000 in
theorem ok_Read_expect : OkM 34 := okm_of (by decide +kernel)
set_option maxRecDepth 100000 in
theorem ok_Read_readNumber : OkM 35 := okm_of (by decide +kernel)
set_option maxRecDepth 100000 in
theorem ok_Scene_init : OkM 36 := okm_of (by decide +kernel)
set_option maxRecDepth 100000 in
theorem ok_Scene_copyFrom : OkM 37 := okm_of (by decide +kernel)
set_option maxRecDepth 100000 in
theorem ok_Scene_position : OkM 38 := okm_of (by decide +kernel)
set_option maxRecDepth 100000 in
theorem ok_Scene_exists : OkM 39 := okm_of (by decide +kernel)
set_option maxRecDepth 100000 in
theorem ok_Scene_hero : OkM 40 := okm_of (by decide +kernel)
set_option maxRecDepth 100000 in
theorem ok_Scene_firstLine : OkM 41 := okm_of (by decide +kernel)
set_option maxRecDepth 100000 in
theorem ok_Scene_lastLine : OkM 42 := okm_of (by decide +kernel)
set_option maxRecDepth 100000 in
theorem ok_Scene_linesOf : OkM 43 := okm_of (by decide +kernel)
set_option maxRecDepth 100000 in
theorem ok_Scene_standsOn : OkM 44 := okm_of (by decide +kernel)
set_option maxRecDepth 100000 in
theorem ok_Scene_dotsOn : OkM 45 := okm_of (by decide +kernel)
set_option maxRecDepth 100000 in
theorem ok_Scene_mirrored : OkM 46 := okm_of (by decide +kernel)
set_option maxRecDepth 100000 in
theorem ok_Scene_placed : OkM 47 := okm_of (by decide +kernel)
set_option maxRecDepth 100000 in
theorem ok_Scene_redraw : OkM 48 := okm_of (by decide +kernel)
set_option maxRecDepth 100000 in
theorem ok_Scene_isPlace : OkM 49 := okm_of (by decide +kernel)
set_option maxRecDepth 100000 in
theorem ok_Scene_admit : OkM 50 := okm_of (by decide +kernel)
set_option maxRecDepth 100000 in
theorem ok_Scene_dismiss : OkM 51 := okm_of (by decide +kernel)
set_option maxRecDepth 100000 in
theorem ok_Scene_relocate : OkM 52 := okm_of (by decide +kernel)
set_option maxRecDepth 100000 in
theorem ok_Scene_flip : OkM 53 := okm_of (by decide +kernel)
set_option maxRecDepth 100000 in
theorem ok_Scene_putFirst : OkM 54 := okm_of (by decide +kernel)
set_option maxRecDepth 100000 in
theorem ok_Scene_putLast : OkM 55 := okm_of (by decide +kernel)
set_option maxRecDepth 100000 in
theorem ok_Scene_putAt : OkM 56 := okm_of (by decide +kernel)
set_option maxRecDepth 100000 in
theorem ok_Scene_shiftInOrder : OkM 57 := okm_of (by decide +kernel)
set_option maxRecDepth 100000 in
theorem ok_Scene_changeLimit : OkM 58 := okm_of (by decide +kernel)
set_option maxRecDepth 100000 in
theorem ok_Scene_changeRule : OkM 59 := okm_of (by decide +kernel)
set_option maxRecDepth 100000 in
theorem ok_Scene_makeFrame : OkM 60 := okm_of (by decide +kernel)
set_option maxRecDepth 100000 in
theorem ok_Scene_countHidden : OkM 61 := okm_of (by decide +kernel)
set_option maxRecDepth 100000 in
theorem ok_Scene_rotate : OkM 62 := okm_of (by decide +kernel)
set_option maxRecDepth 100000 in
theorem ok_Scene_bringHidden : OkM 63 := okm_of (by decide +kernel)
set_option maxRecDepth 100000 in
theorem ok_Sched_init : OkM 64 := okm_of (by decide +kernel)
set_option maxRecDepth 100000 in
theorem ok_Sched_unroll : OkM 65 := okm_of (by decide +kernel)
set_option maxRecDepth 100000 in
theorem ok_Sched_take : OkM 66 := okm_of (by decide +kernel)
set_option maxRecDepth 100000 in
theorem ok_Sched_takeClosing : OkM 67 := okm_of (by decide +kernel)
set_option maxRecDepth 100000 in
theorem ok_Sched_plan : OkM 68 := okm_of (by decide +kernel)
set_option maxRecDepth 100000 in
theorem ok_Script_init : OkM 69 := okm_of (by decide +kernel)
set_option maxRecDepth 100000 in
theorem ok_Script_add : OkM 70 := okm_of (by decide +kernel)
set_option maxRecDepth 100000 in
theorem ok_Script_at : OkM 71 := okm_of (by decide +kernel)
set_option maxRecDepth 100000 in
theorem ok_Sight_init : OkM 72 := okm_of (by decide +kernel)
set_option maxRecDepth 100000 in
theorem ok_Sight_look : OkM 73 := okm_of (by decide +kernel)
set_option maxRecDepth 100000 in
theorem ok_Sight_bitOf : OkM 74 := okm_of (by decide +kernel)
set_option maxRecDepth 100000 in
theorem ok_Sight_colorAt : OkM 75 := okm_of (by decide +kernel)
set_option maxRecDepth 100000 in
theorem ok_Sight_dotsOnLine : OkM 76 := okm_of (by decide +kernel)
set_option maxRecDepth 100000 in
theorem ok_Sight_allDots : OkM 77 := okm_of (by decide +kernel)
set_option maxRecDepth 100000 in
theorem ok_Sight_clashesOn : OkM 78 := okm_of (by decide +kernel)
set_option maxRecDepth 100000 in
theorem ok_Sight_allClashes : OkM 79 := okm_of (by decide +kernel)
set_option maxRecDepth 100000 in
theorem ok_Sight_firstClash : OkM 80 := okm_of (by decide +kernel)
set_option maxRecDepth 100000 in
theorem ok_Sight_firstColumn : OkM 81 := okm_of (by decide +kernel)
set_option maxRecDepth 100000 in
theorem ok_Sight_firstOther : OkM 82 := okm_of (by decide +kernel)
set_option maxRecDepth 100000 in
theorem ok_Steps_init : OkM 83 := okm_of (by decide +kernel)
set_option maxRecDepth 100000 in
theorem ok_Steps_add : OkM 84 := okm_of (by decide +kernel)
set_option maxRecDepth 100000 in
theorem ok_Surv_init : OkM 85 := okm_of (by decide +kernel)
set_option maxRecDepth 100000 in
theorem ok_Surv_look : OkM 86 := okm_of (by decide +kernel)
set_option maxRecDepth 100000 in
theorem ok_Surv_isHidden : OkM 87 := okm_of (by decide +kernel)
set_option maxRecDepth 100000 in
theorem ok_Surv_hiddenPuppets : OkM 88 := okm_of (by decide +kernel)
set_option maxRecDepth 100000 in
theorem ok_Surv_hiddenBits : OkM 89 := okm_of (by decide +kernel)
set_option maxRecDepth 100000 in
theorem ok_Surv_lineWithMostHidden : OkM 90 := okm_of (by decide +kernel)
set_option maxRecDepth 100000 in
theorem ok_P_init : OkM 91 := okm_of (by decide +kernel)
set_option maxRecDepth 100000 in
theorem ok_P_setRow : OkM 92 := okm_of (by decide +kernel)
set_option maxRecDepth 100000 in
theorem ok_P_come : OkM 93 := okm_of (by decide +kernel)
set_option maxRecDepth 100000 in
theorem ok_P_leave : OkM 94 := okm_of (by decide +kernel)
set_option maxRecDepth 100000 in
theorem ok_P_move : OkM 95 := okm_of (by decide +kernel)
set_option maxRecDepth 100000 in
theorem ok_P_turn : OkM 96 := okm_of (by decide +kernel)
set_option maxRecDepth 100000 in
theorem ok_P_lift : OkM 97 := okm_of (by decide +kernel)
set_option maxRecDepth 100000 in
theorem ok_P_lower : OkM 98 := okm_of (by decide +kernel)
set_option maxRecDepth 100000 in
theorem ok_P_setLimit : OkM 99 := okm_of (by decide +kernel)
set_option maxRecDepth 100000 in
theorem ok_P_setRule : OkM 100 := okm_of (by decide +kernel)
set_option maxRecDepth 100000 in
theorem ok_P_frame : OkM 101 := okm_of (by decide +kernel)
