set_option maxRecDepth 100000 in
theorem ok_Cells_init : OkM 0 := okm_of (by decide +kernel)
set_option maxRecDepth 100000 in
theorem ok_Cells_get1 : OkM 1 := okm_of (by decide +kernel)
set_option maxRecDepth 100000 in
theorem ok_Cells_get2 : OkM 2 := okm_of (by decide +kernel)
set_option maxRecDepth 100000 in
theorem ok_Cells_set2 : OkM 3 := okm_of (by decide +kernel)
set_option maxRecDepth 100000 in
theorem ok_Cells_set3 : OkM 4 := okm_of (by decide +kernel)
set_option maxRecDepth 100000 in
theorem ok_Cells_add : OkM 5 := okm_of (by decide +kernel)
set_option maxRecDepth 100000 in
theorem ok_Cells_fill : OkM 6 := okm_of (by decide +kernel)
set_option maxRecDepth 100000 in
theorem ok_Cells_copyFrom : OkM 7 := okm_of (by decide +kernel)
set_option maxRecDepth 100000 in
theorem ok_Fail_init : OkM 8 := okm_of (by decide +kernel)
set_option maxRecDepth 100000 in
theorem ok_Fail_part : OkM 9 := okm_of (by decide +kernel)
set_option maxRecDepth 100000 in
theorem ok_Fore_init : OkM 10 := okm_of (by decide +kernel)
set_option maxRecDepth 100000 in
theorem ok_Fore_hiddenSince : OkM 11 := okm_of (by decide +kernel)
set_option maxRecDepth 100000 in
theorem ok_Fore_hiddenFrames : OkM 12 := okm_of (by decide +kernel)
set_option maxRecDepth 100000 in
theorem ok_Fore_framesUntilAllShown : OkM 13 := okm_of (by decide +kernel)
set_option maxRecDepth 100000 in
theorem ok_Fore_allShownWithin : OkM 14 := okm_of (by decide +kernel)
set_option maxRecDepth 100000 in
theorem ok_Fore_findStep : OkM 15 := okm_of (by decide +kernel)
set_option maxRecDepth 100000 in
theorem ok_Fore_noteHiddenByTurns : OkM 16 := okm_of (by decide +kernel)
set_option maxRecDepth 100000 in
theorem ok_Fore_greatestWith : OkM 17 := okm_of (by decide +kernel)
set_option maxRecDepth 100000 in
theorem ok_Fore_framesHidden : OkM 18 := okm_of (by decide +kernel)
set_option maxRecDepth 100000 in
theorem ok_Hist_init : OkM 19 := okm_of (by decide +kernel)
set_option maxRecDepth 100000 in
theorem ok_Hist_newestSlot : OkM 20 := okm_of (by decide +kernel)
set_option maxRecDepth 100000 in
theorem ok_Hist_record : OkM 21 := okm_of (by decide +kernel)
set_option maxRecDepth 100000 in
theorem ok_Hist_restore : OkM 22 := okm_of (by decide +kernel)
set_option maxRecDepth 100000 in
theorem ok_Read_init : OkM 23 := okm_of (by decide +kernel)
set_option maxRecDepth 100000 in
theorem ok_Scene_init : OkM 24 := okm_of (by decide +kernel)
set_option maxRecDepth 100000 in
theorem ok_Scene_copyFrom : OkM 25 := okm_of (by decide +kernel)
set_option maxRecDepth 100000 in
theorem ok_Scene_position : OkM 26 := okm_of (by decide +kernel)
set_option maxRecDepth 100000 in
theorem ok_Scene_exists : OkM 27 := okm_of (by decide +kernel)
set_option maxRecDepth 100000 in
theorem ok_Scene_hero : OkM 28 := okm_of (by decide +kernel)
set_option maxRecDepth 100000 in
theorem ok_Scene_firstLine : OkM 29 := okm_of (by decide +kernel)
set_option maxRecDepth 100000 in
theorem ok_Scene_lastLine : OkM 30 := okm_of (by decide +kernel)
set_option maxRecDepth 100000 in
theorem ok_Scene_linesOf : OkM 31 := okm_of (by decide +kernel)
set_option maxRecDepth 100000 in
theorem ok_Scene_standsOn : OkM 32 := okm_of (by decide +kernel)
set_option maxRecDepth 100000 in
theorem ok_Scene_dotsOn : OkM 33 := okm_of (by decide +kernel)
set_option maxRecDepth 100000 in
theorem ok_Scene_mirrored : OkM 34 := okm_of (by decide +kernel)
set_option maxRecDepth 100000 in
theorem ok_Scene_placed : OkM 35 := okm_of (by decide +kernel)
set_option maxRecDepth 100000 in
theorem ok_Scene_redraw : OkM 36 := okm_of (by decide +kernel)
set_option maxRecDepth 100000 in
theorem ok_Scene_isPlace : OkM 37 := okm_of (by decide +kernel)
set_option maxRecDepth 100000 in
theorem ok_Scene_admit : OkM 38 := okm_of (by decide +kernel)
set_option maxRecDepth 100000 in
theorem ok_Scene_dismiss : OkM 39 := okm_of (by decide +kernel)
set_option maxRecDepth 100000 in
theorem ok_Scene_relocate : OkM 40 := okm_of (by decide +kernel)
set_option maxRecDepth 100000 in
theorem ok_Scene_flip : OkM 41 := okm_of (by decide +kernel)
set_option maxRecDepth 100000 in
theorem ok_Scene_putFirst : OkM 42 := okm_of (by decide +kernel)
set_option maxRecDepth 100000 in
theorem ok_Scene_putLast : OkM 43 := okm_of (by decide +kernel)
set_option maxRecDepth 100000 in
theorem ok_Scene_putAt : OkM 44 := okm_of (by decide +kernel)
set_option maxRecDepth 100000 in
theorem ok_Scene_shiftInOrder : OkM 45 := okm_of (by decide +kernel)
set_option maxRecDepth 100000 in
theorem ok_Scene_changeLimit : OkM 46 := okm_of (by decide +kernel)
set_option maxRecDepth 100000 in
theorem ok_Scene_changeRule : OkM 47 := okm_of (by decide +kernel)
set_option maxRecDepth 100000 in
theorem ok_Scene_makeFrame : OkM 48 := okm_of (by decide +kernel)
set_option maxRecDepth 100000 in
theorem ok_Scene_countHidden : OkM 49 := okm_of (by decide +kernel)
set_option maxRecDepth 100000 in
theorem ok_Scene_rotate : OkM 50 := okm_of (by decide +kernel)
set_option maxRecDepth 100000 in
theorem ok_Scene_bringHidden : OkM 51 := okm_of (by decide +kernel)
set_option maxRecDepth 100000 in
theorem ok_Sched_init : OkM 52 := okm_of (by decide +kernel)
