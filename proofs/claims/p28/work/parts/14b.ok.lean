set_option maxRecDepth 100000 in
theorem ok_Script_init : OkM 53 := okm_of (by decide +kernel)
set_option maxRecDepth 100000 in
theorem ok_Sight_init : OkM 54 := okm_of (by decide +kernel)
set_option maxRecDepth 100000 in
theorem ok_Sight_look : OkM 55 := okm_of (by decide +kernel)
set_option maxRecDepth 100000 in
theorem ok_Sight_bitOf : OkM 56 := okm_of (by decide +kernel)
set_option maxRecDepth 100000 in
theorem ok_Sight_colorAt : OkM 57 := okm_of (by decide +kernel)
set_option maxRecDepth 100000 in
theorem ok_Sight_dotsOnLine : OkM 58 := okm_of (by decide +kernel)
set_option maxRecDepth 100000 in
theorem ok_Sight_allDots : OkM 59 := okm_of (by decide +kernel)
set_option maxRecDepth 100000 in
theorem ok_Sight_clashesOn : OkM 60 := okm_of (by decide +kernel)
set_option maxRecDepth 100000 in
theorem ok_Sight_allClashes : OkM 61 := okm_of (by decide +kernel)
set_option maxRecDepth 100000 in
theorem ok_Sight_firstClash : OkM 62 := okm_of (by decide +kernel)
set_option maxRecDepth 100000 in
theorem ok_Sight_firstColumn : OkM 63 := okm_of (by decide +kernel)
set_option maxRecDepth 100000 in
theorem ok_Sight_firstOther : OkM 64 := okm_of (by decide +kernel)
set_option maxRecDepth 100000 in
theorem ok_Steps_init : OkM 65 := okm_of (by decide +kernel)
set_option maxRecDepth 100000 in
theorem ok_Surv_init : OkM 66 := okm_of (by decide +kernel)
set_option maxRecDepth 100000 in
theorem ok_Surv_look : OkM 67 := okm_of (by decide +kernel)
set_option maxRecDepth 100000 in
theorem ok_Surv_isHidden : OkM 68 := okm_of (by decide +kernel)
set_option maxRecDepth 100000 in
theorem ok_Surv_hiddenPuppets : OkM 69 := okm_of (by decide +kernel)
set_option maxRecDepth 100000 in
theorem ok_Surv_hiddenBits : OkM 70 := okm_of (by decide +kernel)
set_option maxRecDepth 100000 in
theorem ok_Surv_lineWithMostHidden : OkM 71 := okm_of (by decide +kernel)
set_option maxRecDepth 100000 in
theorem ok_P_init : OkM 72 := okm_of (by decide +kernel)
set_option maxRecDepth 100000 in
theorem ok_P_setRow : OkM 73 := okm_of (by decide +kernel)
set_option maxRecDepth 100000 in
theorem ok_P_come : OkM 74 := okm_of (by decide +kernel)
set_option maxRecDepth 100000 in
theorem ok_P_leave : OkM 75 := okm_of (by decide +kernel)
set_option maxRecDepth 100000 in
theorem ok_P_move : OkM 76 := okm_of (by decide +kernel)
set_option maxRecDepth 100000 in
theorem ok_P_turn : OkM 77 := okm_of (by decide +kernel)
set_option maxRecDepth 100000 in
theorem ok_P_lift : OkM 78 := okm_of (by decide +kernel)
set_option maxRecDepth 100000 in
theorem ok_P_lower : OkM 79 := okm_of (by decide +kernel)
set_option maxRecDepth 100000 in
theorem ok_P_setLimit : OkM 80 := okm_of (by decide +kernel)
set_option maxRecDepth 100000 in
theorem ok_P_setRule : OkM 81 := okm_of (by decide +kernel)
set_option maxRecDepth 100000 in
theorem ok_P_frame : OkM 82 := okm_of (by decide +kernel)
set_option maxRecDepth 100000 in
theorem ok_P_undo : OkM 83 := okm_of (by decide +kernel)
set_option maxRecDepth 100000 in
theorem ok_P_failure : OkM 84 := okm_of (by decide +kernel)
set_option maxRecDepth 100000 in
theorem ok_P_count : OkM 85 := okm_of (by decide +kernel)
set_option maxRecDepth 100000 in
theorem ok_P_puppet : OkM 86 := okm_of (by decide +kernel)
set_option maxRecDepth 100000 in
theorem ok_P_line : OkM 87 := okm_of (by decide +kernel)
set_option maxRecDepth 100000 in
theorem ok_P_shown : OkM 88 := okm_of (by decide +kernel)
set_option maxRecDepth 100000 in
theorem ok_P_dot : OkM 89 := okm_of (by decide +kernel)
set_option maxRecDepth 100000 in
theorem ok_P_clash : OkM 90 := okm_of (by decide +kernel)
set_option maxRecDepth 100000 in
theorem ok_P_hiddenIn : OkM 91 := okm_of (by decide +kernel)
set_option maxRecDepth 100000 in
theorem ok_P_allShownIn : OkM 92 := okm_of (by decide +kernel)
set_option maxRecDepth 100000 in
theorem ok_P_bestStep : OkM 93 := okm_of (by decide +kernel)
set_option maxRecDepth 100000 in
theorem ok_P_worstLine : OkM 94 := okm_of (by decide +kernel)
set_option maxRecDepth 100000 in
theorem ok_P_within : OkM 95 := okm_of (by decide +kernel)
set_option maxRecDepth 100000 in
theorem ok_P_recorded : OkM 96 := okm_of (by decide +kernel)
set_option maxRecDepth 100000 in
theorem ok_J_bitCount : OkM 97 := okm_of (by decide +kernel)
set_option maxRecDepth 100000 in
theorem ok_J_max : OkM 98 := okm_of (by decide +kernel)
set_option maxRecDepth 100000 in
theorem ok_J_min : OkM 99 := okm_of (by decide +kernel)
set_option maxRecDepth 100000 in
theorem ok_L_cell : OkM 100 := okm_of (by decide +kernel)
set_option maxRecDepth 100000 in
theorem ok_L_low : OkM 101 := okm_of (by decide +kernel)
set_option maxRecDepth 100000 in
theorem ok_L_digest : OkM 102 := okm_of (by decide +kernel)
set_option maxRecDepth 100000 in
theorem ok_L_there : OkM 103 := okm_of (by decide +kernel)
set_option maxRecDepth 100000 in
theorem ok_L_act : OkM 104 := okm_of (by decide +kernel)
set_option maxRecDepth 100000 in
theorem ok_L_addsUp : OkM 105 := okm_of (by decide +kernel)
set_option maxRecDepth 100000 in
theorem ok_L_isLine : OkM 106 := okm_of (by decide +kernel)
