set_option maxRecDepth 100000 in
theorem ok_P_undo : OkM 102 := okm_of (by decide +kernel)
set_option maxRecDepth 100000 in
theorem ok_P_append : OkM 103 := okm_of (by decide +kernel)
set_option maxRecDepth 100000 in
theorem ok_P_clearText : OkM 104 := okm_of (by decide +kernel)
set_option maxRecDepth 100000 in
theorem ok_P_run : OkM 105 := okm_of (by decide +kernel)
set_option maxRecDepth 100000 in
theorem ok_P_failure : OkM 106 := okm_of (by decide +kernel)
set_option maxRecDepth 100000 in
theorem ok_P_count : OkM 107 := okm_of (by decide +kernel)
set_option maxRecDepth 100000 in
theorem ok_P_puppet : OkM 108 := okm_of (by decide +kernel)
set_option maxRecDepth 100000 in
theorem ok_P_line : OkM 109 := okm_of (by decide +kernel)
set_option maxRecDepth 100000 in
theorem ok_P_shown : OkM 110 := okm_of (by decide +kernel)
set_option maxRecDepth 100000 in
theorem ok_P_dot : OkM 111 := okm_of (by decide +kernel)
set_option maxRecDepth 100000 in
theorem ok_P_clash : OkM 112 := okm_of (by decide +kernel)
set_option maxRecDepth 100000 in
theorem ok_P_hiddenIn : OkM 113 := okm_of (by decide +kernel)
set_option maxRecDepth 100000 in
theorem ok_P_allShownIn : OkM 114 := okm_of (by decide +kernel)
set_option maxRecDepth 100000 in
theorem ok_P_bestStep : OkM 115 := okm_of (by decide +kernel)
set_option maxRecDepth 100000 in
theorem ok_P_worstLine : OkM 116 := okm_of (by decide +kernel)
set_option maxRecDepth 100000 in
theorem ok_P_within : OkM 117 := okm_of (by decide +kernel)
set_option maxRecDepth 100000 in
theorem ok_P_recorded : OkM 118 := okm_of (by decide +kernel)
set_option maxRecDepth 100000 in
theorem ok_P_performAll : OkM 119 := okm_of (by decide +kernel)
set_option maxRecDepth 100000 in
theorem ok_P_perform : OkM 120 := okm_of (by decide +kernel)
set_option maxRecDepth 100000 in
theorem ok_P_failedAt : OkM 121 := okm_of (by decide +kernel)
set_option maxRecDepth 100000 in
theorem ok_M_init : OkM 122 := okm_of (by decide +kernel)
set_option maxRecDepth 100000 in
theorem ok_M_in : OkM 123 := okm_of (by decide +kernel)
set_option maxRecDepth 100000 in
theorem ok_M_act : OkM 124 := okm_of (by decide +kernel)
set_option maxRecDepth 100000 in
theorem ok_M_of : OkM 125 := okm_of (by decide +kernel)
set_option maxRecDepth 100000 in
theorem ok_M_put : OkM 126 := okm_of (by decide +kernel)
set_option maxRecDepth 100000 in
theorem ok_M_positionOf : OkM 127 := okm_of (by decide +kernel)
set_option maxRecDepth 100000 in
theorem ok_M_isThere : OkM 128 := okm_of (by decide +kernel)
set_option maxRecDepth 100000 in
theorem ok_M_isPlace : OkM 129 := okm_of (by decide +kernel)
set_option maxRecDepth 100000 in
theorem ok_M_highOf : OkM 130 := okm_of (by decide +kernel)
set_option maxRecDepth 100000 in
theorem ok_M_stands : OkM 131 := okm_of (by decide +kernel)
set_option maxRecDepth 100000 in
theorem ok_M_linesOf : OkM 132 := okm_of (by decide +kernel)
set_option maxRecDepth 100000 in
theorem ok_M_hidden : OkM 133 := okm_of (by decide +kernel)
set_option maxRecDepth 100000 in
theorem ok_M_ones : OkM 134 := okm_of (by decide +kernel)
set_option maxRecDepth 100000 in
theorem ok_M_standing : OkM 135 := okm_of (by decide +kernel)
set_option maxRecDepth 100000 in
theorem ok_M_shownOn : OkM 136 := okm_of (by decide +kernel)
set_option maxRecDepth 100000 in
theorem ok_M_isSet : OkM 137 := okm_of (by decide +kernel)
set_option maxRecDepth 100000 in
theorem ok_M_firstAt : OkM 138 := okm_of (by decide +kernel)
set_option maxRecDepth 100000 in
theorem ok_M_colorAt : OkM 139 := okm_of (by decide +kernel)
set_option maxRecDepth 100000 in
theorem ok_M_dotsOn : OkM 140 := okm_of (by decide +kernel)
set_option maxRecDepth 100000 in
theorem ok_M_hero : OkM 141 := okm_of (by decide +kernel)
set_option maxRecDepth 100000 in
theorem ok_M_isShown : OkM 142 := okm_of (by decide +kernel)
set_option maxRecDepth 100000 in
theorem ok_M_setRow : OkM 143 := okm_of (by decide +kernel)
set_option maxRecDepth 100000 in
theorem ok_M_come : OkM 144 := okm_of (by decide +kernel)
set_option maxRecDepth 100000 in
theorem ok_M_takeOut : OkM 145 := okm_of (by decide +kernel)
set_option maxRecDepth 100000 in
theorem ok_M_leave : OkM 146 := okm_of (by decide +kernel)
set_option maxRecDepth 100000 in
theorem ok_M_thereCode : OkM 147 := okm_of (by decide +kernel)
set_option maxRecDepth 100000 in
theorem ok_M_moveCode : OkM 148 := okm_of (by decide +kernel)
set_option maxRecDepth 100000 in
theorem ok_M_moveNow : OkM 149 := okm_of (by decide +kernel)
set_option maxRecDepth 100000 in
theorem ok_M_move : OkM 150 := okm_of (by decide +kernel)
set_option maxRecDepth 100000 in
theorem ok_M_turnCode : OkM 151 := okm_of (by decide +kernel)
set_option maxRecDepth 100000 in
theorem ok_M_turnNow : OkM 152 := okm_of (by decide +kernel)
set_option maxRecDepth 100000 in
theorem ok_M_turn : OkM 153 := okm_of (by decide +kernel)
set_option maxRecDepth 100000 in
theorem ok_M_liftNow : OkM 154 := okm_of (by decide +kernel)
set_option maxRecDepth 100000 in
theorem ok_M_lift : OkM 155 := okm_of (by decide +kernel)
set_option maxRecDepth 100000 in
theorem ok_M_lowerNow : OkM 156 := okm_of (by decide +kernel)
set_option maxRecDepth 100000 in
theorem ok_M_lower : OkM 157 := okm_of (by decide +kernel)
set_option maxRecDepth 100000 in
theorem ok_M_limitCode : OkM 158 := okm_of (by decide +kernel)
set_option maxRecDepth 100000 in
theorem ok_M_limitNow : OkM 159 := okm_of (by decide +kernel)
set_option maxRecDepth 100000 in
theorem ok_M_setLimit : OkM 160 := okm_of (by decide +kernel)
set_option maxRecDepth 100000 in
theorem ok_M_setRule : OkM 161 := okm_of (by decide +kernel)
set_option maxRecDepth 100000 in
theorem ok_M_takeTurn : OkM 162 := okm_of (by decide +kernel)
set_option maxRecDepth 100000 in
theorem ok_M_frameCode : OkM 163 := okm_of (by decide +kernel)
set_option maxRecDepth 100000 in
theorem ok_M_frameNow : OkM 164 := okm_of (by decide +kernel)
set_option maxRecDepth 100000 in
theorem ok_M_frame : OkM 165 := okm_of (by decide +kernel)
set_option maxRecDepth 100000 in
theorem ok_M_undo : OkM 166 := okm_of (by decide +kernel)
set_option maxRecDepth 100000 in
theorem ok_M_append : OkM 167 := okm_of (by decide +kernel)
set_option maxRecDepth 100000 in
theorem ok_M_clearText : OkM 168 := okm_of (by decide +kernel)
set_option maxRecDepth 100000 in
theorem ok_M_at : OkM 169 := okm_of (by decide +kernel)
set_option maxRecDepth 100000 in
theorem ok_M_isDigit : OkM 170 := okm_of (by decide +kernel)
set_option maxRecDepth 100000 in
theorem ok_M_fail : OkM 171 := okm_of (by decide +kernel)
set_option maxRecDepth 100000 in
theorem ok_M_wrong : OkM 172 := okm_of (by decide +kernel)
set_option maxRecDepth 100000 in
theorem ok_M_number : OkM 173 := okm_of (by decide +kernel)
set_option maxRecDepth 100000 in
theorem ok_M_code : OkM 174 := okm_of (by decide +kernel)
set_option maxRecDepth 100000 in
theorem ok_M_numbersOf : OkM 175 := okm_of (by decide +kernel)
set_option maxRecDepth 100000 in
theorem ok_M_readAct : OkM 176 := okm_of (by decide +kernel)
set_option maxRecDepth 100000 in
theorem ok_M_readGroup : OkM 177 := okm_of (by decide +kernel)
set_option maxRecDepth 100000 in
theorem ok_M_readOne : OkM 178 := okm_of (by decide +kernel)
set_option maxRecDepth 100000 in
theorem ok_M_readPlay : OkM 179 := okm_of (by decide +kernel)
set_option maxRecDepth 100000 in
theorem ok_M_codeOf : OkM 180 := okm_of (by decide +kernel)
set_option maxRecDepth 100000 in
theorem ok_M_carry : OkM 181 := okm_of (by decide +kernel)
set_option maxRecDepth 100000 in
theorem ok_M_runAct : OkM 182 := okm_of (by decide +kernel)
set_option maxRecDepth 100000 in
theorem ok_M_runPlay : OkM 183 := okm_of (by decide +kernel)
set_option maxRecDepth 100000 in
theorem ok_M_run : OkM 184 := okm_of (by decide +kernel)
set_option maxRecDepth 100000 in
theorem ok_M_failure : OkM 185 := okm_of (by decide +kernel)
set_option maxRecDepth 100000 in
theorem ok_M_allDots : OkM 186 := okm_of (by decide +kernel)
set_option maxRecDepth 100000 in
theorem ok_M_count : OkM 187 := okm_of (by decide +kernel)
set_option maxRecDepth 100000 in
theorem ok_M_hiddenLinesOf : OkM 188 := okm_of (by decide +kernel)
set_option maxRecDepth 100000 in
theorem ok_M_puppet : OkM 189 := okm_of (by decide +kernel)
set_option maxRecDepth 100000 in
theorem ok_M_line : OkM 190 := okm_of (by decide +kernel)
set_option maxRecDepth 100000 in
theorem ok_M_shown : OkM 191 := okm_of (by decide +kernel)
set_option maxRecDepth 100000 in
theorem ok_M_dot : OkM 192 := okm_of (by decide +kernel)
set_option maxRecDepth 100000 in
theorem ok_M_clashing : OkM 193 := okm_of (by decide +kernel)
set_option maxRecDepth 100000 in
theorem ok_M_clash : OkM 194 := okm_of (by decide +kernel)
set_option maxRecDepth 100000 in
theorem ok_M_beginTrial : OkM 195 := okm_of (by decide +kernel)
set_option maxRecDepth 100000 in
theorem ok_M_tryFrame : OkM 196 := okm_of (by decide +kernel)
set_option maxRecDepth 100000 in
theorem ok_M_hiddenIn : OkM 197 := okm_of (by decide +kernel)
set_option maxRecDepth 100000 in
theorem ok_M_allShownIn : OkM 198 := okm_of (by decide +kernel)
set_option maxRecDepth 100000 in
theorem ok_M_greatestBy : OkM 199 := okm_of (by decide +kernel)
set_option maxRecDepth 100000 in
theorem ok_M_bestStep : OkM 200 := okm_of (by decide +kernel)
set_option maxRecDepth 100000 in
theorem ok_M_worstLine : OkM 201 := okm_of (by decide +kernel)
set_option maxRecDepth 100000 in
theorem ok_J_bitCount : OkM 202 := okm_of (by decide +kernel)
set_option maxRecDepth 100000 in
theorem ok_J_max : OkM 203 := okm_of (by decide +kernel)
set_option maxRecDepth 100000 in
theorem ok_J_min : OkM 204 := okm_of (by decide +kernel)
