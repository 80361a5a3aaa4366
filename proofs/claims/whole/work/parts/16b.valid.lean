/-! The code tables fit (printed by wip/whole/gen15.py). -/
set_option maxRecDepth 100000 in
theorem vX6_roll : ∀ pc, am_chk mX6_roll pc (am_lk am_ce0 kX6_roll pc) = true := am_vld_ok (n := 125) (by decide +kernel)
set_option maxRecDepth 100000 in
theorem vX6_bumpAll : ∀ pc, am_chk mX6_bumpAll pc (am_lk am_ce0 kX6_bumpAll pc) = true := am_vld_ok (n := 144) (by decide +kernel)
set_option maxRecDepth 100000 in
theorem vX6_allAreAlike : ∀ pc, am_chk mX6_allAreAlike pc (am_lk am_ce0 kX6_allAreAlike pc) = true := am_vld_ok (n := 83) (by decide +kernel)
set_option maxRecDepth 100000 in
theorem vX6_use : ∀ pc, am_chk mX6_use pc (am_lk am_ce0 kX6_use pc) = true := am_vld_ok (n := 143) (by decide +kernel)
set_option maxRecDepth 100000 in
theorem vX6_hear : ∀ pc, am_chk mX6_hear pc (am_lk am_ce0 kX6_hear pc) = true := am_vld_ok (n := 86) (by decide +kernel)
set_option maxRecDepth 100000 in
theorem vX6_soundAt : ∀ pc, am_chk mX6_soundAt pc (am_lk am_ce0 kX6_soundAt pc) = true := am_vld_ok (n := 47) (by decide +kernel)
set_option maxRecDepth 100000 in
theorem vX7_init : ∀ pc, am_chk mX7_init pc (am_lk am_ce0 kX7_init pc) = true := am_vld_ok (n := 35) (by decide +kernel)
set_option maxRecDepth 100000 in
theorem vX7_isTold : ∀ pc, am_chk mX7_isTold pc (am_lk am_ce0 kX7_isTold pc) = true := am_vld_ok (n := 91) (by decide +kernel)
set_option maxRecDepth 100000 in
theorem vX7_leadsOn : ∀ pc, am_chk mX7_leadsOn pc (am_lk am_ce0 kX7_leadsOn pc) = true := am_vld_ok (n := 23) (by decide +kernel)
set_option maxRecDepth 100000 in
theorem vX7_build : ∀ pc, am_chk mX7_build pc (am_lk am_ce0 kX7_build pc) = true := am_vld_ok (n := 92) (by decide +kernel)
set_option maxRecDepth 100000 in
theorem vX7_boardAt : ∀ pc, am_chk mX7_boardAt pc (am_lk am_ce0 kX7_boardAt pc) = true := am_vld_ok (n := 29) (by decide +kernel)
set_option maxRecDepth 100000 in
theorem vX7_leadsTo : ∀ pc, am_chk mX7_leadsTo pc (am_lk am_ce0 kX7_leadsTo pc) = true := am_vld_ok (n := 46) (by decide +kernel)
set_option maxRecDepth 100000 in
theorem vX7_carryOn : ∀ pc, am_chk mX7_carryOn pc (am_lk am_ce0 kX7_carryOn pc) = true := am_vld_ok (n := 91) (by decide +kernel)
set_option maxRecDepth 100000 in
theorem vX8_init : ∀ pc, am_chk mX8_init pc (am_lk am_ce0 kX8_init pc) = true := am_vld_ok (n := 39) (by decide +kernel)
set_option maxRecDepth 100000 in
theorem vX8_clear : ∀ pc, am_chk mX8_clear pc (am_lk am_ce0 kX8_clear pc) = true := am_vld_ok (n := 11) (by decide +kernel)
set_option maxRecDepth 100000 in
theorem vX8_is : ∀ pc, am_chk mX8_is pc (am_lk am_ce0 kX8_is pc) = true := am_vld_ok (n := 24) (by decide +kernel)
set_option maxRecDepth 100000 in
theorem vX8_tickOf : ∀ pc, am_chk mX8_tickOf pc (am_lk am_ce0 kX8_tickOf pc) = true := am_vld_ok (n := 19) (by decide +kernel)
set_option maxRecDepth 100000 in
theorem vX8_machineOf : ∀ pc, am_chk mX8_machineOf pc (am_lk am_ce0 kX8_machineOf pc) = true := am_vld_ok (n := 19) (by decide +kernel)
set_option maxRecDepth 100000 in
theorem vX8_numberOf : ∀ pc, am_chk mX8_numberOf pc (am_lk am_ce0 kX8_numberOf pc) = true := am_vld_ok (n := 19) (by decide +kernel)
set_option maxRecDepth 100000 in
theorem vX8_add : ∀ pc, am_chk mX8_add pc (am_lk am_ce0 kX8_add pc) = true := am_vld_ok (n := 63) (by decide +kernel)
set_option maxRecDepth 100000 in
theorem vX8_addAll : ∀ pc, am_chk mX8_addAll pc (am_lk am_ce0 kX8_addAll pc) = true := am_vld_ok (n := 61) (by decide +kernel)
set_option maxRecDepth 100000 in
theorem vX8_repeat : ∀ pc, am_chk mX8_repeat pc (am_lk am_ce0 kX8_repeat pc) = true := am_vld_ok (n := 65) (by decide +kernel)
set_option maxRecDepth 100000 in
theorem vX8_lastTick : ∀ pc, am_chk mX8_lastTick pc (am_lk am_ce0 kX8_lastTick pc) = true := am_vld_ok (n := 30) (by decide +kernel)
set_option maxRecDepth 100000 in
theorem vX8_becomes : ∀ pc, am_chk mX8_becomes pc (am_lk am_ce0 kX8_becomes pc) = true := am_vld_ok (n := 32) (by decide +kernel)
set_option maxRecDepth 100000 in
theorem vX8_sink : ∀ pc, am_chk mX8_sink pc (am_lk am_ce0 kX8_sink pc) = true := am_vld_ok (n := 52) (by decide +kernel)
set_option maxRecDepth 100000 in
theorem vX8_swap : ∀ pc, am_chk mX8_swap pc (am_lk am_ce0 kX8_swap pc) = true := am_vld_ok (n := 29) (by decide +kernel)
set_option maxRecDepth 100000 in
theorem vX9_init : ∀ pc, am_chk mX9_init pc (am_lk am_ce0 kX9_init pc) = true := am_vld_ok (n := 117) (by decide +kernel)
set_option maxRecDepth 100000 in
theorem vX9_understands : ∀ pc, am_chk mX9_understands pc (am_lk am_ce0 kX9_understands pc) = true := am_vld_ok (n := 231) (by decide +kernel)
set_option maxRecDepth 100000 in
theorem vX9_begin : ∀ pc, am_chk mX9_begin pc (am_lk am_ce0 kX9_begin pc) = true := am_vld_ok (n := 40) (by decide +kernel)
set_option maxRecDepth 100000 in
theorem vX9_fail : ∀ pc, am_chk mX9_fail pc (am_lk am_ce0 kX9_fail pc) = true := am_vld_ok (n := 18) (by decide +kernel)
set_option maxRecDepth 100000 in
theorem vX9_readUse : ∀ pc, am_chk mX9_readUse pc (am_lk am_ce0 kX9_readUse pc) = true := am_vld_ok (n := 118) (by decide +kernel)
set_option maxRecDepth 100000 in
theorem vX9_readTimes : ∀ pc, am_chk mX9_readTimes pc (am_lk am_ce0 kX9_readTimes pc) = true := am_vld_ok (n := 105) (by decide +kernel)
set_option maxRecDepth 100000 in
theorem vX9_readPlay : ∀ pc, am_chk mX9_readPlay pc (am_lk am_ce0 kX9_readPlay pc) = true := am_vld_ok (n := 95) (by decide +kernel)
set_option maxRecDepth 100000 in
theorem vX9_readStorm : ∀ pc, am_chk mX9_readStorm pc (am_lk am_ce0 kX9_readStorm pc) = true := am_vld_ok (n := 131) (by decide +kernel)
set_option maxRecDepth 100000 in
theorem vX9_close : ∀ pc, am_chk mX9_close pc (am_lk am_ce0 kX9_close pc) = true := am_vld_ok (n := 104) (by decide +kernel)
set_option maxRecDepth 100000 in
theorem vX9_stormAt : ∀ pc, am_chk mX9_stormAt pc (am_lk am_ce0 kX9_stormAt pc) = true := am_vld_ok (n := 21) (by decide +kernel)
set_option maxRecDepth 100000 in
theorem vX9_findStorm : ∀ pc, am_chk mX9_findStorm pc (am_lk am_ce0 kX9_findStorm pc) = true := am_vld_ok (n := 45) (by decide +kernel)
set_option maxRecDepth 100000 in
theorem vX9_isName : ∀ pc, am_chk mX9_isName pc (am_lk am_ce0 kX9_isName pc) = true := am_vld_ok (n := 96) (by decide +kernel)
set_option maxRecDepth 100000 in
theorem vX9_readWord : ∀ pc, am_chk mX9_readWord pc (am_lk am_ce0 kX9_readWord pc) = true := am_vld_ok (n := 29) (by decide +kernel)
set_option maxRecDepth 100000 in
theorem vX9_readSemicolon : ∀ pc, am_chk mX9_readSemicolon pc (am_lk am_ce0 kX9_readSemicolon pc) = true := am_vld_ok (n := 29) (by decide +kernel)
set_option maxRecDepth 100000 in
theorem vX9_readNumber : ∀ pc, am_chk mX9_readNumber pc (am_lk am_ce0 kX9_readNumber pc) = true := am_vld_ok (n := 63) (by decide +kernel)
set_option maxRecDepth 100000 in
theorem vX10_init : ∀ pc, am_chk mX10_init pc (am_lk am_ce0 kX10_init pc) = true := am_vld_ok (n := 57) (by decide +kernel)
set_option maxRecDepth 100000 in
theorem vX10_take : ∀ pc, am_chk mX10_take pc (am_lk am_ce0 kX10_take pc) = true := am_vld_ok (n := 44) (by decide +kernel)
set_option maxRecDepth 100000 in
theorem vX10_put : ∀ pc, am_chk mX10_put pc (am_lk am_ce0 kX10_put pc) = true := am_vld_ok (n := 57) (by decide +kernel)
set_option maxRecDepth 100000 in
theorem vX10_cut : ∀ pc, am_chk mX10_cut pc (am_lk am_ce0 kX10_cut pc) = true := am_vld_ok (n := 21) (by decide +kernel)
set_option maxRecDepth 100000 in
theorem vX10_clear : ∀ pc, am_chk mX10_clear pc (am_lk am_ce0 kX10_clear pc) = true := am_vld_ok (n := 6) (by decide +kernel)
set_option maxRecDepth 100000 in
theorem vX10_byteAt : ∀ pc, am_chk mX10_byteAt pc (am_lk am_ce0 kX10_byteAt pc) = true := am_vld_ok (n := 30) (by decide +kernel)
set_option maxRecDepth 100000 in
theorem vX10_readTicks : ∀ pc, am_chk mX10_readTicks pc (am_lk am_ce0 kX10_readTicks pc) = true := am_vld_ok (n := 98) (by decide +kernel)
set_option maxRecDepth 100000 in
theorem vX10_tickAt : ∀ pc, am_chk mX10_tickAt pc (am_lk am_ce0 kX10_tickAt pc) = true := am_vld_ok (n := 29) (by decide +kernel)
set_option maxRecDepth 100000 in
theorem vX10_rewind : ∀ pc, am_chk mX10_rewind pc (am_lk am_ce0 kX10_rewind pc) = true := am_vld_ok (n := 6) (by decide +kernel)
set_option maxRecDepth 100000 in
theorem vX10_nextToken : ∀ pc, am_chk mX10_nextToken pc (am_lk am_ce0 kX10_nextToken pc) = true := am_vld_ok (n := 122) (by decide +kernel)
set_option maxRecDepth 100000 in
theorem vX10_readLettersAndDigits : ∀ pc, am_chk mX10_readLettersAndDigits pc (am_lk am_ce0 kX10_readLettersAndDigits pc) = true := am_vld_ok (n := 167) (by decide +kernel)
set_option maxRecDepth 100000 in
theorem vX10_isBlank : ∀ pc, am_chk mX10_isBlank pc (am_lk am_ce0 kX10_isBlank pc) = true := am_vld_ok (n := 18) (by decide +kernel)
set_option maxRecDepth 100000 in
theorem vX10_isLetter : ∀ pc, am_chk mX10_isLetter pc (am_lk am_ce0 kX10_isLetter pc) = true := am_vld_ok (n := 18) (by decide +kernel)
set_option maxRecDepth 100000 in
theorem vX10_isDigit : ∀ pc, am_chk mX10_isDigit pc (am_lk am_ce0 kX10_isDigit pc) = true := am_vld_ok (n := 18) (by decide +kernel)
set_option maxRecDepth 100000 in
theorem vX10_isWord : ∀ pc, am_chk mX10_isWord pc (am_lk am_ce0 kX10_isWord pc) = true := am_vld_ok (n := 64) (by decide +kernel)
set_option maxRecDepth 100000 in
theorem vX10_isWordAt : ∀ pc, am_chk mX10_isWordAt pc (am_lk am_ce0 kX10_isWordAt pc) = true := am_vld_ok (n := 64) (by decide +kernel)
set_option maxRecDepth 100000 in
theorem vX11_init : ∀ pc, am_chk mX11_init pc (am_lk am_ce0 kX11_init pc) = true := am_vld_ok (n := 152) (by decide +kernel)
set_option maxRecDepth 100000 in
theorem vX11_feed : ∀ pc, am_chk mX11_feed pc (am_lk am_ce0 kX11_feed pc) = true := am_vld_ok (n := 15) (by decide +kernel)
set_option maxRecDepth 100000 in
theorem vX11_end : ∀ pc, am_chk mX11_end pc (am_lk am_ce0 kX11_end pc) = true := am_vld_ok (n := 9) (by decide +kernel)
set_option maxRecDepth 100000 in
theorem vX11_board : ∀ pc, am_chk mX11_board pc (am_lk am_ce0 kX11_board pc) = true := am_vld_ok (n := 123) (by decide +kernel)
set_option maxRecDepth 100000 in
theorem vX11_run : ∀ pc, am_chk mX11_run pc (am_lk am_ce0 kX11_run pc) = true := am_vld_ok (n := 62) (by decide +kernel)
set_option maxRecDepth 100000 in
theorem vX11_fall : ∀ pc, am_chk mX11_fall pc (am_lk am_ce0 kX11_fall pc) = true := am_vld_ok (n := 43) (by decide +kernel)
set_option maxRecDepth 100000 in
theorem vX11_knock : ∀ pc, am_chk mX11_knock pc (am_lk am_ce0 kX11_knock pc) = true := am_vld_ok (n := 46) (by decide +kernel)
set_option maxRecDepth 100000 in
theorem vX11_machine : ∀ pc, am_chk mX11_machine pc (am_lk am_ce0 kX11_machine pc) = true := am_vld_ok (n := 64) (by decide +kernel)
set_option maxRecDepth 100000 in
theorem vX11_man : ∀ pc, am_chk mX11_man pc (am_lk am_ce0 kX11_man pc) = true := am_vld_ok (n := 23) (by decide +kernel)
set_option maxRecDepth 100000 in
theorem vX11_score : ∀ pc, am_chk mX11_score pc (am_lk am_ce0 kX11_score pc) = true := am_vld_ok (n := 69) (by decide +kernel)
set_option maxRecDepth 100000 in
theorem vX11_fault : ∀ pc, am_chk mX11_fault pc (am_lk am_ce0 kX11_fault pc) = true := am_vld_ok (n := 8) (by decide +kernel)
set_option maxRecDepth 100000 in
theorem vX11_event : ∀ pc, am_chk mX11_event pc (am_lk am_ce0 kX11_event pc) = true := am_vld_ok (n := 124) (by decide +kernel)
set_option maxRecDepth 100000 in
theorem vX11_night : ∀ pc, am_chk mX11_night pc (am_lk am_ce0 kX11_night pc) = true := am_vld_ok (n := 27) (by decide +kernel)
set_option maxRecDepth 100000 in
theorem vX11_sound : ∀ pc, am_chk mX11_sound pc (am_lk am_ce0 kX11_sound pc) = true := am_vld_ok (n := 46) (by decide +kernel)
set_option maxRecDepth 100000 in
theorem vX11_told : ∀ pc, am_chk mX11_told pc (am_lk am_ce0 kX11_told pc) = true := am_vld_ok (n := 78) (by decide +kernel)
set_option maxRecDepth 100000 in
theorem vX11_made : ∀ pc, am_chk mX11_made pc (am_lk am_ce0 kX11_made pc) = true := am_vld_ok (n := 16) (by decide +kernel)
