/-! The code tables fit (printed by wip/whole/gen15.py). -/
set_option maxRecDepth 100000 in
theorem vX11_who : ∀ pc, am_chk mX11_who pc (am_lk am_ce0 kX11_who pc) = true := am_vld_ok (n := 30) (by decide +kernel)
set_option maxRecDepth 100000 in
theorem vX11_balls : ∀ pc, am_chk mX11_balls pc (am_lk am_ce0 kX11_balls pc) = true := am_vld_ok (n := 68) (by decide +kernel)
set_option maxRecDepth 100000 in
theorem vX11_fillings : ∀ pc, am_chk mX11_fillings pc (am_lk am_ce0 kX11_fillings pc) = true := am_vld_ok (n := 29) (by decide +kernel)
set_option maxRecDepth 100000 in
theorem vX11_lay : ∀ pc, am_chk mX11_lay pc (am_lk am_ce0 kX11_lay pc) = true := am_vld_ok (n := 58) (by decide +kernel)
set_option maxRecDepth 100000 in
theorem vX11_laid : ∀ pc, am_chk mX11_laid pc (am_lk am_ce0 kX11_laid pc) = true := am_vld_ok (n := 9) (by decide +kernel)
set_option maxRecDepth 100000 in
theorem vX11_worn : ∀ pc, am_chk mX11_worn pc (am_lk am_ce0 kX11_worn pc) = true := am_vld_ok (n := 44) (by decide +kernel)
set_option maxRecDepth 100000 in
theorem vX11_count : ∀ pc, am_chk mX11_count pc (am_lk am_ce0 kX11_count pc) = true := am_vld_ok (n := 84) (by decide +kernel)
set_option maxRecDepth 100000 in
theorem vX11_within : ∀ pc, am_chk mX11_within pc (am_lk am_ce0 kX11_within pc) = true := am_vld_ok (n := 16) (by decide +kernel)
set_option maxRecDepth 100000 in
theorem vX11_pathOf : ∀ pc, am_chk mX11_pathOf pc (am_lk am_ce0 kX11_pathOf pc) = true := am_vld_ok (n := 35) (by decide +kernel)
set_option maxRecDepth 100000 in
theorem vX11_runsThatAre : ∀ pc, am_chk mX11_runsThatAre pc (am_lk am_ce0 kX11_runsThatAre pc) = true := am_vld_ok (n := 28) (by decide +kernel)
set_option maxRecDepth 100000 in
theorem vX11_canStand : ∀ pc, am_chk mX11_canStand pc (am_lk am_ce0 kX11_canStand pc) = true := am_vld_ok (n := 88) (by decide +kernel)
set_option maxRecDepth 100000 in
theorem vX12_init : ∀ pc, am_chk mX12_init pc (am_lk am_ce0 kX12_init pc) = true := am_vld_ok (n := 431) (by decide +kernel)
set_option maxRecDepth 100000 in
theorem vX12_thrown : ∀ pc, am_chk mX12_thrown pc (am_lk am_ce0 kX12_thrown pc) = true := am_vld_ok (n := 5) (by decide +kernel)
set_option maxRecDepth 100000 in
theorem vX12_refuse : ∀ pc, am_chk mX12_refuse pc (am_lk am_ce0 kX12_refuse pc) = true := am_vld_ok (n := 7) (by decide +kernel)
set_option maxRecDepth 100000 in
theorem vX12_come : ∀ pc, am_chk mX12_come pc (am_lk am_ce0 kX12_come pc) = true := am_vld_ok (n := 40) (by decide +kernel)
set_option maxRecDepth 100000 in
theorem vX12_feed : ∀ pc, am_chk mX12_feed pc (am_lk am_ce0 kX12_feed pc) = true := am_vld_ok (n := 52) (by decide +kernel)
set_option maxRecDepth 100000 in
theorem vX12_end : ∀ pc, am_chk mX12_end pc (am_lk am_ce0 kX12_end pc) = true := am_vld_ok (n := 26) (by decide +kernel)
set_option maxRecDepth 100000 in
theorem vX12_isIn : ∀ pc, am_chk mX12_isIn pc (am_lk am_ce0 kX12_isIn pc) = true := am_vld_ok (n := 16) (by decide +kernel)
set_option maxRecDepth 100000 in
theorem vX12_board : ∀ pc, am_chk mX12_board pc (am_lk am_ce0 kX12_board pc) = true := am_vld_ok (n := 138) (by decide +kernel)
set_option maxRecDepth 100000 in
theorem vX12_isSlot : ∀ pc, am_chk mX12_isSlot pc (am_lk am_ce0 kX12_isSlot pc) = true := am_vld_ok (n := 15) (by decide +kernel)
set_option maxRecDepth 100000 in
theorem vX12_isRun : ∀ pc, am_chk mX12_isRun pc (am_lk am_ce0 kX12_isRun pc) = true := am_vld_ok (n := 22) (by decide +kernel)
set_option maxRecDepth 100000 in
theorem vX12_run : ∀ pc, am_chk mX12_run pc (am_lk am_ce0 kX12_run pc) = true := am_vld_ok (n := 220) (by decide +kernel)
set_option maxRecDepth 100000 in
theorem vX12_lengthAt : ∀ pc, am_chk mX12_lengthAt pc (am_lk am_ce0 kX12_lengthAt pc) = true := am_vld_ok (n := 20) (by decide +kernel)
set_option maxRecDepth 100000 in
theorem vX12_nextOf : ∀ pc, am_chk mX12_nextOf pc (am_lk am_ce0 kX12_nextOf pc) = true := am_vld_ok (n := 35) (by decide +kernel)
set_option maxRecDepth 100000 in
theorem vX12_step : ∀ pc, am_chk mX12_step pc (am_lk am_ce0 kX12_step pc) = true := am_vld_ok (n := 300) (by decide +kernel)
set_option maxRecDepth 100000 in
theorem vX12_follow : ∀ pc, am_chk mX12_follow pc (am_lk am_ce0 kX12_follow pc) = true := am_vld_ok (n := 156) (by decide +kernel)
set_option maxRecDepth 100000 in
theorem vX12_fall : ∀ pc, am_chk mX12_fall pc (am_lk am_ce0 kX12_fall pc) = true := am_vld_ok (n := 139) (by decide +kernel)
set_option maxRecDepth 100000 in
theorem vX12_knock : ∀ pc, am_chk mX12_knock pc (am_lk am_ce0 kX12_knock pc) = true := am_vld_ok (n := 65) (by decide +kernel)
set_option maxRecDepth 100000 in
theorem vX12_machine : ∀ pc, am_chk mX12_machine pc (am_lk am_ce0 kX12_machine pc) = true := am_vld_ok (n := 166) (by decide +kernel)
set_option maxRecDepth 100000 in
theorem vX12_man : ∀ pc, am_chk mX12_man pc (am_lk am_ce0 kX12_man pc) = true := am_vld_ok (n := 52) (by decide +kernel)
set_option maxRecDepth 100000 in
theorem vX12_byteAt : ∀ pc, am_chk mX12_byteAt pc (am_lk am_ce0 kX12_byteAt pc) = true := am_vld_ok (n := 19) (by decide +kernel)
set_option maxRecDepth 100000 in
theorem vX12_isDigit : ∀ pc, am_chk mX12_isDigit pc (am_lk am_ce0 kX12_isDigit pc) = true := am_vld_ok (n := 18) (by decide +kernel)
set_option maxRecDepth 100000 in
theorem vX12_isLetter : ∀ pc, am_chk mX12_isLetter pc (am_lk am_ce0 kX12_isLetter pc) = true := am_vld_ok (n := 18) (by decide +kernel)
set_option maxRecDepth 100000 in
theorem vX12_go : ∀ pc, am_chk mX12_go pc (am_lk am_ce0 kX12_go pc) = true := am_vld_ok (n := 356) (by decide +kernel)
set_option maxRecDepth 100000 in
theorem vX12_spelt : ∀ pc, am_chk mX12_spelt pc (am_lk am_ce0 kX12_spelt pc) = true := am_vld_ok (n := 82) (by decide +kernel)
set_option maxRecDepth 100000 in
theorem vX12_isKey : ∀ pc, am_chk mX12_isKey pc (am_lk am_ce0 kX12_isKey pc) = true := am_vld_ok (n := 23) (by decide +kernel)
set_option maxRecDepth 100000 in
theorem vX12_isAt : ∀ pc, am_chk mX12_isAt pc (am_lk am_ce0 kX12_isAt pc) = true := am_vld_ok (n := 15) (by decide +kernel)
set_option maxRecDepth 100000 in
theorem vX12_isUse : ∀ pc, am_chk mX12_isUse pc (am_lk am_ce0 kX12_isUse pc) = true := am_vld_ok (n := 16) (by decide +kernel)
set_option maxRecDepth 100000 in
theorem vX12_isWith : ∀ pc, am_chk mX12_isWith pc (am_lk am_ce0 kX12_isWith pc) = true := am_vld_ok (n := 17) (by decide +kernel)
set_option maxRecDepth 100000 in
theorem vX12_isEnd : ∀ pc, am_chk mX12_isEnd pc (am_lk am_ce0 kX12_isEnd pc) = true := am_vld_ok (n := 16) (by decide +kernel)
set_option maxRecDepth 100000 in
theorem vX12_isStorm : ∀ pc, am_chk mX12_isStorm pc (am_lk am_ce0 kX12_isStorm pc) = true := am_vld_ok (n := 18) (by decide +kernel)
set_option maxRecDepth 100000 in
theorem vX12_isTimes : ∀ pc, am_chk mX12_isTimes pc (am_lk am_ce0 kX12_isTimes pc) = true := am_vld_ok (n := 18) (by decide +kernel)
set_option maxRecDepth 100000 in
theorem vX12_isEvery : ∀ pc, am_chk mX12_isEvery pc (am_lk am_ce0 kX12_isEvery pc) = true := am_vld_ok (n := 18) (by decide +kernel)
set_option maxRecDepth 100000 in
theorem vX12_isPlay : ∀ pc, am_chk mX12_isPlay pc (am_lk am_ce0 kX12_isPlay pc) = true := am_vld_ok (n := 17) (by decide +kernel)
set_option maxRecDepth 100000 in
theorem vX12_isName : ∀ pc, am_chk mX12_isName pc (am_lk am_ce0 kX12_isName pc) = true := am_vld_ok (n := 70) (by decide +kernel)
set_option maxRecDepth 100000 in
theorem vX12_bad : ∀ pc, am_chk mX12_bad pc (am_lk am_ce0 kX12_bad pc) = true := am_vld_ok (n := 27) (by decide +kernel)
set_option maxRecDepth 100000 in
theorem vX12_readNumber : ∀ pc, am_chk mX12_readNumber pc (am_lk am_ce0 kX12_readNumber pc) = true := am_vld_ok (n := 40) (by decide +kernel)
set_option maxRecDepth 100000 in
theorem vX12_readEnd : ∀ pc, am_chk mX12_readEnd pc (am_lk am_ce0 kX12_readEnd pc) = true := am_vld_ok (n := 22) (by decide +kernel)
set_option maxRecDepth 100000 in
theorem vX12_clear : ∀ pc, am_chk mX12_clear pc (am_lk am_ce0 kX12_clear pc) = true := am_vld_ok (n := 15) (by decide +kernel)
set_option maxRecDepth 100000 in
theorem vX12_put : ∀ pc, am_chk mX12_put pc (am_lk am_ce0 kX12_put pc) = true := am_vld_ok (n := 75) (by decide +kernel)
set_option maxRecDepth 100000 in
theorem vX12_pour : ∀ pc, am_chk mX12_pour pc (am_lk am_ce0 kX12_pour pc) = true := am_vld_ok (n := 80) (by decide +kernel)
set_option maxRecDepth 100000 in
theorem vX12_readUse : ∀ pc, am_chk mX12_readUse pc (am_lk am_ce0 kX12_readUse pc) = true := am_vld_ok (n := 154) (by decide +kernel)
set_option maxRecDepth 100000 in
theorem vX12_stormOf : ∀ pc, am_chk mX12_stormOf pc (am_lk am_ce0 kX12_stormOf pc) = true := am_vld_ok (n := 31) (by decide +kernel)
set_option maxRecDepth 100000 in
theorem vX12_readPlay : ∀ pc, am_chk mX12_readPlay pc (am_lk am_ce0 kX12_readPlay pc) = true := am_vld_ok (n := 121) (by decide +kernel)
set_option maxRecDepth 100000 in
theorem vX12_readTimes : ∀ pc, am_chk mX12_readTimes pc (am_lk am_ce0 kX12_readTimes pc) = true := am_vld_ok (n := 122) (by decide +kernel)
set_option maxRecDepth 100000 in
theorem vX12_endTimes : ∀ pc, am_chk mX12_endTimes pc (am_lk am_ce0 kX12_endTimes pc) = true := am_vld_ok (n := 73) (by decide +kernel)
set_option maxRecDepth 100000 in
theorem vX12_readStorm : ∀ pc, am_chk mX12_readStorm pc (am_lk am_ce0 kX12_readStorm pc) = true := am_vld_ok (n := 90) (by decide +kernel)
set_option maxRecDepth 100000 in
theorem vX12_readPiece : ∀ pc, am_chk mX12_readPiece pc (am_lk am_ce0 kX12_readPiece pc) = true := am_vld_ok (n := 160) (by decide +kernel)
set_option maxRecDepth 100000 in
theorem vX12_score : ∀ pc, am_chk mX12_score pc (am_lk am_ce0 kX12_score pc) = true := am_vld_ok (n := 261) (by decide +kernel)
set_option maxRecDepth 100000 in
theorem vX12_fault : ∀ pc, am_chk mX12_fault pc (am_lk am_ce0 kX12_fault pc) = true := am_vld_ok (n := 10) (by decide +kernel)
set_option maxRecDepth 100000 in
theorem vX12_takes : ∀ pc, am_chk mX12_takes pc (am_lk am_ce0 kX12_takes pc) = true := am_vld_ok (n := 44) (by decide +kernel)
set_option maxRecDepth 100000 in
theorem vX12_worth : ∀ pc, am_chk mX12_worth pc (am_lk am_ce0 kX12_worth pc) = true := am_vld_ok (n := 32) (by decide +kernel)
