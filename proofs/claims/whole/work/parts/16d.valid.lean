/-! The code tables fit (printed by wip/whole/gen15.py). -/
set_option maxRecDepth 100000 in
theorem vX12_event : ∀ pc, am_chk mX12_event pc (am_lk am_ce0 kX12_event pc) = true := am_vld_ok (n := 97) (by decide +kernel)
set_option maxRecDepth 100000 in
theorem vX12_hear : ∀ pc, am_chk mX12_hear pc (am_lk am_ce0 kX12_hear pc) = true := am_vld_ok (n := 71) (by decide +kernel)
set_option maxRecDepth 100000 in
theorem vX12_rollAll : ∀ pc, am_chk mX12_rollAll pc (am_lk am_ce0 kX12_rollAll pc) = true := am_vld_ok (n := 445) (by decide +kernel)
set_option maxRecDepth 100000 in
theorem vX12_use : ∀ pc, am_chk mX12_use pc (am_lk am_ce0 kX12_use pc) = true := am_vld_ok (n := 145) (by decide +kernel)
set_option maxRecDepth 100000 in
theorem vX12_night : ∀ pc, am_chk mX12_night pc (am_lk am_ce0 kX12_night pc) = true := am_vld_ok (n := 111) (by decide +kernel)
set_option maxRecDepth 100000 in
theorem vX12_sound : ∀ pc, am_chk mX12_sound pc (am_lk am_ce0 kX12_sound pc) = true := am_vld_ok (n := 65) (by decide +kernel)
set_option maxRecDepth 100000 in
theorem vX12_told : ∀ pc, am_chk mX12_told pc (am_lk am_ce0 kX12_told pc) = true := am_vld_ok (n := 67) (by decide +kernel)
set_option maxRecDepth 100000 in
theorem vX12_choose : ∀ pc, am_chk mX12_choose pc (am_lk am_ce0 kX12_choose pc) = true := am_vld_ok (n := 12) (by decide +kernel)
set_option maxRecDepth 100000 in
theorem vX12_prepare : ∀ pc, am_chk mX12_prepare pc (am_lk am_ce0 kX12_prepare pc) = true := am_vld_ok (n := 134) (by decide +kernel)
set_option maxRecDepth 100000 in
theorem vX12_bitsOf : ∀ pc, am_chk mX12_bitsOf pc (am_lk am_ce0 kX12_bitsOf pc) = true := am_vld_ok (n := 26) (by decide +kernel)
set_option maxRecDepth 100000 in
theorem vX12_far : ∀ pc, am_chk mX12_far pc (am_lk am_ce0 kX12_far pc) = true := am_vld_ok (n := 15) (by decide +kernel)
set_option maxRecDepth 100000 in
theorem vX12_standOf : ∀ pc, am_chk mX12_standOf pc (am_lk am_ce0 kX12_standOf pc) = true := am_vld_ok (n := 12) (by decide +kernel)
set_option maxRecDepth 100000 in
theorem vX12_mayFollow : ∀ pc, am_chk mX12_mayFollow pc (am_lk am_ce0 kX12_mayFollow pc) = true := am_vld_ok (n := 41) (by decide +kernel)
set_option maxRecDepth 100000 in
theorem vX12_mayBegin : ∀ pc, am_chk mX12_mayBegin pc (am_lk am_ce0 kX12_mayBegin pc) = true := am_vld_ok (n := 29) (by decide +kernel)
set_option maxRecDepth 100000 in
theorem vX12_cellOf : ∀ pc, am_chk mX12_cellOf pc (am_lk am_ce0 kX12_cellOf pc) = true := am_vld_ok (n := 89) (by decide +kernel)
set_option maxRecDepth 100000 in
theorem vX12_workOut : ∀ pc, am_chk mX12_workOut pc (am_lk am_ce0 kX12_workOut pc) = true := am_vld_ok (n := 186) (by decide +kernel)
set_option maxRecDepth 100000 in
theorem vX12_goesOn : ∀ pc, am_chk mX12_goesOn pc (am_lk am_ce0 kX12_goesOn pc) = true := am_vld_ok (n := 86) (by decide +kernel)
set_option maxRecDepth 100000 in
theorem vX12_fillTable : ∀ pc, am_chk mX12_fillTable pc (am_lk am_ce0 kX12_fillTable pc) = true := am_vld_ok (n := 143) (by decide +kernel)
set_option maxRecDepth 100000 in
theorem vX12_cellByMen : ∀ pc, am_chk mX12_cellByMen pc (am_lk am_ce0 kX12_cellByMen pc) = true := am_vld_ok (n := 112) (by decide +kernel)
set_option maxRecDepth 100000 in
theorem vX12_made : ∀ pc, am_chk mX12_made pc (am_lk am_ce0 kX12_made pc) = true := am_vld_ok (n := 212) (by decide +kernel)
set_option maxRecDepth 100000 in
theorem vX12_who : ∀ pc, am_chk mX12_who pc (am_lk am_ce0 kX12_who pc) = true := am_vld_ok (n := 35) (by decide +kernel)
set_option maxRecDepth 100000 in
theorem vX12_balls : ∀ pc, am_chk mX12_balls pc (am_lk am_ce0 kX12_balls pc) = true := am_vld_ok (n := 143) (by decide +kernel)
set_option maxRecDepth 100000 in
theorem vX12_isLetGo : ∀ pc, am_chk mX12_isLetGo pc (am_lk am_ce0 kX12_isLetGo pc) = true := am_vld_ok (n := 35) (by decide +kernel)
set_option maxRecDepth 100000 in
theorem vX12_fillings : ∀ pc, am_chk mX12_fillings pc (am_lk am_ce0 kX12_fillings pc) = true := am_vld_ok (n := 387) (by decide +kernel)
set_option maxRecDepth 100000 in
theorem vX12_takeTicks : ∀ pc, am_chk mX12_takeTicks pc (am_lk am_ce0 kX12_takeTicks pc) = true := am_vld_ok (n := 101) (by decide +kernel)
set_option maxRecDepth 100000 in
theorem vX12_err : ∀ pc, am_chk mX12_err pc (am_lk am_ce0 kX12_err pc) = true := am_vld_ok (n := 67) (by decide +kernel)
set_option maxRecDepth 100000 in
theorem vX12_lay : ∀ pc, am_chk mX12_lay pc (am_lk am_ce0 kX12_lay pc) = true := am_vld_ok (n := 235) (by decide +kernel)
set_option maxRecDepth 100000 in
theorem vX12_laid : ∀ pc, am_chk mX12_laid pc (am_lk am_ce0 kX12_laid pc) = true := am_vld_ok (n := 28) (by decide +kernel)
set_option maxRecDepth 100000 in
theorem vX12_explains : ∀ pc, am_chk mX12_explains pc (am_lk am_ce0 kX12_explains pc) = true := am_vld_ok (n := 59) (by decide +kernel)
set_option maxRecDepth 100000 in
theorem vX12_worn : ∀ pc, am_chk mX12_worn pc (am_lk am_ce0 kX12_worn pc) = true := am_vld_ok (n := 179) (by decide +kernel)
set_option maxRecDepth 100000 in
theorem vX12_count : ∀ pc, am_chk mX12_count pc (am_lk am_ce0 kX12_count pc) = true := am_vld_ok (n := 101) (by decide +kernel)
set_option maxRecDepth 100000 in
theorem vL_knock : ∀ pc, am_chk mL_knock pc (am_lk am_ce0 kL_knock pc) = true := am_vld_ok (n := 19) (by decide +kernel)
set_option maxRecDepth 100000 in
theorem vL_event : ∀ pc, am_chk mL_event pc (am_lk am_ce0 kL_event pc) = true := am_vld_ok (n := 19) (by decide +kernel)
set_option maxRecDepth 100000 in
theorem vL_sound : ∀ pc, am_chk mL_sound pc (am_lk am_ce0 kL_sound pc) = true := am_vld_ok (n := 19) (by decide +kernel)
