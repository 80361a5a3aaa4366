/-! The code tables fit (printed by wip/whole/gen15.py). -/
set_option maxRecDepth 100000 in
theorem vX0_init : ∀ pc, am_chk mX0_init pc (am_lk am_ce0 kX0_init pc) = true := am_vld_ok (n := 35) (by decide +kernel)
set_option maxRecDepth 100000 in
theorem vX0_letGoOn : ∀ pc, am_chk mX0_letGoOn pc (am_lk am_ce0 kX0_letGoOn pc) = true := am_vld_ok (n := 13) (by decide +kernel)
set_option maxRecDepth 100000 in
theorem vX0_put : ∀ pc, am_chk mX0_put pc (am_lk am_ce0 kX0_put pc) = true := am_vld_ok (n := 26) (by decide +kernel)
set_option maxRecDepth 100000 in
theorem vX0_rollsOver : ∀ pc, am_chk mX0_rollsOver pc (am_lk am_ce0 kX0_rollsOver pc) = true := am_vld_ok (n := 83) (by decide +kernel)
set_option maxRecDepth 100000 in
theorem vX0_fallsOff : ∀ pc, am_chk mX0_fallsOff pc (am_lk am_ce0 kX0_fallsOff pc) = true := am_vld_ok (n := 56) (by decide +kernel)
set_option maxRecDepth 100000 in
theorem vX0_isAtRest : ∀ pc, am_chk mX0_isAtRest pc (am_lk am_ce0 kX0_isAtRest pc) = true := am_vld_ok (n := 13) (by decide +kernel)
set_option maxRecDepth 100000 in
theorem vX0_overtook : ∀ pc, am_chk mX0_overtook pc (am_lk am_ce0 kX0_overtook pc) = true := am_vld_ok (n := 28) (by decide +kernel)
set_option maxRecDepth 100000 in
theorem vX0_stayedWith : ∀ pc, am_chk mX0_stayedWith pc (am_lk am_ce0 kX0_stayedWith pc) = true := am_vld_ok (n := 60) (by decide +kernel)
set_option maxRecDepth 100000 in
theorem vX1_init : ∀ pc, am_chk mX1_init pc (am_lk am_ce0 kX1_init pc) = true := am_vld_ok (n := 35) (by decide +kernel)
set_option maxRecDepth 100000 in
theorem vX2_init : ∀ pc, am_chk mX2_init pc (am_lk am_ce0 kX2_init pc) = true := am_vld_ok (n := 105) (by decide +kernel)
set_option maxRecDepth 100000 in
theorem vX2_laidAt : ∀ pc, am_chk mX2_laidAt pc (am_lk am_ce0 kX2_laidAt pc) = true := am_vld_ok (n := 28) (by decide +kernel)
set_option maxRecDepth 100000 in
theorem vX2_layLikest : ∀ pc, am_chk mX2_layLikest pc (am_lk am_ce0 kX2_layLikest pc) = true := am_vld_ok (n := 49) (by decide +kernel)
set_option maxRecDepth 100000 in
theorem vX2_explain : ∀ pc, am_chk mX2_explain pc (am_lk am_ce0 kX2_explain pc) = true := am_vld_ok (n := 30) (by decide +kernel)
set_option maxRecDepth 100000 in
theorem vX2_begin : ∀ pc, am_chk mX2_begin pc (am_lk am_ce0 kX2_begin pc) = true := am_vld_ok (n := 60) (by decide +kernel)
set_option maxRecDepth 100000 in
theorem vX2_store : ∀ pc, am_chk mX2_store pc (am_lk am_ce0 kX2_store pc) = true := am_vld_ok (n := 57) (by decide +kernel)
set_option maxRecDepth 100000 in
theorem vX2_load : ∀ pc, am_chk mX2_load pc (am_lk am_ce0 kX2_load pc) = true := am_vld_ok (n := 36) (by decide +kernel)
set_option maxRecDepth 100000 in
theorem vX2_rollToEnd : ∀ pc, am_chk mX2_rollToEnd pc (am_lk am_ce0 kX2_rollToEnd pc) = true := am_vld_ok (n := 63) (by decide +kernel)
set_option maxRecDepth 100000 in
theorem vX2_glideToEnd : ∀ pc, am_chk mX2_glideToEnd pc (am_lk am_ce0 kX2_glideToEnd pc) = true := am_vld_ok (n := 83) (by decide +kernel)
set_option maxRecDepth 100000 in
theorem vX2_layOn : ∀ pc, am_chk mX2_layOn pc (am_lk am_ce0 kX2_layOn pc) = true := am_vld_ok (n := 139) (by decide +kernel)
set_option maxRecDepth 100000 in
theorem vX2_passes : ∀ pc, am_chk mX2_passes pc (am_lk am_ce0 kX2_passes pc) = true := am_vld_ok (n := 209) (by decide +kernel)
set_option maxRecDepth 100000 in
theorem vX2_leastPossible : ∀ pc, am_chk mX2_leastPossible pc (am_lk am_ce0 kX2_leastPossible pc) = true := am_vld_ok (n := 48) (by decide +kernel)
set_option maxRecDepth 100000 in
theorem vX2_judge : ∀ pc, am_chk mX2_judge pc (am_lk am_ce0 kX2_judge pc) = true := am_vld_ok (n := 93) (by decide +kernel)
set_option maxRecDepth 100000 in
theorem vX2_wearOn : ∀ pc, am_chk mX2_wearOn pc (am_lk am_ce0 kX2_wearOn pc) = true := am_vld_ok (n := 199) (by decide +kernel)
set_option maxRecDepth 100000 in
theorem vX2_leave : ∀ pc, am_chk mX2_leave pc (am_lk am_ce0 kX2_leave pc) = true := am_vld_ok (n := 167) (by decide +kernel)
set_option maxRecDepth 100000 in
theorem vX3_init : ∀ pc, am_chk mX3_init pc (am_lk am_ce0 kX3_init pc) = true := am_vld_ok (n := 130) (by decide +kernel)
set_option maxRecDepth 100000 in
theorem vX3_forget : ∀ pc, am_chk mX3_forget pc (am_lk am_ce0 kX3_forget pc) = true := am_vld_ok (n := 9) (by decide +kernel)
set_option maxRecDepth 100000 in
theorem vX3_add : ∀ pc, am_chk mX3_add pc (am_lk am_ce0 kX3_add pc) = true := am_vld_ok (n := 44) (by decide +kernel)
set_option maxRecDepth 100000 in
theorem vX3_doerOf : ∀ pc, am_chk mX3_doerOf pc (am_lk am_ce0 kX3_doerOf pc) = true := am_vld_ok (n := 21) (by decide +kernel)
set_option maxRecDepth 100000 in
theorem vX3_makeMost : ∀ pc, am_chk mX3_makeMost pc (am_lk am_ce0 kX3_makeMost pc) = true := am_vld_ok (n := 143) (by decide +kernel)
set_option maxRecDepth 100000 in
theorem vX3_costOf : ∀ pc, am_chk mX3_costOf pc (am_lk am_ce0 kX3_costOf pc) = true := am_vld_ok (n := 148) (by decide +kernel)
set_option maxRecDepth 100000 in
theorem vX3_assignAll : ∀ pc, am_chk mX3_assignAll pc (am_lk am_ce0 kX3_assignAll pc) = true := am_vld_ok (n := 54) (by decide +kernel)
set_option maxRecDepth 100000 in
theorem vX3_assignRow : ∀ pc, am_chk mX3_assignRow pc (am_lk am_ce0 kX3_assignRow pc) = true := am_vld_ok (n := 105) (by decide +kernel)
set_option maxRecDepth 100000 in
theorem vX3_relax : ∀ pc, am_chk mX3_relax pc (am_lk am_ce0 kX3_relax pc) = true := am_vld_ok (n := 76) (by decide +kernel)
set_option maxRecDepth 100000 in
theorem vX3_nearest : ∀ pc, am_chk mX3_nearest pc (am_lk am_ce0 kX3_nearest pc) = true := am_vld_ok (n := 51) (by decide +kernel)
set_option maxRecDepth 100000 in
theorem vX3_lower : ∀ pc, am_chk mX3_lower pc (am_lk am_ce0 kX3_lower pc) = true := am_vld_ok (n := 90) (by decide +kernel)
set_option maxRecDepth 100000 in
theorem vX3_flip : ∀ pc, am_chk mX3_flip pc (am_lk am_ce0 kX3_flip pc) = true := am_vld_ok (n := 95) (by decide +kernel)
set_option maxRecDepth 100000 in
theorem vX3_chooseFirst : ∀ pc, am_chk mX3_chooseFirst pc (am_lk am_ce0 kX3_chooseFirst pc) = true := am_vld_ok (n := 123) (by decide +kernel)
set_option maxRecDepth 100000 in
theorem vX3_isFree : ∀ pc, am_chk mX3_isFree pc (am_lk am_ce0 kX3_isFree pc) = true := am_vld_ok (n := 31) (by decide +kernel)
set_option maxRecDepth 100000 in
theorem vX3_canDoNext : ∀ pc, am_chk mX3_canDoNext pc (am_lk am_ce0 kX3_canDoNext pc) = true := am_vld_ok (n := 134) (by decide +kernel)
set_option maxRecDepth 100000 in
theorem vX3_reaches : ∀ pc, am_chk mX3_reaches pc (am_lk am_ce0 kX3_reaches pc) = true := am_vld_ok (n := 189) (by decide +kernel)
set_option maxRecDepth 100000 in
theorem vX4_init : ∀ pc, am_chk mX4_init pc (am_lk am_ce0 kX4_init pc) = true := am_vld_ok (n := 60) (by decide +kernel)
set_option maxRecDepth 100000 in
theorem vX4_follow : ∀ pc, am_chk mX4_follow pc (am_lk am_ce0 kX4_follow pc) = true := am_vld_ok (n := 167) (by decide +kernel)
set_option maxRecDepth 100000 in
theorem vX4_hear : ∀ pc, am_chk mX4_hear pc (am_lk am_ce0 kX4_hear pc) = true := am_vld_ok (n := 61) (by decide +kernel)
set_option maxRecDepth 100000 in
theorem vX4_answer : ∀ pc, am_chk mX4_answer pc (am_lk am_ce0 kX4_answer pc) = true := am_vld_ok (n := 48) (by decide +kernel)
set_option maxRecDepth 100000 in
theorem vX4_knockAt : ∀ pc, am_chk mX4_knockAt pc (am_lk am_ce0 kX4_knockAt pc) = true := am_vld_ok (n := 46) (by decide +kernel)
set_option maxRecDepth 100000 in
theorem vX5_init : ∀ pc, am_chk mX5_init pc (am_lk am_ce0 kX5_init pc) = true := am_vld_ok (n := 42) (by decide +kernel)
set_option maxRecDepth 100000 in
theorem vX5_add : ∀ pc, am_chk mX5_add pc (am_lk am_ce0 kX5_add pc) = true := am_vld_ok (n := 76) (by decide +kernel)
set_option maxRecDepth 100000 in
theorem vX5_is : ∀ pc, am_chk mX5_is pc (am_lk am_ce0 kX5_is pc) = true := am_vld_ok (n := 24) (by decide +kernel)
set_option maxRecDepth 100000 in
theorem vX5_kindOf : ∀ pc, am_chk mX5_kindOf pc (am_lk am_ce0 kX5_kindOf pc) = true := am_vld_ok (n := 19) (by decide +kernel)
set_option maxRecDepth 100000 in
theorem vX5_placeOf : ∀ pc, am_chk mX5_placeOf pc (am_lk am_ce0 kX5_placeOf pc) = true := am_vld_ok (n := 19) (by decide +kernel)
set_option maxRecDepth 100000 in
theorem vX5_firstOf : ∀ pc, am_chk mX5_firstOf pc (am_lk am_ce0 kX5_firstOf pc) = true := am_vld_ok (n := 19) (by decide +kernel)
set_option maxRecDepth 100000 in
theorem vX5_secondOf : ∀ pc, am_chk mX5_secondOf pc (am_lk am_ce0 kX5_secondOf pc) = true := am_vld_ok (n := 19) (by decide +kernel)
set_option maxRecDepth 100000 in
theorem vX5_leastNumber : ∀ pc, am_chk mX5_leastNumber pc (am_lk am_ce0 kX5_leastNumber pc) = true := am_vld_ok (n := 21) (by decide +kernel)
set_option maxRecDepth 100000 in
theorem vX5_mostNumber : ∀ pc, am_chk mX5_mostNumber pc (am_lk am_ce0 kX5_mostNumber pc) = true := am_vld_ok (n := 49) (by decide +kernel)
set_option maxRecDepth 100000 in
theorem vX5_takes : ∀ pc, am_chk mX5_takes pc (am_lk am_ce0 kX5_takes pc) = true := am_vld_ok (n := 40) (by decide +kernel)
set_option maxRecDepth 100000 in
theorem vX5_strength : ∀ pc, am_chk mX5_strength pc (am_lk am_ce0 kX5_strength pc) = true := am_vld_ok (n := 21) (by decide +kernel)
set_option maxRecDepth 100000 in
theorem vX5_ballsNeeded : ∀ pc, am_chk mX5_ballsNeeded pc (am_lk am_ce0 kX5_ballsNeeded pc) = true := am_vld_ok (n := 94) (by decide +kernel)
set_option maxRecDepth 100000 in
theorem vX5_letsGo : ∀ pc, am_chk mX5_letsGo pc (am_lk am_ce0 kX5_letsGo pc) = true := am_vld_ok (n := 32) (by decide +kernel)
set_option maxRecDepth 100000 in
theorem vX5_fillingsNeeded : ∀ pc, am_chk mX5_fillingsNeeded pc (am_lk am_ce0 kX5_fillingsNeeded pc) = true := am_vld_ok (n := 158) (by decide +kernel)
set_option maxRecDepth 100000 in
theorem vX6_init : ∀ pc, am_chk mX6_init pc (am_lk am_ce0 kX6_init pc) = true := am_vld_ok (n := 115) (by decide +kernel)
set_option maxRecDepth 100000 in
theorem vX6_goThrough : ∀ pc, am_chk mX6_goThrough pc (am_lk am_ce0 kX6_goThrough pc) = true := am_vld_ok (n := 129) (by decide +kernel)
set_option maxRecDepth 100000 in
theorem vX6_rollAll : ∀ pc, am_chk mX6_rollAll pc (am_lk am_ce0 kX6_rollAll pc) = true := am_vld_ok (n := 76) (by decide +kernel)
